section
-- ===== PART A: goes FIRST, ahead of the names: the tables' words, and 'selects' of the private methods out of them =====
/-- a private method of a class that the tables say can be made, by its rows of tables_1 -/
def lw_okq (q : MethodName × Nat) : Prop := (q.1.cls ≠ "java/lang/invoke/MethodHandle" ∧ q.1.cls ≠ "java/lang/invoke/VarHandle") ∧ Cond.instantiable q.1.cls q.2 ∈ tables_1 ∧ Cond.privateMethod q.1 ∈ tables_1 ∧ Cond.instanceMethod q.1 ∈ tables_1
theorem lw_p0 : lw_okq (⟨"TurnCounts$Group", "add", "(I)V"⟩, 5) := ⟨⟨by decide +kernel, by decide +kernel⟩, List.mem_of_getElem? (i := 27) (by decide +kernel), List.mem_of_getElem? (i := 38) (by decide +kernel), List.mem_of_getElem? (i := 39) (by decide +kernel)⟩
theorem lw_p1 : lw_okq (⟨"TurnCounts", "forgetGroup", "()V"⟩, 6) := ⟨⟨by decide +kernel, by decide +kernel⟩, List.mem_of_getElem? (i := 13) (by decide +kernel), List.mem_of_getElem? (i := 203) (by decide +kernel), List.mem_of_getElem? (i := 204) (by decide +kernel)⟩
theorem lw_p2 : lw_okq (⟨"TurnCounts$Group", "addCopy", "(II)V"⟩, 5) := ⟨⟨by decide +kernel, by decide +kernel⟩, List.mem_of_getElem? (i := 27) (by decide +kernel), List.mem_of_getElem? (i := 236) (by decide +kernel), List.mem_of_getElem? (i := 237) (by decide +kernel)⟩
theorem lw_p3 : lw_okq (⟨"TurnCounts$TypeTable", "add", "(I)V"⟩, 4) := ⟨⟨by decide +kernel, by decide +kernel⟩, List.mem_of_getElem? (i := 116) (by decide +kernel), List.mem_of_getElem? (i := 293) (by decide +kernel), List.mem_of_getElem? (i := 294) (by decide +kernel)⟩
theorem lw_p4 : lw_okq (⟨"TurnCounts$TypeTable", "insert", "(II)V"⟩, 4) := ⟨⟨by decide +kernel, by decide +kernel⟩, List.mem_of_getElem? (i := 116) (by decide +kernel), List.mem_of_getElem? (i := 297) (by decide +kernel), List.mem_of_getElem? (i := 298) (by decide +kernel)⟩
theorem lw_p5 : lw_okq (⟨"TurnCounts$PatternTable", "setPlaces", "(LTurnCounts$Setting;)V"⟩, 9) := ⟨⟨by decide +kernel, by decide +kernel⟩, List.mem_of_getElem? (i := 139) (by decide +kernel), List.mem_of_getElem? (i := 331) (by decide +kernel), List.mem_of_getElem? (i := 332) (by decide +kernel)⟩
theorem lw_p6 : lw_okq (⟨"TurnCounts$PatternTable", "gather", "(ILTurnCounts$Group;)V"⟩, 9) := ⟨⟨by decide +kernel, by decide +kernel⟩, List.mem_of_getElem? (i := 139) (by decide +kernel), List.mem_of_getElem? (i := 339) (by decide +kernel), List.mem_of_getElem? (i := 340) (by decide +kernel)⟩
theorem lw_p7 : lw_okq (⟨"TurnCounts$PatternTable", "put", "(I)V"⟩, 9) := ⟨⟨by decide +kernel, by decide +kernel⟩, List.mem_of_getElem? (i := 139) (by decide +kernel), List.mem_of_getElem? (i := 343) (by decide +kernel), List.mem_of_getElem? (i := 344) (by decide +kernel)⟩
theorem lw_p8 : lw_okq (⟨"TurnCounts$PatternTable", "turned", "(II)I"⟩, 9) := ⟨⟨by decide +kernel, by decide +kernel⟩, List.mem_of_getElem? (i := 139) (by decide +kernel), List.mem_of_getElem? (i := 347) (by decide +kernel), List.mem_of_getElem? (i := 348) (by decide +kernel)⟩
theorem lw_p9 : lw_okq (⟨"TurnCounts", "isNumber", "(I)Z"⟩, 6) := ⟨⟨by decide +kernel, by decide +kernel⟩, List.mem_of_getElem? (i := 13) (by decide +kernel), List.mem_of_getElem? (i := 391) (by decide +kernel), List.mem_of_getElem? (i := 392) (by decide +kernel)⟩
theorem lw_p10 : lw_okq (⟨"TurnCountsModel", "beginGroup", "()V"⟩, 25) := ⟨⟨by decide +kernel, by decide +kernel⟩, List.mem_of_getElem? (i := 460) (by decide +kernel), List.mem_of_getElem? (i := 467) (by decide +kernel), List.mem_of_getElem? (i := 468) (by decide +kernel)⟩
theorem lw_p11 : lw_okq (⟨"TurnCountsModel", "closeGroup", "()V"⟩, 25) := ⟨⟨by decide +kernel, by decide +kernel⟩, List.mem_of_getElem? (i := 460) (by decide +kernel), List.mem_of_getElem? (i := 471) (by decide +kernel), List.mem_of_getElem? (i := 472) (by decide +kernel)⟩
theorem lw_p12 : lw_okq (⟨"TurnCountsModel", "layStill", "()V"⟩, 25) := ⟨⟨by decide +kernel, by decide +kernel⟩, List.mem_of_getElem? (i := 460) (by decide +kernel), List.mem_of_getElem? (i := 475) (by decide +kernel), List.mem_of_getElem? (i := 476) (by decide +kernel)⟩
theorem lw_p13 : lw_okq (⟨"TurnCountsModel", "many", "()I"⟩, 25) := ⟨⟨by decide +kernel, by decide +kernel⟩, List.mem_of_getElem? (i := 460) (by decide +kernel), List.mem_of_getElem? (i := 479) (by decide +kernel), List.mem_of_getElem? (i := 480) (by decide +kernel)⟩
theorem lw_p14 : lw_okq (⟨"TurnCountsModel", "rank", "()I"⟩, 25) := ⟨⟨by decide +kernel, by decide +kernel⟩, List.mem_of_getElem? (i := 460) (by decide +kernel), List.mem_of_getElem? (i := 483) (by decide +kernel), List.mem_of_getElem? (i := 484) (by decide +kernel)⟩
theorem lw_p15 : lw_okq (⟨"TurnCountsModel", "meet", "(I)V"⟩, 25) := ⟨⟨by decide +kernel, by decide +kernel⟩, List.mem_of_getElem? (i := 460) (by decide +kernel), List.mem_of_getElem? (i := 487) (by decide +kernel), List.mem_of_getElem? (i := 488) (by decide +kernel)⟩
def lw_privs_1 : List (MethodName × Nat) := [(⟨"TurnCounts$Group", "add", "(I)V"⟩, 5), (⟨"TurnCounts", "forgetGroup", "()V"⟩, 6), (⟨"TurnCounts$Group", "addCopy", "(II)V"⟩, 5), (⟨"TurnCounts$TypeTable", "add", "(I)V"⟩, 4), (⟨"TurnCounts$TypeTable", "insert", "(II)V"⟩, 4), (⟨"TurnCounts$PatternTable", "setPlaces", "(LTurnCounts$Setting;)V"⟩, 9), (⟨"TurnCounts$PatternTable", "gather", "(ILTurnCounts$Group;)V"⟩, 9), (⟨"TurnCounts$PatternTable", "put", "(I)V"⟩, 9), (⟨"TurnCounts$PatternTable", "turned", "(II)I"⟩, 9), (⟨"TurnCounts", "isNumber", "(I)Z"⟩, 6), (⟨"TurnCountsModel", "beginGroup", "()V"⟩, 25), (⟨"TurnCountsModel", "closeGroup", "()V"⟩, 25), (⟨"TurnCountsModel", "layStill", "()V"⟩, 25), (⟨"TurnCountsModel", "many", "()I"⟩, 25), (⟨"TurnCountsModel", "rank", "()I"⟩, 25), (⟨"TurnCountsModel", "meet", "(I)V"⟩, 25)]
theorem lw_r1 : ∀ q ∈ lw_privs_1, lw_okq q := List.forall_mem_cons.mpr ⟨lw_p0, List.forall_mem_cons.mpr ⟨lw_p1, List.forall_mem_cons.mpr ⟨lw_p2, List.forall_mem_cons.mpr ⟨lw_p3, List.forall_mem_cons.mpr ⟨lw_p4, List.forall_mem_cons.mpr ⟨lw_p5, List.forall_mem_cons.mpr ⟨lw_p6, List.forall_mem_cons.mpr ⟨lw_p7, List.forall_mem_cons.mpr ⟨lw_p8, List.forall_mem_cons.mpr ⟨lw_p9, List.forall_mem_cons.mpr ⟨lw_p10, List.forall_mem_cons.mpr ⟨lw_p11, List.forall_mem_cons.mpr ⟨lw_p12, List.forall_mem_cons.mpr ⟨lw_p13, List.forall_mem_cons.mpr ⟨lw_p14, List.forall_mem_cons.mpr ⟨lw_p15, fun _ h => absurd h List.not_mem_nil⟩⟩⟩⟩⟩⟩⟩⟩⟩⟩⟩⟩⟩⟩⟩⟩
theorem lw_p16 : lw_okq (⟨"TurnCountsModel", "layRank", "(I)V"⟩, 25) := ⟨⟨by decide +kernel, by decide +kernel⟩, List.mem_of_getElem? (i := 460) (by decide +kernel), List.mem_of_getElem? (i := 491) (by decide +kernel), List.mem_of_getElem? (i := 492) (by decide +kernel)⟩
theorem lw_p17 : lw_okq (⟨"TurnCountsModel", "layTurns", "()V"⟩, 25) := ⟨⟨by decide +kernel, by decide +kernel⟩, List.mem_of_getElem? (i := 460) (by decide +kernel), List.mem_of_getElem? (i := 495) (by decide +kernel), List.mem_of_getElem? (i := 496) (by decide +kernel)⟩
theorem lw_p18 : lw_okq (⟨"TurnCountsModel", "addKind", "(IIII)V"⟩, 25) := ⟨⟨by decide +kernel, by decide +kernel⟩, List.mem_of_getElem? (i := 460) (by decide +kernel), List.mem_of_getElem? (i := 590) (by decide +kernel), List.mem_of_getElem? (i := 591) (by decide +kernel)⟩
theorem lw_p19 : lw_okq (⟨"TurnCountsModel", "addRound", "(III)V"⟩, 25) := ⟨⟨by decide +kernel, by decide +kernel⟩, List.mem_of_getElem? (i := 460) (by decide +kernel), List.mem_of_getElem? (i := 594) (by decide +kernel), List.mem_of_getElem? (i := 595) (by decide +kernel)⟩
theorem lw_p20 : lw_okq (⟨"TurnCountsModel", "bring", "(IIII)V"⟩, 25) := ⟨⟨by decide +kernel, by decide +kernel⟩, List.mem_of_getElem? (i := 460) (by decide +kernel), List.mem_of_getElem? (i := 598) (by decide +kernel), List.mem_of_getElem? (i := 599) (by decide +kernel)⟩
theorem lw_p21 : lw_okq (⟨"TurnCountsModel", "addMaker", "()V"⟩, 25) := ⟨⟨by decide +kernel, by decide +kernel⟩, List.mem_of_getElem? (i := 460) (by decide +kernel), List.mem_of_getElem? (i := 602) (by decide +kernel), List.mem_of_getElem? (i := 603) (by decide +kernel)⟩
theorem lw_p22 : lw_okq (⟨"TurnCountsModel", "addFlip", "(III)V"⟩, 25) := ⟨⟨by decide +kernel, by decide +kernel⟩, List.mem_of_getElem? (i := 460) (by decide +kernel), List.mem_of_getElem? (i := 606) (by decide +kernel), List.mem_of_getElem? (i := 607) (by decide +kernel)⟩
theorem lw_p23 : lw_okq (⟨"TurnCountsModel", "addNext", "(IIII)V"⟩, 25) := ⟨⟨by decide +kernel, by decide +kernel⟩, List.mem_of_getElem? (i := 460) (by decide +kernel), List.mem_of_getElem? (i := 610) (by decide +kernel), List.mem_of_getElem? (i := 611) (by decide +kernel)⟩
theorem lw_p24 : lw_okq (⟨"TurnCountsModel", "layPad", "()Z"⟩, 25) := ⟨⟨by decide +kernel, by decide +kernel⟩, List.mem_of_getElem? (i := 460) (by decide +kernel), List.mem_of_getElem? (i := 630) (by decide +kernel), List.mem_of_getElem? (i := 631) (by decide +kernel)⟩
theorem lw_p25 : lw_okq (⟨"TurnCountsModel", "typeOfRow", "()I"⟩, 25) := ⟨⟨by decide +kernel, by decide +kernel⟩, List.mem_of_getElem? (i := 460) (by decide +kernel), List.mem_of_getElem? (i := 638) (by decide +kernel), List.mem_of_getElem? (i := 639) (by decide +kernel)⟩
theorem lw_p26 : lw_okq (⟨"TurnCountsModel", "layTypes", "()V"⟩, 25) := ⟨⟨by decide +kernel, by decide +kernel⟩, List.mem_of_getElem? (i := 460) (by decide +kernel), List.mem_of_getElem? (i := 652) (by decide +kernel), List.mem_of_getElem? (i := 653) (by decide +kernel)⟩
theorem lw_p27 : lw_okq (⟨"TurnCountsModel", "layTurn", "(I)V"⟩, 25) := ⟨⟨by decide +kernel, by decide +kernel⟩, List.mem_of_getElem? (i := 460) (by decide +kernel), List.mem_of_getElem? (i := 656) (by decide +kernel), List.mem_of_getElem? (i := 657) (by decide +kernel)⟩
theorem lw_p28 : lw_okq (⟨"TurnCountsModel", "addType", "(I)V"⟩, 25) := ⟨⟨by decide +kernel, by decide +kernel⟩, List.mem_of_getElem? (i := 460) (by decide +kernel), List.mem_of_getElem? (i := 660) (by decide +kernel), List.mem_of_getElem? (i := 661) (by decide +kernel)⟩
theorem lw_p29 : lw_okq (⟨"TurnCountsModel", "isPoint", "(I)Z"⟩, 25) := ⟨⟨by decide +kernel, by decide +kernel⟩, List.mem_of_getElem? (i := 460) (by decide +kernel), List.mem_of_getElem? (i := 668) (by decide +kernel), List.mem_of_getElem? (i := 669) (by decide +kernel)⟩
theorem lw_p30 : lw_okq (⟨"TurnCountsModel", "layPatterns", "()V"⟩, 25) := ⟨⟨by decide +kernel, by decide +kernel⟩, List.mem_of_getElem? (i := 460) (by decide +kernel), List.mem_of_getElem? (i := 684) (by decide +kernel), List.mem_of_getElem? (i := 685) (by decide +kernel)⟩
theorem lw_p31 : lw_okq (⟨"TurnCountsModel", "layWorths", "()V"⟩, 25) := ⟨⟨by decide +kernel, by decide +kernel⟩, List.mem_of_getElem? (i := 460) (by decide +kernel), List.mem_of_getElem? (i := 688) (by decide +kernel), List.mem_of_getElem? (i := 689) (by decide +kernel)⟩
def lw_privs_2 : List (MethodName × Nat) := [(⟨"TurnCountsModel", "layRank", "(I)V"⟩, 25), (⟨"TurnCountsModel", "layTurns", "()V"⟩, 25), (⟨"TurnCountsModel", "addKind", "(IIII)V"⟩, 25), (⟨"TurnCountsModel", "addRound", "(III)V"⟩, 25), (⟨"TurnCountsModel", "bring", "(IIII)V"⟩, 25), (⟨"TurnCountsModel", "addMaker", "()V"⟩, 25), (⟨"TurnCountsModel", "addFlip", "(III)V"⟩, 25), (⟨"TurnCountsModel", "addNext", "(IIII)V"⟩, 25), (⟨"TurnCountsModel", "layPad", "()Z"⟩, 25), (⟨"TurnCountsModel", "typeOfRow", "()I"⟩, 25), (⟨"TurnCountsModel", "layTypes", "()V"⟩, 25), (⟨"TurnCountsModel", "layTurn", "(I)V"⟩, 25), (⟨"TurnCountsModel", "addType", "(I)V"⟩, 25), (⟨"TurnCountsModel", "isPoint", "(I)Z"⟩, 25), (⟨"TurnCountsModel", "layPatterns", "()V"⟩, 25), (⟨"TurnCountsModel", "layWorths", "()V"⟩, 25)]
theorem lw_r2 : ∀ q ∈ lw_privs_2, lw_okq q := List.forall_mem_cons.mpr ⟨lw_p16, List.forall_mem_cons.mpr ⟨lw_p17, List.forall_mem_cons.mpr ⟨lw_p18, List.forall_mem_cons.mpr ⟨lw_p19, List.forall_mem_cons.mpr ⟨lw_p20, List.forall_mem_cons.mpr ⟨lw_p21, List.forall_mem_cons.mpr ⟨lw_p22, List.forall_mem_cons.mpr ⟨lw_p23, List.forall_mem_cons.mpr ⟨lw_p24, List.forall_mem_cons.mpr ⟨lw_p25, List.forall_mem_cons.mpr ⟨lw_p26, List.forall_mem_cons.mpr ⟨lw_p27, List.forall_mem_cons.mpr ⟨lw_p28, List.forall_mem_cons.mpr ⟨lw_p29, List.forall_mem_cons.mpr ⟨lw_p30, List.forall_mem_cons.mpr ⟨lw_p31, fun _ h => absurd h List.not_mem_nil⟩⟩⟩⟩⟩⟩⟩⟩⟩⟩⟩⟩⟩⟩⟩⟩
theorem lw_p32 : lw_okq (⟨"TurnCountsModel", "strike", "(I)V"⟩, 25) := ⟨⟨by decide +kernel, by decide +kernel⟩, List.mem_of_getElem? (i := 460) (by decide +kernel), List.mem_of_getElem? (i := 692) (by decide +kernel), List.mem_of_getElem? (i := 693) (by decide +kernel)⟩
theorem lw_p33 : lw_okq (⟨"TurnCountsModel", "layColours", "(I)V"⟩, 25) := ⟨⟨by decide +kernel, by decide +kernel⟩, List.mem_of_getElem? (i := 460) (by decide +kernel), List.mem_of_getElem? (i := 696) (by decide +kernel), List.mem_of_getElem? (i := 697) (by decide +kernel)⟩
theorem lw_p34 : lw_okq (⟨"TurnCountsModel", "turned", "(I)I"⟩, 25) := ⟨⟨by decide +kernel, by decide +kernel⟩, List.mem_of_getElem? (i := 460) (by decide +kernel), List.mem_of_getElem? (i := 700) (by decide +kernel), List.mem_of_getElem? (i := 701) (by decide +kernel)⟩
theorem lw_p35 : lw_okq (⟨"TurnCountsModel", "weightOf", "(I)I"⟩, 25) := ⟨⟨by decide +kernel, by decide +kernel⟩, List.mem_of_getElem? (i := 460) (by decide +kernel), List.mem_of_getElem? (i := 704) (by decide +kernel), List.mem_of_getElem? (i := 705) (by decide +kernel)⟩
theorem lw_p36 : lw_okq (⟨"TurnCountsModel", "twin", "(I)I"⟩, 25) := ⟨⟨by decide +kernel, by decide +kernel⟩, List.mem_of_getElem? (i := 460) (by decide +kernel), List.mem_of_getElem? (i := 712) (by decide +kernel), List.mem_of_getElem? (i := 713) (by decide +kernel)⟩
theorem lw_p37 : lw_okq (⟨"TurnCountsModel", "mirrored", "(I)I"⟩, 25) := ⟨⟨by decide +kernel, by decide +kernel⟩, List.mem_of_getElem? (i := 460) (by decide +kernel), List.mem_of_getElem? (i := 716) (by decide +kernel), List.mem_of_getElem? (i := 717) (by decide +kernel)⟩
theorem lw_p38 : lw_okq (⟨"TurnCountsModel", "coloursOf", "(I)I"⟩, 25) := ⟨⟨by decide +kernel, by decide +kernel⟩, List.mem_of_getElem? (i := 460) (by decide +kernel), List.mem_of_getElem? (i := 720) (by decide +kernel), List.mem_of_getElem? (i := 721) (by decide +kernel)⟩
theorem lw_p39 : lw_okq (⟨"TurnCountsModel", "isNumber", "(I)Z"⟩, 25) := ⟨⟨by decide +kernel, by decide +kernel⟩, List.mem_of_getElem? (i := 460) (by decide +kernel), List.mem_of_getElem? (i := 728) (by decide +kernel), List.mem_of_getElem? (i := 729) (by decide +kernel)⟩
theorem lw_p40 : lw_okq (⟨"TurnCountsModel", "isOf", "(II)Z"⟩, 25) := ⟨⟨by decide +kernel, by decide +kernel⟩, List.mem_of_getElem? (i := 460) (by decide +kernel), List.mem_of_getElem? (i := 736) (by decide +kernel), List.mem_of_getElem? (i := 737) (by decide +kernel)⟩
def lw_privs_3 : List (MethodName × Nat) := [(⟨"TurnCountsModel", "strike", "(I)V"⟩, 25), (⟨"TurnCountsModel", "layColours", "(I)V"⟩, 25), (⟨"TurnCountsModel", "turned", "(I)I"⟩, 25), (⟨"TurnCountsModel", "weightOf", "(I)I"⟩, 25), (⟨"TurnCountsModel", "twin", "(I)I"⟩, 25), (⟨"TurnCountsModel", "mirrored", "(I)I"⟩, 25), (⟨"TurnCountsModel", "coloursOf", "(I)I"⟩, 25), (⟨"TurnCountsModel", "isNumber", "(I)Z"⟩, 25), (⟨"TurnCountsModel", "isOf", "(II)Z"⟩, 25)]
theorem lw_r3 : ∀ q ∈ lw_privs_3, lw_okq q := List.forall_mem_cons.mpr ⟨lw_p32, List.forall_mem_cons.mpr ⟨lw_p33, List.forall_mem_cons.mpr ⟨lw_p34, List.forall_mem_cons.mpr ⟨lw_p35, List.forall_mem_cons.mpr ⟨lw_p36, List.forall_mem_cons.mpr ⟨lw_p37, List.forall_mem_cons.mpr ⟨lw_p38, List.forall_mem_cons.mpr ⟨lw_p39, List.forall_mem_cons.mpr ⟨lw_p40, fun _ h => absurd h List.not_mem_nil⟩⟩⟩⟩⟩⟩⟩⟩⟩
def lw_privs : List (MethodName × Nat) := lw_privs_1 ++ (lw_privs_2 ++ (lw_privs_3))
def lw_tbl : List Cond := k2_sels lw_privs ++ tables_1
theorem lw_privs_ok : ∀ q ∈ lw_privs, lw_okq q := by
  show ∀ q ∈ lw_privs_1 ++ (lw_privs_2 ++ (lw_privs_3)), lw_okq q
  exact List.forall_mem_append.mpr ⟨lw_r1, List.forall_mem_append.mpr ⟨lw_r2, lw_r3⟩⟩
def rr_G : String := "TurnCounts$Group"
def rr_D : String := "TurnCounts$Pad"
def rr_P : String := "TurnCounts$PatternTable"
def rr_S : String := "TurnCounts$Setting"
def rr_U : String := "TurnCounts$Turns"
def rr_Y : String := "TurnCounts$TypeTable"
def rr_T : String := "TurnCounts"
def rr_M : String := "TurnCountsModel"
def rr_L : String := "TurnCountsLaw"
def rr_J : String := "java/lang/Integer"
def rr_A : String := "java/lang/Math"
def rr_O : String := "java/lang/Object"
def rr_Z : String := "java/lang/System"
def ft_G : u_T := fun k => match k with
  | 0 => ("TurnCounts$Group", "turns", "[I", true)
  | 1 => ("TurnCounts$Group", "size", "I", false)
  | 2 => ("TurnCounts$Group", "makers", "[I", true)
  | 3 => ("TurnCounts$Group", "makerCount", "I", false)
  | _ => ("TurnCounts$Group", "members", "[I", true)
def fy_G : Nat → FieldType := fun k => match k with
  | 0 => .array .int
  | 1 => .int
  | 2 => .array .int
  | 3 => .int
  | _ => .array .int
theorem fn_G : ∀ a, a < 5 → ∀ b, b < 5 → a ≠ b → (ft_G a).2.1 ≠ (ft_G b).2.1 := by decide +kernel
theorem fk_G : ∀ k, k < 5 → parseFieldDescriptor (ft_G k).2.2.1 = some (fy_G k) := by decide +kernel
def ft_D : u_T := fun k => match k with
  | 0 => ("TurnCounts$Pad", "signs", "[I", true)
  | _ => ("TurnCounts$Pad", "length", "I", false)
def fy_D : Nat → FieldType := fun k => match k with
  | 0 => .array .int
  | _ => .int
theorem fn_D : ∀ a, a < 2 → ∀ b, b < 2 → a ≠ b → (ft_D a).2.1 ≠ (ft_D b).2.1 := by decide +kernel
theorem fk_D : ∀ k, k < 2 → parseFieldDescriptor (ft_D k).2.2.1 = some (fy_D k) := by decide +kernel
def ft_P : u_T := fun k => match k with
  | 0 => ("TurnCounts$PatternTable", "patternOf", "[I", true)
  | 1 => ("TurnCounts$PatternTable", "colourings", "[I", true)
  | 2 => ("TurnCounts$PatternTable", "starts", "[I", true)
  | 3 => ("TurnCounts$PatternTable", "places", "[I", true)
  | 4 => ("TurnCounts$PatternTable", "many", "I", false)
  | 5 => ("TurnCounts$PatternTable", "sortCount", "I", false)
  | 6 => ("TurnCounts$PatternTable", "filled", "I", false)
  | 7 => ("TurnCounts$PatternTable", "amount", "I", false)
  | _ => ("TurnCounts$PatternTable", "upToDate", "Z", false)
def fy_P : Nat → FieldType := fun k => match k with
  | 0 => .array .int
  | 1 => .array .int
  | 2 => .array .int
  | 3 => .array .int
  | 4 => .int
  | 5 => .int
  | 6 => .int
  | 7 => .int
  | _ => .boolean
theorem fn_P : ∀ a, a < 9 → ∀ b, b < 9 → a ≠ b → (ft_P a).2.1 ≠ (ft_P b).2.1 := by decide +kernel
theorem fk_P : ∀ k, k < 9 → parseFieldDescriptor (ft_P k).2.2.1 = some (fy_P k) := by decide +kernel
def ft_S : u_T := fun k => match k with
  | 0 => ("TurnCounts$Setting", "many", "I", false)
  | 1 => ("TurnCounts$Setting", "sortCount", "I", false)
  | 2 => ("TurnCounts$Setting", "weights", "[I", true)
  | _ => ("TurnCounts$Setting", "group", "LTurnCounts$Group;", true)
def fy_S : Nat → FieldType := fun k => match k with
  | 0 => .int
  | 1 => .int
  | 2 => .array .int
  | _ => .object "TurnCounts$Group"
theorem fn_S : ∀ a, a < 4 → ∀ b, b < 4 → a ≠ b → (ft_S a).2.1 ≠ (ft_S b).2.1 := by decide +kernel
theorem fk_S : ∀ k, k < 4 → parseFieldDescriptor (ft_S k).2.2.1 = some (fy_S k) := by decide +kernel
def ft_Y : u_T := fun k => match k with
  | 0 => ("TurnCounts$TypeTable", "figures", "[I", true)
  | 1 => ("TurnCounts$TypeTable", "turns", "[I", true)
  | 2 => ("TurnCounts$TypeTable", "amount", "I", false)
  | _ => ("TurnCounts$TypeTable", "upToDate", "Z", false)
def fy_Y : Nat → FieldType := fun k => match k with
  | 0 => .array .int
  | 1 => .array .int
  | 2 => .int
  | _ => .boolean
theorem fn_Y : ∀ a, a < 4 → ∀ b, b < 4 → a ≠ b → (ft_Y a).2.1 ≠ (ft_Y b).2.1 := by decide +kernel
theorem fk_Y : ∀ k, k < 4 → parseFieldDescriptor (ft_Y k).2.2.1 = some (fy_Y k) := by decide +kernel
def ft_T : u_T := fun k => match k with
  | 0 => ("TurnCounts", "now", "LTurnCounts$Setting;", true)
  | 1 => ("TurnCounts", "kept", "[LTurnCounts$Setting;", true)
  | 2 => ("TurnCounts", "keptSet", "I", false)
  | 3 => ("TurnCounts", "pad", "LTurnCounts$Pad;", true)
  | 4 => ("TurnCounts", "types", "LTurnCounts$TypeTable;", true)
  | _ => ("TurnCounts", "table", "LTurnCounts$PatternTable;", true)
def fy_T : Nat → FieldType := fun k => match k with
  | 0 => .object "TurnCounts$Setting"
  | 1 => .array (.object "TurnCounts$Setting")
  | 2 => .int
  | 3 => .object "TurnCounts$Pad"
  | 4 => .object "TurnCounts$TypeTable"
  | _ => .object "TurnCounts$PatternTable"
theorem fn_T : ∀ a, a < 6 → ∀ b, b < 6 → a ≠ b → (ft_T a).2.1 ≠ (ft_T b).2.1 := by decide +kernel
theorem fk_T : ∀ k, k < 6 → parseFieldDescriptor (ft_T k).2.2.1 = some (fy_T k) := by decide +kernel
def ft_M : u_T := fun k => match k with
  | 0 => ("TurnCountsModel", "state", "[I", true)
  | 1 => ("TurnCountsModel", "images", "[I", true)
  | 2 => ("TurnCountsModel", "isKept", "[Z", true)
  | 3 => ("TurnCountsModel", "pad", "[I", true)
  | 4 => ("TurnCountsModel", "said", "I", false)
  | 5 => ("TurnCountsModel", "row", "[I", true)
  | 6 => ("TurnCountsModel", "isUsed", "[Z", true)
  | 7 => ("TurnCountsModel", "maker", "[I", true)
  | 8 => ("TurnCountsModel", "makers", "I", false)
  | 9 => ("TurnCountsModel", "wave", "[I", true)
  | 10 => ("TurnCountsModel", "waved", "I", false)
  | 11 => ("TurnCountsModel", "turnOf", "[I", true)
  | 12 => ("TurnCountsModel", "turns", "I", false)
  | 13 => ("TurnCountsModel", "had", "[I", true)
  | 14 => ("TurnCountsModel", "longs", "[I", true)
  | 15 => ("TurnCountsModel", "types", "[I", true)
  | 16 => ("TurnCountsModel", "typeMany", "[I", true)
  | 17 => ("TurnCountsModel", "typesMany", "I", false)
  | 18 => ("TurnCountsModel", "colour", "[I", true)
  | 19 => ("TurnCountsModel", "patternOf", "[I", true)
  | 20 => ("TurnCountsModel", "leastOf", "[I", true)
  | 21 => ("TurnCountsModel", "sizeOf", "[I", true)
  | 22 => ("TurnCountsModel", "patternMany", "I", false)
  | 23 => ("TurnCountsModel", "colourings", "I", false)
  | _ => ("TurnCountsModel", "placeWorth", "[I", true)
def fy_M : Nat → FieldType := fun k => match k with
  | 0 => .array .int
  | 1 => .array .int
  | 2 => .array .boolean
  | 3 => .array .int
  | 4 => .int
  | 5 => .array .int
  | 6 => .array .boolean
  | 7 => .array .int
  | 8 => .int
  | 9 => .array .int
  | 10 => .int
  | 11 => .array .int
  | 12 => .int
  | 13 => .array .int
  | 14 => .array .int
  | 15 => .array .int
  | 16 => .array .int
  | 17 => .int
  | 18 => .array .int
  | 19 => .array .int
  | 20 => .array .int
  | 21 => .array .int
  | 22 => .int
  | 23 => .int
  | _ => .array .int
theorem fn_M : ∀ a, a < 25 → ∀ b, b < 25 → a ≠ b → (ft_M a).2.1 ≠ (ft_M b).2.1 := by decide +kernel
theorem fk_M : ∀ k, k < 25 → parseFieldDescriptor (ft_M k).2.2.1 = some (fy_M k) := by decide +kernel
def yy_T_init : MethodName := ⟨"TurnCounts", "<init>", "()V"⟩
abbrev bc_T_init : ByteArray := prog_1_method_1_code
def yy_O_init : MethodName := ⟨"java/lang/Object", "<init>", "()V"⟩
abbrev bc_O_init : ByteArray := object_method_1_code
def yy_S_init : MethodName := ⟨"TurnCounts$Setting", "<init>", "()V"⟩
abbrev bc_S_init : ByteArray := prog_5_method_1_code
def yy_G_init : MethodName := ⟨"TurnCounts$Group", "<init>", "()V"⟩
abbrev bc_G_init : ByteArray := prog_2_method_1_code
def yy_G_makeStill : MethodName := ⟨"TurnCounts$Group", "makeStill", "()V"⟩
abbrev bc_G_makeStill : ByteArray := prog_2_method_2_code
def yy_G_add : MethodName := ⟨"TurnCounts$Group", "add", "(I)V"⟩
abbrev bc_G_add : ByteArray := prog_2_method_5_code
def yy_U_rank : MethodName := ⟨"TurnCounts$Turns", "rank", "(I)I"⟩
abbrev bc_U_rank : ByteArray := prog_6_method_5_code
def yy_U_goal : MethodName := ⟨"TurnCounts$Turns", "goal", "(II)I"⟩
abbrev bc_U_goal : ByteArray := prog_6_method_2_code
def yy_J_bitCount : MethodName := ⟨"java/lang/Integer", "bitCount", "(I)I"⟩
abbrev bc_J_bitCount : ByteArray := prog_10_method_49_code
def yy_D_init : MethodName := ⟨"TurnCounts$Pad", "<init>", "()V"⟩
abbrev bc_D_init : ByteArray := prog_3_method_1_code
def yy_Y_init : MethodName := ⟨"TurnCounts$TypeTable", "<init>", "()V"⟩
abbrev bc_Y_init : ByteArray := prog_7_method_1_code
def yy_P_init : MethodName := ⟨"TurnCounts$PatternTable", "<init>", "()V"⟩
abbrev bc_P_init : ByteArray := prog_4_method_1_code
def yy_T_points : MethodName := ⟨"TurnCounts", "points", "(I)I"⟩
abbrev bc_T_points : ByteArray := prog_1_method_2_code
def yy_T_isWithin : MethodName := ⟨"TurnCounts", "isWithin", "(III)Z"⟩
abbrev bc_T_isWithin : ByteArray := prog_1_method_21_code
def yy_T_forgetGroup : MethodName := ⟨"TurnCounts", "forgetGroup", "()V"⟩
abbrev bc_T_forgetGroup : ByteArray := prog_1_method_24_code
def yy_T_beside : MethodName := ⟨"TurnCounts", "beside", "(III)I"⟩
abbrev bc_T_beside : ByteArray := prog_1_method_3_code
def yy_T_isKind : MethodName := ⟨"TurnCounts", "isKind", "(I)Z"⟩
abbrev bc_T_isKind : ByteArray := prog_1_method_22_code
def yy_G_widenByKind : MethodName := ⟨"TurnCounts$Group", "widenByKind", "(IIII)V"⟩
abbrev bc_G_widenByKind : ByteArray := prog_2_method_6_code
def yy_U_roundTurn : MethodName := ⟨"TurnCounts$Turns", "roundTurn", "(III)I"⟩
abbrev bc_U_roundTurn : ByteArray := prog_6_method_9_code
def yy_U_withThing : MethodName := ⟨"TurnCounts$Turns", "withThing", "(IIII)I"⟩
abbrev bc_U_withThing : ByteArray := prog_6_method_11_code
def yy_U_withGoal : MethodName := ⟨"TurnCounts$Turns", "withGoal", "(III)I"⟩
abbrev bc_U_withGoal : ByteArray := prog_6_method_3_code
def yy_G_widen : MethodName := ⟨"TurnCounts$Group", "widen", "(I)V"⟩
abbrev bc_G_widen : ByteArray := prog_2_method_7_code
def yy_G_has : MethodName := ⟨"TurnCounts$Group", "has", "(I)Z"⟩
abbrev bc_G_has : ByteArray := prog_2_method_4_code
def yy_G_addCopy : MethodName := ⟨"TurnCounts$Group", "addCopy", "(II)V"⟩
abbrev bc_G_addCopy : ByteArray := prog_2_method_8_code
def yy_U_oneThenOther : MethodName := ⟨"TurnCounts$Turns", "oneThenOther", "(II)I"⟩
abbrev bc_U_oneThenOther : ByteArray := prog_6_method_4_code
def yy_U_flipTurn : MethodName := ⟨"TurnCounts$Turns", "flipTurn", "(III)I"⟩
abbrev bc_U_flipTurn : ByteArray := prog_6_method_10_code
def yy_T_blocks : MethodName := ⟨"TurnCounts", "blocks", "(III)I"⟩
abbrev bc_T_blocks : ByteArray := prog_1_method_4_code
def yy_T_join : MethodName := ⟨"TurnCounts", "join", "()I"⟩
abbrev bc_T_join : ByteArray := prog_1_method_5_code
def yy_D_toldTurn : MethodName := ⟨"TurnCounts$Pad", "toldTurn", "(I)I"⟩
abbrev bc_D_toldTurn : ByteArray := prog_3_method_2_code
def yy_T_say : MethodName := ⟨"TurnCounts", "say", "(I)I"⟩
abbrev bc_T_say : ByteArray := prog_1_method_6_code
def yy_T_wipe : MethodName := ⟨"TurnCounts", "wipe", "()I"⟩
abbrev bc_T_wipe : ByteArray := prog_1_method_7_code
def yy_T_turn : MethodName := ⟨"TurnCounts", "turn", "(I)I"⟩
abbrev bc_T_turn : ByteArray := prog_1_method_8_code
def yy_U_typeOf : MethodName := ⟨"TurnCounts$Turns", "typeOf", "(II)I"⟩
abbrev bc_U_typeOf : ByteArray := prog_6_method_6_code
def yy_U_tallyCycles : MethodName := ⟨"TurnCounts$Turns", "tallyCycles", "(II)I"⟩
abbrev bc_U_tallyCycles : ByteArray := prog_6_method_7_code
def yy_U_timesTillStill : MethodName := ⟨"TurnCounts$Turns", "timesTillStill", "(I)I"⟩
abbrev bc_U_timesTillStill : ByteArray := prog_6_method_8_code
def yy_T_type : MethodName := ⟨"TurnCounts", "type", "(II)I"⟩
abbrev bc_T_type : ByteArray := prog_1_method_9_code
def yy_Y_bringUp : MethodName := ⟨"TurnCounts$TypeTable", "bringUp", "(LTurnCounts$Setting;)V"⟩
abbrev bc_Y_bringUp : ByteArray := prog_7_method_2_code
def yy_Y_add : MethodName := ⟨"TurnCounts$TypeTable", "add", "(I)V"⟩
abbrev bc_Y_add : ByteArray := prog_7_method_3_code
def yy_Y_insert : MethodName := ⟨"TurnCounts$TypeTable", "insert", "(II)V"⟩
abbrev bc_Y_insert : ByteArray := prog_7_method_4_code
def yy_T_orbit : MethodName := ⟨"TurnCounts", "orbit", "(II)I"⟩
abbrev bc_T_orbit : ByteArray := prog_1_method_10_code
def yy_G_reachFrom : MethodName := ⟨"TurnCounts$Group", "reachFrom", "(I)I"⟩
abbrev bc_G_reachFrom : ByteArray := prog_2_method_9_code
def yy_G_holding : MethodName := ⟨"TurnCounts$Group", "holding", "(I)I"⟩
abbrev bc_G_holding : ByteArray := prog_2_method_10_code
def yy_T_sorts : MethodName := ⟨"TurnCounts", "sorts", "(I)I"⟩
abbrev bc_T_sorts : ByteArray := prog_1_method_11_code
def yy_T_weight : MethodName := ⟨"TurnCounts", "weight", "(II)I"⟩
abbrev bc_T_weight : ByteArray := prog_1_method_12_code
def yy_T_patterns : MethodName := ⟨"TurnCounts", "patterns", "(I)I"⟩
abbrev bc_T_patterns : ByteArray := prog_1_method_13_code
def yy_P_bringUp : MethodName := ⟨"TurnCounts$PatternTable", "bringUp", "(LTurnCounts$Setting;)V"⟩
abbrev bc_P_bringUp : ByteArray := prog_4_method_2_code
def yy_P_setPlaces : MethodName := ⟨"TurnCounts$PatternTable", "setPlaces", "(LTurnCounts$Setting;)V"⟩
abbrev bc_P_setPlaces : ByteArray := prog_4_method_3_code
def yy_S_colourings : MethodName := ⟨"TurnCounts$Setting", "colourings", "()I"⟩
abbrev bc_S_colourings : ByteArray := prog_5_method_3_code
def yy_P_gather : MethodName := ⟨"TurnCounts$PatternTable", "gather", "(ILTurnCounts$Group;)V"⟩
abbrev bc_P_gather : ByteArray := prog_4_method_4_code
def yy_P_put : MethodName := ⟨"TurnCounts$PatternTable", "put", "(I)V"⟩
abbrev bc_P_put : ByteArray := prog_4_method_5_code
def yy_P_turned : MethodName := ⟨"TurnCounts$PatternTable", "turned", "(II)I"⟩
abbrev bc_P_turned : ByteArray := prog_4_method_6_code
def yy_P_amountOfWeight : MethodName := ⟨"TurnCounts$PatternTable", "amountOfWeight", "(ILTurnCounts$Setting;)I"⟩
abbrev bc_P_amountOfWeight : ByteArray := prog_4_method_12_code
def yy_P_leastOf : MethodName := ⟨"TurnCounts$PatternTable", "leastOf", "(I)I"⟩
abbrev bc_P_leastOf : ByteArray := prog_4_method_7_code
def yy_S_weightOf : MethodName := ⟨"TurnCounts$Setting", "weightOf", "(I)I"⟩
abbrev bc_S_weightOf : ByteArray := prog_5_method_5_code
def yy_T_pattern : MethodName := ⟨"TurnCounts", "pattern", "(II)I"⟩
abbrev bc_T_pattern : ByteArray := prog_1_method_14_code
def yy_P_sizeOf : MethodName := ⟨"TurnCounts$PatternTable", "sizeOf", "(I)I"⟩
abbrev bc_P_sizeOf : ByteArray := prog_4_method_8_code
def yy_P_twinOf : MethodName := ⟨"TurnCounts$PatternTable", "twinOf", "(ILTurnCounts$Setting;)I"⟩
abbrev bc_P_twinOf : ByteArray := prog_4_method_9_code
def yy_S_mirrored : MethodName := ⟨"TurnCounts$Setting", "mirrored", "(I)I"⟩
abbrev bc_S_mirrored : ByteArray := prog_5_method_4_code
def yy_S_coloursOf : MethodName := ⟨"TurnCounts$Setting", "coloursOf", "(I)I"⟩
abbrev bc_S_coloursOf : ByteArray := prog_5_method_6_code
def yy_T_of : MethodName := ⟨"TurnCounts", "of", "(II)I"⟩
abbrev bc_T_of : ByteArray := prog_1_method_15_code
def yy_T_isNumber : MethodName := ⟨"TurnCounts", "isNumber", "(I)Z"⟩
abbrev bc_T_isNumber : ByteArray := prog_1_method_23_code
def yy_P_keepersOf : MethodName := ⟨"TurnCounts$PatternTable", "keepersOf", "(ILTurnCounts$Group;)I"⟩
abbrev bc_P_keepersOf : ByteArray := prog_4_method_10_code
def yy_T_kinds : MethodName := ⟨"TurnCounts", "kinds", "(I)I"⟩
abbrev bc_T_kinds : ByteArray := prog_1_method_16_code
def yy_P_amountHanded : MethodName := ⟨"TurnCounts$PatternTable", "amountHanded", "(LTurnCounts$Setting;)I"⟩
abbrev bc_P_amountHanded : ByteArray := prog_4_method_13_code
def yy_P_amountOfAllColours : MethodName := ⟨"TurnCounts$PatternTable", "amountOfAllColours", "(LTurnCounts$Setting;)I"⟩
abbrev bc_P_amountOfAllColours : ByteArray := prog_4_method_14_code
def yy_P_amountAlone : MethodName := ⟨"TurnCounts$PatternTable", "amountAlone", "()I"⟩
abbrev bc_P_amountAlone : ByteArray := prog_4_method_15_code
def yy_P_greatestSize : MethodName := ⟨"TurnCounts$PatternTable", "greatestSize", "()I"⟩
abbrev bc_P_greatestSize : ByteArray := prog_4_method_16_code
def yy_A_max : MethodName := ⟨"java/lang/Math", "max", "(II)I"⟩
abbrev bc_A_max : ByteArray := prog_11_method_65_code
def yy_T_by : MethodName := ⟨"TurnCounts", "by", "(II)I"⟩
abbrev bc_T_by : ByteArray := prog_1_method_17_code
def yy_P_firstToLeast : MethodName := ⟨"TurnCounts$PatternTable", "firstToLeast", "(ILTurnCounts$Group;)I"⟩
abbrev bc_P_firstToLeast : ByteArray := prog_4_method_11_code
def yy_T_image : MethodName := ⟨"TurnCounts", "image", "(I)I"⟩
abbrev bc_T_image : ByteArray := prog_1_method_18_code
def yy_S_copyFrom : MethodName := ⟨"TurnCounts$Setting", "copyFrom", "(LTurnCounts$Setting;)V"⟩
abbrev bc_S_copyFrom : ByteArray := prog_5_method_2_code
def yy_G_copyFrom : MethodName := ⟨"TurnCounts$Group", "copyFrom", "(LTurnCounts$Group;)V"⟩
abbrev bc_G_copyFrom : ByteArray := prog_2_method_3_code
def yy_T_restore : MethodName := ⟨"TurnCounts", "restore", "(I)I"⟩
abbrev bc_T_restore : ByteArray := prog_1_method_19_code
def yy_T_count : MethodName := ⟨"TurnCounts", "count", "(I)I"⟩
abbrev bc_T_count : ByteArray := prog_1_method_20_code
def yy_M_init : MethodName := ⟨"TurnCountsModel", "<init>", "()V"⟩
abbrev bc_M_init : ByteArray := prog_9_method_1_code
def yy_M_beginGroup : MethodName := ⟨"TurnCountsModel", "beginGroup", "()V"⟩
abbrev bc_M_beginGroup : ByteArray := prog_9_method_6_code
def yy_M_closeGroup : MethodName := ⟨"TurnCountsModel", "closeGroup", "()V"⟩
abbrev bc_M_closeGroup : ByteArray := prog_9_method_10_code
def yy_M_layStill : MethodName := ⟨"TurnCountsModel", "layStill", "()V"⟩
abbrev bc_M_layStill : ByteArray := prog_9_method_8_code
def yy_M_many : MethodName := ⟨"TurnCountsModel", "many", "()I"⟩
abbrev bc_M_many : ByteArray := prog_9_method_3_code
def yy_M_rank : MethodName := ⟨"TurnCountsModel", "rank", "()I"⟩
abbrev bc_M_rank : ByteArray := prog_9_method_4_code
def yy_M_meet : MethodName := ⟨"TurnCountsModel", "meet", "(I)V"⟩
abbrev bc_M_meet : ByteArray := prog_9_method_9_code
def yy_M_layRank : MethodName := ⟨"TurnCountsModel", "layRank", "(I)V"⟩
abbrev bc_M_layRank : ByteArray := prog_9_method_5_code
def yy_M_layTurns : MethodName := ⟨"TurnCountsModel", "layTurns", "()V"⟩
abbrev bc_M_layTurns : ByteArray := prog_9_method_11_code
def yy_M_points : MethodName := ⟨"TurnCountsModel", "points", "(I)I"⟩
abbrev bc_M_points : ByteArray := prog_9_method_12_code
def yy_M_in : MethodName := ⟨"TurnCountsModel", "in", "(III)Z"⟩
abbrev bc_M_in : ByteArray := prog_9_method_2_code
def yy_M_beside : MethodName := ⟨"TurnCountsModel", "beside", "(III)I"⟩
abbrev bc_M_beside : ByteArray := prog_9_method_19_code
def yy_M_isKind : MethodName := ⟨"TurnCountsModel", "isKind", "(I)Z"⟩
abbrev bc_M_isKind : ByteArray := prog_9_method_13_code
def yy_M_addKind : MethodName := ⟨"TurnCountsModel", "addKind", "(IIII)V"⟩
abbrev bc_M_addKind : ByteArray := prog_9_method_18_code
def yy_M_addRound : MethodName := ⟨"TurnCountsModel", "addRound", "(III)V"⟩
abbrev bc_M_addRound : ByteArray := prog_9_method_15_code
def yy_M_bring : MethodName := ⟨"TurnCountsModel", "bring", "(IIII)V"⟩
abbrev bc_M_bring : ByteArray := prog_9_method_14_code
def yy_M_addMaker : MethodName := ⟨"TurnCountsModel", "addMaker", "()V"⟩
abbrev bc_M_addMaker : ByteArray := prog_9_method_7_code
def yy_M_addFlip : MethodName := ⟨"TurnCountsModel", "addFlip", "(III)V"⟩
abbrev bc_M_addFlip : ByteArray := prog_9_method_16_code
def yy_M_addNext : MethodName := ⟨"TurnCountsModel", "addNext", "(IIII)V"⟩
abbrev bc_M_addNext : ByteArray := prog_9_method_17_code
def yy_M_blocks : MethodName := ⟨"TurnCountsModel", "blocks", "(III)I"⟩
abbrev bc_M_blocks : ByteArray := prog_9_method_20_code
def yy_M_say : MethodName := ⟨"TurnCountsModel", "say", "(I)I"⟩
abbrev bc_M_say : ByteArray := prog_9_method_21_code
def yy_M_wipe : MethodName := ⟨"TurnCountsModel", "wipe", "()I"⟩
abbrev bc_M_wipe : ByteArray := prog_9_method_22_code
def yy_M_join : MethodName := ⟨"TurnCountsModel", "join", "()I"⟩
abbrev bc_M_join : ByteArray := prog_9_method_24_code
def yy_M_layPad : MethodName := ⟨"TurnCountsModel", "layPad", "()Z"⟩
abbrev bc_M_layPad : ByteArray := prog_9_method_23_code
def yy_M_turn : MethodName := ⟨"TurnCountsModel", "turn", "(I)I"⟩
abbrev bc_M_turn : ByteArray := prog_9_method_28_code
def yy_M_typeOfRow : MethodName := ⟨"TurnCountsModel", "typeOfRow", "()I"⟩
abbrev bc_M_typeOfRow : ByteArray := prog_9_method_25_code
def yy_M_orderOf : MethodName := ⟨"TurnCountsModel", "orderOf", "(I)I"⟩
abbrev bc_M_orderOf : ByteArray := prog_9_method_27_code
def yy_M_common : MethodName := ⟨"TurnCountsModel", "common", "(II)I"⟩
abbrev bc_M_common : ByteArray := prog_9_method_26_code
def yy_M_type : MethodName := ⟨"TurnCountsModel", "type", "(II)I"⟩
abbrev bc_M_type : ByteArray := prog_9_method_32_code
def yy_M_layTypes : MethodName := ⟨"TurnCountsModel", "layTypes", "()V"⟩
abbrev bc_M_layTypes : ByteArray := prog_9_method_31_code
def yy_M_layTurn : MethodName := ⟨"TurnCountsModel", "layTurn", "(I)V"⟩
abbrev bc_M_layTurn : ByteArray := prog_9_method_30_code
def yy_M_addType : MethodName := ⟨"TurnCountsModel", "addType", "(I)V"⟩
abbrev bc_M_addType : ByteArray := prog_9_method_29_code
def yy_M_orbit : MethodName := ⟨"TurnCountsModel", "orbit", "(II)I"⟩
abbrev bc_M_orbit : ByteArray := prog_9_method_34_code
def yy_M_isPoint : MethodName := ⟨"TurnCountsModel", "isPoint", "(I)Z"⟩
abbrev bc_M_isPoint : ByteArray := prog_9_method_33_code
def yy_M_sorts : MethodName := ⟨"TurnCountsModel", "sorts", "(I)I"⟩
abbrev bc_M_sorts : ByteArray := prog_9_method_43_code
def yy_M_weight : MethodName := ⟨"TurnCountsModel", "weight", "(II)I"⟩
abbrev bc_M_weight : ByteArray := prog_9_method_44_code
def yy_M_patterns : MethodName := ⟨"TurnCountsModel", "patterns", "(I)I"⟩
abbrev bc_M_patterns : ByteArray := prog_9_method_45_code
def yy_M_layPatterns : MethodName := ⟨"TurnCountsModel", "layPatterns", "()V"⟩
abbrev bc_M_layPatterns : ByteArray := prog_9_method_38_code
def yy_M_layWorths : MethodName := ⟨"TurnCountsModel", "layWorths", "()V"⟩
abbrev bc_M_layWorths : ByteArray := prog_9_method_36_code
def yy_M_strike : MethodName := ⟨"TurnCountsModel", "strike", "(I)V"⟩
abbrev bc_M_strike : ByteArray := prog_9_method_39_code
def yy_M_layColours : MethodName := ⟨"TurnCountsModel", "layColours", "(I)V"⟩
abbrev bc_M_layColours : ByteArray := prog_9_method_35_code
def yy_M_turned : MethodName := ⟨"TurnCountsModel", "turned", "(I)I"⟩
abbrev bc_M_turned : ByteArray := prog_9_method_37_code
def yy_M_weightOf : MethodName := ⟨"TurnCountsModel", "weightOf", "(I)I"⟩
abbrev bc_M_weightOf : ByteArray := prog_9_method_40_code
def yy_M_pattern : MethodName := ⟨"TurnCountsModel", "pattern", "(II)I"⟩
abbrev bc_M_pattern : ByteArray := prog_9_method_47_code
def yy_M_twin : MethodName := ⟨"TurnCountsModel", "twin", "(I)I"⟩
abbrev bc_M_twin : ByteArray := prog_9_method_46_code
def yy_M_mirrored : MethodName := ⟨"TurnCountsModel", "mirrored", "(I)I"⟩
abbrev bc_M_mirrored : ByteArray := prog_9_method_42_code
def yy_M_coloursOf : MethodName := ⟨"TurnCountsModel", "coloursOf", "(I)I"⟩
abbrev bc_M_coloursOf : ByteArray := prog_9_method_41_code
def yy_M_of : MethodName := ⟨"TurnCountsModel", "of", "(II)I"⟩
abbrev bc_M_of : ByteArray := prog_9_method_49_code
def yy_M_isNumber : MethodName := ⟨"TurnCountsModel", "isNumber", "(I)Z"⟩
abbrev bc_M_isNumber : ByteArray := prog_9_method_48_code
def yy_M_kinds : MethodName := ⟨"TurnCountsModel", "kinds", "(I)I"⟩
abbrev bc_M_kinds : ByteArray := prog_9_method_51_code
def yy_M_isOf : MethodName := ⟨"TurnCountsModel", "isOf", "(II)Z"⟩
abbrev bc_M_isOf : ByteArray := prog_9_method_50_code
def yy_M_by : MethodName := ⟨"TurnCountsModel", "by", "(II)I"⟩
abbrev bc_M_by : ByteArray := prog_9_method_52_code
def yy_M_image : MethodName := ⟨"TurnCountsModel", "image", "(I)I"⟩
abbrev bc_M_image : ByteArray := prog_9_method_53_code
def yy_M_restore : MethodName := ⟨"TurnCountsModel", "restore", "(I)I"⟩
abbrev bc_M_restore : ByteArray := prog_9_method_54_code
def yy_M_count : MethodName := ⟨"TurnCountsModel", "count", "(I)I"⟩
abbrev bc_M_count : ByteArray := prog_9_method_55_code
/-- the words that hold in every state behind this one -/
def tg : List Cond := lw_tbl.filter goodWord
theorem tb_0 : Cond.initialized "TurnCountsLaw" ∈ tg := List.mem_filter.mpr ⟨List.mem_append_right _ (List.mem_append_left _ (List.mem_of_getElem? (i := 0) (by decide +kernel))), by decide +kernel⟩
theorem tb_1 : Cond.initialized "TurnCounts" ∈ tg := List.mem_filter.mpr ⟨List.mem_append_right _ (List.mem_append_left _ (List.mem_of_getElem? (i := 1) (by decide +kernel))), by decide +kernel⟩
theorem tb_2 : Cond.initialized "TurnCounts$Setting" ∈ tg := List.mem_filter.mpr ⟨List.mem_append_right _ (List.mem_append_left _ (List.mem_of_getElem? (i := 2) (by decide +kernel))), by decide +kernel⟩
theorem tb_3 : Cond.initialized "TurnCounts$Group" ∈ tg := List.mem_filter.mpr ⟨List.mem_append_right _ (List.mem_append_left _ (List.mem_of_getElem? (i := 3) (by decide +kernel))), by decide +kernel⟩
theorem tb_4 : Cond.initialized "TurnCounts$Turns" ∈ tg := List.mem_filter.mpr ⟨List.mem_append_right _ (List.mem_append_left _ (List.mem_of_getElem? (i := 4) (by decide +kernel))), by decide +kernel⟩
theorem tb_5 : Cond.initialized "java/lang/Integer" ∈ tg := List.mem_filter.mpr ⟨List.mem_append_right _ (List.mem_append_left _ (List.mem_of_getElem? (i := 5) (by decide +kernel))), by decide +kernel⟩
theorem tb_6 : Cond.initialized "TurnCounts$Pad" ∈ tg := List.mem_filter.mpr ⟨List.mem_append_right _ (List.mem_append_left _ (List.mem_of_getElem? (i := 6) (by decide +kernel))), by decide +kernel⟩
theorem tb_7 : Cond.initialized "TurnCounts$TypeTable" ∈ tg := List.mem_filter.mpr ⟨List.mem_append_right _ (List.mem_append_left _ (List.mem_of_getElem? (i := 7) (by decide +kernel))), by decide +kernel⟩
theorem tb_8 : Cond.initialized "TurnCounts$PatternTable" ∈ tg := List.mem_filter.mpr ⟨List.mem_append_right _ (List.mem_append_left _ (List.mem_of_getElem? (i := 8) (by decide +kernel))), by decide +kernel⟩
theorem tb_9 : Cond.initialized "TurnCountsModel" ∈ tg := List.mem_filter.mpr ⟨List.mem_append_right _ (List.mem_append_left _ (List.mem_of_getElem? (i := 9) (by decide +kernel))), by decide +kernel⟩
theorem tb_10 : Cond.initialized "java/lang/Math" ∈ tg := List.mem_filter.mpr ⟨List.mem_append_right _ (List.mem_append_left _ (List.mem_of_getElem? (i := 10) (by decide +kernel))), by decide +kernel⟩
theorem tb_11 : Cond.initialized "java/lang/System" ∈ tg := List.mem_filter.mpr ⟨List.mem_append_right _ (List.mem_append_left _ (List.mem_of_getElem? (i := 11) (by decide +kernel))), by decide +kernel⟩
theorem tb_12 : Cond.classLink "TurnCountsLaw" 7 "TurnCounts" ∈ tg := List.mem_filter.mpr ⟨List.mem_append_right _ (List.mem_append_left _ (List.mem_of_getElem? (i := 12) (by decide +kernel))), by decide +kernel⟩
theorem tb_13 : Cond.instantiable "TurnCounts" 6 ∈ tg := List.mem_filter.mpr ⟨List.mem_append_right _ (List.mem_append_left _ (List.mem_of_getElem? (i := 13) (by decide +kernel))), by decide +kernel⟩
theorem tb_14 : Cond.methodLink "TurnCountsLaw" 9 ⟨"TurnCounts", "<init>", "()V"⟩ ∈ tg := List.mem_filter.mpr ⟨List.mem_append_right _ (List.mem_append_left _ (List.mem_of_getElem? (i := 14) (by decide +kernel))), by decide +kernel⟩
theorem tb_15 : Cond.instanceMethod ⟨"TurnCounts", "<init>", "()V"⟩ ∈ tg := List.mem_filter.mpr ⟨List.mem_append_right _ (List.mem_append_left _ (List.mem_of_getElem? (i := 15) (by decide +kernel))), by decide +kernel⟩
theorem tb_16 : Cond.code ⟨"TurnCounts", "<init>", "()V"⟩ prog_1_method_1_code 2 (Option.none : Option FieldType) ∈ tg := List.mem_filter.mpr ⟨List.mem_append_right _ (List.mem_append_left _ (List.mem_of_getElem? (i := 16) (by decide +kernel))), by decide +kernel⟩
theorem tb_17 : Cond.methodLink "TurnCounts" 1 ⟨"java/lang/Object", "<init>", "()V"⟩ ∈ tg := List.mem_filter.mpr ⟨List.mem_append_right _ (List.mem_append_left _ (List.mem_of_getElem? (i := 17) (by decide +kernel))), by decide +kernel⟩
theorem tb_18 : Cond.instanceMethod ⟨"java/lang/Object", "<init>", "()V"⟩ ∈ tg := List.mem_filter.mpr ⟨List.mem_append_right _ (List.mem_append_left _ (List.mem_of_getElem? (i := 18) (by decide +kernel))), by decide +kernel⟩
theorem tb_19 : Cond.code ⟨"java/lang/Object", "<init>", "()V"⟩ object_method_1_code 1 (Option.none : Option FieldType) ∈ tg := List.mem_filter.mpr ⟨List.mem_append_right _ (List.mem_append_left _ (List.mem_of_getElem? (i := 19) (by decide +kernel))), by decide +kernel⟩
theorem tb_20 : Cond.classLink "TurnCounts" 7 "TurnCounts$Setting" ∈ tg := List.mem_filter.mpr ⟨List.mem_append_right _ (List.mem_append_left _ (List.mem_of_getElem? (i := 20) (by decide +kernel))), by decide +kernel⟩
theorem tb_21 : Cond.instantiable "TurnCounts$Setting" 4 ∈ tg := List.mem_filter.mpr ⟨List.mem_append_right _ (List.mem_append_left _ (List.mem_of_getElem? (i := 21) (by decide +kernel))), by decide +kernel⟩
theorem tb_22 : Cond.methodLink "TurnCounts" 9 ⟨"TurnCounts$Setting", "<init>", "()V"⟩ ∈ tg := List.mem_filter.mpr ⟨List.mem_append_right _ (List.mem_append_left _ (List.mem_of_getElem? (i := 22) (by decide +kernel))), by decide +kernel⟩
theorem tb_23 : Cond.instanceMethod ⟨"TurnCounts$Setting", "<init>", "()V"⟩ ∈ tg := List.mem_filter.mpr ⟨List.mem_append_right _ (List.mem_append_left _ (List.mem_of_getElem? (i := 23) (by decide +kernel))), by decide +kernel⟩
theorem tb_24 : Cond.code ⟨"TurnCounts$Setting", "<init>", "()V"⟩ prog_5_method_1_code 2 (Option.none : Option FieldType) ∈ tg := List.mem_filter.mpr ⟨List.mem_append_right _ (List.mem_append_left _ (List.mem_of_getElem? (i := 24) (by decide +kernel))), by decide +kernel⟩
theorem tb_25 : Cond.methodLink "TurnCounts$Setting" 3 ⟨"java/lang/Object", "<init>", "()V"⟩ ∈ tg := List.mem_filter.mpr ⟨List.mem_append_right _ (List.mem_append_left _ (List.mem_of_getElem? (i := 25) (by decide +kernel))), by decide +kernel⟩
theorem tb_26 : Cond.classLink "TurnCounts$Setting" 22 "TurnCounts$Group" ∈ tg := List.mem_filter.mpr ⟨List.mem_append_right _ (List.mem_append_left _ (List.mem_of_getElem? (i := 26) (by decide +kernel))), by decide +kernel⟩
theorem tb_27 : Cond.instantiable "TurnCounts$Group" 5 ∈ tg := List.mem_filter.mpr ⟨List.mem_append_right _ (List.mem_append_left _ (List.mem_of_getElem? (i := 27) (by decide +kernel))), by decide +kernel⟩
theorem tb_28 : Cond.methodLink "TurnCounts$Setting" 24 ⟨"TurnCounts$Group", "<init>", "()V"⟩ ∈ tg := List.mem_filter.mpr ⟨List.mem_append_right _ (List.mem_append_left _ (List.mem_of_getElem? (i := 28) (by decide +kernel))), by decide +kernel⟩
theorem tb_29 : Cond.instanceMethod ⟨"TurnCounts$Group", "<init>", "()V"⟩ ∈ tg := List.mem_filter.mpr ⟨List.mem_append_right _ (List.mem_append_left _ (List.mem_of_getElem? (i := 29) (by decide +kernel))), by decide +kernel⟩
theorem tb_30 : Cond.code ⟨"TurnCounts$Group", "<init>", "()V"⟩ prog_2_method_1_code 1 (Option.none : Option FieldType) ∈ tg := List.mem_filter.mpr ⟨List.mem_append_right _ (List.mem_append_left _ (List.mem_of_getElem? (i := 30) (by decide +kernel))), by decide +kernel⟩
theorem tb_31 : Cond.methodLink "TurnCounts$Group" 3 ⟨"java/lang/Object", "<init>", "()V"⟩ ∈ tg := List.mem_filter.mpr ⟨List.mem_append_right _ (List.mem_append_left _ (List.mem_of_getElem? (i := 31) (by decide +kernel))), by decide +kernel⟩
theorem tb_32 : Cond.methodLink "TurnCounts$Group" 21 ⟨"TurnCounts$Group", "makeStill", "()V"⟩ ∈ tg := List.mem_filter.mpr ⟨List.mem_append_right _ (List.mem_append_left _ (List.mem_of_getElem? (i := 32) (by decide +kernel))), by decide +kernel⟩
theorem tb_33 : Cond.instanceMethod ⟨"TurnCounts$Group", "makeStill", "()V"⟩ ∈ tg := List.mem_filter.mpr ⟨List.mem_append_right _ (List.mem_append_left _ (List.mem_of_getElem? (i := 33) (by decide +kernel))), by decide +kernel⟩
theorem tb_34 : Cond.selects "TurnCounts$Group" ⟨"TurnCounts$Group", "makeStill", "()V"⟩ ⟨"TurnCounts$Group", "makeStill", "()V"⟩ ∈ tg := List.mem_filter.mpr ⟨List.mem_append_right _ (List.mem_append_left _ (List.mem_of_getElem? (i := 34) (by decide +kernel))), by decide +kernel⟩
theorem tb_35 : Cond.code ⟨"TurnCounts$Group", "makeStill", "()V"⟩ prog_2_method_2_code 2 (Option.none : Option FieldType) ∈ tg := List.mem_filter.mpr ⟨List.mem_append_right _ (List.mem_append_left _ (List.mem_of_getElem? (i := 35) (by decide +kernel))), by decide +kernel⟩
theorem tb_36 : Cond.constant "TurnCounts$Group" 31 (42798 : Int32) ∈ tg := List.mem_filter.mpr ⟨List.mem_append_right _ (List.mem_append_left _ (List.mem_of_getElem? (i := 36) (by decide +kernel))), by decide +kernel⟩
theorem tb_37 : Cond.methodLink "TurnCounts$Group" 32 ⟨"TurnCounts$Group", "add", "(I)V"⟩ ∈ tg := List.mem_filter.mpr ⟨List.mem_append_right _ (List.mem_append_left _ (List.mem_of_getElem? (i := 37) (by decide +kernel))), by decide +kernel⟩
theorem tb_39 : Cond.instanceMethod ⟨"TurnCounts$Group", "add", "(I)V"⟩ ∈ tg := List.mem_filter.mpr ⟨List.mem_append_right _ (List.mem_append_left _ (List.mem_of_getElem? (i := 39) (by decide +kernel))), by decide +kernel⟩
theorem tb_40 : Cond.code ⟨"TurnCounts$Group", "add", "(I)V"⟩ prog_2_method_5_code 3 (Option.none : Option FieldType) ∈ tg := List.mem_filter.mpr ⟨List.mem_append_right _ (List.mem_append_left _ (List.mem_of_getElem? (i := 40) (by decide +kernel))), by decide +kernel⟩
theorem tb_41 : Cond.methodLink "TurnCounts$Group" 42 ⟨"TurnCounts$Turns", "rank", "(I)I"⟩ ∈ tg := List.mem_filter.mpr ⟨List.mem_append_right _ (List.mem_append_left _ (List.mem_of_getElem? (i := 41) (by decide +kernel))), by decide +kernel⟩
theorem tb_42 : Cond.static ⟨"TurnCounts$Turns", "rank", "(I)I"⟩ ∈ tg := List.mem_filter.mpr ⟨List.mem_append_right _ (List.mem_append_left _ (List.mem_of_getElem? (i := 42) (by decide +kernel))), by decide +kernel⟩
theorem tb_43 : Cond.code ⟨"TurnCounts$Turns", "rank", "(I)I"⟩ prog_6_method_5_code 6 (Option.some FieldType.int) ∈ tg := List.mem_filter.mpr ⟨List.mem_append_right _ (List.mem_append_left _ (List.mem_of_getElem? (i := 43) (by decide +kernel))), by decide +kernel⟩
theorem tb_44 : Cond.methodLink "TurnCounts$Turns" 9 ⟨"TurnCounts$Turns", "goal", "(II)I"⟩ ∈ tg := List.mem_filter.mpr ⟨List.mem_append_right _ (List.mem_append_left _ (List.mem_of_getElem? (i := 44) (by decide +kernel))), by decide +kernel⟩
theorem tb_45 : Cond.static ⟨"TurnCounts$Turns", "goal", "(II)I"⟩ ∈ tg := List.mem_filter.mpr ⟨List.mem_append_right _ (List.mem_append_left _ (List.mem_of_getElem? (i := 45) (by decide +kernel))), by decide +kernel⟩
theorem tb_46 : Cond.code ⟨"TurnCounts$Turns", "goal", "(II)I"⟩ prog_6_method_2_code 2 (Option.some FieldType.int) ∈ tg := List.mem_filter.mpr ⟨List.mem_append_right _ (List.mem_append_left _ (List.mem_of_getElem? (i := 46) (by decide +kernel))), by decide +kernel⟩
theorem tb_47 : Cond.methodLink "TurnCounts$Turns" 15 ⟨"java/lang/Integer", "bitCount", "(I)I"⟩ ∈ tg := List.mem_filter.mpr ⟨List.mem_append_right _ (List.mem_append_left _ (List.mem_of_getElem? (i := 47) (by decide +kernel))), by decide +kernel⟩
theorem tb_48 : Cond.static ⟨"java/lang/Integer", "bitCount", "(I)I"⟩ ∈ tg := List.mem_filter.mpr ⟨List.mem_append_right _ (List.mem_append_left _ (List.mem_of_getElem? (i := 48) (by decide +kernel))), by decide +kernel⟩
theorem tb_49 : Cond.code ⟨"java/lang/Integer", "bitCount", "(I)I"⟩ prog_10_method_49_code 1 (Option.some FieldType.int) ∈ tg := List.mem_filter.mpr ⟨List.mem_append_right _ (List.mem_append_left _ (List.mem_of_getElem? (i := 49) (by decide +kernel))), by decide +kernel⟩
theorem tb_50 : Cond.constant "java/lang/Integer" 265 (1431655765 : Int32) ∈ tg := List.mem_filter.mpr ⟨List.mem_append_right _ (List.mem_append_left _ (List.mem_of_getElem? (i := 50) (by decide +kernel))), by decide +kernel⟩
theorem tb_51 : Cond.constant "java/lang/Integer" 266 (858993459 : Int32) ∈ tg := List.mem_filter.mpr ⟨List.mem_append_right _ (List.mem_append_left _ (List.mem_of_getElem? (i := 51) (by decide +kernel))), by decide +kernel⟩
theorem tb_52 : Cond.constant "java/lang/Integer" 267 (252645135 : Int32) ∈ tg := List.mem_filter.mpr ⟨List.mem_append_right _ (List.mem_append_left _ (List.mem_of_getElem? (i := 52) (by decide +kernel))), by decide +kernel⟩
theorem tb_53 : Cond.fieldLink "TurnCounts$Group" 9 "TurnCounts$Group" "turns" "[I" ∈ tg := List.mem_filter.mpr ⟨List.mem_append_right _ (List.mem_append_left _ (List.mem_of_getElem? (i := 53) (by decide +kernel))), by decide +kernel⟩
theorem tb_54 : Cond.fieldLink "TurnCounts$TypeTable" 37 "TurnCounts$Group" "turns" "[I" ∈ tg := List.mem_filter.mpr ⟨List.mem_append_right _ (List.mem_append_left _ (List.mem_of_getElem? (i := 54) (by decide +kernel))), by decide +kernel⟩
theorem tb_55 : Cond.fieldLink "TurnCounts$PatternTable" 94 "TurnCounts$Group" "turns" "[I" ∈ tg := List.mem_filter.mpr ⟨List.mem_append_right _ (List.mem_append_left _ (List.mem_of_getElem? (i := 55) (by decide +kernel))), by decide +kernel⟩
theorem tb_56 : Cond.fieldLink "TurnCounts$TypeTable" 32 "TurnCounts$Group" "size" "I" ∈ tg := List.mem_filter.mpr ⟨List.mem_append_right _ (List.mem_append_left _ (List.mem_of_getElem? (i := 56) (by decide +kernel))), by decide +kernel⟩
theorem tb_57 : Cond.fieldLink "TurnCounts$Group" 28 "TurnCounts$Group" "size" "I" ∈ tg := List.mem_filter.mpr ⟨List.mem_append_right _ (List.mem_append_left _ (List.mem_of_getElem? (i := 57) (by decide +kernel))), by decide +kernel⟩
theorem tb_58 : Cond.fieldLink "TurnCounts" 72 "TurnCounts$Group" "size" "I" ∈ tg := List.mem_filter.mpr ⟨List.mem_append_right _ (List.mem_append_left _ (List.mem_of_getElem? (i := 58) (by decide +kernel))), by decide +kernel⟩
theorem tb_59 : Cond.fieldLink "TurnCounts$PatternTable" 91 "TurnCounts$Group" "size" "I" ∈ tg := List.mem_filter.mpr ⟨List.mem_append_right _ (List.mem_append_left _ (List.mem_of_getElem? (i := 59) (by decide +kernel))), by decide +kernel⟩
theorem tb_60 : Cond.fieldLink "TurnCounts$Group" 15 "TurnCounts$Group" "makers" "[I" ∈ tg := List.mem_filter.mpr ⟨List.mem_append_right _ (List.mem_append_left _ (List.mem_of_getElem? (i := 60) (by decide +kernel))), by decide +kernel⟩
theorem tb_61 : Cond.fieldLink "TurnCounts$PatternTable" 69 "TurnCounts$Group" "makers" "[I" ∈ tg := List.mem_filter.mpr ⟨List.mem_append_right _ (List.mem_append_left _ (List.mem_of_getElem? (i := 61) (by decide +kernel))), by decide +kernel⟩
theorem tb_62 : Cond.fieldLink "TurnCounts$Group" 24 "TurnCounts$Group" "makerCount" "I" ∈ tg := List.mem_filter.mpr ⟨List.mem_append_right _ (List.mem_append_left _ (List.mem_of_getElem? (i := 62) (by decide +kernel))), by decide +kernel⟩
theorem tb_63 : Cond.fieldLink "TurnCounts$PatternTable" 64 "TurnCounts$Group" "makerCount" "I" ∈ tg := List.mem_filter.mpr ⟨List.mem_append_right _ (List.mem_append_left _ (List.mem_of_getElem? (i := 63) (by decide +kernel))), by decide +kernel⟩
theorem tb_64 : Cond.fieldLink "TurnCounts$Group" 18 "TurnCounts$Group" "members" "[I" ∈ tg := List.mem_filter.mpr ⟨List.mem_append_right _ (List.mem_append_left _ (List.mem_of_getElem? (i := 64) (by decide +kernel))), by decide +kernel⟩
theorem tb_65 : Cond.laysFinal "TurnCounts$Group" "TurnCounts$Group" "turns" "[I" ∈ tg := List.mem_filter.mpr ⟨List.mem_append_right _ (List.mem_append_left _ (List.mem_of_getElem? (i := 65) (by decide +kernel))), by decide +kernel⟩
theorem tb_67 : Cond.lays "TurnCounts$Group" "TurnCounts$Group" "size" "I" ∈ tg := List.mem_filter.mpr ⟨List.mem_append_right _ (List.mem_append_left _ (List.mem_of_getElem? (i := 67) (by decide +kernel))), by decide +kernel⟩
theorem tb_69 : Cond.laysFinal "TurnCounts$Group" "TurnCounts$Group" "makers" "[I" ∈ tg := List.mem_filter.mpr ⟨List.mem_append_right _ (List.mem_append_left _ (List.mem_of_getElem? (i := 69) (by decide +kernel))), by decide +kernel⟩
theorem tb_71 : Cond.lays "TurnCounts$Group" "TurnCounts$Group" "makerCount" "I" ∈ tg := List.mem_filter.mpr ⟨List.mem_append_right _ (List.mem_append_left _ (List.mem_of_getElem? (i := 71) (by decide +kernel))), by decide +kernel⟩
theorem tb_73 : Cond.laysFinal "TurnCounts$Group" "TurnCounts$Group" "members" "[I" ∈ tg := List.mem_filter.mpr ⟨List.mem_append_right _ (List.mem_append_left _ (List.mem_of_getElem? (i := 73) (by decide +kernel))), by decide +kernel⟩
theorem tb_76 : Cond.arrayClass FieldType.int ∈ tg := List.mem_filter.mpr ⟨List.mem_append_right _ (List.mem_append_left _ (List.mem_of_getElem? (i := 76) (by decide +kernel))), by decide +kernel⟩
theorem tb_77 : Cond.fieldLink "TurnCounts$Setting" 9 "TurnCounts$Setting" "many" "I" ∈ tg := List.mem_filter.mpr ⟨List.mem_append_right _ (List.mem_append_left _ (List.mem_of_getElem? (i := 77) (by decide +kernel))), by decide +kernel⟩
theorem tb_78 : Cond.fieldLink "TurnCounts" 49 "TurnCounts$Setting" "many" "I" ∈ tg := List.mem_filter.mpr ⟨List.mem_append_right _ (List.mem_append_left _ (List.mem_of_getElem? (i := 78) (by decide +kernel))), by decide +kernel⟩
theorem tb_79 : Cond.fieldLink "TurnCounts$TypeTable" 38 "TurnCounts$Setting" "many" "I" ∈ tg := List.mem_filter.mpr ⟨List.mem_append_right _ (List.mem_append_left _ (List.mem_of_getElem? (i := 79) (by decide +kernel))), by decide +kernel⟩
theorem tb_80 : Cond.fieldLink "TurnCounts$PatternTable" 58 "TurnCounts$Setting" "many" "I" ∈ tg := List.mem_filter.mpr ⟨List.mem_append_right _ (List.mem_append_left _ (List.mem_of_getElem? (i := 80) (by decide +kernel))), by decide +kernel⟩
theorem tb_81 : Cond.fieldLink "TurnCounts$Setting" 15 "TurnCounts$Setting" "sortCount" "I" ∈ tg := List.mem_filter.mpr ⟨List.mem_append_right _ (List.mem_append_left _ (List.mem_of_getElem? (i := 81) (by decide +kernel))), by decide +kernel⟩
theorem tb_82 : Cond.fieldLink "TurnCounts$PatternTable" 59 "TurnCounts$Setting" "sortCount" "I" ∈ tg := List.mem_filter.mpr ⟨List.mem_append_right _ (List.mem_append_left _ (List.mem_of_getElem? (i := 82) (by decide +kernel))), by decide +kernel⟩
theorem tb_83 : Cond.fieldLink "TurnCounts" 121 "TurnCounts$Setting" "sortCount" "I" ∈ tg := List.mem_filter.mpr ⟨List.mem_append_right _ (List.mem_append_left _ (List.mem_of_getElem? (i := 83) (by decide +kernel))), by decide +kernel⟩
theorem tb_84 : Cond.fieldLink "TurnCounts$Setting" 18 "TurnCounts$Setting" "weights" "[I" ∈ tg := List.mem_filter.mpr ⟨List.mem_append_right _ (List.mem_append_left _ (List.mem_of_getElem? (i := 84) (by decide +kernel))), by decide +kernel⟩
theorem tb_85 : Cond.fieldLink "TurnCounts" 128 "TurnCounts$Setting" "weights" "[I" ∈ tg := List.mem_filter.mpr ⟨List.mem_append_right _ (List.mem_append_left _ (List.mem_of_getElem? (i := 85) (by decide +kernel))), by decide +kernel⟩
theorem tb_86 : Cond.fieldLink "TurnCounts$Setting" 25 "TurnCounts$Setting" "group" "LTurnCounts$Group;" ∈ tg := List.mem_filter.mpr ⟨List.mem_append_right _ (List.mem_append_left _ (List.mem_of_getElem? (i := 86) (by decide +kernel))), by decide +kernel⟩
theorem tb_87 : Cond.fieldLink "TurnCounts$TypeTable" 26 "TurnCounts$Setting" "group" "LTurnCounts$Group;" ∈ tg := List.mem_filter.mpr ⟨List.mem_append_right _ (List.mem_append_left _ (List.mem_of_getElem? (i := 87) (by decide +kernel))), by decide +kernel⟩
theorem tb_88 : Cond.fieldLink "TurnCounts" 52 "TurnCounts$Setting" "group" "LTurnCounts$Group;" ∈ tg := List.mem_filter.mpr ⟨List.mem_append_right _ (List.mem_append_left _ (List.mem_of_getElem? (i := 88) (by decide +kernel))), by decide +kernel⟩
theorem tb_89 : Cond.fieldLink "TurnCounts$PatternTable" 50 "TurnCounts$Setting" "group" "LTurnCounts$Group;" ∈ tg := List.mem_filter.mpr ⟨List.mem_append_right _ (List.mem_append_left _ (List.mem_of_getElem? (i := 89) (by decide +kernel))), by decide +kernel⟩
theorem tb_90 : Cond.lays "TurnCounts$Setting" "TurnCounts$Setting" "many" "I" ∈ tg := List.mem_filter.mpr ⟨List.mem_append_right _ (List.mem_append_left _ (List.mem_of_getElem? (i := 90) (by decide +kernel))), by decide +kernel⟩
theorem tb_92 : Cond.lays "TurnCounts$Setting" "TurnCounts$Setting" "sortCount" "I" ∈ tg := List.mem_filter.mpr ⟨List.mem_append_right _ (List.mem_append_left _ (List.mem_of_getElem? (i := 92) (by decide +kernel))), by decide +kernel⟩
theorem tb_94 : Cond.laysFinal "TurnCounts$Setting" "TurnCounts$Setting" "weights" "[I" ∈ tg := List.mem_filter.mpr ⟨List.mem_append_right _ (List.mem_append_left _ (List.mem_of_getElem? (i := 94) (by decide +kernel))), by decide +kernel⟩
theorem tb_96 : Cond.laysFinal "TurnCounts$Setting" "TurnCounts$Setting" "group" "LTurnCounts$Group;" ∈ tg := List.mem_filter.mpr ⟨List.mem_append_right _ (List.mem_append_left _ (List.mem_of_getElem? (i := 96) (by decide +kernel))), by decide +kernel⟩
theorem tb_99 : Cond.arrayOver (FieldType.object "TurnCounts$Setting") ∈ lw_tbl := List.mem_append_right _ (List.mem_append_left _ (List.mem_of_getElem? (i := 99) (by decide +kernel)))
theorem tb_100 : Cond.classLink "TurnCounts" 24 "TurnCounts$Pad" ∈ tg := List.mem_filter.mpr ⟨List.mem_append_right _ (List.mem_append_left _ (List.mem_of_getElem? (i := 100) (by decide +kernel))), by decide +kernel⟩
theorem tb_101 : Cond.instantiable "TurnCounts$Pad" 2 ∈ tg := List.mem_filter.mpr ⟨List.mem_append_right _ (List.mem_append_left _ (List.mem_of_getElem? (i := 101) (by decide +kernel))), by decide +kernel⟩
theorem tb_102 : Cond.methodLink "TurnCounts" 26 ⟨"TurnCounts$Pad", "<init>", "()V"⟩ ∈ tg := List.mem_filter.mpr ⟨List.mem_append_right _ (List.mem_append_left _ (List.mem_of_getElem? (i := 102) (by decide +kernel))), by decide +kernel⟩
theorem tb_103 : Cond.instanceMethod ⟨"TurnCounts$Pad", "<init>", "()V"⟩ ∈ tg := List.mem_filter.mpr ⟨List.mem_append_right _ (List.mem_append_left _ (List.mem_of_getElem? (i := 103) (by decide +kernel))), by decide +kernel⟩
theorem tb_104 : Cond.code ⟨"TurnCounts$Pad", "<init>", "()V"⟩ prog_3_method_1_code 1 (Option.none : Option FieldType) ∈ tg := List.mem_filter.mpr ⟨List.mem_append_right _ (List.mem_append_left _ (List.mem_of_getElem? (i := 104) (by decide +kernel))), by decide +kernel⟩
theorem tb_105 : Cond.methodLink "TurnCounts$Pad" 3 ⟨"java/lang/Object", "<init>", "()V"⟩ ∈ tg := List.mem_filter.mpr ⟨List.mem_append_right _ (List.mem_append_left _ (List.mem_of_getElem? (i := 105) (by decide +kernel))), by decide +kernel⟩
theorem tb_106 : Cond.fieldLink "TurnCounts$Pad" 9 "TurnCounts$Pad" "signs" "[I" ∈ tg := List.mem_filter.mpr ⟨List.mem_append_right _ (List.mem_append_left _ (List.mem_of_getElem? (i := 106) (by decide +kernel))), by decide +kernel⟩
theorem tb_107 : Cond.fieldLink "TurnCounts" 89 "TurnCounts$Pad" "signs" "[I" ∈ tg := List.mem_filter.mpr ⟨List.mem_append_right _ (List.mem_append_left _ (List.mem_of_getElem? (i := 107) (by decide +kernel))), by decide +kernel⟩
theorem tb_108 : Cond.fieldLink "TurnCounts$Pad" 15 "TurnCounts$Pad" "length" "I" ∈ tg := List.mem_filter.mpr ⟨List.mem_append_right _ (List.mem_append_left _ (List.mem_of_getElem? (i := 108) (by decide +kernel))), by decide +kernel⟩
theorem tb_109 : Cond.fieldLink "TurnCounts" 79 "TurnCounts$Pad" "length" "I" ∈ tg := List.mem_filter.mpr ⟨List.mem_append_right _ (List.mem_append_left _ (List.mem_of_getElem? (i := 109) (by decide +kernel))), by decide +kernel⟩
theorem tb_110 : Cond.laysFinal "TurnCounts$Pad" "TurnCounts$Pad" "signs" "[I" ∈ tg := List.mem_filter.mpr ⟨List.mem_append_right _ (List.mem_append_left _ (List.mem_of_getElem? (i := 110) (by decide +kernel))), by decide +kernel⟩
theorem tb_112 : Cond.lays "TurnCounts$Pad" "TurnCounts$Pad" "length" "I" ∈ tg := List.mem_filter.mpr ⟨List.mem_append_right _ (List.mem_append_left _ (List.mem_of_getElem? (i := 112) (by decide +kernel))), by decide +kernel⟩
theorem tb_115 : Cond.classLink "TurnCounts" 31 "TurnCounts$TypeTable" ∈ tg := List.mem_filter.mpr ⟨List.mem_append_right _ (List.mem_append_left _ (List.mem_of_getElem? (i := 115) (by decide +kernel))), by decide +kernel⟩
theorem tb_116 : Cond.instantiable "TurnCounts$TypeTable" 4 ∈ tg := List.mem_filter.mpr ⟨List.mem_append_right _ (List.mem_append_left _ (List.mem_of_getElem? (i := 116) (by decide +kernel))), by decide +kernel⟩
theorem tb_117 : Cond.methodLink "TurnCounts" 33 ⟨"TurnCounts$TypeTable", "<init>", "()V"⟩ ∈ tg := List.mem_filter.mpr ⟨List.mem_append_right _ (List.mem_append_left _ (List.mem_of_getElem? (i := 117) (by decide +kernel))), by decide +kernel⟩
theorem tb_118 : Cond.instanceMethod ⟨"TurnCounts$TypeTable", "<init>", "()V"⟩ ∈ tg := List.mem_filter.mpr ⟨List.mem_append_right _ (List.mem_append_left _ (List.mem_of_getElem? (i := 118) (by decide +kernel))), by decide +kernel⟩
theorem tb_119 : Cond.code ⟨"TurnCounts$TypeTable", "<init>", "()V"⟩ prog_7_method_1_code 1 (Option.none : Option FieldType) ∈ tg := List.mem_filter.mpr ⟨List.mem_append_right _ (List.mem_append_left _ (List.mem_of_getElem? (i := 119) (by decide +kernel))), by decide +kernel⟩
theorem tb_120 : Cond.methodLink "TurnCounts$TypeTable" 3 ⟨"java/lang/Object", "<init>", "()V"⟩ ∈ tg := List.mem_filter.mpr ⟨List.mem_append_right _ (List.mem_append_left _ (List.mem_of_getElem? (i := 120) (by decide +kernel))), by decide +kernel⟩
theorem tb_121 : Cond.fieldLink "TurnCounts$TypeTable" 9 "TurnCounts$TypeTable" "figures" "[I" ∈ tg := List.mem_filter.mpr ⟨List.mem_append_right _ (List.mem_append_left _ (List.mem_of_getElem? (i := 121) (by decide +kernel))), by decide +kernel⟩
theorem tb_122 : Cond.fieldLink "TurnCounts" 109 "TurnCounts$TypeTable" "figures" "[I" ∈ tg := List.mem_filter.mpr ⟨List.mem_append_right _ (List.mem_append_left _ (List.mem_of_getElem? (i := 122) (by decide +kernel))), by decide +kernel⟩
theorem tb_123 : Cond.fieldLink "TurnCounts$TypeTable" 15 "TurnCounts$TypeTable" "turns" "[I" ∈ tg := List.mem_filter.mpr ⟨List.mem_append_right _ (List.mem_append_left _ (List.mem_of_getElem? (i := 123) (by decide +kernel))), by decide +kernel⟩
theorem tb_124 : Cond.fieldLink "TurnCounts" 112 "TurnCounts$TypeTable" "turns" "[I" ∈ tg := List.mem_filter.mpr ⟨List.mem_append_right _ (List.mem_append_left _ (List.mem_of_getElem? (i := 124) (by decide +kernel))), by decide +kernel⟩
theorem tb_125 : Cond.fieldLink "TurnCounts$TypeTable" 18 "TurnCounts$TypeTable" "amount" "I" ∈ tg := List.mem_filter.mpr ⟨List.mem_append_right _ (List.mem_append_left _ (List.mem_of_getElem? (i := 125) (by decide +kernel))), by decide +kernel⟩
theorem tb_126 : Cond.fieldLink "TurnCounts" 106 "TurnCounts$TypeTable" "amount" "I" ∈ tg := List.mem_filter.mpr ⟨List.mem_append_right _ (List.mem_append_left _ (List.mem_of_getElem? (i := 126) (by decide +kernel))), by decide +kernel⟩
theorem tb_127 : Cond.fieldLink "TurnCounts$TypeTable" 22 "TurnCounts$TypeTable" "upToDate" "Z" ∈ tg := List.mem_filter.mpr ⟨List.mem_append_right _ (List.mem_append_left _ (List.mem_of_getElem? (i := 127) (by decide +kernel))), by decide +kernel⟩
theorem tb_128 : Cond.fieldLink "TurnCounts" 191 "TurnCounts$TypeTable" "upToDate" "Z" ∈ tg := List.mem_filter.mpr ⟨List.mem_append_right _ (List.mem_append_left _ (List.mem_of_getElem? (i := 128) (by decide +kernel))), by decide +kernel⟩
theorem tb_129 : Cond.laysFinal "TurnCounts$TypeTable" "TurnCounts$TypeTable" "figures" "[I" ∈ tg := List.mem_filter.mpr ⟨List.mem_append_right _ (List.mem_append_left _ (List.mem_of_getElem? (i := 129) (by decide +kernel))), by decide +kernel⟩
theorem tb_131 : Cond.laysFinal "TurnCounts$TypeTable" "TurnCounts$TypeTable" "turns" "[I" ∈ tg := List.mem_filter.mpr ⟨List.mem_append_right _ (List.mem_append_left _ (List.mem_of_getElem? (i := 131) (by decide +kernel))), by decide +kernel⟩
theorem tb_133 : Cond.lays "TurnCounts$TypeTable" "TurnCounts$TypeTable" "amount" "I" ∈ tg := List.mem_filter.mpr ⟨List.mem_append_right _ (List.mem_append_left _ (List.mem_of_getElem? (i := 133) (by decide +kernel))), by decide +kernel⟩
theorem tb_135 : Cond.lays "TurnCounts$TypeTable" "TurnCounts$TypeTable" "upToDate" "Z" ∈ tg := List.mem_filter.mpr ⟨List.mem_append_right _ (List.mem_append_left _ (List.mem_of_getElem? (i := 135) (by decide +kernel))), by decide +kernel⟩
theorem tb_138 : Cond.classLink "TurnCounts" 38 "TurnCounts$PatternTable" ∈ tg := List.mem_filter.mpr ⟨List.mem_append_right _ (List.mem_append_left _ (List.mem_of_getElem? (i := 138) (by decide +kernel))), by decide +kernel⟩
theorem tb_139 : Cond.instantiable "TurnCounts$PatternTable" 9 ∈ tg := List.mem_filter.mpr ⟨List.mem_append_right _ (List.mem_append_left _ (List.mem_of_getElem? (i := 139) (by decide +kernel))), by decide +kernel⟩
theorem tb_140 : Cond.methodLink "TurnCounts" 40 ⟨"TurnCounts$PatternTable", "<init>", "()V"⟩ ∈ tg := List.mem_filter.mpr ⟨List.mem_append_right _ (List.mem_append_left _ (List.mem_of_getElem? (i := 140) (by decide +kernel))), by decide +kernel⟩
theorem tb_141 : Cond.instanceMethod ⟨"TurnCounts$PatternTable", "<init>", "()V"⟩ ∈ tg := List.mem_filter.mpr ⟨List.mem_append_right _ (List.mem_append_left _ (List.mem_of_getElem? (i := 141) (by decide +kernel))), by decide +kernel⟩
theorem tb_142 : Cond.code ⟨"TurnCounts$PatternTable", "<init>", "()V"⟩ prog_4_method_1_code 1 (Option.none : Option FieldType) ∈ tg := List.mem_filter.mpr ⟨List.mem_append_right _ (List.mem_append_left _ (List.mem_of_getElem? (i := 142) (by decide +kernel))), by decide +kernel⟩
theorem tb_143 : Cond.methodLink "TurnCounts$PatternTable" 3 ⟨"java/lang/Object", "<init>", "()V"⟩ ∈ tg := List.mem_filter.mpr ⟨List.mem_append_right _ (List.mem_append_left _ (List.mem_of_getElem? (i := 143) (by decide +kernel))), by decide +kernel⟩
theorem tb_144 : Cond.fieldLink "TurnCounts$PatternTable" 9 "TurnCounts$PatternTable" "patternOf" "[I" ∈ tg := List.mem_filter.mpr ⟨List.mem_append_right _ (List.mem_append_left _ (List.mem_of_getElem? (i := 144) (by decide +kernel))), by decide +kernel⟩
theorem tb_145 : Cond.fieldLink "TurnCounts" 158 "TurnCounts$PatternTable" "patternOf" "[I" ∈ tg := List.mem_filter.mpr ⟨List.mem_append_right _ (List.mem_append_left _ (List.mem_of_getElem? (i := 145) (by decide +kernel))), by decide +kernel⟩
theorem tb_146 : Cond.fieldLink "TurnCounts$PatternTable" 15 "TurnCounts$PatternTable" "colourings" "[I" ∈ tg := List.mem_filter.mpr ⟨List.mem_append_right _ (List.mem_append_left _ (List.mem_of_getElem? (i := 146) (by decide +kernel))), by decide +kernel⟩
theorem tb_147 : Cond.fieldLink "TurnCounts$PatternTable" 18 "TurnCounts$PatternTable" "starts" "[I" ∈ tg := List.mem_filter.mpr ⟨List.mem_append_right _ (List.mem_append_left _ (List.mem_of_getElem? (i := 147) (by decide +kernel))), by decide +kernel⟩
theorem tb_148 : Cond.fieldLink "TurnCounts$PatternTable" 21 "TurnCounts$PatternTable" "places" "[I" ∈ tg := List.mem_filter.mpr ⟨List.mem_append_right _ (List.mem_append_left _ (List.mem_of_getElem? (i := 148) (by decide +kernel))), by decide +kernel⟩
theorem tb_149 : Cond.fieldLink "TurnCounts$PatternTable" 24 "TurnCounts$PatternTable" "many" "I" ∈ tg := List.mem_filter.mpr ⟨List.mem_append_right _ (List.mem_append_left _ (List.mem_of_getElem? (i := 149) (by decide +kernel))), by decide +kernel⟩
theorem tb_150 : Cond.fieldLink "TurnCounts$PatternTable" 28 "TurnCounts$PatternTable" "sortCount" "I" ∈ tg := List.mem_filter.mpr ⟨List.mem_append_right _ (List.mem_append_left _ (List.mem_of_getElem? (i := 150) (by decide +kernel))), by decide +kernel⟩
theorem tb_151 : Cond.fieldLink "TurnCounts$PatternTable" 31 "TurnCounts$PatternTable" "filled" "I" ∈ tg := List.mem_filter.mpr ⟨List.mem_append_right _ (List.mem_append_left _ (List.mem_of_getElem? (i := 151) (by decide +kernel))), by decide +kernel⟩
theorem tb_152 : Cond.fieldLink "TurnCounts$PatternTable" 34 "TurnCounts$PatternTable" "amount" "I" ∈ tg := List.mem_filter.mpr ⟨List.mem_append_right _ (List.mem_append_left _ (List.mem_of_getElem? (i := 152) (by decide +kernel))), by decide +kernel⟩
theorem tb_153 : Cond.fieldLink "TurnCounts" 132 "TurnCounts$PatternTable" "amount" "I" ∈ tg := List.mem_filter.mpr ⟨List.mem_append_right _ (List.mem_append_left _ (List.mem_of_getElem? (i := 153) (by decide +kernel))), by decide +kernel⟩
theorem tb_154 : Cond.fieldLink "TurnCounts$PatternTable" 37 "TurnCounts$PatternTable" "upToDate" "Z" ∈ tg := List.mem_filter.mpr ⟨List.mem_append_right _ (List.mem_append_left _ (List.mem_of_getElem? (i := 154) (by decide +kernel))), by decide +kernel⟩
theorem tb_155 : Cond.fieldLink "TurnCounts" 124 "TurnCounts$PatternTable" "upToDate" "Z" ∈ tg := List.mem_filter.mpr ⟨List.mem_append_right _ (List.mem_append_left _ (List.mem_of_getElem? (i := 155) (by decide +kernel))), by decide +kernel⟩
theorem tb_156 : Cond.laysFinal "TurnCounts$PatternTable" "TurnCounts$PatternTable" "patternOf" "[I" ∈ tg := List.mem_filter.mpr ⟨List.mem_append_right _ (List.mem_append_left _ (List.mem_of_getElem? (i := 156) (by decide +kernel))), by decide +kernel⟩
theorem tb_158 : Cond.laysFinal "TurnCounts$PatternTable" "TurnCounts$PatternTable" "colourings" "[I" ∈ tg := List.mem_filter.mpr ⟨List.mem_append_right _ (List.mem_append_left _ (List.mem_of_getElem? (i := 158) (by decide +kernel))), by decide +kernel⟩
theorem tb_160 : Cond.laysFinal "TurnCounts$PatternTable" "TurnCounts$PatternTable" "starts" "[I" ∈ tg := List.mem_filter.mpr ⟨List.mem_append_right _ (List.mem_append_left _ (List.mem_of_getElem? (i := 160) (by decide +kernel))), by decide +kernel⟩
theorem tb_162 : Cond.laysFinal "TurnCounts$PatternTable" "TurnCounts$PatternTable" "places" "[I" ∈ tg := List.mem_filter.mpr ⟨List.mem_append_right _ (List.mem_append_left _ (List.mem_of_getElem? (i := 162) (by decide +kernel))), by decide +kernel⟩
theorem tb_164 : Cond.lays "TurnCounts$PatternTable" "TurnCounts$PatternTable" "many" "I" ∈ tg := List.mem_filter.mpr ⟨List.mem_append_right _ (List.mem_append_left _ (List.mem_of_getElem? (i := 164) (by decide +kernel))), by decide +kernel⟩
theorem tb_166 : Cond.lays "TurnCounts$PatternTable" "TurnCounts$PatternTable" "sortCount" "I" ∈ tg := List.mem_filter.mpr ⟨List.mem_append_right _ (List.mem_append_left _ (List.mem_of_getElem? (i := 166) (by decide +kernel))), by decide +kernel⟩
theorem tb_168 : Cond.lays "TurnCounts$PatternTable" "TurnCounts$PatternTable" "filled" "I" ∈ tg := List.mem_filter.mpr ⟨List.mem_append_right _ (List.mem_append_left _ (List.mem_of_getElem? (i := 168) (by decide +kernel))), by decide +kernel⟩
theorem tb_170 : Cond.lays "TurnCounts$PatternTable" "TurnCounts$PatternTable" "amount" "I" ∈ tg := List.mem_filter.mpr ⟨List.mem_append_right _ (List.mem_append_left _ (List.mem_of_getElem? (i := 170) (by decide +kernel))), by decide +kernel⟩
theorem tb_172 : Cond.lays "TurnCounts$PatternTable" "TurnCounts$PatternTable" "upToDate" "Z" ∈ tg := List.mem_filter.mpr ⟨List.mem_append_right _ (List.mem_append_left _ (List.mem_of_getElem? (i := 172) (by decide +kernel))), by decide +kernel⟩
theorem tb_175 : Cond.fieldLink "TurnCounts" 10 "TurnCounts" "now" "LTurnCounts$Setting;" ∈ tg := List.mem_filter.mpr ⟨List.mem_append_right _ (List.mem_append_left _ (List.mem_of_getElem? (i := 175) (by decide +kernel))), by decide +kernel⟩
theorem tb_176 : Cond.fieldLink "TurnCounts" 16 "TurnCounts" "kept" "[LTurnCounts$Setting;" ∈ tg := List.mem_filter.mpr ⟨List.mem_append_right _ (List.mem_append_left _ (List.mem_of_getElem? (i := 176) (by decide +kernel))), by decide +kernel⟩
theorem tb_177 : Cond.fieldLink "TurnCounts" 20 "TurnCounts" "keptSet" "I" ∈ tg := List.mem_filter.mpr ⟨List.mem_append_right _ (List.mem_append_left _ (List.mem_of_getElem? (i := 177) (by decide +kernel))), by decide +kernel⟩
theorem tb_178 : Cond.fieldLink "TurnCounts" 27 "TurnCounts" "pad" "LTurnCounts$Pad;" ∈ tg := List.mem_filter.mpr ⟨List.mem_append_right _ (List.mem_append_left _ (List.mem_of_getElem? (i := 178) (by decide +kernel))), by decide +kernel⟩
theorem tb_179 : Cond.fieldLink "TurnCounts" 34 "TurnCounts" "types" "LTurnCounts$TypeTable;" ∈ tg := List.mem_filter.mpr ⟨List.mem_append_right _ (List.mem_append_left _ (List.mem_of_getElem? (i := 179) (by decide +kernel))), by decide +kernel⟩
theorem tb_180 : Cond.fieldLink "TurnCounts" 41 "TurnCounts" "table" "LTurnCounts$PatternTable;" ∈ tg := List.mem_filter.mpr ⟨List.mem_append_right _ (List.mem_append_left _ (List.mem_of_getElem? (i := 180) (by decide +kernel))), by decide +kernel⟩
theorem tb_181 : Cond.laysFinal "TurnCounts" "TurnCounts" "now" "LTurnCounts$Setting;" ∈ tg := List.mem_filter.mpr ⟨List.mem_append_right _ (List.mem_append_left _ (List.mem_of_getElem? (i := 181) (by decide +kernel))), by decide +kernel⟩
theorem tb_183 : Cond.laysFinal "TurnCounts" "TurnCounts" "kept" "[LTurnCounts$Setting;" ∈ tg := List.mem_filter.mpr ⟨List.mem_append_right _ (List.mem_append_left _ (List.mem_of_getElem? (i := 183) (by decide +kernel))), by decide +kernel⟩
theorem tb_185 : Cond.lays "TurnCounts" "TurnCounts" "keptSet" "I" ∈ tg := List.mem_filter.mpr ⟨List.mem_append_right _ (List.mem_append_left _ (List.mem_of_getElem? (i := 185) (by decide +kernel))), by decide +kernel⟩
theorem tb_187 : Cond.laysFinal "TurnCounts" "TurnCounts" "pad" "LTurnCounts$Pad;" ∈ tg := List.mem_filter.mpr ⟨List.mem_append_right _ (List.mem_append_left _ (List.mem_of_getElem? (i := 187) (by decide +kernel))), by decide +kernel⟩
theorem tb_189 : Cond.laysFinal "TurnCounts" "TurnCounts" "types" "LTurnCounts$TypeTable;" ∈ tg := List.mem_filter.mpr ⟨List.mem_append_right _ (List.mem_append_left _ (List.mem_of_getElem? (i := 189) (by decide +kernel))), by decide +kernel⟩
theorem tb_191 : Cond.laysFinal "TurnCounts" "TurnCounts" "table" "LTurnCounts$PatternTable;" ∈ tg := List.mem_filter.mpr ⟨List.mem_append_right _ (List.mem_append_left _ (List.mem_of_getElem? (i := 191) (by decide +kernel))), by decide +kernel⟩
theorem tb_194 : Cond.methodLink "TurnCountsLaw" 13 ⟨"TurnCounts", "points", "(I)I"⟩ ∈ tg := List.mem_filter.mpr ⟨List.mem_append_right _ (List.mem_append_left _ (List.mem_of_getElem? (i := 194) (by decide +kernel))), by decide +kernel⟩
theorem tb_195 : Cond.instanceMethod ⟨"TurnCounts", "points", "(I)I"⟩ ∈ tg := List.mem_filter.mpr ⟨List.mem_append_right _ (List.mem_append_left _ (List.mem_of_getElem? (i := 195) (by decide +kernel))), by decide +kernel⟩
theorem tb_196 : Cond.selects "TurnCounts" ⟨"TurnCounts", "points", "(I)I"⟩ ⟨"TurnCounts", "points", "(I)I"⟩ ∈ tg := List.mem_filter.mpr ⟨List.mem_append_right _ (List.mem_append_left _ (List.mem_of_getElem? (i := 196) (by decide +kernel))), by decide +kernel⟩
theorem tb_197 : Cond.code ⟨"TurnCounts", "points", "(I)I"⟩ prog_1_method_2_code 3 (Option.some FieldType.int) ∈ tg := List.mem_filter.mpr ⟨List.mem_append_right _ (List.mem_append_left _ (List.mem_of_getElem? (i := 197) (by decide +kernel))), by decide +kernel⟩
theorem tb_198 : Cond.methodLink "TurnCounts" 45 ⟨"TurnCounts", "isWithin", "(III)Z"⟩ ∈ tg := List.mem_filter.mpr ⟨List.mem_append_right _ (List.mem_append_left _ (List.mem_of_getElem? (i := 198) (by decide +kernel))), by decide +kernel⟩
theorem tb_199 : Cond.static ⟨"TurnCounts", "isWithin", "(III)Z"⟩ ∈ tg := List.mem_filter.mpr ⟨List.mem_append_right _ (List.mem_append_left _ (List.mem_of_getElem? (i := 199) (by decide +kernel))), by decide +kernel⟩
theorem tb_200 : Cond.code ⟨"TurnCounts", "isWithin", "(III)Z"⟩ prog_1_method_21_code 3 (Option.some FieldType.boolean) ∈ tg := List.mem_filter.mpr ⟨List.mem_append_right _ (List.mem_append_left _ (List.mem_of_getElem? (i := 200) (by decide +kernel))), by decide +kernel⟩
theorem tb_201 : Cond.methodLink "TurnCounts" 56 ⟨"TurnCounts$Group", "makeStill", "()V"⟩ ∈ tg := List.mem_filter.mpr ⟨List.mem_append_right _ (List.mem_append_left _ (List.mem_of_getElem? (i := 201) (by decide +kernel))), by decide +kernel⟩
theorem tb_202 : Cond.methodLink "TurnCounts" 61 ⟨"TurnCounts", "forgetGroup", "()V"⟩ ∈ tg := List.mem_filter.mpr ⟨List.mem_append_right _ (List.mem_append_left _ (List.mem_of_getElem? (i := 202) (by decide +kernel))), by decide +kernel⟩
theorem tb_204 : Cond.instanceMethod ⟨"TurnCounts", "forgetGroup", "()V"⟩ ∈ tg := List.mem_filter.mpr ⟨List.mem_append_right _ (List.mem_append_left _ (List.mem_of_getElem? (i := 204) (by decide +kernel))), by decide +kernel⟩
theorem tb_205 : Cond.code ⟨"TurnCounts", "forgetGroup", "()V"⟩ prog_1_method_24_code 1 (Option.none : Option FieldType) ∈ tg := List.mem_filter.mpr ⟨List.mem_append_right _ (List.mem_append_left _ (List.mem_of_getElem? (i := 205) (by decide +kernel))), by decide +kernel⟩
theorem tb_206 : Cond.methodLink "TurnCountsLaw" 18 ⟨"TurnCounts", "beside", "(III)I"⟩ ∈ tg := List.mem_filter.mpr ⟨List.mem_append_right _ (List.mem_append_left _ (List.mem_of_getElem? (i := 206) (by decide +kernel))), by decide +kernel⟩
theorem tb_207 : Cond.instanceMethod ⟨"TurnCounts", "beside", "(III)I"⟩ ∈ tg := List.mem_filter.mpr ⟨List.mem_append_right _ (List.mem_append_left _ (List.mem_of_getElem? (i := 207) (by decide +kernel))), by decide +kernel⟩
theorem tb_208 : Cond.selects "TurnCounts" ⟨"TurnCounts", "beside", "(III)I"⟩ ⟨"TurnCounts", "beside", "(III)I"⟩ ∈ tg := List.mem_filter.mpr ⟨List.mem_append_right _ (List.mem_append_left _ (List.mem_of_getElem? (i := 208) (by decide +kernel))), by decide +kernel⟩
theorem tb_209 : Cond.code ⟨"TurnCounts", "beside", "(III)I"⟩ prog_1_method_3_code 4 (Option.some FieldType.int) ∈ tg := List.mem_filter.mpr ⟨List.mem_append_right _ (List.mem_append_left _ (List.mem_of_getElem? (i := 209) (by decide +kernel))), by decide +kernel⟩
theorem tb_210 : Cond.methodLink "TurnCounts" 64 ⟨"TurnCounts", "isKind", "(I)Z"⟩ ∈ tg := List.mem_filter.mpr ⟨List.mem_append_right _ (List.mem_append_left _ (List.mem_of_getElem? (i := 210) (by decide +kernel))), by decide +kernel⟩
theorem tb_211 : Cond.static ⟨"TurnCounts", "isKind", "(I)Z"⟩ ∈ tg := List.mem_filter.mpr ⟨List.mem_append_right _ (List.mem_append_left _ (List.mem_of_getElem? (i := 211) (by decide +kernel))), by decide +kernel⟩
theorem tb_212 : Cond.code ⟨"TurnCounts", "isKind", "(I)Z"⟩ prog_1_method_22_code 1 (Option.some FieldType.boolean) ∈ tg := List.mem_filter.mpr ⟨List.mem_append_right _ (List.mem_append_left _ (List.mem_of_getElem? (i := 212) (by decide +kernel))), by decide +kernel⟩
theorem tb_213 : Cond.methodLink "TurnCounts" 68 ⟨"TurnCounts$Group", "widenByKind", "(IIII)V"⟩ ∈ tg := List.mem_filter.mpr ⟨List.mem_append_right _ (List.mem_append_left _ (List.mem_of_getElem? (i := 213) (by decide +kernel))), by decide +kernel⟩
theorem tb_214 : Cond.instanceMethod ⟨"TurnCounts$Group", "widenByKind", "(IIII)V"⟩ ∈ tg := List.mem_filter.mpr ⟨List.mem_append_right _ (List.mem_append_left _ (List.mem_of_getElem? (i := 214) (by decide +kernel))), by decide +kernel⟩
theorem tb_215 : Cond.selects "TurnCounts$Group" ⟨"TurnCounts$Group", "widenByKind", "(IIII)V"⟩ ⟨"TurnCounts$Group", "widenByKind", "(IIII)V"⟩ ∈ tg := List.mem_filter.mpr ⟨List.mem_append_right _ (List.mem_append_left _ (List.mem_of_getElem? (i := 215) (by decide +kernel))), by decide +kernel⟩
theorem tb_216 : Cond.code ⟨"TurnCounts$Group", "widenByKind", "(IIII)V"⟩ prog_2_method_6_code 6 (Option.none : Option FieldType) ∈ tg := List.mem_filter.mpr ⟨List.mem_append_right _ (List.mem_append_left _ (List.mem_of_getElem? (i := 216) (by decide +kernel))), by decide +kernel⟩
theorem tb_217 : Cond.methodLink "TurnCounts$Group" 48 ⟨"TurnCounts$Turns", "roundTurn", "(III)I"⟩ ∈ tg := List.mem_filter.mpr ⟨List.mem_append_right _ (List.mem_append_left _ (List.mem_of_getElem? (i := 217) (by decide +kernel))), by decide +kernel⟩
theorem tb_218 : Cond.static ⟨"TurnCounts$Turns", "roundTurn", "(III)I"⟩ ∈ tg := List.mem_filter.mpr ⟨List.mem_append_right _ (List.mem_append_left _ (List.mem_of_getElem? (i := 218) (by decide +kernel))), by decide +kernel⟩
theorem tb_219 : Cond.code ⟨"TurnCounts$Turns", "roundTurn", "(III)I"⟩ prog_6_method_9_code 6 (Option.some FieldType.int) ∈ tg := List.mem_filter.mpr ⟨List.mem_append_right _ (List.mem_append_left _ (List.mem_of_getElem? (i := 219) (by decide +kernel))), by decide +kernel⟩
theorem tb_220 : Cond.constant "TurnCounts$Turns" 24 (42798 : Int32) ∈ tg := List.mem_filter.mpr ⟨List.mem_append_right _ (List.mem_append_left _ (List.mem_of_getElem? (i := 220) (by decide +kernel))), by decide +kernel⟩
theorem tb_221 : Cond.methodLink "TurnCounts$Turns" 28 ⟨"TurnCounts$Turns", "withThing", "(IIII)I"⟩ ∈ tg := List.mem_filter.mpr ⟨List.mem_append_right _ (List.mem_append_left _ (List.mem_of_getElem? (i := 221) (by decide +kernel))), by decide +kernel⟩
theorem tb_222 : Cond.static ⟨"TurnCounts$Turns", "withThing", "(IIII)I"⟩ ∈ tg := List.mem_filter.mpr ⟨List.mem_append_right _ (List.mem_append_left _ (List.mem_of_getElem? (i := 222) (by decide +kernel))), by decide +kernel⟩
theorem tb_223 : Cond.code ⟨"TurnCounts$Turns", "withThing", "(IIII)I"⟩ prog_6_method_11_code 6 (Option.some FieldType.int) ∈ tg := List.mem_filter.mpr ⟨List.mem_append_right _ (List.mem_append_left _ (List.mem_of_getElem? (i := 223) (by decide +kernel))), by decide +kernel⟩
theorem tb_224 : Cond.methodLink "TurnCounts$Turns" 32 ⟨"TurnCounts$Turns", "withGoal", "(III)I"⟩ ∈ tg := List.mem_filter.mpr ⟨List.mem_append_right _ (List.mem_append_left _ (List.mem_of_getElem? (i := 224) (by decide +kernel))), by decide +kernel⟩
theorem tb_225 : Cond.static ⟨"TurnCounts$Turns", "withGoal", "(III)I"⟩ ∈ tg := List.mem_filter.mpr ⟨List.mem_append_right _ (List.mem_append_left _ (List.mem_of_getElem? (i := 225) (by decide +kernel))), by decide +kernel⟩
theorem tb_226 : Cond.code ⟨"TurnCounts$Turns", "withGoal", "(III)I"⟩ prog_6_method_3_code 4 (Option.some FieldType.int) ∈ tg := List.mem_filter.mpr ⟨List.mem_append_right _ (List.mem_append_left _ (List.mem_of_getElem? (i := 226) (by decide +kernel))), by decide +kernel⟩
theorem tb_227 : Cond.methodLink "TurnCounts$Group" 52 ⟨"TurnCounts$Group", "widen", "(I)V"⟩ ∈ tg := List.mem_filter.mpr ⟨List.mem_append_right _ (List.mem_append_left _ (List.mem_of_getElem? (i := 227) (by decide +kernel))), by decide +kernel⟩
theorem tb_228 : Cond.instanceMethod ⟨"TurnCounts$Group", "widen", "(I)V"⟩ ∈ tg := List.mem_filter.mpr ⟨List.mem_append_right _ (List.mem_append_left _ (List.mem_of_getElem? (i := 228) (by decide +kernel))), by decide +kernel⟩
theorem tb_229 : Cond.selects "TurnCounts$Group" ⟨"TurnCounts$Group", "widen", "(I)V"⟩ ⟨"TurnCounts$Group", "widen", "(I)V"⟩ ∈ tg := List.mem_filter.mpr ⟨List.mem_append_right _ (List.mem_append_left _ (List.mem_of_getElem? (i := 229) (by decide +kernel))), by decide +kernel⟩
theorem tb_230 : Cond.code ⟨"TurnCounts$Group", "widen", "(I)V"⟩ prog_2_method_7_code 6 (Option.none : Option FieldType) ∈ tg := List.mem_filter.mpr ⟨List.mem_append_right _ (List.mem_append_left _ (List.mem_of_getElem? (i := 230) (by decide +kernel))), by decide +kernel⟩
theorem tb_231 : Cond.methodLink "TurnCounts$Group" 58 ⟨"TurnCounts$Group", "has", "(I)Z"⟩ ∈ tg := List.mem_filter.mpr ⟨List.mem_append_right _ (List.mem_append_left _ (List.mem_of_getElem? (i := 231) (by decide +kernel))), by decide +kernel⟩
theorem tb_232 : Cond.instanceMethod ⟨"TurnCounts$Group", "has", "(I)Z"⟩ ∈ tg := List.mem_filter.mpr ⟨List.mem_append_right _ (List.mem_append_left _ (List.mem_of_getElem? (i := 232) (by decide +kernel))), by decide +kernel⟩
theorem tb_233 : Cond.selects "TurnCounts$Group" ⟨"TurnCounts$Group", "has", "(I)Z"⟩ ⟨"TurnCounts$Group", "has", "(I)Z"⟩ ∈ tg := List.mem_filter.mpr ⟨List.mem_append_right _ (List.mem_append_left _ (List.mem_of_getElem? (i := 233) (by decide +kernel))), by decide +kernel⟩
theorem tb_234 : Cond.code ⟨"TurnCounts$Group", "has", "(I)Z"⟩ prog_2_method_4_code 3 (Option.some FieldType.boolean) ∈ tg := List.mem_filter.mpr ⟨List.mem_append_right _ (List.mem_append_left _ (List.mem_of_getElem? (i := 234) (by decide +kernel))), by decide +kernel⟩
theorem tb_235 : Cond.methodLink "TurnCounts$Group" 62 ⟨"TurnCounts$Group", "addCopy", "(II)V"⟩ ∈ tg := List.mem_filter.mpr ⟨List.mem_append_right _ (List.mem_append_left _ (List.mem_of_getElem? (i := 235) (by decide +kernel))), by decide +kernel⟩
theorem tb_237 : Cond.instanceMethod ⟨"TurnCounts$Group", "addCopy", "(II)V"⟩ ∈ tg := List.mem_filter.mpr ⟨List.mem_append_right _ (List.mem_append_left _ (List.mem_of_getElem? (i := 237) (by decide +kernel))), by decide +kernel⟩
theorem tb_238 : Cond.code ⟨"TurnCounts$Group", "addCopy", "(II)V"⟩ prog_2_method_8_code 4 (Option.none : Option FieldType) ∈ tg := List.mem_filter.mpr ⟨List.mem_append_right _ (List.mem_append_left _ (List.mem_of_getElem? (i := 238) (by decide +kernel))), by decide +kernel⟩
theorem tb_239 : Cond.methodLink "TurnCounts$Group" 66 ⟨"TurnCounts$Turns", "oneThenOther", "(II)I"⟩ ∈ tg := List.mem_filter.mpr ⟨List.mem_append_right _ (List.mem_append_left _ (List.mem_of_getElem? (i := 239) (by decide +kernel))), by decide +kernel⟩
theorem tb_240 : Cond.static ⟨"TurnCounts$Turns", "oneThenOther", "(II)I"⟩ ∈ tg := List.mem_filter.mpr ⟨List.mem_append_right _ (List.mem_append_right _ (List.mem_append_left _ (List.mem_of_getElem? (i := 0) (by decide +kernel)))), by decide +kernel⟩
theorem tb_241 : Cond.code ⟨"TurnCounts$Turns", "oneThenOther", "(II)I"⟩ prog_6_method_4_code 4 (Option.some FieldType.int) ∈ tg := List.mem_filter.mpr ⟨List.mem_append_right _ (List.mem_append_right _ (List.mem_append_left _ (List.mem_of_getElem? (i := 1) (by decide +kernel)))), by decide +kernel⟩
theorem tb_242 : Cond.methodLink "TurnCounts$Group" 55 ⟨"TurnCounts$Turns", "flipTurn", "(III)I"⟩ ∈ tg := List.mem_filter.mpr ⟨List.mem_append_right _ (List.mem_append_right _ (List.mem_append_left _ (List.mem_of_getElem? (i := 2) (by decide +kernel)))), by decide +kernel⟩
theorem tb_243 : Cond.static ⟨"TurnCounts$Turns", "flipTurn", "(III)I"⟩ ∈ tg := List.mem_filter.mpr ⟨List.mem_append_right _ (List.mem_append_right _ (List.mem_append_left _ (List.mem_of_getElem? (i := 3) (by decide +kernel)))), by decide +kernel⟩
theorem tb_244 : Cond.code ⟨"TurnCounts$Turns", "flipTurn", "(III)I"⟩ prog_6_method_10_code 5 (Option.some FieldType.int) ∈ tg := List.mem_filter.mpr ⟨List.mem_append_right _ (List.mem_append_right _ (List.mem_append_left _ (List.mem_of_getElem? (i := 4) (by decide +kernel)))), by decide +kernel⟩
theorem tb_245 : Cond.methodLink "TurnCountsLaw" 23 ⟨"TurnCounts", "blocks", "(III)I"⟩ ∈ tg := List.mem_filter.mpr ⟨List.mem_append_right _ (List.mem_append_right _ (List.mem_append_left _ (List.mem_of_getElem? (i := 5) (by decide +kernel)))), by decide +kernel⟩
theorem tb_246 : Cond.instanceMethod ⟨"TurnCounts", "blocks", "(III)I"⟩ ∈ tg := List.mem_filter.mpr ⟨List.mem_append_right _ (List.mem_append_right _ (List.mem_append_left _ (List.mem_of_getElem? (i := 6) (by decide +kernel)))), by decide +kernel⟩
theorem tb_247 : Cond.selects "TurnCounts" ⟨"TurnCounts", "blocks", "(III)I"⟩ ⟨"TurnCounts", "blocks", "(III)I"⟩ ∈ tg := List.mem_filter.mpr ⟨List.mem_append_right _ (List.mem_append_right _ (List.mem_append_left _ (List.mem_of_getElem? (i := 7) (by decide +kernel)))), by decide +kernel⟩
theorem tb_248 : Cond.code ⟨"TurnCounts", "blocks", "(III)I"⟩ prog_1_method_4_code 6 (Option.some FieldType.int) ∈ tg := List.mem_filter.mpr ⟨List.mem_append_right _ (List.mem_append_right _ (List.mem_append_left _ (List.mem_of_getElem? (i := 8) (by decide +kernel)))), by decide +kernel⟩
theorem tb_249 : Cond.methodLink "TurnCountsLaw" 27 ⟨"TurnCounts", "join", "()I"⟩ ∈ tg := List.mem_filter.mpr ⟨List.mem_append_right _ (List.mem_append_right _ (List.mem_append_left _ (List.mem_of_getElem? (i := 9) (by decide +kernel)))), by decide +kernel⟩
theorem tb_250 : Cond.instanceMethod ⟨"TurnCounts", "join", "()I"⟩ ∈ tg := List.mem_filter.mpr ⟨List.mem_append_right _ (List.mem_append_right _ (List.mem_append_left _ (List.mem_of_getElem? (i := 10) (by decide +kernel)))), by decide +kernel⟩
theorem tb_251 : Cond.selects "TurnCounts" ⟨"TurnCounts", "join", "()I"⟩ ⟨"TurnCounts", "join", "()I"⟩ ∈ tg := List.mem_filter.mpr ⟨List.mem_append_right _ (List.mem_append_right _ (List.mem_append_left _ (List.mem_of_getElem? (i := 11) (by decide +kernel)))), by decide +kernel⟩
theorem tb_252 : Cond.code ⟨"TurnCounts", "join", "()I"⟩ prog_1_method_5_code 2 (Option.some FieldType.int) ∈ tg := List.mem_filter.mpr ⟨List.mem_append_right _ (List.mem_append_right _ (List.mem_append_left _ (List.mem_of_getElem? (i := 12) (by decide +kernel)))), by decide +kernel⟩
theorem tb_253 : Cond.methodLink "TurnCounts" 75 ⟨"TurnCounts$Pad", "toldTurn", "(I)I"⟩ ∈ tg := List.mem_filter.mpr ⟨List.mem_append_right _ (List.mem_append_right _ (List.mem_append_left _ (List.mem_of_getElem? (i := 13) (by decide +kernel)))), by decide +kernel⟩
theorem tb_254 : Cond.instanceMethod ⟨"TurnCounts$Pad", "toldTurn", "(I)I"⟩ ∈ tg := List.mem_filter.mpr ⟨List.mem_append_right _ (List.mem_append_right _ (List.mem_append_left _ (List.mem_of_getElem? (i := 14) (by decide +kernel)))), by decide +kernel⟩
theorem tb_255 : Cond.selects "TurnCounts$Pad" ⟨"TurnCounts$Pad", "toldTurn", "(I)I"⟩ ⟨"TurnCounts$Pad", "toldTurn", "(I)I"⟩ ∈ tg := List.mem_filter.mpr ⟨List.mem_append_right _ (List.mem_append_right _ (List.mem_append_left _ (List.mem_of_getElem? (i := 15) (by decide +kernel)))), by decide +kernel⟩
theorem tb_256 : Cond.code ⟨"TurnCounts$Pad", "toldTurn", "(I)I"⟩ prog_3_method_2_code 6 (Option.some FieldType.int) ∈ tg := List.mem_filter.mpr ⟨List.mem_append_right _ (List.mem_append_right _ (List.mem_append_left _ (List.mem_of_getElem? (i := 16) (by decide +kernel)))), by decide +kernel⟩
theorem tb_257 : Cond.constant "TurnCounts$Pad" 19 (42798 : Int32) ∈ tg := List.mem_filter.mpr ⟨List.mem_append_right _ (List.mem_append_right _ (List.mem_append_left _ (List.mem_of_getElem? (i := 17) (by decide +kernel)))), by decide +kernel⟩
theorem tb_258 : Cond.methodLink "TurnCounts$Pad" 20 ⟨"TurnCounts$Turns", "withGoal", "(III)I"⟩ ∈ tg := List.mem_filter.mpr ⟨List.mem_append_right _ (List.mem_append_right _ (List.mem_append_left _ (List.mem_of_getElem? (i := 18) (by decide +kernel)))), by decide +kernel⟩
theorem tb_259 : Cond.methodLink "TurnCounts" 82 ⟨"TurnCounts$Group", "has", "(I)Z"⟩ ∈ tg := List.mem_filter.mpr ⟨List.mem_append_right _ (List.mem_append_right _ (List.mem_append_left _ (List.mem_of_getElem? (i := 19) (by decide +kernel)))), by decide +kernel⟩
theorem tb_260 : Cond.methodLink "TurnCounts" 85 ⟨"TurnCounts$Group", "widen", "(I)V"⟩ ∈ tg := List.mem_filter.mpr ⟨List.mem_append_right _ (List.mem_append_right _ (List.mem_append_left _ (List.mem_of_getElem? (i := 20) (by decide +kernel)))), by decide +kernel⟩
theorem tb_261 : Cond.methodLink "TurnCountsLaw" 32 ⟨"TurnCounts", "say", "(I)I"⟩ ∈ tg := List.mem_filter.mpr ⟨List.mem_append_right _ (List.mem_append_right _ (List.mem_append_left _ (List.mem_of_getElem? (i := 21) (by decide +kernel)))), by decide +kernel⟩
theorem tb_262 : Cond.instanceMethod ⟨"TurnCounts", "say", "(I)I"⟩ ∈ tg := List.mem_filter.mpr ⟨List.mem_append_right _ (List.mem_append_right _ (List.mem_append_left _ (List.mem_of_getElem? (i := 22) (by decide +kernel)))), by decide +kernel⟩
theorem tb_263 : Cond.selects "TurnCounts" ⟨"TurnCounts", "say", "(I)I"⟩ ⟨"TurnCounts", "say", "(I)I"⟩ ∈ tg := List.mem_filter.mpr ⟨List.mem_append_right _ (List.mem_append_right _ (List.mem_append_left _ (List.mem_of_getElem? (i := 23) (by decide +kernel)))), by decide +kernel⟩
theorem tb_264 : Cond.code ⟨"TurnCounts", "say", "(I)I"⟩ prog_1_method_6_code 2 (Option.some FieldType.int) ∈ tg := List.mem_filter.mpr ⟨List.mem_append_right _ (List.mem_append_right _ (List.mem_append_left _ (List.mem_of_getElem? (i := 24) (by decide +kernel)))), by decide +kernel⟩
theorem tb_265 : Cond.methodLink "TurnCountsLaw" 36 ⟨"TurnCounts", "wipe", "()I"⟩ ∈ tg := List.mem_filter.mpr ⟨List.mem_append_right _ (List.mem_append_right _ (List.mem_append_left _ (List.mem_of_getElem? (i := 25) (by decide +kernel)))), by decide +kernel⟩
theorem tb_266 : Cond.instanceMethod ⟨"TurnCounts", "wipe", "()I"⟩ ∈ tg := List.mem_filter.mpr ⟨List.mem_append_right _ (List.mem_append_right _ (List.mem_append_left _ (List.mem_of_getElem? (i := 26) (by decide +kernel)))), by decide +kernel⟩
theorem tb_267 : Cond.selects "TurnCounts" ⟨"TurnCounts", "wipe", "()I"⟩ ⟨"TurnCounts", "wipe", "()I"⟩ ∈ tg := List.mem_filter.mpr ⟨List.mem_append_right _ (List.mem_append_right _ (List.mem_append_left _ (List.mem_of_getElem? (i := 27) (by decide +kernel)))), by decide +kernel⟩
theorem tb_268 : Cond.code ⟨"TurnCounts", "wipe", "()I"⟩ prog_1_method_7_code 2 (Option.some FieldType.int) ∈ tg := List.mem_filter.mpr ⟨List.mem_append_right _ (List.mem_append_right _ (List.mem_append_left _ (List.mem_of_getElem? (i := 28) (by decide +kernel)))), by decide +kernel⟩
theorem tb_269 : Cond.methodLink "TurnCountsLaw" 40 ⟨"TurnCounts", "turn", "(I)I"⟩ ∈ tg := List.mem_filter.mpr ⟨List.mem_append_right _ (List.mem_append_right _ (List.mem_append_left _ (List.mem_of_getElem? (i := 29) (by decide +kernel)))), by decide +kernel⟩
theorem tb_270 : Cond.instanceMethod ⟨"TurnCounts", "turn", "(I)I"⟩ ∈ tg := List.mem_filter.mpr ⟨List.mem_append_right _ (List.mem_append_right _ (List.mem_append_left _ (List.mem_of_getElem? (i := 30) (by decide +kernel)))), by decide +kernel⟩
theorem tb_271 : Cond.selects "TurnCounts" ⟨"TurnCounts", "turn", "(I)I"⟩ ⟨"TurnCounts", "turn", "(I)I"⟩ ∈ tg := List.mem_filter.mpr ⟨List.mem_append_right _ (List.mem_append_right _ (List.mem_append_left _ (List.mem_of_getElem? (i := 31) (by decide +kernel)))), by decide +kernel⟩
theorem tb_272 : Cond.code ⟨"TurnCounts", "turn", "(I)I"⟩ prog_1_method_8_code 3 (Option.some FieldType.int) ∈ tg := List.mem_filter.mpr ⟨List.mem_append_right _ (List.mem_append_right _ (List.mem_append_left _ (List.mem_of_getElem? (i := 32) (by decide +kernel)))), by decide +kernel⟩
theorem tb_273 : Cond.methodLink "TurnCounts" 93 ⟨"TurnCounts$Turns", "typeOf", "(II)I"⟩ ∈ tg := List.mem_filter.mpr ⟨List.mem_append_right _ (List.mem_append_right _ (List.mem_append_left _ (List.mem_of_getElem? (i := 33) (by decide +kernel)))), by decide +kernel⟩
theorem tb_274 : Cond.static ⟨"TurnCounts$Turns", "typeOf", "(II)I"⟩ ∈ tg := List.mem_filter.mpr ⟨List.mem_append_right _ (List.mem_append_right _ (List.mem_append_left _ (List.mem_of_getElem? (i := 34) (by decide +kernel)))), by decide +kernel⟩
theorem tb_275 : Cond.code ⟨"TurnCounts$Turns", "typeOf", "(II)I"⟩ prog_6_method_6_code 7 (Option.some FieldType.int) ∈ tg := List.mem_filter.mpr ⟨List.mem_append_right _ (List.mem_append_right _ (List.mem_append_left _ (List.mem_of_getElem? (i := 35) (by decide +kernel)))), by decide +kernel⟩
theorem tb_276 : Cond.methodLink "TurnCounts$Turns" 21 ⟨"TurnCounts$Turns", "tallyCycles", "(II)I"⟩ ∈ tg := List.mem_filter.mpr ⟨List.mem_append_right _ (List.mem_append_right _ (List.mem_append_left _ (List.mem_of_getElem? (i := 36) (by decide +kernel)))), by decide +kernel⟩
theorem tb_277 : Cond.static ⟨"TurnCounts$Turns", "tallyCycles", "(II)I"⟩ ∈ tg := List.mem_filter.mpr ⟨List.mem_append_right _ (List.mem_append_right _ (List.mem_append_left _ (List.mem_of_getElem? (i := 37) (by decide +kernel)))), by decide +kernel⟩
theorem tb_278 : Cond.code ⟨"TurnCounts$Turns", "tallyCycles", "(II)I"⟩ prog_6_method_7_code 7 (Option.some FieldType.int) ∈ tg := List.mem_filter.mpr ⟨List.mem_append_right _ (List.mem_append_right _ (List.mem_append_left _ (List.mem_of_getElem? (i := 38) (by decide +kernel)))), by decide +kernel⟩
theorem tb_279 : Cond.methodLink "TurnCounts" 99 ⟨"TurnCounts$Turns", "timesTillStill", "(I)I"⟩ ∈ tg := List.mem_filter.mpr ⟨List.mem_append_right _ (List.mem_append_right _ (List.mem_append_left _ (List.mem_of_getElem? (i := 39) (by decide +kernel)))), by decide +kernel⟩
theorem tb_280 : Cond.static ⟨"TurnCounts$Turns", "timesTillStill", "(I)I"⟩ ∈ tg := List.mem_filter.mpr ⟨List.mem_append_right _ (List.mem_append_right _ (List.mem_append_left _ (List.mem_of_getElem? (i := 40) (by decide +kernel)))), by decide +kernel⟩
theorem tb_281 : Cond.code ⟨"TurnCounts$Turns", "timesTillStill", "(I)I"⟩ prog_6_method_8_code 3 (Option.some FieldType.int) ∈ tg := List.mem_filter.mpr ⟨List.mem_append_right _ (List.mem_append_right _ (List.mem_append_left _ (List.mem_of_getElem? (i := 41) (by decide +kernel)))), by decide +kernel⟩
theorem tb_282 : Cond.methodLink "TurnCounts$Turns" 25 ⟨"TurnCounts$Turns", "oneThenOther", "(II)I"⟩ ∈ tg := List.mem_filter.mpr ⟨List.mem_append_right _ (List.mem_append_right _ (List.mem_append_left _ (List.mem_of_getElem? (i := 42) (by decide +kernel)))), by decide +kernel⟩
theorem tb_283 : Cond.methodLink "TurnCountsLaw" 44 ⟨"TurnCounts", "type", "(II)I"⟩ ∈ tg := List.mem_filter.mpr ⟨List.mem_append_right _ (List.mem_append_right _ (List.mem_append_left _ (List.mem_of_getElem? (i := 43) (by decide +kernel)))), by decide +kernel⟩
theorem tb_284 : Cond.instanceMethod ⟨"TurnCounts", "type", "(II)I"⟩ ∈ tg := List.mem_filter.mpr ⟨List.mem_append_right _ (List.mem_append_right _ (List.mem_append_left _ (List.mem_of_getElem? (i := 44) (by decide +kernel)))), by decide +kernel⟩
theorem tb_285 : Cond.selects "TurnCounts" ⟨"TurnCounts", "type", "(II)I"⟩ ⟨"TurnCounts", "type", "(II)I"⟩ ∈ tg := List.mem_filter.mpr ⟨List.mem_append_right _ (List.mem_append_right _ (List.mem_append_left _ (List.mem_of_getElem? (i := 45) (by decide +kernel)))), by decide +kernel⟩
theorem tb_286 : Cond.code ⟨"TurnCounts", "type", "(II)I"⟩ prog_1_method_9_code 3 (Option.some FieldType.int) ∈ tg := List.mem_filter.mpr ⟨List.mem_append_right _ (List.mem_append_right _ (List.mem_append_left _ (List.mem_of_getElem? (i := 46) (by decide +kernel)))), by decide +kernel⟩
theorem tb_287 : Cond.methodLink "TurnCounts" 102 ⟨"TurnCounts$TypeTable", "bringUp", "(LTurnCounts$Setting;)V"⟩ ∈ tg := List.mem_filter.mpr ⟨List.mem_append_right _ (List.mem_append_right _ (List.mem_append_left _ (List.mem_of_getElem? (i := 47) (by decide +kernel)))), by decide +kernel⟩
theorem tb_288 : Cond.instanceMethod ⟨"TurnCounts$TypeTable", "bringUp", "(LTurnCounts$Setting;)V"⟩ ∈ tg := List.mem_filter.mpr ⟨List.mem_append_right _ (List.mem_append_right _ (List.mem_append_left _ (List.mem_of_getElem? (i := 48) (by decide +kernel)))), by decide +kernel⟩
theorem tb_289 : Cond.selects "TurnCounts$TypeTable" ⟨"TurnCounts$TypeTable", "bringUp", "(LTurnCounts$Setting;)V"⟩ ⟨"TurnCounts$TypeTable", "bringUp", "(LTurnCounts$Setting;)V"⟩ ∈ tg := List.mem_filter.mpr ⟨List.mem_append_right _ (List.mem_append_right _ (List.mem_append_left _ (List.mem_of_getElem? (i := 49) (by decide +kernel)))), by decide +kernel⟩
theorem tb_290 : Cond.code ⟨"TurnCounts$TypeTable", "bringUp", "(LTurnCounts$Setting;)V"⟩ prog_7_method_2_code 3 (Option.none : Option FieldType) ∈ tg := List.mem_filter.mpr ⟨List.mem_append_right _ (List.mem_append_right _ (List.mem_append_left _ (List.mem_of_getElem? (i := 50) (by decide +kernel)))), by decide +kernel⟩
theorem tb_291 : Cond.methodLink "TurnCounts$TypeTable" 41 ⟨"TurnCounts$Turns", "typeOf", "(II)I"⟩ ∈ tg := List.mem_filter.mpr ⟨List.mem_append_right _ (List.mem_append_right _ (List.mem_append_left _ (List.mem_of_getElem? (i := 51) (by decide +kernel)))), by decide +kernel⟩
theorem tb_292 : Cond.methodLink "TurnCounts$TypeTable" 47 ⟨"TurnCounts$TypeTable", "add", "(I)V"⟩ ∈ tg := List.mem_filter.mpr ⟨List.mem_append_right _ (List.mem_append_right _ (List.mem_append_left _ (List.mem_of_getElem? (i := 52) (by decide +kernel)))), by decide +kernel⟩
theorem tb_294 : Cond.instanceMethod ⟨"TurnCounts$TypeTable", "add", "(I)V"⟩ ∈ tg := List.mem_filter.mpr ⟨List.mem_append_right _ (List.mem_append_right _ (List.mem_append_left _ (List.mem_of_getElem? (i := 54) (by decide +kernel)))), by decide +kernel⟩
theorem tb_295 : Cond.code ⟨"TurnCounts$TypeTable", "add", "(I)V"⟩ prog_7_method_3_code 3 (Option.none : Option FieldType) ∈ tg := List.mem_filter.mpr ⟨List.mem_append_right _ (List.mem_append_right _ (List.mem_append_left _ (List.mem_of_getElem? (i := 55) (by decide +kernel)))), by decide +kernel⟩
theorem tb_296 : Cond.methodLink "TurnCounts$TypeTable" 51 ⟨"TurnCounts$TypeTable", "insert", "(II)V"⟩ ∈ tg := List.mem_filter.mpr ⟨List.mem_append_right _ (List.mem_append_right _ (List.mem_append_left _ (List.mem_of_getElem? (i := 56) (by decide +kernel)))), by decide +kernel⟩
theorem tb_298 : Cond.instanceMethod ⟨"TurnCounts$TypeTable", "insert", "(II)V"⟩ ∈ tg := List.mem_filter.mpr ⟨List.mem_append_right _ (List.mem_append_right _ (List.mem_append_left _ (List.mem_of_getElem? (i := 58) (by decide +kernel)))), by decide +kernel⟩
theorem tb_299 : Cond.code ⟨"TurnCounts$TypeTable", "insert", "(II)V"⟩ prog_7_method_4_code 4 (Option.none : Option FieldType) ∈ tg := List.mem_filter.mpr ⟨List.mem_append_right _ (List.mem_append_right _ (List.mem_append_left _ (List.mem_of_getElem? (i := 59) (by decide +kernel)))), by decide +kernel⟩
theorem tb_300 : Cond.methodLink "TurnCountsLaw" 49 ⟨"TurnCounts", "orbit", "(II)I"⟩ ∈ tg := List.mem_filter.mpr ⟨List.mem_append_right _ (List.mem_append_right _ (List.mem_append_left _ (List.mem_of_getElem? (i := 60) (by decide +kernel)))), by decide +kernel⟩
theorem tb_301 : Cond.instanceMethod ⟨"TurnCounts", "orbit", "(II)I"⟩ ∈ tg := List.mem_filter.mpr ⟨List.mem_append_right _ (List.mem_append_right _ (List.mem_append_left _ (List.mem_of_getElem? (i := 61) (by decide +kernel)))), by decide +kernel⟩
theorem tb_302 : Cond.selects "TurnCounts" ⟨"TurnCounts", "orbit", "(II)I"⟩ ⟨"TurnCounts", "orbit", "(II)I"⟩ ∈ tg := List.mem_filter.mpr ⟨List.mem_append_right _ (List.mem_append_right _ (List.mem_append_left _ (List.mem_of_getElem? (i := 62) (by decide +kernel)))), by decide +kernel⟩
theorem tb_303 : Cond.code ⟨"TurnCounts", "orbit", "(II)I"⟩ prog_1_method_10_code 3 (Option.some FieldType.int) ∈ tg := List.mem_filter.mpr ⟨List.mem_append_right _ (List.mem_append_right _ (List.mem_append_left _ (List.mem_of_getElem? (i := 63) (by decide +kernel)))), by decide +kernel⟩
theorem tb_304 : Cond.methodLink "TurnCounts" 115 ⟨"TurnCounts$Group", "reachFrom", "(I)I"⟩ ∈ tg := List.mem_filter.mpr ⟨List.mem_append_right _ (List.mem_append_right _ (List.mem_append_left _ (List.mem_of_getElem? (i := 64) (by decide +kernel)))), by decide +kernel⟩
theorem tb_305 : Cond.instanceMethod ⟨"TurnCounts$Group", "reachFrom", "(I)I"⟩ ∈ tg := List.mem_filter.mpr ⟨List.mem_append_right _ (List.mem_append_right _ (List.mem_append_left _ (List.mem_of_getElem? (i := 65) (by decide +kernel)))), by decide +kernel⟩
theorem tb_306 : Cond.selects "TurnCounts$Group" ⟨"TurnCounts$Group", "reachFrom", "(I)I"⟩ ⟨"TurnCounts$Group", "reachFrom", "(I)I"⟩ ∈ tg := List.mem_filter.mpr ⟨List.mem_append_right _ (List.mem_append_right _ (List.mem_append_left _ (List.mem_of_getElem? (i := 66) (by decide +kernel)))), by decide +kernel⟩
theorem tb_307 : Cond.code ⟨"TurnCounts$Group", "reachFrom", "(I)I"⟩ prog_2_method_9_code 4 (Option.some FieldType.int) ∈ tg := List.mem_filter.mpr ⟨List.mem_append_right _ (List.mem_append_right _ (List.mem_append_left _ (List.mem_of_getElem? (i := 67) (by decide +kernel)))), by decide +kernel⟩
theorem tb_308 : Cond.methodLink "TurnCounts$Group" 70 ⟨"TurnCounts$Turns", "goal", "(II)I"⟩ ∈ tg := List.mem_filter.mpr ⟨List.mem_append_right _ (List.mem_append_right _ (List.mem_append_left _ (List.mem_of_getElem? (i := 68) (by decide +kernel)))), by decide +kernel⟩
theorem tb_309 : Cond.methodLink "TurnCounts$Group" 73 ⟨"java/lang/Integer", "bitCount", "(I)I"⟩ ∈ tg := List.mem_filter.mpr ⟨List.mem_append_right _ (List.mem_append_right _ (List.mem_append_left _ (List.mem_of_getElem? (i := 69) (by decide +kernel)))), by decide +kernel⟩
theorem tb_310 : Cond.methodLink "TurnCounts" 118 ⟨"TurnCounts$Group", "holding", "(I)I"⟩ ∈ tg := List.mem_filter.mpr ⟨List.mem_append_right _ (List.mem_append_right _ (List.mem_append_left _ (List.mem_of_getElem? (i := 70) (by decide +kernel)))), by decide +kernel⟩
theorem tb_311 : Cond.instanceMethod ⟨"TurnCounts$Group", "holding", "(I)I"⟩ ∈ tg := List.mem_filter.mpr ⟨List.mem_append_right _ (List.mem_append_right _ (List.mem_append_left _ (List.mem_of_getElem? (i := 71) (by decide +kernel)))), by decide +kernel⟩
theorem tb_312 : Cond.selects "TurnCounts$Group" ⟨"TurnCounts$Group", "holding", "(I)I"⟩ ⟨"TurnCounts$Group", "holding", "(I)I"⟩ ∈ tg := List.mem_filter.mpr ⟨List.mem_append_right _ (List.mem_append_right _ (List.mem_append_left _ (List.mem_of_getElem? (i := 72) (by decide +kernel)))), by decide +kernel⟩
theorem tb_313 : Cond.code ⟨"TurnCounts$Group", "holding", "(I)I"⟩ prog_2_method_10_code 4 (Option.some FieldType.int) ∈ tg := List.mem_filter.mpr ⟨List.mem_append_right _ (List.mem_append_right _ (List.mem_append_left _ (List.mem_of_getElem? (i := 73) (by decide +kernel)))), by decide +kernel⟩
theorem tb_314 : Cond.methodLink "TurnCountsLaw" 53 ⟨"TurnCounts", "sorts", "(I)I"⟩ ∈ tg := List.mem_filter.mpr ⟨List.mem_append_right _ (List.mem_append_right _ (List.mem_append_left _ (List.mem_of_getElem? (i := 74) (by decide +kernel)))), by decide +kernel⟩
theorem tb_315 : Cond.instanceMethod ⟨"TurnCounts", "sorts", "(I)I"⟩ ∈ tg := List.mem_filter.mpr ⟨List.mem_append_right _ (List.mem_append_right _ (List.mem_append_left _ (List.mem_of_getElem? (i := 75) (by decide +kernel)))), by decide +kernel⟩
theorem tb_316 : Cond.selects "TurnCounts" ⟨"TurnCounts", "sorts", "(I)I"⟩ ⟨"TurnCounts", "sorts", "(I)I"⟩ ∈ tg := List.mem_filter.mpr ⟨List.mem_append_right _ (List.mem_append_right _ (List.mem_append_left _ (List.mem_of_getElem? (i := 76) (by decide +kernel)))), by decide +kernel⟩
theorem tb_317 : Cond.code ⟨"TurnCounts", "sorts", "(I)I"⟩ prog_1_method_11_code 3 (Option.some FieldType.int) ∈ tg := List.mem_filter.mpr ⟨List.mem_append_right _ (List.mem_append_right _ (List.mem_append_left _ (List.mem_of_getElem? (i := 77) (by decide +kernel)))), by decide +kernel⟩
theorem tb_318 : Cond.methodLink "TurnCountsLaw" 57 ⟨"TurnCounts", "weight", "(II)I"⟩ ∈ tg := List.mem_filter.mpr ⟨List.mem_append_right _ (List.mem_append_right _ (List.mem_append_left _ (List.mem_of_getElem? (i := 78) (by decide +kernel)))), by decide +kernel⟩
theorem tb_319 : Cond.instanceMethod ⟨"TurnCounts", "weight", "(II)I"⟩ ∈ tg := List.mem_filter.mpr ⟨List.mem_append_right _ (List.mem_append_right _ (List.mem_append_left _ (List.mem_of_getElem? (i := 79) (by decide +kernel)))), by decide +kernel⟩
theorem tb_320 : Cond.selects "TurnCounts" ⟨"TurnCounts", "weight", "(II)I"⟩ ⟨"TurnCounts", "weight", "(II)I"⟩ ∈ tg := List.mem_filter.mpr ⟨List.mem_append_right _ (List.mem_append_right _ (List.mem_append_left _ (List.mem_of_getElem? (i := 80) (by decide +kernel)))), by decide +kernel⟩
theorem tb_321 : Cond.code ⟨"TurnCounts", "weight", "(II)I"⟩ prog_1_method_12_code 4 (Option.some FieldType.int) ∈ tg := List.mem_filter.mpr ⟨List.mem_append_right _ (List.mem_append_right _ (List.mem_append_left _ (List.mem_of_getElem? (i := 81) (by decide +kernel)))), by decide +kernel⟩
theorem tb_322 : Cond.methodLink "TurnCountsLaw" 61 ⟨"TurnCounts", "patterns", "(I)I"⟩ ∈ tg := List.mem_filter.mpr ⟨List.mem_append_right _ (List.mem_append_right _ (List.mem_append_left _ (List.mem_of_getElem? (i := 82) (by decide +kernel)))), by decide +kernel⟩
theorem tb_323 : Cond.instanceMethod ⟨"TurnCounts", "patterns", "(I)I"⟩ ∈ tg := List.mem_filter.mpr ⟨List.mem_append_right _ (List.mem_append_right _ (List.mem_append_left _ (List.mem_of_getElem? (i := 83) (by decide +kernel)))), by decide +kernel⟩
theorem tb_324 : Cond.selects "TurnCounts" ⟨"TurnCounts", "patterns", "(I)I"⟩ ⟨"TurnCounts", "patterns", "(I)I"⟩ ∈ tg := List.mem_filter.mpr ⟨List.mem_append_right _ (List.mem_append_right _ (List.mem_append_left _ (List.mem_of_getElem? (i := 84) (by decide +kernel)))), by decide +kernel⟩
theorem tb_325 : Cond.code ⟨"TurnCounts", "patterns", "(I)I"⟩ prog_1_method_13_code 2 (Option.some FieldType.int) ∈ tg := List.mem_filter.mpr ⟨List.mem_append_right _ (List.mem_append_right _ (List.mem_append_left _ (List.mem_of_getElem? (i := 85) (by decide +kernel)))), by decide +kernel⟩
theorem tb_326 : Cond.methodLink "TurnCounts" 131 ⟨"TurnCounts$PatternTable", "bringUp", "(LTurnCounts$Setting;)V"⟩ ∈ tg := List.mem_filter.mpr ⟨List.mem_append_right _ (List.mem_append_right _ (List.mem_append_left _ (List.mem_of_getElem? (i := 86) (by decide +kernel)))), by decide +kernel⟩
theorem tb_327 : Cond.instanceMethod ⟨"TurnCounts$PatternTable", "bringUp", "(LTurnCounts$Setting;)V"⟩ ∈ tg := List.mem_filter.mpr ⟨List.mem_append_right _ (List.mem_append_right _ (List.mem_append_left _ (List.mem_of_getElem? (i := 87) (by decide +kernel)))), by decide +kernel⟩
theorem tb_328 : Cond.selects "TurnCounts$PatternTable" ⟨"TurnCounts$PatternTable", "bringUp", "(LTurnCounts$Setting;)V"⟩ ⟨"TurnCounts$PatternTable", "bringUp", "(LTurnCounts$Setting;)V"⟩ ∈ tg := List.mem_filter.mpr ⟨List.mem_append_right _ (List.mem_append_right _ (List.mem_append_left _ (List.mem_of_getElem? (i := 88) (by decide +kernel)))), by decide +kernel⟩
theorem tb_329 : Cond.code ⟨"TurnCounts$PatternTable", "bringUp", "(LTurnCounts$Setting;)V"⟩ prog_4_method_2_code 4 (Option.none : Option FieldType) ∈ tg := List.mem_filter.mpr ⟨List.mem_append_right _ (List.mem_append_right _ (List.mem_append_left _ (List.mem_of_getElem? (i := 89) (by decide +kernel)))), by decide +kernel⟩
theorem tb_330 : Cond.methodLink "TurnCounts$PatternTable" 41 ⟨"TurnCounts$PatternTable", "setPlaces", "(LTurnCounts$Setting;)V"⟩ ∈ tg := List.mem_filter.mpr ⟨List.mem_append_right _ (List.mem_append_right _ (List.mem_append_left _ (List.mem_of_getElem? (i := 90) (by decide +kernel)))), by decide +kernel⟩
theorem tb_332 : Cond.instanceMethod ⟨"TurnCounts$PatternTable", "setPlaces", "(LTurnCounts$Setting;)V"⟩ ∈ tg := List.mem_filter.mpr ⟨List.mem_append_right _ (List.mem_append_right _ (List.mem_append_left _ (List.mem_of_getElem? (i := 92) (by decide +kernel)))), by decide +kernel⟩
theorem tb_333 : Cond.code ⟨"TurnCounts$PatternTable", "setPlaces", "(LTurnCounts$Setting;)V"⟩ prog_4_method_3_code 4 (Option.none : Option FieldType) ∈ tg := List.mem_filter.mpr ⟨List.mem_append_right _ (List.mem_append_right _ (List.mem_append_left _ (List.mem_of_getElem? (i := 93) (by decide +kernel)))), by decide +kernel⟩
theorem tb_334 : Cond.methodLink "TurnCounts$PatternTable" 45 ⟨"TurnCounts$Setting", "colourings", "()I"⟩ ∈ tg := List.mem_filter.mpr ⟨List.mem_append_right _ (List.mem_append_right _ (List.mem_append_left _ (List.mem_of_getElem? (i := 94) (by decide +kernel)))), by decide +kernel⟩
theorem tb_335 : Cond.instanceMethod ⟨"TurnCounts$Setting", "colourings", "()I"⟩ ∈ tg := List.mem_filter.mpr ⟨List.mem_append_right _ (List.mem_append_right _ (List.mem_append_left _ (List.mem_of_getElem? (i := 95) (by decide +kernel)))), by decide +kernel⟩
theorem tb_336 : Cond.selects "TurnCounts$Setting" ⟨"TurnCounts$Setting", "colourings", "()I"⟩ ⟨"TurnCounts$Setting", "colourings", "()I"⟩ ∈ tg := List.mem_filter.mpr ⟨List.mem_append_right _ (List.mem_append_right _ (List.mem_append_left _ (List.mem_of_getElem? (i := 96) (by decide +kernel)))), by decide +kernel⟩
theorem tb_337 : Cond.code ⟨"TurnCounts$Setting", "colourings", "()I"⟩ prog_5_method_3_code 3 (Option.some FieldType.int) ∈ tg := List.mem_filter.mpr ⟨List.mem_append_right _ (List.mem_append_right _ (List.mem_append_left _ (List.mem_of_getElem? (i := 97) (by decide +kernel)))), by decide +kernel⟩
theorem tb_338 : Cond.methodLink "TurnCounts$PatternTable" 54 ⟨"TurnCounts$PatternTable", "gather", "(ILTurnCounts$Group;)V"⟩ ∈ tg := List.mem_filter.mpr ⟨List.mem_append_right _ (List.mem_append_right _ (List.mem_append_left _ (List.mem_of_getElem? (i := 98) (by decide +kernel)))), by decide +kernel⟩
theorem tb_340 : Cond.instanceMethod ⟨"TurnCounts$PatternTable", "gather", "(ILTurnCounts$Group;)V"⟩ ∈ tg := List.mem_filter.mpr ⟨List.mem_append_right _ (List.mem_append_right _ (List.mem_append_left _ (List.mem_of_getElem? (i := 100) (by decide +kernel)))), by decide +kernel⟩
theorem tb_341 : Cond.code ⟨"TurnCounts$PatternTable", "gather", "(ILTurnCounts$Group;)V"⟩ prog_4_method_4_code 6 (Option.none : Option FieldType) ∈ tg := List.mem_filter.mpr ⟨List.mem_append_right _ (List.mem_append_right _ (List.mem_append_left _ (List.mem_of_getElem? (i := 101) (by decide +kernel)))), by decide +kernel⟩
theorem tb_342 : Cond.methodLink "TurnCounts$PatternTable" 60 ⟨"TurnCounts$PatternTable", "put", "(I)V"⟩ ∈ tg := List.mem_filter.mpr ⟨List.mem_append_right _ (List.mem_append_right _ (List.mem_append_left _ (List.mem_of_getElem? (i := 102) (by decide +kernel)))), by decide +kernel⟩
theorem tb_344 : Cond.instanceMethod ⟨"TurnCounts$PatternTable", "put", "(I)V"⟩ ∈ tg := List.mem_filter.mpr ⟨List.mem_append_right _ (List.mem_append_right _ (List.mem_append_left _ (List.mem_of_getElem? (i := 104) (by decide +kernel)))), by decide +kernel⟩
theorem tb_345 : Cond.code ⟨"TurnCounts$PatternTable", "put", "(I)V"⟩ prog_4_method_5_code 2 (Option.none : Option FieldType) ∈ tg := List.mem_filter.mpr ⟨List.mem_append_right _ (List.mem_append_right _ (List.mem_append_left _ (List.mem_of_getElem? (i := 105) (by decide +kernel)))), by decide +kernel⟩
theorem tb_346 : Cond.methodLink "TurnCounts$PatternTable" 72 ⟨"TurnCounts$PatternTable", "turned", "(II)I"⟩ ∈ tg := List.mem_filter.mpr ⟨List.mem_append_right _ (List.mem_append_right _ (List.mem_append_left _ (List.mem_of_getElem? (i := 106) (by decide +kernel)))), by decide +kernel⟩
theorem tb_348 : Cond.instanceMethod ⟨"TurnCounts$PatternTable", "turned", "(II)I"⟩ ∈ tg := List.mem_filter.mpr ⟨List.mem_append_right _ (List.mem_append_right _ (List.mem_append_left _ (List.mem_of_getElem? (i := 108) (by decide +kernel)))), by decide +kernel⟩
theorem tb_349 : Cond.code ⟨"TurnCounts$PatternTable", "turned", "(II)I"⟩ prog_4_method_6_code 6 (Option.some FieldType.int) ∈ tg := List.mem_filter.mpr ⟨List.mem_append_right _ (List.mem_append_right _ (List.mem_append_left _ (List.mem_of_getElem? (i := 109) (by decide +kernel)))), by decide +kernel⟩
theorem tb_350 : Cond.methodLink "TurnCounts$PatternTable" 76 ⟨"TurnCounts$Turns", "goal", "(II)I"⟩ ∈ tg := List.mem_filter.mpr ⟨List.mem_append_right _ (List.mem_append_right _ (List.mem_append_left _ (List.mem_of_getElem? (i := 110) (by decide +kernel)))), by decide +kernel⟩
theorem tb_351 : Cond.methodLink "TurnCounts" 133 ⟨"TurnCounts$PatternTable", "amountOfWeight", "(ILTurnCounts$Setting;)I"⟩ ∈ tg := List.mem_filter.mpr ⟨List.mem_append_right _ (List.mem_append_right _ (List.mem_append_left _ (List.mem_of_getElem? (i := 111) (by decide +kernel)))), by decide +kernel⟩
theorem tb_352 : Cond.instanceMethod ⟨"TurnCounts$PatternTable", "amountOfWeight", "(ILTurnCounts$Setting;)I"⟩ ∈ tg := List.mem_filter.mpr ⟨List.mem_append_right _ (List.mem_append_right _ (List.mem_append_left _ (List.mem_of_getElem? (i := 112) (by decide +kernel)))), by decide +kernel⟩
theorem tb_353 : Cond.selects "TurnCounts$PatternTable" ⟨"TurnCounts$PatternTable", "amountOfWeight", "(ILTurnCounts$Setting;)I"⟩ ⟨"TurnCounts$PatternTable", "amountOfWeight", "(ILTurnCounts$Setting;)I"⟩ ∈ tg := List.mem_filter.mpr ⟨List.mem_append_right _ (List.mem_append_right _ (List.mem_append_left _ (List.mem_of_getElem? (i := 113) (by decide +kernel)))), by decide +kernel⟩
theorem tb_354 : Cond.code ⟨"TurnCounts$PatternTable", "amountOfWeight", "(ILTurnCounts$Setting;)I"⟩ prog_4_method_12_code 5 (Option.some FieldType.int) ∈ tg := List.mem_filter.mpr ⟨List.mem_append_right _ (List.mem_append_right _ (List.mem_append_left _ (List.mem_of_getElem? (i := 114) (by decide +kernel)))), by decide +kernel⟩
theorem tb_355 : Cond.methodLink "TurnCounts$PatternTable" 81 ⟨"TurnCounts$PatternTable", "leastOf", "(I)I"⟩ ∈ tg := List.mem_filter.mpr ⟨List.mem_append_right _ (List.mem_append_right _ (List.mem_append_left _ (List.mem_of_getElem? (i := 115) (by decide +kernel)))), by decide +kernel⟩
theorem tb_356 : Cond.instanceMethod ⟨"TurnCounts$PatternTable", "leastOf", "(I)I"⟩ ∈ tg := List.mem_filter.mpr ⟨List.mem_append_right _ (List.mem_append_right _ (List.mem_append_left _ (List.mem_of_getElem? (i := 116) (by decide +kernel)))), by decide +kernel⟩
theorem tb_357 : Cond.selects "TurnCounts$PatternTable" ⟨"TurnCounts$PatternTable", "leastOf", "(I)I"⟩ ⟨"TurnCounts$PatternTable", "leastOf", "(I)I"⟩ ∈ tg := List.mem_filter.mpr ⟨List.mem_append_right _ (List.mem_append_right _ (List.mem_append_left _ (List.mem_of_getElem? (i := 117) (by decide +kernel)))), by decide +kernel⟩
theorem tb_358 : Cond.code ⟨"TurnCounts$PatternTable", "leastOf", "(I)I"⟩ prog_4_method_7_code 2 (Option.some FieldType.int) ∈ tg := List.mem_filter.mpr ⟨List.mem_append_right _ (List.mem_append_right _ (List.mem_append_left _ (List.mem_of_getElem? (i := 118) (by decide +kernel)))), by decide +kernel⟩
theorem tb_359 : Cond.methodLink "TurnCounts$PatternTable" 97 ⟨"TurnCounts$Setting", "weightOf", "(I)I"⟩ ∈ tg := List.mem_filter.mpr ⟨List.mem_append_right _ (List.mem_append_right _ (List.mem_append_left _ (List.mem_of_getElem? (i := 119) (by decide +kernel)))), by decide +kernel⟩
theorem tb_360 : Cond.instanceMethod ⟨"TurnCounts$Setting", "weightOf", "(I)I"⟩ ∈ tg := List.mem_filter.mpr ⟨List.mem_append_right _ (List.mem_append_right _ (List.mem_append_left _ (List.mem_of_getElem? (i := 120) (by decide +kernel)))), by decide +kernel⟩
theorem tb_361 : Cond.selects "TurnCounts$Setting" ⟨"TurnCounts$Setting", "weightOf", "(I)I"⟩ ⟨"TurnCounts$Setting", "weightOf", "(I)I"⟩ ∈ tg := List.mem_filter.mpr ⟨List.mem_append_right _ (List.mem_append_right _ (List.mem_append_left _ (List.mem_of_getElem? (i := 121) (by decide +kernel)))), by decide +kernel⟩
theorem tb_362 : Cond.code ⟨"TurnCounts$Setting", "weightOf", "(I)I"⟩ prog_5_method_5_code 5 (Option.some FieldType.int) ∈ tg := List.mem_filter.mpr ⟨List.mem_append_right _ (List.mem_append_right _ (List.mem_append_left _ (List.mem_of_getElem? (i := 122) (by decide +kernel)))), by decide +kernel⟩
theorem tb_363 : Cond.methodLink "TurnCountsLaw" 65 ⟨"TurnCounts", "pattern", "(II)I"⟩ ∈ tg := List.mem_filter.mpr ⟨List.mem_append_right _ (List.mem_append_right _ (List.mem_append_left _ (List.mem_of_getElem? (i := 123) (by decide +kernel)))), by decide +kernel⟩
theorem tb_364 : Cond.instanceMethod ⟨"TurnCounts", "pattern", "(II)I"⟩ ∈ tg := List.mem_filter.mpr ⟨List.mem_append_right _ (List.mem_append_right _ (List.mem_append_left _ (List.mem_of_getElem? (i := 124) (by decide +kernel)))), by decide +kernel⟩
theorem tb_365 : Cond.selects "TurnCounts" ⟨"TurnCounts", "pattern", "(II)I"⟩ ⟨"TurnCounts", "pattern", "(II)I"⟩ ∈ tg := List.mem_filter.mpr ⟨List.mem_append_right _ (List.mem_append_right _ (List.mem_append_left _ (List.mem_of_getElem? (i := 125) (by decide +kernel)))), by decide +kernel⟩
theorem tb_366 : Cond.code ⟨"TurnCounts", "pattern", "(II)I"⟩ prog_1_method_14_code 4 (Option.some FieldType.int) ∈ tg := List.mem_filter.mpr ⟨List.mem_append_right _ (List.mem_append_right _ (List.mem_append_left _ (List.mem_of_getElem? (i := 126) (by decide +kernel)))), by decide +kernel⟩
theorem tb_367 : Cond.methodLink "TurnCounts" 137 ⟨"TurnCounts$PatternTable", "leastOf", "(I)I"⟩ ∈ tg := List.mem_filter.mpr ⟨List.mem_append_right _ (List.mem_append_right _ (List.mem_append_left _ (List.mem_of_getElem? (i := 127) (by decide +kernel)))), by decide +kernel⟩
theorem tb_368 : Cond.methodLink "TurnCounts" 140 ⟨"TurnCounts$PatternTable", "sizeOf", "(I)I"⟩ ∈ tg := List.mem_filter.mpr ⟨List.mem_append_right _ (List.mem_append_right _ (List.mem_append_left _ (List.mem_of_getElem? (i := 128) (by decide +kernel)))), by decide +kernel⟩
theorem tb_369 : Cond.instanceMethod ⟨"TurnCounts$PatternTable", "sizeOf", "(I)I"⟩ ∈ tg := List.mem_filter.mpr ⟨List.mem_append_right _ (List.mem_append_right _ (List.mem_append_left _ (List.mem_of_getElem? (i := 129) (by decide +kernel)))), by decide +kernel⟩
theorem tb_370 : Cond.selects "TurnCounts$PatternTable" ⟨"TurnCounts$PatternTable", "sizeOf", "(I)I"⟩ ⟨"TurnCounts$PatternTable", "sizeOf", "(I)I"⟩ ∈ tg := List.mem_filter.mpr ⟨List.mem_append_right _ (List.mem_append_right _ (List.mem_append_left _ (List.mem_of_getElem? (i := 130) (by decide +kernel)))), by decide +kernel⟩
theorem tb_371 : Cond.code ⟨"TurnCounts$PatternTable", "sizeOf", "(I)I"⟩ prog_4_method_8_code 2 (Option.some FieldType.int) ∈ tg := List.mem_filter.mpr ⟨List.mem_append_right _ (List.mem_append_right _ (List.mem_append_left _ (List.mem_of_getElem? (i := 131) (by decide +kernel)))), by decide +kernel⟩
theorem tb_372 : Cond.methodLink "TurnCounts" 143 ⟨"TurnCounts$Setting", "weightOf", "(I)I"⟩ ∈ tg := List.mem_filter.mpr ⟨List.mem_append_right _ (List.mem_append_right _ (List.mem_append_left _ (List.mem_of_getElem? (i := 132) (by decide +kernel)))), by decide +kernel⟩
theorem tb_373 : Cond.methodLink "TurnCounts" 146 ⟨"TurnCounts$PatternTable", "twinOf", "(ILTurnCounts$Setting;)I"⟩ ∈ tg := List.mem_filter.mpr ⟨List.mem_append_right _ (List.mem_append_right _ (List.mem_append_left _ (List.mem_of_getElem? (i := 133) (by decide +kernel)))), by decide +kernel⟩
theorem tb_374 : Cond.instanceMethod ⟨"TurnCounts$PatternTable", "twinOf", "(ILTurnCounts$Setting;)I"⟩ ∈ tg := List.mem_filter.mpr ⟨List.mem_append_right _ (List.mem_append_right _ (List.mem_append_left _ (List.mem_of_getElem? (i := 134) (by decide +kernel)))), by decide +kernel⟩
theorem tb_375 : Cond.selects "TurnCounts$PatternTable" ⟨"TurnCounts$PatternTable", "twinOf", "(ILTurnCounts$Setting;)I"⟩ ⟨"TurnCounts$PatternTable", "twinOf", "(ILTurnCounts$Setting;)I"⟩ ∈ tg := List.mem_filter.mpr ⟨List.mem_append_right _ (List.mem_append_right _ (List.mem_append_left _ (List.mem_of_getElem? (i := 135) (by decide +kernel)))), by decide +kernel⟩
theorem tb_376 : Cond.code ⟨"TurnCounts$PatternTable", "twinOf", "(ILTurnCounts$Setting;)I"⟩ prog_4_method_9_code 3 (Option.some FieldType.int) ∈ tg := List.mem_filter.mpr ⟨List.mem_append_right _ (List.mem_append_right _ (List.mem_append_left _ (List.mem_of_getElem? (i := 136) (by decide +kernel)))), by decide +kernel⟩
theorem tb_377 : Cond.methodLink "TurnCounts$PatternTable" 85 ⟨"TurnCounts$Setting", "mirrored", "(I)I"⟩ ∈ tg := List.mem_filter.mpr ⟨List.mem_append_right _ (List.mem_append_right _ (List.mem_append_left _ (List.mem_of_getElem? (i := 137) (by decide +kernel)))), by decide +kernel⟩
theorem tb_378 : Cond.instanceMethod ⟨"TurnCounts$Setting", "mirrored", "(I)I"⟩ ∈ tg := List.mem_filter.mpr ⟨List.mem_append_right _ (List.mem_append_right _ (List.mem_append_left _ (List.mem_of_getElem? (i := 138) (by decide +kernel)))), by decide +kernel⟩
theorem tb_379 : Cond.selects "TurnCounts$Setting" ⟨"TurnCounts$Setting", "mirrored", "(I)I"⟩ ⟨"TurnCounts$Setting", "mirrored", "(I)I"⟩ ∈ tg := List.mem_filter.mpr ⟨List.mem_append_right _ (List.mem_append_right _ (List.mem_append_left _ (List.mem_of_getElem? (i := 139) (by decide +kernel)))), by decide +kernel⟩
theorem tb_380 : Cond.code ⟨"TurnCounts$Setting", "mirrored", "(I)I"⟩ prog_5_method_4_code 5 (Option.some FieldType.int) ∈ tg := List.mem_filter.mpr ⟨List.mem_append_right _ (List.mem_append_right _ (List.mem_append_left _ (List.mem_of_getElem? (i := 140) (by decide +kernel)))), by decide +kernel⟩
theorem tb_381 : Cond.methodLink "TurnCounts" 149 ⟨"TurnCounts$Setting", "coloursOf", "(I)I"⟩ ∈ tg := List.mem_filter.mpr ⟨List.mem_append_right _ (List.mem_append_right _ (List.mem_append_left _ (List.mem_of_getElem? (i := 141) (by decide +kernel)))), by decide +kernel⟩
theorem tb_382 : Cond.instanceMethod ⟨"TurnCounts$Setting", "coloursOf", "(I)I"⟩ ∈ tg := List.mem_filter.mpr ⟨List.mem_append_right _ (List.mem_append_right _ (List.mem_append_left _ (List.mem_of_getElem? (i := 142) (by decide +kernel)))), by decide +kernel⟩
theorem tb_383 : Cond.selects "TurnCounts$Setting" ⟨"TurnCounts$Setting", "coloursOf", "(I)I"⟩ ⟨"TurnCounts$Setting", "coloursOf", "(I)I"⟩ ∈ tg := List.mem_filter.mpr ⟨List.mem_append_right _ (List.mem_append_right _ (List.mem_append_left _ (List.mem_of_getElem? (i := 143) (by decide +kernel)))), by decide +kernel⟩
theorem tb_384 : Cond.code ⟨"TurnCounts$Setting", "coloursOf", "(I)I"⟩ prog_5_method_6_code 5 (Option.some FieldType.int) ∈ tg := List.mem_filter.mpr ⟨List.mem_append_right _ (List.mem_append_right _ (List.mem_append_left _ (List.mem_of_getElem? (i := 144) (by decide +kernel)))), by decide +kernel⟩
theorem tb_385 : Cond.methodLink "TurnCounts$Setting" 39 ⟨"java/lang/Integer", "bitCount", "(I)I"⟩ ∈ tg := List.mem_filter.mpr ⟨List.mem_append_right _ (List.mem_append_right _ (List.mem_append_left _ (List.mem_of_getElem? (i := 145) (by decide +kernel)))), by decide +kernel⟩
theorem tb_386 : Cond.methodLink "TurnCountsLaw" 69 ⟨"TurnCounts", "of", "(II)I"⟩ ∈ tg := List.mem_filter.mpr ⟨List.mem_append_right _ (List.mem_append_right _ (List.mem_append_left _ (List.mem_of_getElem? (i := 146) (by decide +kernel)))), by decide +kernel⟩
theorem tb_387 : Cond.instanceMethod ⟨"TurnCounts", "of", "(II)I"⟩ ∈ tg := List.mem_filter.mpr ⟨List.mem_append_right _ (List.mem_append_right _ (List.mem_append_left _ (List.mem_of_getElem? (i := 147) (by decide +kernel)))), by decide +kernel⟩
theorem tb_388 : Cond.selects "TurnCounts" ⟨"TurnCounts", "of", "(II)I"⟩ ⟨"TurnCounts", "of", "(II)I"⟩ ∈ tg := List.mem_filter.mpr ⟨List.mem_append_right _ (List.mem_append_right _ (List.mem_append_left _ (List.mem_of_getElem? (i := 148) (by decide +kernel)))), by decide +kernel⟩
theorem tb_389 : Cond.code ⟨"TurnCounts", "of", "(II)I"⟩ prog_1_method_15_code 4 (Option.some FieldType.int) ∈ tg := List.mem_filter.mpr ⟨List.mem_append_right _ (List.mem_append_right _ (List.mem_append_left _ (List.mem_of_getElem? (i := 149) (by decide +kernel)))), by decide +kernel⟩
theorem tb_390 : Cond.methodLink "TurnCounts" 152 ⟨"TurnCounts", "isNumber", "(I)Z"⟩ ∈ tg := List.mem_filter.mpr ⟨List.mem_append_right _ (List.mem_append_right _ (List.mem_append_left _ (List.mem_of_getElem? (i := 150) (by decide +kernel)))), by decide +kernel⟩
theorem tb_392 : Cond.instanceMethod ⟨"TurnCounts", "isNumber", "(I)Z"⟩ ∈ tg := List.mem_filter.mpr ⟨List.mem_append_right _ (List.mem_append_right _ (List.mem_append_left _ (List.mem_of_getElem? (i := 152) (by decide +kernel)))), by decide +kernel⟩
theorem tb_393 : Cond.code ⟨"TurnCounts", "isNumber", "(I)Z"⟩ prog_1_method_23_code 2 (Option.some FieldType.boolean) ∈ tg := List.mem_filter.mpr ⟨List.mem_append_right _ (List.mem_append_right _ (List.mem_append_left _ (List.mem_of_getElem? (i := 153) (by decide +kernel)))), by decide +kernel⟩
theorem tb_394 : Cond.methodLink "TurnCounts" 188 ⟨"TurnCounts$Setting", "colourings", "()I"⟩ ∈ tg := List.mem_filter.mpr ⟨List.mem_append_right _ (List.mem_append_right _ (List.mem_append_left _ (List.mem_of_getElem? (i := 154) (by decide +kernel)))), by decide +kernel⟩
theorem tb_395 : Cond.methodLink "TurnCounts" 155 ⟨"TurnCounts$Setting", "mirrored", "(I)I"⟩ ∈ tg := List.mem_filter.mpr ⟨List.mem_append_right _ (List.mem_append_right _ (List.mem_append_left _ (List.mem_of_getElem? (i := 155) (by decide +kernel)))), by decide +kernel⟩
theorem tb_396 : Cond.methodLink "TurnCounts" 161 ⟨"TurnCounts$PatternTable", "keepersOf", "(ILTurnCounts$Group;)I"⟩ ∈ tg := List.mem_filter.mpr ⟨List.mem_append_right _ (List.mem_append_right _ (List.mem_append_left _ (List.mem_of_getElem? (i := 156) (by decide +kernel)))), by decide +kernel⟩
theorem tb_397 : Cond.instanceMethod ⟨"TurnCounts$PatternTable", "keepersOf", "(ILTurnCounts$Group;)I"⟩ ∈ tg := List.mem_filter.mpr ⟨List.mem_append_right _ (List.mem_append_right _ (List.mem_append_left _ (List.mem_of_getElem? (i := 157) (by decide +kernel)))), by decide +kernel⟩
theorem tb_398 : Cond.selects "TurnCounts$PatternTable" ⟨"TurnCounts$PatternTable", "keepersOf", "(ILTurnCounts$Group;)I"⟩ ⟨"TurnCounts$PatternTable", "keepersOf", "(ILTurnCounts$Group;)I"⟩ ∈ tg := List.mem_filter.mpr ⟨List.mem_append_right _ (List.mem_append_right _ (List.mem_append_left _ (List.mem_of_getElem? (i := 158) (by decide +kernel)))), by decide +kernel⟩
theorem tb_399 : Cond.code ⟨"TurnCounts$PatternTable", "keepersOf", "(ILTurnCounts$Group;)I"⟩ prog_4_method_10_code 4 (Option.some FieldType.int) ∈ tg := List.mem_filter.mpr ⟨List.mem_append_right _ (List.mem_append_right _ (List.mem_append_left _ (List.mem_of_getElem? (i := 159) (by decide +kernel)))), by decide +kernel⟩
theorem tb_400 : Cond.methodLink "TurnCounts$PatternTable" 88 ⟨"TurnCounts$PatternTable", "sizeOf", "(I)I"⟩ ∈ tg := List.mem_filter.mpr ⟨List.mem_append_right _ (List.mem_append_right _ (List.mem_append_left _ (List.mem_of_getElem? (i := 160) (by decide +kernel)))), by decide +kernel⟩
theorem tb_401 : Cond.methodLink "TurnCountsLaw" 73 ⟨"TurnCounts", "kinds", "(I)I"⟩ ∈ tg := List.mem_filter.mpr ⟨List.mem_append_right _ (List.mem_append_right _ (List.mem_append_left _ (List.mem_of_getElem? (i := 161) (by decide +kernel)))), by decide +kernel⟩
theorem tb_402 : Cond.instanceMethod ⟨"TurnCounts", "kinds", "(I)I"⟩ ∈ tg := List.mem_filter.mpr ⟨List.mem_append_right _ (List.mem_append_right _ (List.mem_append_left _ (List.mem_of_getElem? (i := 162) (by decide +kernel)))), by decide +kernel⟩
theorem tb_403 : Cond.selects "TurnCounts" ⟨"TurnCounts", "kinds", "(I)I"⟩ ⟨"TurnCounts", "kinds", "(I)I"⟩ ∈ tg := List.mem_filter.mpr ⟨List.mem_append_right _ (List.mem_append_right _ (List.mem_append_left _ (List.mem_of_getElem? (i := 163) (by decide +kernel)))), by decide +kernel⟩
theorem tb_404 : Cond.code ⟨"TurnCounts", "kinds", "(I)I"⟩ prog_1_method_16_code 2 (Option.some FieldType.int) ∈ tg := List.mem_filter.mpr ⟨List.mem_append_right _ (List.mem_append_right _ (List.mem_append_left _ (List.mem_of_getElem? (i := 164) (by decide +kernel)))), by decide +kernel⟩
theorem tb_405 : Cond.methodLink "TurnCounts" 165 ⟨"TurnCounts$PatternTable", "amountHanded", "(LTurnCounts$Setting;)I"⟩ ∈ tg := List.mem_filter.mpr ⟨List.mem_append_right _ (List.mem_append_right _ (List.mem_append_left _ (List.mem_of_getElem? (i := 165) (by decide +kernel)))), by decide +kernel⟩
theorem tb_406 : Cond.instanceMethod ⟨"TurnCounts$PatternTable", "amountHanded", "(LTurnCounts$Setting;)I"⟩ ∈ tg := List.mem_filter.mpr ⟨List.mem_append_right _ (List.mem_append_right _ (List.mem_append_left _ (List.mem_of_getElem? (i := 166) (by decide +kernel)))), by decide +kernel⟩
theorem tb_407 : Cond.selects "TurnCounts$PatternTable" ⟨"TurnCounts$PatternTable", "amountHanded", "(LTurnCounts$Setting;)I"⟩ ⟨"TurnCounts$PatternTable", "amountHanded", "(LTurnCounts$Setting;)I"⟩ ∈ tg := List.mem_filter.mpr ⟨List.mem_append_right _ (List.mem_append_right _ (List.mem_append_left _ (List.mem_of_getElem? (i := 167) (by decide +kernel)))), by decide +kernel⟩
theorem tb_408 : Cond.code ⟨"TurnCounts$PatternTable", "amountHanded", "(LTurnCounts$Setting;)I"⟩ prog_4_method_13_code 4 (Option.some FieldType.int) ∈ tg := List.mem_filter.mpr ⟨List.mem_append_right _ (List.mem_append_right _ (List.mem_append_left _ (List.mem_of_getElem? (i := 168) (by decide +kernel)))), by decide +kernel⟩
theorem tb_409 : Cond.methodLink "TurnCounts$PatternTable" 100 ⟨"TurnCounts$PatternTable", "twinOf", "(ILTurnCounts$Setting;)I"⟩ ∈ tg := List.mem_filter.mpr ⟨List.mem_append_right _ (List.mem_append_right _ (List.mem_append_left _ (List.mem_of_getElem? (i := 169) (by decide +kernel)))), by decide +kernel⟩
theorem tb_410 : Cond.methodLink "TurnCounts" 169 ⟨"TurnCounts$PatternTable", "amountOfAllColours", "(LTurnCounts$Setting;)I"⟩ ∈ tg := List.mem_filter.mpr ⟨List.mem_append_right _ (List.mem_append_right _ (List.mem_append_left _ (List.mem_of_getElem? (i := 170) (by decide +kernel)))), by decide +kernel⟩
theorem tb_411 : Cond.instanceMethod ⟨"TurnCounts$PatternTable", "amountOfAllColours", "(LTurnCounts$Setting;)I"⟩ ∈ tg := List.mem_filter.mpr ⟨List.mem_append_right _ (List.mem_append_right _ (List.mem_append_left _ (List.mem_of_getElem? (i := 171) (by decide +kernel)))), by decide +kernel⟩
theorem tb_412 : Cond.selects "TurnCounts$PatternTable" ⟨"TurnCounts$PatternTable", "amountOfAllColours", "(LTurnCounts$Setting;)I"⟩ ⟨"TurnCounts$PatternTable", "amountOfAllColours", "(LTurnCounts$Setting;)I"⟩ ∈ tg := List.mem_filter.mpr ⟨List.mem_append_right _ (List.mem_append_right _ (List.mem_append_left _ (List.mem_of_getElem? (i := 172) (by decide +kernel)))), by decide +kernel⟩
theorem tb_413 : Cond.code ⟨"TurnCounts$PatternTable", "amountOfAllColours", "(LTurnCounts$Setting;)I"⟩ prog_4_method_14_code 4 (Option.some FieldType.int) ∈ tg := List.mem_filter.mpr ⟨List.mem_append_right _ (List.mem_append_right _ (List.mem_append_left _ (List.mem_of_getElem? (i := 173) (by decide +kernel)))), by decide +kernel⟩
theorem tb_414 : Cond.methodLink "TurnCounts$PatternTable" 104 ⟨"TurnCounts$Setting", "coloursOf", "(I)I"⟩ ∈ tg := List.mem_filter.mpr ⟨List.mem_append_right _ (List.mem_append_right _ (List.mem_append_left _ (List.mem_of_getElem? (i := 174) (by decide +kernel)))), by decide +kernel⟩
theorem tb_415 : Cond.methodLink "TurnCounts" 172 ⟨"TurnCounts$PatternTable", "amountAlone", "()I"⟩ ∈ tg := List.mem_filter.mpr ⟨List.mem_append_right _ (List.mem_append_right _ (List.mem_append_left _ (List.mem_of_getElem? (i := 175) (by decide +kernel)))), by decide +kernel⟩
theorem tb_416 : Cond.instanceMethod ⟨"TurnCounts$PatternTable", "amountAlone", "()I"⟩ ∈ tg := List.mem_filter.mpr ⟨List.mem_append_right _ (List.mem_append_right _ (List.mem_append_left _ (List.mem_of_getElem? (i := 176) (by decide +kernel)))), by decide +kernel⟩
theorem tb_417 : Cond.selects "TurnCounts$PatternTable" ⟨"TurnCounts$PatternTable", "amountAlone", "()I"⟩ ⟨"TurnCounts$PatternTable", "amountAlone", "()I"⟩ ∈ tg := List.mem_filter.mpr ⟨List.mem_append_right _ (List.mem_append_right _ (List.mem_append_left _ (List.mem_of_getElem? (i := 177) (by decide +kernel)))), by decide +kernel⟩
theorem tb_418 : Cond.code ⟨"TurnCounts$PatternTable", "amountAlone", "()I"⟩ prog_4_method_15_code 3 (Option.some FieldType.int) ∈ tg := List.mem_filter.mpr ⟨List.mem_append_right _ (List.mem_append_right _ (List.mem_append_left _ (List.mem_of_getElem? (i := 178) (by decide +kernel)))), by decide +kernel⟩
theorem tb_419 : Cond.methodLink "TurnCounts" 176 ⟨"TurnCounts$PatternTable", "greatestSize", "()I"⟩ ∈ tg := List.mem_filter.mpr ⟨List.mem_append_right _ (List.mem_append_right _ (List.mem_append_left _ (List.mem_of_getElem? (i := 179) (by decide +kernel)))), by decide +kernel⟩
theorem tb_420 : Cond.instanceMethod ⟨"TurnCounts$PatternTable", "greatestSize", "()I"⟩ ∈ tg := List.mem_filter.mpr ⟨List.mem_append_right _ (List.mem_append_right _ (List.mem_append_left _ (List.mem_of_getElem? (i := 180) (by decide +kernel)))), by decide +kernel⟩
theorem tb_421 : Cond.selects "TurnCounts$PatternTable" ⟨"TurnCounts$PatternTable", "greatestSize", "()I"⟩ ⟨"TurnCounts$PatternTable", "greatestSize", "()I"⟩ ∈ tg := List.mem_filter.mpr ⟨List.mem_append_right _ (List.mem_append_right _ (List.mem_append_left _ (List.mem_of_getElem? (i := 181) (by decide +kernel)))), by decide +kernel⟩
theorem tb_422 : Cond.code ⟨"TurnCounts$PatternTable", "greatestSize", "()I"⟩ prog_4_method_16_code 3 (Option.some FieldType.int) ∈ tg := List.mem_filter.mpr ⟨List.mem_append_right _ (List.mem_append_right _ (List.mem_append_left _ (List.mem_of_getElem? (i := 182) (by decide +kernel)))), by decide +kernel⟩
theorem tb_423 : Cond.methodLink "TurnCounts$PatternTable" 107 ⟨"java/lang/Math", "max", "(II)I"⟩ ∈ tg := List.mem_filter.mpr ⟨List.mem_append_right _ (List.mem_append_right _ (List.mem_append_left _ (List.mem_of_getElem? (i := 183) (by decide +kernel)))), by decide +kernel⟩
theorem tb_424 : Cond.static ⟨"java/lang/Math", "max", "(II)I"⟩ ∈ tg := List.mem_filter.mpr ⟨List.mem_append_right _ (List.mem_append_right _ (List.mem_append_left _ (List.mem_of_getElem? (i := 184) (by decide +kernel)))), by decide +kernel⟩
theorem tb_425 : Cond.code ⟨"java/lang/Math", "max", "(II)I"⟩ prog_11_method_65_code 2 (Option.some FieldType.int) ∈ tg := List.mem_filter.mpr ⟨List.mem_append_right _ (List.mem_append_right _ (List.mem_append_left _ (List.mem_of_getElem? (i := 185) (by decide +kernel)))), by decide +kernel⟩
theorem tb_426 : Cond.methodLink "TurnCountsLaw" 77 ⟨"TurnCounts", "by", "(II)I"⟩ ∈ tg := List.mem_filter.mpr ⟨List.mem_append_right _ (List.mem_append_right _ (List.mem_append_left _ (List.mem_of_getElem? (i := 186) (by decide +kernel)))), by decide +kernel⟩
theorem tb_427 : Cond.instanceMethod ⟨"TurnCounts", "by", "(II)I"⟩ ∈ tg := List.mem_filter.mpr ⟨List.mem_append_right _ (List.mem_append_right _ (List.mem_append_left _ (List.mem_of_getElem? (i := 187) (by decide +kernel)))), by decide +kernel⟩
theorem tb_428 : Cond.selects "TurnCounts" ⟨"TurnCounts", "by", "(II)I"⟩ ⟨"TurnCounts", "by", "(II)I"⟩ ∈ tg := List.mem_filter.mpr ⟨List.mem_append_right _ (List.mem_append_right _ (List.mem_append_left _ (List.mem_of_getElem? (i := 188) (by decide +kernel)))), by decide +kernel⟩
theorem tb_429 : Cond.code ⟨"TurnCounts", "by", "(II)I"⟩ prog_1_method_17_code 3 (Option.some FieldType.int) ∈ tg := List.mem_filter.mpr ⟨List.mem_append_right _ (List.mem_append_right _ (List.mem_append_left _ (List.mem_of_getElem? (i := 189) (by decide +kernel)))), by decide +kernel⟩
theorem tb_430 : Cond.methodLink "TurnCounts" 179 ⟨"TurnCounts$PatternTable", "firstToLeast", "(ILTurnCounts$Group;)I"⟩ ∈ tg := List.mem_filter.mpr ⟨List.mem_append_right _ (List.mem_append_right _ (List.mem_append_left _ (List.mem_of_getElem? (i := 190) (by decide +kernel)))), by decide +kernel⟩
theorem tb_431 : Cond.instanceMethod ⟨"TurnCounts$PatternTable", "firstToLeast", "(ILTurnCounts$Group;)I"⟩ ∈ tg := List.mem_filter.mpr ⟨List.mem_append_right _ (List.mem_append_right _ (List.mem_append_left _ (List.mem_of_getElem? (i := 191) (by decide +kernel)))), by decide +kernel⟩
theorem tb_432 : Cond.selects "TurnCounts$PatternTable" ⟨"TurnCounts$PatternTable", "firstToLeast", "(ILTurnCounts$Group;)I"⟩ ⟨"TurnCounts$PatternTable", "firstToLeast", "(ILTurnCounts$Group;)I"⟩ ∈ tg := List.mem_filter.mpr ⟨List.mem_append_right _ (List.mem_append_right _ (List.mem_append_left _ (List.mem_of_getElem? (i := 192) (by decide +kernel)))), by decide +kernel⟩
theorem tb_433 : Cond.code ⟨"TurnCounts$PatternTable", "firstToLeast", "(ILTurnCounts$Group;)I"⟩ prog_4_method_11_code 7 (Option.some FieldType.int) ∈ tg := List.mem_filter.mpr ⟨List.mem_append_right _ (List.mem_append_right _ (List.mem_append_left _ (List.mem_of_getElem? (i := 193) (by decide +kernel)))), by decide +kernel⟩
theorem tb_434 : Cond.methodLink "TurnCounts" 182 ⟨"TurnCounts$Turns", "goal", "(II)I"⟩ ∈ tg := List.mem_filter.mpr ⟨List.mem_append_right _ (List.mem_append_right _ (List.mem_append_left _ (List.mem_of_getElem? (i := 194) (by decide +kernel)))), by decide +kernel⟩
theorem tb_435 : Cond.methodLink "TurnCountsLaw" 81 ⟨"TurnCounts", "image", "(I)I"⟩ ∈ tg := List.mem_filter.mpr ⟨List.mem_append_right _ (List.mem_append_right _ (List.mem_append_left _ (List.mem_of_getElem? (i := 195) (by decide +kernel)))), by decide +kernel⟩
theorem tb_436 : Cond.instanceMethod ⟨"TurnCounts", "image", "(I)I"⟩ ∈ tg := List.mem_filter.mpr ⟨List.mem_append_right _ (List.mem_append_right _ (List.mem_append_left _ (List.mem_of_getElem? (i := 196) (by decide +kernel)))), by decide +kernel⟩
theorem tb_437 : Cond.selects "TurnCounts" ⟨"TurnCounts", "image", "(I)I"⟩ ⟨"TurnCounts", "image", "(I)I"⟩ ∈ tg := List.mem_filter.mpr ⟨List.mem_append_right _ (List.mem_append_right _ (List.mem_append_left _ (List.mem_of_getElem? (i := 197) (by decide +kernel)))), by decide +kernel⟩
theorem tb_438 : Cond.code ⟨"TurnCounts", "image", "(I)I"⟩ prog_1_method_18_code 2 (Option.some FieldType.int) ∈ tg := List.mem_filter.mpr ⟨List.mem_append_right _ (List.mem_append_right _ (List.mem_append_left _ (List.mem_of_getElem? (i := 198) (by decide +kernel)))), by decide +kernel⟩
theorem tb_439 : Cond.methodLink "TurnCounts" 185 ⟨"TurnCounts$Setting", "copyFrom", "(LTurnCounts$Setting;)V"⟩ ∈ tg := List.mem_filter.mpr ⟨List.mem_append_right _ (List.mem_append_right _ (List.mem_append_left _ (List.mem_of_getElem? (i := 199) (by decide +kernel)))), by decide +kernel⟩
theorem tb_440 : Cond.instanceMethod ⟨"TurnCounts$Setting", "copyFrom", "(LTurnCounts$Setting;)V"⟩ ∈ tg := List.mem_filter.mpr ⟨List.mem_append_right _ (List.mem_append_right _ (List.mem_append_left _ (List.mem_of_getElem? (i := 200) (by decide +kernel)))), by decide +kernel⟩
theorem tb_441 : Cond.selects "TurnCounts$Setting" ⟨"TurnCounts$Setting", "copyFrom", "(LTurnCounts$Setting;)V"⟩ ⟨"TurnCounts$Setting", "copyFrom", "(LTurnCounts$Setting;)V"⟩ ∈ tg := List.mem_filter.mpr ⟨List.mem_append_right _ (List.mem_append_right _ (List.mem_append_left _ (List.mem_of_getElem? (i := 201) (by decide +kernel)))), by decide +kernel⟩
theorem tb_442 : Cond.code ⟨"TurnCounts$Setting", "copyFrom", "(LTurnCounts$Setting;)V"⟩ prog_5_method_2_code 2 (Option.none : Option FieldType) ∈ tg := List.mem_filter.mpr ⟨List.mem_append_right _ (List.mem_append_right _ (List.mem_append_left _ (List.mem_of_getElem? (i := 202) (by decide +kernel)))), by decide +kernel⟩
theorem tb_443 : Cond.methodLink "TurnCounts$Setting" 29 ⟨"java/lang/System", "arraycopy", "(Ljava/lang/Object;ILjava/lang/Object;II)V"⟩ ∈ tg := List.mem_filter.mpr ⟨List.mem_append_right _ (List.mem_append_right _ (List.mem_append_left _ (List.mem_of_getElem? (i := 203) (by decide +kernel)))), by decide +kernel⟩
theorem tb_444 : Cond.static ⟨"java/lang/System", "arraycopy", "(Ljava/lang/Object;ILjava/lang/Object;II)V"⟩ ∈ tg := List.mem_filter.mpr ⟨List.mem_append_right _ (List.mem_append_right _ (List.mem_append_left _ (List.mem_of_getElem? (i := 204) (by decide +kernel)))), by decide +kernel⟩
theorem tb_445 : Cond.native ⟨"java/lang/System", "arraycopy", "(Ljava/lang/Object;ILjava/lang/Object;II)V"⟩ ∈ tg := List.mem_filter.mpr ⟨List.mem_append_right _ (List.mem_append_right _ (List.mem_append_left _ (List.mem_of_getElem? (i := 205) (by decide +kernel)))), by decide +kernel⟩
theorem tb_446 : Cond.methodLink "TurnCounts$Setting" 35 ⟨"TurnCounts$Group", "copyFrom", "(LTurnCounts$Group;)V"⟩ ∈ tg := List.mem_filter.mpr ⟨List.mem_append_right _ (List.mem_append_right _ (List.mem_append_left _ (List.mem_of_getElem? (i := 206) (by decide +kernel)))), by decide +kernel⟩
theorem tb_447 : Cond.instanceMethod ⟨"TurnCounts$Group", "copyFrom", "(LTurnCounts$Group;)V"⟩ ∈ tg := List.mem_filter.mpr ⟨List.mem_append_right _ (List.mem_append_right _ (List.mem_append_left _ (List.mem_of_getElem? (i := 207) (by decide +kernel)))), by decide +kernel⟩
theorem tb_448 : Cond.selects "TurnCounts$Group" ⟨"TurnCounts$Group", "copyFrom", "(LTurnCounts$Group;)V"⟩ ⟨"TurnCounts$Group", "copyFrom", "(LTurnCounts$Group;)V"⟩ ∈ tg := List.mem_filter.mpr ⟨List.mem_append_right _ (List.mem_append_right _ (List.mem_append_left _ (List.mem_of_getElem? (i := 208) (by decide +kernel)))), by decide +kernel⟩
theorem tb_449 : Cond.code ⟨"TurnCounts$Group", "copyFrom", "(LTurnCounts$Group;)V"⟩ prog_2_method_3_code 2 (Option.none : Option FieldType) ∈ tg := List.mem_filter.mpr ⟨List.mem_append_right _ (List.mem_append_right _ (List.mem_append_left _ (List.mem_of_getElem? (i := 209) (by decide +kernel)))), by decide +kernel⟩
theorem tb_450 : Cond.methodLink "TurnCounts$Group" 36 ⟨"java/lang/System", "arraycopy", "(Ljava/lang/Object;ILjava/lang/Object;II)V"⟩ ∈ tg := List.mem_filter.mpr ⟨List.mem_append_right _ (List.mem_append_right _ (List.mem_append_left _ (List.mem_of_getElem? (i := 210) (by decide +kernel)))), by decide +kernel⟩
theorem tb_451 : Cond.methodLink "TurnCountsLaw" 85 ⟨"TurnCounts", "restore", "(I)I"⟩ ∈ tg := List.mem_filter.mpr ⟨List.mem_append_right _ (List.mem_append_right _ (List.mem_append_left _ (List.mem_of_getElem? (i := 211) (by decide +kernel)))), by decide +kernel⟩
theorem tb_452 : Cond.instanceMethod ⟨"TurnCounts", "restore", "(I)I"⟩ ∈ tg := List.mem_filter.mpr ⟨List.mem_append_right _ (List.mem_append_right _ (List.mem_append_left _ (List.mem_of_getElem? (i := 212) (by decide +kernel)))), by decide +kernel⟩
theorem tb_453 : Cond.selects "TurnCounts" ⟨"TurnCounts", "restore", "(I)I"⟩ ⟨"TurnCounts", "restore", "(I)I"⟩ ∈ tg := List.mem_filter.mpr ⟨List.mem_append_right _ (List.mem_append_right _ (List.mem_append_left _ (List.mem_of_getElem? (i := 213) (by decide +kernel)))), by decide +kernel⟩
theorem tb_454 : Cond.code ⟨"TurnCounts", "restore", "(I)I"⟩ prog_1_method_19_code 2 (Option.some FieldType.int) ∈ tg := List.mem_filter.mpr ⟨List.mem_append_right _ (List.mem_append_right _ (List.mem_append_left _ (List.mem_of_getElem? (i := 214) (by decide +kernel)))), by decide +kernel⟩
theorem tb_455 : Cond.methodLink "TurnCountsLaw" 89 ⟨"TurnCounts", "count", "(I)I"⟩ ∈ tg := List.mem_filter.mpr ⟨List.mem_append_right _ (List.mem_append_right _ (List.mem_append_left _ (List.mem_of_getElem? (i := 215) (by decide +kernel)))), by decide +kernel⟩
theorem tb_456 : Cond.instanceMethod ⟨"TurnCounts", "count", "(I)I"⟩ ∈ tg := List.mem_filter.mpr ⟨List.mem_append_right _ (List.mem_append_right _ (List.mem_append_left _ (List.mem_of_getElem? (i := 216) (by decide +kernel)))), by decide +kernel⟩
theorem tb_457 : Cond.selects "TurnCounts" ⟨"TurnCounts", "count", "(I)I"⟩ ⟨"TurnCounts", "count", "(I)I"⟩ ∈ tg := List.mem_filter.mpr ⟨List.mem_append_right _ (List.mem_append_right _ (List.mem_append_left _ (List.mem_of_getElem? (i := 217) (by decide +kernel)))), by decide +kernel⟩
theorem tb_458 : Cond.code ⟨"TurnCounts", "count", "(I)I"⟩ prog_1_method_20_code 2 (Option.some FieldType.int) ∈ tg := List.mem_filter.mpr ⟨List.mem_append_right _ (List.mem_append_right _ (List.mem_append_left _ (List.mem_of_getElem? (i := 218) (by decide +kernel)))), by decide +kernel⟩
theorem tb_459 : Cond.classLink "TurnCountsLaw" 10 "TurnCountsModel" ∈ tg := List.mem_filter.mpr ⟨List.mem_append_right _ (List.mem_append_right _ (List.mem_append_left _ (List.mem_of_getElem? (i := 219) (by decide +kernel)))), by decide +kernel⟩
theorem tb_460 : Cond.instantiable "TurnCountsModel" 25 ∈ tg := List.mem_filter.mpr ⟨List.mem_append_right _ (List.mem_append_right _ (List.mem_append_left _ (List.mem_of_getElem? (i := 220) (by decide +kernel)))), by decide +kernel⟩
theorem tb_461 : Cond.methodLink "TurnCountsLaw" 12 ⟨"TurnCountsModel", "<init>", "()V"⟩ ∈ tg := List.mem_filter.mpr ⟨List.mem_append_right _ (List.mem_append_right _ (List.mem_append_left _ (List.mem_of_getElem? (i := 221) (by decide +kernel)))), by decide +kernel⟩
theorem tb_462 : Cond.instanceMethod ⟨"TurnCountsModel", "<init>", "()V"⟩ ∈ tg := List.mem_filter.mpr ⟨List.mem_append_right _ (List.mem_append_right _ (List.mem_append_left _ (List.mem_of_getElem? (i := 222) (by decide +kernel)))), by decide +kernel⟩
theorem tb_463 : Cond.code ⟨"TurnCountsModel", "<init>", "()V"⟩ prog_9_method_1_code 2 (Option.none : Option FieldType) ∈ tg := List.mem_filter.mpr ⟨List.mem_append_right _ (List.mem_append_right _ (List.mem_append_left _ (List.mem_of_getElem? (i := 223) (by decide +kernel)))), by decide +kernel⟩
theorem tb_464 : Cond.methodLink "TurnCountsModel" 1 ⟨"java/lang/Object", "<init>", "()V"⟩ ∈ tg := List.mem_filter.mpr ⟨List.mem_append_right _ (List.mem_append_right _ (List.mem_append_left _ (List.mem_of_getElem? (i := 224) (by decide +kernel)))), by decide +kernel⟩
theorem tb_465 : Cond.constant "TurnCountsModel" 35 (35280 : Int32) ∈ tg := List.mem_filter.mpr ⟨List.mem_append_right _ (List.mem_append_right _ (List.mem_append_left _ (List.mem_of_getElem? (i := 225) (by decide +kernel)))), by decide +kernel⟩
theorem tb_466 : Cond.methodLink "TurnCountsModel" 66 ⟨"TurnCountsModel", "beginGroup", "()V"⟩ ∈ tg := List.mem_filter.mpr ⟨List.mem_append_right _ (List.mem_append_right _ (List.mem_append_left _ (List.mem_of_getElem? (i := 226) (by decide +kernel)))), by decide +kernel⟩
theorem tb_468 : Cond.instanceMethod ⟨"TurnCountsModel", "beginGroup", "()V"⟩ ∈ tg := List.mem_filter.mpr ⟨List.mem_append_right _ (List.mem_append_right _ (List.mem_append_left _ (List.mem_of_getElem? (i := 228) (by decide +kernel)))), by decide +kernel⟩
theorem tb_469 : Cond.code ⟨"TurnCountsModel", "beginGroup", "()V"⟩ prog_9_method_6_code 1 (Option.none : Option FieldType) ∈ tg := List.mem_filter.mpr ⟨List.mem_append_right _ (List.mem_append_right _ (List.mem_append_left _ (List.mem_of_getElem? (i := 229) (by decide +kernel)))), by decide +kernel⟩
theorem tb_470 : Cond.methodLink "TurnCountsModel" 69 ⟨"TurnCountsModel", "closeGroup", "()V"⟩ ∈ tg := List.mem_filter.mpr ⟨List.mem_append_right _ (List.mem_append_right _ (List.mem_append_left _ (List.mem_of_getElem? (i := 230) (by decide +kernel)))), by decide +kernel⟩
theorem tb_472 : Cond.instanceMethod ⟨"TurnCountsModel", "closeGroup", "()V"⟩ ∈ tg := List.mem_filter.mpr ⟨List.mem_append_right _ (List.mem_append_right _ (List.mem_append_left _ (List.mem_of_getElem? (i := 232) (by decide +kernel)))), by decide +kernel⟩
theorem tb_473 : Cond.code ⟨"TurnCountsModel", "closeGroup", "()V"⟩ prog_9_method_10_code 4 (Option.none : Option FieldType) ∈ tg := List.mem_filter.mpr ⟨List.mem_append_right _ (List.mem_append_right _ (List.mem_append_left _ (List.mem_of_getElem? (i := 233) (by decide +kernel)))), by decide +kernel⟩
theorem tb_474 : Cond.methodLink "TurnCountsModel" 83 ⟨"TurnCountsModel", "layStill", "()V"⟩ ∈ tg := List.mem_filter.mpr ⟨List.mem_append_right _ (List.mem_append_right _ (List.mem_append_left _ (List.mem_of_getElem? (i := 234) (by decide +kernel)))), by decide +kernel⟩
theorem tb_476 : Cond.instanceMethod ⟨"TurnCountsModel", "layStill", "()V"⟩ ∈ tg := List.mem_filter.mpr ⟨List.mem_append_right _ (List.mem_append_right _ (List.mem_append_left _ (List.mem_of_getElem? (i := 236) (by decide +kernel)))), by decide +kernel⟩
theorem tb_477 : Cond.code ⟨"TurnCountsModel", "layStill", "()V"⟩ prog_9_method_8_code 2 (Option.none : Option FieldType) ∈ tg := List.mem_filter.mpr ⟨List.mem_append_right _ (List.mem_append_right _ (List.mem_append_left _ (List.mem_of_getElem? (i := 237) (by decide +kernel)))), by decide +kernel⟩
theorem tb_478 : Cond.methodLink "TurnCountsModel" 72 ⟨"TurnCountsModel", "many", "()I"⟩ ∈ tg := List.mem_filter.mpr ⟨List.mem_append_right _ (List.mem_append_right _ (List.mem_append_left _ (List.mem_of_getElem? (i := 238) (by decide +kernel)))), by decide +kernel⟩
theorem tb_480 : Cond.instanceMethod ⟨"TurnCountsModel", "many", "()I"⟩ ∈ tg := List.mem_filter.mpr ⟨List.mem_append_right _ (List.mem_append_right _ (List.mem_append_right _ (List.mem_append_left _ (List.mem_of_getElem? (i := 0) (by decide +kernel))))), by decide +kernel⟩
theorem tb_481 : Cond.code ⟨"TurnCountsModel", "many", "()I"⟩ prog_9_method_3_code 1 (Option.some FieldType.int) ∈ tg := List.mem_filter.mpr ⟨List.mem_append_right _ (List.mem_append_right _ (List.mem_append_right _ (List.mem_append_left _ (List.mem_of_getElem? (i := 1) (by decide +kernel))))), by decide +kernel⟩
theorem tb_482 : Cond.methodLink "TurnCountsModel" 86 ⟨"TurnCountsModel", "rank", "()I"⟩ ∈ tg := List.mem_filter.mpr ⟨List.mem_append_right _ (List.mem_append_right _ (List.mem_append_right _ (List.mem_append_left _ (List.mem_of_getElem? (i := 2) (by decide +kernel))))), by decide +kernel⟩
theorem tb_484 : Cond.instanceMethod ⟨"TurnCountsModel", "rank", "()I"⟩ ∈ tg := List.mem_filter.mpr ⟨List.mem_append_right _ (List.mem_append_right _ (List.mem_append_right _ (List.mem_append_left _ (List.mem_of_getElem? (i := 4) (by decide +kernel))))), by decide +kernel⟩
theorem tb_485 : Cond.code ⟨"TurnCountsModel", "rank", "()I"⟩ prog_9_method_4_code 5 (Option.some FieldType.int) ∈ tg := List.mem_filter.mpr ⟨List.mem_append_right _ (List.mem_append_right _ (List.mem_append_right _ (List.mem_append_left _ (List.mem_of_getElem? (i := 5) (by decide +kernel))))), by decide +kernel⟩
theorem tb_486 : Cond.methodLink "TurnCountsModel" 89 ⟨"TurnCountsModel", "meet", "(I)V"⟩ ∈ tg := List.mem_filter.mpr ⟨List.mem_append_right _ (List.mem_append_right _ (List.mem_append_right _ (List.mem_append_left _ (List.mem_of_getElem? (i := 6) (by decide +kernel))))), by decide +kernel⟩
theorem tb_488 : Cond.instanceMethod ⟨"TurnCountsModel", "meet", "(I)V"⟩ ∈ tg := List.mem_filter.mpr ⟨List.mem_append_right _ (List.mem_append_right _ (List.mem_append_right _ (List.mem_append_left _ (List.mem_of_getElem? (i := 8) (by decide +kernel))))), by decide +kernel⟩
theorem tb_489 : Cond.code ⟨"TurnCountsModel", "meet", "(I)V"⟩ prog_9_method_9_code 2 (Option.none : Option FieldType) ∈ tg := List.mem_filter.mpr ⟨List.mem_append_right _ (List.mem_append_right _ (List.mem_append_right _ (List.mem_append_left _ (List.mem_of_getElem? (i := 9) (by decide +kernel))))), by decide +kernel⟩
theorem tb_490 : Cond.methodLink "TurnCountsModel" 93 ⟨"TurnCountsModel", "layRank", "(I)V"⟩ ∈ tg := List.mem_filter.mpr ⟨List.mem_append_right _ (List.mem_append_right _ (List.mem_append_right _ (List.mem_append_left _ (List.mem_of_getElem? (i := 10) (by decide +kernel))))), by decide +kernel⟩
theorem tb_492 : Cond.instanceMethod ⟨"TurnCountsModel", "layRank", "(I)V"⟩ ∈ tg := List.mem_filter.mpr ⟨List.mem_append_right _ (List.mem_append_right _ (List.mem_append_right _ (List.mem_append_left _ (List.mem_of_getElem? (i := 12) (by decide +kernel))))), by decide +kernel⟩
theorem tb_493 : Cond.code ⟨"TurnCountsModel", "layRank", "(I)V"⟩ prog_9_method_5_code 6 (Option.none : Option FieldType) ∈ tg := List.mem_filter.mpr ⟨List.mem_append_right _ (List.mem_append_right _ (List.mem_append_right _ (List.mem_append_left _ (List.mem_of_getElem? (i := 13) (by decide +kernel))))), by decide +kernel⟩
theorem tb_494 : Cond.methodLink "TurnCountsModel" 96 ⟨"TurnCountsModel", "layTurns", "()V"⟩ ∈ tg := List.mem_filter.mpr ⟨List.mem_append_right _ (List.mem_append_right _ (List.mem_append_right _ (List.mem_append_left _ (List.mem_of_getElem? (i := 14) (by decide +kernel))))), by decide +kernel⟩
theorem tb_496 : Cond.instanceMethod ⟨"TurnCountsModel", "layTurns", "()V"⟩ ∈ tg := List.mem_filter.mpr ⟨List.mem_append_right _ (List.mem_append_right _ (List.mem_append_right _ (List.mem_append_left _ (List.mem_of_getElem? (i := 16) (by decide +kernel))))), by decide +kernel⟩
theorem tb_497 : Cond.code ⟨"TurnCountsModel", "layTurns", "()V"⟩ prog_9_method_11_code 3 (Option.none : Option FieldType) ∈ tg := List.mem_filter.mpr ⟨List.mem_append_right _ (List.mem_append_right _ (List.mem_append_right _ (List.mem_append_left _ (List.mem_of_getElem? (i := 17) (by decide +kernel))))), by decide +kernel⟩
theorem tb_498 : Cond.fieldLink "TurnCountsModel" 7 "TurnCountsModel" "state" "[I" ∈ tg := List.mem_filter.mpr ⟨List.mem_append_right _ (List.mem_append_right _ (List.mem_append_right _ (List.mem_append_left _ (List.mem_of_getElem? (i := 18) (by decide +kernel))))), by decide +kernel⟩
theorem tb_499 : Cond.fieldLink "TurnCountsModel" 13 "TurnCountsModel" "images" "[I" ∈ tg := List.mem_filter.mpr ⟨List.mem_append_right _ (List.mem_append_right _ (List.mem_append_right _ (List.mem_append_left _ (List.mem_of_getElem? (i := 19) (by decide +kernel))))), by decide +kernel⟩
theorem tb_500 : Cond.fieldLink "TurnCountsModel" 16 "TurnCountsModel" "isKept" "[Z" ∈ tg := List.mem_filter.mpr ⟨List.mem_append_right _ (List.mem_append_right _ (List.mem_append_right _ (List.mem_append_left _ (List.mem_of_getElem? (i := 20) (by decide +kernel))))), by decide +kernel⟩
theorem tb_501 : Cond.fieldLink "TurnCountsModel" 20 "TurnCountsModel" "pad" "[I" ∈ tg := List.mem_filter.mpr ⟨List.mem_append_right _ (List.mem_append_right _ (List.mem_append_right _ (List.mem_append_left _ (List.mem_of_getElem? (i := 21) (by decide +kernel))))), by decide +kernel⟩
theorem tb_502 : Cond.fieldLink "TurnCountsModel" 130 "TurnCountsModel" "said" "I" ∈ tg := List.mem_filter.mpr ⟨List.mem_append_right _ (List.mem_append_right _ (List.mem_append_right _ (List.mem_append_left _ (List.mem_of_getElem? (i := 22) (by decide +kernel))))), by decide +kernel⟩
theorem tb_503 : Cond.fieldLink "TurnCountsModel" 23 "TurnCountsModel" "row" "[I" ∈ tg := List.mem_filter.mpr ⟨List.mem_append_right _ (List.mem_append_right _ (List.mem_append_right _ (List.mem_append_left _ (List.mem_of_getElem? (i := 23) (by decide +kernel))))), by decide +kernel⟩
theorem tb_504 : Cond.fieldLink "TurnCountsModel" 26 "TurnCountsModel" "isUsed" "[Z" ∈ tg := List.mem_filter.mpr ⟨List.mem_append_right _ (List.mem_append_right _ (List.mem_append_right _ (List.mem_append_left _ (List.mem_of_getElem? (i := 24) (by decide +kernel))))), by decide +kernel⟩
theorem tb_505 : Cond.fieldLink "TurnCountsModel" 29 "TurnCountsModel" "maker" "[I" ∈ tg := List.mem_filter.mpr ⟨List.mem_append_right _ (List.mem_append_right _ (List.mem_append_right _ (List.mem_append_left _ (List.mem_of_getElem? (i := 25) (by decide +kernel))))), by decide +kernel⟩
theorem tb_506 : Cond.fieldLink "TurnCountsModel" 76 "TurnCountsModel" "makers" "I" ∈ tg := List.mem_filter.mpr ⟨List.mem_append_right _ (List.mem_append_right _ (List.mem_append_right _ (List.mem_append_left _ (List.mem_of_getElem? (i := 26) (by decide +kernel))))), by decide +kernel⟩
theorem tb_507 : Cond.fieldLink "TurnCountsModel" 32 "TurnCountsModel" "wave" "[I" ∈ tg := List.mem_filter.mpr ⟨List.mem_append_right _ (List.mem_append_right _ (List.mem_append_right _ (List.mem_append_left _ (List.mem_of_getElem? (i := 27) (by decide +kernel))))), by decide +kernel⟩
theorem tb_508 : Cond.fieldLink "TurnCountsModel" 80 "TurnCountsModel" "waved" "I" ∈ tg := List.mem_filter.mpr ⟨List.mem_append_right _ (List.mem_append_right _ (List.mem_append_right _ (List.mem_append_left _ (List.mem_of_getElem? (i := 28) (by decide +kernel))))), by decide +kernel⟩
theorem tb_509 : Cond.fieldLink "TurnCountsModel" 36 "TurnCountsModel" "turnOf" "[I" ∈ tg := List.mem_filter.mpr ⟨List.mem_append_right _ (List.mem_append_right _ (List.mem_append_right _ (List.mem_append_left _ (List.mem_of_getElem? (i := 29) (by decide +kernel))))), by decide +kernel⟩
theorem tb_510 : Cond.fieldLink "TurnCountsModel" 99 "TurnCountsModel" "turns" "I" ∈ tg := List.mem_filter.mpr ⟨List.mem_append_right _ (List.mem_append_right _ (List.mem_append_right _ (List.mem_append_left _ (List.mem_of_getElem? (i := 30) (by decide +kernel))))), by decide +kernel⟩
theorem tb_511 : Cond.fieldLink "TurnCountsModel" 39 "TurnCountsModel" "had" "[I" ∈ tg := List.mem_filter.mpr ⟨List.mem_append_right _ (List.mem_append_right _ (List.mem_append_right _ (List.mem_append_left _ (List.mem_of_getElem? (i := 31) (by decide +kernel))))), by decide +kernel⟩
theorem tb_512 : Cond.fieldLink "TurnCountsModel" 42 "TurnCountsModel" "longs" "[I" ∈ tg := List.mem_filter.mpr ⟨List.mem_append_right _ (List.mem_append_right _ (List.mem_append_right _ (List.mem_append_left _ (List.mem_of_getElem? (i := 32) (by decide +kernel))))), by decide +kernel⟩
theorem tb_513 : Cond.fieldLink "TurnCountsModel" 45 "TurnCountsModel" "types" "[I" ∈ tg := List.mem_filter.mpr ⟨List.mem_append_right _ (List.mem_append_right _ (List.mem_append_right _ (List.mem_append_left _ (List.mem_of_getElem? (i := 33) (by decide +kernel))))), by decide +kernel⟩
theorem tb_514 : Cond.fieldLink "TurnCountsModel" 48 "TurnCountsModel" "typeMany" "[I" ∈ tg := List.mem_filter.mpr ⟨List.mem_append_right _ (List.mem_append_right _ (List.mem_append_right _ (List.mem_append_left _ (List.mem_of_getElem? (i := 34) (by decide +kernel))))), by decide +kernel⟩
theorem tb_515 : Cond.fieldLink "TurnCountsModel" 148 "TurnCountsModel" "typesMany" "I" ∈ tg := List.mem_filter.mpr ⟨List.mem_append_right _ (List.mem_append_right _ (List.mem_append_right _ (List.mem_append_left _ (List.mem_of_getElem? (i := 35) (by decide +kernel))))), by decide +kernel⟩
theorem tb_516 : Cond.fieldLink "TurnCountsModel" 51 "TurnCountsModel" "colour" "[I" ∈ tg := List.mem_filter.mpr ⟨List.mem_append_right _ (List.mem_append_right _ (List.mem_append_right _ (List.mem_append_left _ (List.mem_of_getElem? (i := 36) (by decide +kernel))))), by decide +kernel⟩
theorem tb_517 : Cond.fieldLink "TurnCountsModel" 54 "TurnCountsModel" "patternOf" "[I" ∈ tg := List.mem_filter.mpr ⟨List.mem_append_right _ (List.mem_append_right _ (List.mem_append_right _ (List.mem_append_left _ (List.mem_of_getElem? (i := 37) (by decide +kernel))))), by decide +kernel⟩
theorem tb_518 : Cond.fieldLink "TurnCountsModel" 57 "TurnCountsModel" "leastOf" "[I" ∈ tg := List.mem_filter.mpr ⟨List.mem_append_right _ (List.mem_append_right _ (List.mem_append_right _ (List.mem_append_left _ (List.mem_of_getElem? (i := 38) (by decide +kernel))))), by decide +kernel⟩
theorem tb_519 : Cond.fieldLink "TurnCountsModel" 60 "TurnCountsModel" "sizeOf" "[I" ∈ tg := List.mem_filter.mpr ⟨List.mem_append_right _ (List.mem_append_right _ (List.mem_append_right _ (List.mem_append_left _ (List.mem_of_getElem? (i := 39) (by decide +kernel))))), by decide +kernel⟩
theorem tb_520 : Cond.fieldLink "TurnCountsModel" 169 "TurnCountsModel" "patternMany" "I" ∈ tg := List.mem_filter.mpr ⟨List.mem_append_right _ (List.mem_append_right _ (List.mem_append_right _ (List.mem_append_left _ (List.mem_of_getElem? (i := 40) (by decide +kernel))))), by decide +kernel⟩
theorem tb_521 : Cond.fieldLink "TurnCountsModel" 163 "TurnCountsModel" "colourings" "I" ∈ tg := List.mem_filter.mpr ⟨List.mem_append_right _ (List.mem_append_right _ (List.mem_append_right _ (List.mem_append_left _ (List.mem_of_getElem? (i := 41) (by decide +kernel))))), by decide +kernel⟩
theorem tb_522 : Cond.fieldLink "TurnCountsModel" 63 "TurnCountsModel" "placeWorth" "[I" ∈ tg := List.mem_filter.mpr ⟨List.mem_append_right _ (List.mem_append_right _ (List.mem_append_right _ (List.mem_append_left _ (List.mem_of_getElem? (i := 42) (by decide +kernel))))), by decide +kernel⟩
theorem tb_523 : Cond.laysFinal "TurnCountsModel" "TurnCountsModel" "state" "[I" ∈ tg := List.mem_filter.mpr ⟨List.mem_append_right _ (List.mem_append_right _ (List.mem_append_right _ (List.mem_append_left _ (List.mem_of_getElem? (i := 43) (by decide +kernel))))), by decide +kernel⟩
theorem tb_525 : Cond.laysFinal "TurnCountsModel" "TurnCountsModel" "images" "[I" ∈ tg := List.mem_filter.mpr ⟨List.mem_append_right _ (List.mem_append_right _ (List.mem_append_right _ (List.mem_append_left _ (List.mem_of_getElem? (i := 45) (by decide +kernel))))), by decide +kernel⟩
theorem tb_527 : Cond.laysFinal "TurnCountsModel" "TurnCountsModel" "isKept" "[Z" ∈ tg := List.mem_filter.mpr ⟨List.mem_append_right _ (List.mem_append_right _ (List.mem_append_right _ (List.mem_append_left _ (List.mem_of_getElem? (i := 47) (by decide +kernel))))), by decide +kernel⟩
theorem tb_529 : Cond.laysFinal "TurnCountsModel" "TurnCountsModel" "pad" "[I" ∈ tg := List.mem_filter.mpr ⟨List.mem_append_right _ (List.mem_append_right _ (List.mem_append_right _ (List.mem_append_left _ (List.mem_of_getElem? (i := 49) (by decide +kernel))))), by decide +kernel⟩
theorem tb_531 : Cond.lays "TurnCountsModel" "TurnCountsModel" "said" "I" ∈ tg := List.mem_filter.mpr ⟨List.mem_append_right _ (List.mem_append_right _ (List.mem_append_right _ (List.mem_append_left _ (List.mem_of_getElem? (i := 51) (by decide +kernel))))), by decide +kernel⟩
theorem tb_533 : Cond.laysFinal "TurnCountsModel" "TurnCountsModel" "row" "[I" ∈ tg := List.mem_filter.mpr ⟨List.mem_append_right _ (List.mem_append_right _ (List.mem_append_right _ (List.mem_append_left _ (List.mem_of_getElem? (i := 53) (by decide +kernel))))), by decide +kernel⟩
theorem tb_535 : Cond.laysFinal "TurnCountsModel" "TurnCountsModel" "isUsed" "[Z" ∈ tg := List.mem_filter.mpr ⟨List.mem_append_right _ (List.mem_append_right _ (List.mem_append_right _ (List.mem_append_left _ (List.mem_of_getElem? (i := 55) (by decide +kernel))))), by decide +kernel⟩
theorem tb_537 : Cond.laysFinal "TurnCountsModel" "TurnCountsModel" "maker" "[I" ∈ tg := List.mem_filter.mpr ⟨List.mem_append_right _ (List.mem_append_right _ (List.mem_append_right _ (List.mem_append_left _ (List.mem_of_getElem? (i := 57) (by decide +kernel))))), by decide +kernel⟩
theorem tb_539 : Cond.lays "TurnCountsModel" "TurnCountsModel" "makers" "I" ∈ tg := List.mem_filter.mpr ⟨List.mem_append_right _ (List.mem_append_right _ (List.mem_append_right _ (List.mem_append_left _ (List.mem_of_getElem? (i := 59) (by decide +kernel))))), by decide +kernel⟩
theorem tb_541 : Cond.laysFinal "TurnCountsModel" "TurnCountsModel" "wave" "[I" ∈ tg := List.mem_filter.mpr ⟨List.mem_append_right _ (List.mem_append_right _ (List.mem_append_right _ (List.mem_append_left _ (List.mem_of_getElem? (i := 61) (by decide +kernel))))), by decide +kernel⟩
theorem tb_543 : Cond.lays "TurnCountsModel" "TurnCountsModel" "waved" "I" ∈ tg := List.mem_filter.mpr ⟨List.mem_append_right _ (List.mem_append_right _ (List.mem_append_right _ (List.mem_append_left _ (List.mem_of_getElem? (i := 63) (by decide +kernel))))), by decide +kernel⟩
theorem tb_545 : Cond.laysFinal "TurnCountsModel" "TurnCountsModel" "turnOf" "[I" ∈ tg := List.mem_filter.mpr ⟨List.mem_append_right _ (List.mem_append_right _ (List.mem_append_right _ (List.mem_append_left _ (List.mem_of_getElem? (i := 65) (by decide +kernel))))), by decide +kernel⟩
theorem tb_547 : Cond.lays "TurnCountsModel" "TurnCountsModel" "turns" "I" ∈ tg := List.mem_filter.mpr ⟨List.mem_append_right _ (List.mem_append_right _ (List.mem_append_right _ (List.mem_append_left _ (List.mem_of_getElem? (i := 67) (by decide +kernel))))), by decide +kernel⟩
theorem tb_549 : Cond.laysFinal "TurnCountsModel" "TurnCountsModel" "had" "[I" ∈ tg := List.mem_filter.mpr ⟨List.mem_append_right _ (List.mem_append_right _ (List.mem_append_right _ (List.mem_append_left _ (List.mem_of_getElem? (i := 69) (by decide +kernel))))), by decide +kernel⟩
theorem tb_551 : Cond.laysFinal "TurnCountsModel" "TurnCountsModel" "longs" "[I" ∈ tg := List.mem_filter.mpr ⟨List.mem_append_right _ (List.mem_append_right _ (List.mem_append_right _ (List.mem_append_left _ (List.mem_of_getElem? (i := 71) (by decide +kernel))))), by decide +kernel⟩
theorem tb_553 : Cond.laysFinal "TurnCountsModel" "TurnCountsModel" "types" "[I" ∈ tg := List.mem_filter.mpr ⟨List.mem_append_right _ (List.mem_append_right _ (List.mem_append_right _ (List.mem_append_left _ (List.mem_of_getElem? (i := 73) (by decide +kernel))))), by decide +kernel⟩
theorem tb_555 : Cond.laysFinal "TurnCountsModel" "TurnCountsModel" "typeMany" "[I" ∈ tg := List.mem_filter.mpr ⟨List.mem_append_right _ (List.mem_append_right _ (List.mem_append_right _ (List.mem_append_left _ (List.mem_of_getElem? (i := 75) (by decide +kernel))))), by decide +kernel⟩
theorem tb_557 : Cond.lays "TurnCountsModel" "TurnCountsModel" "typesMany" "I" ∈ tg := List.mem_filter.mpr ⟨List.mem_append_right _ (List.mem_append_right _ (List.mem_append_right _ (List.mem_append_left _ (List.mem_of_getElem? (i := 77) (by decide +kernel))))), by decide +kernel⟩
theorem tb_559 : Cond.laysFinal "TurnCountsModel" "TurnCountsModel" "colour" "[I" ∈ tg := List.mem_filter.mpr ⟨List.mem_append_right _ (List.mem_append_right _ (List.mem_append_right _ (List.mem_append_left _ (List.mem_of_getElem? (i := 79) (by decide +kernel))))), by decide +kernel⟩
theorem tb_561 : Cond.laysFinal "TurnCountsModel" "TurnCountsModel" "patternOf" "[I" ∈ tg := List.mem_filter.mpr ⟨List.mem_append_right _ (List.mem_append_right _ (List.mem_append_right _ (List.mem_append_left _ (List.mem_of_getElem? (i := 81) (by decide +kernel))))), by decide +kernel⟩
theorem tb_563 : Cond.laysFinal "TurnCountsModel" "TurnCountsModel" "leastOf" "[I" ∈ tg := List.mem_filter.mpr ⟨List.mem_append_right _ (List.mem_append_right _ (List.mem_append_right _ (List.mem_append_left _ (List.mem_of_getElem? (i := 83) (by decide +kernel))))), by decide +kernel⟩
theorem tb_565 : Cond.laysFinal "TurnCountsModel" "TurnCountsModel" "sizeOf" "[I" ∈ tg := List.mem_filter.mpr ⟨List.mem_append_right _ (List.mem_append_right _ (List.mem_append_right _ (List.mem_append_left _ (List.mem_of_getElem? (i := 85) (by decide +kernel))))), by decide +kernel⟩
theorem tb_567 : Cond.lays "TurnCountsModel" "TurnCountsModel" "patternMany" "I" ∈ tg := List.mem_filter.mpr ⟨List.mem_append_right _ (List.mem_append_right _ (List.mem_append_right _ (List.mem_append_left _ (List.mem_of_getElem? (i := 87) (by decide +kernel))))), by decide +kernel⟩
theorem tb_569 : Cond.lays "TurnCountsModel" "TurnCountsModel" "colourings" "I" ∈ tg := List.mem_filter.mpr ⟨List.mem_append_right _ (List.mem_append_right _ (List.mem_append_right _ (List.mem_append_left _ (List.mem_of_getElem? (i := 89) (by decide +kernel))))), by decide +kernel⟩
theorem tb_571 : Cond.laysFinal "TurnCountsModel" "TurnCountsModel" "placeWorth" "[I" ∈ tg := List.mem_filter.mpr ⟨List.mem_append_right _ (List.mem_append_right _ (List.mem_append_right _ (List.mem_append_left _ (List.mem_of_getElem? (i := 91) (by decide +kernel))))), by decide +kernel⟩
theorem tb_574 : Cond.arrayClass FieldType.boolean ∈ tg := List.mem_filter.mpr ⟨List.mem_append_right _ (List.mem_append_right _ (List.mem_append_right _ (List.mem_append_left _ (List.mem_of_getElem? (i := 94) (by decide +kernel))))), by decide +kernel⟩
theorem tb_575 : Cond.methodLink "TurnCountsLaw" 17 ⟨"TurnCountsModel", "points", "(I)I"⟩ ∈ tg := List.mem_filter.mpr ⟨List.mem_append_right _ (List.mem_append_right _ (List.mem_append_right _ (List.mem_append_left _ (List.mem_of_getElem? (i := 95) (by decide +kernel))))), by decide +kernel⟩
theorem tb_576 : Cond.instanceMethod ⟨"TurnCountsModel", "points", "(I)I"⟩ ∈ tg := List.mem_filter.mpr ⟨List.mem_append_right _ (List.mem_append_right _ (List.mem_append_right _ (List.mem_append_left _ (List.mem_of_getElem? (i := 96) (by decide +kernel))))), by decide +kernel⟩
theorem tb_577 : Cond.selects "TurnCountsModel" ⟨"TurnCountsModel", "points", "(I)I"⟩ ⟨"TurnCountsModel", "points", "(I)I"⟩ ∈ tg := List.mem_filter.mpr ⟨List.mem_append_right _ (List.mem_append_right _ (List.mem_append_right _ (List.mem_append_left _ (List.mem_of_getElem? (i := 97) (by decide +kernel))))), by decide +kernel⟩
theorem tb_578 : Cond.code ⟨"TurnCountsModel", "points", "(I)I"⟩ prog_9_method_12_code 3 (Option.some FieldType.int) ∈ tg := List.mem_filter.mpr ⟨List.mem_append_right _ (List.mem_append_right _ (List.mem_append_right _ (List.mem_append_left _ (List.mem_of_getElem? (i := 98) (by decide +kernel))))), by decide +kernel⟩
theorem tb_579 : Cond.methodLink "TurnCountsModel" 102 ⟨"TurnCountsModel", "in", "(III)Z"⟩ ∈ tg := List.mem_filter.mpr ⟨List.mem_append_right _ (List.mem_append_right _ (List.mem_append_right _ (List.mem_append_left _ (List.mem_of_getElem? (i := 99) (by decide +kernel))))), by decide +kernel⟩
theorem tb_580 : Cond.static ⟨"TurnCountsModel", "in", "(III)Z"⟩ ∈ tg := List.mem_filter.mpr ⟨List.mem_append_right _ (List.mem_append_right _ (List.mem_append_right _ (List.mem_append_left _ (List.mem_of_getElem? (i := 100) (by decide +kernel))))), by decide +kernel⟩
theorem tb_581 : Cond.code ⟨"TurnCountsModel", "in", "(III)Z"⟩ prog_9_method_2_code 3 (Option.some FieldType.boolean) ∈ tg := List.mem_filter.mpr ⟨List.mem_append_right _ (List.mem_append_right _ (List.mem_append_right _ (List.mem_append_left _ (List.mem_of_getElem? (i := 101) (by decide +kernel))))), by decide +kernel⟩
theorem tb_582 : Cond.methodLink "TurnCountsLaw" 22 ⟨"TurnCountsModel", "beside", "(III)I"⟩ ∈ tg := List.mem_filter.mpr ⟨List.mem_append_right _ (List.mem_append_right _ (List.mem_append_right _ (List.mem_append_left _ (List.mem_of_getElem? (i := 102) (by decide +kernel))))), by decide +kernel⟩
theorem tb_583 : Cond.instanceMethod ⟨"TurnCountsModel", "beside", "(III)I"⟩ ∈ tg := List.mem_filter.mpr ⟨List.mem_append_right _ (List.mem_append_right _ (List.mem_append_right _ (List.mem_append_left _ (List.mem_of_getElem? (i := 103) (by decide +kernel))))), by decide +kernel⟩
theorem tb_584 : Cond.selects "TurnCountsModel" ⟨"TurnCountsModel", "beside", "(III)I"⟩ ⟨"TurnCountsModel", "beside", "(III)I"⟩ ∈ tg := List.mem_filter.mpr ⟨List.mem_append_right _ (List.mem_append_right _ (List.mem_append_right _ (List.mem_append_left _ (List.mem_of_getElem? (i := 104) (by decide +kernel))))), by decide +kernel⟩
theorem tb_585 : Cond.code ⟨"TurnCountsModel", "beside", "(III)I"⟩ prog_9_method_19_code 4 (Option.some FieldType.int) ∈ tg := List.mem_filter.mpr ⟨List.mem_append_right _ (List.mem_append_right _ (List.mem_append_right _ (List.mem_append_left _ (List.mem_of_getElem? (i := 105) (by decide +kernel))))), by decide +kernel⟩
theorem tb_586 : Cond.methodLink "TurnCountsModel" 123 ⟨"TurnCountsModel", "isKind", "(I)Z"⟩ ∈ tg := List.mem_filter.mpr ⟨List.mem_append_right _ (List.mem_append_right _ (List.mem_append_right _ (List.mem_append_left _ (List.mem_of_getElem? (i := 106) (by decide +kernel))))), by decide +kernel⟩
theorem tb_587 : Cond.static ⟨"TurnCountsModel", "isKind", "(I)Z"⟩ ∈ tg := List.mem_filter.mpr ⟨List.mem_append_right _ (List.mem_append_right _ (List.mem_append_right _ (List.mem_append_left _ (List.mem_of_getElem? (i := 107) (by decide +kernel))))), by decide +kernel⟩
theorem tb_588 : Cond.code ⟨"TurnCountsModel", "isKind", "(I)Z"⟩ prog_9_method_13_code 1 (Option.some FieldType.boolean) ∈ tg := List.mem_filter.mpr ⟨List.mem_append_right _ (List.mem_append_right _ (List.mem_append_right _ (List.mem_append_left _ (List.mem_of_getElem? (i := 108) (by decide +kernel))))), by decide +kernel⟩
theorem tb_589 : Cond.methodLink "TurnCountsModel" 127 ⟨"TurnCountsModel", "addKind", "(IIII)V"⟩ ∈ tg := List.mem_filter.mpr ⟨List.mem_append_right _ (List.mem_append_right _ (List.mem_append_right _ (List.mem_append_left _ (List.mem_of_getElem? (i := 109) (by decide +kernel))))), by decide +kernel⟩
theorem tb_591 : Cond.instanceMethod ⟨"TurnCountsModel", "addKind", "(IIII)V"⟩ ∈ tg := List.mem_filter.mpr ⟨List.mem_append_right _ (List.mem_append_right _ (List.mem_append_right _ (List.mem_append_left _ (List.mem_of_getElem? (i := 111) (by decide +kernel))))), by decide +kernel⟩
theorem tb_592 : Cond.code ⟨"TurnCountsModel", "addKind", "(IIII)V"⟩ prog_9_method_18_code 7 (Option.none : Option FieldType) ∈ tg := List.mem_filter.mpr ⟨List.mem_append_right _ (List.mem_append_right _ (List.mem_append_right _ (List.mem_append_left _ (List.mem_of_getElem? (i := 112) (by decide +kernel))))), by decide +kernel⟩
theorem tb_593 : Cond.methodLink "TurnCountsModel" 113 ⟨"TurnCountsModel", "addRound", "(III)V"⟩ ∈ tg := List.mem_filter.mpr ⟨List.mem_append_right _ (List.mem_append_right _ (List.mem_append_right _ (List.mem_append_left _ (List.mem_of_getElem? (i := 113) (by decide +kernel))))), by decide +kernel⟩
theorem tb_595 : Cond.instanceMethod ⟨"TurnCountsModel", "addRound", "(III)V"⟩ ∈ tg := List.mem_filter.mpr ⟨List.mem_append_right _ (List.mem_append_right _ (List.mem_append_right _ (List.mem_append_left _ (List.mem_of_getElem? (i := 115) (by decide +kernel))))), by decide +kernel⟩
theorem tb_596 : Cond.code ⟨"TurnCountsModel", "addRound", "(III)V"⟩ prog_9_method_15_code 5 (Option.none : Option FieldType) ∈ tg := List.mem_filter.mpr ⟨List.mem_append_right _ (List.mem_append_right _ (List.mem_append_right _ (List.mem_append_left _ (List.mem_of_getElem? (i := 116) (by decide +kernel))))), by decide +kernel⟩
theorem tb_597 : Cond.methodLink "TurnCountsModel" 106 ⟨"TurnCountsModel", "bring", "(IIII)V"⟩ ∈ tg := List.mem_filter.mpr ⟨List.mem_append_right _ (List.mem_append_right _ (List.mem_append_right _ (List.mem_append_left _ (List.mem_of_getElem? (i := 117) (by decide +kernel))))), by decide +kernel⟩
theorem tb_599 : Cond.instanceMethod ⟨"TurnCountsModel", "bring", "(IIII)V"⟩ ∈ tg := List.mem_filter.mpr ⟨List.mem_append_right _ (List.mem_append_right _ (List.mem_append_right _ (List.mem_append_left _ (List.mem_of_getElem? (i := 119) (by decide +kernel))))), by decide +kernel⟩
theorem tb_600 : Cond.code ⟨"TurnCountsModel", "bring", "(IIII)V"⟩ prog_9_method_14_code 6 (Option.none : Option FieldType) ∈ tg := List.mem_filter.mpr ⟨List.mem_append_right _ (List.mem_append_right _ (List.mem_append_right _ (List.mem_append_left _ (List.mem_of_getElem? (i := 120) (by decide +kernel))))), by decide +kernel⟩
theorem tb_601 : Cond.methodLink "TurnCountsModel" 110 ⟨"TurnCountsModel", "addMaker", "()V"⟩ ∈ tg := List.mem_filter.mpr ⟨List.mem_append_right _ (List.mem_append_right _ (List.mem_append_right _ (List.mem_append_left _ (List.mem_of_getElem? (i := 121) (by decide +kernel))))), by decide +kernel⟩
theorem tb_603 : Cond.instanceMethod ⟨"TurnCountsModel", "addMaker", "()V"⟩ ∈ tg := List.mem_filter.mpr ⟨List.mem_append_right _ (List.mem_append_right _ (List.mem_append_right _ (List.mem_append_left _ (List.mem_of_getElem? (i := 123) (by decide +kernel))))), by decide +kernel⟩
theorem tb_604 : Cond.code ⟨"TurnCountsModel", "addMaker", "()V"⟩ prog_9_method_7_code 2 (Option.none : Option FieldType) ∈ tg := List.mem_filter.mpr ⟨List.mem_append_right _ (List.mem_append_right _ (List.mem_append_right _ (List.mem_append_left _ (List.mem_of_getElem? (i := 124) (by decide +kernel))))), by decide +kernel⟩
theorem tb_605 : Cond.methodLink "TurnCountsModel" 117 ⟨"TurnCountsModel", "addFlip", "(III)V"⟩ ∈ tg := List.mem_filter.mpr ⟨List.mem_append_right _ (List.mem_append_right _ (List.mem_append_right _ (List.mem_append_left _ (List.mem_of_getElem? (i := 125) (by decide +kernel))))), by decide +kernel⟩
theorem tb_607 : Cond.instanceMethod ⟨"TurnCountsModel", "addFlip", "(III)V"⟩ ∈ tg := List.mem_filter.mpr ⟨List.mem_append_right _ (List.mem_append_right _ (List.mem_append_right _ (List.mem_append_left _ (List.mem_of_getElem? (i := 127) (by decide +kernel))))), by decide +kernel⟩
theorem tb_608 : Cond.code ⟨"TurnCountsModel", "addFlip", "(III)V"⟩ prog_9_method_16_code 5 (Option.none : Option FieldType) ∈ tg := List.mem_filter.mpr ⟨List.mem_append_right _ (List.mem_append_right _ (List.mem_append_right _ (List.mem_append_left _ (List.mem_of_getElem? (i := 128) (by decide +kernel))))), by decide +kernel⟩
theorem tb_609 : Cond.methodLink "TurnCountsModel" 120 ⟨"TurnCountsModel", "addNext", "(IIII)V"⟩ ∈ tg := List.mem_filter.mpr ⟨List.mem_append_right _ (List.mem_append_right _ (List.mem_append_right _ (List.mem_append_left _ (List.mem_of_getElem? (i := 129) (by decide +kernel))))), by decide +kernel⟩
theorem tb_611 : Cond.instanceMethod ⟨"TurnCountsModel", "addNext", "(IIII)V"⟩ ∈ tg := List.mem_filter.mpr ⟨List.mem_append_right _ (List.mem_append_right _ (List.mem_append_right _ (List.mem_append_left _ (List.mem_of_getElem? (i := 131) (by decide +kernel))))), by decide +kernel⟩
theorem tb_612 : Cond.code ⟨"TurnCountsModel", "addNext", "(IIII)V"⟩ prog_9_method_17_code 6 (Option.none : Option FieldType) ∈ tg := List.mem_filter.mpr ⟨List.mem_append_right _ (List.mem_append_right _ (List.mem_append_right _ (List.mem_append_left _ (List.mem_of_getElem? (i := 132) (by decide +kernel))))), by decide +kernel⟩
theorem tb_613 : Cond.methodLink "TurnCountsLaw" 26 ⟨"TurnCountsModel", "blocks", "(III)I"⟩ ∈ tg := List.mem_filter.mpr ⟨List.mem_append_right _ (List.mem_append_right _ (List.mem_append_right _ (List.mem_append_left _ (List.mem_of_getElem? (i := 133) (by decide +kernel))))), by decide +kernel⟩
theorem tb_614 : Cond.instanceMethod ⟨"TurnCountsModel", "blocks", "(III)I"⟩ ∈ tg := List.mem_filter.mpr ⟨List.mem_append_right _ (List.mem_append_right _ (List.mem_append_right _ (List.mem_append_left _ (List.mem_of_getElem? (i := 134) (by decide +kernel))))), by decide +kernel⟩
theorem tb_615 : Cond.selects "TurnCountsModel" ⟨"TurnCountsModel", "blocks", "(III)I"⟩ ⟨"TurnCountsModel", "blocks", "(III)I"⟩ ∈ tg := List.mem_filter.mpr ⟨List.mem_append_right _ (List.mem_append_right _ (List.mem_append_right _ (List.mem_append_left _ (List.mem_of_getElem? (i := 135) (by decide +kernel))))), by decide +kernel⟩
theorem tb_616 : Cond.code ⟨"TurnCountsModel", "blocks", "(III)I"⟩ prog_9_method_20_code 5 (Option.some FieldType.int) ∈ tg := List.mem_filter.mpr ⟨List.mem_append_right _ (List.mem_append_right _ (List.mem_append_right _ (List.mem_append_left _ (List.mem_of_getElem? (i := 136) (by decide +kernel))))), by decide +kernel⟩
theorem tb_617 : Cond.methodLink "TurnCountsLaw" 35 ⟨"TurnCountsModel", "say", "(I)I"⟩ ∈ tg := List.mem_filter.mpr ⟨List.mem_append_right _ (List.mem_append_right _ (List.mem_append_right _ (List.mem_append_left _ (List.mem_of_getElem? (i := 137) (by decide +kernel))))), by decide +kernel⟩
theorem tb_618 : Cond.instanceMethod ⟨"TurnCountsModel", "say", "(I)I"⟩ ∈ tg := List.mem_filter.mpr ⟨List.mem_append_right _ (List.mem_append_right _ (List.mem_append_right _ (List.mem_append_left _ (List.mem_of_getElem? (i := 138) (by decide +kernel))))), by decide +kernel⟩
theorem tb_619 : Cond.selects "TurnCountsModel" ⟨"TurnCountsModel", "say", "(I)I"⟩ ⟨"TurnCountsModel", "say", "(I)I"⟩ ∈ tg := List.mem_filter.mpr ⟨List.mem_append_right _ (List.mem_append_right _ (List.mem_append_right _ (List.mem_append_left _ (List.mem_of_getElem? (i := 139) (by decide +kernel))))), by decide +kernel⟩
theorem tb_620 : Cond.code ⟨"TurnCountsModel", "say", "(I)I"⟩ prog_9_method_21_code 2 (Option.some FieldType.int) ∈ tg := List.mem_filter.mpr ⟨List.mem_append_right _ (List.mem_append_right _ (List.mem_append_right _ (List.mem_append_left _ (List.mem_of_getElem? (i := 140) (by decide +kernel))))), by decide +kernel⟩
theorem tb_621 : Cond.methodLink "TurnCountsLaw" 39 ⟨"TurnCountsModel", "wipe", "()I"⟩ ∈ tg := List.mem_filter.mpr ⟨List.mem_append_right _ (List.mem_append_right _ (List.mem_append_right _ (List.mem_append_left _ (List.mem_of_getElem? (i := 141) (by decide +kernel))))), by decide +kernel⟩
theorem tb_622 : Cond.instanceMethod ⟨"TurnCountsModel", "wipe", "()I"⟩ ∈ tg := List.mem_filter.mpr ⟨List.mem_append_right _ (List.mem_append_right _ (List.mem_append_right _ (List.mem_append_left _ (List.mem_of_getElem? (i := 142) (by decide +kernel))))), by decide +kernel⟩
theorem tb_623 : Cond.selects "TurnCountsModel" ⟨"TurnCountsModel", "wipe", "()I"⟩ ⟨"TurnCountsModel", "wipe", "()I"⟩ ∈ tg := List.mem_filter.mpr ⟨List.mem_append_right _ (List.mem_append_right _ (List.mem_append_right _ (List.mem_append_left _ (List.mem_of_getElem? (i := 143) (by decide +kernel))))), by decide +kernel⟩
theorem tb_624 : Cond.code ⟨"TurnCountsModel", "wipe", "()I"⟩ prog_9_method_22_code 2 (Option.some FieldType.int) ∈ tg := List.mem_filter.mpr ⟨List.mem_append_right _ (List.mem_append_right _ (List.mem_append_right _ (List.mem_append_left _ (List.mem_of_getElem? (i := 144) (by decide +kernel))))), by decide +kernel⟩
theorem tb_625 : Cond.methodLink "TurnCountsLaw" 31 ⟨"TurnCountsModel", "join", "()I"⟩ ∈ tg := List.mem_filter.mpr ⟨List.mem_append_right _ (List.mem_append_right _ (List.mem_append_right _ (List.mem_append_left _ (List.mem_of_getElem? (i := 145) (by decide +kernel))))), by decide +kernel⟩
theorem tb_626 : Cond.instanceMethod ⟨"TurnCountsModel", "join", "()I"⟩ ∈ tg := List.mem_filter.mpr ⟨List.mem_append_right _ (List.mem_append_right _ (List.mem_append_right _ (List.mem_append_left _ (List.mem_of_getElem? (i := 146) (by decide +kernel))))), by decide +kernel⟩
theorem tb_627 : Cond.selects "TurnCountsModel" ⟨"TurnCountsModel", "join", "()I"⟩ ⟨"TurnCountsModel", "join", "()I"⟩ ∈ tg := List.mem_filter.mpr ⟨List.mem_append_right _ (List.mem_append_right _ (List.mem_append_right _ (List.mem_append_left _ (List.mem_of_getElem? (i := 147) (by decide +kernel))))), by decide +kernel⟩
theorem tb_628 : Cond.code ⟨"TurnCountsModel", "join", "()I"⟩ prog_9_method_24_code 3 (Option.some FieldType.int) ∈ tg := List.mem_filter.mpr ⟨List.mem_append_right _ (List.mem_append_right _ (List.mem_append_right _ (List.mem_append_left _ (List.mem_of_getElem? (i := 148) (by decide +kernel))))), by decide +kernel⟩
theorem tb_629 : Cond.methodLink "TurnCountsModel" 133 ⟨"TurnCountsModel", "layPad", "()Z"⟩ ∈ tg := List.mem_filter.mpr ⟨List.mem_append_right _ (List.mem_append_right _ (List.mem_append_right _ (List.mem_append_left _ (List.mem_of_getElem? (i := 149) (by decide +kernel))))), by decide +kernel⟩
theorem tb_631 : Cond.instanceMethod ⟨"TurnCountsModel", "layPad", "()Z"⟩ ∈ tg := List.mem_filter.mpr ⟨List.mem_append_right _ (List.mem_append_right _ (List.mem_append_right _ (List.mem_append_left _ (List.mem_of_getElem? (i := 151) (by decide +kernel))))), by decide +kernel⟩
theorem tb_632 : Cond.code ⟨"TurnCountsModel", "layPad", "()Z"⟩ prog_9_method_23_code 4 (Option.some FieldType.boolean) ∈ tg := List.mem_filter.mpr ⟨List.mem_append_right _ (List.mem_append_right _ (List.mem_append_right _ (List.mem_append_left _ (List.mem_of_getElem? (i := 152) (by decide +kernel))))), by decide +kernel⟩
theorem tb_633 : Cond.methodLink "TurnCountsLaw" 43 ⟨"TurnCountsModel", "turn", "(I)I"⟩ ∈ tg := List.mem_filter.mpr ⟨List.mem_append_right _ (List.mem_append_right _ (List.mem_append_right _ (List.mem_append_left _ (List.mem_of_getElem? (i := 153) (by decide +kernel))))), by decide +kernel⟩
theorem tb_634 : Cond.instanceMethod ⟨"TurnCountsModel", "turn", "(I)I"⟩ ∈ tg := List.mem_filter.mpr ⟨List.mem_append_right _ (List.mem_append_right _ (List.mem_append_right _ (List.mem_append_left _ (List.mem_of_getElem? (i := 154) (by decide +kernel))))), by decide +kernel⟩
theorem tb_635 : Cond.selects "TurnCountsModel" ⟨"TurnCountsModel", "turn", "(I)I"⟩ ⟨"TurnCountsModel", "turn", "(I)I"⟩ ∈ tg := List.mem_filter.mpr ⟨List.mem_append_right _ (List.mem_append_right _ (List.mem_append_right _ (List.mem_append_left _ (List.mem_of_getElem? (i := 155) (by decide +kernel))))), by decide +kernel⟩
theorem tb_636 : Cond.code ⟨"TurnCountsModel", "turn", "(I)I"⟩ prog_9_method_28_code 2 (Option.some FieldType.int) ∈ tg := List.mem_filter.mpr ⟨List.mem_append_right _ (List.mem_append_right _ (List.mem_append_right _ (List.mem_append_left _ (List.mem_of_getElem? (i := 156) (by decide +kernel))))), by decide +kernel⟩
theorem tb_637 : Cond.methodLink "TurnCountsModel" 141 ⟨"TurnCountsModel", "typeOfRow", "()I"⟩ ∈ tg := List.mem_filter.mpr ⟨List.mem_append_right _ (List.mem_append_right _ (List.mem_append_right _ (List.mem_append_left _ (List.mem_of_getElem? (i := 157) (by decide +kernel))))), by decide +kernel⟩
theorem tb_639 : Cond.instanceMethod ⟨"TurnCountsModel", "typeOfRow", "()I"⟩ ∈ tg := List.mem_filter.mpr ⟨List.mem_append_right _ (List.mem_append_right _ (List.mem_append_right _ (List.mem_append_left _ (List.mem_of_getElem? (i := 159) (by decide +kernel))))), by decide +kernel⟩
theorem tb_640 : Cond.code ⟨"TurnCountsModel", "typeOfRow", "()I"⟩ prog_9_method_25_code 5 (Option.some FieldType.int) ∈ tg := List.mem_filter.mpr ⟨List.mem_append_right _ (List.mem_append_right _ (List.mem_append_right _ (List.mem_append_left _ (List.mem_of_getElem? (i := 160) (by decide +kernel))))), by decide +kernel⟩
theorem tb_641 : Cond.methodLink "TurnCountsModel" 144 ⟨"TurnCountsModel", "orderOf", "(I)I"⟩ ∈ tg := List.mem_filter.mpr ⟨List.mem_append_right _ (List.mem_append_right _ (List.mem_append_right _ (List.mem_append_left _ (List.mem_of_getElem? (i := 161) (by decide +kernel))))), by decide +kernel⟩
theorem tb_642 : Cond.static ⟨"TurnCountsModel", "orderOf", "(I)I"⟩ ∈ tg := List.mem_filter.mpr ⟨List.mem_append_right _ (List.mem_append_right _ (List.mem_append_right _ (List.mem_append_left _ (List.mem_of_getElem? (i := 162) (by decide +kernel))))), by decide +kernel⟩
theorem tb_643 : Cond.code ⟨"TurnCountsModel", "orderOf", "(I)I"⟩ prog_9_method_27_code 3 (Option.some FieldType.int) ∈ tg := List.mem_filter.mpr ⟨List.mem_append_right _ (List.mem_append_right _ (List.mem_append_right _ (List.mem_append_left _ (List.mem_of_getElem? (i := 163) (by decide +kernel))))), by decide +kernel⟩
theorem tb_644 : Cond.methodLink "TurnCountsModel" 137 ⟨"TurnCountsModel", "common", "(II)I"⟩ ∈ tg := List.mem_filter.mpr ⟨List.mem_append_right _ (List.mem_append_right _ (List.mem_append_right _ (List.mem_append_left _ (List.mem_of_getElem? (i := 164) (by decide +kernel))))), by decide +kernel⟩
theorem tb_645 : Cond.static ⟨"TurnCountsModel", "common", "(II)I"⟩ ∈ tg := List.mem_filter.mpr ⟨List.mem_append_right _ (List.mem_append_right _ (List.mem_append_right _ (List.mem_append_left _ (List.mem_of_getElem? (i := 165) (by decide +kernel))))), by decide +kernel⟩
theorem tb_646 : Cond.code ⟨"TurnCountsModel", "common", "(II)I"⟩ prog_9_method_26_code 5 (Option.some FieldType.int) ∈ tg := List.mem_filter.mpr ⟨List.mem_append_right _ (List.mem_append_right _ (List.mem_append_right _ (List.mem_append_left _ (List.mem_of_getElem? (i := 166) (by decide +kernel))))), by decide +kernel⟩
theorem tb_647 : Cond.methodLink "TurnCountsLaw" 48 ⟨"TurnCountsModel", "type", "(II)I"⟩ ∈ tg := List.mem_filter.mpr ⟨List.mem_append_right _ (List.mem_append_right _ (List.mem_append_right _ (List.mem_append_left _ (List.mem_of_getElem? (i := 167) (by decide +kernel))))), by decide +kernel⟩
theorem tb_648 : Cond.instanceMethod ⟨"TurnCountsModel", "type", "(II)I"⟩ ∈ tg := List.mem_filter.mpr ⟨List.mem_append_right _ (List.mem_append_right _ (List.mem_append_right _ (List.mem_append_left _ (List.mem_of_getElem? (i := 168) (by decide +kernel))))), by decide +kernel⟩
theorem tb_649 : Cond.selects "TurnCountsModel" ⟨"TurnCountsModel", "type", "(II)I"⟩ ⟨"TurnCountsModel", "type", "(II)I"⟩ ∈ tg := List.mem_filter.mpr ⟨List.mem_append_right _ (List.mem_append_right _ (List.mem_append_right _ (List.mem_append_left _ (List.mem_of_getElem? (i := 169) (by decide +kernel))))), by decide +kernel⟩
theorem tb_650 : Cond.code ⟨"TurnCountsModel", "type", "(II)I"⟩ prog_9_method_32_code 3 (Option.some FieldType.int) ∈ tg := List.mem_filter.mpr ⟨List.mem_append_right _ (List.mem_append_right _ (List.mem_append_right _ (List.mem_append_left _ (List.mem_of_getElem? (i := 170) (by decide +kernel))))), by decide +kernel⟩
theorem tb_651 : Cond.methodLink "TurnCountsModel" 157 ⟨"TurnCountsModel", "layTypes", "()V"⟩ ∈ tg := List.mem_filter.mpr ⟨List.mem_append_right _ (List.mem_append_right _ (List.mem_append_right _ (List.mem_append_left _ (List.mem_of_getElem? (i := 171) (by decide +kernel))))), by decide +kernel⟩
theorem tb_653 : Cond.instanceMethod ⟨"TurnCountsModel", "layTypes", "()V"⟩ ∈ tg := List.mem_filter.mpr ⟨List.mem_append_right _ (List.mem_append_right _ (List.mem_append_right _ (List.mem_append_left _ (List.mem_of_getElem? (i := 173) (by decide +kernel))))), by decide +kernel⟩
theorem tb_654 : Cond.code ⟨"TurnCountsModel", "layTypes", "()V"⟩ prog_9_method_31_code 2 (Option.none : Option FieldType) ∈ tg := List.mem_filter.mpr ⟨List.mem_append_right _ (List.mem_append_right _ (List.mem_append_right _ (List.mem_append_left _ (List.mem_of_getElem? (i := 174) (by decide +kernel))))), by decide +kernel⟩
theorem tb_655 : Cond.methodLink "TurnCountsModel" 151 ⟨"TurnCountsModel", "layTurn", "(I)V"⟩ ∈ tg := List.mem_filter.mpr ⟨List.mem_append_right _ (List.mem_append_right _ (List.mem_append_right _ (List.mem_append_left _ (List.mem_of_getElem? (i := 175) (by decide +kernel))))), by decide +kernel⟩
theorem tb_657 : Cond.instanceMethod ⟨"TurnCountsModel", "layTurn", "(I)V"⟩ ∈ tg := List.mem_filter.mpr ⟨List.mem_append_right _ (List.mem_append_right _ (List.mem_append_right _ (List.mem_append_left _ (List.mem_of_getElem? (i := 177) (by decide +kernel))))), by decide +kernel⟩
theorem tb_658 : Cond.code ⟨"TurnCountsModel", "layTurn", "(I)V"⟩ prog_9_method_30_code 3 (Option.none : Option FieldType) ∈ tg := List.mem_filter.mpr ⟨List.mem_append_right _ (List.mem_append_right _ (List.mem_append_right _ (List.mem_append_left _ (List.mem_of_getElem? (i := 178) (by decide +kernel))))), by decide +kernel⟩
theorem tb_659 : Cond.methodLink "TurnCountsModel" 154 ⟨"TurnCountsModel", "addType", "(I)V"⟩ ∈ tg := List.mem_filter.mpr ⟨List.mem_append_right _ (List.mem_append_right _ (List.mem_append_right _ (List.mem_append_left _ (List.mem_of_getElem? (i := 179) (by decide +kernel))))), by decide +kernel⟩
theorem tb_661 : Cond.instanceMethod ⟨"TurnCountsModel", "addType", "(I)V"⟩ ∈ tg := List.mem_filter.mpr ⟨List.mem_append_right _ (List.mem_append_right _ (List.mem_append_right _ (List.mem_append_left _ (List.mem_of_getElem? (i := 181) (by decide +kernel))))), by decide +kernel⟩
theorem tb_662 : Cond.code ⟨"TurnCountsModel", "addType", "(I)V"⟩ prog_9_method_29_code 4 (Option.none : Option FieldType) ∈ tg := List.mem_filter.mpr ⟨List.mem_append_right _ (List.mem_append_right _ (List.mem_append_right _ (List.mem_append_left _ (List.mem_of_getElem? (i := 182) (by decide +kernel))))), by decide +kernel⟩
theorem tb_663 : Cond.methodLink "TurnCountsLaw" 52 ⟨"TurnCountsModel", "orbit", "(II)I"⟩ ∈ tg := List.mem_filter.mpr ⟨List.mem_append_right _ (List.mem_append_right _ (List.mem_append_right _ (List.mem_append_left _ (List.mem_of_getElem? (i := 183) (by decide +kernel))))), by decide +kernel⟩
theorem tb_664 : Cond.instanceMethod ⟨"TurnCountsModel", "orbit", "(II)I"⟩ ∈ tg := List.mem_filter.mpr ⟨List.mem_append_right _ (List.mem_append_right _ (List.mem_append_right _ (List.mem_append_left _ (List.mem_of_getElem? (i := 184) (by decide +kernel))))), by decide +kernel⟩
theorem tb_665 : Cond.selects "TurnCountsModel" ⟨"TurnCountsModel", "orbit", "(II)I"⟩ ⟨"TurnCountsModel", "orbit", "(II)I"⟩ ∈ tg := List.mem_filter.mpr ⟨List.mem_append_right _ (List.mem_append_right _ (List.mem_append_right _ (List.mem_append_left _ (List.mem_of_getElem? (i := 185) (by decide +kernel))))), by decide +kernel⟩
theorem tb_666 : Cond.code ⟨"TurnCountsModel", "orbit", "(II)I"⟩ prog_9_method_34_code 7 (Option.some FieldType.int) ∈ tg := List.mem_filter.mpr ⟨List.mem_append_right _ (List.mem_append_right _ (List.mem_append_right _ (List.mem_append_left _ (List.mem_of_getElem? (i := 186) (by decide +kernel))))), by decide +kernel⟩
theorem tb_667 : Cond.methodLink "TurnCountsModel" 160 ⟨"TurnCountsModel", "isPoint", "(I)Z"⟩ ∈ tg := List.mem_filter.mpr ⟨List.mem_append_right _ (List.mem_append_right _ (List.mem_append_right _ (List.mem_append_left _ (List.mem_of_getElem? (i := 187) (by decide +kernel))))), by decide +kernel⟩
theorem tb_669 : Cond.instanceMethod ⟨"TurnCountsModel", "isPoint", "(I)Z"⟩ ∈ tg := List.mem_filter.mpr ⟨List.mem_append_right _ (List.mem_append_right _ (List.mem_append_right _ (List.mem_append_left _ (List.mem_of_getElem? (i := 189) (by decide +kernel))))), by decide +kernel⟩
theorem tb_670 : Cond.code ⟨"TurnCountsModel", "isPoint", "(I)Z"⟩ prog_9_method_33_code 2 (Option.some FieldType.boolean) ∈ tg := List.mem_filter.mpr ⟨List.mem_append_right _ (List.mem_append_right _ (List.mem_append_right _ (List.mem_append_left _ (List.mem_of_getElem? (i := 190) (by decide +kernel))))), by decide +kernel⟩
theorem tb_671 : Cond.methodLink "TurnCountsLaw" 56 ⟨"TurnCountsModel", "sorts", "(I)I"⟩ ∈ tg := List.mem_filter.mpr ⟨List.mem_append_right _ (List.mem_append_right _ (List.mem_append_right _ (List.mem_append_left _ (List.mem_of_getElem? (i := 191) (by decide +kernel))))), by decide +kernel⟩
theorem tb_672 : Cond.instanceMethod ⟨"TurnCountsModel", "sorts", "(I)I"⟩ ∈ tg := List.mem_filter.mpr ⟨List.mem_append_right _ (List.mem_append_right _ (List.mem_append_right _ (List.mem_append_left _ (List.mem_of_getElem? (i := 192) (by decide +kernel))))), by decide +kernel⟩
theorem tb_673 : Cond.selects "TurnCountsModel" ⟨"TurnCountsModel", "sorts", "(I)I"⟩ ⟨"TurnCountsModel", "sorts", "(I)I"⟩ ∈ tg := List.mem_filter.mpr ⟨List.mem_append_right _ (List.mem_append_right _ (List.mem_append_right _ (List.mem_append_left _ (List.mem_of_getElem? (i := 193) (by decide +kernel))))), by decide +kernel⟩
theorem tb_674 : Cond.code ⟨"TurnCountsModel", "sorts", "(I)I"⟩ prog_9_method_43_code 3 (Option.some FieldType.int) ∈ tg := List.mem_filter.mpr ⟨List.mem_append_right _ (List.mem_append_right _ (List.mem_append_right _ (List.mem_append_left _ (List.mem_of_getElem? (i := 194) (by decide +kernel))))), by decide +kernel⟩
theorem tb_675 : Cond.methodLink "TurnCountsLaw" 60 ⟨"TurnCountsModel", "weight", "(II)I"⟩ ∈ tg := List.mem_filter.mpr ⟨List.mem_append_right _ (List.mem_append_right _ (List.mem_append_right _ (List.mem_append_left _ (List.mem_of_getElem? (i := 195) (by decide +kernel))))), by decide +kernel⟩
theorem tb_676 : Cond.instanceMethod ⟨"TurnCountsModel", "weight", "(II)I"⟩ ∈ tg := List.mem_filter.mpr ⟨List.mem_append_right _ (List.mem_append_right _ (List.mem_append_right _ (List.mem_append_left _ (List.mem_of_getElem? (i := 196) (by decide +kernel))))), by decide +kernel⟩
theorem tb_677 : Cond.selects "TurnCountsModel" ⟨"TurnCountsModel", "weight", "(II)I"⟩ ⟨"TurnCountsModel", "weight", "(II)I"⟩ ∈ tg := List.mem_filter.mpr ⟨List.mem_append_right _ (List.mem_append_right _ (List.mem_append_right _ (List.mem_append_left _ (List.mem_of_getElem? (i := 197) (by decide +kernel))))), by decide +kernel⟩
theorem tb_678 : Cond.code ⟨"TurnCountsModel", "weight", "(II)I"⟩ prog_9_method_44_code 4 (Option.some FieldType.int) ∈ tg := List.mem_filter.mpr ⟨List.mem_append_right _ (List.mem_append_right _ (List.mem_append_right _ (List.mem_append_left _ (List.mem_of_getElem? (i := 198) (by decide +kernel))))), by decide +kernel⟩
theorem tb_679 : Cond.methodLink "TurnCountsLaw" 64 ⟨"TurnCountsModel", "patterns", "(I)I"⟩ ∈ tg := List.mem_filter.mpr ⟨List.mem_append_right _ (List.mem_append_right _ (List.mem_append_right _ (List.mem_append_left _ (List.mem_of_getElem? (i := 199) (by decide +kernel))))), by decide +kernel⟩
theorem tb_680 : Cond.instanceMethod ⟨"TurnCountsModel", "patterns", "(I)I"⟩ ∈ tg := List.mem_filter.mpr ⟨List.mem_append_right _ (List.mem_append_right _ (List.mem_append_right _ (List.mem_append_left _ (List.mem_of_getElem? (i := 200) (by decide +kernel))))), by decide +kernel⟩
theorem tb_681 : Cond.selects "TurnCountsModel" ⟨"TurnCountsModel", "patterns", "(I)I"⟩ ⟨"TurnCountsModel", "patterns", "(I)I"⟩ ∈ tg := List.mem_filter.mpr ⟨List.mem_append_right _ (List.mem_append_right _ (List.mem_append_right _ (List.mem_append_left _ (List.mem_of_getElem? (i := 201) (by decide +kernel))))), by decide +kernel⟩
theorem tb_682 : Cond.code ⟨"TurnCountsModel", "patterns", "(I)I"⟩ prog_9_method_45_code 4 (Option.some FieldType.int) ∈ tg := List.mem_filter.mpr ⟨List.mem_append_right _ (List.mem_append_right _ (List.mem_append_right _ (List.mem_append_left _ (List.mem_of_getElem? (i := 202) (by decide +kernel))))), by decide +kernel⟩
theorem tb_683 : Cond.methodLink "TurnCountsModel" 181 ⟨"TurnCountsModel", "layPatterns", "()V"⟩ ∈ tg := List.mem_filter.mpr ⟨List.mem_append_right _ (List.mem_append_right _ (List.mem_append_right _ (List.mem_append_left _ (List.mem_of_getElem? (i := 203) (by decide +kernel))))), by decide +kernel⟩
theorem tb_685 : Cond.instanceMethod ⟨"TurnCountsModel", "layPatterns", "()V"⟩ ∈ tg := List.mem_filter.mpr ⟨List.mem_append_right _ (List.mem_append_right _ (List.mem_append_right _ (List.mem_append_left _ (List.mem_of_getElem? (i := 205) (by decide +kernel))))), by decide +kernel⟩
theorem tb_686 : Cond.code ⟨"TurnCountsModel", "layPatterns", "()V"⟩ prog_9_method_38_code 2 (Option.none : Option FieldType) ∈ tg := List.mem_filter.mpr ⟨List.mem_append_right _ (List.mem_append_right _ (List.mem_append_right _ (List.mem_append_left _ (List.mem_of_getElem? (i := 206) (by decide +kernel))))), by decide +kernel⟩
theorem tb_687 : Cond.methodLink "TurnCountsModel" 166 ⟨"TurnCountsModel", "layWorths", "()V"⟩ ∈ tg := List.mem_filter.mpr ⟨List.mem_append_right _ (List.mem_append_right _ (List.mem_append_right _ (List.mem_append_left _ (List.mem_of_getElem? (i := 207) (by decide +kernel))))), by decide +kernel⟩
theorem tb_689 : Cond.instanceMethod ⟨"TurnCountsModel", "layWorths", "()V"⟩ ∈ tg := List.mem_filter.mpr ⟨List.mem_append_right _ (List.mem_append_right _ (List.mem_append_right _ (List.mem_append_left _ (List.mem_of_getElem? (i := 209) (by decide +kernel))))), by decide +kernel⟩
theorem tb_690 : Cond.code ⟨"TurnCountsModel", "layWorths", "()V"⟩ prog_9_method_36_code 3 (Option.none : Option FieldType) ∈ tg := List.mem_filter.mpr ⟨List.mem_append_right _ (List.mem_append_right _ (List.mem_append_right _ (List.mem_append_left _ (List.mem_of_getElem? (i := 210) (by decide +kernel))))), by decide +kernel⟩
theorem tb_691 : Cond.methodLink "TurnCountsModel" 172 ⟨"TurnCountsModel", "strike", "(I)V"⟩ ∈ tg := List.mem_filter.mpr ⟨List.mem_append_right _ (List.mem_append_right _ (List.mem_append_right _ (List.mem_append_left _ (List.mem_of_getElem? (i := 211) (by decide +kernel))))), by decide +kernel⟩
theorem tb_693 : Cond.instanceMethod ⟨"TurnCountsModel", "strike", "(I)V"⟩ ∈ tg := List.mem_filter.mpr ⟨List.mem_append_right _ (List.mem_append_right _ (List.mem_append_right _ (List.mem_append_left _ (List.mem_of_getElem? (i := 213) (by decide +kernel))))), by decide +kernel⟩
theorem tb_694 : Cond.code ⟨"TurnCountsModel", "strike", "(I)V"⟩ prog_9_method_39_code 4 (Option.none : Option FieldType) ∈ tg := List.mem_filter.mpr ⟨List.mem_append_right _ (List.mem_append_right _ (List.mem_append_right _ (List.mem_append_left _ (List.mem_of_getElem? (i := 214) (by decide +kernel))))), by decide +kernel⟩
theorem tb_695 : Cond.methodLink "TurnCountsModel" 175 ⟨"TurnCountsModel", "layColours", "(I)V"⟩ ∈ tg := List.mem_filter.mpr ⟨List.mem_append_right _ (List.mem_append_right _ (List.mem_append_right _ (List.mem_append_left _ (List.mem_of_getElem? (i := 215) (by decide +kernel))))), by decide +kernel⟩
theorem tb_697 : Cond.instanceMethod ⟨"TurnCountsModel", "layColours", "(I)V"⟩ ∈ tg := List.mem_filter.mpr ⟨List.mem_append_right _ (List.mem_append_right _ (List.mem_append_right _ (List.mem_append_left _ (List.mem_of_getElem? (i := 217) (by decide +kernel))))), by decide +kernel⟩
theorem tb_698 : Cond.code ⟨"TurnCountsModel", "layColours", "(I)V"⟩ prog_9_method_35_code 4 (Option.none : Option FieldType) ∈ tg := List.mem_filter.mpr ⟨List.mem_append_right _ (List.mem_append_right _ (List.mem_append_right _ (List.mem_append_left _ (List.mem_of_getElem? (i := 218) (by decide +kernel))))), by decide +kernel⟩
theorem tb_699 : Cond.methodLink "TurnCountsModel" 178 ⟨"TurnCountsModel", "turned", "(I)I"⟩ ∈ tg := List.mem_filter.mpr ⟨List.mem_append_right _ (List.mem_append_right _ (List.mem_append_right _ (List.mem_append_left _ (List.mem_of_getElem? (i := 219) (by decide +kernel))))), by decide +kernel⟩
theorem tb_701 : Cond.instanceMethod ⟨"TurnCountsModel", "turned", "(I)I"⟩ ∈ tg := List.mem_filter.mpr ⟨List.mem_append_right _ (List.mem_append_right _ (List.mem_append_right _ (List.mem_append_left _ (List.mem_of_getElem? (i := 221) (by decide +kernel))))), by decide +kernel⟩
theorem tb_702 : Cond.code ⟨"TurnCountsModel", "turned", "(I)I"⟩ prog_9_method_37_code 4 (Option.some FieldType.int) ∈ tg := List.mem_filter.mpr ⟨List.mem_append_right _ (List.mem_append_right _ (List.mem_append_right _ (List.mem_append_left _ (List.mem_of_getElem? (i := 222) (by decide +kernel))))), by decide +kernel⟩
theorem tb_703 : Cond.methodLink "TurnCountsModel" 184 ⟨"TurnCountsModel", "weightOf", "(I)I"⟩ ∈ tg := List.mem_filter.mpr ⟨List.mem_append_right _ (List.mem_append_right _ (List.mem_append_right _ (List.mem_append_left _ (List.mem_of_getElem? (i := 223) (by decide +kernel))))), by decide +kernel⟩
theorem tb_705 : Cond.instanceMethod ⟨"TurnCountsModel", "weightOf", "(I)I"⟩ ∈ tg := List.mem_filter.mpr ⟨List.mem_append_right _ (List.mem_append_right _ (List.mem_append_right _ (List.mem_append_left _ (List.mem_of_getElem? (i := 225) (by decide +kernel))))), by decide +kernel⟩
theorem tb_706 : Cond.code ⟨"TurnCountsModel", "weightOf", "(I)I"⟩ prog_9_method_40_code 4 (Option.some FieldType.int) ∈ tg := List.mem_filter.mpr ⟨List.mem_append_right _ (List.mem_append_right _ (List.mem_append_right _ (List.mem_append_left _ (List.mem_of_getElem? (i := 226) (by decide +kernel))))), by decide +kernel⟩
theorem tb_707 : Cond.methodLink "TurnCountsLaw" 68 ⟨"TurnCountsModel", "pattern", "(II)I"⟩ ∈ tg := List.mem_filter.mpr ⟨List.mem_append_right _ (List.mem_append_right _ (List.mem_append_right _ (List.mem_append_left _ (List.mem_of_getElem? (i := 227) (by decide +kernel))))), by decide +kernel⟩
theorem tb_708 : Cond.instanceMethod ⟨"TurnCountsModel", "pattern", "(II)I"⟩ ∈ tg := List.mem_filter.mpr ⟨List.mem_append_right _ (List.mem_append_right _ (List.mem_append_right _ (List.mem_append_left _ (List.mem_of_getElem? (i := 228) (by decide +kernel))))), by decide +kernel⟩
theorem tb_709 : Cond.selects "TurnCountsModel" ⟨"TurnCountsModel", "pattern", "(II)I"⟩ ⟨"TurnCountsModel", "pattern", "(II)I"⟩ ∈ tg := List.mem_filter.mpr ⟨List.mem_append_right _ (List.mem_append_right _ (List.mem_append_right _ (List.mem_append_left _ (List.mem_of_getElem? (i := 229) (by decide +kernel))))), by decide +kernel⟩
theorem tb_710 : Cond.code ⟨"TurnCountsModel", "pattern", "(II)I"⟩ prog_9_method_47_code 3 (Option.some FieldType.int) ∈ tg := List.mem_filter.mpr ⟨List.mem_append_right _ (List.mem_append_right _ (List.mem_append_right _ (List.mem_append_left _ (List.mem_of_getElem? (i := 230) (by decide +kernel))))), by decide +kernel⟩
theorem tb_711 : Cond.methodLink "TurnCountsModel" 190 ⟨"TurnCountsModel", "twin", "(I)I"⟩ ∈ tg := List.mem_filter.mpr ⟨List.mem_append_right _ (List.mem_append_right _ (List.mem_append_right _ (List.mem_append_left _ (List.mem_of_getElem? (i := 231) (by decide +kernel))))), by decide +kernel⟩
theorem tb_713 : Cond.instanceMethod ⟨"TurnCountsModel", "twin", "(I)I"⟩ ∈ tg := List.mem_filter.mpr ⟨List.mem_append_right _ (List.mem_append_right _ (List.mem_append_right _ (List.mem_append_left _ (List.mem_of_getElem? (i := 233) (by decide +kernel))))), by decide +kernel⟩
theorem tb_714 : Cond.code ⟨"TurnCountsModel", "twin", "(I)I"⟩ prog_9_method_46_code 2 (Option.some FieldType.int) ∈ tg := List.mem_filter.mpr ⟨List.mem_append_right _ (List.mem_append_right _ (List.mem_append_right _ (List.mem_append_left _ (List.mem_of_getElem? (i := 234) (by decide +kernel))))), by decide +kernel⟩
theorem tb_715 : Cond.methodLink "TurnCountsModel" 187 ⟨"TurnCountsModel", "mirrored", "(I)I"⟩ ∈ tg := List.mem_filter.mpr ⟨List.mem_append_right _ (List.mem_append_right _ (List.mem_append_right _ (List.mem_append_left _ (List.mem_of_getElem? (i := 235) (by decide +kernel))))), by decide +kernel⟩
theorem tb_717 : Cond.instanceMethod ⟨"TurnCountsModel", "mirrored", "(I)I"⟩ ∈ tg := List.mem_filter.mpr ⟨List.mem_append_right _ (List.mem_append_right _ (List.mem_append_right _ (List.mem_append_left _ (List.mem_of_getElem? (i := 237) (by decide +kernel))))), by decide +kernel⟩
theorem tb_718 : Cond.code ⟨"TurnCountsModel", "mirrored", "(I)I"⟩ prog_9_method_42_code 4 (Option.some FieldType.int) ∈ tg := List.mem_filter.mpr ⟨List.mem_append_right _ (List.mem_append_right _ (List.mem_append_right _ (List.mem_append_left _ (List.mem_of_getElem? (i := 238) (by decide +kernel))))), by decide +kernel⟩
theorem tb_719 : Cond.methodLink "TurnCountsModel" 193 ⟨"TurnCountsModel", "coloursOf", "(I)I"⟩ ∈ tg := List.mem_filter.mpr ⟨List.mem_append_right _ (List.mem_append_right _ (List.mem_append_right _ (List.mem_append_left _ (List.mem_of_getElem? (i := 239) (by decide +kernel))))), by decide +kernel⟩
theorem tb_721 : Cond.instanceMethod ⟨"TurnCountsModel", "coloursOf", "(I)I"⟩ ∈ tg := List.mem_filter.mpr ⟨List.mem_append_right _ (List.mem_append_right _ (List.mem_append_right _ (List.mem_append_right _ (List.mem_of_getElem? (i := 1) (by decide +kernel))))), by decide +kernel⟩
theorem tb_722 : Cond.code ⟨"TurnCountsModel", "coloursOf", "(I)I"⟩ prog_9_method_41_code 4 (Option.some FieldType.int) ∈ tg := List.mem_filter.mpr ⟨List.mem_append_right _ (List.mem_append_right _ (List.mem_append_right _ (List.mem_append_right _ (List.mem_of_getElem? (i := 2) (by decide +kernel))))), by decide +kernel⟩
theorem tb_723 : Cond.methodLink "TurnCountsLaw" 72 ⟨"TurnCountsModel", "of", "(II)I"⟩ ∈ tg := List.mem_filter.mpr ⟨List.mem_append_right _ (List.mem_append_right _ (List.mem_append_right _ (List.mem_append_right _ (List.mem_of_getElem? (i := 3) (by decide +kernel))))), by decide +kernel⟩
theorem tb_724 : Cond.instanceMethod ⟨"TurnCountsModel", "of", "(II)I"⟩ ∈ tg := List.mem_filter.mpr ⟨List.mem_append_right _ (List.mem_append_right _ (List.mem_append_right _ (List.mem_append_right _ (List.mem_of_getElem? (i := 4) (by decide +kernel))))), by decide +kernel⟩
theorem tb_725 : Cond.selects "TurnCountsModel" ⟨"TurnCountsModel", "of", "(II)I"⟩ ⟨"TurnCountsModel", "of", "(II)I"⟩ ∈ tg := List.mem_filter.mpr ⟨List.mem_append_right _ (List.mem_append_right _ (List.mem_append_right _ (List.mem_append_right _ (List.mem_of_getElem? (i := 5) (by decide +kernel))))), by decide +kernel⟩
theorem tb_726 : Cond.code ⟨"TurnCountsModel", "of", "(II)I"⟩ prog_9_method_49_code 4 (Option.some FieldType.int) ∈ tg := List.mem_filter.mpr ⟨List.mem_append_right _ (List.mem_append_right _ (List.mem_append_right _ (List.mem_append_right _ (List.mem_of_getElem? (i := 6) (by decide +kernel))))), by decide +kernel⟩
theorem tb_727 : Cond.methodLink "TurnCountsModel" 196 ⟨"TurnCountsModel", "isNumber", "(I)Z"⟩ ∈ tg := List.mem_filter.mpr ⟨List.mem_append_right _ (List.mem_append_right _ (List.mem_append_right _ (List.mem_append_right _ (List.mem_of_getElem? (i := 7) (by decide +kernel))))), by decide +kernel⟩
theorem tb_729 : Cond.instanceMethod ⟨"TurnCountsModel", "isNumber", "(I)Z"⟩ ∈ tg := List.mem_filter.mpr ⟨List.mem_append_right _ (List.mem_append_right _ (List.mem_append_right _ (List.mem_append_right _ (List.mem_of_getElem? (i := 9) (by decide +kernel))))), by decide +kernel⟩
theorem tb_730 : Cond.code ⟨"TurnCountsModel", "isNumber", "(I)Z"⟩ prog_9_method_48_code 2 (Option.some FieldType.boolean) ∈ tg := List.mem_filter.mpr ⟨List.mem_append_right _ (List.mem_append_right _ (List.mem_append_right _ (List.mem_append_right _ (List.mem_of_getElem? (i := 10) (by decide +kernel))))), by decide +kernel⟩
theorem tb_731 : Cond.methodLink "TurnCountsLaw" 76 ⟨"TurnCountsModel", "kinds", "(I)I"⟩ ∈ tg := List.mem_filter.mpr ⟨List.mem_append_right _ (List.mem_append_right _ (List.mem_append_right _ (List.mem_append_right _ (List.mem_of_getElem? (i := 11) (by decide +kernel))))), by decide +kernel⟩
theorem tb_732 : Cond.instanceMethod ⟨"TurnCountsModel", "kinds", "(I)I"⟩ ∈ tg := List.mem_filter.mpr ⟨List.mem_append_right _ (List.mem_append_right _ (List.mem_append_right _ (List.mem_append_right _ (List.mem_of_getElem? (i := 12) (by decide +kernel))))), by decide +kernel⟩
theorem tb_733 : Cond.selects "TurnCountsModel" ⟨"TurnCountsModel", "kinds", "(I)I"⟩ ⟨"TurnCountsModel", "kinds", "(I)I"⟩ ∈ tg := List.mem_filter.mpr ⟨List.mem_append_right _ (List.mem_append_right _ (List.mem_append_right _ (List.mem_append_right _ (List.mem_of_getElem? (i := 13) (by decide +kernel))))), by decide +kernel⟩
theorem tb_734 : Cond.code ⟨"TurnCountsModel", "kinds", "(I)I"⟩ prog_9_method_51_code 5 (Option.some FieldType.int) ∈ tg := List.mem_filter.mpr ⟨List.mem_append_right _ (List.mem_append_right _ (List.mem_append_right _ (List.mem_append_right _ (List.mem_of_getElem? (i := 14) (by decide +kernel))))), by decide +kernel⟩
theorem tb_735 : Cond.methodLink "TurnCountsModel" 199 ⟨"TurnCountsModel", "isOf", "(II)Z"⟩ ∈ tg := List.mem_filter.mpr ⟨List.mem_append_right _ (List.mem_append_right _ (List.mem_append_right _ (List.mem_append_right _ (List.mem_of_getElem? (i := 15) (by decide +kernel))))), by decide +kernel⟩
theorem tb_737 : Cond.instanceMethod ⟨"TurnCountsModel", "isOf", "(II)Z"⟩ ∈ tg := List.mem_filter.mpr ⟨List.mem_append_right _ (List.mem_append_right _ (List.mem_append_right _ (List.mem_append_right _ (List.mem_of_getElem? (i := 17) (by decide +kernel))))), by decide +kernel⟩
theorem tb_738 : Cond.code ⟨"TurnCountsModel", "isOf", "(II)Z"⟩ prog_9_method_50_code 3 (Option.some FieldType.boolean) ∈ tg := List.mem_filter.mpr ⟨List.mem_append_right _ (List.mem_append_right _ (List.mem_append_right _ (List.mem_append_right _ (List.mem_of_getElem? (i := 18) (by decide +kernel))))), by decide +kernel⟩
theorem tb_739 : Cond.methodLink "TurnCountsLaw" 80 ⟨"TurnCountsModel", "by", "(II)I"⟩ ∈ tg := List.mem_filter.mpr ⟨List.mem_append_right _ (List.mem_append_right _ (List.mem_append_right _ (List.mem_append_right _ (List.mem_of_getElem? (i := 19) (by decide +kernel))))), by decide +kernel⟩
theorem tb_740 : Cond.instanceMethod ⟨"TurnCountsModel", "by", "(II)I"⟩ ∈ tg := List.mem_filter.mpr ⟨List.mem_append_right _ (List.mem_append_right _ (List.mem_append_right _ (List.mem_append_right _ (List.mem_of_getElem? (i := 20) (by decide +kernel))))), by decide +kernel⟩
theorem tb_741 : Cond.selects "TurnCountsModel" ⟨"TurnCountsModel", "by", "(II)I"⟩ ⟨"TurnCountsModel", "by", "(II)I"⟩ ∈ tg := List.mem_filter.mpr ⟨List.mem_append_right _ (List.mem_append_right _ (List.mem_append_right _ (List.mem_append_right _ (List.mem_of_getElem? (i := 21) (by decide +kernel))))), by decide +kernel⟩
theorem tb_742 : Cond.code ⟨"TurnCountsModel", "by", "(II)I"⟩ prog_9_method_52_code 5 (Option.some FieldType.int) ∈ tg := List.mem_filter.mpr ⟨List.mem_append_right _ (List.mem_append_right _ (List.mem_append_right _ (List.mem_append_right _ (List.mem_of_getElem? (i := 22) (by decide +kernel))))), by decide +kernel⟩
theorem tb_743 : Cond.methodLink "TurnCountsLaw" 84 ⟨"TurnCountsModel", "image", "(I)I"⟩ ∈ tg := List.mem_filter.mpr ⟨List.mem_append_right _ (List.mem_append_right _ (List.mem_append_right _ (List.mem_append_right _ (List.mem_of_getElem? (i := 23) (by decide +kernel))))), by decide +kernel⟩
theorem tb_744 : Cond.instanceMethod ⟨"TurnCountsModel", "image", "(I)I"⟩ ∈ tg := List.mem_filter.mpr ⟨List.mem_append_right _ (List.mem_append_right _ (List.mem_append_right _ (List.mem_append_right _ (List.mem_of_getElem? (i := 24) (by decide +kernel))))), by decide +kernel⟩
theorem tb_745 : Cond.selects "TurnCountsModel" ⟨"TurnCountsModel", "image", "(I)I"⟩ ⟨"TurnCountsModel", "image", "(I)I"⟩ ∈ tg := List.mem_filter.mpr ⟨List.mem_append_right _ (List.mem_append_right _ (List.mem_append_right _ (List.mem_append_right _ (List.mem_of_getElem? (i := 25) (by decide +kernel))))), by decide +kernel⟩
theorem tb_746 : Cond.code ⟨"TurnCountsModel", "image", "(I)I"⟩ prog_9_method_53_code 3 (Option.some FieldType.int) ∈ tg := List.mem_filter.mpr ⟨List.mem_append_right _ (List.mem_append_right _ (List.mem_append_right _ (List.mem_append_right _ (List.mem_of_getElem? (i := 26) (by decide +kernel))))), by decide +kernel⟩
theorem tb_747 : Cond.methodLink "TurnCountsLaw" 88 ⟨"TurnCountsModel", "restore", "(I)I"⟩ ∈ tg := List.mem_filter.mpr ⟨List.mem_append_right _ (List.mem_append_right _ (List.mem_append_right _ (List.mem_append_right _ (List.mem_of_getElem? (i := 27) (by decide +kernel))))), by decide +kernel⟩
theorem tb_748 : Cond.instanceMethod ⟨"TurnCountsModel", "restore", "(I)I"⟩ ∈ tg := List.mem_filter.mpr ⟨List.mem_append_right _ (List.mem_append_right _ (List.mem_append_right _ (List.mem_append_right _ (List.mem_of_getElem? (i := 28) (by decide +kernel))))), by decide +kernel⟩
theorem tb_749 : Cond.selects "TurnCountsModel" ⟨"TurnCountsModel", "restore", "(I)I"⟩ ⟨"TurnCountsModel", "restore", "(I)I"⟩ ∈ tg := List.mem_filter.mpr ⟨List.mem_append_right _ (List.mem_append_right _ (List.mem_append_right _ (List.mem_append_right _ (List.mem_of_getElem? (i := 29) (by decide +kernel))))), by decide +kernel⟩
theorem tb_750 : Cond.code ⟨"TurnCountsModel", "restore", "(I)I"⟩ prog_9_method_54_code 3 (Option.some FieldType.int) ∈ tg := List.mem_filter.mpr ⟨List.mem_append_right _ (List.mem_append_right _ (List.mem_append_right _ (List.mem_append_right _ (List.mem_of_getElem? (i := 30) (by decide +kernel))))), by decide +kernel⟩
theorem tb_751 : Cond.methodLink "TurnCountsLaw" 92 ⟨"TurnCountsModel", "count", "(I)I"⟩ ∈ tg := List.mem_filter.mpr ⟨List.mem_append_right _ (List.mem_append_right _ (List.mem_append_right _ (List.mem_append_right _ (List.mem_of_getElem? (i := 31) (by decide +kernel))))), by decide +kernel⟩
theorem tb_752 : Cond.instanceMethod ⟨"TurnCountsModel", "count", "(I)I"⟩ ∈ tg := List.mem_filter.mpr ⟨List.mem_append_right _ (List.mem_append_right _ (List.mem_append_right _ (List.mem_append_right _ (List.mem_of_getElem? (i := 32) (by decide +kernel))))), by decide +kernel⟩
theorem tb_753 : Cond.selects "TurnCountsModel" ⟨"TurnCountsModel", "count", "(I)I"⟩ ⟨"TurnCountsModel", "count", "(I)I"⟩ ∈ tg := List.mem_filter.mpr ⟨List.mem_append_right _ (List.mem_append_right _ (List.mem_append_right _ (List.mem_append_right _ (List.mem_of_getElem? (i := 33) (by decide +kernel))))), by decide +kernel⟩
theorem tb_754 : Cond.code ⟨"TurnCountsModel", "count", "(I)I"⟩ prog_9_method_55_code 2 (Option.some FieldType.int) ∈ tg := List.mem_filter.mpr ⟨List.mem_append_right _ (List.mem_append_right _ (List.mem_append_right _ (List.mem_append_right _ (List.mem_of_getElem? (i := 34) (by decide +kernel))))), by decide +kernel⟩
theorem tp_0 : Cond.selects "TurnCounts$Group" ⟨"TurnCounts$Group", "add", "(I)V"⟩ ⟨"TurnCounts$Group", "add", "(I)V"⟩ ∈ tg := List.mem_filter.mpr ⟨List.mem_append_left _ (List.mem_of_getElem? (i := 0) (by decide +kernel)), by decide +kernel⟩
theorem tp_1 : Cond.selects "TurnCounts" ⟨"TurnCounts", "forgetGroup", "()V"⟩ ⟨"TurnCounts", "forgetGroup", "()V"⟩ ∈ tg := List.mem_filter.mpr ⟨List.mem_append_left _ (List.mem_of_getElem? (i := 1) (by decide +kernel)), by decide +kernel⟩
theorem tp_2 : Cond.selects "TurnCounts$Group" ⟨"TurnCounts$Group", "addCopy", "(II)V"⟩ ⟨"TurnCounts$Group", "addCopy", "(II)V"⟩ ∈ tg := List.mem_filter.mpr ⟨List.mem_append_left _ (List.mem_of_getElem? (i := 2) (by decide +kernel)), by decide +kernel⟩
theorem tp_3 : Cond.selects "TurnCounts$TypeTable" ⟨"TurnCounts$TypeTable", "add", "(I)V"⟩ ⟨"TurnCounts$TypeTable", "add", "(I)V"⟩ ∈ tg := List.mem_filter.mpr ⟨List.mem_append_left _ (List.mem_of_getElem? (i := 3) (by decide +kernel)), by decide +kernel⟩
theorem tp_4 : Cond.selects "TurnCounts$TypeTable" ⟨"TurnCounts$TypeTable", "insert", "(II)V"⟩ ⟨"TurnCounts$TypeTable", "insert", "(II)V"⟩ ∈ tg := List.mem_filter.mpr ⟨List.mem_append_left _ (List.mem_of_getElem? (i := 4) (by decide +kernel)), by decide +kernel⟩
theorem tp_5 : Cond.selects "TurnCounts$PatternTable" ⟨"TurnCounts$PatternTable", "setPlaces", "(LTurnCounts$Setting;)V"⟩ ⟨"TurnCounts$PatternTable", "setPlaces", "(LTurnCounts$Setting;)V"⟩ ∈ tg := List.mem_filter.mpr ⟨List.mem_append_left _ (List.mem_of_getElem? (i := 5) (by decide +kernel)), by decide +kernel⟩
theorem tp_6 : Cond.selects "TurnCounts$PatternTable" ⟨"TurnCounts$PatternTable", "gather", "(ILTurnCounts$Group;)V"⟩ ⟨"TurnCounts$PatternTable", "gather", "(ILTurnCounts$Group;)V"⟩ ∈ tg := List.mem_filter.mpr ⟨List.mem_append_left _ (List.mem_of_getElem? (i := 6) (by decide +kernel)), by decide +kernel⟩
theorem tp_7 : Cond.selects "TurnCounts$PatternTable" ⟨"TurnCounts$PatternTable", "put", "(I)V"⟩ ⟨"TurnCounts$PatternTable", "put", "(I)V"⟩ ∈ tg := List.mem_filter.mpr ⟨List.mem_append_left _ (List.mem_of_getElem? (i := 7) (by decide +kernel)), by decide +kernel⟩
theorem tp_8 : Cond.selects "TurnCounts$PatternTable" ⟨"TurnCounts$PatternTable", "turned", "(II)I"⟩ ⟨"TurnCounts$PatternTable", "turned", "(II)I"⟩ ∈ tg := List.mem_filter.mpr ⟨List.mem_append_left _ (List.mem_of_getElem? (i := 8) (by decide +kernel)), by decide +kernel⟩
theorem tp_9 : Cond.selects "TurnCounts" ⟨"TurnCounts", "isNumber", "(I)Z"⟩ ⟨"TurnCounts", "isNumber", "(I)Z"⟩ ∈ tg := List.mem_filter.mpr ⟨List.mem_append_left _ (List.mem_of_getElem? (i := 9) (by decide +kernel)), by decide +kernel⟩
theorem tp_10 : Cond.selects "TurnCountsModel" ⟨"TurnCountsModel", "beginGroup", "()V"⟩ ⟨"TurnCountsModel", "beginGroup", "()V"⟩ ∈ tg := List.mem_filter.mpr ⟨List.mem_append_left _ (List.mem_of_getElem? (i := 10) (by decide +kernel)), by decide +kernel⟩
theorem tp_11 : Cond.selects "TurnCountsModel" ⟨"TurnCountsModel", "closeGroup", "()V"⟩ ⟨"TurnCountsModel", "closeGroup", "()V"⟩ ∈ tg := List.mem_filter.mpr ⟨List.mem_append_left _ (List.mem_of_getElem? (i := 11) (by decide +kernel)), by decide +kernel⟩
theorem tp_12 : Cond.selects "TurnCountsModel" ⟨"TurnCountsModel", "layStill", "()V"⟩ ⟨"TurnCountsModel", "layStill", "()V"⟩ ∈ tg := List.mem_filter.mpr ⟨List.mem_append_left _ (List.mem_of_getElem? (i := 12) (by decide +kernel)), by decide +kernel⟩
theorem tp_13 : Cond.selects "TurnCountsModel" ⟨"TurnCountsModel", "many", "()I"⟩ ⟨"TurnCountsModel", "many", "()I"⟩ ∈ tg := List.mem_filter.mpr ⟨List.mem_append_left _ (List.mem_of_getElem? (i := 13) (by decide +kernel)), by decide +kernel⟩
theorem tp_14 : Cond.selects "TurnCountsModel" ⟨"TurnCountsModel", "rank", "()I"⟩ ⟨"TurnCountsModel", "rank", "()I"⟩ ∈ tg := List.mem_filter.mpr ⟨List.mem_append_left _ (List.mem_of_getElem? (i := 14) (by decide +kernel)), by decide +kernel⟩
theorem tp_15 : Cond.selects "TurnCountsModel" ⟨"TurnCountsModel", "meet", "(I)V"⟩ ⟨"TurnCountsModel", "meet", "(I)V"⟩ ∈ tg := List.mem_filter.mpr ⟨List.mem_append_left _ (List.mem_of_getElem? (i := 15) (by decide +kernel)), by decide +kernel⟩
theorem tp_16 : Cond.selects "TurnCountsModel" ⟨"TurnCountsModel", "layRank", "(I)V"⟩ ⟨"TurnCountsModel", "layRank", "(I)V"⟩ ∈ tg := List.mem_filter.mpr ⟨List.mem_append_left _ (List.mem_of_getElem? (i := 16) (by decide +kernel)), by decide +kernel⟩
theorem tp_17 : Cond.selects "TurnCountsModel" ⟨"TurnCountsModel", "layTurns", "()V"⟩ ⟨"TurnCountsModel", "layTurns", "()V"⟩ ∈ tg := List.mem_filter.mpr ⟨List.mem_append_left _ (List.mem_of_getElem? (i := 17) (by decide +kernel)), by decide +kernel⟩
theorem tp_18 : Cond.selects "TurnCountsModel" ⟨"TurnCountsModel", "addKind", "(IIII)V"⟩ ⟨"TurnCountsModel", "addKind", "(IIII)V"⟩ ∈ tg := List.mem_filter.mpr ⟨List.mem_append_left _ (List.mem_of_getElem? (i := 18) (by decide +kernel)), by decide +kernel⟩
theorem tp_19 : Cond.selects "TurnCountsModel" ⟨"TurnCountsModel", "addRound", "(III)V"⟩ ⟨"TurnCountsModel", "addRound", "(III)V"⟩ ∈ tg := List.mem_filter.mpr ⟨List.mem_append_left _ (List.mem_of_getElem? (i := 19) (by decide +kernel)), by decide +kernel⟩
theorem tp_20 : Cond.selects "TurnCountsModel" ⟨"TurnCountsModel", "bring", "(IIII)V"⟩ ⟨"TurnCountsModel", "bring", "(IIII)V"⟩ ∈ tg := List.mem_filter.mpr ⟨List.mem_append_left _ (List.mem_of_getElem? (i := 20) (by decide +kernel)), by decide +kernel⟩
theorem tp_21 : Cond.selects "TurnCountsModel" ⟨"TurnCountsModel", "addMaker", "()V"⟩ ⟨"TurnCountsModel", "addMaker", "()V"⟩ ∈ tg := List.mem_filter.mpr ⟨List.mem_append_left _ (List.mem_of_getElem? (i := 21) (by decide +kernel)), by decide +kernel⟩
theorem tp_22 : Cond.selects "TurnCountsModel" ⟨"TurnCountsModel", "addFlip", "(III)V"⟩ ⟨"TurnCountsModel", "addFlip", "(III)V"⟩ ∈ tg := List.mem_filter.mpr ⟨List.mem_append_left _ (List.mem_of_getElem? (i := 22) (by decide +kernel)), by decide +kernel⟩
theorem tp_23 : Cond.selects "TurnCountsModel" ⟨"TurnCountsModel", "addNext", "(IIII)V"⟩ ⟨"TurnCountsModel", "addNext", "(IIII)V"⟩ ∈ tg := List.mem_filter.mpr ⟨List.mem_append_left _ (List.mem_of_getElem? (i := 23) (by decide +kernel)), by decide +kernel⟩
theorem tp_24 : Cond.selects "TurnCountsModel" ⟨"TurnCountsModel", "layPad", "()Z"⟩ ⟨"TurnCountsModel", "layPad", "()Z"⟩ ∈ tg := List.mem_filter.mpr ⟨List.mem_append_left _ (List.mem_of_getElem? (i := 24) (by decide +kernel)), by decide +kernel⟩
theorem tp_25 : Cond.selects "TurnCountsModel" ⟨"TurnCountsModel", "typeOfRow", "()I"⟩ ⟨"TurnCountsModel", "typeOfRow", "()I"⟩ ∈ tg := List.mem_filter.mpr ⟨List.mem_append_left _ (List.mem_of_getElem? (i := 25) (by decide +kernel)), by decide +kernel⟩
theorem tp_26 : Cond.selects "TurnCountsModel" ⟨"TurnCountsModel", "layTypes", "()V"⟩ ⟨"TurnCountsModel", "layTypes", "()V"⟩ ∈ tg := List.mem_filter.mpr ⟨List.mem_append_left _ (List.mem_of_getElem? (i := 26) (by decide +kernel)), by decide +kernel⟩
theorem tp_27 : Cond.selects "TurnCountsModel" ⟨"TurnCountsModel", "layTurn", "(I)V"⟩ ⟨"TurnCountsModel", "layTurn", "(I)V"⟩ ∈ tg := List.mem_filter.mpr ⟨List.mem_append_left _ (List.mem_of_getElem? (i := 27) (by decide +kernel)), by decide +kernel⟩
theorem tp_28 : Cond.selects "TurnCountsModel" ⟨"TurnCountsModel", "addType", "(I)V"⟩ ⟨"TurnCountsModel", "addType", "(I)V"⟩ ∈ tg := List.mem_filter.mpr ⟨List.mem_append_left _ (List.mem_of_getElem? (i := 28) (by decide +kernel)), by decide +kernel⟩
theorem tp_29 : Cond.selects "TurnCountsModel" ⟨"TurnCountsModel", "isPoint", "(I)Z"⟩ ⟨"TurnCountsModel", "isPoint", "(I)Z"⟩ ∈ tg := List.mem_filter.mpr ⟨List.mem_append_left _ (List.mem_of_getElem? (i := 29) (by decide +kernel)), by decide +kernel⟩
theorem tp_30 : Cond.selects "TurnCountsModel" ⟨"TurnCountsModel", "layPatterns", "()V"⟩ ⟨"TurnCountsModel", "layPatterns", "()V"⟩ ∈ tg := List.mem_filter.mpr ⟨List.mem_append_left _ (List.mem_of_getElem? (i := 30) (by decide +kernel)), by decide +kernel⟩
theorem tp_31 : Cond.selects "TurnCountsModel" ⟨"TurnCountsModel", "layWorths", "()V"⟩ ⟨"TurnCountsModel", "layWorths", "()V"⟩ ∈ tg := List.mem_filter.mpr ⟨List.mem_append_left _ (List.mem_of_getElem? (i := 31) (by decide +kernel)), by decide +kernel⟩
theorem tp_32 : Cond.selects "TurnCountsModel" ⟨"TurnCountsModel", "strike", "(I)V"⟩ ⟨"TurnCountsModel", "strike", "(I)V"⟩ ∈ tg := List.mem_filter.mpr ⟨List.mem_append_left _ (List.mem_of_getElem? (i := 32) (by decide +kernel)), by decide +kernel⟩
theorem tp_33 : Cond.selects "TurnCountsModel" ⟨"TurnCountsModel", "layColours", "(I)V"⟩ ⟨"TurnCountsModel", "layColours", "(I)V"⟩ ∈ tg := List.mem_filter.mpr ⟨List.mem_append_left _ (List.mem_of_getElem? (i := 33) (by decide +kernel)), by decide +kernel⟩
theorem tp_34 : Cond.selects "TurnCountsModel" ⟨"TurnCountsModel", "turned", "(I)I"⟩ ⟨"TurnCountsModel", "turned", "(I)I"⟩ ∈ tg := List.mem_filter.mpr ⟨List.mem_append_left _ (List.mem_of_getElem? (i := 34) (by decide +kernel)), by decide +kernel⟩
theorem tp_35 : Cond.selects "TurnCountsModel" ⟨"TurnCountsModel", "weightOf", "(I)I"⟩ ⟨"TurnCountsModel", "weightOf", "(I)I"⟩ ∈ tg := List.mem_filter.mpr ⟨List.mem_append_left _ (List.mem_of_getElem? (i := 35) (by decide +kernel)), by decide +kernel⟩
theorem tp_36 : Cond.selects "TurnCountsModel" ⟨"TurnCountsModel", "twin", "(I)I"⟩ ⟨"TurnCountsModel", "twin", "(I)I"⟩ ∈ tg := List.mem_filter.mpr ⟨List.mem_append_left _ (List.mem_of_getElem? (i := 36) (by decide +kernel)), by decide +kernel⟩
theorem tp_37 : Cond.selects "TurnCountsModel" ⟨"TurnCountsModel", "mirrored", "(I)I"⟩ ⟨"TurnCountsModel", "mirrored", "(I)I"⟩ ∈ tg := List.mem_filter.mpr ⟨List.mem_append_left _ (List.mem_of_getElem? (i := 37) (by decide +kernel)), by decide +kernel⟩
theorem tp_38 : Cond.selects "TurnCountsModel" ⟨"TurnCountsModel", "coloursOf", "(I)I"⟩ ⟨"TurnCountsModel", "coloursOf", "(I)I"⟩ ∈ tg := List.mem_filter.mpr ⟨List.mem_append_left _ (List.mem_of_getElem? (i := 38) (by decide +kernel)), by decide +kernel⟩
theorem tp_39 : Cond.selects "TurnCountsModel" ⟨"TurnCountsModel", "isNumber", "(I)Z"⟩ ⟨"TurnCountsModel", "isNumber", "(I)Z"⟩ ∈ tg := List.mem_filter.mpr ⟨List.mem_append_left _ (List.mem_of_getElem? (i := 39) (by decide +kernel)), by decide +kernel⟩
theorem tp_40 : Cond.selects "TurnCountsModel" ⟨"TurnCountsModel", "isOf", "(II)Z"⟩ ⟨"TurnCountsModel", "isOf", "(II)Z"⟩ ∈ tg := List.mem_filter.mpr ⟨List.mem_append_left _ (List.mem_of_getElem? (i := 40) (by decide +kernel)), by decide +kernel⟩
end
section
theorem dd_G_init_0 : decode bc_G_init 0 = .ok (.aload_n 0, 1) := by decide +kernel
theorem dd_G_init_1 : decode bc_G_init 1 = .ok (.invokespecial 3, 3) := by decide +kernel
theorem dd_G_init_4 : decode bc_G_init 4 = .ok (.aload_n 0, 1) := by decide +kernel
theorem dd_G_init_5 : decode bc_G_init 5 = .ok (.sipush 5040, 3) := by decide +kernel
theorem dd_G_init_8 : decode bc_G_init 8 = .ok (.newarray .int, 2) := by decide +kernel
theorem dd_G_init_10 : decode bc_G_init 10 = .ok (.putfield 9, 3) := by decide +kernel
theorem dd_G_init_13 : decode bc_G_init 13 = .ok (.aload_n 0, 1) := by decide +kernel
theorem dd_G_init_14 : decode bc_G_init 14 = .ok (.bipush 12, 2) := by decide +kernel
theorem dd_G_init_16 : decode bc_G_init 16 = .ok (.newarray .int, 2) := by decide +kernel
theorem dd_G_init_18 : decode bc_G_init 18 = .ok (.putfield 15, 3) := by decide +kernel
theorem dd_G_init_21 : decode bc_G_init 21 = .ok (.aload_n 0, 1) := by decide +kernel
theorem dd_G_init_22 : decode bc_G_init 22 = .ok (.sipush 158, 3) := by decide +kernel
theorem dd_G_init_25 : decode bc_G_init 25 = .ok (.newarray .int, 2) := by decide +kernel
theorem dd_G_init_27 : decode bc_G_init 27 = .ok (.putfield 18, 3) := by decide +kernel
theorem dd_G_init_30 : decode bc_G_init 30 = .ok (.aload_n 0, 1) := by decide +kernel
theorem dd_G_init_31 : decode bc_G_init 31 = .ok (.invokevirtual 21, 3) := by decide +kernel
theorem dd_G_init_34 : decode bc_G_init 34 = .ok (.return_, 1) := by decide +kernel
theorem dd_G_makeStill_0 : decode bc_G_makeStill 0 = .ok (.iconst 0, 1) := by decide +kernel
theorem dd_G_makeStill_1 : decode bc_G_makeStill 1 = .ok (.istore_n 1, 1) := by decide +kernel
theorem dd_G_makeStill_2 : decode bc_G_makeStill 2 = .ok (.iload_n 1, 1) := by decide +kernel
theorem dd_G_makeStill_3 : decode bc_G_makeStill 3 = .ok (.aload_n 0, 1) := by decide +kernel
theorem dd_G_makeStill_4 : decode bc_G_makeStill 4 = .ok (.getfield 18, 3) := by decide +kernel
theorem dd_G_makeStill_7 : decode bc_G_makeStill 7 = .ok (.arraylength, 1) := by decide +kernel
theorem dd_G_makeStill_8 : decode bc_G_makeStill 8 = .ok (.if_icmp .ge 16, 3) := by decide +kernel
theorem dd_G_makeStill_11 : decode bc_G_makeStill 11 = .ok (.aload_n 0, 1) := by decide +kernel
theorem dd_G_makeStill_12 : decode bc_G_makeStill 12 = .ok (.getfield 18, 3) := by decide +kernel
theorem dd_G_makeStill_15 : decode bc_G_makeStill 15 = .ok (.iload_n 1, 1) := by decide +kernel
theorem dd_G_makeStill_16 : decode bc_G_makeStill 16 = .ok (.iconst 0, 1) := by decide +kernel
theorem dd_G_makeStill_17 : decode bc_G_makeStill 17 = .ok (.iastore, 1) := by decide +kernel
theorem dd_G_makeStill_18 : decode bc_G_makeStill 18 = .ok (.iinc 1 1, 3) := by decide +kernel
theorem dd_G_makeStill_21 : decode bc_G_makeStill 21 = .ok (.goto (-19), 3) := by decide +kernel
theorem dd_G_makeStill_24 : decode bc_G_makeStill 24 = .ok (.aload_n 0, 1) := by decide +kernel
theorem dd_G_makeStill_25 : decode bc_G_makeStill 25 = .ok (.iconst 0, 1) := by decide +kernel
theorem dd_G_makeStill_26 : decode bc_G_makeStill 26 = .ok (.putfield 24, 3) := by decide +kernel
theorem dd_G_makeStill_29 : decode bc_G_makeStill 29 = .ok (.aload_n 0, 1) := by decide +kernel
theorem dd_G_makeStill_30 : decode bc_G_makeStill 30 = .ok (.iconst 0, 1) := by decide +kernel
theorem dd_G_makeStill_31 : decode bc_G_makeStill 31 = .ok (.putfield 28, 3) := by decide +kernel
theorem dd_G_makeStill_34 : decode bc_G_makeStill 34 = .ok (.aload_n 0, 1) := by decide +kernel
theorem dd_G_makeStill_35 : decode bc_G_makeStill 35 = .ok (.ldc 31, 2) := by decide +kernel
theorem dd_G_makeStill_37 : decode bc_G_makeStill 37 = .ok (.invokevirtual 32, 3) := by decide +kernel
theorem dd_G_makeStill_40 : decode bc_G_makeStill 40 = .ok (.return_, 1) := by decide +kernel
theorem dd_G_copyFrom_0 : decode bc_G_copyFrom 0 = .ok (.aload_n 1, 1) := by decide +kernel
theorem dd_G_copyFrom_1 : decode bc_G_copyFrom 1 = .ok (.getfield 9, 3) := by decide +kernel
theorem dd_G_copyFrom_4 : decode bc_G_copyFrom 4 = .ok (.iconst 0, 1) := by decide +kernel
theorem dd_G_copyFrom_5 : decode bc_G_copyFrom 5 = .ok (.aload_n 0, 1) := by decide +kernel
theorem dd_G_copyFrom_6 : decode bc_G_copyFrom 6 = .ok (.getfield 9, 3) := by decide +kernel
theorem dd_G_copyFrom_9 : decode bc_G_copyFrom 9 = .ok (.iconst 0, 1) := by decide +kernel
theorem dd_G_copyFrom_10 : decode bc_G_copyFrom 10 = .ok (.aload_n 1, 1) := by decide +kernel
theorem dd_G_copyFrom_11 : decode bc_G_copyFrom 11 = .ok (.getfield 28, 3) := by decide +kernel
theorem dd_G_copyFrom_14 : decode bc_G_copyFrom 14 = .ok (.invokestatic 36, 3) := by decide +kernel
theorem dd_G_copyFrom_17 : decode bc_G_copyFrom 17 = .ok (.aload_n 0, 1) := by decide +kernel
theorem dd_G_copyFrom_18 : decode bc_G_copyFrom 18 = .ok (.aload_n 1, 1) := by decide +kernel
theorem dd_G_copyFrom_19 : decode bc_G_copyFrom 19 = .ok (.getfield 28, 3) := by decide +kernel
theorem dd_G_copyFrom_22 : decode bc_G_copyFrom 22 = .ok (.putfield 28, 3) := by decide +kernel
theorem dd_G_copyFrom_25 : decode bc_G_copyFrom 25 = .ok (.aload_n 1, 1) := by decide +kernel
theorem dd_G_copyFrom_26 : decode bc_G_copyFrom 26 = .ok (.getfield 15, 3) := by decide +kernel
theorem dd_G_copyFrom_29 : decode bc_G_copyFrom 29 = .ok (.iconst 0, 1) := by decide +kernel
theorem dd_G_copyFrom_30 : decode bc_G_copyFrom 30 = .ok (.aload_n 0, 1) := by decide +kernel
theorem dd_G_copyFrom_31 : decode bc_G_copyFrom 31 = .ok (.getfield 15, 3) := by decide +kernel
theorem dd_G_copyFrom_34 : decode bc_G_copyFrom 34 = .ok (.iconst 0, 1) := by decide +kernel
theorem dd_G_copyFrom_35 : decode bc_G_copyFrom 35 = .ok (.aload_n 1, 1) := by decide +kernel
theorem dd_G_copyFrom_36 : decode bc_G_copyFrom 36 = .ok (.getfield 24, 3) := by decide +kernel
theorem dd_G_copyFrom_39 : decode bc_G_copyFrom 39 = .ok (.invokestatic 36, 3) := by decide +kernel
theorem dd_G_copyFrom_42 : decode bc_G_copyFrom 42 = .ok (.aload_n 0, 1) := by decide +kernel
theorem dd_G_copyFrom_43 : decode bc_G_copyFrom 43 = .ok (.aload_n 1, 1) := by decide +kernel
theorem dd_G_copyFrom_44 : decode bc_G_copyFrom 44 = .ok (.getfield 24, 3) := by decide +kernel
theorem dd_G_copyFrom_47 : decode bc_G_copyFrom 47 = .ok (.putfield 24, 3) := by decide +kernel
theorem dd_G_copyFrom_50 : decode bc_G_copyFrom 50 = .ok (.aload_n 1, 1) := by decide +kernel
theorem dd_G_copyFrom_51 : decode bc_G_copyFrom 51 = .ok (.getfield 18, 3) := by decide +kernel
theorem dd_G_copyFrom_54 : decode bc_G_copyFrom 54 = .ok (.iconst 0, 1) := by decide +kernel
theorem dd_G_copyFrom_55 : decode bc_G_copyFrom 55 = .ok (.aload_n 0, 1) := by decide +kernel
theorem dd_G_copyFrom_56 : decode bc_G_copyFrom 56 = .ok (.getfield 18, 3) := by decide +kernel
theorem dd_G_copyFrom_59 : decode bc_G_copyFrom 59 = .ok (.iconst 0, 1) := by decide +kernel
theorem dd_G_copyFrom_60 : decode bc_G_copyFrom 60 = .ok (.aload_n 0, 1) := by decide +kernel
theorem dd_G_copyFrom_61 : decode bc_G_copyFrom 61 = .ok (.getfield 18, 3) := by decide +kernel
theorem dd_G_copyFrom_64 : decode bc_G_copyFrom 64 = .ok (.arraylength, 1) := by decide +kernel
theorem dd_G_copyFrom_65 : decode bc_G_copyFrom 65 = .ok (.invokestatic 36, 3) := by decide +kernel
theorem dd_G_copyFrom_68 : decode bc_G_copyFrom 68 = .ok (.return_, 1) := by decide +kernel
theorem dd_G_has_0 : decode bc_G_has 0 = .ok (.iload_n 1, 1) := by decide +kernel
theorem dd_G_has_1 : decode bc_G_has 1 = .ok (.invokestatic 42, 3) := by decide +kernel
theorem dd_G_has_4 : decode bc_G_has 4 = .ok (.istore_n 2, 1) := by decide +kernel
theorem dd_G_has_5 : decode bc_G_has 5 = .ok (.aload_n 0, 1) := by decide +kernel
theorem dd_G_has_6 : decode bc_G_has 6 = .ok (.getfield 18, 3) := by decide +kernel
theorem dd_G_has_9 : decode bc_G_has 9 = .ok (.iload_n 2, 1) := by decide +kernel
theorem dd_G_has_10 : decode bc_G_has 10 = .ok (.iconst 5, 1) := by decide +kernel
theorem dd_G_has_11 : decode bc_G_has 11 = .ok (.ishr, 1) := by decide +kernel
theorem dd_G_has_12 : decode bc_G_has 12 = .ok (.iaload, 1) := by decide +kernel
theorem dd_G_has_13 : decode bc_G_has 13 = .ok (.iload_n 2, 1) := by decide +kernel
theorem dd_G_has_14 : decode bc_G_has 14 = .ok (.bipush 31, 2) := by decide +kernel
theorem dd_G_has_16 : decode bc_G_has 16 = .ok (.iand, 1) := by decide +kernel
theorem dd_G_has_17 : decode bc_G_has 17 = .ok (.ishr, 1) := by decide +kernel
theorem dd_G_has_18 : decode bc_G_has 18 = .ok (.iconst 1, 1) := by decide +kernel
theorem dd_G_has_19 : decode bc_G_has 19 = .ok (.iand, 1) := by decide +kernel
theorem dd_G_has_20 : decode bc_G_has 20 = .ok (.iconst 1, 1) := by decide +kernel
theorem dd_G_has_21 : decode bc_G_has 21 = .ok (.if_icmp .ne 7, 3) := by decide +kernel
theorem dd_G_has_24 : decode bc_G_has 24 = .ok (.iconst 1, 1) := by decide +kernel
theorem dd_G_has_25 : decode bc_G_has 25 = .ok (.goto 4, 3) := by decide +kernel
theorem dd_G_has_28 : decode bc_G_has 28 = .ok (.iconst 0, 1) := by decide +kernel
theorem dd_G_has_29 : decode bc_G_has 29 = .ok (.ireturn, 1) := by decide +kernel
theorem dd_G_add_0 : decode bc_G_add 0 = .ok (.aload_n 0, 1) := by decide +kernel
theorem dd_G_add_1 : decode bc_G_add 1 = .ok (.getfield 28, 3) := by decide +kernel
theorem dd_G_add_4 : decode bc_G_add 4 = .ok (.aload_n 0, 1) := by decide +kernel
theorem dd_G_add_5 : decode bc_G_add 5 = .ok (.getfield 9, 3) := by decide +kernel
theorem dd_G_add_8 : decode bc_G_add 8 = .ok (.arraylength, 1) := by decide +kernel
theorem dd_G_add_9 : decode bc_G_add 9 = .ok (.if_icmp .ge 45, 3) := by decide +kernel
theorem dd_G_add_12 : decode bc_G_add 12 = .ok (.iload_n 1, 1) := by decide +kernel
theorem dd_G_add_13 : decode bc_G_add 13 = .ok (.invokestatic 42, 3) := by decide +kernel
theorem dd_G_add_16 : decode bc_G_add 16 = .ok (.istore_n 2, 1) := by decide +kernel
theorem dd_G_add_17 : decode bc_G_add 17 = .ok (.aload_n 0, 1) := by decide +kernel
theorem dd_G_add_18 : decode bc_G_add 18 = .ok (.getfield 18, 3) := by decide +kernel
theorem dd_G_add_21 : decode bc_G_add 21 = .ok (.iload_n 2, 1) := by decide +kernel
theorem dd_G_add_22 : decode bc_G_add 22 = .ok (.iconst 5, 1) := by decide +kernel
theorem dd_G_add_23 : decode bc_G_add 23 = .ok (.ishr, 1) := by decide +kernel
theorem dd_G_add_24 : decode bc_G_add 24 = .ok (.dup2, 1) := by decide +kernel
theorem dd_G_add_25 : decode bc_G_add 25 = .ok (.iaload, 1) := by decide +kernel
theorem dd_G_add_26 : decode bc_G_add 26 = .ok (.iconst 1, 1) := by decide +kernel
theorem dd_G_add_27 : decode bc_G_add 27 = .ok (.iload_n 2, 1) := by decide +kernel
theorem dd_G_add_28 : decode bc_G_add 28 = .ok (.bipush 31, 2) := by decide +kernel
theorem dd_G_add_30 : decode bc_G_add 30 = .ok (.iand, 1) := by decide +kernel
theorem dd_G_add_31 : decode bc_G_add 31 = .ok (.ishl, 1) := by decide +kernel
theorem dd_G_add_32 : decode bc_G_add 32 = .ok (.ior, 1) := by decide +kernel
theorem dd_G_add_33 : decode bc_G_add 33 = .ok (.iastore, 1) := by decide +kernel
theorem dd_G_add_34 : decode bc_G_add 34 = .ok (.aload_n 0, 1) := by decide +kernel
theorem dd_G_add_35 : decode bc_G_add 35 = .ok (.getfield 9, 3) := by decide +kernel
theorem dd_G_add_38 : decode bc_G_add 38 = .ok (.aload_n 0, 1) := by decide +kernel
theorem dd_G_add_39 : decode bc_G_add 39 = .ok (.getfield 28, 3) := by decide +kernel
theorem dd_G_add_42 : decode bc_G_add 42 = .ok (.iload_n 1, 1) := by decide +kernel
theorem dd_G_add_43 : decode bc_G_add 43 = .ok (.iastore, 1) := by decide +kernel
theorem dd_G_add_44 : decode bc_G_add 44 = .ok (.aload_n 0, 1) := by decide +kernel
theorem dd_G_add_45 : decode bc_G_add 45 = .ok (.dup, 1) := by decide +kernel
theorem dd_G_add_46 : decode bc_G_add 46 = .ok (.getfield 28, 3) := by decide +kernel
theorem dd_G_add_49 : decode bc_G_add 49 = .ok (.iconst 1, 1) := by decide +kernel
theorem dd_G_add_50 : decode bc_G_add 50 = .ok (.iadd, 1) := by decide +kernel
theorem dd_G_add_51 : decode bc_G_add 51 = .ok (.putfield 28, 3) := by decide +kernel
theorem dd_G_add_54 : decode bc_G_add 54 = .ok (.return_, 1) := by decide +kernel
theorem dd_G_widenByKind_0 : decode bc_G_widenByKind 0 = .ok (.iload_n 1, 1) := by decide +kernel
theorem dd_G_widenByKind_1 : decode bc_G_widenByKind 1 = .ok (.iconst 1, 1) := by decide +kernel
theorem dd_G_widenByKind_2 : decode bc_G_widenByKind 2 = .ok (.if_icmp .eq 13, 3) := by decide +kernel
theorem dd_G_widenByKind_5 : decode bc_G_widenByKind 5 = .ok (.iload_n 1, 1) := by decide +kernel
theorem dd_G_widenByKind_6 : decode bc_G_widenByKind 6 = .ok (.iconst 2, 1) := by decide +kernel
theorem dd_G_widenByKind_7 : decode bc_G_widenByKind 7 = .ok (.if_icmp .eq 8, 3) := by decide +kernel
theorem dd_G_widenByKind_10 : decode bc_G_widenByKind 10 = .ok (.iload_n 1, 1) := by decide +kernel
theorem dd_G_widenByKind_11 : decode bc_G_widenByKind 11 = .ok (.iconst 4, 1) := by decide +kernel
theorem dd_G_widenByKind_12 : decode bc_G_widenByKind 12 = .ok (.if_icmp .ne 14, 3) := by decide +kernel
theorem dd_G_widenByKind_15 : decode bc_G_widenByKind 15 = .ok (.aload_n 0, 1) := by decide +kernel
theorem dd_G_widenByKind_16 : decode bc_G_widenByKind 16 = .ok (.iload_n 2, 1) := by decide +kernel
theorem dd_G_widenByKind_17 : decode bc_G_widenByKind 17 = .ok (.iload_n 3, 1) := by decide +kernel
theorem dd_G_widenByKind_18 : decode bc_G_widenByKind 18 = .ok (.iload 4, 2) := by decide +kernel
theorem dd_G_widenByKind_20 : decode bc_G_widenByKind 20 = .ok (.invokestatic 48, 3) := by decide +kernel
theorem dd_G_widenByKind_23 : decode bc_G_widenByKind 23 = .ok (.invokevirtual 52, 3) := by decide +kernel
theorem dd_G_widenByKind_26 : decode bc_G_widenByKind 26 = .ok (.iload_n 1, 1) := by decide +kernel
theorem dd_G_widenByKind_27 : decode bc_G_widenByKind 27 = .ok (.iconst 2, 1) := by decide +kernel
theorem dd_G_widenByKind_28 : decode bc_G_widenByKind 28 = .ok (.if_icmp .ne 14, 3) := by decide +kernel
theorem dd_G_widenByKind_31 : decode bc_G_widenByKind 31 = .ok (.aload_n 0, 1) := by decide +kernel
theorem dd_G_widenByKind_32 : decode bc_G_widenByKind 32 = .ok (.iload_n 2, 1) := by decide +kernel
theorem dd_G_widenByKind_33 : decode bc_G_widenByKind 33 = .ok (.iload_n 3, 1) := by decide +kernel
theorem dd_G_widenByKind_34 : decode bc_G_widenByKind 34 = .ok (.iload 4, 2) := by decide +kernel
theorem dd_G_widenByKind_36 : decode bc_G_widenByKind 36 = .ok (.invokestatic 55, 3) := by decide +kernel
theorem dd_G_widenByKind_39 : decode bc_G_widenByKind 39 = .ok (.invokevirtual 52, 3) := by decide +kernel
theorem dd_G_widenByKind_42 : decode bc_G_widenByKind 42 = .ok (.iload_n 1, 1) := by decide +kernel
theorem dd_G_widenByKind_43 : decode bc_G_widenByKind 43 = .ok (.iconst 4, 1) := by decide +kernel
theorem dd_G_widenByKind_44 : decode bc_G_widenByKind 44 = .ok (.if_icmp .ne 19, 3) := by decide +kernel
theorem dd_G_widenByKind_47 : decode bc_G_widenByKind 47 = .ok (.iload_n 3, 1) := by decide +kernel
theorem dd_G_widenByKind_48 : decode bc_G_widenByKind 48 = .ok (.iconst 2, 1) := by decide +kernel
theorem dd_G_widenByKind_49 : decode bc_G_widenByKind 49 = .ok (.if_icmp .lt 14, 3) := by decide +kernel
theorem dd_G_widenByKind_52 : decode bc_G_widenByKind 52 = .ok (.aload_n 0, 1) := by decide +kernel
theorem dd_G_widenByKind_53 : decode bc_G_widenByKind 53 = .ok (.iload_n 2, 1) := by decide +kernel
theorem dd_G_widenByKind_54 : decode bc_G_widenByKind 54 = .ok (.iconst 2, 1) := by decide +kernel
theorem dd_G_widenByKind_55 : decode bc_G_widenByKind 55 = .ok (.iload 4, 2) := by decide +kernel
theorem dd_G_widenByKind_57 : decode bc_G_widenByKind 57 = .ok (.invokestatic 48, 3) := by decide +kernel
theorem dd_G_widenByKind_60 : decode bc_G_widenByKind 60 = .ok (.invokevirtual 52, 3) := by decide +kernel
theorem dd_G_widenByKind_63 : decode bc_G_widenByKind 63 = .ok (.iload_n 1, 1) := by decide +kernel
theorem dd_G_widenByKind_64 : decode bc_G_widenByKind 64 = .ok (.iconst 3, 1) := by decide +kernel
theorem dd_G_widenByKind_65 : decode bc_G_widenByKind 65 = .ok (.if_icmp .ne 52, 3) := by decide +kernel
theorem dd_G_widenByKind_68 : decode bc_G_widenByKind 68 = .ok (.iload_n 3, 1) := by decide +kernel
theorem dd_G_widenByKind_69 : decode bc_G_widenByKind 69 = .ok (.iconst 3, 1) := by decide +kernel
theorem dd_G_widenByKind_70 : decode bc_G_widenByKind 70 = .ok (.if_icmp .lt 47, 3) := by decide +kernel
theorem dd_G_widenByKind_73 : decode bc_G_widenByKind 73 = .ok (.iload_n 3, 1) := by decide +kernel
theorem dd_G_widenByKind_74 : decode bc_G_widenByKind 74 = .ok (.iconst 2, 1) := by decide +kernel
theorem dd_G_widenByKind_75 : decode bc_G_widenByKind 75 = .ok (.irem, 1) := by decide +kernel
theorem dd_G_widenByKind_76 : decode bc_G_widenByKind 76 = .ok (.ifCond .ne 7, 3) := by decide +kernel
theorem dd_G_widenByKind_79 : decode bc_G_widenByKind 79 = .ok (.iconst 1, 1) := by decide +kernel
theorem dd_G_widenByKind_80 : decode bc_G_widenByKind 80 = .ok (.goto 4, 3) := by decide +kernel
theorem dd_G_widenByKind_83 : decode bc_G_widenByKind 83 = .ok (.iconst 0, 1) := by decide +kernel
theorem dd_G_widenByKind_84 : decode bc_G_widenByKind 84 = .ok (.istore 5, 2) := by decide +kernel
theorem dd_G_widenByKind_86 : decode bc_G_widenByKind 86 = .ok (.aload_n 0, 1) := by decide +kernel
theorem dd_G_widenByKind_87 : decode bc_G_widenByKind 87 = .ok (.iload_n 2, 1) := by decide +kernel
theorem dd_G_widenByKind_88 : decode bc_G_widenByKind 88 = .ok (.iload 5, 2) := by decide +kernel
theorem dd_G_widenByKind_90 : decode bc_G_widenByKind 90 = .ok (.iload 4, 2) := by decide +kernel
theorem dd_G_widenByKind_92 : decode bc_G_widenByKind 92 = .ok (.imul, 1) := by decide +kernel
theorem dd_G_widenByKind_93 : decode bc_G_widenByKind 93 = .ok (.iadd, 1) := by decide +kernel
theorem dd_G_widenByKind_94 : decode bc_G_widenByKind 94 = .ok (.iload_n 3, 1) := by decide +kernel
theorem dd_G_widenByKind_95 : decode bc_G_widenByKind 95 = .ok (.iload 5, 2) := by decide +kernel
theorem dd_G_widenByKind_97 : decode bc_G_widenByKind 97 = .ok (.isub, 1) := by decide +kernel
theorem dd_G_widenByKind_98 : decode bc_G_widenByKind 98 = .ok (.iload 4, 2) := by decide +kernel
theorem dd_G_widenByKind_100 : decode bc_G_widenByKind 100 = .ok (.invokestatic 48, 3) := by decide +kernel
theorem dd_G_widenByKind_103 : decode bc_G_widenByKind 103 = .ok (.invokevirtual 52, 3) := by decide +kernel
theorem dd_G_widenByKind_106 : decode bc_G_widenByKind 106 = .ok (.aload_n 0, 1) := by decide +kernel
theorem dd_G_widenByKind_107 : decode bc_G_widenByKind 107 = .ok (.iload_n 2, 1) := by decide +kernel
theorem dd_G_widenByKind_108 : decode bc_G_widenByKind 108 = .ok (.iconst 3, 1) := by decide +kernel
theorem dd_G_widenByKind_109 : decode bc_G_widenByKind 109 = .ok (.iload 4, 2) := by decide +kernel
theorem dd_G_widenByKind_111 : decode bc_G_widenByKind 111 = .ok (.invokestatic 48, 3) := by decide +kernel
theorem dd_G_widenByKind_114 : decode bc_G_widenByKind 114 = .ok (.invokevirtual 52, 3) := by decide +kernel
theorem dd_G_widenByKind_117 : decode bc_G_widenByKind 117 = .ok (.return_, 1) := by decide +kernel
theorem dd_G_widen_0 : decode bc_G_widen 0 = .ok (.aload_n 0, 1) := by decide +kernel
theorem dd_G_widen_1 : decode bc_G_widen 1 = .ok (.iload_n 1, 1) := by decide +kernel
theorem dd_G_widen_2 : decode bc_G_widen 2 = .ok (.invokevirtual 58, 3) := by decide +kernel
theorem dd_G_widen_5 : decode bc_G_widen 5 = .ok (.ifCond .ne 15, 3) := by decide +kernel
theorem dd_G_widen_8 : decode bc_G_widen 8 = .ok (.aload_n 0, 1) := by decide +kernel
theorem dd_G_widen_9 : decode bc_G_widen 9 = .ok (.getfield 24, 3) := by decide +kernel
theorem dd_G_widen_12 : decode bc_G_widen 12 = .ok (.aload_n 0, 1) := by decide +kernel
theorem dd_G_widen_13 : decode bc_G_widen 13 = .ok (.getfield 15, 3) := by decide +kernel
theorem dd_G_widen_16 : decode bc_G_widen 16 = .ok (.arraylength, 1) := by decide +kernel
theorem dd_G_widen_17 : decode bc_G_widen 17 = .ok (.if_icmp .lt 4, 3) := by decide +kernel
theorem dd_G_widen_20 : decode bc_G_widen 20 = .ok (.return_, 1) := by decide +kernel
theorem dd_G_widen_21 : decode bc_G_widen 21 = .ok (.aload_n 0, 1) := by decide +kernel
theorem dd_G_widen_22 : decode bc_G_widen 22 = .ok (.getfield 15, 3) := by decide +kernel
theorem dd_G_widen_25 : decode bc_G_widen 25 = .ok (.aload_n 0, 1) := by decide +kernel
theorem dd_G_widen_26 : decode bc_G_widen 26 = .ok (.getfield 24, 3) := by decide +kernel
theorem dd_G_widen_29 : decode bc_G_widen 29 = .ok (.iload_n 1, 1) := by decide +kernel
theorem dd_G_widen_30 : decode bc_G_widen 30 = .ok (.iastore, 1) := by decide +kernel
theorem dd_G_widen_31 : decode bc_G_widen 31 = .ok (.aload_n 0, 1) := by decide +kernel
theorem dd_G_widen_32 : decode bc_G_widen 32 = .ok (.dup, 1) := by decide +kernel
theorem dd_G_widen_33 : decode bc_G_widen 33 = .ok (.getfield 24, 3) := by decide +kernel
theorem dd_G_widen_36 : decode bc_G_widen 36 = .ok (.iconst 1, 1) := by decide +kernel
theorem dd_G_widen_37 : decode bc_G_widen 37 = .ok (.iadd, 1) := by decide +kernel
theorem dd_G_widen_38 : decode bc_G_widen 38 = .ok (.putfield 24, 3) := by decide +kernel
theorem dd_G_widen_41 : decode bc_G_widen 41 = .ok (.aload_n 0, 1) := by decide +kernel
theorem dd_G_widen_42 : decode bc_G_widen 42 = .ok (.getfield 28, 3) := by decide +kernel
theorem dd_G_widen_45 : decode bc_G_widen 45 = .ok (.istore_n 2, 1) := by decide +kernel
theorem dd_G_widen_46 : decode bc_G_widen 46 = .ok (.aload_n 0, 1) := by decide +kernel
theorem dd_G_widen_47 : decode bc_G_widen 47 = .ok (.iload_n 2, 1) := by decide +kernel
theorem dd_G_widen_48 : decode bc_G_widen 48 = .ok (.iload_n 1, 1) := by decide +kernel
theorem dd_G_widen_49 : decode bc_G_widen 49 = .ok (.invokevirtual 62, 3) := by decide +kernel
theorem dd_G_widen_52 : decode bc_G_widen 52 = .ok (.iconst 1, 1) := by decide +kernel
theorem dd_G_widen_53 : decode bc_G_widen 53 = .ok (.istore_n 3, 1) := by decide +kernel
theorem dd_G_widen_54 : decode bc_G_widen 54 = .ok (.iload_n 3, 1) := by decide +kernel
theorem dd_G_widen_55 : decode bc_G_widen 55 = .ok (.sipush 5040, 3) := by decide +kernel
theorem dd_G_widen_58 : decode bc_G_widen 58 = .ok (.if_icmp .ge 73, 3) := by decide +kernel
theorem dd_G_widen_61 : decode bc_G_widen 61 = .ok (.iload_n 3, 1) := by decide +kernel
theorem dd_G_widen_62 : decode bc_G_widen 62 = .ok (.iload_n 2, 1) := by decide +kernel
theorem dd_G_widen_63 : decode bc_G_widen 63 = .ok (.imul, 1) := by decide +kernel
theorem dd_G_widen_64 : decode bc_G_widen 64 = .ok (.aload_n 0, 1) := by decide +kernel
theorem dd_G_widen_65 : decode bc_G_widen 65 = .ok (.getfield 28, 3) := by decide +kernel
theorem dd_G_widen_68 : decode bc_G_widen 68 = .ok (.if_icmp .ge 63, 3) := by decide +kernel
theorem dd_G_widen_71 : decode bc_G_widen 71 = .ok (.iconst 0, 1) := by decide +kernel
theorem dd_G_widen_72 : decode bc_G_widen 72 = .ok (.istore 4, 2) := by decide +kernel
theorem dd_G_widen_74 : decode bc_G_widen 74 = .ok (.iload 4, 2) := by decide +kernel
theorem dd_G_widen_76 : decode bc_G_widen 76 = .ok (.aload_n 0, 1) := by decide +kernel
theorem dd_G_widen_77 : decode bc_G_widen 77 = .ok (.getfield 24, 3) := by decide +kernel
theorem dd_G_widen_80 : decode bc_G_widen 80 = .ok (.if_icmp .ge 45, 3) := by decide +kernel
theorem dd_G_widen_83 : decode bc_G_widen 83 = .ok (.aload_n 0, 1) := by decide +kernel
theorem dd_G_widen_84 : decode bc_G_widen 84 = .ok (.getfield 9, 3) := by decide +kernel
theorem dd_G_widen_87 : decode bc_G_widen 87 = .ok (.iload_n 3, 1) := by decide +kernel
theorem dd_G_widen_88 : decode bc_G_widen 88 = .ok (.iload_n 2, 1) := by decide +kernel
theorem dd_G_widen_89 : decode bc_G_widen 89 = .ok (.imul, 1) := by decide +kernel
theorem dd_G_widen_90 : decode bc_G_widen 90 = .ok (.iaload, 1) := by decide +kernel
theorem dd_G_widen_91 : decode bc_G_widen 91 = .ok (.aload_n 0, 1) := by decide +kernel
theorem dd_G_widen_92 : decode bc_G_widen 92 = .ok (.getfield 15, 3) := by decide +kernel
theorem dd_G_widen_95 : decode bc_G_widen 95 = .ok (.iload 4, 2) := by decide +kernel
theorem dd_G_widen_97 : decode bc_G_widen 97 = .ok (.iaload, 1) := by decide +kernel
theorem dd_G_widen_98 : decode bc_G_widen 98 = .ok (.invokestatic 66, 3) := by decide +kernel
theorem dd_G_widen_101 : decode bc_G_widen 101 = .ok (.istore 5, 2) := by decide +kernel
theorem dd_G_widen_103 : decode bc_G_widen 103 = .ok (.aload_n 0, 1) := by decide +kernel
theorem dd_G_widen_104 : decode bc_G_widen 104 = .ok (.iload 5, 2) := by decide +kernel
theorem dd_G_widen_106 : decode bc_G_widen 106 = .ok (.invokevirtual 58, 3) := by decide +kernel
theorem dd_G_widen_109 : decode bc_G_widen 109 = .ok (.ifCond .ne 10, 3) := by decide +kernel
theorem dd_G_widen_112 : decode bc_G_widen 112 = .ok (.aload_n 0, 1) := by decide +kernel
theorem dd_G_widen_113 : decode bc_G_widen 113 = .ok (.iload_n 2, 1) := by decide +kernel
theorem dd_G_widen_114 : decode bc_G_widen 114 = .ok (.iload 5, 2) := by decide +kernel
theorem dd_G_widen_116 : decode bc_G_widen 116 = .ok (.invokevirtual 62, 3) := by decide +kernel
theorem dd_G_widen_119 : decode bc_G_widen 119 = .ok (.iinc 4 1, 3) := by decide +kernel
theorem dd_G_widen_122 : decode bc_G_widen 122 = .ok (.goto (-48), 3) := by decide +kernel
theorem dd_G_widen_125 : decode bc_G_widen 125 = .ok (.iinc 3 1, 3) := by decide +kernel
theorem dd_G_widen_128 : decode bc_G_widen 128 = .ok (.goto (-74), 3) := by decide +kernel
theorem dd_G_widen_131 : decode bc_G_widen 131 = .ok (.return_, 1) := by decide +kernel
theorem dd_G_addCopy_0 : decode bc_G_addCopy 0 = .ok (.iconst 0, 1) := by decide +kernel
theorem dd_G_addCopy_1 : decode bc_G_addCopy 1 = .ok (.istore_n 3, 1) := by decide +kernel
theorem dd_G_addCopy_2 : decode bc_G_addCopy 2 = .ok (.iload_n 3, 1) := by decide +kernel
theorem dd_G_addCopy_3 : decode bc_G_addCopy 3 = .ok (.iload_n 1, 1) := by decide +kernel
theorem dd_G_addCopy_4 : decode bc_G_addCopy 4 = .ok (.if_icmp .ge 23, 3) := by decide +kernel
theorem dd_G_addCopy_7 : decode bc_G_addCopy 7 = .ok (.aload_n 0, 1) := by decide +kernel
theorem dd_G_addCopy_8 : decode bc_G_addCopy 8 = .ok (.aload_n 0, 1) := by decide +kernel
theorem dd_G_addCopy_9 : decode bc_G_addCopy 9 = .ok (.getfield 9, 3) := by decide +kernel
theorem dd_G_addCopy_12 : decode bc_G_addCopy 12 = .ok (.iload_n 3, 1) := by decide +kernel
theorem dd_G_addCopy_13 : decode bc_G_addCopy 13 = .ok (.iaload, 1) := by decide +kernel
theorem dd_G_addCopy_14 : decode bc_G_addCopy 14 = .ok (.iload_n 2, 1) := by decide +kernel
theorem dd_G_addCopy_15 : decode bc_G_addCopy 15 = .ok (.invokestatic 66, 3) := by decide +kernel
theorem dd_G_addCopy_18 : decode bc_G_addCopy 18 = .ok (.invokevirtual 32, 3) := by decide +kernel
theorem dd_G_addCopy_21 : decode bc_G_addCopy 21 = .ok (.iinc 3 1, 3) := by decide +kernel
theorem dd_G_addCopy_24 : decode bc_G_addCopy 24 = .ok (.goto (-22), 3) := by decide +kernel
theorem dd_G_addCopy_27 : decode bc_G_addCopy 27 = .ok (.return_, 1) := by decide +kernel
theorem dd_G_reachFrom_0 : decode bc_G_reachFrom 0 = .ok (.iconst 0, 1) := by decide +kernel
theorem dd_G_reachFrom_1 : decode bc_G_reachFrom 1 = .ok (.istore_n 2, 1) := by decide +kernel
theorem dd_G_reachFrom_2 : decode bc_G_reachFrom 2 = .ok (.iconst 0, 1) := by decide +kernel
theorem dd_G_reachFrom_3 : decode bc_G_reachFrom 3 = .ok (.istore_n 3, 1) := by decide +kernel
theorem dd_G_reachFrom_4 : decode bc_G_reachFrom 4 = .ok (.iload_n 3, 1) := by decide +kernel
theorem dd_G_reachFrom_5 : decode bc_G_reachFrom 5 = .ok (.aload_n 0, 1) := by decide +kernel
theorem dd_G_reachFrom_6 : decode bc_G_reachFrom 6 = .ok (.getfield 28, 3) := by decide +kernel
theorem dd_G_reachFrom_9 : decode bc_G_reachFrom 9 = .ok (.if_icmp .ge 24, 3) := by decide +kernel
theorem dd_G_reachFrom_12 : decode bc_G_reachFrom 12 = .ok (.iload_n 2, 1) := by decide +kernel
theorem dd_G_reachFrom_13 : decode bc_G_reachFrom 13 = .ok (.iconst 1, 1) := by decide +kernel
theorem dd_G_reachFrom_14 : decode bc_G_reachFrom 14 = .ok (.aload_n 0, 1) := by decide +kernel
theorem dd_G_reachFrom_15 : decode bc_G_reachFrom 15 = .ok (.getfield 9, 3) := by decide +kernel
theorem dd_G_reachFrom_18 : decode bc_G_reachFrom 18 = .ok (.iload_n 3, 1) := by decide +kernel
theorem dd_G_reachFrom_19 : decode bc_G_reachFrom 19 = .ok (.iaload, 1) := by decide +kernel
theorem dd_G_reachFrom_20 : decode bc_G_reachFrom 20 = .ok (.iload_n 1, 1) := by decide +kernel
theorem dd_G_reachFrom_21 : decode bc_G_reachFrom 21 = .ok (.invokestatic 70, 3) := by decide +kernel
theorem dd_G_reachFrom_24 : decode bc_G_reachFrom 24 = .ok (.ishl, 1) := by decide +kernel
theorem dd_G_reachFrom_25 : decode bc_G_reachFrom 25 = .ok (.ior, 1) := by decide +kernel
theorem dd_G_reachFrom_26 : decode bc_G_reachFrom 26 = .ok (.istore_n 2, 1) := by decide +kernel
theorem dd_G_reachFrom_27 : decode bc_G_reachFrom 27 = .ok (.iinc 3 1, 3) := by decide +kernel
theorem dd_G_reachFrom_30 : decode bc_G_reachFrom 30 = .ok (.goto (-26), 3) := by decide +kernel
theorem dd_G_reachFrom_33 : decode bc_G_reachFrom 33 = .ok (.iload_n 2, 1) := by decide +kernel
theorem dd_G_reachFrom_34 : decode bc_G_reachFrom 34 = .ok (.invokestatic 73, 3) := by decide +kernel
theorem dd_G_reachFrom_37 : decode bc_G_reachFrom 37 = .ok (.ireturn, 1) := by decide +kernel
theorem dd_G_holding_0 : decode bc_G_holding 0 = .ok (.iconst 0, 1) := by decide +kernel
theorem dd_G_holding_1 : decode bc_G_holding 1 = .ok (.istore_n 2, 1) := by decide +kernel
theorem dd_G_holding_2 : decode bc_G_holding 2 = .ok (.iconst 0, 1) := by decide +kernel
theorem dd_G_holding_3 : decode bc_G_holding 3 = .ok (.istore_n 3, 1) := by decide +kernel
theorem dd_G_holding_4 : decode bc_G_holding 4 = .ok (.iload_n 3, 1) := by decide +kernel
theorem dd_G_holding_5 : decode bc_G_holding 5 = .ok (.aload_n 0, 1) := by decide +kernel
theorem dd_G_holding_6 : decode bc_G_holding 6 = .ok (.getfield 28, 3) := by decide +kernel
theorem dd_G_holding_9 : decode bc_G_holding 9 = .ok (.if_icmp .ge 26, 3) := by decide +kernel
theorem dd_G_holding_12 : decode bc_G_holding 12 = .ok (.aload_n 0, 1) := by decide +kernel
theorem dd_G_holding_13 : decode bc_G_holding 13 = .ok (.getfield 9, 3) := by decide +kernel
theorem dd_G_holding_16 : decode bc_G_holding 16 = .ok (.iload_n 3, 1) := by decide +kernel
theorem dd_G_holding_17 : decode bc_G_holding 17 = .ok (.iaload, 1) := by decide +kernel
theorem dd_G_holding_18 : decode bc_G_holding 18 = .ok (.iload_n 1, 1) := by decide +kernel
theorem dd_G_holding_19 : decode bc_G_holding 19 = .ok (.invokestatic 70, 3) := by decide +kernel
theorem dd_G_holding_22 : decode bc_G_holding 22 = .ok (.iload_n 1, 1) := by decide +kernel
theorem dd_G_holding_23 : decode bc_G_holding 23 = .ok (.if_icmp .ne 6, 3) := by decide +kernel
theorem dd_G_holding_26 : decode bc_G_holding 26 = .ok (.iinc 2 1, 3) := by decide +kernel
theorem dd_G_holding_29 : decode bc_G_holding 29 = .ok (.iinc 3 1, 3) := by decide +kernel
theorem dd_G_holding_32 : decode bc_G_holding 32 = .ok (.goto (-28), 3) := by decide +kernel
theorem dd_G_holding_35 : decode bc_G_holding 35 = .ok (.iload_n 2, 1) := by decide +kernel
theorem dd_G_holding_36 : decode bc_G_holding 36 = .ok (.ireturn, 1) := by decide +kernel
theorem dd_D_init_0 : decode bc_D_init 0 = .ok (.aload_n 0, 1) := by decide +kernel
theorem dd_D_init_1 : decode bc_D_init 1 = .ok (.invokespecial 3, 3) := by decide +kernel
theorem dd_D_init_4 : decode bc_D_init 4 = .ok (.aload_n 0, 1) := by decide +kernel
theorem dd_D_init_5 : decode bc_D_init 5 = .ok (.bipush 7, 2) := by decide +kernel
theorem dd_D_init_7 : decode bc_D_init 7 = .ok (.newarray .int, 2) := by decide +kernel
theorem dd_D_init_9 : decode bc_D_init 9 = .ok (.putfield 9, 3) := by decide +kernel
theorem dd_D_init_12 : decode bc_D_init 12 = .ok (.aload_n 0, 1) := by decide +kernel
theorem dd_D_init_13 : decode bc_D_init 13 = .ok (.iconst 0, 1) := by decide +kernel
theorem dd_D_init_14 : decode bc_D_init 14 = .ok (.putfield 15, 3) := by decide +kernel
theorem dd_D_init_17 : decode bc_D_init 17 = .ok (.return_, 1) := by decide +kernel
theorem dd_D_toldTurn_0 : decode bc_D_toldTurn 0 = .ok (.aload_n 0, 1) := by decide +kernel
theorem dd_D_toldTurn_1 : decode bc_D_toldTurn 1 = .ok (.getfield 15, 3) := by decide +kernel
theorem dd_D_toldTurn_4 : decode bc_D_toldTurn 4 = .ok (.iload_n 1, 1) := by decide +kernel
theorem dd_D_toldTurn_5 : decode bc_D_toldTurn 5 = .ok (.if_icmp .eq 6, 3) := by decide +kernel
theorem dd_D_toldTurn_8 : decode bc_D_toldTurn 8 = .ok (.bipush (-7), 2) := by decide +kernel
theorem dd_D_toldTurn_10 : decode bc_D_toldTurn 10 = .ok (.ireturn, 1) := by decide +kernel
theorem dd_D_toldTurn_11 : decode bc_D_toldTurn 11 = .ok (.ldc 19, 2) := by decide +kernel
theorem dd_D_toldTurn_13 : decode bc_D_toldTurn 13 = .ok (.istore_n 2, 1) := by decide +kernel
theorem dd_D_toldTurn_14 : decode bc_D_toldTurn 14 = .ok (.iconst 0, 1) := by decide +kernel
theorem dd_D_toldTurn_15 : decode bc_D_toldTurn 15 = .ok (.istore_n 3, 1) := by decide +kernel
theorem dd_D_toldTurn_16 : decode bc_D_toldTurn 16 = .ok (.iconst 0, 1) := by decide +kernel
theorem dd_D_toldTurn_17 : decode bc_D_toldTurn 17 = .ok (.istore 4, 2) := by decide +kernel
theorem dd_D_toldTurn_19 : decode bc_D_toldTurn 19 = .ok (.iload 4, 2) := by decide +kernel
theorem dd_D_toldTurn_21 : decode bc_D_toldTurn 21 = .ok (.iload_n 1, 1) := by decide +kernel
theorem dd_D_toldTurn_22 : decode bc_D_toldTurn 22 = .ok (.if_icmp .ge 61, 3) := by decide +kernel
theorem dd_D_toldTurn_25 : decode bc_D_toldTurn 25 = .ok (.aload_n 0, 1) := by decide +kernel
theorem dd_D_toldTurn_26 : decode bc_D_toldTurn 26 = .ok (.getfield 9, 3) := by decide +kernel
theorem dd_D_toldTurn_29 : decode bc_D_toldTurn 29 = .ok (.iload 4, 2) := by decide +kernel
theorem dd_D_toldTurn_31 : decode bc_D_toldTurn 31 = .ok (.iaload, 1) := by decide +kernel
theorem dd_D_toldTurn_32 : decode bc_D_toldTurn 32 = .ok (.bipush 48, 2) := by decide +kernel
theorem dd_D_toldTurn_34 : decode bc_D_toldTurn 34 = .ok (.isub, 1) := by decide +kernel
theorem dd_D_toldTurn_35 : decode bc_D_toldTurn 35 = .ok (.istore 5, 2) := by decide +kernel
theorem dd_D_toldTurn_37 : decode bc_D_toldTurn 37 = .ok (.iload 5, 2) := by decide +kernel
theorem dd_D_toldTurn_39 : decode bc_D_toldTurn 39 = .ok (.ifCond .lt 19, 3) := by decide +kernel
theorem dd_D_toldTurn_42 : decode bc_D_toldTurn 42 = .ok (.iload 5, 2) := by decide +kernel
theorem dd_D_toldTurn_44 : decode bc_D_toldTurn 44 = .ok (.iload_n 1, 1) := by decide +kernel
theorem dd_D_toldTurn_45 : decode bc_D_toldTurn 45 = .ok (.if_icmp .ge 13, 3) := by decide +kernel
theorem dd_D_toldTurn_48 : decode bc_D_toldTurn 48 = .ok (.iload_n 3, 1) := by decide +kernel
theorem dd_D_toldTurn_49 : decode bc_D_toldTurn 49 = .ok (.iload 5, 2) := by decide +kernel
theorem dd_D_toldTurn_51 : decode bc_D_toldTurn 51 = .ok (.ishr, 1) := by decide +kernel
theorem dd_D_toldTurn_52 : decode bc_D_toldTurn 52 = .ok (.iconst 1, 1) := by decide +kernel
theorem dd_D_toldTurn_53 : decode bc_D_toldTurn 53 = .ok (.iand, 1) := by decide +kernel
theorem dd_D_toldTurn_54 : decode bc_D_toldTurn 54 = .ok (.iconst 1, 1) := by decide +kernel
theorem dd_D_toldTurn_55 : decode bc_D_toldTurn 55 = .ok (.if_icmp .ne 6, 3) := by decide +kernel
theorem dd_D_toldTurn_58 : decode bc_D_toldTurn 58 = .ok (.bipush (-7), 2) := by decide +kernel
theorem dd_D_toldTurn_60 : decode bc_D_toldTurn 60 = .ok (.ireturn, 1) := by decide +kernel
theorem dd_D_toldTurn_61 : decode bc_D_toldTurn 61 = .ok (.iload_n 3, 1) := by decide +kernel
theorem dd_D_toldTurn_62 : decode bc_D_toldTurn 62 = .ok (.iconst 1, 1) := by decide +kernel
theorem dd_D_toldTurn_63 : decode bc_D_toldTurn 63 = .ok (.iload 5, 2) := by decide +kernel
theorem dd_D_toldTurn_65 : decode bc_D_toldTurn 65 = .ok (.ishl, 1) := by decide +kernel
theorem dd_D_toldTurn_66 : decode bc_D_toldTurn 66 = .ok (.ior, 1) := by decide +kernel
theorem dd_D_toldTurn_67 : decode bc_D_toldTurn 67 = .ok (.istore_n 3, 1) := by decide +kernel
theorem dd_D_toldTurn_68 : decode bc_D_toldTurn 68 = .ok (.iload_n 2, 1) := by decide +kernel
theorem dd_D_toldTurn_69 : decode bc_D_toldTurn 69 = .ok (.iload 4, 2) := by decide +kernel
theorem dd_D_toldTurn_71 : decode bc_D_toldTurn 71 = .ok (.iload 5, 2) := by decide +kernel
theorem dd_D_toldTurn_73 : decode bc_D_toldTurn 73 = .ok (.invokestatic 20, 3) := by decide +kernel
theorem dd_D_toldTurn_76 : decode bc_D_toldTurn 76 = .ok (.istore_n 2, 1) := by decide +kernel
theorem dd_D_toldTurn_77 : decode bc_D_toldTurn 77 = .ok (.iinc 4 1, 3) := by decide +kernel
theorem dd_D_toldTurn_80 : decode bc_D_toldTurn 80 = .ok (.goto (-61), 3) := by decide +kernel
theorem dd_D_toldTurn_83 : decode bc_D_toldTurn 83 = .ok (.iload_n 2, 1) := by decide +kernel
theorem dd_D_toldTurn_84 : decode bc_D_toldTurn 84 = .ok (.ireturn, 1) := by decide +kernel
theorem dd_P_init_0 : decode bc_P_init 0 = .ok (.aload_n 0, 1) := by decide +kernel
theorem dd_P_init_1 : decode bc_P_init 1 = .ok (.invokespecial 3, 3) := by decide +kernel
theorem dd_P_init_4 : decode bc_P_init 4 = .ok (.aload_n 0, 1) := by decide +kernel
theorem dd_P_init_5 : decode bc_P_init 5 = .ok (.sipush 16384, 3) := by decide +kernel
theorem dd_P_init_8 : decode bc_P_init 8 = .ok (.newarray .int, 2) := by decide +kernel
theorem dd_P_init_10 : decode bc_P_init 10 = .ok (.putfield 9, 3) := by decide +kernel
theorem dd_P_init_13 : decode bc_P_init 13 = .ok (.aload_n 0, 1) := by decide +kernel
theorem dd_P_init_14 : decode bc_P_init 14 = .ok (.sipush 16384, 3) := by decide +kernel
theorem dd_P_init_17 : decode bc_P_init 17 = .ok (.newarray .int, 2) := by decide +kernel
theorem dd_P_init_19 : decode bc_P_init 19 = .ok (.putfield 15, 3) := by decide +kernel
theorem dd_P_init_22 : decode bc_P_init 22 = .ok (.aload_n 0, 1) := by decide +kernel
theorem dd_P_init_23 : decode bc_P_init 23 = .ok (.sipush 16385, 3) := by decide +kernel
theorem dd_P_init_26 : decode bc_P_init 26 = .ok (.newarray .int, 2) := by decide +kernel
theorem dd_P_init_28 : decode bc_P_init 28 = .ok (.putfield 18, 3) := by decide +kernel
theorem dd_P_init_31 : decode bc_P_init 31 = .ok (.aload_n 0, 1) := by decide +kernel
theorem dd_P_init_32 : decode bc_P_init 32 = .ok (.bipush 7, 2) := by decide +kernel
theorem dd_P_init_34 : decode bc_P_init 34 = .ok (.newarray .int, 2) := by decide +kernel
theorem dd_P_init_36 : decode bc_P_init 36 = .ok (.putfield 21, 3) := by decide +kernel
theorem dd_P_init_39 : decode bc_P_init 39 = .ok (.aload_n 0, 1) := by decide +kernel
theorem dd_P_init_40 : decode bc_P_init 40 = .ok (.iconst 1, 1) := by decide +kernel
theorem dd_P_init_41 : decode bc_P_init 41 = .ok (.putfield 24, 3) := by decide +kernel
theorem dd_P_init_44 : decode bc_P_init 44 = .ok (.aload_n 0, 1) := by decide +kernel
theorem dd_P_init_45 : decode bc_P_init 45 = .ok (.iconst 1, 1) := by decide +kernel
theorem dd_P_init_46 : decode bc_P_init 46 = .ok (.putfield 28, 3) := by decide +kernel
theorem dd_P_init_49 : decode bc_P_init 49 = .ok (.aload_n 0, 1) := by decide +kernel
theorem dd_P_init_50 : decode bc_P_init 50 = .ok (.iconst 0, 1) := by decide +kernel
theorem dd_P_init_51 : decode bc_P_init 51 = .ok (.putfield 31, 3) := by decide +kernel
theorem dd_P_init_54 : decode bc_P_init 54 = .ok (.aload_n 0, 1) := by decide +kernel
theorem dd_P_init_55 : decode bc_P_init 55 = .ok (.iconst 0, 1) := by decide +kernel
theorem dd_P_init_56 : decode bc_P_init 56 = .ok (.putfield 34, 3) := by decide +kernel
theorem dd_P_init_59 : decode bc_P_init 59 = .ok (.aload_n 0, 1) := by decide +kernel
theorem dd_P_init_60 : decode bc_P_init 60 = .ok (.iconst 0, 1) := by decide +kernel
theorem dd_P_init_61 : decode bc_P_init 61 = .ok (.putfield 37, 3) := by decide +kernel
theorem dd_P_init_64 : decode bc_P_init 64 = .ok (.return_, 1) := by decide +kernel
theorem dd_P_bringUp_0 : decode bc_P_bringUp 0 = .ok (.aload_n 0, 1) := by decide +kernel
theorem dd_P_bringUp_1 : decode bc_P_bringUp 1 = .ok (.getfield 37, 3) := by decide +kernel
theorem dd_P_bringUp_4 : decode bc_P_bringUp 4 = .ok (.ifCond .eq 4, 3) := by decide +kernel
theorem dd_P_bringUp_7 : decode bc_P_bringUp 7 = .ok (.return_, 1) := by decide +kernel
theorem dd_P_bringUp_8 : decode bc_P_bringUp 8 = .ok (.aload_n 0, 1) := by decide +kernel
theorem dd_P_bringUp_9 : decode bc_P_bringUp 9 = .ok (.aload_n 1, 1) := by decide +kernel
theorem dd_P_bringUp_10 : decode bc_P_bringUp 10 = .ok (.invokevirtual 41, 3) := by decide +kernel
theorem dd_P_bringUp_13 : decode bc_P_bringUp 13 = .ok (.aload_n 1, 1) := by decide +kernel
theorem dd_P_bringUp_14 : decode bc_P_bringUp 14 = .ok (.invokevirtual 45, 3) := by decide +kernel
theorem dd_P_bringUp_17 : decode bc_P_bringUp 17 = .ok (.istore_n 2, 1) := by decide +kernel
theorem dd_P_bringUp_18 : decode bc_P_bringUp 18 = .ok (.iconst 0, 1) := by decide +kernel
theorem dd_P_bringUp_19 : decode bc_P_bringUp 19 = .ok (.istore_n 3, 1) := by decide +kernel
theorem dd_P_bringUp_20 : decode bc_P_bringUp 20 = .ok (.iload_n 3, 1) := by decide +kernel
theorem dd_P_bringUp_21 : decode bc_P_bringUp 21 = .ok (.iload_n 2, 1) := by decide +kernel
theorem dd_P_bringUp_22 : decode bc_P_bringUp 22 = .ok (.if_icmp .ge 17, 3) := by decide +kernel
theorem dd_P_bringUp_25 : decode bc_P_bringUp 25 = .ok (.aload_n 0, 1) := by decide +kernel
theorem dd_P_bringUp_26 : decode bc_P_bringUp 26 = .ok (.getfield 9, 3) := by decide +kernel
theorem dd_P_bringUp_29 : decode bc_P_bringUp 29 = .ok (.iload_n 3, 1) := by decide +kernel
theorem dd_P_bringUp_30 : decode bc_P_bringUp 30 = .ok (.bipush (-6), 2) := by decide +kernel
theorem dd_P_bringUp_32 : decode bc_P_bringUp 32 = .ok (.iastore, 1) := by decide +kernel
theorem dd_P_bringUp_33 : decode bc_P_bringUp 33 = .ok (.iinc 3 1, 3) := by decide +kernel
theorem dd_P_bringUp_36 : decode bc_P_bringUp 36 = .ok (.goto (-16), 3) := by decide +kernel
theorem dd_P_bringUp_39 : decode bc_P_bringUp 39 = .ok (.aload_n 0, 1) := by decide +kernel
theorem dd_P_bringUp_40 : decode bc_P_bringUp 40 = .ok (.iconst 0, 1) := by decide +kernel
theorem dd_P_bringUp_41 : decode bc_P_bringUp 41 = .ok (.putfield 31, 3) := by decide +kernel
theorem dd_P_bringUp_44 : decode bc_P_bringUp 44 = .ok (.aload_n 0, 1) := by decide +kernel
theorem dd_P_bringUp_45 : decode bc_P_bringUp 45 = .ok (.iconst 0, 1) := by decide +kernel
theorem dd_P_bringUp_46 : decode bc_P_bringUp 46 = .ok (.putfield 34, 3) := by decide +kernel
theorem dd_P_bringUp_49 : decode bc_P_bringUp 49 = .ok (.iconst 0, 1) := by decide +kernel
theorem dd_P_bringUp_50 : decode bc_P_bringUp 50 = .ok (.istore_n 3, 1) := by decide +kernel
theorem dd_P_bringUp_51 : decode bc_P_bringUp 51 = .ok (.iload_n 3, 1) := by decide +kernel
theorem dd_P_bringUp_52 : decode bc_P_bringUp 52 = .ok (.iload_n 2, 1) := by decide +kernel
theorem dd_P_bringUp_53 : decode bc_P_bringUp 53 = .ok (.if_icmp .ge 29, 3) := by decide +kernel
theorem dd_P_bringUp_56 : decode bc_P_bringUp 56 = .ok (.aload_n 0, 1) := by decide +kernel
theorem dd_P_bringUp_57 : decode bc_P_bringUp 57 = .ok (.getfield 9, 3) := by decide +kernel
theorem dd_P_bringUp_60 : decode bc_P_bringUp 60 = .ok (.iload_n 3, 1) := by decide +kernel
theorem dd_P_bringUp_61 : decode bc_P_bringUp 61 = .ok (.iaload, 1) := by decide +kernel
theorem dd_P_bringUp_62 : decode bc_P_bringUp 62 = .ok (.bipush (-6), 2) := by decide +kernel
theorem dd_P_bringUp_64 : decode bc_P_bringUp 64 = .ok (.if_icmp .ne 12, 3) := by decide +kernel
theorem dd_P_bringUp_67 : decode bc_P_bringUp 67 = .ok (.aload_n 0, 1) := by decide +kernel
theorem dd_P_bringUp_68 : decode bc_P_bringUp 68 = .ok (.iload_n 3, 1) := by decide +kernel
theorem dd_P_bringUp_69 : decode bc_P_bringUp 69 = .ok (.aload_n 1, 1) := by decide +kernel
theorem dd_P_bringUp_70 : decode bc_P_bringUp 70 = .ok (.getfield 50, 3) := by decide +kernel
theorem dd_P_bringUp_73 : decode bc_P_bringUp 73 = .ok (.invokevirtual 54, 3) := by decide +kernel
theorem dd_P_bringUp_76 : decode bc_P_bringUp 76 = .ok (.iinc 3 1, 3) := by decide +kernel
theorem dd_P_bringUp_79 : decode bc_P_bringUp 79 = .ok (.goto (-28), 3) := by decide +kernel
theorem dd_P_bringUp_82 : decode bc_P_bringUp 82 = .ok (.aload_n 0, 1) := by decide +kernel
theorem dd_P_bringUp_83 : decode bc_P_bringUp 83 = .ok (.getfield 18, 3) := by decide +kernel
theorem dd_P_bringUp_86 : decode bc_P_bringUp 86 = .ok (.aload_n 0, 1) := by decide +kernel
theorem dd_P_bringUp_87 : decode bc_P_bringUp 87 = .ok (.getfield 34, 3) := by decide +kernel
theorem dd_P_bringUp_90 : decode bc_P_bringUp 90 = .ok (.aload_n 0, 1) := by decide +kernel
theorem dd_P_bringUp_91 : decode bc_P_bringUp 91 = .ok (.getfield 31, 3) := by decide +kernel
theorem dd_P_bringUp_94 : decode bc_P_bringUp 94 = .ok (.iastore, 1) := by decide +kernel
theorem dd_P_bringUp_95 : decode bc_P_bringUp 95 = .ok (.aload_n 0, 1) := by decide +kernel
theorem dd_P_bringUp_96 : decode bc_P_bringUp 96 = .ok (.iconst 1, 1) := by decide +kernel
theorem dd_P_bringUp_97 : decode bc_P_bringUp 97 = .ok (.putfield 37, 3) := by decide +kernel
theorem dd_P_bringUp_100 : decode bc_P_bringUp 100 = .ok (.return_, 1) := by decide +kernel
theorem dd_P_setPlaces_0 : decode bc_P_setPlaces 0 = .ok (.aload_n 0, 1) := by decide +kernel
theorem dd_P_setPlaces_1 : decode bc_P_setPlaces 1 = .ok (.aload_n 1, 1) := by decide +kernel
theorem dd_P_setPlaces_2 : decode bc_P_setPlaces 2 = .ok (.getfield 58, 3) := by decide +kernel
theorem dd_P_setPlaces_5 : decode bc_P_setPlaces 5 = .ok (.putfield 24, 3) := by decide +kernel
theorem dd_P_setPlaces_8 : decode bc_P_setPlaces 8 = .ok (.aload_n 0, 1) := by decide +kernel
theorem dd_P_setPlaces_9 : decode bc_P_setPlaces 9 = .ok (.aload_n 1, 1) := by decide +kernel
theorem dd_P_setPlaces_10 : decode bc_P_setPlaces 10 = .ok (.getfield 59, 3) := by decide +kernel
theorem dd_P_setPlaces_13 : decode bc_P_setPlaces 13 = .ok (.putfield 28, 3) := by decide +kernel
theorem dd_P_setPlaces_16 : decode bc_P_setPlaces 16 = .ok (.iconst 1, 1) := by decide +kernel
theorem dd_P_setPlaces_17 : decode bc_P_setPlaces 17 = .ok (.istore_n 2, 1) := by decide +kernel
theorem dd_P_setPlaces_18 : decode bc_P_setPlaces 18 = .ok (.aload_n 0, 1) := by decide +kernel
theorem dd_P_setPlaces_19 : decode bc_P_setPlaces 19 = .ok (.getfield 24, 3) := by decide +kernel
theorem dd_P_setPlaces_22 : decode bc_P_setPlaces 22 = .ok (.iconst 1, 1) := by decide +kernel
theorem dd_P_setPlaces_23 : decode bc_P_setPlaces 23 = .ok (.isub, 1) := by decide +kernel
theorem dd_P_setPlaces_24 : decode bc_P_setPlaces 24 = .ok (.istore_n 3, 1) := by decide +kernel
theorem dd_P_setPlaces_25 : decode bc_P_setPlaces 25 = .ok (.iload_n 3, 1) := by decide +kernel
theorem dd_P_setPlaces_26 : decode bc_P_setPlaces 26 = .ok (.ifCond .lt 23, 3) := by decide +kernel
theorem dd_P_setPlaces_29 : decode bc_P_setPlaces 29 = .ok (.aload_n 0, 1) := by decide +kernel
theorem dd_P_setPlaces_30 : decode bc_P_setPlaces 30 = .ok (.getfield 21, 3) := by decide +kernel
theorem dd_P_setPlaces_33 : decode bc_P_setPlaces 33 = .ok (.iload_n 3, 1) := by decide +kernel
theorem dd_P_setPlaces_34 : decode bc_P_setPlaces 34 = .ok (.iload_n 2, 1) := by decide +kernel
theorem dd_P_setPlaces_35 : decode bc_P_setPlaces 35 = .ok (.iastore, 1) := by decide +kernel
theorem dd_P_setPlaces_36 : decode bc_P_setPlaces 36 = .ok (.iload_n 2, 1) := by decide +kernel
theorem dd_P_setPlaces_37 : decode bc_P_setPlaces 37 = .ok (.aload_n 0, 1) := by decide +kernel
theorem dd_P_setPlaces_38 : decode bc_P_setPlaces 38 = .ok (.getfield 28, 3) := by decide +kernel
theorem dd_P_setPlaces_41 : decode bc_P_setPlaces 41 = .ok (.imul, 1) := by decide +kernel
theorem dd_P_setPlaces_42 : decode bc_P_setPlaces 42 = .ok (.istore_n 2, 1) := by decide +kernel
theorem dd_P_setPlaces_43 : decode bc_P_setPlaces 43 = .ok (.iinc 3 (-1), 3) := by decide +kernel
theorem dd_P_setPlaces_46 : decode bc_P_setPlaces 46 = .ok (.goto (-21), 3) := by decide +kernel
theorem dd_P_setPlaces_49 : decode bc_P_setPlaces 49 = .ok (.return_, 1) := by decide +kernel
theorem dd_P_gather_0 : decode bc_P_gather 0 = .ok (.aload_n 0, 1) := by decide +kernel
theorem dd_P_gather_1 : decode bc_P_gather 1 = .ok (.getfield 18, 3) := by decide +kernel
theorem dd_P_gather_4 : decode bc_P_gather 4 = .ok (.aload_n 0, 1) := by decide +kernel
theorem dd_P_gather_5 : decode bc_P_gather 5 = .ok (.getfield 34, 3) := by decide +kernel
theorem dd_P_gather_8 : decode bc_P_gather 8 = .ok (.aload_n 0, 1) := by decide +kernel
theorem dd_P_gather_9 : decode bc_P_gather 9 = .ok (.getfield 31, 3) := by decide +kernel
theorem dd_P_gather_12 : decode bc_P_gather 12 = .ok (.iastore, 1) := by decide +kernel
theorem dd_P_gather_13 : decode bc_P_gather 13 = .ok (.aload_n 0, 1) := by decide +kernel
theorem dd_P_gather_14 : decode bc_P_gather 14 = .ok (.iload_n 1, 1) := by decide +kernel
theorem dd_P_gather_15 : decode bc_P_gather 15 = .ok (.invokevirtual 60, 3) := by decide +kernel
theorem dd_P_gather_18 : decode bc_P_gather 18 = .ok (.aload_n 0, 1) := by decide +kernel
theorem dd_P_gather_19 : decode bc_P_gather 19 = .ok (.getfield 18, 3) := by decide +kernel
theorem dd_P_gather_22 : decode bc_P_gather 22 = .ok (.aload_n 0, 1) := by decide +kernel
theorem dd_P_gather_23 : decode bc_P_gather 23 = .ok (.getfield 34, 3) := by decide +kernel
theorem dd_P_gather_26 : decode bc_P_gather 26 = .ok (.iaload, 1) := by decide +kernel
theorem dd_P_gather_27 : decode bc_P_gather 27 = .ok (.istore_n 3, 1) := by decide +kernel
theorem dd_P_gather_28 : decode bc_P_gather 28 = .ok (.iload_n 3, 1) := by decide +kernel
theorem dd_P_gather_29 : decode bc_P_gather 29 = .ok (.aload_n 0, 1) := by decide +kernel
theorem dd_P_gather_30 : decode bc_P_gather 30 = .ok (.getfield 31, 3) := by decide +kernel
theorem dd_P_gather_33 : decode bc_P_gather 33 = .ok (.if_icmp .ge 71, 3) := by decide +kernel
theorem dd_P_gather_36 : decode bc_P_gather 36 = .ok (.iload_n 3, 1) := by decide +kernel
theorem dd_P_gather_37 : decode bc_P_gather 37 = .ok (.sipush 16384, 3) := by decide +kernel
theorem dd_P_gather_40 : decode bc_P_gather 40 = .ok (.if_icmp .ge 64, 3) := by decide +kernel
theorem dd_P_gather_43 : decode bc_P_gather 43 = .ok (.iconst 0, 1) := by decide +kernel
theorem dd_P_gather_44 : decode bc_P_gather 44 = .ok (.istore 4, 2) := by decide +kernel
theorem dd_P_gather_46 : decode bc_P_gather 46 = .ok (.iload 4, 2) := by decide +kernel
theorem dd_P_gather_48 : decode bc_P_gather 48 = .ok (.aload_n 2, 1) := by decide +kernel
theorem dd_P_gather_49 : decode bc_P_gather 49 = .ok (.getfield 64, 3) := by decide +kernel
theorem dd_P_gather_52 : decode bc_P_gather 52 = .ok (.if_icmp .ge 46, 3) := by decide +kernel
theorem dd_P_gather_55 : decode bc_P_gather 55 = .ok (.aload_n 0, 1) := by decide +kernel
theorem dd_P_gather_56 : decode bc_P_gather 56 = .ok (.aload_n 0, 1) := by decide +kernel
theorem dd_P_gather_57 : decode bc_P_gather 57 = .ok (.getfield 15, 3) := by decide +kernel
theorem dd_P_gather_60 : decode bc_P_gather 60 = .ok (.iload_n 3, 1) := by decide +kernel
theorem dd_P_gather_61 : decode bc_P_gather 61 = .ok (.iaload, 1) := by decide +kernel
theorem dd_P_gather_62 : decode bc_P_gather 62 = .ok (.aload_n 2, 1) := by decide +kernel
theorem dd_P_gather_63 : decode bc_P_gather 63 = .ok (.getfield 69, 3) := by decide +kernel
theorem dd_P_gather_66 : decode bc_P_gather 66 = .ok (.iload 4, 2) := by decide +kernel
theorem dd_P_gather_68 : decode bc_P_gather 68 = .ok (.iaload, 1) := by decide +kernel
theorem dd_P_gather_69 : decode bc_P_gather 69 = .ok (.invokevirtual 72, 3) := by decide +kernel
theorem dd_P_gather_72 : decode bc_P_gather 72 = .ok (.istore 5, 2) := by decide +kernel
theorem dd_P_gather_74 : decode bc_P_gather 74 = .ok (.aload_n 0, 1) := by decide +kernel
theorem dd_P_gather_75 : decode bc_P_gather 75 = .ok (.getfield 9, 3) := by decide +kernel
theorem dd_P_gather_78 : decode bc_P_gather 78 = .ok (.iload 5, 2) := by decide +kernel
theorem dd_P_gather_80 : decode bc_P_gather 80 = .ok (.iaload, 1) := by decide +kernel
theorem dd_P_gather_81 : decode bc_P_gather 81 = .ok (.bipush (-6), 2) := by decide +kernel
theorem dd_P_gather_83 : decode bc_P_gather 83 = .ok (.if_icmp .ne 9, 3) := by decide +kernel
theorem dd_P_gather_86 : decode bc_P_gather 86 = .ok (.aload_n 0, 1) := by decide +kernel
theorem dd_P_gather_87 : decode bc_P_gather 87 = .ok (.iload 5, 2) := by decide +kernel
theorem dd_P_gather_89 : decode bc_P_gather 89 = .ok (.invokevirtual 60, 3) := by decide +kernel
theorem dd_P_gather_92 : decode bc_P_gather 92 = .ok (.iinc 4 1, 3) := by decide +kernel
theorem dd_P_gather_95 : decode bc_P_gather 95 = .ok (.goto (-49), 3) := by decide +kernel
theorem dd_P_gather_98 : decode bc_P_gather 98 = .ok (.iinc 3 1, 3) := by decide +kernel
theorem dd_P_gather_101 : decode bc_P_gather 101 = .ok (.goto (-73), 3) := by decide +kernel
theorem dd_P_gather_104 : decode bc_P_gather 104 = .ok (.aload_n 0, 1) := by decide +kernel
theorem dd_P_gather_105 : decode bc_P_gather 105 = .ok (.dup, 1) := by decide +kernel
theorem dd_P_gather_106 : decode bc_P_gather 106 = .ok (.getfield 34, 3) := by decide +kernel
theorem dd_P_gather_109 : decode bc_P_gather 109 = .ok (.iconst 1, 1) := by decide +kernel
theorem dd_P_gather_110 : decode bc_P_gather 110 = .ok (.iadd, 1) := by decide +kernel
theorem dd_P_gather_111 : decode bc_P_gather 111 = .ok (.putfield 34, 3) := by decide +kernel
theorem dd_P_gather_114 : decode bc_P_gather 114 = .ok (.return_, 1) := by decide +kernel
theorem dd_P_put_0 : decode bc_P_put 0 = .ok (.aload_n 0, 1) := by decide +kernel
theorem dd_P_put_1 : decode bc_P_put 1 = .ok (.getfield 9, 3) := by decide +kernel
theorem dd_P_put_4 : decode bc_P_put 4 = .ok (.iload_n 1, 1) := by decide +kernel
theorem dd_P_put_5 : decode bc_P_put 5 = .ok (.aload_n 0, 1) := by decide +kernel
theorem dd_P_put_6 : decode bc_P_put 6 = .ok (.getfield 34, 3) := by decide +kernel
theorem dd_P_put_9 : decode bc_P_put 9 = .ok (.iastore, 1) := by decide +kernel
theorem dd_P_put_10 : decode bc_P_put 10 = .ok (.aload_n 0, 1) := by decide +kernel
theorem dd_P_put_11 : decode bc_P_put 11 = .ok (.getfield 15, 3) := by decide +kernel
theorem dd_P_put_14 : decode bc_P_put 14 = .ok (.aload_n 0, 1) := by decide +kernel
theorem dd_P_put_15 : decode bc_P_put 15 = .ok (.getfield 31, 3) := by decide +kernel
theorem dd_P_put_18 : decode bc_P_put 18 = .ok (.iload_n 1, 1) := by decide +kernel
theorem dd_P_put_19 : decode bc_P_put 19 = .ok (.iastore, 1) := by decide +kernel
theorem dd_P_put_20 : decode bc_P_put 20 = .ok (.aload_n 0, 1) := by decide +kernel
theorem dd_P_put_21 : decode bc_P_put 21 = .ok (.dup, 1) := by decide +kernel
theorem dd_P_put_22 : decode bc_P_put 22 = .ok (.getfield 31, 3) := by decide +kernel
theorem dd_P_put_25 : decode bc_P_put 25 = .ok (.iconst 1, 1) := by decide +kernel
theorem dd_P_put_26 : decode bc_P_put 26 = .ok (.iadd, 1) := by decide +kernel
theorem dd_P_put_27 : decode bc_P_put 27 = .ok (.putfield 31, 3) := by decide +kernel
theorem dd_P_put_30 : decode bc_P_put 30 = .ok (.return_, 1) := by decide +kernel
theorem dd_P_turned_0 : decode bc_P_turned 0 = .ok (.iload_n 1, 1) := by decide +kernel
theorem dd_P_turned_1 : decode bc_P_turned 1 = .ok (.istore_n 3, 1) := by decide +kernel
theorem dd_P_turned_2 : decode bc_P_turned 2 = .ok (.iconst 0, 1) := by decide +kernel
theorem dd_P_turned_3 : decode bc_P_turned 3 = .ok (.istore 4, 2) := by decide +kernel
theorem dd_P_turned_5 : decode bc_P_turned 5 = .ok (.aload_n 0, 1) := by decide +kernel
theorem dd_P_turned_6 : decode bc_P_turned 6 = .ok (.getfield 24, 3) := by decide +kernel
theorem dd_P_turned_9 : decode bc_P_turned 9 = .ok (.iconst 1, 1) := by decide +kernel
theorem dd_P_turned_10 : decode bc_P_turned 10 = .ok (.isub, 1) := by decide +kernel
theorem dd_P_turned_11 : decode bc_P_turned 11 = .ok (.istore 5, 2) := by decide +kernel
theorem dd_P_turned_13 : decode bc_P_turned 13 = .ok (.iload 5, 2) := by decide +kernel
theorem dd_P_turned_15 : decode bc_P_turned 15 = .ok (.ifCond .lt 39, 3) := by decide +kernel
theorem dd_P_turned_18 : decode bc_P_turned 18 = .ok (.iload 4, 2) := by decide +kernel
theorem dd_P_turned_20 : decode bc_P_turned 20 = .ok (.iload_n 3, 1) := by decide +kernel
theorem dd_P_turned_21 : decode bc_P_turned 21 = .ok (.aload_n 0, 1) := by decide +kernel
theorem dd_P_turned_22 : decode bc_P_turned 22 = .ok (.getfield 28, 3) := by decide +kernel
theorem dd_P_turned_25 : decode bc_P_turned 25 = .ok (.irem, 1) := by decide +kernel
theorem dd_P_turned_26 : decode bc_P_turned 26 = .ok (.aload_n 0, 1) := by decide +kernel
theorem dd_P_turned_27 : decode bc_P_turned 27 = .ok (.getfield 21, 3) := by decide +kernel
theorem dd_P_turned_30 : decode bc_P_turned 30 = .ok (.iload_n 2, 1) := by decide +kernel
theorem dd_P_turned_31 : decode bc_P_turned 31 = .ok (.iload 5, 2) := by decide +kernel
theorem dd_P_turned_33 : decode bc_P_turned 33 = .ok (.invokestatic 76, 3) := by decide +kernel
theorem dd_P_turned_36 : decode bc_P_turned 36 = .ok (.iaload, 1) := by decide +kernel
theorem dd_P_turned_37 : decode bc_P_turned 37 = .ok (.imul, 1) := by decide +kernel
theorem dd_P_turned_38 : decode bc_P_turned 38 = .ok (.iadd, 1) := by decide +kernel
theorem dd_P_turned_39 : decode bc_P_turned 39 = .ok (.istore 4, 2) := by decide +kernel
theorem dd_P_turned_41 : decode bc_P_turned 41 = .ok (.iload_n 3, 1) := by decide +kernel
theorem dd_P_turned_42 : decode bc_P_turned 42 = .ok (.aload_n 0, 1) := by decide +kernel
theorem dd_P_turned_43 : decode bc_P_turned 43 = .ok (.getfield 28, 3) := by decide +kernel
theorem dd_P_turned_46 : decode bc_P_turned 46 = .ok (.idiv, 1) := by decide +kernel
theorem dd_P_turned_47 : decode bc_P_turned 47 = .ok (.istore_n 3, 1) := by decide +kernel
theorem dd_P_turned_48 : decode bc_P_turned 48 = .ok (.iinc 5 (-1), 3) := by decide +kernel
theorem dd_P_turned_51 : decode bc_P_turned 51 = .ok (.goto (-38), 3) := by decide +kernel
theorem dd_P_turned_54 : decode bc_P_turned 54 = .ok (.iload 4, 2) := by decide +kernel
theorem dd_P_turned_56 : decode bc_P_turned 56 = .ok (.ireturn, 1) := by decide +kernel
theorem dd_P_leastOf_0 : decode bc_P_leastOf 0 = .ok (.aload_n 0, 1) := by decide +kernel
theorem dd_P_leastOf_1 : decode bc_P_leastOf 1 = .ok (.getfield 15, 3) := by decide +kernel
theorem dd_P_leastOf_4 : decode bc_P_leastOf 4 = .ok (.aload_n 0, 1) := by decide +kernel
theorem dd_P_leastOf_5 : decode bc_P_leastOf 5 = .ok (.getfield 18, 3) := by decide +kernel
theorem dd_P_leastOf_8 : decode bc_P_leastOf 8 = .ok (.iload_n 1, 1) := by decide +kernel
theorem dd_P_leastOf_9 : decode bc_P_leastOf 9 = .ok (.iaload, 1) := by decide +kernel
theorem dd_P_leastOf_10 : decode bc_P_leastOf 10 = .ok (.iaload, 1) := by decide +kernel
theorem dd_P_leastOf_11 : decode bc_P_leastOf 11 = .ok (.ireturn, 1) := by decide +kernel
theorem dd_P_sizeOf_0 : decode bc_P_sizeOf 0 = .ok (.aload_n 0, 1) := by decide +kernel
theorem dd_P_sizeOf_1 : decode bc_P_sizeOf 1 = .ok (.getfield 18, 3) := by decide +kernel
theorem dd_P_sizeOf_4 : decode bc_P_sizeOf 4 = .ok (.iload_n 1, 1) := by decide +kernel
theorem dd_P_sizeOf_5 : decode bc_P_sizeOf 5 = .ok (.iconst 1, 1) := by decide +kernel
theorem dd_P_sizeOf_6 : decode bc_P_sizeOf 6 = .ok (.iadd, 1) := by decide +kernel
theorem dd_P_sizeOf_7 : decode bc_P_sizeOf 7 = .ok (.iaload, 1) := by decide +kernel
theorem dd_P_sizeOf_8 : decode bc_P_sizeOf 8 = .ok (.aload_n 0, 1) := by decide +kernel
theorem dd_P_sizeOf_9 : decode bc_P_sizeOf 9 = .ok (.getfield 18, 3) := by decide +kernel
theorem dd_P_sizeOf_12 : decode bc_P_sizeOf 12 = .ok (.iload_n 1, 1) := by decide +kernel
theorem dd_P_sizeOf_13 : decode bc_P_sizeOf 13 = .ok (.iaload, 1) := by decide +kernel
theorem dd_P_sizeOf_14 : decode bc_P_sizeOf 14 = .ok (.isub, 1) := by decide +kernel
theorem dd_P_sizeOf_15 : decode bc_P_sizeOf 15 = .ok (.ireturn, 1) := by decide +kernel
theorem dd_P_twinOf_0 : decode bc_P_twinOf 0 = .ok (.aload_n 0, 1) := by decide +kernel
theorem dd_P_twinOf_1 : decode bc_P_twinOf 1 = .ok (.getfield 9, 3) := by decide +kernel
theorem dd_P_twinOf_4 : decode bc_P_twinOf 4 = .ok (.aload_n 2, 1) := by decide +kernel
theorem dd_P_twinOf_5 : decode bc_P_twinOf 5 = .ok (.aload_n 0, 1) := by decide +kernel
theorem dd_P_twinOf_6 : decode bc_P_twinOf 6 = .ok (.iload_n 1, 1) := by decide +kernel
theorem dd_P_twinOf_7 : decode bc_P_twinOf 7 = .ok (.invokevirtual 81, 3) := by decide +kernel
theorem dd_P_twinOf_10 : decode bc_P_twinOf 10 = .ok (.invokevirtual 85, 3) := by decide +kernel
theorem dd_P_twinOf_13 : decode bc_P_twinOf 13 = .ok (.iaload, 1) := by decide +kernel
theorem dd_P_twinOf_14 : decode bc_P_twinOf 14 = .ok (.ireturn, 1) := by decide +kernel
theorem dd_P_keepersOf_0 : decode bc_P_keepersOf 0 = .ok (.aload_n 0, 1) := by decide +kernel
theorem dd_P_keepersOf_1 : decode bc_P_keepersOf 1 = .ok (.aload_n 0, 1) := by decide +kernel
theorem dd_P_keepersOf_2 : decode bc_P_keepersOf 2 = .ok (.getfield 9, 3) := by decide +kernel
theorem dd_P_keepersOf_5 : decode bc_P_keepersOf 5 = .ok (.iload_n 1, 1) := by decide +kernel
theorem dd_P_keepersOf_6 : decode bc_P_keepersOf 6 = .ok (.iaload, 1) := by decide +kernel
theorem dd_P_keepersOf_7 : decode bc_P_keepersOf 7 = .ok (.invokevirtual 88, 3) := by decide +kernel
theorem dd_P_keepersOf_10 : decode bc_P_keepersOf 10 = .ok (.istore_n 3, 1) := by decide +kernel
theorem dd_P_keepersOf_11 : decode bc_P_keepersOf 11 = .ok (.iload_n 3, 1) := by decide +kernel
theorem dd_P_keepersOf_12 : decode bc_P_keepersOf 12 = .ok (.iconst 1, 1) := by decide +kernel
theorem dd_P_keepersOf_13 : decode bc_P_keepersOf 13 = .ok (.if_icmp .ge 7, 3) := by decide +kernel
theorem dd_P_keepersOf_16 : decode bc_P_keepersOf 16 = .ok (.iconst 0, 1) := by decide +kernel
theorem dd_P_keepersOf_17 : decode bc_P_keepersOf 17 = .ok (.goto 9, 3) := by decide +kernel
theorem dd_P_keepersOf_20 : decode bc_P_keepersOf 20 = .ok (.aload_n 2, 1) := by decide +kernel
theorem dd_P_keepersOf_21 : decode bc_P_keepersOf 21 = .ok (.getfield 91, 3) := by decide +kernel
theorem dd_P_keepersOf_24 : decode bc_P_keepersOf 24 = .ok (.iload_n 3, 1) := by decide +kernel
theorem dd_P_keepersOf_25 : decode bc_P_keepersOf 25 = .ok (.idiv, 1) := by decide +kernel
theorem dd_P_keepersOf_26 : decode bc_P_keepersOf 26 = .ok (.ireturn, 1) := by decide +kernel
theorem dd_P_firstToLeast_0 : decode bc_P_firstToLeast 0 = .ok (.aload_n 0, 1) := by decide +kernel
theorem dd_P_firstToLeast_1 : decode bc_P_firstToLeast 1 = .ok (.aload_n 0, 1) := by decide +kernel
theorem dd_P_firstToLeast_2 : decode bc_P_firstToLeast 2 = .ok (.getfield 9, 3) := by decide +kernel
theorem dd_P_firstToLeast_5 : decode bc_P_firstToLeast 5 = .ok (.iload_n 1, 1) := by decide +kernel
theorem dd_P_firstToLeast_6 : decode bc_P_firstToLeast 6 = .ok (.iaload, 1) := by decide +kernel
theorem dd_P_firstToLeast_7 : decode bc_P_firstToLeast 7 = .ok (.invokevirtual 81, 3) := by decide +kernel
theorem dd_P_firstToLeast_10 : decode bc_P_firstToLeast 10 = .ok (.istore_n 3, 1) := by decide +kernel
theorem dd_P_firstToLeast_11 : decode bc_P_firstToLeast 11 = .ok (.bipush (-6), 2) := by decide +kernel
theorem dd_P_firstToLeast_13 : decode bc_P_firstToLeast 13 = .ok (.istore 4, 2) := by decide +kernel
theorem dd_P_firstToLeast_15 : decode bc_P_firstToLeast 15 = .ok (.iconst 0, 1) := by decide +kernel
theorem dd_P_firstToLeast_16 : decode bc_P_firstToLeast 16 = .ok (.istore 5, 2) := by decide +kernel
theorem dd_P_firstToLeast_18 : decode bc_P_firstToLeast 18 = .ok (.iload 5, 2) := by decide +kernel
theorem dd_P_firstToLeast_20 : decode bc_P_firstToLeast 20 = .ok (.aload_n 2, 1) := by decide +kernel
theorem dd_P_firstToLeast_21 : decode bc_P_firstToLeast 21 = .ok (.getfield 91, 3) := by decide +kernel
theorem dd_P_firstToLeast_24 : decode bc_P_firstToLeast 24 = .ok (.if_icmp .ge 47, 3) := by decide +kernel
theorem dd_P_firstToLeast_27 : decode bc_P_firstToLeast 27 = .ok (.aload_n 2, 1) := by decide +kernel
theorem dd_P_firstToLeast_28 : decode bc_P_firstToLeast 28 = .ok (.getfield 94, 3) := by decide +kernel
theorem dd_P_firstToLeast_31 : decode bc_P_firstToLeast 31 = .ok (.iload 5, 2) := by decide +kernel
theorem dd_P_firstToLeast_33 : decode bc_P_firstToLeast 33 = .ok (.iaload, 1) := by decide +kernel
theorem dd_P_firstToLeast_34 : decode bc_P_firstToLeast 34 = .ok (.istore 6, 2) := by decide +kernel
theorem dd_P_firstToLeast_36 : decode bc_P_firstToLeast 36 = .ok (.iload 4, 2) := by decide +kernel
theorem dd_P_firstToLeast_38 : decode bc_P_firstToLeast 38 = .ok (.bipush (-6), 2) := by decide +kernel
theorem dd_P_firstToLeast_40 : decode bc_P_firstToLeast 40 = .ok (.if_icmp .eq 10, 3) := by decide +kernel
theorem dd_P_firstToLeast_43 : decode bc_P_firstToLeast 43 = .ok (.iload 6, 2) := by decide +kernel
theorem dd_P_firstToLeast_45 : decode bc_P_firstToLeast 45 = .ok (.iload 4, 2) := by decide +kernel
theorem dd_P_firstToLeast_47 : decode bc_P_firstToLeast 47 = .ok (.if_icmp .ge 18, 3) := by decide +kernel
theorem dd_P_firstToLeast_50 : decode bc_P_firstToLeast 50 = .ok (.aload_n 0, 1) := by decide +kernel
theorem dd_P_firstToLeast_51 : decode bc_P_firstToLeast 51 = .ok (.iload_n 1, 1) := by decide +kernel
theorem dd_P_firstToLeast_52 : decode bc_P_firstToLeast 52 = .ok (.iload 6, 2) := by decide +kernel
theorem dd_P_firstToLeast_54 : decode bc_P_firstToLeast 54 = .ok (.invokevirtual 72, 3) := by decide +kernel
theorem dd_P_firstToLeast_57 : decode bc_P_firstToLeast 57 = .ok (.iload_n 3, 1) := by decide +kernel
theorem dd_P_firstToLeast_58 : decode bc_P_firstToLeast 58 = .ok (.if_icmp .ne 7, 3) := by decide +kernel
theorem dd_P_firstToLeast_61 : decode bc_P_firstToLeast 61 = .ok (.iload 6, 2) := by decide +kernel
theorem dd_P_firstToLeast_63 : decode bc_P_firstToLeast 63 = .ok (.istore 4, 2) := by decide +kernel
theorem dd_P_firstToLeast_65 : decode bc_P_firstToLeast 65 = .ok (.iinc 5 1, 3) := by decide +kernel
theorem dd_P_firstToLeast_68 : decode bc_P_firstToLeast 68 = .ok (.goto (-50), 3) := by decide +kernel
theorem dd_P_firstToLeast_71 : decode bc_P_firstToLeast 71 = .ok (.iload 4, 2) := by decide +kernel
theorem dd_P_firstToLeast_73 : decode bc_P_firstToLeast 73 = .ok (.ireturn, 1) := by decide +kernel
theorem dd_P_amountOfWeight_0 : decode bc_P_amountOfWeight 0 = .ok (.iconst 0, 1) := by decide +kernel
theorem dd_P_amountOfWeight_1 : decode bc_P_amountOfWeight 1 = .ok (.istore_n 3, 1) := by decide +kernel
theorem dd_P_amountOfWeight_2 : decode bc_P_amountOfWeight 2 = .ok (.iconst 0, 1) := by decide +kernel
theorem dd_P_amountOfWeight_3 : decode bc_P_amountOfWeight 3 = .ok (.istore 4, 2) := by decide +kernel
theorem dd_P_amountOfWeight_5 : decode bc_P_amountOfWeight 5 = .ok (.iload 4, 2) := by decide +kernel
theorem dd_P_amountOfWeight_7 : decode bc_P_amountOfWeight 7 = .ok (.aload_n 0, 1) := by decide +kernel
theorem dd_P_amountOfWeight_8 : decode bc_P_amountOfWeight 8 = .ok (.getfield 34, 3) := by decide +kernel
theorem dd_P_amountOfWeight_11 : decode bc_P_amountOfWeight 11 = .ok (.if_icmp .ge 26, 3) := by decide +kernel
theorem dd_P_amountOfWeight_14 : decode bc_P_amountOfWeight 14 = .ok (.aload_n 2, 1) := by decide +kernel
theorem dd_P_amountOfWeight_15 : decode bc_P_amountOfWeight 15 = .ok (.aload_n 0, 1) := by decide +kernel
theorem dd_P_amountOfWeight_16 : decode bc_P_amountOfWeight 16 = .ok (.iload 4, 2) := by decide +kernel
theorem dd_P_amountOfWeight_18 : decode bc_P_amountOfWeight 18 = .ok (.invokevirtual 81, 3) := by decide +kernel
theorem dd_P_amountOfWeight_21 : decode bc_P_amountOfWeight 21 = .ok (.invokevirtual 97, 3) := by decide +kernel
theorem dd_P_amountOfWeight_24 : decode bc_P_amountOfWeight 24 = .ok (.iload_n 1, 1) := by decide +kernel
theorem dd_P_amountOfWeight_25 : decode bc_P_amountOfWeight 25 = .ok (.if_icmp .ne 6, 3) := by decide +kernel
theorem dd_P_amountOfWeight_28 : decode bc_P_amountOfWeight 28 = .ok (.iinc 3 1, 3) := by decide +kernel
theorem dd_P_amountOfWeight_31 : decode bc_P_amountOfWeight 31 = .ok (.iinc 4 1, 3) := by decide +kernel
theorem dd_P_amountOfWeight_34 : decode bc_P_amountOfWeight 34 = .ok (.goto (-29), 3) := by decide +kernel
theorem dd_P_amountOfWeight_37 : decode bc_P_amountOfWeight 37 = .ok (.iload_n 3, 1) := by decide +kernel
theorem dd_P_amountOfWeight_38 : decode bc_P_amountOfWeight 38 = .ok (.ireturn, 1) := by decide +kernel
theorem dd_P_amountHanded_0 : decode bc_P_amountHanded 0 = .ok (.iconst 0, 1) := by decide +kernel
theorem dd_P_amountHanded_1 : decode bc_P_amountHanded 1 = .ok (.istore_n 2, 1) := by decide +kernel
theorem dd_P_amountHanded_2 : decode bc_P_amountHanded 2 = .ok (.iconst 0, 1) := by decide +kernel
theorem dd_P_amountHanded_3 : decode bc_P_amountHanded 3 = .ok (.istore_n 3, 1) := by decide +kernel
theorem dd_P_amountHanded_4 : decode bc_P_amountHanded 4 = .ok (.iload_n 3, 1) := by decide +kernel
theorem dd_P_amountHanded_5 : decode bc_P_amountHanded 5 = .ok (.aload_n 0, 1) := by decide +kernel
theorem dd_P_amountHanded_6 : decode bc_P_amountHanded 6 = .ok (.getfield 34, 3) := by decide +kernel
theorem dd_P_amountHanded_9 : decode bc_P_amountHanded 9 = .ok (.if_icmp .ge 22, 3) := by decide +kernel
theorem dd_P_amountHanded_12 : decode bc_P_amountHanded 12 = .ok (.aload_n 0, 1) := by decide +kernel
theorem dd_P_amountHanded_13 : decode bc_P_amountHanded 13 = .ok (.iload_n 3, 1) := by decide +kernel
theorem dd_P_amountHanded_14 : decode bc_P_amountHanded 14 = .ok (.aload_n 1, 1) := by decide +kernel
theorem dd_P_amountHanded_15 : decode bc_P_amountHanded 15 = .ok (.invokevirtual 100, 3) := by decide +kernel
theorem dd_P_amountHanded_18 : decode bc_P_amountHanded 18 = .ok (.iload_n 3, 1) := by decide +kernel
theorem dd_P_amountHanded_19 : decode bc_P_amountHanded 19 = .ok (.if_icmp .eq 6, 3) := by decide +kernel
theorem dd_P_amountHanded_22 : decode bc_P_amountHanded 22 = .ok (.iinc 2 1, 3) := by decide +kernel
theorem dd_P_amountHanded_25 : decode bc_P_amountHanded 25 = .ok (.iinc 3 1, 3) := by decide +kernel
theorem dd_P_amountHanded_28 : decode bc_P_amountHanded 28 = .ok (.goto (-24), 3) := by decide +kernel
theorem dd_P_amountHanded_31 : decode bc_P_amountHanded 31 = .ok (.iload_n 2, 1) := by decide +kernel
theorem dd_P_amountHanded_32 : decode bc_P_amountHanded 32 = .ok (.ireturn, 1) := by decide +kernel
theorem dd_P_amountOfAllColours_0 : decode bc_P_amountOfAllColours 0 = .ok (.iconst 0, 1) := by decide +kernel
theorem dd_P_amountOfAllColours_1 : decode bc_P_amountOfAllColours 1 = .ok (.istore_n 2, 1) := by decide +kernel
theorem dd_P_amountOfAllColours_2 : decode bc_P_amountOfAllColours 2 = .ok (.iconst 0, 1) := by decide +kernel
theorem dd_P_amountOfAllColours_3 : decode bc_P_amountOfAllColours 3 = .ok (.istore_n 3, 1) := by decide +kernel
theorem dd_P_amountOfAllColours_4 : decode bc_P_amountOfAllColours 4 = .ok (.iload_n 3, 1) := by decide +kernel
theorem dd_P_amountOfAllColours_5 : decode bc_P_amountOfAllColours 5 = .ok (.aload_n 0, 1) := by decide +kernel
theorem dd_P_amountOfAllColours_6 : decode bc_P_amountOfAllColours 6 = .ok (.getfield 34, 3) := by decide +kernel
theorem dd_P_amountOfAllColours_9 : decode bc_P_amountOfAllColours 9 = .ok (.if_icmp .ge 28, 3) := by decide +kernel
theorem dd_P_amountOfAllColours_12 : decode bc_P_amountOfAllColours 12 = .ok (.aload_n 1, 1) := by decide +kernel
theorem dd_P_amountOfAllColours_13 : decode bc_P_amountOfAllColours 13 = .ok (.aload_n 0, 1) := by decide +kernel
theorem dd_P_amountOfAllColours_14 : decode bc_P_amountOfAllColours 14 = .ok (.iload_n 3, 1) := by decide +kernel
theorem dd_P_amountOfAllColours_15 : decode bc_P_amountOfAllColours 15 = .ok (.invokevirtual 81, 3) := by decide +kernel
theorem dd_P_amountOfAllColours_18 : decode bc_P_amountOfAllColours 18 = .ok (.invokevirtual 104, 3) := by decide +kernel
theorem dd_P_amountOfAllColours_21 : decode bc_P_amountOfAllColours 21 = .ok (.aload_n 1, 1) := by decide +kernel
theorem dd_P_amountOfAllColours_22 : decode bc_P_amountOfAllColours 22 = .ok (.getfield 59, 3) := by decide +kernel
theorem dd_P_amountOfAllColours_25 : decode bc_P_amountOfAllColours 25 = .ok (.if_icmp .ne 6, 3) := by decide +kernel
theorem dd_P_amountOfAllColours_28 : decode bc_P_amountOfAllColours 28 = .ok (.iinc 2 1, 3) := by decide +kernel
theorem dd_P_amountOfAllColours_31 : decode bc_P_amountOfAllColours 31 = .ok (.iinc 3 1, 3) := by decide +kernel
theorem dd_P_amountOfAllColours_34 : decode bc_P_amountOfAllColours 34 = .ok (.goto (-30), 3) := by decide +kernel
theorem dd_P_amountOfAllColours_37 : decode bc_P_amountOfAllColours 37 = .ok (.iload_n 2, 1) := by decide +kernel
theorem dd_P_amountOfAllColours_38 : decode bc_P_amountOfAllColours 38 = .ok (.ireturn, 1) := by decide +kernel
theorem dd_P_amountAlone_0 : decode bc_P_amountAlone 0 = .ok (.iconst 0, 1) := by decide +kernel
theorem dd_P_amountAlone_1 : decode bc_P_amountAlone 1 = .ok (.istore_n 1, 1) := by decide +kernel
theorem dd_P_amountAlone_2 : decode bc_P_amountAlone 2 = .ok (.iconst 0, 1) := by decide +kernel
theorem dd_P_amountAlone_3 : decode bc_P_amountAlone 3 = .ok (.istore_n 2, 1) := by decide +kernel
theorem dd_P_amountAlone_4 : decode bc_P_amountAlone 4 = .ok (.iload_n 2, 1) := by decide +kernel
theorem dd_P_amountAlone_5 : decode bc_P_amountAlone 5 = .ok (.aload_n 0, 1) := by decide +kernel
theorem dd_P_amountAlone_6 : decode bc_P_amountAlone 6 = .ok (.getfield 34, 3) := by decide +kernel
theorem dd_P_amountAlone_9 : decode bc_P_amountAlone 9 = .ok (.if_icmp .ge 21, 3) := by decide +kernel
theorem dd_P_amountAlone_12 : decode bc_P_amountAlone 12 = .ok (.aload_n 0, 1) := by decide +kernel
theorem dd_P_amountAlone_13 : decode bc_P_amountAlone 13 = .ok (.iload_n 2, 1) := by decide +kernel
theorem dd_P_amountAlone_14 : decode bc_P_amountAlone 14 = .ok (.invokevirtual 88, 3) := by decide +kernel
theorem dd_P_amountAlone_17 : decode bc_P_amountAlone 17 = .ok (.iconst 1, 1) := by decide +kernel
theorem dd_P_amountAlone_18 : decode bc_P_amountAlone 18 = .ok (.if_icmp .ne 6, 3) := by decide +kernel
theorem dd_P_amountAlone_21 : decode bc_P_amountAlone 21 = .ok (.iinc 1 1, 3) := by decide +kernel
theorem dd_P_amountAlone_24 : decode bc_P_amountAlone 24 = .ok (.iinc 2 1, 3) := by decide +kernel
theorem dd_P_amountAlone_27 : decode bc_P_amountAlone 27 = .ok (.goto (-23), 3) := by decide +kernel
theorem dd_P_amountAlone_30 : decode bc_P_amountAlone 30 = .ok (.iload_n 1, 1) := by decide +kernel
theorem dd_P_amountAlone_31 : decode bc_P_amountAlone 31 = .ok (.ireturn, 1) := by decide +kernel
theorem dd_P_greatestSize_0 : decode bc_P_greatestSize 0 = .ok (.iconst 0, 1) := by decide +kernel
theorem dd_P_greatestSize_1 : decode bc_P_greatestSize 1 = .ok (.istore_n 1, 1) := by decide +kernel
theorem dd_P_greatestSize_2 : decode bc_P_greatestSize 2 = .ok (.iconst 0, 1) := by decide +kernel
theorem dd_P_greatestSize_3 : decode bc_P_greatestSize 3 = .ok (.istore_n 2, 1) := by decide +kernel
theorem dd_P_greatestSize_4 : decode bc_P_greatestSize 4 = .ok (.iload_n 2, 1) := by decide +kernel
theorem dd_P_greatestSize_5 : decode bc_P_greatestSize 5 = .ok (.aload_n 0, 1) := by decide +kernel
theorem dd_P_greatestSize_6 : decode bc_P_greatestSize 6 = .ok (.getfield 34, 3) := by decide +kernel
theorem dd_P_greatestSize_9 : decode bc_P_greatestSize 9 = .ok (.if_icmp .ge 19, 3) := by decide +kernel
theorem dd_P_greatestSize_12 : decode bc_P_greatestSize 12 = .ok (.iload_n 1, 1) := by decide +kernel
theorem dd_P_greatestSize_13 : decode bc_P_greatestSize 13 = .ok (.aload_n 0, 1) := by decide +kernel
theorem dd_P_greatestSize_14 : decode bc_P_greatestSize 14 = .ok (.iload_n 2, 1) := by decide +kernel
theorem dd_P_greatestSize_15 : decode bc_P_greatestSize 15 = .ok (.invokevirtual 88, 3) := by decide +kernel
theorem dd_P_greatestSize_18 : decode bc_P_greatestSize 18 = .ok (.invokestatic 107, 3) := by decide +kernel
theorem dd_P_greatestSize_21 : decode bc_P_greatestSize 21 = .ok (.istore_n 1, 1) := by decide +kernel
theorem dd_P_greatestSize_22 : decode bc_P_greatestSize 22 = .ok (.iinc 2 1, 3) := by decide +kernel
theorem dd_P_greatestSize_25 : decode bc_P_greatestSize 25 = .ok (.goto (-21), 3) := by decide +kernel
theorem dd_P_greatestSize_28 : decode bc_P_greatestSize 28 = .ok (.iload_n 1, 1) := by decide +kernel
theorem dd_P_greatestSize_29 : decode bc_P_greatestSize 29 = .ok (.ireturn, 1) := by decide +kernel
theorem dd_S_init_0 : decode bc_S_init 0 = .ok (.aload_n 0, 1) := by decide +kernel
theorem dd_S_init_1 : decode bc_S_init 1 = .ok (.invokespecial 3, 3) := by decide +kernel
theorem dd_S_init_4 : decode bc_S_init 4 = .ok (.aload_n 0, 1) := by decide +kernel
theorem dd_S_init_5 : decode bc_S_init 5 = .ok (.iconst 4, 1) := by decide +kernel
theorem dd_S_init_6 : decode bc_S_init 6 = .ok (.putfield 9, 3) := by decide +kernel
theorem dd_S_init_9 : decode bc_S_init 9 = .ok (.aload_n 0, 1) := by decide +kernel
theorem dd_S_init_10 : decode bc_S_init 10 = .ok (.iconst 2, 1) := by decide +kernel
theorem dd_S_init_11 : decode bc_S_init 11 = .ok (.putfield 15, 3) := by decide +kernel
theorem dd_S_init_14 : decode bc_S_init 14 = .ok (.aload_n 0, 1) := by decide +kernel
theorem dd_S_init_15 : decode bc_S_init 15 = .ok (.iconst 4, 1) := by decide +kernel
theorem dd_S_init_16 : decode bc_S_init 16 = .ok (.newarray .int, 2) := by decide +kernel
theorem dd_S_init_18 : decode bc_S_init 18 = .ok (.putfield 18, 3) := by decide +kernel
theorem dd_S_init_21 : decode bc_S_init 21 = .ok (.iconst 0, 1) := by decide +kernel
theorem dd_S_init_22 : decode bc_S_init 22 = .ok (.istore_n 1, 1) := by decide +kernel
theorem dd_S_init_23 : decode bc_S_init 23 = .ok (.iload_n 1, 1) := by decide +kernel
theorem dd_S_init_24 : decode bc_S_init 24 = .ok (.iconst 4, 1) := by decide +kernel
theorem dd_S_init_25 : decode bc_S_init 25 = .ok (.if_icmp .ge 16, 3) := by decide +kernel
theorem dd_S_init_28 : decode bc_S_init 28 = .ok (.aload_n 0, 1) := by decide +kernel
theorem dd_S_init_29 : decode bc_S_init 29 = .ok (.getfield 18, 3) := by decide +kernel
theorem dd_S_init_32 : decode bc_S_init 32 = .ok (.iload_n 1, 1) := by decide +kernel
theorem dd_S_init_33 : decode bc_S_init 33 = .ok (.iload_n 1, 1) := by decide +kernel
theorem dd_S_init_34 : decode bc_S_init 34 = .ok (.iastore, 1) := by decide +kernel
theorem dd_S_init_35 : decode bc_S_init 35 = .ok (.iinc 1 1, 3) := by decide +kernel
theorem dd_S_init_38 : decode bc_S_init 38 = .ok (.goto (-15), 3) := by decide +kernel
theorem dd_S_init_41 : decode bc_S_init 41 = .ok (.aload_n 0, 1) := by decide +kernel
theorem dd_S_init_42 : decode bc_S_init 42 = .ok (.new 22, 3) := by decide +kernel
theorem dd_S_init_45 : decode bc_S_init 45 = .ok (.dup, 1) := by decide +kernel
theorem dd_S_init_46 : decode bc_S_init 46 = .ok (.invokespecial 24, 3) := by decide +kernel
theorem dd_S_init_49 : decode bc_S_init 49 = .ok (.putfield 25, 3) := by decide +kernel
theorem dd_S_init_52 : decode bc_S_init 52 = .ok (.return_, 1) := by decide +kernel
theorem dd_S_copyFrom_0 : decode bc_S_copyFrom 0 = .ok (.aload_n 0, 1) := by decide +kernel
theorem dd_S_copyFrom_1 : decode bc_S_copyFrom 1 = .ok (.aload_n 1, 1) := by decide +kernel
theorem dd_S_copyFrom_2 : decode bc_S_copyFrom 2 = .ok (.getfield 9, 3) := by decide +kernel
theorem dd_S_copyFrom_5 : decode bc_S_copyFrom 5 = .ok (.putfield 9, 3) := by decide +kernel
theorem dd_S_copyFrom_8 : decode bc_S_copyFrom 8 = .ok (.aload_n 0, 1) := by decide +kernel
theorem dd_S_copyFrom_9 : decode bc_S_copyFrom 9 = .ok (.aload_n 1, 1) := by decide +kernel
theorem dd_S_copyFrom_10 : decode bc_S_copyFrom 10 = .ok (.getfield 15, 3) := by decide +kernel
theorem dd_S_copyFrom_13 : decode bc_S_copyFrom 13 = .ok (.putfield 15, 3) := by decide +kernel
theorem dd_S_copyFrom_16 : decode bc_S_copyFrom 16 = .ok (.aload_n 1, 1) := by decide +kernel
theorem dd_S_copyFrom_17 : decode bc_S_copyFrom 17 = .ok (.getfield 18, 3) := by decide +kernel
theorem dd_S_copyFrom_20 : decode bc_S_copyFrom 20 = .ok (.iconst 0, 1) := by decide +kernel
theorem dd_S_copyFrom_21 : decode bc_S_copyFrom 21 = .ok (.aload_n 0, 1) := by decide +kernel
theorem dd_S_copyFrom_22 : decode bc_S_copyFrom 22 = .ok (.getfield 18, 3) := by decide +kernel
theorem dd_S_copyFrom_25 : decode bc_S_copyFrom 25 = .ok (.iconst 0, 1) := by decide +kernel
theorem dd_S_copyFrom_26 : decode bc_S_copyFrom 26 = .ok (.aload_n 0, 1) := by decide +kernel
theorem dd_S_copyFrom_27 : decode bc_S_copyFrom 27 = .ok (.getfield 18, 3) := by decide +kernel
theorem dd_S_copyFrom_30 : decode bc_S_copyFrom 30 = .ok (.arraylength, 1) := by decide +kernel
theorem dd_S_copyFrom_31 : decode bc_S_copyFrom 31 = .ok (.invokestatic 29, 3) := by decide +kernel
theorem dd_S_copyFrom_34 : decode bc_S_copyFrom 34 = .ok (.aload_n 0, 1) := by decide +kernel
theorem dd_S_copyFrom_35 : decode bc_S_copyFrom 35 = .ok (.getfield 25, 3) := by decide +kernel
theorem dd_S_copyFrom_38 : decode bc_S_copyFrom 38 = .ok (.aload_n 1, 1) := by decide +kernel
theorem dd_S_copyFrom_39 : decode bc_S_copyFrom 39 = .ok (.getfield 25, 3) := by decide +kernel
theorem dd_S_copyFrom_42 : decode bc_S_copyFrom 42 = .ok (.invokevirtual 35, 3) := by decide +kernel
theorem dd_S_copyFrom_45 : decode bc_S_copyFrom 45 = .ok (.return_, 1) := by decide +kernel
theorem dd_S_colourings_0 : decode bc_S_colourings 0 = .ok (.iconst 1, 1) := by decide +kernel
theorem dd_S_colourings_1 : decode bc_S_colourings 1 = .ok (.istore_n 1, 1) := by decide +kernel
theorem dd_S_colourings_2 : decode bc_S_colourings 2 = .ok (.iconst 0, 1) := by decide +kernel
theorem dd_S_colourings_3 : decode bc_S_colourings 3 = .ok (.istore_n 2, 1) := by decide +kernel
theorem dd_S_colourings_4 : decode bc_S_colourings 4 = .ok (.iload_n 2, 1) := by decide +kernel
theorem dd_S_colourings_5 : decode bc_S_colourings 5 = .ok (.aload_n 0, 1) := by decide +kernel
theorem dd_S_colourings_6 : decode bc_S_colourings 6 = .ok (.getfield 9, 3) := by decide +kernel
theorem dd_S_colourings_9 : decode bc_S_colourings 9 = .ok (.if_icmp .ge 16, 3) := by decide +kernel
theorem dd_S_colourings_12 : decode bc_S_colourings 12 = .ok (.iload_n 1, 1) := by decide +kernel
theorem dd_S_colourings_13 : decode bc_S_colourings 13 = .ok (.aload_n 0, 1) := by decide +kernel
theorem dd_S_colourings_14 : decode bc_S_colourings 14 = .ok (.getfield 15, 3) := by decide +kernel
theorem dd_S_colourings_17 : decode bc_S_colourings 17 = .ok (.imul, 1) := by decide +kernel
theorem dd_S_colourings_18 : decode bc_S_colourings 18 = .ok (.istore_n 1, 1) := by decide +kernel
theorem dd_S_colourings_19 : decode bc_S_colourings 19 = .ok (.iinc 2 1, 3) := by decide +kernel
theorem dd_S_colourings_22 : decode bc_S_colourings 22 = .ok (.goto (-18), 3) := by decide +kernel
theorem dd_S_colourings_25 : decode bc_S_colourings 25 = .ok (.iload_n 1, 1) := by decide +kernel
theorem dd_S_colourings_26 : decode bc_S_colourings 26 = .ok (.ireturn, 1) := by decide +kernel
theorem dd_S_mirrored_0 : decode bc_S_mirrored 0 = .ok (.iload_n 1, 1) := by decide +kernel
theorem dd_S_mirrored_1 : decode bc_S_mirrored 1 = .ok (.istore_n 2, 1) := by decide +kernel
theorem dd_S_mirrored_2 : decode bc_S_mirrored 2 = .ok (.iconst 0, 1) := by decide +kernel
theorem dd_S_mirrored_3 : decode bc_S_mirrored 3 = .ok (.istore_n 3, 1) := by decide +kernel
theorem dd_S_mirrored_4 : decode bc_S_mirrored 4 = .ok (.iconst 0, 1) := by decide +kernel
theorem dd_S_mirrored_5 : decode bc_S_mirrored 5 = .ok (.istore 4, 2) := by decide +kernel
theorem dd_S_mirrored_7 : decode bc_S_mirrored 7 = .ok (.iload 4, 2) := by decide +kernel
theorem dd_S_mirrored_9 : decode bc_S_mirrored 9 = .ok (.aload_n 0, 1) := by decide +kernel
theorem dd_S_mirrored_10 : decode bc_S_mirrored 10 = .ok (.getfield 9, 3) := by decide +kernel
theorem dd_S_mirrored_13 : decode bc_S_mirrored 13 = .ok (.if_icmp .ge 30, 3) := by decide +kernel
theorem dd_S_mirrored_16 : decode bc_S_mirrored 16 = .ok (.iload_n 3, 1) := by decide +kernel
theorem dd_S_mirrored_17 : decode bc_S_mirrored 17 = .ok (.aload_n 0, 1) := by decide +kernel
theorem dd_S_mirrored_18 : decode bc_S_mirrored 18 = .ok (.getfield 15, 3) := by decide +kernel
theorem dd_S_mirrored_21 : decode bc_S_mirrored 21 = .ok (.imul, 1) := by decide +kernel
theorem dd_S_mirrored_22 : decode bc_S_mirrored 22 = .ok (.iload_n 2, 1) := by decide +kernel
theorem dd_S_mirrored_23 : decode bc_S_mirrored 23 = .ok (.aload_n 0, 1) := by decide +kernel
theorem dd_S_mirrored_24 : decode bc_S_mirrored 24 = .ok (.getfield 15, 3) := by decide +kernel
theorem dd_S_mirrored_27 : decode bc_S_mirrored 27 = .ok (.irem, 1) := by decide +kernel
theorem dd_S_mirrored_28 : decode bc_S_mirrored 28 = .ok (.iadd, 1) := by decide +kernel
theorem dd_S_mirrored_29 : decode bc_S_mirrored 29 = .ok (.istore_n 3, 1) := by decide +kernel
theorem dd_S_mirrored_30 : decode bc_S_mirrored 30 = .ok (.iload_n 2, 1) := by decide +kernel
theorem dd_S_mirrored_31 : decode bc_S_mirrored 31 = .ok (.aload_n 0, 1) := by decide +kernel
theorem dd_S_mirrored_32 : decode bc_S_mirrored 32 = .ok (.getfield 15, 3) := by decide +kernel
theorem dd_S_mirrored_35 : decode bc_S_mirrored 35 = .ok (.idiv, 1) := by decide +kernel
theorem dd_S_mirrored_36 : decode bc_S_mirrored 36 = .ok (.istore_n 2, 1) := by decide +kernel
theorem dd_S_mirrored_37 : decode bc_S_mirrored 37 = .ok (.iinc 4 1, 3) := by decide +kernel
theorem dd_S_mirrored_40 : decode bc_S_mirrored 40 = .ok (.goto (-33), 3) := by decide +kernel
theorem dd_S_mirrored_43 : decode bc_S_mirrored 43 = .ok (.iload_n 3, 1) := by decide +kernel
theorem dd_S_mirrored_44 : decode bc_S_mirrored 44 = .ok (.ireturn, 1) := by decide +kernel
theorem dd_S_weightOf_0 : decode bc_S_weightOf 0 = .ok (.iload_n 1, 1) := by decide +kernel
theorem dd_S_weightOf_1 : decode bc_S_weightOf 1 = .ok (.istore_n 2, 1) := by decide +kernel
theorem dd_S_weightOf_2 : decode bc_S_weightOf 2 = .ok (.iconst 0, 1) := by decide +kernel
theorem dd_S_weightOf_3 : decode bc_S_weightOf 3 = .ok (.istore_n 3, 1) := by decide +kernel
theorem dd_S_weightOf_4 : decode bc_S_weightOf 4 = .ok (.iconst 0, 1) := by decide +kernel
theorem dd_S_weightOf_5 : decode bc_S_weightOf 5 = .ok (.istore 4, 2) := by decide +kernel
theorem dd_S_weightOf_7 : decode bc_S_weightOf 7 = .ok (.iload 4, 2) := by decide +kernel
theorem dd_S_weightOf_9 : decode bc_S_weightOf 9 = .ok (.aload_n 0, 1) := by decide +kernel
theorem dd_S_weightOf_10 : decode bc_S_weightOf 10 = .ok (.getfield 9, 3) := by decide +kernel
theorem dd_S_weightOf_13 : decode bc_S_weightOf 13 = .ok (.if_icmp .ge 30, 3) := by decide +kernel
theorem dd_S_weightOf_16 : decode bc_S_weightOf 16 = .ok (.iload_n 3, 1) := by decide +kernel
theorem dd_S_weightOf_17 : decode bc_S_weightOf 17 = .ok (.aload_n 0, 1) := by decide +kernel
theorem dd_S_weightOf_18 : decode bc_S_weightOf 18 = .ok (.getfield 18, 3) := by decide +kernel
theorem dd_S_weightOf_21 : decode bc_S_weightOf 21 = .ok (.iload_n 2, 1) := by decide +kernel
theorem dd_S_weightOf_22 : decode bc_S_weightOf 22 = .ok (.aload_n 0, 1) := by decide +kernel
theorem dd_S_weightOf_23 : decode bc_S_weightOf 23 = .ok (.getfield 15, 3) := by decide +kernel
theorem dd_S_weightOf_26 : decode bc_S_weightOf 26 = .ok (.irem, 1) := by decide +kernel
theorem dd_S_weightOf_27 : decode bc_S_weightOf 27 = .ok (.iaload, 1) := by decide +kernel
theorem dd_S_weightOf_28 : decode bc_S_weightOf 28 = .ok (.iadd, 1) := by decide +kernel
theorem dd_S_weightOf_29 : decode bc_S_weightOf 29 = .ok (.istore_n 3, 1) := by decide +kernel
theorem dd_S_weightOf_30 : decode bc_S_weightOf 30 = .ok (.iload_n 2, 1) := by decide +kernel
theorem dd_S_weightOf_31 : decode bc_S_weightOf 31 = .ok (.aload_n 0, 1) := by decide +kernel
theorem dd_S_weightOf_32 : decode bc_S_weightOf 32 = .ok (.getfield 15, 3) := by decide +kernel
theorem dd_S_weightOf_35 : decode bc_S_weightOf 35 = .ok (.idiv, 1) := by decide +kernel
theorem dd_S_weightOf_36 : decode bc_S_weightOf 36 = .ok (.istore_n 2, 1) := by decide +kernel
theorem dd_S_weightOf_37 : decode bc_S_weightOf 37 = .ok (.iinc 4 1, 3) := by decide +kernel
theorem dd_S_weightOf_40 : decode bc_S_weightOf 40 = .ok (.goto (-33), 3) := by decide +kernel
theorem dd_S_weightOf_43 : decode bc_S_weightOf 43 = .ok (.iload_n 3, 1) := by decide +kernel
theorem dd_S_weightOf_44 : decode bc_S_weightOf 44 = .ok (.ireturn, 1) := by decide +kernel
theorem dd_S_coloursOf_0 : decode bc_S_coloursOf 0 = .ok (.iload_n 1, 1) := by decide +kernel
theorem dd_S_coloursOf_1 : decode bc_S_coloursOf 1 = .ok (.istore_n 2, 1) := by decide +kernel
theorem dd_S_coloursOf_2 : decode bc_S_coloursOf 2 = .ok (.iconst 0, 1) := by decide +kernel
theorem dd_S_coloursOf_3 : decode bc_S_coloursOf 3 = .ok (.istore_n 3, 1) := by decide +kernel
theorem dd_S_coloursOf_4 : decode bc_S_coloursOf 4 = .ok (.iconst 0, 1) := by decide +kernel
theorem dd_S_coloursOf_5 : decode bc_S_coloursOf 5 = .ok (.istore 4, 2) := by decide +kernel
theorem dd_S_coloursOf_7 : decode bc_S_coloursOf 7 = .ok (.iload 4, 2) := by decide +kernel
theorem dd_S_coloursOf_9 : decode bc_S_coloursOf 9 = .ok (.aload_n 0, 1) := by decide +kernel
theorem dd_S_coloursOf_10 : decode bc_S_coloursOf 10 = .ok (.getfield 9, 3) := by decide +kernel
theorem dd_S_coloursOf_13 : decode bc_S_coloursOf 13 = .ok (.if_icmp .ge 27, 3) := by decide +kernel
theorem dd_S_coloursOf_16 : decode bc_S_coloursOf 16 = .ok (.iload_n 3, 1) := by decide +kernel
theorem dd_S_coloursOf_17 : decode bc_S_coloursOf 17 = .ok (.iconst 1, 1) := by decide +kernel
theorem dd_S_coloursOf_18 : decode bc_S_coloursOf 18 = .ok (.iload_n 2, 1) := by decide +kernel
theorem dd_S_coloursOf_19 : decode bc_S_coloursOf 19 = .ok (.aload_n 0, 1) := by decide +kernel
theorem dd_S_coloursOf_20 : decode bc_S_coloursOf 20 = .ok (.getfield 15, 3) := by decide +kernel
theorem dd_S_coloursOf_23 : decode bc_S_coloursOf 23 = .ok (.irem, 1) := by decide +kernel
theorem dd_S_coloursOf_24 : decode bc_S_coloursOf 24 = .ok (.ishl, 1) := by decide +kernel
theorem dd_S_coloursOf_25 : decode bc_S_coloursOf 25 = .ok (.ior, 1) := by decide +kernel
theorem dd_S_coloursOf_26 : decode bc_S_coloursOf 26 = .ok (.istore_n 3, 1) := by decide +kernel
theorem dd_S_coloursOf_27 : decode bc_S_coloursOf 27 = .ok (.iload_n 2, 1) := by decide +kernel
theorem dd_S_coloursOf_28 : decode bc_S_coloursOf 28 = .ok (.aload_n 0, 1) := by decide +kernel
theorem dd_S_coloursOf_29 : decode bc_S_coloursOf 29 = .ok (.getfield 15, 3) := by decide +kernel
theorem dd_S_coloursOf_32 : decode bc_S_coloursOf 32 = .ok (.idiv, 1) := by decide +kernel
theorem dd_S_coloursOf_33 : decode bc_S_coloursOf 33 = .ok (.istore_n 2, 1) := by decide +kernel
theorem dd_S_coloursOf_34 : decode bc_S_coloursOf 34 = .ok (.iinc 4 1, 3) := by decide +kernel
theorem dd_S_coloursOf_37 : decode bc_S_coloursOf 37 = .ok (.goto (-30), 3) := by decide +kernel
theorem dd_S_coloursOf_40 : decode bc_S_coloursOf 40 = .ok (.iload_n 3, 1) := by decide +kernel
theorem dd_S_coloursOf_41 : decode bc_S_coloursOf 41 = .ok (.invokestatic 39, 3) := by decide +kernel
theorem dd_S_coloursOf_44 : decode bc_S_coloursOf 44 = .ok (.ireturn, 1) := by decide +kernel
theorem dd_U_goal_0 : decode bc_U_goal 0 = .ok (.iload_n 0, 1) := by decide +kernel
theorem dd_U_goal_1 : decode bc_U_goal 1 = .ok (.iconst 3, 1) := by decide +kernel
theorem dd_U_goal_2 : decode bc_U_goal 2 = .ok (.bipush 6, 2) := by decide +kernel
theorem dd_U_goal_4 : decode bc_U_goal 4 = .ok (.iload_n 1, 1) := by decide +kernel
theorem dd_U_goal_5 : decode bc_U_goal 5 = .ok (.isub, 1) := by decide +kernel
theorem dd_U_goal_6 : decode bc_U_goal 6 = .ok (.imul, 1) := by decide +kernel
theorem dd_U_goal_7 : decode bc_U_goal 7 = .ok (.ishr, 1) := by decide +kernel
theorem dd_U_goal_8 : decode bc_U_goal 8 = .ok (.bipush 7, 2) := by decide +kernel
theorem dd_U_goal_10 : decode bc_U_goal 10 = .ok (.iand, 1) := by decide +kernel
theorem dd_U_goal_11 : decode bc_U_goal 11 = .ok (.ireturn, 1) := by decide +kernel
theorem dd_U_withGoal_0 : decode bc_U_withGoal 0 = .ok (.iconst 3, 1) := by decide +kernel
theorem dd_U_withGoal_1 : decode bc_U_withGoal 1 = .ok (.bipush 6, 2) := by decide +kernel
theorem dd_U_withGoal_3 : decode bc_U_withGoal 3 = .ok (.iload_n 1, 1) := by decide +kernel
theorem dd_U_withGoal_4 : decode bc_U_withGoal 4 = .ok (.isub, 1) := by decide +kernel
theorem dd_U_withGoal_5 : decode bc_U_withGoal 5 = .ok (.imul, 1) := by decide +kernel
theorem dd_U_withGoal_6 : decode bc_U_withGoal 6 = .ok (.istore_n 3, 1) := by decide +kernel
theorem dd_U_withGoal_7 : decode bc_U_withGoal 7 = .ok (.iload_n 0, 1) := by decide +kernel
theorem dd_U_withGoal_8 : decode bc_U_withGoal 8 = .ok (.bipush 7, 2) := by decide +kernel
theorem dd_U_withGoal_10 : decode bc_U_withGoal 10 = .ok (.iload_n 3, 1) := by decide +kernel
theorem dd_U_withGoal_11 : decode bc_U_withGoal 11 = .ok (.ishl, 1) := by decide +kernel
theorem dd_U_withGoal_12 : decode bc_U_withGoal 12 = .ok (.iconst (-1), 1) := by decide +kernel
theorem dd_U_withGoal_13 : decode bc_U_withGoal 13 = .ok (.ixor, 1) := by decide +kernel
theorem dd_U_withGoal_14 : decode bc_U_withGoal 14 = .ok (.iand, 1) := by decide +kernel
theorem dd_U_withGoal_15 : decode bc_U_withGoal 15 = .ok (.iload_n 2, 1) := by decide +kernel
theorem dd_U_withGoal_16 : decode bc_U_withGoal 16 = .ok (.iload_n 3, 1) := by decide +kernel
theorem dd_U_withGoal_17 : decode bc_U_withGoal 17 = .ok (.ishl, 1) := by decide +kernel
theorem dd_U_withGoal_18 : decode bc_U_withGoal 18 = .ok (.ior, 1) := by decide +kernel
theorem dd_U_withGoal_19 : decode bc_U_withGoal 19 = .ok (.ireturn, 1) := by decide +kernel
theorem dd_U_oneThenOther_0 : decode bc_U_oneThenOther 0 = .ok (.iconst 0, 1) := by decide +kernel
theorem dd_U_oneThenOther_1 : decode bc_U_oneThenOther 1 = .ok (.istore_n 2, 1) := by decide +kernel
theorem dd_U_oneThenOther_2 : decode bc_U_oneThenOther 2 = .ok (.iconst 0, 1) := by decide +kernel
theorem dd_U_oneThenOther_3 : decode bc_U_oneThenOther 3 = .ok (.istore_n 3, 1) := by decide +kernel
theorem dd_U_oneThenOther_4 : decode bc_U_oneThenOther 4 = .ok (.iload_n 3, 1) := by decide +kernel
theorem dd_U_oneThenOther_5 : decode bc_U_oneThenOther 5 = .ok (.bipush 7, 2) := by decide +kernel
theorem dd_U_oneThenOther_7 : decode bc_U_oneThenOther 7 = .ok (.if_icmp .ge 23, 3) := by decide +kernel
theorem dd_U_oneThenOther_10 : decode bc_U_oneThenOther 10 = .ok (.iload_n 2, 1) := by decide +kernel
theorem dd_U_oneThenOther_11 : decode bc_U_oneThenOther 11 = .ok (.iconst 3, 1) := by decide +kernel
theorem dd_U_oneThenOther_12 : decode bc_U_oneThenOther 12 = .ok (.ishl, 1) := by decide +kernel
theorem dd_U_oneThenOther_13 : decode bc_U_oneThenOther 13 = .ok (.iload_n 1, 1) := by decide +kernel
theorem dd_U_oneThenOther_14 : decode bc_U_oneThenOther 14 = .ok (.iload_n 0, 1) := by decide +kernel
theorem dd_U_oneThenOther_15 : decode bc_U_oneThenOther 15 = .ok (.iload_n 3, 1) := by decide +kernel
theorem dd_U_oneThenOther_16 : decode bc_U_oneThenOther 16 = .ok (.invokestatic 9, 3) := by decide +kernel
theorem dd_U_oneThenOther_19 : decode bc_U_oneThenOther 19 = .ok (.invokestatic 9, 3) := by decide +kernel
theorem dd_U_oneThenOther_22 : decode bc_U_oneThenOther 22 = .ok (.ior, 1) := by decide +kernel
theorem dd_U_oneThenOther_23 : decode bc_U_oneThenOther 23 = .ok (.istore_n 2, 1) := by decide +kernel
theorem dd_U_oneThenOther_24 : decode bc_U_oneThenOther 24 = .ok (.iinc 3 1, 3) := by decide +kernel
theorem dd_U_oneThenOther_27 : decode bc_U_oneThenOther 27 = .ok (.goto (-23), 3) := by decide +kernel
theorem dd_U_oneThenOther_30 : decode bc_U_oneThenOther 30 = .ok (.iload_n 2, 1) := by decide +kernel
theorem dd_U_oneThenOther_31 : decode bc_U_oneThenOther 31 = .ok (.ireturn, 1) := by decide +kernel
theorem dd_U_rank_0 : decode bc_U_rank 0 = .ok (.iconst 0, 1) := by decide +kernel
theorem dd_U_rank_1 : decode bc_U_rank 1 = .ok (.istore_n 1, 1) := by decide +kernel
theorem dd_U_rank_2 : decode bc_U_rank 2 = .ok (.iconst 0, 1) := by decide +kernel
theorem dd_U_rank_3 : decode bc_U_rank 3 = .ok (.istore_n 2, 1) := by decide +kernel
theorem dd_U_rank_4 : decode bc_U_rank 4 = .ok (.iconst 0, 1) := by decide +kernel
theorem dd_U_rank_5 : decode bc_U_rank 5 = .ok (.istore_n 3, 1) := by decide +kernel
theorem dd_U_rank_6 : decode bc_U_rank 6 = .ok (.iload_n 3, 1) := by decide +kernel
theorem dd_U_rank_7 : decode bc_U_rank 7 = .ok (.bipush 7, 2) := by decide +kernel
theorem dd_U_rank_9 : decode bc_U_rank 9 = .ok (.if_icmp .ge 49, 3) := by decide +kernel
theorem dd_U_rank_12 : decode bc_U_rank 12 = .ok (.iload_n 0, 1) := by decide +kernel
theorem dd_U_rank_13 : decode bc_U_rank 13 = .ok (.iload_n 3, 1) := by decide +kernel
theorem dd_U_rank_14 : decode bc_U_rank 14 = .ok (.invokestatic 9, 3) := by decide +kernel
theorem dd_U_rank_17 : decode bc_U_rank 17 = .ok (.istore 4, 2) := by decide +kernel
theorem dd_U_rank_19 : decode bc_U_rank 19 = .ok (.iload 4, 2) := by decide +kernel
theorem dd_U_rank_21 : decode bc_U_rank 21 = .ok (.iload_n 2, 1) := by decide +kernel
theorem dd_U_rank_22 : decode bc_U_rank 22 = .ok (.iconst 1, 1) := by decide +kernel
theorem dd_U_rank_23 : decode bc_U_rank 23 = .ok (.iload 4, 2) := by decide +kernel
theorem dd_U_rank_25 : decode bc_U_rank 25 = .ok (.ishl, 1) := by decide +kernel
theorem dd_U_rank_26 : decode bc_U_rank 26 = .ok (.iconst 1, 1) := by decide +kernel
theorem dd_U_rank_27 : decode bc_U_rank 27 = .ok (.isub, 1) := by decide +kernel
theorem dd_U_rank_28 : decode bc_U_rank 28 = .ok (.iand, 1) := by decide +kernel
theorem dd_U_rank_29 : decode bc_U_rank 29 = .ok (.invokestatic 15, 3) := by decide +kernel
theorem dd_U_rank_32 : decode bc_U_rank 32 = .ok (.isub, 1) := by decide +kernel
theorem dd_U_rank_33 : decode bc_U_rank 33 = .ok (.istore 5, 2) := by decide +kernel
theorem dd_U_rank_35 : decode bc_U_rank 35 = .ok (.iload_n 1, 1) := by decide +kernel
theorem dd_U_rank_36 : decode bc_U_rank 36 = .ok (.bipush 7, 2) := by decide +kernel
theorem dd_U_rank_38 : decode bc_U_rank 38 = .ok (.iload_n 3, 1) := by decide +kernel
theorem dd_U_rank_39 : decode bc_U_rank 39 = .ok (.isub, 1) := by decide +kernel
theorem dd_U_rank_40 : decode bc_U_rank 40 = .ok (.imul, 1) := by decide +kernel
theorem dd_U_rank_41 : decode bc_U_rank 41 = .ok (.iload 5, 2) := by decide +kernel
theorem dd_U_rank_43 : decode bc_U_rank 43 = .ok (.iadd, 1) := by decide +kernel
theorem dd_U_rank_44 : decode bc_U_rank 44 = .ok (.istore_n 1, 1) := by decide +kernel
theorem dd_U_rank_45 : decode bc_U_rank 45 = .ok (.iload_n 2, 1) := by decide +kernel
theorem dd_U_rank_46 : decode bc_U_rank 46 = .ok (.iconst 1, 1) := by decide +kernel
theorem dd_U_rank_47 : decode bc_U_rank 47 = .ok (.iload 4, 2) := by decide +kernel
theorem dd_U_rank_49 : decode bc_U_rank 49 = .ok (.ishl, 1) := by decide +kernel
theorem dd_U_rank_50 : decode bc_U_rank 50 = .ok (.ior, 1) := by decide +kernel
theorem dd_U_rank_51 : decode bc_U_rank 51 = .ok (.istore_n 2, 1) := by decide +kernel
theorem dd_U_rank_52 : decode bc_U_rank 52 = .ok (.iinc 3 1, 3) := by decide +kernel
theorem dd_U_rank_55 : decode bc_U_rank 55 = .ok (.goto (-49), 3) := by decide +kernel
theorem dd_U_rank_58 : decode bc_U_rank 58 = .ok (.iload_n 1, 1) := by decide +kernel
theorem dd_U_rank_59 : decode bc_U_rank 59 = .ok (.ireturn, 1) := by decide +kernel
theorem dd_U_typeOf_0 : decode bc_U_typeOf 0 = .ok (.iload_n 0, 1) := by decide +kernel
theorem dd_U_typeOf_1 : decode bc_U_typeOf 1 = .ok (.iload_n 1, 1) := by decide +kernel
theorem dd_U_typeOf_2 : decode bc_U_typeOf 2 = .ok (.invokestatic 21, 3) := by decide +kernel
theorem dd_U_typeOf_5 : decode bc_U_typeOf 5 = .ok (.istore_n 2, 1) := by decide +kernel
theorem dd_U_typeOf_6 : decode bc_U_typeOf 6 = .ok (.iconst 0, 1) := by decide +kernel
theorem dd_U_typeOf_7 : decode bc_U_typeOf 7 = .ok (.istore_n 3, 1) := by decide +kernel
theorem dd_U_typeOf_8 : decode bc_U_typeOf 8 = .ok (.iload_n 1, 1) := by decide +kernel
theorem dd_U_typeOf_9 : decode bc_U_typeOf 9 = .ok (.istore 4, 2) := by decide +kernel
theorem dd_U_typeOf_11 : decode bc_U_typeOf 11 = .ok (.iload 4, 2) := by decide +kernel
theorem dd_U_typeOf_13 : decode bc_U_typeOf 13 = .ok (.iconst 1, 1) := by decide +kernel
theorem dd_U_typeOf_14 : decode bc_U_typeOf 14 = .ok (.if_icmp .lt 44, 3) := by decide +kernel
theorem dd_U_typeOf_17 : decode bc_U_typeOf 17 = .ok (.iload_n 2, 1) := by decide +kernel
theorem dd_U_typeOf_18 : decode bc_U_typeOf 18 = .ok (.iconst 4, 1) := by decide +kernel
theorem dd_U_typeOf_19 : decode bc_U_typeOf 19 = .ok (.iload 4, 2) := by decide +kernel
theorem dd_U_typeOf_21 : decode bc_U_typeOf 21 = .ok (.imul, 1) := by decide +kernel
theorem dd_U_typeOf_22 : decode bc_U_typeOf 22 = .ok (.ishr, 1) := by decide +kernel
theorem dd_U_typeOf_23 : decode bc_U_typeOf 23 = .ok (.bipush 15, 2) := by decide +kernel
theorem dd_U_typeOf_25 : decode bc_U_typeOf 25 = .ok (.iand, 1) := by decide +kernel
theorem dd_U_typeOf_26 : decode bc_U_typeOf 26 = .ok (.istore 5, 2) := by decide +kernel
theorem dd_U_typeOf_28 : decode bc_U_typeOf 28 = .ok (.iconst 0, 1) := by decide +kernel
theorem dd_U_typeOf_29 : decode bc_U_typeOf 29 = .ok (.istore 6, 2) := by decide +kernel
theorem dd_U_typeOf_31 : decode bc_U_typeOf 31 = .ok (.iload 6, 2) := by decide +kernel
theorem dd_U_typeOf_33 : decode bc_U_typeOf 33 = .ok (.iload 5, 2) := by decide +kernel
theorem dd_U_typeOf_35 : decode bc_U_typeOf 35 = .ok (.if_icmp .ge 17, 3) := by decide +kernel
theorem dd_U_typeOf_38 : decode bc_U_typeOf 38 = .ok (.iload_n 3, 1) := by decide +kernel
theorem dd_U_typeOf_39 : decode bc_U_typeOf 39 = .ok (.bipush 10, 2) := by decide +kernel
theorem dd_U_typeOf_41 : decode bc_U_typeOf 41 = .ok (.imul, 1) := by decide +kernel
theorem dd_U_typeOf_42 : decode bc_U_typeOf 42 = .ok (.iload 4, 2) := by decide +kernel
theorem dd_U_typeOf_44 : decode bc_U_typeOf 44 = .ok (.iadd, 1) := by decide +kernel
theorem dd_U_typeOf_45 : decode bc_U_typeOf 45 = .ok (.istore_n 3, 1) := by decide +kernel
theorem dd_U_typeOf_46 : decode bc_U_typeOf 46 = .ok (.iinc 6 1, 3) := by decide +kernel
theorem dd_U_typeOf_49 : decode bc_U_typeOf 49 = .ok (.goto (-18), 3) := by decide +kernel
theorem dd_U_typeOf_52 : decode bc_U_typeOf 52 = .ok (.iinc 4 (-1), 3) := by decide +kernel
theorem dd_U_typeOf_55 : decode bc_U_typeOf 55 = .ok (.goto (-44), 3) := by decide +kernel
theorem dd_U_typeOf_58 : decode bc_U_typeOf 58 = .ok (.iload_n 3, 1) := by decide +kernel
theorem dd_U_typeOf_59 : decode bc_U_typeOf 59 = .ok (.ireturn, 1) := by decide +kernel
theorem dd_U_tallyCycles_0 : decode bc_U_tallyCycles 0 = .ok (.iconst 0, 1) := by decide +kernel
theorem dd_U_tallyCycles_1 : decode bc_U_tallyCycles 1 = .ok (.istore_n 2, 1) := by decide +kernel
theorem dd_U_tallyCycles_2 : decode bc_U_tallyCycles 2 = .ok (.iconst 0, 1) := by decide +kernel
theorem dd_U_tallyCycles_3 : decode bc_U_tallyCycles 3 = .ok (.istore_n 3, 1) := by decide +kernel
theorem dd_U_tallyCycles_4 : decode bc_U_tallyCycles 4 = .ok (.iconst 0, 1) := by decide +kernel
theorem dd_U_tallyCycles_5 : decode bc_U_tallyCycles 5 = .ok (.istore 4, 2) := by decide +kernel
theorem dd_U_tallyCycles_7 : decode bc_U_tallyCycles 7 = .ok (.iload 4, 2) := by decide +kernel
theorem dd_U_tallyCycles_9 : decode bc_U_tallyCycles 9 = .ok (.iload_n 1, 1) := by decide +kernel
theorem dd_U_tallyCycles_10 : decode bc_U_tallyCycles 10 = .ok (.if_icmp .ge 67, 3) := by decide +kernel
theorem dd_U_tallyCycles_13 : decode bc_U_tallyCycles 13 = .ok (.iconst 0, 1) := by decide +kernel
theorem dd_U_tallyCycles_14 : decode bc_U_tallyCycles 14 = .ok (.istore 5, 2) := by decide +kernel
theorem dd_U_tallyCycles_16 : decode bc_U_tallyCycles 16 = .ok (.iload 4, 2) := by decide +kernel
theorem dd_U_tallyCycles_18 : decode bc_U_tallyCycles 18 = .ok (.istore 6, 2) := by decide +kernel
theorem dd_U_tallyCycles_20 : decode bc_U_tallyCycles 20 = .ok (.iload_n 3, 1) := by decide +kernel
theorem dd_U_tallyCycles_21 : decode bc_U_tallyCycles 21 = .ok (.iload 6, 2) := by decide +kernel
theorem dd_U_tallyCycles_23 : decode bc_U_tallyCycles 23 = .ok (.ishr, 1) := by decide +kernel
theorem dd_U_tallyCycles_24 : decode bc_U_tallyCycles 24 = .ok (.iconst 1, 1) := by decide +kernel
theorem dd_U_tallyCycles_25 : decode bc_U_tallyCycles 25 = .ok (.iand, 1) := by decide +kernel
theorem dd_U_tallyCycles_26 : decode bc_U_tallyCycles 26 = .ok (.ifCond .ne 31, 3) := by decide +kernel
theorem dd_U_tallyCycles_29 : decode bc_U_tallyCycles 29 = .ok (.iload 5, 2) := by decide +kernel
theorem dd_U_tallyCycles_31 : decode bc_U_tallyCycles 31 = .ok (.bipush 7, 2) := by decide +kernel
theorem dd_U_tallyCycles_33 : decode bc_U_tallyCycles 33 = .ok (.if_icmp .ge 24, 3) := by decide +kernel
theorem dd_U_tallyCycles_36 : decode bc_U_tallyCycles 36 = .ok (.iload_n 3, 1) := by decide +kernel
theorem dd_U_tallyCycles_37 : decode bc_U_tallyCycles 37 = .ok (.iconst 1, 1) := by decide +kernel
theorem dd_U_tallyCycles_38 : decode bc_U_tallyCycles 38 = .ok (.iload 6, 2) := by decide +kernel
theorem dd_U_tallyCycles_40 : decode bc_U_tallyCycles 40 = .ok (.ishl, 1) := by decide +kernel
theorem dd_U_tallyCycles_41 : decode bc_U_tallyCycles 41 = .ok (.ior, 1) := by decide +kernel
theorem dd_U_tallyCycles_42 : decode bc_U_tallyCycles 42 = .ok (.istore_n 3, 1) := by decide +kernel
theorem dd_U_tallyCycles_43 : decode bc_U_tallyCycles 43 = .ok (.iload_n 0, 1) := by decide +kernel
theorem dd_U_tallyCycles_44 : decode bc_U_tallyCycles 44 = .ok (.iload 6, 2) := by decide +kernel
theorem dd_U_tallyCycles_46 : decode bc_U_tallyCycles 46 = .ok (.invokestatic 9, 3) := by decide +kernel
theorem dd_U_tallyCycles_49 : decode bc_U_tallyCycles 49 = .ok (.istore 6, 2) := by decide +kernel
theorem dd_U_tallyCycles_51 : decode bc_U_tallyCycles 51 = .ok (.iinc 5 1, 3) := by decide +kernel
theorem dd_U_tallyCycles_54 : decode bc_U_tallyCycles 54 = .ok (.goto (-34), 3) := by decide +kernel
theorem dd_U_tallyCycles_57 : decode bc_U_tallyCycles 57 = .ok (.iload 5, 2) := by decide +kernel
theorem dd_U_tallyCycles_59 : decode bc_U_tallyCycles 59 = .ok (.ifCond .le 12, 3) := by decide +kernel
theorem dd_U_tallyCycles_62 : decode bc_U_tallyCycles 62 = .ok (.iload_n 2, 1) := by decide +kernel
theorem dd_U_tallyCycles_63 : decode bc_U_tallyCycles 63 = .ok (.iconst 1, 1) := by decide +kernel
theorem dd_U_tallyCycles_64 : decode bc_U_tallyCycles 64 = .ok (.iconst 4, 1) := by decide +kernel
theorem dd_U_tallyCycles_65 : decode bc_U_tallyCycles 65 = .ok (.iload 5, 2) := by decide +kernel
theorem dd_U_tallyCycles_67 : decode bc_U_tallyCycles 67 = .ok (.imul, 1) := by decide +kernel
theorem dd_U_tallyCycles_68 : decode bc_U_tallyCycles 68 = .ok (.ishl, 1) := by decide +kernel
theorem dd_U_tallyCycles_69 : decode bc_U_tallyCycles 69 = .ok (.iadd, 1) := by decide +kernel
theorem dd_U_tallyCycles_70 : decode bc_U_tallyCycles 70 = .ok (.istore_n 2, 1) := by decide +kernel
theorem dd_U_tallyCycles_71 : decode bc_U_tallyCycles 71 = .ok (.iinc 4 1, 3) := by decide +kernel
theorem dd_U_tallyCycles_74 : decode bc_U_tallyCycles 74 = .ok (.goto (-67), 3) := by decide +kernel
theorem dd_U_tallyCycles_77 : decode bc_U_tallyCycles 77 = .ok (.iload_n 2, 1) := by decide +kernel
theorem dd_U_tallyCycles_78 : decode bc_U_tallyCycles 78 = .ok (.ireturn, 1) := by decide +kernel
theorem dd_U_timesTillStill_0 : decode bc_U_timesTillStill 0 = .ok (.iload_n 0, 1) := by decide +kernel
theorem dd_U_timesTillStill_1 : decode bc_U_timesTillStill 1 = .ok (.istore_n 1, 1) := by decide +kernel
theorem dd_U_timesTillStill_2 : decode bc_U_timesTillStill 2 = .ok (.iconst 1, 1) := by decide +kernel
theorem dd_U_timesTillStill_3 : decode bc_U_timesTillStill 3 = .ok (.istore_n 2, 1) := by decide +kernel
theorem dd_U_timesTillStill_4 : decode bc_U_timesTillStill 4 = .ok (.iload_n 1, 1) := by decide +kernel
theorem dd_U_timesTillStill_5 : decode bc_U_timesTillStill 5 = .ok (.ldc 24, 2) := by decide +kernel
theorem dd_U_timesTillStill_7 : decode bc_U_timesTillStill 7 = .ok (.if_icmp .eq 21, 3) := by decide +kernel
theorem dd_U_timesTillStill_10 : decode bc_U_timesTillStill 10 = .ok (.iload_n 2, 1) := by decide +kernel
theorem dd_U_timesTillStill_11 : decode bc_U_timesTillStill 11 = .ok (.bipush 12, 2) := by decide +kernel
theorem dd_U_timesTillStill_13 : decode bc_U_timesTillStill 13 = .ok (.if_icmp .ge 15, 3) := by decide +kernel
theorem dd_U_timesTillStill_16 : decode bc_U_timesTillStill 16 = .ok (.iload_n 1, 1) := by decide +kernel
theorem dd_U_timesTillStill_17 : decode bc_U_timesTillStill 17 = .ok (.iload_n 0, 1) := by decide +kernel
theorem dd_U_timesTillStill_18 : decode bc_U_timesTillStill 18 = .ok (.invokestatic 25, 3) := by decide +kernel
theorem dd_U_timesTillStill_21 : decode bc_U_timesTillStill 21 = .ok (.istore_n 1, 1) := by decide +kernel
theorem dd_U_timesTillStill_22 : decode bc_U_timesTillStill 22 = .ok (.iinc 2 1, 3) := by decide +kernel
theorem dd_U_timesTillStill_25 : decode bc_U_timesTillStill 25 = .ok (.goto (-21), 3) := by decide +kernel
theorem dd_U_timesTillStill_28 : decode bc_U_timesTillStill 28 = .ok (.iload_n 2, 1) := by decide +kernel
theorem dd_U_timesTillStill_29 : decode bc_U_timesTillStill 29 = .ok (.ireturn, 1) := by decide +kernel
theorem dd_U_roundTurn_0 : decode bc_U_roundTurn 0 = .ok (.ldc 24, 2) := by decide +kernel
theorem dd_U_roundTurn_2 : decode bc_U_roundTurn 2 = .ok (.istore_n 3, 1) := by decide +kernel
theorem dd_U_roundTurn_3 : decode bc_U_roundTurn 3 = .ok (.iconst 0, 1) := by decide +kernel
theorem dd_U_roundTurn_4 : decode bc_U_roundTurn 4 = .ok (.istore 4, 2) := by decide +kernel
theorem dd_U_roundTurn_6 : decode bc_U_roundTurn 6 = .ok (.iload 4, 2) := by decide +kernel
theorem dd_U_roundTurn_8 : decode bc_U_roundTurn 8 = .ok (.iload_n 1, 1) := by decide +kernel
theorem dd_U_roundTurn_9 : decode bc_U_roundTurn 9 = .ok (.if_icmp .ge 45, 3) := by decide +kernel
theorem dd_U_roundTurn_12 : decode bc_U_roundTurn 12 = .ok (.iload 4, 2) := by decide +kernel
theorem dd_U_roundTurn_14 : decode bc_U_roundTurn 14 = .ok (.iconst 1, 1) := by decide +kernel
theorem dd_U_roundTurn_15 : decode bc_U_roundTurn 15 = .ok (.iadd, 1) := by decide +kernel
theorem dd_U_roundTurn_16 : decode bc_U_roundTurn 16 = .ok (.iload_n 1, 1) := by decide +kernel
theorem dd_U_roundTurn_17 : decode bc_U_roundTurn 17 = .ok (.if_icmp .ge 10, 3) := by decide +kernel
theorem dd_U_roundTurn_20 : decode bc_U_roundTurn 20 = .ok (.iload 4, 2) := by decide +kernel
theorem dd_U_roundTurn_22 : decode bc_U_roundTurn 22 = .ok (.iconst 1, 1) := by decide +kernel
theorem dd_U_roundTurn_23 : decode bc_U_roundTurn 23 = .ok (.iadd, 1) := by decide +kernel
theorem dd_U_roundTurn_24 : decode bc_U_roundTurn 24 = .ok (.goto 4, 3) := by decide +kernel
theorem dd_U_roundTurn_27 : decode bc_U_roundTurn 27 = .ok (.iconst 0, 1) := by decide +kernel
theorem dd_U_roundTurn_28 : decode bc_U_roundTurn 28 = .ok (.istore 5, 2) := by decide +kernel
theorem dd_U_roundTurn_30 : decode bc_U_roundTurn 30 = .ok (.iload_n 3, 1) := by decide +kernel
theorem dd_U_roundTurn_31 : decode bc_U_roundTurn 31 = .ok (.iload_n 0, 1) := by decide +kernel
theorem dd_U_roundTurn_32 : decode bc_U_roundTurn 32 = .ok (.iload 4, 2) := by decide +kernel
theorem dd_U_roundTurn_34 : decode bc_U_roundTurn 34 = .ok (.iload_n 2, 1) := by decide +kernel
theorem dd_U_roundTurn_35 : decode bc_U_roundTurn 35 = .ok (.imul, 1) := by decide +kernel
theorem dd_U_roundTurn_36 : decode bc_U_roundTurn 36 = .ok (.iadd, 1) := by decide +kernel
theorem dd_U_roundTurn_37 : decode bc_U_roundTurn 37 = .ok (.iload_n 0, 1) := by decide +kernel
theorem dd_U_roundTurn_38 : decode bc_U_roundTurn 38 = .ok (.iload 5, 2) := by decide +kernel
theorem dd_U_roundTurn_40 : decode bc_U_roundTurn 40 = .ok (.iload_n 2, 1) := by decide +kernel
theorem dd_U_roundTurn_41 : decode bc_U_roundTurn 41 = .ok (.imul, 1) := by decide +kernel
theorem dd_U_roundTurn_42 : decode bc_U_roundTurn 42 = .ok (.iadd, 1) := by decide +kernel
theorem dd_U_roundTurn_43 : decode bc_U_roundTurn 43 = .ok (.iload_n 2, 1) := by decide +kernel
theorem dd_U_roundTurn_44 : decode bc_U_roundTurn 44 = .ok (.invokestatic 28, 3) := by decide +kernel
theorem dd_U_roundTurn_47 : decode bc_U_roundTurn 47 = .ok (.istore_n 3, 1) := by decide +kernel
theorem dd_U_roundTurn_48 : decode bc_U_roundTurn 48 = .ok (.iinc 4 1, 3) := by decide +kernel
theorem dd_U_roundTurn_51 : decode bc_U_roundTurn 51 = .ok (.goto (-45), 3) := by decide +kernel
theorem dd_U_roundTurn_54 : decode bc_U_roundTurn 54 = .ok (.iload_n 3, 1) := by decide +kernel
theorem dd_U_roundTurn_55 : decode bc_U_roundTurn 55 = .ok (.ireturn, 1) := by decide +kernel
theorem dd_U_flipTurn_0 : decode bc_U_flipTurn 0 = .ok (.ldc 24, 2) := by decide +kernel
theorem dd_U_flipTurn_2 : decode bc_U_flipTurn 2 = .ok (.istore_n 3, 1) := by decide +kernel
theorem dd_U_flipTurn_3 : decode bc_U_flipTurn 3 = .ok (.iconst 0, 1) := by decide +kernel
theorem dd_U_flipTurn_4 : decode bc_U_flipTurn 4 = .ok (.istore 4, 2) := by decide +kernel
theorem dd_U_flipTurn_6 : decode bc_U_flipTurn 6 = .ok (.iload 4, 2) := by decide +kernel
theorem dd_U_flipTurn_8 : decode bc_U_flipTurn 8 = .ok (.iload_n 1, 1) := by decide +kernel
theorem dd_U_flipTurn_9 : decode bc_U_flipTurn 9 = .ok (.if_icmp .ge 31, 3) := by decide +kernel
theorem dd_U_flipTurn_12 : decode bc_U_flipTurn 12 = .ok (.iload_n 3, 1) := by decide +kernel
theorem dd_U_flipTurn_13 : decode bc_U_flipTurn 13 = .ok (.iload_n 0, 1) := by decide +kernel
theorem dd_U_flipTurn_14 : decode bc_U_flipTurn 14 = .ok (.iload 4, 2) := by decide +kernel
theorem dd_U_flipTurn_16 : decode bc_U_flipTurn 16 = .ok (.iload_n 2, 1) := by decide +kernel
theorem dd_U_flipTurn_17 : decode bc_U_flipTurn 17 = .ok (.imul, 1) := by decide +kernel
theorem dd_U_flipTurn_18 : decode bc_U_flipTurn 18 = .ok (.iadd, 1) := by decide +kernel
theorem dd_U_flipTurn_19 : decode bc_U_flipTurn 19 = .ok (.iload_n 0, 1) := by decide +kernel
theorem dd_U_flipTurn_20 : decode bc_U_flipTurn 20 = .ok (.iload_n 1, 1) := by decide +kernel
theorem dd_U_flipTurn_21 : decode bc_U_flipTurn 21 = .ok (.iconst 1, 1) := by decide +kernel
theorem dd_U_flipTurn_22 : decode bc_U_flipTurn 22 = .ok (.isub, 1) := by decide +kernel
theorem dd_U_flipTurn_23 : decode bc_U_flipTurn 23 = .ok (.iload 4, 2) := by decide +kernel
theorem dd_U_flipTurn_25 : decode bc_U_flipTurn 25 = .ok (.isub, 1) := by decide +kernel
theorem dd_U_flipTurn_26 : decode bc_U_flipTurn 26 = .ok (.iload_n 2, 1) := by decide +kernel
theorem dd_U_flipTurn_27 : decode bc_U_flipTurn 27 = .ok (.imul, 1) := by decide +kernel
theorem dd_U_flipTurn_28 : decode bc_U_flipTurn 28 = .ok (.iadd, 1) := by decide +kernel
theorem dd_U_flipTurn_29 : decode bc_U_flipTurn 29 = .ok (.iload_n 2, 1) := by decide +kernel
theorem dd_U_flipTurn_30 : decode bc_U_flipTurn 30 = .ok (.invokestatic 28, 3) := by decide +kernel
theorem dd_U_flipTurn_33 : decode bc_U_flipTurn 33 = .ok (.istore_n 3, 1) := by decide +kernel
theorem dd_U_flipTurn_34 : decode bc_U_flipTurn 34 = .ok (.iinc 4 1, 3) := by decide +kernel
theorem dd_U_flipTurn_37 : decode bc_U_flipTurn 37 = .ok (.goto (-31), 3) := by decide +kernel
theorem dd_U_flipTurn_40 : decode bc_U_flipTurn 40 = .ok (.iload_n 3, 1) := by decide +kernel
theorem dd_U_flipTurn_41 : decode bc_U_flipTurn 41 = .ok (.ireturn, 1) := by decide +kernel
theorem dd_U_withThing_0 : decode bc_U_withThing 0 = .ok (.iload_n 0, 1) := by decide +kernel
theorem dd_U_withThing_1 : decode bc_U_withThing 1 = .ok (.istore 4, 2) := by decide +kernel
theorem dd_U_withThing_3 : decode bc_U_withThing 3 = .ok (.iconst 0, 1) := by decide +kernel
theorem dd_U_withThing_4 : decode bc_U_withThing 4 = .ok (.istore 5, 2) := by decide +kernel
theorem dd_U_withThing_6 : decode bc_U_withThing 6 = .ok (.iload 5, 2) := by decide +kernel
theorem dd_U_withThing_8 : decode bc_U_withThing 8 = .ok (.iload_n 3, 1) := by decide +kernel
theorem dd_U_withThing_9 : decode bc_U_withThing 9 = .ok (.if_icmp .ge 24, 3) := by decide +kernel
theorem dd_U_withThing_12 : decode bc_U_withThing 12 = .ok (.iload 4, 2) := by decide +kernel
theorem dd_U_withThing_14 : decode bc_U_withThing 14 = .ok (.iload_n 1, 1) := by decide +kernel
theorem dd_U_withThing_15 : decode bc_U_withThing 15 = .ok (.iload 5, 2) := by decide +kernel
theorem dd_U_withThing_17 : decode bc_U_withThing 17 = .ok (.iadd, 1) := by decide +kernel
theorem dd_U_withThing_18 : decode bc_U_withThing 18 = .ok (.iload_n 2, 1) := by decide +kernel
theorem dd_U_withThing_19 : decode bc_U_withThing 19 = .ok (.iload 5, 2) := by decide +kernel
theorem dd_U_withThing_21 : decode bc_U_withThing 21 = .ok (.iadd, 1) := by decide +kernel
theorem dd_U_withThing_22 : decode bc_U_withThing 22 = .ok (.invokestatic 32, 3) := by decide +kernel
theorem dd_U_withThing_25 : decode bc_U_withThing 25 = .ok (.istore 4, 2) := by decide +kernel
theorem dd_U_withThing_27 : decode bc_U_withThing 27 = .ok (.iinc 5 1, 3) := by decide +kernel
theorem dd_U_withThing_30 : decode bc_U_withThing 30 = .ok (.goto (-24), 3) := by decide +kernel
theorem dd_U_withThing_33 : decode bc_U_withThing 33 = .ok (.iload 4, 2) := by decide +kernel
theorem dd_U_withThing_35 : decode bc_U_withThing 35 = .ok (.ireturn, 1) := by decide +kernel
theorem dd_Y_init_0 : decode bc_Y_init 0 = .ok (.aload_n 0, 1) := by decide +kernel
theorem dd_Y_init_1 : decode bc_Y_init 1 = .ok (.invokespecial 3, 3) := by decide +kernel
theorem dd_Y_init_4 : decode bc_Y_init 4 = .ok (.aload_n 0, 1) := by decide +kernel
theorem dd_Y_init_5 : decode bc_Y_init 5 = .ok (.bipush 15, 2) := by decide +kernel
theorem dd_Y_init_7 : decode bc_Y_init 7 = .ok (.newarray .int, 2) := by decide +kernel
theorem dd_Y_init_9 : decode bc_Y_init 9 = .ok (.putfield 9, 3) := by decide +kernel
theorem dd_Y_init_12 : decode bc_Y_init 12 = .ok (.aload_n 0, 1) := by decide +kernel
theorem dd_Y_init_13 : decode bc_Y_init 13 = .ok (.bipush 15, 2) := by decide +kernel
theorem dd_Y_init_15 : decode bc_Y_init 15 = .ok (.newarray .int, 2) := by decide +kernel
theorem dd_Y_init_17 : decode bc_Y_init 17 = .ok (.putfield 15, 3) := by decide +kernel
theorem dd_Y_init_20 : decode bc_Y_init 20 = .ok (.aload_n 0, 1) := by decide +kernel
theorem dd_Y_init_21 : decode bc_Y_init 21 = .ok (.iconst 0, 1) := by decide +kernel
theorem dd_Y_init_22 : decode bc_Y_init 22 = .ok (.putfield 18, 3) := by decide +kernel
theorem dd_Y_init_25 : decode bc_Y_init 25 = .ok (.aload_n 0, 1) := by decide +kernel
theorem dd_Y_init_26 : decode bc_Y_init 26 = .ok (.iconst 0, 1) := by decide +kernel
theorem dd_Y_init_27 : decode bc_Y_init 27 = .ok (.putfield 22, 3) := by decide +kernel
theorem dd_Y_init_30 : decode bc_Y_init 30 = .ok (.return_, 1) := by decide +kernel
theorem dd_Y_bringUp_0 : decode bc_Y_bringUp 0 = .ok (.aload_n 0, 1) := by decide +kernel
theorem dd_Y_bringUp_1 : decode bc_Y_bringUp 1 = .ok (.getfield 22, 3) := by decide +kernel
theorem dd_Y_bringUp_4 : decode bc_Y_bringUp 4 = .ok (.ifCond .eq 4, 3) := by decide +kernel
theorem dd_Y_bringUp_7 : decode bc_Y_bringUp 7 = .ok (.return_, 1) := by decide +kernel
theorem dd_Y_bringUp_8 : decode bc_Y_bringUp 8 = .ok (.aload_n 0, 1) := by decide +kernel
theorem dd_Y_bringUp_9 : decode bc_Y_bringUp 9 = .ok (.iconst 0, 1) := by decide +kernel
theorem dd_Y_bringUp_10 : decode bc_Y_bringUp 10 = .ok (.putfield 18, 3) := by decide +kernel
theorem dd_Y_bringUp_13 : decode bc_Y_bringUp 13 = .ok (.iconst 0, 1) := by decide +kernel
theorem dd_Y_bringUp_14 : decode bc_Y_bringUp 14 = .ok (.istore_n 2, 1) := by decide +kernel
theorem dd_Y_bringUp_15 : decode bc_Y_bringUp 15 = .ok (.iload_n 2, 1) := by decide +kernel
theorem dd_Y_bringUp_16 : decode bc_Y_bringUp 16 = .ok (.aload_n 1, 1) := by decide +kernel
theorem dd_Y_bringUp_17 : decode bc_Y_bringUp 17 = .ok (.getfield 26, 3) := by decide +kernel
theorem dd_Y_bringUp_20 : decode bc_Y_bringUp 20 = .ok (.getfield 32, 3) := by decide +kernel
theorem dd_Y_bringUp_23 : decode bc_Y_bringUp 23 = .ok (.if_icmp .ge 29, 3) := by decide +kernel
theorem dd_Y_bringUp_26 : decode bc_Y_bringUp 26 = .ok (.aload_n 0, 1) := by decide +kernel
theorem dd_Y_bringUp_27 : decode bc_Y_bringUp 27 = .ok (.aload_n 1, 1) := by decide +kernel
theorem dd_Y_bringUp_28 : decode bc_Y_bringUp 28 = .ok (.getfield 26, 3) := by decide +kernel
theorem dd_Y_bringUp_31 : decode bc_Y_bringUp 31 = .ok (.getfield 37, 3) := by decide +kernel
theorem dd_Y_bringUp_34 : decode bc_Y_bringUp 34 = .ok (.iload_n 2, 1) := by decide +kernel
theorem dd_Y_bringUp_35 : decode bc_Y_bringUp 35 = .ok (.iaload, 1) := by decide +kernel
theorem dd_Y_bringUp_36 : decode bc_Y_bringUp 36 = .ok (.aload_n 1, 1) := by decide +kernel
theorem dd_Y_bringUp_37 : decode bc_Y_bringUp 37 = .ok (.getfield 38, 3) := by decide +kernel
theorem dd_Y_bringUp_40 : decode bc_Y_bringUp 40 = .ok (.invokestatic 41, 3) := by decide +kernel
theorem dd_Y_bringUp_43 : decode bc_Y_bringUp 43 = .ok (.invokevirtual 47, 3) := by decide +kernel
theorem dd_Y_bringUp_46 : decode bc_Y_bringUp 46 = .ok (.iinc 2 1, 3) := by decide +kernel
theorem dd_Y_bringUp_49 : decode bc_Y_bringUp 49 = .ok (.goto (-34), 3) := by decide +kernel
theorem dd_Y_bringUp_52 : decode bc_Y_bringUp 52 = .ok (.aload_n 0, 1) := by decide +kernel
theorem dd_Y_bringUp_53 : decode bc_Y_bringUp 53 = .ok (.iconst 1, 1) := by decide +kernel
theorem dd_Y_bringUp_54 : decode bc_Y_bringUp 54 = .ok (.putfield 22, 3) := by decide +kernel
theorem dd_Y_bringUp_57 : decode bc_Y_bringUp 57 = .ok (.return_, 1) := by decide +kernel
theorem dd_Y_add_0 : decode bc_Y_add 0 = .ok (.iconst 0, 1) := by decide +kernel
theorem dd_Y_add_1 : decode bc_Y_add 1 = .ok (.istore_n 2, 1) := by decide +kernel
theorem dd_Y_add_2 : decode bc_Y_add 2 = .ok (.iload_n 2, 1) := by decide +kernel
theorem dd_Y_add_3 : decode bc_Y_add 3 = .ok (.aload_n 0, 1) := by decide +kernel
theorem dd_Y_add_4 : decode bc_Y_add 4 = .ok (.getfield 18, 3) := by decide +kernel
theorem dd_Y_add_7 : decode bc_Y_add 7 = .ok (.if_icmp .ge 19, 3) := by decide +kernel
theorem dd_Y_add_10 : decode bc_Y_add 10 = .ok (.aload_n 0, 1) := by decide +kernel
theorem dd_Y_add_11 : decode bc_Y_add 11 = .ok (.getfield 9, 3) := by decide +kernel
theorem dd_Y_add_14 : decode bc_Y_add 14 = .ok (.iload_n 2, 1) := by decide +kernel
theorem dd_Y_add_15 : decode bc_Y_add 15 = .ok (.iaload, 1) := by decide +kernel
theorem dd_Y_add_16 : decode bc_Y_add 16 = .ok (.iload_n 1, 1) := by decide +kernel
theorem dd_Y_add_17 : decode bc_Y_add 17 = .ok (.if_icmp .le 9, 3) := by decide +kernel
theorem dd_Y_add_20 : decode bc_Y_add 20 = .ok (.iinc 2 1, 3) := by decide +kernel
theorem dd_Y_add_23 : decode bc_Y_add 23 = .ok (.goto (-21), 3) := by decide +kernel
theorem dd_Y_add_26 : decode bc_Y_add 26 = .ok (.iload_n 2, 1) := by decide +kernel
theorem dd_Y_add_27 : decode bc_Y_add 27 = .ok (.aload_n 0, 1) := by decide +kernel
theorem dd_Y_add_28 : decode bc_Y_add 28 = .ok (.getfield 18, 3) := by decide +kernel
theorem dd_Y_add_31 : decode bc_Y_add 31 = .ok (.if_icmp .ge 26, 3) := by decide +kernel
theorem dd_Y_add_34 : decode bc_Y_add 34 = .ok (.aload_n 0, 1) := by decide +kernel
theorem dd_Y_add_35 : decode bc_Y_add 35 = .ok (.getfield 9, 3) := by decide +kernel
theorem dd_Y_add_38 : decode bc_Y_add 38 = .ok (.iload_n 2, 1) := by decide +kernel
theorem dd_Y_add_39 : decode bc_Y_add 39 = .ok (.iaload, 1) := by decide +kernel
theorem dd_Y_add_40 : decode bc_Y_add 40 = .ok (.iload_n 1, 1) := by decide +kernel
theorem dd_Y_add_41 : decode bc_Y_add 41 = .ok (.if_icmp .ne 16, 3) := by decide +kernel
theorem dd_Y_add_44 : decode bc_Y_add 44 = .ok (.aload_n 0, 1) := by decide +kernel
theorem dd_Y_add_45 : decode bc_Y_add 45 = .ok (.getfield 15, 3) := by decide +kernel
theorem dd_Y_add_48 : decode bc_Y_add 48 = .ok (.iload_n 2, 1) := by decide +kernel
theorem dd_Y_add_49 : decode bc_Y_add 49 = .ok (.dup2, 1) := by decide +kernel
theorem dd_Y_add_50 : decode bc_Y_add 50 = .ok (.iaload, 1) := by decide +kernel
theorem dd_Y_add_51 : decode bc_Y_add 51 = .ok (.iconst 1, 1) := by decide +kernel
theorem dd_Y_add_52 : decode bc_Y_add 52 = .ok (.iadd, 1) := by decide +kernel
theorem dd_Y_add_53 : decode bc_Y_add 53 = .ok (.iastore, 1) := by decide +kernel
theorem dd_Y_add_54 : decode bc_Y_add 54 = .ok (.goto 18, 3) := by decide +kernel
theorem dd_Y_add_57 : decode bc_Y_add 57 = .ok (.aload_n 0, 1) := by decide +kernel
theorem dd_Y_add_58 : decode bc_Y_add 58 = .ok (.getfield 18, 3) := by decide +kernel
theorem dd_Y_add_61 : decode bc_Y_add 61 = .ok (.bipush 15, 2) := by decide +kernel
theorem dd_Y_add_63 : decode bc_Y_add 63 = .ok (.if_icmp .ge 9, 3) := by decide +kernel
theorem dd_Y_add_66 : decode bc_Y_add 66 = .ok (.aload_n 0, 1) := by decide +kernel
theorem dd_Y_add_67 : decode bc_Y_add 67 = .ok (.iload_n 2, 1) := by decide +kernel
theorem dd_Y_add_68 : decode bc_Y_add 68 = .ok (.iload_n 1, 1) := by decide +kernel
theorem dd_Y_add_69 : decode bc_Y_add 69 = .ok (.invokevirtual 51, 3) := by decide +kernel
theorem dd_Y_add_72 : decode bc_Y_add 72 = .ok (.return_, 1) := by decide +kernel
theorem dd_Y_insert_0 : decode bc_Y_insert 0 = .ok (.aload_n 0, 1) := by decide +kernel
theorem dd_Y_insert_1 : decode bc_Y_insert 1 = .ok (.getfield 18, 3) := by decide +kernel
theorem dd_Y_insert_4 : decode bc_Y_insert 4 = .ok (.istore_n 3, 1) := by decide +kernel
theorem dd_Y_insert_5 : decode bc_Y_insert 5 = .ok (.iload_n 3, 1) := by decide +kernel
theorem dd_Y_insert_6 : decode bc_Y_insert 6 = .ok (.iload_n 1, 1) := by decide +kernel
theorem dd_Y_insert_7 : decode bc_Y_insert 7 = .ok (.if_icmp .le 37, 3) := by decide +kernel
theorem dd_Y_insert_10 : decode bc_Y_insert 10 = .ok (.aload_n 0, 1) := by decide +kernel
theorem dd_Y_insert_11 : decode bc_Y_insert 11 = .ok (.getfield 9, 3) := by decide +kernel
theorem dd_Y_insert_14 : decode bc_Y_insert 14 = .ok (.iload_n 3, 1) := by decide +kernel
theorem dd_Y_insert_15 : decode bc_Y_insert 15 = .ok (.aload_n 0, 1) := by decide +kernel
theorem dd_Y_insert_16 : decode bc_Y_insert 16 = .ok (.getfield 9, 3) := by decide +kernel
theorem dd_Y_insert_19 : decode bc_Y_insert 19 = .ok (.iload_n 3, 1) := by decide +kernel
theorem dd_Y_insert_20 : decode bc_Y_insert 20 = .ok (.iconst 1, 1) := by decide +kernel
theorem dd_Y_insert_21 : decode bc_Y_insert 21 = .ok (.isub, 1) := by decide +kernel
theorem dd_Y_insert_22 : decode bc_Y_insert 22 = .ok (.iaload, 1) := by decide +kernel
theorem dd_Y_insert_23 : decode bc_Y_insert 23 = .ok (.iastore, 1) := by decide +kernel
theorem dd_Y_insert_24 : decode bc_Y_insert 24 = .ok (.aload_n 0, 1) := by decide +kernel
theorem dd_Y_insert_25 : decode bc_Y_insert 25 = .ok (.getfield 15, 3) := by decide +kernel
theorem dd_Y_insert_28 : decode bc_Y_insert 28 = .ok (.iload_n 3, 1) := by decide +kernel
theorem dd_Y_insert_29 : decode bc_Y_insert 29 = .ok (.aload_n 0, 1) := by decide +kernel
theorem dd_Y_insert_30 : decode bc_Y_insert 30 = .ok (.getfield 15, 3) := by decide +kernel
theorem dd_Y_insert_33 : decode bc_Y_insert 33 = .ok (.iload_n 3, 1) := by decide +kernel
theorem dd_Y_insert_34 : decode bc_Y_insert 34 = .ok (.iconst 1, 1) := by decide +kernel
theorem dd_Y_insert_35 : decode bc_Y_insert 35 = .ok (.isub, 1) := by decide +kernel
theorem dd_Y_insert_36 : decode bc_Y_insert 36 = .ok (.iaload, 1) := by decide +kernel
theorem dd_Y_insert_37 : decode bc_Y_insert 37 = .ok (.iastore, 1) := by decide +kernel
theorem dd_Y_insert_38 : decode bc_Y_insert 38 = .ok (.iinc 3 (-1), 3) := by decide +kernel
theorem dd_Y_insert_41 : decode bc_Y_insert 41 = .ok (.goto (-36), 3) := by decide +kernel
theorem dd_Y_insert_44 : decode bc_Y_insert 44 = .ok (.aload_n 0, 1) := by decide +kernel
theorem dd_Y_insert_45 : decode bc_Y_insert 45 = .ok (.getfield 9, 3) := by decide +kernel
theorem dd_Y_insert_48 : decode bc_Y_insert 48 = .ok (.iload_n 1, 1) := by decide +kernel
theorem dd_Y_insert_49 : decode bc_Y_insert 49 = .ok (.iload_n 2, 1) := by decide +kernel
theorem dd_Y_insert_50 : decode bc_Y_insert 50 = .ok (.iastore, 1) := by decide +kernel
theorem dd_Y_insert_51 : decode bc_Y_insert 51 = .ok (.aload_n 0, 1) := by decide +kernel
theorem dd_Y_insert_52 : decode bc_Y_insert 52 = .ok (.getfield 15, 3) := by decide +kernel
theorem dd_Y_insert_55 : decode bc_Y_insert 55 = .ok (.iload_n 1, 1) := by decide +kernel
theorem dd_Y_insert_56 : decode bc_Y_insert 56 = .ok (.iconst 1, 1) := by decide +kernel
theorem dd_Y_insert_57 : decode bc_Y_insert 57 = .ok (.iastore, 1) := by decide +kernel
theorem dd_Y_insert_58 : decode bc_Y_insert 58 = .ok (.aload_n 0, 1) := by decide +kernel
theorem dd_Y_insert_59 : decode bc_Y_insert 59 = .ok (.dup, 1) := by decide +kernel
theorem dd_Y_insert_60 : decode bc_Y_insert 60 = .ok (.getfield 18, 3) := by decide +kernel
theorem dd_Y_insert_63 : decode bc_Y_insert 63 = .ok (.iconst 1, 1) := by decide +kernel
theorem dd_Y_insert_64 : decode bc_Y_insert 64 = .ok (.iadd, 1) := by decide +kernel
theorem dd_Y_insert_65 : decode bc_Y_insert 65 = .ok (.putfield 18, 3) := by decide +kernel
theorem dd_Y_insert_68 : decode bc_Y_insert 68 = .ok (.return_, 1) := by decide +kernel
theorem dd_T_init_0 : decode bc_T_init 0 = .ok (.aload_n 0, 1) := by decide +kernel
theorem dd_T_init_1 : decode bc_T_init 1 = .ok (.invokespecial 1, 3) := by decide +kernel
theorem dd_T_init_4 : decode bc_T_init 4 = .ok (.aload_n 0, 1) := by decide +kernel
theorem dd_T_init_5 : decode bc_T_init 5 = .ok (.new 7, 3) := by decide +kernel
theorem dd_T_init_8 : decode bc_T_init 8 = .ok (.dup, 1) := by decide +kernel
theorem dd_T_init_9 : decode bc_T_init 9 = .ok (.invokespecial 9, 3) := by decide +kernel
theorem dd_T_init_12 : decode bc_T_init 12 = .ok (.putfield 10, 3) := by decide +kernel
theorem dd_T_init_15 : decode bc_T_init 15 = .ok (.aload_n 0, 1) := by decide +kernel
theorem dd_T_init_16 : decode bc_T_init 16 = .ok (.iconst 2, 1) := by decide +kernel
theorem dd_T_init_17 : decode bc_T_init 17 = .ok (.anewarray 7, 3) := by decide +kernel
theorem dd_T_init_20 : decode bc_T_init 20 = .ok (.putfield 16, 3) := by decide +kernel
theorem dd_T_init_23 : decode bc_T_init 23 = .ok (.iconst 0, 1) := by decide +kernel
theorem dd_T_init_24 : decode bc_T_init 24 = .ok (.istore_n 1, 1) := by decide +kernel
theorem dd_T_init_25 : decode bc_T_init 25 = .ok (.iload_n 1, 1) := by decide +kernel
theorem dd_T_init_26 : decode bc_T_init 26 = .ok (.iconst 2, 1) := by decide +kernel
theorem dd_T_init_27 : decode bc_T_init 27 = .ok (.if_icmp .ge 22, 3) := by decide +kernel
theorem dd_T_init_30 : decode bc_T_init 30 = .ok (.aload_n 0, 1) := by decide +kernel
theorem dd_T_init_31 : decode bc_T_init 31 = .ok (.getfield 16, 3) := by decide +kernel
theorem dd_T_init_34 : decode bc_T_init 34 = .ok (.iload_n 1, 1) := by decide +kernel
theorem dd_T_init_35 : decode bc_T_init 35 = .ok (.new 7, 3) := by decide +kernel
theorem dd_T_init_38 : decode bc_T_init 38 = .ok (.dup, 1) := by decide +kernel
theorem dd_T_init_39 : decode bc_T_init 39 = .ok (.invokespecial 9, 3) := by decide +kernel
theorem dd_T_init_42 : decode bc_T_init 42 = .ok (.aastore, 1) := by decide +kernel
theorem dd_T_init_43 : decode bc_T_init 43 = .ok (.iinc 1 1, 3) := by decide +kernel
theorem dd_T_init_46 : decode bc_T_init 46 = .ok (.goto (-21), 3) := by decide +kernel
theorem dd_T_init_49 : decode bc_T_init 49 = .ok (.aload_n 0, 1) := by decide +kernel
theorem dd_T_init_50 : decode bc_T_init 50 = .ok (.iconst 0, 1) := by decide +kernel
theorem dd_T_init_51 : decode bc_T_init 51 = .ok (.putfield 20, 3) := by decide +kernel
theorem dd_T_init_54 : decode bc_T_init 54 = .ok (.aload_n 0, 1) := by decide +kernel
theorem dd_T_init_55 : decode bc_T_init 55 = .ok (.new 24, 3) := by decide +kernel
theorem dd_T_init_58 : decode bc_T_init 58 = .ok (.dup, 1) := by decide +kernel
theorem dd_T_init_59 : decode bc_T_init 59 = .ok (.invokespecial 26, 3) := by decide +kernel
theorem dd_T_init_62 : decode bc_T_init 62 = .ok (.putfield 27, 3) := by decide +kernel
theorem dd_T_init_65 : decode bc_T_init 65 = .ok (.aload_n 0, 1) := by decide +kernel
theorem dd_T_init_66 : decode bc_T_init 66 = .ok (.new 31, 3) := by decide +kernel
theorem dd_T_init_69 : decode bc_T_init 69 = .ok (.dup, 1) := by decide +kernel
theorem dd_T_init_70 : decode bc_T_init 70 = .ok (.invokespecial 33, 3) := by decide +kernel
theorem dd_T_init_73 : decode bc_T_init 73 = .ok (.putfield 34, 3) := by decide +kernel
theorem dd_T_init_76 : decode bc_T_init 76 = .ok (.aload_n 0, 1) := by decide +kernel
theorem dd_T_init_77 : decode bc_T_init 77 = .ok (.new 38, 3) := by decide +kernel
theorem dd_T_init_80 : decode bc_T_init 80 = .ok (.dup, 1) := by decide +kernel
theorem dd_T_init_81 : decode bc_T_init 81 = .ok (.invokespecial 40, 3) := by decide +kernel
theorem dd_T_init_84 : decode bc_T_init 84 = .ok (.putfield 41, 3) := by decide +kernel
theorem dd_T_init_87 : decode bc_T_init 87 = .ok (.return_, 1) := by decide +kernel
theorem dd_T_points_0 : decode bc_T_points 0 = .ok (.iload_n 1, 1) := by decide +kernel
theorem dd_T_points_1 : decode bc_T_points 1 = .ok (.iconst 1, 1) := by decide +kernel
theorem dd_T_points_2 : decode bc_T_points 2 = .ok (.bipush 7, 2) := by decide +kernel
theorem dd_T_points_4 : decode bc_T_points 4 = .ok (.invokestatic 45, 3) := by decide +kernel
theorem dd_T_points_7 : decode bc_T_points 7 = .ok (.ifCond .ne 6, 3) := by decide +kernel
theorem dd_T_points_10 : decode bc_T_points 10 = .ok (.bipush (-2), 2) := by decide +kernel
theorem dd_T_points_12 : decode bc_T_points 12 = .ok (.ireturn, 1) := by decide +kernel
theorem dd_T_points_13 : decode bc_T_points 13 = .ok (.aload_n 0, 1) := by decide +kernel
theorem dd_T_points_14 : decode bc_T_points 14 = .ok (.getfield 10, 3) := by decide +kernel
theorem dd_T_points_17 : decode bc_T_points 17 = .ok (.getfield 49, 3) := by decide +kernel
theorem dd_T_points_20 : decode bc_T_points 20 = .ok (.istore_n 2, 1) := by decide +kernel
theorem dd_T_points_21 : decode bc_T_points 21 = .ok (.aload_n 0, 1) := by decide +kernel
theorem dd_T_points_22 : decode bc_T_points 22 = .ok (.getfield 10, 3) := by decide +kernel
theorem dd_T_points_25 : decode bc_T_points 25 = .ok (.iload_n 1, 1) := by decide +kernel
theorem dd_T_points_26 : decode bc_T_points 26 = .ok (.putfield 49, 3) := by decide +kernel
theorem dd_T_points_29 : decode bc_T_points 29 = .ok (.aload_n 0, 1) := by decide +kernel
theorem dd_T_points_30 : decode bc_T_points 30 = .ok (.getfield 10, 3) := by decide +kernel
theorem dd_T_points_33 : decode bc_T_points 33 = .ok (.getfield 52, 3) := by decide +kernel
theorem dd_T_points_36 : decode bc_T_points 36 = .ok (.invokevirtual 56, 3) := by decide +kernel
theorem dd_T_points_39 : decode bc_T_points 39 = .ok (.aload_n 0, 1) := by decide +kernel
theorem dd_T_points_40 : decode bc_T_points 40 = .ok (.invokevirtual 61, 3) := by decide +kernel
theorem dd_T_points_43 : decode bc_T_points 43 = .ok (.iload_n 2, 1) := by decide +kernel
theorem dd_T_points_44 : decode bc_T_points 44 = .ok (.ireturn, 1) := by decide +kernel
theorem dd_T_beside_0 : decode bc_T_beside 0 = .ok (.iload_n 1, 1) := by decide +kernel
theorem dd_T_beside_1 : decode bc_T_beside 1 = .ok (.iconst 0, 1) := by decide +kernel
theorem dd_T_beside_2 : decode bc_T_beside 2 = .ok (.aload_n 0, 1) := by decide +kernel
theorem dd_T_beside_3 : decode bc_T_beside 3 = .ok (.getfield 10, 3) := by decide +kernel
theorem dd_T_beside_6 : decode bc_T_beside 6 = .ok (.getfield 49, 3) := by decide +kernel
theorem dd_T_beside_9 : decode bc_T_beside 9 = .ok (.invokestatic 45, 3) := by decide +kernel
theorem dd_T_beside_12 : decode bc_T_beside 12 = .ok (.ifCond .eq 17, 3) := by decide +kernel
theorem dd_T_beside_15 : decode bc_T_beside 15 = .ok (.iload_n 2, 1) := by decide +kernel
theorem dd_T_beside_16 : decode bc_T_beside 16 = .ok (.invokestatic 64, 3) := by decide +kernel
theorem dd_T_beside_19 : decode bc_T_beside 19 = .ok (.ifCond .eq 10, 3) := by decide +kernel
theorem dd_T_beside_22 : decode bc_T_beside 22 = .ok (.iload_n 3, 1) := by decide +kernel
theorem dd_T_beside_23 : decode bc_T_beside 23 = .ok (.invokestatic 64, 3) := by decide +kernel
theorem dd_T_beside_26 : decode bc_T_beside 26 = .ok (.ifCond .ne 6, 3) := by decide +kernel
theorem dd_T_beside_29 : decode bc_T_beside 29 = .ok (.bipush (-2), 2) := by decide +kernel
theorem dd_T_beside_31 : decode bc_T_beside 31 = .ok (.ireturn, 1) := by decide +kernel
theorem dd_T_beside_32 : decode bc_T_beside 32 = .ok (.aload_n 0, 1) := by decide +kernel
theorem dd_T_beside_33 : decode bc_T_beside 33 = .ok (.getfield 10, 3) := by decide +kernel
theorem dd_T_beside_36 : decode bc_T_beside 36 = .ok (.getfield 52, 3) := by decide +kernel
theorem dd_T_beside_39 : decode bc_T_beside 39 = .ok (.invokevirtual 56, 3) := by decide +kernel
theorem dd_T_beside_42 : decode bc_T_beside 42 = .ok (.aload_n 0, 1) := by decide +kernel
theorem dd_T_beside_43 : decode bc_T_beside 43 = .ok (.getfield 10, 3) := by decide +kernel
theorem dd_T_beside_46 : decode bc_T_beside 46 = .ok (.getfield 52, 3) := by decide +kernel
theorem dd_T_beside_49 : decode bc_T_beside 49 = .ok (.iload_n 2, 1) := by decide +kernel
theorem dd_T_beside_50 : decode bc_T_beside 50 = .ok (.iconst 0, 1) := by decide +kernel
theorem dd_T_beside_51 : decode bc_T_beside 51 = .ok (.iload_n 1, 1) := by decide +kernel
theorem dd_T_beside_52 : decode bc_T_beside 52 = .ok (.iconst 1, 1) := by decide +kernel
theorem dd_T_beside_53 : decode bc_T_beside 53 = .ok (.invokevirtual 68, 3) := by decide +kernel
theorem dd_T_beside_56 : decode bc_T_beside 56 = .ok (.aload_n 0, 1) := by decide +kernel
theorem dd_T_beside_57 : decode bc_T_beside 57 = .ok (.getfield 10, 3) := by decide +kernel
theorem dd_T_beside_60 : decode bc_T_beside 60 = .ok (.getfield 52, 3) := by decide +kernel
theorem dd_T_beside_63 : decode bc_T_beside 63 = .ok (.iload_n 3, 1) := by decide +kernel
theorem dd_T_beside_64 : decode bc_T_beside 64 = .ok (.iload_n 1, 1) := by decide +kernel
theorem dd_T_beside_65 : decode bc_T_beside 65 = .ok (.aload_n 0, 1) := by decide +kernel
theorem dd_T_beside_66 : decode bc_T_beside 66 = .ok (.getfield 10, 3) := by decide +kernel
theorem dd_T_beside_69 : decode bc_T_beside 69 = .ok (.getfield 49, 3) := by decide +kernel
theorem dd_T_beside_72 : decode bc_T_beside 72 = .ok (.iload_n 1, 1) := by decide +kernel
theorem dd_T_beside_73 : decode bc_T_beside 73 = .ok (.isub, 1) := by decide +kernel
theorem dd_T_beside_74 : decode bc_T_beside 74 = .ok (.iconst 1, 1) := by decide +kernel
theorem dd_T_beside_75 : decode bc_T_beside 75 = .ok (.invokevirtual 68, 3) := by decide +kernel
theorem dd_T_beside_78 : decode bc_T_beside 78 = .ok (.aload_n 0, 1) := by decide +kernel
theorem dd_T_beside_79 : decode bc_T_beside 79 = .ok (.invokevirtual 61, 3) := by decide +kernel
theorem dd_T_beside_82 : decode bc_T_beside 82 = .ok (.aload_n 0, 1) := by decide +kernel
theorem dd_T_beside_83 : decode bc_T_beside 83 = .ok (.getfield 10, 3) := by decide +kernel
theorem dd_T_beside_86 : decode bc_T_beside 86 = .ok (.getfield 52, 3) := by decide +kernel
theorem dd_T_beside_89 : decode bc_T_beside 89 = .ok (.getfield 72, 3) := by decide +kernel
theorem dd_T_beside_92 : decode bc_T_beside 92 = .ok (.ireturn, 1) := by decide +kernel
theorem dd_T_blocks_0 : decode bc_T_blocks 0 = .ok (.iload_n 1, 1) := by decide +kernel
theorem dd_T_blocks_1 : decode bc_T_blocks 1 = .ok (.iconst 1, 1) := by decide +kernel
theorem dd_T_blocks_2 : decode bc_T_blocks 2 = .ok (.aload_n 0, 1) := by decide +kernel
theorem dd_T_blocks_3 : decode bc_T_blocks 3 = .ok (.getfield 10, 3) := by decide +kernel
theorem dd_T_blocks_6 : decode bc_T_blocks 6 = .ok (.getfield 49, 3) := by decide +kernel
theorem dd_T_blocks_9 : decode bc_T_blocks 9 = .ok (.invokestatic 45, 3) := by decide +kernel
theorem dd_T_blocks_12 : decode bc_T_blocks 12 = .ok (.ifCond .eq 29, 3) := by decide +kernel
theorem dd_T_blocks_15 : decode bc_T_blocks 15 = .ok (.aload_n 0, 1) := by decide +kernel
theorem dd_T_blocks_16 : decode bc_T_blocks 16 = .ok (.getfield 10, 3) := by decide +kernel
theorem dd_T_blocks_19 : decode bc_T_blocks 19 = .ok (.getfield 49, 3) := by decide +kernel
theorem dd_T_blocks_22 : decode bc_T_blocks 22 = .ok (.iload_n 1, 1) := by decide +kernel
theorem dd_T_blocks_23 : decode bc_T_blocks 23 = .ok (.irem, 1) := by decide +kernel
theorem dd_T_blocks_24 : decode bc_T_blocks 24 = .ok (.ifCond .ne 17, 3) := by decide +kernel
theorem dd_T_blocks_27 : decode bc_T_blocks 27 = .ok (.iload_n 2, 1) := by decide +kernel
theorem dd_T_blocks_28 : decode bc_T_blocks 28 = .ok (.invokestatic 64, 3) := by decide +kernel
theorem dd_T_blocks_31 : decode bc_T_blocks 31 = .ok (.ifCond .eq 10, 3) := by decide +kernel
theorem dd_T_blocks_34 : decode bc_T_blocks 34 = .ok (.iload_n 3, 1) := by decide +kernel
theorem dd_T_blocks_35 : decode bc_T_blocks 35 = .ok (.invokestatic 64, 3) := by decide +kernel
theorem dd_T_blocks_38 : decode bc_T_blocks 38 = .ok (.ifCond .ne 6, 3) := by decide +kernel
theorem dd_T_blocks_41 : decode bc_T_blocks 41 = .ok (.bipush (-2), 2) := by decide +kernel
theorem dd_T_blocks_43 : decode bc_T_blocks 43 = .ok (.ireturn, 1) := by decide +kernel
theorem dd_T_blocks_44 : decode bc_T_blocks 44 = .ok (.aload_n 0, 1) := by decide +kernel
theorem dd_T_blocks_45 : decode bc_T_blocks 45 = .ok (.getfield 10, 3) := by decide +kernel
theorem dd_T_blocks_48 : decode bc_T_blocks 48 = .ok (.getfield 49, 3) := by decide +kernel
theorem dd_T_blocks_51 : decode bc_T_blocks 51 = .ok (.iload_n 1, 1) := by decide +kernel
theorem dd_T_blocks_52 : decode bc_T_blocks 52 = .ok (.idiv, 1) := by decide +kernel
theorem dd_T_blocks_53 : decode bc_T_blocks 53 = .ok (.istore 4, 2) := by decide +kernel
theorem dd_T_blocks_55 : decode bc_T_blocks 55 = .ok (.aload_n 0, 1) := by decide +kernel
theorem dd_T_blocks_56 : decode bc_T_blocks 56 = .ok (.getfield 10, 3) := by decide +kernel
theorem dd_T_blocks_59 : decode bc_T_blocks 59 = .ok (.getfield 52, 3) := by decide +kernel
end
section
theorem dd_T_blocks_62 : decode bc_T_blocks 62 = .ok (.invokevirtual 56, 3) := by decide +kernel
theorem dd_T_blocks_65 : decode bc_T_blocks 65 = .ok (.iconst 0, 1) := by decide +kernel
theorem dd_T_blocks_66 : decode bc_T_blocks 66 = .ok (.istore 5, 2) := by decide +kernel
theorem dd_T_blocks_68 : decode bc_T_blocks 68 = .ok (.iload 5, 2) := by decide +kernel
theorem dd_T_blocks_70 : decode bc_T_blocks 70 = .ok (.iload 4, 2) := by decide +kernel
theorem dd_T_blocks_72 : decode bc_T_blocks 72 = .ok (.if_icmp .ge 26, 3) := by decide +kernel
theorem dd_T_blocks_75 : decode bc_T_blocks 75 = .ok (.aload_n 0, 1) := by decide +kernel
theorem dd_T_blocks_76 : decode bc_T_blocks 76 = .ok (.getfield 10, 3) := by decide +kernel
theorem dd_T_blocks_79 : decode bc_T_blocks 79 = .ok (.getfield 52, 3) := by decide +kernel
theorem dd_T_blocks_82 : decode bc_T_blocks 82 = .ok (.iload_n 2, 1) := by decide +kernel
theorem dd_T_blocks_83 : decode bc_T_blocks 83 = .ok (.iload 5, 2) := by decide +kernel
theorem dd_T_blocks_85 : decode bc_T_blocks 85 = .ok (.iload_n 1, 1) := by decide +kernel
theorem dd_T_blocks_86 : decode bc_T_blocks 86 = .ok (.imul, 1) := by decide +kernel
theorem dd_T_blocks_87 : decode bc_T_blocks 87 = .ok (.iload_n 1, 1) := by decide +kernel
theorem dd_T_blocks_88 : decode bc_T_blocks 88 = .ok (.iconst 1, 1) := by decide +kernel
theorem dd_T_blocks_89 : decode bc_T_blocks 89 = .ok (.invokevirtual 68, 3) := by decide +kernel
theorem dd_T_blocks_92 : decode bc_T_blocks 92 = .ok (.iinc 5 1, 3) := by decide +kernel
theorem dd_T_blocks_95 : decode bc_T_blocks 95 = .ok (.goto (-27), 3) := by decide +kernel
theorem dd_T_blocks_98 : decode bc_T_blocks 98 = .ok (.aload_n 0, 1) := by decide +kernel
theorem dd_T_blocks_99 : decode bc_T_blocks 99 = .ok (.getfield 10, 3) := by decide +kernel
theorem dd_T_blocks_102 : decode bc_T_blocks 102 = .ok (.getfield 52, 3) := by decide +kernel
theorem dd_T_blocks_105 : decode bc_T_blocks 105 = .ok (.iload_n 3, 1) := by decide +kernel
theorem dd_T_blocks_106 : decode bc_T_blocks 106 = .ok (.iconst 0, 1) := by decide +kernel
theorem dd_T_blocks_107 : decode bc_T_blocks 107 = .ok (.iload 4, 2) := by decide +kernel
theorem dd_T_blocks_109 : decode bc_T_blocks 109 = .ok (.iload_n 1, 1) := by decide +kernel
theorem dd_T_blocks_110 : decode bc_T_blocks 110 = .ok (.invokevirtual 68, 3) := by decide +kernel
theorem dd_T_blocks_113 : decode bc_T_blocks 113 = .ok (.aload_n 0, 1) := by decide +kernel
theorem dd_T_blocks_114 : decode bc_T_blocks 114 = .ok (.invokevirtual 61, 3) := by decide +kernel
theorem dd_T_blocks_117 : decode bc_T_blocks 117 = .ok (.aload_n 0, 1) := by decide +kernel
theorem dd_T_blocks_118 : decode bc_T_blocks 118 = .ok (.getfield 10, 3) := by decide +kernel
theorem dd_T_blocks_121 : decode bc_T_blocks 121 = .ok (.getfield 52, 3) := by decide +kernel
theorem dd_T_blocks_124 : decode bc_T_blocks 124 = .ok (.getfield 72, 3) := by decide +kernel
theorem dd_T_blocks_127 : decode bc_T_blocks 127 = .ok (.ireturn, 1) := by decide +kernel
theorem dd_T_join_0 : decode bc_T_join 0 = .ok (.aload_n 0, 1) := by decide +kernel
theorem dd_T_join_1 : decode bc_T_join 1 = .ok (.getfield 27, 3) := by decide +kernel
theorem dd_T_join_4 : decode bc_T_join 4 = .ok (.aload_n 0, 1) := by decide +kernel
theorem dd_T_join_5 : decode bc_T_join 5 = .ok (.getfield 10, 3) := by decide +kernel
theorem dd_T_join_8 : decode bc_T_join 8 = .ok (.getfield 49, 3) := by decide +kernel
theorem dd_T_join_11 : decode bc_T_join 11 = .ok (.invokevirtual 75, 3) := by decide +kernel
theorem dd_T_join_14 : decode bc_T_join 14 = .ok (.istore_n 1, 1) := by decide +kernel
theorem dd_T_join_15 : decode bc_T_join 15 = .ok (.iload_n 1, 1) := by decide +kernel
theorem dd_T_join_16 : decode bc_T_join 16 = .ok (.ifCond .ge 6, 3) := by decide +kernel
theorem dd_T_join_19 : decode bc_T_join 19 = .ok (.bipush (-7), 2) := by decide +kernel
theorem dd_T_join_21 : decode bc_T_join 21 = .ok (.ireturn, 1) := by decide +kernel
theorem dd_T_join_22 : decode bc_T_join 22 = .ok (.aload_n 0, 1) := by decide +kernel
theorem dd_T_join_23 : decode bc_T_join 23 = .ok (.getfield 27, 3) := by decide +kernel
theorem dd_T_join_26 : decode bc_T_join 26 = .ok (.iconst 0, 1) := by decide +kernel
theorem dd_T_join_27 : decode bc_T_join 27 = .ok (.putfield 79, 3) := by decide +kernel
theorem dd_T_join_30 : decode bc_T_join 30 = .ok (.aload_n 0, 1) := by decide +kernel
theorem dd_T_join_31 : decode bc_T_join 31 = .ok (.getfield 10, 3) := by decide +kernel
theorem dd_T_join_34 : decode bc_T_join 34 = .ok (.getfield 52, 3) := by decide +kernel
theorem dd_T_join_37 : decode bc_T_join 37 = .ok (.iload_n 1, 1) := by decide +kernel
theorem dd_T_join_38 : decode bc_T_join 38 = .ok (.invokevirtual 82, 3) := by decide +kernel
theorem dd_T_join_41 : decode bc_T_join 41 = .ok (.ifCond .ne 18, 3) := by decide +kernel
theorem dd_T_join_44 : decode bc_T_join 44 = .ok (.aload_n 0, 1) := by decide +kernel
theorem dd_T_join_45 : decode bc_T_join 45 = .ok (.getfield 10, 3) := by decide +kernel
theorem dd_T_join_48 : decode bc_T_join 48 = .ok (.getfield 52, 3) := by decide +kernel
theorem dd_T_join_51 : decode bc_T_join 51 = .ok (.iload_n 1, 1) := by decide +kernel
theorem dd_T_join_52 : decode bc_T_join 52 = .ok (.invokevirtual 85, 3) := by decide +kernel
theorem dd_T_join_55 : decode bc_T_join 55 = .ok (.aload_n 0, 1) := by decide +kernel
theorem dd_T_join_56 : decode bc_T_join 56 = .ok (.invokevirtual 61, 3) := by decide +kernel
theorem dd_T_join_59 : decode bc_T_join 59 = .ok (.aload_n 0, 1) := by decide +kernel
theorem dd_T_join_60 : decode bc_T_join 60 = .ok (.getfield 10, 3) := by decide +kernel
theorem dd_T_join_63 : decode bc_T_join 63 = .ok (.getfield 52, 3) := by decide +kernel
theorem dd_T_join_66 : decode bc_T_join 66 = .ok (.getfield 72, 3) := by decide +kernel
theorem dd_T_join_69 : decode bc_T_join 69 = .ok (.ireturn, 1) := by decide +kernel
theorem dd_T_say_0 : decode bc_T_say 0 = .ok (.iload_n 1, 1) := by decide +kernel
theorem dd_T_say_1 : decode bc_T_say 1 = .ok (.bipush 33, 2) := by decide +kernel
theorem dd_T_say_3 : decode bc_T_say 3 = .ok (.bipush 126, 2) := by decide +kernel
theorem dd_T_say_5 : decode bc_T_say 5 = .ok (.invokestatic 45, 3) := by decide +kernel
theorem dd_T_say_8 : decode bc_T_say 8 = .ok (.ifCond .ne 6, 3) := by decide +kernel
theorem dd_T_say_11 : decode bc_T_say 11 = .ok (.bipush (-2), 2) := by decide +kernel
theorem dd_T_say_13 : decode bc_T_say 13 = .ok (.ireturn, 1) := by decide +kernel
theorem dd_T_say_14 : decode bc_T_say 14 = .ok (.aload_n 0, 1) := by decide +kernel
theorem dd_T_say_15 : decode bc_T_say 15 = .ok (.getfield 27, 3) := by decide +kernel
theorem dd_T_say_18 : decode bc_T_say 18 = .ok (.getfield 79, 3) := by decide +kernel
theorem dd_T_say_21 : decode bc_T_say 21 = .ok (.bipush 7, 2) := by decide +kernel
theorem dd_T_say_23 : decode bc_T_say 23 = .ok (.if_icmp .lt 6, 3) := by decide +kernel
theorem dd_T_say_26 : decode bc_T_say 26 = .ok (.bipush (-4), 2) := by decide +kernel
theorem dd_T_say_28 : decode bc_T_say 28 = .ok (.ireturn, 1) := by decide +kernel
theorem dd_T_say_29 : decode bc_T_say 29 = .ok (.aload_n 0, 1) := by decide +kernel
theorem dd_T_say_30 : decode bc_T_say 30 = .ok (.getfield 27, 3) := by decide +kernel
theorem dd_T_say_33 : decode bc_T_say 33 = .ok (.getfield 89, 3) := by decide +kernel
theorem dd_T_say_36 : decode bc_T_say 36 = .ok (.aload_n 0, 1) := by decide +kernel
theorem dd_T_say_37 : decode bc_T_say 37 = .ok (.getfield 27, 3) := by decide +kernel
theorem dd_T_say_40 : decode bc_T_say 40 = .ok (.getfield 79, 3) := by decide +kernel
theorem dd_T_say_43 : decode bc_T_say 43 = .ok (.iload_n 1, 1) := by decide +kernel
theorem dd_T_say_44 : decode bc_T_say 44 = .ok (.iastore, 1) := by decide +kernel
theorem dd_T_say_45 : decode bc_T_say 45 = .ok (.aload_n 0, 1) := by decide +kernel
theorem dd_T_say_46 : decode bc_T_say 46 = .ok (.getfield 27, 3) := by decide +kernel
theorem dd_T_say_49 : decode bc_T_say 49 = .ok (.dup, 1) := by decide +kernel
theorem dd_T_say_50 : decode bc_T_say 50 = .ok (.getfield 79, 3) := by decide +kernel
theorem dd_T_say_53 : decode bc_T_say 53 = .ok (.iconst 1, 1) := by decide +kernel
theorem dd_T_say_54 : decode bc_T_say 54 = .ok (.iadd, 1) := by decide +kernel
theorem dd_T_say_55 : decode bc_T_say 55 = .ok (.putfield 79, 3) := by decide +kernel
theorem dd_T_say_58 : decode bc_T_say 58 = .ok (.aload_n 0, 1) := by decide +kernel
theorem dd_T_say_59 : decode bc_T_say 59 = .ok (.getfield 27, 3) := by decide +kernel
theorem dd_T_say_62 : decode bc_T_say 62 = .ok (.getfield 79, 3) := by decide +kernel
theorem dd_T_say_65 : decode bc_T_say 65 = .ok (.ireturn, 1) := by decide +kernel
theorem dd_T_wipe_0 : decode bc_T_wipe 0 = .ok (.aload_n 0, 1) := by decide +kernel
theorem dd_T_wipe_1 : decode bc_T_wipe 1 = .ok (.getfield 27, 3) := by decide +kernel
theorem dd_T_wipe_4 : decode bc_T_wipe 4 = .ok (.getfield 79, 3) := by decide +kernel
theorem dd_T_wipe_7 : decode bc_T_wipe 7 = .ok (.istore_n 1, 1) := by decide +kernel
theorem dd_T_wipe_8 : decode bc_T_wipe 8 = .ok (.aload_n 0, 1) := by decide +kernel
theorem dd_T_wipe_9 : decode bc_T_wipe 9 = .ok (.getfield 27, 3) := by decide +kernel
theorem dd_T_wipe_12 : decode bc_T_wipe 12 = .ok (.iconst 0, 1) := by decide +kernel
theorem dd_T_wipe_13 : decode bc_T_wipe 13 = .ok (.putfield 79, 3) := by decide +kernel
theorem dd_T_wipe_16 : decode bc_T_wipe 16 = .ok (.iload_n 1, 1) := by decide +kernel
theorem dd_T_wipe_17 : decode bc_T_wipe 17 = .ok (.ireturn, 1) := by decide +kernel
theorem dd_T_turn_0 : decode bc_T_turn 0 = .ok (.iload_n 1, 1) := by decide +kernel
theorem dd_T_turn_1 : decode bc_T_turn 1 = .ok (.iconst 0, 1) := by decide +kernel
theorem dd_T_turn_2 : decode bc_T_turn 2 = .ok (.iconst 2, 1) := by decide +kernel
theorem dd_T_turn_3 : decode bc_T_turn 3 = .ok (.invokestatic 45, 3) := by decide +kernel
theorem dd_T_turn_6 : decode bc_T_turn 6 = .ok (.ifCond .ne 6, 3) := by decide +kernel
theorem dd_T_turn_9 : decode bc_T_turn 9 = .ok (.bipush (-2), 2) := by decide +kernel
theorem dd_T_turn_11 : decode bc_T_turn 11 = .ok (.ireturn, 1) := by decide +kernel
theorem dd_T_turn_12 : decode bc_T_turn 12 = .ok (.aload_n 0, 1) := by decide +kernel
theorem dd_T_turn_13 : decode bc_T_turn 13 = .ok (.getfield 27, 3) := by decide +kernel
theorem dd_T_turn_16 : decode bc_T_turn 16 = .ok (.aload_n 0, 1) := by decide +kernel
theorem dd_T_turn_17 : decode bc_T_turn 17 = .ok (.getfield 10, 3) := by decide +kernel
theorem dd_T_turn_20 : decode bc_T_turn 20 = .ok (.getfield 49, 3) := by decide +kernel
theorem dd_T_turn_23 : decode bc_T_turn 23 = .ok (.invokevirtual 75, 3) := by decide +kernel
theorem dd_T_turn_26 : decode bc_T_turn 26 = .ok (.istore_n 2, 1) := by decide +kernel
theorem dd_T_turn_27 : decode bc_T_turn 27 = .ok (.iload_n 2, 1) := by decide +kernel
theorem dd_T_turn_28 : decode bc_T_turn 28 = .ok (.ifCond .ge 6, 3) := by decide +kernel
theorem dd_T_turn_31 : decode bc_T_turn 31 = .ok (.bipush (-7), 2) := by decide +kernel
theorem dd_T_turn_33 : decode bc_T_turn 33 = .ok (.ireturn, 1) := by decide +kernel
theorem dd_T_turn_34 : decode bc_T_turn 34 = .ok (.iload_n 1, 1) := by decide +kernel
theorem dd_T_turn_35 : decode bc_T_turn 35 = .ok (.ifCond .ne 23, 3) := by decide +kernel
theorem dd_T_turn_38 : decode bc_T_turn 38 = .ok (.aload_n 0, 1) := by decide +kernel
theorem dd_T_turn_39 : decode bc_T_turn 39 = .ok (.getfield 10, 3) := by decide +kernel
theorem dd_T_turn_42 : decode bc_T_turn 42 = .ok (.getfield 52, 3) := by decide +kernel
theorem dd_T_turn_45 : decode bc_T_turn 45 = .ok (.iload_n 2, 1) := by decide +kernel
theorem dd_T_turn_46 : decode bc_T_turn 46 = .ok (.invokevirtual 82, 3) := by decide +kernel
theorem dd_T_turn_49 : decode bc_T_turn 49 = .ok (.ifCond .eq 7, 3) := by decide +kernel
theorem dd_T_turn_52 : decode bc_T_turn 52 = .ok (.iconst 1, 1) := by decide +kernel
theorem dd_T_turn_53 : decode bc_T_turn 53 = .ok (.goto 4, 3) := by decide +kernel
theorem dd_T_turn_56 : decode bc_T_turn 56 = .ok (.iconst 0, 1) := by decide +kernel
theorem dd_T_turn_57 : decode bc_T_turn 57 = .ok (.ireturn, 1) := by decide +kernel
theorem dd_T_turn_58 : decode bc_T_turn 58 = .ok (.iload_n 1, 1) := by decide +kernel
theorem dd_T_turn_59 : decode bc_T_turn 59 = .ok (.iconst 1, 1) := by decide +kernel
theorem dd_T_turn_60 : decode bc_T_turn 60 = .ok (.if_icmp .ne 17, 3) := by decide +kernel
theorem dd_T_turn_63 : decode bc_T_turn 63 = .ok (.iload_n 2, 1) := by decide +kernel
theorem dd_T_turn_64 : decode bc_T_turn 64 = .ok (.aload_n 0, 1) := by decide +kernel
theorem dd_T_turn_65 : decode bc_T_turn 65 = .ok (.getfield 10, 3) := by decide +kernel
theorem dd_T_turn_68 : decode bc_T_turn 68 = .ok (.getfield 49, 3) := by decide +kernel
theorem dd_T_turn_71 : decode bc_T_turn 71 = .ok (.invokestatic 93, 3) := by decide +kernel
theorem dd_T_turn_74 : decode bc_T_turn 74 = .ok (.goto 7, 3) := by decide +kernel
theorem dd_T_turn_77 : decode bc_T_turn 77 = .ok (.iload_n 2, 1) := by decide +kernel
theorem dd_T_turn_78 : decode bc_T_turn 78 = .ok (.invokestatic 99, 3) := by decide +kernel
theorem dd_T_turn_81 : decode bc_T_turn 81 = .ok (.ireturn, 1) := by decide +kernel
theorem dd_T_type_0 : decode bc_T_type 0 = .ok (.iload_n 1, 1) := by decide +kernel
theorem dd_T_type_1 : decode bc_T_type 1 = .ok (.iconst (-1), 1) := by decide +kernel
theorem dd_T_type_2 : decode bc_T_type 2 = .ok (.if_icmp .lt 12, 3) := by decide +kernel
theorem dd_T_type_5 : decode bc_T_type 5 = .ok (.iload_n 2, 1) := by decide +kernel
theorem dd_T_type_6 : decode bc_T_type 6 = .ok (.iconst 0, 1) := by decide +kernel
theorem dd_T_type_7 : decode bc_T_type 7 = .ok (.iconst 1, 1) := by decide +kernel
theorem dd_T_type_8 : decode bc_T_type 8 = .ok (.invokestatic 45, 3) := by decide +kernel
theorem dd_T_type_11 : decode bc_T_type 11 = .ok (.ifCond .ne 6, 3) := by decide +kernel
theorem dd_T_type_14 : decode bc_T_type 14 = .ok (.bipush (-2), 2) := by decide +kernel
theorem dd_T_type_16 : decode bc_T_type 16 = .ok (.ireturn, 1) := by decide +kernel
theorem dd_T_type_17 : decode bc_T_type 17 = .ok (.aload_n 0, 1) := by decide +kernel
theorem dd_T_type_18 : decode bc_T_type 18 = .ok (.getfield 34, 3) := by decide +kernel
theorem dd_T_type_21 : decode bc_T_type 21 = .ok (.aload_n 0, 1) := by decide +kernel
theorem dd_T_type_22 : decode bc_T_type 22 = .ok (.getfield 10, 3) := by decide +kernel
theorem dd_T_type_25 : decode bc_T_type 25 = .ok (.invokevirtual 102, 3) := by decide +kernel
theorem dd_T_type_28 : decode bc_T_type 28 = .ok (.iload_n 1, 1) := by decide +kernel
theorem dd_T_type_29 : decode bc_T_type 29 = .ok (.iconst (-1), 1) := by decide +kernel
theorem dd_T_type_30 : decode bc_T_type 30 = .ok (.if_icmp .ne 11, 3) := by decide +kernel
theorem dd_T_type_33 : decode bc_T_type 33 = .ok (.aload_n 0, 1) := by decide +kernel
theorem dd_T_type_34 : decode bc_T_type 34 = .ok (.getfield 34, 3) := by decide +kernel
theorem dd_T_type_37 : decode bc_T_type 37 = .ok (.getfield 106, 3) := by decide +kernel
theorem dd_T_type_40 : decode bc_T_type 40 = .ok (.ireturn, 1) := by decide +kernel
theorem dd_T_type_41 : decode bc_T_type 41 = .ok (.iload_n 1, 1) := by decide +kernel
theorem dd_T_type_42 : decode bc_T_type 42 = .ok (.aload_n 0, 1) := by decide +kernel
theorem dd_T_type_43 : decode bc_T_type 43 = .ok (.getfield 34, 3) := by decide +kernel
theorem dd_T_type_46 : decode bc_T_type 46 = .ok (.getfield 106, 3) := by decide +kernel
theorem dd_T_type_49 : decode bc_T_type 49 = .ok (.if_icmp .lt 6, 3) := by decide +kernel
theorem dd_T_type_52 : decode bc_T_type 52 = .ok (.bipush (-6), 2) := by decide +kernel
theorem dd_T_type_54 : decode bc_T_type 54 = .ok (.ireturn, 1) := by decide +kernel
theorem dd_T_type_55 : decode bc_T_type 55 = .ok (.iload_n 2, 1) := by decide +kernel
theorem dd_T_type_56 : decode bc_T_type 56 = .ok (.ifCond .ne 15, 3) := by decide +kernel
theorem dd_T_type_59 : decode bc_T_type 59 = .ok (.aload_n 0, 1) := by decide +kernel
theorem dd_T_type_60 : decode bc_T_type 60 = .ok (.getfield 34, 3) := by decide +kernel
theorem dd_T_type_63 : decode bc_T_type 63 = .ok (.getfield 109, 3) := by decide +kernel
theorem dd_T_type_66 : decode bc_T_type 66 = .ok (.iload_n 1, 1) := by decide +kernel
theorem dd_T_type_67 : decode bc_T_type 67 = .ok (.iaload, 1) := by decide +kernel
theorem dd_T_type_68 : decode bc_T_type 68 = .ok (.goto 12, 3) := by decide +kernel
theorem dd_T_type_71 : decode bc_T_type 71 = .ok (.aload_n 0, 1) := by decide +kernel
theorem dd_T_type_72 : decode bc_T_type 72 = .ok (.getfield 34, 3) := by decide +kernel
theorem dd_T_type_75 : decode bc_T_type 75 = .ok (.getfield 112, 3) := by decide +kernel
theorem dd_T_type_78 : decode bc_T_type 78 = .ok (.iload_n 1, 1) := by decide +kernel
theorem dd_T_type_79 : decode bc_T_type 79 = .ok (.iaload, 1) := by decide +kernel
theorem dd_T_type_80 : decode bc_T_type 80 = .ok (.ireturn, 1) := by decide +kernel
theorem dd_T_orbit_0 : decode bc_T_orbit 0 = .ok (.iload_n 1, 1) := by decide +kernel
theorem dd_T_orbit_1 : decode bc_T_orbit 1 = .ok (.iconst 0, 1) := by decide +kernel
theorem dd_T_orbit_2 : decode bc_T_orbit 2 = .ok (.aload_n 0, 1) := by decide +kernel
theorem dd_T_orbit_3 : decode bc_T_orbit 3 = .ok (.getfield 10, 3) := by decide +kernel
theorem dd_T_orbit_6 : decode bc_T_orbit 6 = .ok (.getfield 49, 3) := by decide +kernel
theorem dd_T_orbit_9 : decode bc_T_orbit 9 = .ok (.iconst 1, 1) := by decide +kernel
theorem dd_T_orbit_10 : decode bc_T_orbit 10 = .ok (.isub, 1) := by decide +kernel
theorem dd_T_orbit_11 : decode bc_T_orbit 11 = .ok (.invokestatic 45, 3) := by decide +kernel
theorem dd_T_orbit_14 : decode bc_T_orbit 14 = .ok (.ifCond .ne 5, 3) := by decide +kernel
theorem dd_T_orbit_17 : decode bc_T_orbit 17 = .ok (.iconst (-1), 1) := by decide +kernel
theorem dd_T_orbit_18 : decode bc_T_orbit 18 = .ok (.ireturn, 1) := by decide +kernel
theorem dd_T_orbit_19 : decode bc_T_orbit 19 = .ok (.iload_n 2, 1) := by decide +kernel
theorem dd_T_orbit_20 : decode bc_T_orbit 20 = .ok (.iconst 0, 1) := by decide +kernel
theorem dd_T_orbit_21 : decode bc_T_orbit 21 = .ok (.iconst 1, 1) := by decide +kernel
theorem dd_T_orbit_22 : decode bc_T_orbit 22 = .ok (.invokestatic 45, 3) := by decide +kernel
theorem dd_T_orbit_25 : decode bc_T_orbit 25 = .ok (.ifCond .ne 6, 3) := by decide +kernel
theorem dd_T_orbit_28 : decode bc_T_orbit 28 = .ok (.bipush (-2), 2) := by decide +kernel
theorem dd_T_orbit_30 : decode bc_T_orbit 30 = .ok (.ireturn, 1) := by decide +kernel
theorem dd_T_orbit_31 : decode bc_T_orbit 31 = .ok (.iload_n 2, 1) := by decide +kernel
theorem dd_T_orbit_32 : decode bc_T_orbit 32 = .ok (.ifCond .ne 17, 3) := by decide +kernel
theorem dd_T_orbit_35 : decode bc_T_orbit 35 = .ok (.aload_n 0, 1) := by decide +kernel
theorem dd_T_orbit_36 : decode bc_T_orbit 36 = .ok (.getfield 10, 3) := by decide +kernel
theorem dd_T_orbit_39 : decode bc_T_orbit 39 = .ok (.getfield 52, 3) := by decide +kernel
theorem dd_T_orbit_42 : decode bc_T_orbit 42 = .ok (.iload_n 1, 1) := by decide +kernel
theorem dd_T_orbit_43 : decode bc_T_orbit 43 = .ok (.invokevirtual 115, 3) := by decide +kernel
theorem dd_T_orbit_46 : decode bc_T_orbit 46 = .ok (.goto 14, 3) := by decide +kernel
theorem dd_T_orbit_49 : decode bc_T_orbit 49 = .ok (.aload_n 0, 1) := by decide +kernel
theorem dd_T_orbit_50 : decode bc_T_orbit 50 = .ok (.getfield 10, 3) := by decide +kernel
theorem dd_T_orbit_53 : decode bc_T_orbit 53 = .ok (.getfield 52, 3) := by decide +kernel
theorem dd_T_orbit_56 : decode bc_T_orbit 56 = .ok (.iload_n 1, 1) := by decide +kernel
theorem dd_T_orbit_57 : decode bc_T_orbit 57 = .ok (.invokevirtual 118, 3) := by decide +kernel
theorem dd_T_orbit_60 : decode bc_T_orbit 60 = .ok (.ireturn, 1) := by decide +kernel
theorem dd_T_sorts_0 : decode bc_T_sorts 0 = .ok (.iload_n 1, 1) := by decide +kernel
theorem dd_T_sorts_1 : decode bc_T_sorts 1 = .ok (.iconst 1, 1) := by decide +kernel
theorem dd_T_sorts_2 : decode bc_T_sorts 2 = .ok (.iconst 4, 1) := by decide +kernel
theorem dd_T_sorts_3 : decode bc_T_sorts 3 = .ok (.invokestatic 45, 3) := by decide +kernel
theorem dd_T_sorts_6 : decode bc_T_sorts 6 = .ok (.ifCond .ne 6, 3) := by decide +kernel
theorem dd_T_sorts_9 : decode bc_T_sorts 9 = .ok (.bipush (-2), 2) := by decide +kernel
theorem dd_T_sorts_11 : decode bc_T_sorts 11 = .ok (.ireturn, 1) := by decide +kernel
theorem dd_T_sorts_12 : decode bc_T_sorts 12 = .ok (.aload_n 0, 1) := by decide +kernel
theorem dd_T_sorts_13 : decode bc_T_sorts 13 = .ok (.getfield 10, 3) := by decide +kernel
theorem dd_T_sorts_16 : decode bc_T_sorts 16 = .ok (.getfield 121, 3) := by decide +kernel
theorem dd_T_sorts_19 : decode bc_T_sorts 19 = .ok (.istore_n 2, 1) := by decide +kernel
theorem dd_T_sorts_20 : decode bc_T_sorts 20 = .ok (.aload_n 0, 1) := by decide +kernel
theorem dd_T_sorts_21 : decode bc_T_sorts 21 = .ok (.getfield 10, 3) := by decide +kernel
theorem dd_T_sorts_24 : decode bc_T_sorts 24 = .ok (.iload_n 1, 1) := by decide +kernel
theorem dd_T_sorts_25 : decode bc_T_sorts 25 = .ok (.putfield 121, 3) := by decide +kernel
theorem dd_T_sorts_28 : decode bc_T_sorts 28 = .ok (.aload_n 0, 1) := by decide +kernel
theorem dd_T_sorts_29 : decode bc_T_sorts 29 = .ok (.getfield 41, 3) := by decide +kernel
theorem dd_T_sorts_32 : decode bc_T_sorts 32 = .ok (.iconst 0, 1) := by decide +kernel
theorem dd_T_sorts_33 : decode bc_T_sorts 33 = .ok (.putfield 124, 3) := by decide +kernel
theorem dd_T_sorts_36 : decode bc_T_sorts 36 = .ok (.iload_n 2, 1) := by decide +kernel
theorem dd_T_sorts_37 : decode bc_T_sorts 37 = .ok (.ireturn, 1) := by decide +kernel
theorem dd_T_weight_0 : decode bc_T_weight 0 = .ok (.iload_n 1, 1) := by decide +kernel
theorem dd_T_weight_1 : decode bc_T_weight 1 = .ok (.iconst 0, 1) := by decide +kernel
theorem dd_T_weight_2 : decode bc_T_weight 2 = .ok (.iconst 3, 1) := by decide +kernel
theorem dd_T_weight_3 : decode bc_T_weight 3 = .ok (.invokestatic 45, 3) := by decide +kernel
theorem dd_T_weight_6 : decode bc_T_weight 6 = .ok (.ifCond .ne 5, 3) := by decide +kernel
theorem dd_T_weight_9 : decode bc_T_weight 9 = .ok (.iconst (-1), 1) := by decide +kernel
theorem dd_T_weight_10 : decode bc_T_weight 10 = .ok (.ireturn, 1) := by decide +kernel
theorem dd_T_weight_11 : decode bc_T_weight 11 = .ok (.iload_n 2, 1) := by decide +kernel
theorem dd_T_weight_12 : decode bc_T_weight 12 = .ok (.iconst 0, 1) := by decide +kernel
theorem dd_T_weight_13 : decode bc_T_weight 13 = .ok (.bipush 9, 2) := by decide +kernel
theorem dd_T_weight_15 : decode bc_T_weight 15 = .ok (.invokestatic 45, 3) := by decide +kernel
theorem dd_T_weight_18 : decode bc_T_weight 18 = .ok (.ifCond .ne 6, 3) := by decide +kernel
theorem dd_T_weight_21 : decode bc_T_weight 21 = .ok (.bipush (-2), 2) := by decide +kernel
theorem dd_T_weight_23 : decode bc_T_weight 23 = .ok (.ireturn, 1) := by decide +kernel
theorem dd_T_weight_24 : decode bc_T_weight 24 = .ok (.aload_n 0, 1) := by decide +kernel
theorem dd_T_weight_25 : decode bc_T_weight 25 = .ok (.getfield 10, 3) := by decide +kernel
theorem dd_T_weight_28 : decode bc_T_weight 28 = .ok (.getfield 128, 3) := by decide +kernel
theorem dd_T_weight_31 : decode bc_T_weight 31 = .ok (.iload_n 1, 1) := by decide +kernel
theorem dd_T_weight_32 : decode bc_T_weight 32 = .ok (.iaload, 1) := by decide +kernel
theorem dd_T_weight_33 : decode bc_T_weight 33 = .ok (.istore_n 3, 1) := by decide +kernel
theorem dd_T_weight_34 : decode bc_T_weight 34 = .ok (.aload_n 0, 1) := by decide +kernel
theorem dd_T_weight_35 : decode bc_T_weight 35 = .ok (.getfield 10, 3) := by decide +kernel
theorem dd_T_weight_38 : decode bc_T_weight 38 = .ok (.getfield 128, 3) := by decide +kernel
theorem dd_T_weight_41 : decode bc_T_weight 41 = .ok (.iload_n 1, 1) := by decide +kernel
theorem dd_T_weight_42 : decode bc_T_weight 42 = .ok (.iload_n 2, 1) := by decide +kernel
theorem dd_T_weight_43 : decode bc_T_weight 43 = .ok (.iastore, 1) := by decide +kernel
theorem dd_T_weight_44 : decode bc_T_weight 44 = .ok (.iload_n 3, 1) := by decide +kernel
theorem dd_T_weight_45 : decode bc_T_weight 45 = .ok (.ireturn, 1) := by decide +kernel
theorem dd_T_patterns_0 : decode bc_T_patterns 0 = .ok (.iload_n 1, 1) := by decide +kernel
theorem dd_T_patterns_1 : decode bc_T_patterns 1 = .ok (.iconst (-1), 1) := by decide +kernel
theorem dd_T_patterns_2 : decode bc_T_patterns 2 = .ok (.bipush 63, 2) := by decide +kernel
theorem dd_T_patterns_4 : decode bc_T_patterns 4 = .ok (.invokestatic 45, 3) := by decide +kernel
theorem dd_T_patterns_7 : decode bc_T_patterns 7 = .ok (.ifCond .ne 6, 3) := by decide +kernel
theorem dd_T_patterns_10 : decode bc_T_patterns 10 = .ok (.bipush (-2), 2) := by decide +kernel
theorem dd_T_patterns_12 : decode bc_T_patterns 12 = .ok (.ireturn, 1) := by decide +kernel
theorem dd_T_patterns_13 : decode bc_T_patterns 13 = .ok (.aload_n 0, 1) := by decide +kernel
theorem dd_T_patterns_14 : decode bc_T_patterns 14 = .ok (.getfield 41, 3) := by decide +kernel
theorem dd_T_patterns_17 : decode bc_T_patterns 17 = .ok (.aload_n 0, 1) := by decide +kernel
theorem dd_T_patterns_18 : decode bc_T_patterns 18 = .ok (.getfield 10, 3) := by decide +kernel
theorem dd_T_patterns_21 : decode bc_T_patterns 21 = .ok (.invokevirtual 131, 3) := by decide +kernel
theorem dd_T_patterns_24 : decode bc_T_patterns 24 = .ok (.iload_n 1, 1) := by decide +kernel
theorem dd_T_patterns_25 : decode bc_T_patterns 25 = .ok (.iconst (-1), 1) := by decide +kernel
theorem dd_T_patterns_26 : decode bc_T_patterns 26 = .ok (.if_icmp .ne 13, 3) := by decide +kernel
theorem dd_T_patterns_29 : decode bc_T_patterns 29 = .ok (.aload_n 0, 1) := by decide +kernel
theorem dd_T_patterns_30 : decode bc_T_patterns 30 = .ok (.getfield 41, 3) := by decide +kernel
theorem dd_T_patterns_33 : decode bc_T_patterns 33 = .ok (.getfield 132, 3) := by decide +kernel
theorem dd_T_patterns_36 : decode bc_T_patterns 36 = .ok (.goto 15, 3) := by decide +kernel
theorem dd_T_patterns_39 : decode bc_T_patterns 39 = .ok (.aload_n 0, 1) := by decide +kernel
theorem dd_T_patterns_40 : decode bc_T_patterns 40 = .ok (.getfield 41, 3) := by decide +kernel
theorem dd_T_patterns_43 : decode bc_T_patterns 43 = .ok (.iload_n 1, 1) := by decide +kernel
theorem dd_T_patterns_44 : decode bc_T_patterns 44 = .ok (.aload_n 0, 1) := by decide +kernel
theorem dd_T_patterns_45 : decode bc_T_patterns 45 = .ok (.getfield 10, 3) := by decide +kernel
theorem dd_T_patterns_48 : decode bc_T_patterns 48 = .ok (.invokevirtual 133, 3) := by decide +kernel
theorem dd_T_patterns_51 : decode bc_T_patterns 51 = .ok (.ireturn, 1) := by decide +kernel
theorem dd_T_pattern_0 : decode bc_T_pattern 0 = .ok (.iload_n 2, 1) := by decide +kernel
theorem dd_T_pattern_1 : decode bc_T_pattern 1 = .ok (.iconst 0, 1) := by decide +kernel
theorem dd_T_pattern_2 : decode bc_T_pattern 2 = .ok (.iconst 4, 1) := by decide +kernel
theorem dd_T_pattern_3 : decode bc_T_pattern 3 = .ok (.invokestatic 45, 3) := by decide +kernel
theorem dd_T_pattern_6 : decode bc_T_pattern 6 = .ok (.ifCond .ne 6, 3) := by decide +kernel
theorem dd_T_pattern_9 : decode bc_T_pattern 9 = .ok (.bipush (-2), 2) := by decide +kernel
theorem dd_T_pattern_11 : decode bc_T_pattern 11 = .ok (.ireturn, 1) := by decide +kernel
theorem dd_T_pattern_12 : decode bc_T_pattern 12 = .ok (.aload_n 0, 1) := by decide +kernel
theorem dd_T_pattern_13 : decode bc_T_pattern 13 = .ok (.getfield 41, 3) := by decide +kernel
theorem dd_T_pattern_16 : decode bc_T_pattern 16 = .ok (.aload_n 0, 1) := by decide +kernel
theorem dd_T_pattern_17 : decode bc_T_pattern 17 = .ok (.getfield 10, 3) := by decide +kernel
theorem dd_T_pattern_20 : decode bc_T_pattern 20 = .ok (.invokevirtual 131, 3) := by decide +kernel
theorem dd_T_pattern_23 : decode bc_T_pattern 23 = .ok (.iload_n 1, 1) := by decide +kernel
theorem dd_T_pattern_24 : decode bc_T_pattern 24 = .ok (.iconst 0, 1) := by decide +kernel
theorem dd_T_pattern_25 : decode bc_T_pattern 25 = .ok (.aload_n 0, 1) := by decide +kernel
theorem dd_T_pattern_26 : decode bc_T_pattern 26 = .ok (.getfield 41, 3) := by decide +kernel
theorem dd_T_pattern_29 : decode bc_T_pattern 29 = .ok (.getfield 132, 3) := by decide +kernel
theorem dd_T_pattern_32 : decode bc_T_pattern 32 = .ok (.iconst 1, 1) := by decide +kernel
theorem dd_T_pattern_33 : decode bc_T_pattern 33 = .ok (.isub, 1) := by decide +kernel
theorem dd_T_pattern_34 : decode bc_T_pattern 34 = .ok (.invokestatic 45, 3) := by decide +kernel
theorem dd_T_pattern_37 : decode bc_T_pattern 37 = .ok (.ifCond .ne 6, 3) := by decide +kernel
theorem dd_T_pattern_40 : decode bc_T_pattern 40 = .ok (.bipush (-6), 2) := by decide +kernel
theorem dd_T_pattern_42 : decode bc_T_pattern 42 = .ok (.ireturn, 1) := by decide +kernel
theorem dd_T_pattern_43 : decode bc_T_pattern 43 = .ok (.aload_n 0, 1) := by decide +kernel
theorem dd_T_pattern_44 : decode bc_T_pattern 44 = .ok (.getfield 41, 3) := by decide +kernel
theorem dd_T_pattern_47 : decode bc_T_pattern 47 = .ok (.iload_n 1, 1) := by decide +kernel
theorem dd_T_pattern_48 : decode bc_T_pattern 48 = .ok (.invokevirtual 137, 3) := by decide +kernel
theorem dd_T_pattern_51 : decode bc_T_pattern 51 = .ok (.istore_n 3, 1) := by decide +kernel
theorem dd_T_pattern_52 : decode bc_T_pattern 52 = .ok (.iload_n 2, 1) := by decide +kernel
theorem dd_T_pattern_53 : decode bc_T_pattern 53 = .ok (.tableswitch 64 0 3 #[31, 33, 42, 51], 31) := by decide +kernel
theorem dd_T_pattern_84 : decode bc_T_pattern 84 = .ok (.iload_n 3, 1) := by decide +kernel
theorem dd_T_pattern_85 : decode bc_T_pattern 85 = .ok (.ireturn, 1) := by decide +kernel
theorem dd_T_pattern_86 : decode bc_T_pattern 86 = .ok (.aload_n 0, 1) := by decide +kernel
theorem dd_T_pattern_87 : decode bc_T_pattern 87 = .ok (.getfield 41, 3) := by decide +kernel
theorem dd_T_pattern_90 : decode bc_T_pattern 90 = .ok (.iload_n 1, 1) := by decide +kernel
theorem dd_T_pattern_91 : decode bc_T_pattern 91 = .ok (.invokevirtual 140, 3) := by decide +kernel
theorem dd_T_pattern_94 : decode bc_T_pattern 94 = .ok (.ireturn, 1) := by decide +kernel
theorem dd_T_pattern_95 : decode bc_T_pattern 95 = .ok (.aload_n 0, 1) := by decide +kernel
theorem dd_T_pattern_96 : decode bc_T_pattern 96 = .ok (.getfield 10, 3) := by decide +kernel
theorem dd_T_pattern_99 : decode bc_T_pattern 99 = .ok (.iload_n 3, 1) := by decide +kernel
theorem dd_T_pattern_100 : decode bc_T_pattern 100 = .ok (.invokevirtual 143, 3) := by decide +kernel
theorem dd_T_pattern_103 : decode bc_T_pattern 103 = .ok (.ireturn, 1) := by decide +kernel
theorem dd_T_pattern_104 : decode bc_T_pattern 104 = .ok (.aload_n 0, 1) := by decide +kernel
theorem dd_T_pattern_105 : decode bc_T_pattern 105 = .ok (.getfield 41, 3) := by decide +kernel
theorem dd_T_pattern_108 : decode bc_T_pattern 108 = .ok (.iload_n 1, 1) := by decide +kernel
theorem dd_T_pattern_109 : decode bc_T_pattern 109 = .ok (.aload_n 0, 1) := by decide +kernel
theorem dd_T_pattern_110 : decode bc_T_pattern 110 = .ok (.getfield 10, 3) := by decide +kernel
theorem dd_T_pattern_113 : decode bc_T_pattern 113 = .ok (.invokevirtual 146, 3) := by decide +kernel
theorem dd_T_pattern_116 : decode bc_T_pattern 116 = .ok (.ireturn, 1) := by decide +kernel
theorem dd_T_pattern_117 : decode bc_T_pattern 117 = .ok (.aload_n 0, 1) := by decide +kernel
theorem dd_T_pattern_118 : decode bc_T_pattern 118 = .ok (.getfield 10, 3) := by decide +kernel
theorem dd_T_pattern_121 : decode bc_T_pattern 121 = .ok (.iload_n 3, 1) := by decide +kernel
theorem dd_T_pattern_122 : decode bc_T_pattern 122 = .ok (.invokevirtual 149, 3) := by decide +kernel
theorem dd_T_pattern_125 : decode bc_T_pattern 125 = .ok (.ireturn, 1) := by decide +kernel
theorem dd_T_of_0 : decode bc_T_of 0 = .ok (.aload_n 0, 1) := by decide +kernel
theorem dd_T_of_1 : decode bc_T_of 1 = .ok (.iload_n 1, 1) := by decide +kernel
theorem dd_T_of_2 : decode bc_T_of 2 = .ok (.invokevirtual 152, 3) := by decide +kernel
theorem dd_T_of_5 : decode bc_T_of 5 = .ok (.ifCond .eq 12, 3) := by decide +kernel
theorem dd_T_of_8 : decode bc_T_of 8 = .ok (.iload_n 2, 1) := by decide +kernel
theorem dd_T_of_9 : decode bc_T_of 9 = .ok (.iconst 0, 1) := by decide +kernel
theorem dd_T_of_10 : decode bc_T_of 10 = .ok (.iconst 3, 1) := by decide +kernel
theorem dd_T_of_11 : decode bc_T_of 11 = .ok (.invokestatic 45, 3) := by decide +kernel
theorem dd_T_of_14 : decode bc_T_of 14 = .ok (.ifCond .ne 6, 3) := by decide +kernel
theorem dd_T_of_17 : decode bc_T_of 17 = .ok (.bipush (-2), 2) := by decide +kernel
theorem dd_T_of_19 : decode bc_T_of 19 = .ok (.ireturn, 1) := by decide +kernel
theorem dd_T_of_20 : decode bc_T_of 20 = .ok (.iload_n 2, 1) := by decide +kernel
theorem dd_T_of_21 : decode bc_T_of 21 = .ok (.iconst 3, 1) := by decide +kernel
theorem dd_T_of_22 : decode bc_T_of 22 = .ok (.if_icmp .ne 12, 3) := by decide +kernel
theorem dd_T_of_25 : decode bc_T_of 25 = .ok (.aload_n 0, 1) := by decide +kernel
theorem dd_T_of_26 : decode bc_T_of 26 = .ok (.getfield 10, 3) := by decide +kernel
theorem dd_T_of_29 : decode bc_T_of 29 = .ok (.iload_n 1, 1) := by decide +kernel
theorem dd_T_of_30 : decode bc_T_of 30 = .ok (.invokevirtual 155, 3) := by decide +kernel
theorem dd_T_of_33 : decode bc_T_of 33 = .ok (.ireturn, 1) := by decide +kernel
theorem dd_T_of_34 : decode bc_T_of 34 = .ok (.aload_n 0, 1) := by decide +kernel
theorem dd_T_of_35 : decode bc_T_of 35 = .ok (.getfield 41, 3) := by decide +kernel
theorem dd_T_of_38 : decode bc_T_of 38 = .ok (.aload_n 0, 1) := by decide +kernel
theorem dd_T_of_39 : decode bc_T_of 39 = .ok (.getfield 10, 3) := by decide +kernel
theorem dd_T_of_42 : decode bc_T_of 42 = .ok (.invokevirtual 131, 3) := by decide +kernel
theorem dd_T_of_45 : decode bc_T_of 45 = .ok (.aload_n 0, 1) := by decide +kernel
theorem dd_T_of_46 : decode bc_T_of 46 = .ok (.getfield 41, 3) := by decide +kernel
theorem dd_T_of_49 : decode bc_T_of 49 = .ok (.getfield 158, 3) := by decide +kernel
theorem dd_T_of_52 : decode bc_T_of 52 = .ok (.iload_n 1, 1) := by decide +kernel
theorem dd_T_of_53 : decode bc_T_of 53 = .ok (.iaload, 1) := by decide +kernel
theorem dd_T_of_54 : decode bc_T_of 54 = .ok (.istore_n 3, 1) := by decide +kernel
theorem dd_T_of_55 : decode bc_T_of 55 = .ok (.iload_n 2, 1) := by decide +kernel
theorem dd_T_of_56 : decode bc_T_of 56 = .ok (.ifCond .ne 5, 3) := by decide +kernel
theorem dd_T_of_59 : decode bc_T_of 59 = .ok (.iload_n 3, 1) := by decide +kernel
theorem dd_T_of_60 : decode bc_T_of 60 = .ok (.ireturn, 1) := by decide +kernel
theorem dd_T_of_61 : decode bc_T_of 61 = .ok (.iload_n 2, 1) := by decide +kernel
theorem dd_T_of_62 : decode bc_T_of 62 = .ok (.iconst 1, 1) := by decide +kernel
theorem dd_T_of_63 : decode bc_T_of 63 = .ok (.if_icmp .ne 14, 3) := by decide +kernel
theorem dd_T_of_66 : decode bc_T_of 66 = .ok (.aload_n 0, 1) := by decide +kernel
theorem dd_T_of_67 : decode bc_T_of 67 = .ok (.getfield 41, 3) := by decide +kernel
theorem dd_T_of_70 : decode bc_T_of 70 = .ok (.iload_n 3, 1) := by decide +kernel
theorem dd_T_of_71 : decode bc_T_of 71 = .ok (.invokevirtual 137, 3) := by decide +kernel
theorem dd_T_of_74 : decode bc_T_of 74 = .ok (.goto 18, 3) := by decide +kernel
theorem dd_T_of_77 : decode bc_T_of 77 = .ok (.aload_n 0, 1) := by decide +kernel
theorem dd_T_of_78 : decode bc_T_of 78 = .ok (.getfield 41, 3) := by decide +kernel
theorem dd_T_of_81 : decode bc_T_of 81 = .ok (.iload_n 1, 1) := by decide +kernel
theorem dd_T_of_82 : decode bc_T_of 82 = .ok (.aload_n 0, 1) := by decide +kernel
theorem dd_T_of_83 : decode bc_T_of 83 = .ok (.getfield 10, 3) := by decide +kernel
theorem dd_T_of_86 : decode bc_T_of 86 = .ok (.getfield 52, 3) := by decide +kernel
theorem dd_T_of_89 : decode bc_T_of 89 = .ok (.invokevirtual 161, 3) := by decide +kernel
theorem dd_T_of_92 : decode bc_T_of 92 = .ok (.ireturn, 1) := by decide +kernel
theorem dd_T_kinds_0 : decode bc_T_kinds 0 = .ok (.iload_n 1, 1) := by decide +kernel
theorem dd_T_kinds_1 : decode bc_T_kinds 1 = .ok (.iconst 0, 1) := by decide +kernel
theorem dd_T_kinds_2 : decode bc_T_kinds 2 = .ok (.iconst 3, 1) := by decide +kernel
theorem dd_T_kinds_3 : decode bc_T_kinds 3 = .ok (.invokestatic 45, 3) := by decide +kernel
theorem dd_T_kinds_6 : decode bc_T_kinds 6 = .ok (.ifCond .ne 6, 3) := by decide +kernel
theorem dd_T_kinds_9 : decode bc_T_kinds 9 = .ok (.bipush (-2), 2) := by decide +kernel
theorem dd_T_kinds_11 : decode bc_T_kinds 11 = .ok (.ireturn, 1) := by decide +kernel
theorem dd_T_kinds_12 : decode bc_T_kinds 12 = .ok (.aload_n 0, 1) := by decide +kernel
theorem dd_T_kinds_13 : decode bc_T_kinds 13 = .ok (.getfield 41, 3) := by decide +kernel
theorem dd_T_kinds_16 : decode bc_T_kinds 16 = .ok (.aload_n 0, 1) := by decide +kernel
theorem dd_T_kinds_17 : decode bc_T_kinds 17 = .ok (.getfield 10, 3) := by decide +kernel
theorem dd_T_kinds_20 : decode bc_T_kinds 20 = .ok (.invokevirtual 131, 3) := by decide +kernel
theorem dd_T_kinds_23 : decode bc_T_kinds 23 = .ok (.iload_n 1, 1) := by decide +kernel
theorem dd_T_kinds_24 : decode bc_T_kinds 24 = .ok (.tableswitch 60 0 2 #[28, 40, 52], 28) := by decide +kernel
theorem dd_T_kinds_52 : decode bc_T_kinds 52 = .ok (.aload_n 0, 1) := by decide +kernel
theorem dd_T_kinds_53 : decode bc_T_kinds 53 = .ok (.getfield 41, 3) := by decide +kernel
theorem dd_T_kinds_56 : decode bc_T_kinds 56 = .ok (.aload_n 0, 1) := by decide +kernel
theorem dd_T_kinds_57 : decode bc_T_kinds 57 = .ok (.getfield 10, 3) := by decide +kernel
theorem dd_T_kinds_60 : decode bc_T_kinds 60 = .ok (.invokevirtual 165, 3) := by decide +kernel
theorem dd_T_kinds_63 : decode bc_T_kinds 63 = .ok (.ireturn, 1) := by decide +kernel
theorem dd_T_kinds_64 : decode bc_T_kinds 64 = .ok (.aload_n 0, 1) := by decide +kernel
theorem dd_T_kinds_65 : decode bc_T_kinds 65 = .ok (.getfield 41, 3) := by decide +kernel
theorem dd_T_kinds_68 : decode bc_T_kinds 68 = .ok (.aload_n 0, 1) := by decide +kernel
theorem dd_T_kinds_69 : decode bc_T_kinds 69 = .ok (.getfield 10, 3) := by decide +kernel
theorem dd_T_kinds_72 : decode bc_T_kinds 72 = .ok (.invokevirtual 169, 3) := by decide +kernel
theorem dd_T_kinds_75 : decode bc_T_kinds 75 = .ok (.ireturn, 1) := by decide +kernel
theorem dd_T_kinds_76 : decode bc_T_kinds 76 = .ok (.aload_n 0, 1) := by decide +kernel
theorem dd_T_kinds_77 : decode bc_T_kinds 77 = .ok (.getfield 41, 3) := by decide +kernel
theorem dd_T_kinds_80 : decode bc_T_kinds 80 = .ok (.invokevirtual 172, 3) := by decide +kernel
theorem dd_T_kinds_83 : decode bc_T_kinds 83 = .ok (.ireturn, 1) := by decide +kernel
theorem dd_T_kinds_84 : decode bc_T_kinds 84 = .ok (.aload_n 0, 1) := by decide +kernel
theorem dd_T_kinds_85 : decode bc_T_kinds 85 = .ok (.getfield 41, 3) := by decide +kernel
theorem dd_T_kinds_88 : decode bc_T_kinds 88 = .ok (.invokevirtual 176, 3) := by decide +kernel
theorem dd_T_kinds_91 : decode bc_T_kinds 91 = .ok (.ireturn, 1) := by decide +kernel
theorem dd_T_by_0 : decode bc_T_by 0 = .ok (.aload_n 0, 1) := by decide +kernel
theorem dd_T_by_1 : decode bc_T_by 1 = .ok (.iload_n 1, 1) := by decide +kernel
theorem dd_T_by_2 : decode bc_T_by 2 = .ok (.invokevirtual 152, 3) := by decide +kernel
theorem dd_T_by_5 : decode bc_T_by 5 = .ok (.ifCond .ne 6, 3) := by decide +kernel
theorem dd_T_by_8 : decode bc_T_by 8 = .ok (.bipush (-2), 2) := by decide +kernel
theorem dd_T_by_10 : decode bc_T_by 10 = .ok (.ireturn, 1) := by decide +kernel
theorem dd_T_by_11 : decode bc_T_by 11 = .ok (.iload_n 2, 1) := by decide +kernel
theorem dd_T_by_12 : decode bc_T_by 12 = .ok (.iconst 0, 1) := by decide +kernel
theorem dd_T_by_13 : decode bc_T_by 13 = .ok (.aload_n 0, 1) := by decide +kernel
theorem dd_T_by_14 : decode bc_T_by 14 = .ok (.getfield 10, 3) := by decide +kernel
theorem dd_T_by_17 : decode bc_T_by 17 = .ok (.getfield 49, 3) := by decide +kernel
theorem dd_T_by_20 : decode bc_T_by 20 = .ok (.iconst 1, 1) := by decide +kernel
theorem dd_T_by_21 : decode bc_T_by 21 = .ok (.isub, 1) := by decide +kernel
theorem dd_T_by_22 : decode bc_T_by 22 = .ok (.invokestatic 45, 3) := by decide +kernel
theorem dd_T_by_25 : decode bc_T_by 25 = .ok (.ifCond .ne 5, 3) := by decide +kernel
theorem dd_T_by_28 : decode bc_T_by 28 = .ok (.iconst (-1), 1) := by decide +kernel
theorem dd_T_by_29 : decode bc_T_by 29 = .ok (.ireturn, 1) := by decide +kernel
theorem dd_T_by_30 : decode bc_T_by 30 = .ok (.aload_n 0, 1) := by decide +kernel
theorem dd_T_by_31 : decode bc_T_by 31 = .ok (.getfield 41, 3) := by decide +kernel
theorem dd_T_by_34 : decode bc_T_by 34 = .ok (.aload_n 0, 1) := by decide +kernel
theorem dd_T_by_35 : decode bc_T_by 35 = .ok (.getfield 10, 3) := by decide +kernel
theorem dd_T_by_38 : decode bc_T_by 38 = .ok (.invokevirtual 131, 3) := by decide +kernel
theorem dd_T_by_41 : decode bc_T_by 41 = .ok (.aload_n 0, 1) := by decide +kernel
theorem dd_T_by_42 : decode bc_T_by 42 = .ok (.getfield 41, 3) := by decide +kernel
theorem dd_T_by_45 : decode bc_T_by 45 = .ok (.iload_n 1, 1) := by decide +kernel
theorem dd_T_by_46 : decode bc_T_by 46 = .ok (.aload_n 0, 1) := by decide +kernel
theorem dd_T_by_47 : decode bc_T_by 47 = .ok (.getfield 10, 3) := by decide +kernel
theorem dd_T_by_50 : decode bc_T_by 50 = .ok (.getfield 52, 3) := by decide +kernel
theorem dd_T_by_53 : decode bc_T_by 53 = .ok (.invokevirtual 179, 3) := by decide +kernel
theorem dd_T_by_56 : decode bc_T_by 56 = .ok (.iload_n 2, 1) := by decide +kernel
theorem dd_T_by_57 : decode bc_T_by 57 = .ok (.invokestatic 182, 3) := by decide +kernel
theorem dd_T_by_60 : decode bc_T_by 60 = .ok (.ireturn, 1) := by decide +kernel
theorem dd_T_image_0 : decode bc_T_image 0 = .ok (.iload_n 1, 1) := by decide +kernel
theorem dd_T_image_1 : decode bc_T_image 1 = .ok (.iconst 0, 1) := by decide +kernel
theorem dd_T_image_2 : decode bc_T_image 2 = .ok (.iconst 1, 1) := by decide +kernel
theorem dd_T_image_3 : decode bc_T_image 3 = .ok (.invokestatic 45, 3) := by decide +kernel
theorem dd_T_image_6 : decode bc_T_image 6 = .ok (.ifCond .ne 6, 3) := by decide +kernel
theorem dd_T_image_9 : decode bc_T_image 9 = .ok (.bipush (-2), 2) := by decide +kernel
theorem dd_T_image_11 : decode bc_T_image 11 = .ok (.ireturn, 1) := by decide +kernel
theorem dd_T_image_12 : decode bc_T_image 12 = .ok (.aload_n 0, 1) := by decide +kernel
theorem dd_T_image_13 : decode bc_T_image 13 = .ok (.getfield 16, 3) := by decide +kernel
theorem dd_T_image_16 : decode bc_T_image 16 = .ok (.iload_n 1, 1) := by decide +kernel
theorem dd_T_image_17 : decode bc_T_image 17 = .ok (.aaload, 1) := by decide +kernel
theorem dd_T_image_18 : decode bc_T_image 18 = .ok (.aload_n 0, 1) := by decide +kernel
theorem dd_T_image_19 : decode bc_T_image 19 = .ok (.getfield 10, 3) := by decide +kernel
theorem dd_T_image_22 : decode bc_T_image 22 = .ok (.invokevirtual 185, 3) := by decide +kernel
theorem dd_T_image_25 : decode bc_T_image 25 = .ok (.aload_n 0, 1) := by decide +kernel
theorem dd_T_image_26 : decode bc_T_image 26 = .ok (.dup, 1) := by decide +kernel
theorem dd_T_image_27 : decode bc_T_image 27 = .ok (.getfield 20, 3) := by decide +kernel
theorem dd_T_image_30 : decode bc_T_image 30 = .ok (.iconst 1, 1) := by decide +kernel
theorem dd_T_image_31 : decode bc_T_image 31 = .ok (.iload_n 1, 1) := by decide +kernel
theorem dd_T_image_32 : decode bc_T_image 32 = .ok (.ishl, 1) := by decide +kernel
theorem dd_T_image_33 : decode bc_T_image 33 = .ok (.ior, 1) := by decide +kernel
theorem dd_T_image_34 : decode bc_T_image 34 = .ok (.putfield 20, 3) := by decide +kernel
theorem dd_T_image_37 : decode bc_T_image 37 = .ok (.iconst 1, 1) := by decide +kernel
theorem dd_T_image_38 : decode bc_T_image 38 = .ok (.ireturn, 1) := by decide +kernel
theorem dd_T_restore_0 : decode bc_T_restore 0 = .ok (.iload_n 1, 1) := by decide +kernel
theorem dd_T_restore_1 : decode bc_T_restore 1 = .ok (.iconst 0, 1) := by decide +kernel
theorem dd_T_restore_2 : decode bc_T_restore 2 = .ok (.iconst 1, 1) := by decide +kernel
theorem dd_T_restore_3 : decode bc_T_restore 3 = .ok (.invokestatic 45, 3) := by decide +kernel
theorem dd_T_restore_6 : decode bc_T_restore 6 = .ok (.ifCond .ne 6, 3) := by decide +kernel
theorem dd_T_restore_9 : decode bc_T_restore 9 = .ok (.bipush (-2), 2) := by decide +kernel
theorem dd_T_restore_11 : decode bc_T_restore 11 = .ok (.ireturn, 1) := by decide +kernel
theorem dd_T_restore_12 : decode bc_T_restore 12 = .ok (.aload_n 0, 1) := by decide +kernel
theorem dd_T_restore_13 : decode bc_T_restore 13 = .ok (.getfield 20, 3) := by decide +kernel
theorem dd_T_restore_16 : decode bc_T_restore 16 = .ok (.iload_n 1, 1) := by decide +kernel
theorem dd_T_restore_17 : decode bc_T_restore 17 = .ok (.ishr, 1) := by decide +kernel
theorem dd_T_restore_18 : decode bc_T_restore 18 = .ok (.iconst 1, 1) := by decide +kernel
theorem dd_T_restore_19 : decode bc_T_restore 19 = .ok (.iand, 1) := by decide +kernel
theorem dd_T_restore_20 : decode bc_T_restore 20 = .ok (.ifCond .ne 6, 3) := by decide +kernel
theorem dd_T_restore_23 : decode bc_T_restore 23 = .ok (.bipush (-3), 2) := by decide +kernel
theorem dd_T_restore_25 : decode bc_T_restore 25 = .ok (.ireturn, 1) := by decide +kernel
theorem dd_T_restore_26 : decode bc_T_restore 26 = .ok (.aload_n 0, 1) := by decide +kernel
theorem dd_T_restore_27 : decode bc_T_restore 27 = .ok (.getfield 10, 3) := by decide +kernel
theorem dd_T_restore_30 : decode bc_T_restore 30 = .ok (.aload_n 0, 1) := by decide +kernel
theorem dd_T_restore_31 : decode bc_T_restore 31 = .ok (.getfield 16, 3) := by decide +kernel
theorem dd_T_restore_34 : decode bc_T_restore 34 = .ok (.iload_n 1, 1) := by decide +kernel
theorem dd_T_restore_35 : decode bc_T_restore 35 = .ok (.aaload, 1) := by decide +kernel
theorem dd_T_restore_36 : decode bc_T_restore 36 = .ok (.invokevirtual 185, 3) := by decide +kernel
theorem dd_T_restore_39 : decode bc_T_restore 39 = .ok (.aload_n 0, 1) := by decide +kernel
theorem dd_T_restore_40 : decode bc_T_restore 40 = .ok (.invokevirtual 61, 3) := by decide +kernel
theorem dd_T_restore_43 : decode bc_T_restore 43 = .ok (.iconst 1, 1) := by decide +kernel
theorem dd_T_restore_44 : decode bc_T_restore 44 = .ok (.ireturn, 1) := by decide +kernel
theorem dd_T_count_0 : decode bc_T_count 0 = .ok (.iload_n 1, 1) := by decide +kernel
theorem dd_T_count_1 : decode bc_T_count 1 = .ok (.tableswitch 75 0 4 #[35, 43, 54, 62, 70], 35) := by decide +kernel
theorem dd_T_count_36 : decode bc_T_count 36 = .ok (.aload_n 0, 1) := by decide +kernel
theorem dd_T_count_37 : decode bc_T_count 37 = .ok (.getfield 10, 3) := by decide +kernel
theorem dd_T_count_40 : decode bc_T_count 40 = .ok (.getfield 49, 3) := by decide +kernel
theorem dd_T_count_43 : decode bc_T_count 43 = .ok (.ireturn, 1) := by decide +kernel
theorem dd_T_count_44 : decode bc_T_count 44 = .ok (.aload_n 0, 1) := by decide +kernel
theorem dd_T_count_45 : decode bc_T_count 45 = .ok (.getfield 10, 3) := by decide +kernel
theorem dd_T_count_48 : decode bc_T_count 48 = .ok (.getfield 52, 3) := by decide +kernel
theorem dd_T_count_51 : decode bc_T_count 51 = .ok (.getfield 72, 3) := by decide +kernel
theorem dd_T_count_54 : decode bc_T_count 54 = .ok (.ireturn, 1) := by decide +kernel
theorem dd_T_count_55 : decode bc_T_count 55 = .ok (.aload_n 0, 1) := by decide +kernel
theorem dd_T_count_56 : decode bc_T_count 56 = .ok (.getfield 10, 3) := by decide +kernel
theorem dd_T_count_59 : decode bc_T_count 59 = .ok (.getfield 121, 3) := by decide +kernel
theorem dd_T_count_62 : decode bc_T_count 62 = .ok (.ireturn, 1) := by decide +kernel
theorem dd_T_count_63 : decode bc_T_count 63 = .ok (.aload_n 0, 1) := by decide +kernel
theorem dd_T_count_64 : decode bc_T_count 64 = .ok (.getfield 27, 3) := by decide +kernel
theorem dd_T_count_67 : decode bc_T_count 67 = .ok (.getfield 79, 3) := by decide +kernel
theorem dd_T_count_70 : decode bc_T_count 70 = .ok (.ireturn, 1) := by decide +kernel
theorem dd_T_count_71 : decode bc_T_count 71 = .ok (.aload_n 0, 1) := by decide +kernel
theorem dd_T_count_72 : decode bc_T_count 72 = .ok (.getfield 20, 3) := by decide +kernel
theorem dd_T_count_75 : decode bc_T_count 75 = .ok (.ireturn, 1) := by decide +kernel
theorem dd_T_count_76 : decode bc_T_count 76 = .ok (.iload_n 1, 1) := by decide +kernel
theorem dd_T_count_77 : decode bc_T_count 77 = .ok (.bipush 10, 2) := by decide +kernel
theorem dd_T_count_79 : decode bc_T_count 79 = .ok (.bipush 13, 2) := by decide +kernel
theorem dd_T_count_81 : decode bc_T_count 81 = .ok (.invokestatic 45, 3) := by decide +kernel
theorem dd_T_count_84 : decode bc_T_count 84 = .ok (.ifCond .eq 18, 3) := by decide +kernel
theorem dd_T_count_87 : decode bc_T_count 87 = .ok (.aload_n 0, 1) := by decide +kernel
theorem dd_T_count_88 : decode bc_T_count 88 = .ok (.getfield 10, 3) := by decide +kernel
theorem dd_T_count_91 : decode bc_T_count 91 = .ok (.getfield 128, 3) := by decide +kernel
theorem dd_T_count_94 : decode bc_T_count 94 = .ok (.iload_n 1, 1) := by decide +kernel
theorem dd_T_count_95 : decode bc_T_count 95 = .ok (.bipush 10, 2) := by decide +kernel
theorem dd_T_count_97 : decode bc_T_count 97 = .ok (.isub, 1) := by decide +kernel
theorem dd_T_count_98 : decode bc_T_count 98 = .ok (.iaload, 1) := by decide +kernel
theorem dd_T_count_99 : decode bc_T_count 99 = .ok (.goto 5, 3) := by decide +kernel
theorem dd_T_count_102 : decode bc_T_count 102 = .ok (.bipush (-2), 2) := by decide +kernel
theorem dd_T_count_104 : decode bc_T_count 104 = .ok (.ireturn, 1) := by decide +kernel
theorem dd_T_isWithin_0 : decode bc_T_isWithin 0 = .ok (.iload_n 0, 1) := by decide +kernel
theorem dd_T_isWithin_1 : decode bc_T_isWithin 1 = .ok (.iload_n 1, 1) := by decide +kernel
theorem dd_T_isWithin_2 : decode bc_T_isWithin 2 = .ok (.if_icmp .lt 12, 3) := by decide +kernel
theorem dd_T_isWithin_5 : decode bc_T_isWithin 5 = .ok (.iload_n 0, 1) := by decide +kernel
theorem dd_T_isWithin_6 : decode bc_T_isWithin 6 = .ok (.iload_n 2, 1) := by decide +kernel
theorem dd_T_isWithin_7 : decode bc_T_isWithin 7 = .ok (.if_icmp .gt 7, 3) := by decide +kernel
theorem dd_T_isWithin_10 : decode bc_T_isWithin 10 = .ok (.iconst 1, 1) := by decide +kernel
theorem dd_T_isWithin_11 : decode bc_T_isWithin 11 = .ok (.goto 4, 3) := by decide +kernel
theorem dd_T_isWithin_14 : decode bc_T_isWithin 14 = .ok (.iconst 0, 1) := by decide +kernel
theorem dd_T_isWithin_15 : decode bc_T_isWithin 15 = .ok (.ireturn, 1) := by decide +kernel
theorem dd_T_isKind_0 : decode bc_T_isKind 0 = .ok (.iload_n 0, 1) := by decide +kernel
theorem dd_T_isKind_1 : decode bc_T_isKind 1 = .ok (.iconst 0, 1) := by decide +kernel
theorem dd_T_isKind_2 : decode bc_T_isKind 2 = .ok (.iconst 4, 1) := by decide +kernel
theorem dd_T_isKind_3 : decode bc_T_isKind 3 = .ok (.invokestatic 45, 3) := by decide +kernel
theorem dd_T_isKind_6 : decode bc_T_isKind 6 = .ok (.ireturn, 1) := by decide +kernel
theorem dd_T_isNumber_0 : decode bc_T_isNumber 0 = .ok (.iload_n 1, 1) := by decide +kernel
theorem dd_T_isNumber_1 : decode bc_T_isNumber 1 = .ok (.iconst 0, 1) := by decide +kernel
theorem dd_T_isNumber_2 : decode bc_T_isNumber 2 = .ok (.aload_n 0, 1) := by decide +kernel
theorem dd_T_isNumber_3 : decode bc_T_isNumber 3 = .ok (.getfield 10, 3) := by decide +kernel
theorem dd_T_isNumber_6 : decode bc_T_isNumber 6 = .ok (.invokevirtual 188, 3) := by decide +kernel
theorem dd_T_isNumber_9 : decode bc_T_isNumber 9 = .ok (.iconst 1, 1) := by decide +kernel
theorem dd_T_isNumber_10 : decode bc_T_isNumber 10 = .ok (.isub, 1) := by decide +kernel
theorem dd_T_isNumber_11 : decode bc_T_isNumber 11 = .ok (.invokestatic 45, 3) := by decide +kernel
theorem dd_T_isNumber_14 : decode bc_T_isNumber 14 = .ok (.ireturn, 1) := by decide +kernel
theorem dd_T_forgetGroup_0 : decode bc_T_forgetGroup 0 = .ok (.aload_n 0, 1) := by decide +kernel
theorem dd_T_forgetGroup_1 : decode bc_T_forgetGroup 1 = .ok (.getfield 34, 3) := by decide +kernel
theorem dd_T_forgetGroup_4 : decode bc_T_forgetGroup 4 = .ok (.iconst 0, 1) := by decide +kernel
theorem dd_T_forgetGroup_5 : decode bc_T_forgetGroup 5 = .ok (.putfield 191, 3) := by decide +kernel
theorem dd_T_forgetGroup_8 : decode bc_T_forgetGroup 8 = .ok (.aload_n 0, 1) := by decide +kernel
theorem dd_T_forgetGroup_9 : decode bc_T_forgetGroup 9 = .ok (.getfield 41, 3) := by decide +kernel
theorem dd_T_forgetGroup_12 : decode bc_T_forgetGroup 12 = .ok (.iconst 0, 1) := by decide +kernel
theorem dd_T_forgetGroup_13 : decode bc_T_forgetGroup 13 = .ok (.putfield 124, 3) := by decide +kernel
theorem dd_T_forgetGroup_16 : decode bc_T_forgetGroup 16 = .ok (.return_, 1) := by decide +kernel
theorem dd_M_init_0 : decode bc_M_init 0 = .ok (.aload_n 0, 1) := by decide +kernel
theorem dd_M_init_1 : decode bc_M_init 1 = .ok (.invokespecial 1, 3) := by decide +kernel
theorem dd_M_init_4 : decode bc_M_init 4 = .ok (.aload_n 0, 1) := by decide +kernel
theorem dd_M_init_5 : decode bc_M_init 5 = .ok (.sipush 5046, 3) := by decide +kernel
theorem dd_M_init_8 : decode bc_M_init 8 = .ok (.newarray .int, 2) := by decide +kernel
theorem dd_M_init_10 : decode bc_M_init 10 = .ok (.putfield 7, 3) := by decide +kernel
theorem dd_M_init_13 : decode bc_M_init 13 = .ok (.aload_n 0, 1) := by decide +kernel
theorem dd_M_init_14 : decode bc_M_init 14 = .ok (.sipush 10092, 3) := by decide +kernel
theorem dd_M_init_17 : decode bc_M_init 17 = .ok (.newarray .int, 2) := by decide +kernel
theorem dd_M_init_19 : decode bc_M_init 19 = .ok (.putfield 13, 3) := by decide +kernel
theorem dd_M_init_22 : decode bc_M_init 22 = .ok (.aload_n 0, 1) := by decide +kernel
theorem dd_M_init_23 : decode bc_M_init 23 = .ok (.iconst 2, 1) := by decide +kernel
theorem dd_M_init_24 : decode bc_M_init 24 = .ok (.newarray .boolean, 2) := by decide +kernel
theorem dd_M_init_26 : decode bc_M_init 26 = .ok (.putfield 16, 3) := by decide +kernel
theorem dd_M_init_29 : decode bc_M_init 29 = .ok (.aload_n 0, 1) := by decide +kernel
theorem dd_M_init_30 : decode bc_M_init 30 = .ok (.bipush 7, 2) := by decide +kernel
theorem dd_M_init_32 : decode bc_M_init 32 = .ok (.newarray .int, 2) := by decide +kernel
theorem dd_M_init_34 : decode bc_M_init 34 = .ok (.putfield 20, 3) := by decide +kernel
theorem dd_M_init_37 : decode bc_M_init 37 = .ok (.aload_n 0, 1) := by decide +kernel
theorem dd_M_init_38 : decode bc_M_init 38 = .ok (.bipush 7, 2) := by decide +kernel
theorem dd_M_init_40 : decode bc_M_init 40 = .ok (.newarray .int, 2) := by decide +kernel
theorem dd_M_init_42 : decode bc_M_init 42 = .ok (.putfield 23, 3) := by decide +kernel
theorem dd_M_init_45 : decode bc_M_init 45 = .ok (.aload_n 0, 1) := by decide +kernel
theorem dd_M_init_46 : decode bc_M_init 46 = .ok (.bipush 7, 2) := by decide +kernel
theorem dd_M_init_48 : decode bc_M_init 48 = .ok (.newarray .boolean, 2) := by decide +kernel
theorem dd_M_init_50 : decode bc_M_init 50 = .ok (.putfield 26, 3) := by decide +kernel
theorem dd_M_init_53 : decode bc_M_init 53 = .ok (.aload_n 0, 1) := by decide +kernel
theorem dd_M_init_54 : decode bc_M_init 54 = .ok (.sipush 420, 3) := by decide +kernel
theorem dd_M_init_57 : decode bc_M_init 57 = .ok (.newarray .int, 2) := by decide +kernel
theorem dd_M_init_59 : decode bc_M_init 59 = .ok (.putfield 29, 3) := by decide +kernel
theorem dd_M_init_62 : decode bc_M_init 62 = .ok (.aload_n 0, 1) := by decide +kernel
theorem dd_M_init_63 : decode bc_M_init 63 = .ok (.sipush 5040, 3) := by decide +kernel
theorem dd_M_init_66 : decode bc_M_init 66 = .ok (.newarray .int, 2) := by decide +kernel
theorem dd_M_init_68 : decode bc_M_init 68 = .ok (.putfield 32, 3) := by decide +kernel
theorem dd_M_init_71 : decode bc_M_init 71 = .ok (.aload_n 0, 1) := by decide +kernel
theorem dd_M_init_72 : decode bc_M_init 72 = .ok (.ldc 35, 2) := by decide +kernel
theorem dd_M_init_74 : decode bc_M_init 74 = .ok (.newarray .int, 2) := by decide +kernel
theorem dd_M_init_76 : decode bc_M_init 76 = .ok (.putfield 36, 3) := by decide +kernel
theorem dd_M_init_79 : decode bc_M_init 79 = .ok (.aload_n 0, 1) := by decide +kernel
theorem dd_M_init_80 : decode bc_M_init 80 = .ok (.sipush 5040, 3) := by decide +kernel
theorem dd_M_init_83 : decode bc_M_init 83 = .ok (.newarray .int, 2) := by decide +kernel
theorem dd_M_init_85 : decode bc_M_init 85 = .ok (.putfield 39, 3) := by decide +kernel
theorem dd_M_init_88 : decode bc_M_init 88 = .ok (.aload_n 0, 1) := by decide +kernel
theorem dd_M_init_89 : decode bc_M_init 89 = .ok (.bipush 8, 2) := by decide +kernel
theorem dd_M_init_91 : decode bc_M_init 91 = .ok (.newarray .int, 2) := by decide +kernel
theorem dd_M_init_93 : decode bc_M_init 93 = .ok (.putfield 42, 3) := by decide +kernel
theorem dd_M_init_96 : decode bc_M_init 96 = .ok (.aload_n 0, 1) := by decide +kernel
theorem dd_M_init_97 : decode bc_M_init 97 = .ok (.bipush 16, 2) := by decide +kernel
theorem dd_M_init_99 : decode bc_M_init 99 = .ok (.newarray .int, 2) := by decide +kernel
theorem dd_M_init_101 : decode bc_M_init 101 = .ok (.putfield 45, 3) := by decide +kernel
theorem dd_M_init_104 : decode bc_M_init 104 = .ok (.aload_n 0, 1) := by decide +kernel
theorem dd_M_init_105 : decode bc_M_init 105 = .ok (.bipush 16, 2) := by decide +kernel
theorem dd_M_init_107 : decode bc_M_init 107 = .ok (.newarray .int, 2) := by decide +kernel
theorem dd_M_init_109 : decode bc_M_init 109 = .ok (.putfield 48, 3) := by decide +kernel
theorem dd_M_init_112 : decode bc_M_init 112 = .ok (.aload_n 0, 1) := by decide +kernel
theorem dd_M_init_113 : decode bc_M_init 113 = .ok (.bipush 7, 2) := by decide +kernel
theorem dd_M_init_115 : decode bc_M_init 115 = .ok (.newarray .int, 2) := by decide +kernel
theorem dd_M_init_117 : decode bc_M_init 117 = .ok (.putfield 51, 3) := by decide +kernel
theorem dd_M_init_120 : decode bc_M_init 120 = .ok (.aload_n 0, 1) := by decide +kernel
theorem dd_M_init_121 : decode bc_M_init 121 = .ok (.sipush 16384, 3) := by decide +kernel
theorem dd_M_init_124 : decode bc_M_init 124 = .ok (.newarray .int, 2) := by decide +kernel
theorem dd_M_init_126 : decode bc_M_init 126 = .ok (.putfield 54, 3) := by decide +kernel
theorem dd_M_init_129 : decode bc_M_init 129 = .ok (.aload_n 0, 1) := by decide +kernel
theorem dd_M_init_130 : decode bc_M_init 130 = .ok (.sipush 16384, 3) := by decide +kernel
theorem dd_M_init_133 : decode bc_M_init 133 = .ok (.newarray .int, 2) := by decide +kernel
theorem dd_M_init_135 : decode bc_M_init 135 = .ok (.putfield 57, 3) := by decide +kernel
theorem dd_M_init_138 : decode bc_M_init 138 = .ok (.aload_n 0, 1) := by decide +kernel
theorem dd_M_init_139 : decode bc_M_init 139 = .ok (.sipush 16384, 3) := by decide +kernel
theorem dd_M_init_142 : decode bc_M_init 142 = .ok (.newarray .int, 2) := by decide +kernel
theorem dd_M_init_144 : decode bc_M_init 144 = .ok (.putfield 60, 3) := by decide +kernel
theorem dd_M_init_147 : decode bc_M_init 147 = .ok (.aload_n 0, 1) := by decide +kernel
theorem dd_M_init_148 : decode bc_M_init 148 = .ok (.bipush 7, 2) := by decide +kernel
theorem dd_M_init_150 : decode bc_M_init 150 = .ok (.newarray .int, 2) := by decide +kernel
theorem dd_M_init_152 : decode bc_M_init 152 = .ok (.putfield 63, 3) := by decide +kernel
theorem dd_M_init_155 : decode bc_M_init 155 = .ok (.aload_n 0, 1) := by decide +kernel
theorem dd_M_init_156 : decode bc_M_init 156 = .ok (.getfield 7, 3) := by decide +kernel
theorem dd_M_init_159 : decode bc_M_init 159 = .ok (.iconst 0, 1) := by decide +kernel
theorem dd_M_init_160 : decode bc_M_init 160 = .ok (.iconst 4, 1) := by decide +kernel
theorem dd_M_init_161 : decode bc_M_init 161 = .ok (.iastore, 1) := by decide +kernel
theorem dd_M_init_162 : decode bc_M_init 162 = .ok (.aload_n 0, 1) := by decide +kernel
theorem dd_M_init_163 : decode bc_M_init 163 = .ok (.getfield 7, 3) := by decide +kernel
theorem dd_M_init_166 : decode bc_M_init 166 = .ok (.iconst 1, 1) := by decide +kernel
theorem dd_M_init_167 : decode bc_M_init 167 = .ok (.iconst 2, 1) := by decide +kernel
theorem dd_M_init_168 : decode bc_M_init 168 = .ok (.iastore, 1) := by decide +kernel
theorem dd_M_init_169 : decode bc_M_init 169 = .ok (.iconst 0, 1) := by decide +kernel
theorem dd_M_init_170 : decode bc_M_init 170 = .ok (.istore_n 1, 1) := by decide +kernel
theorem dd_M_init_171 : decode bc_M_init 171 = .ok (.iload_n 1, 1) := by decide +kernel
theorem dd_M_init_172 : decode bc_M_init 172 = .ok (.iconst 4, 1) := by decide +kernel
theorem dd_M_init_173 : decode bc_M_init 173 = .ok (.if_icmp .ge 18, 3) := by decide +kernel
theorem dd_M_init_176 : decode bc_M_init 176 = .ok (.aload_n 0, 1) := by decide +kernel
theorem dd_M_init_177 : decode bc_M_init 177 = .ok (.getfield 7, 3) := by decide +kernel
theorem dd_M_init_180 : decode bc_M_init 180 = .ok (.iconst 2, 1) := by decide +kernel
theorem dd_M_init_181 : decode bc_M_init 181 = .ok (.iload_n 1, 1) := by decide +kernel
theorem dd_M_init_182 : decode bc_M_init 182 = .ok (.iadd, 1) := by decide +kernel
theorem dd_M_init_183 : decode bc_M_init 183 = .ok (.iload_n 1, 1) := by decide +kernel
theorem dd_M_init_184 : decode bc_M_init 184 = .ok (.iastore, 1) := by decide +kernel
theorem dd_M_init_185 : decode bc_M_init 185 = .ok (.iinc 1 1, 3) := by decide +kernel
theorem dd_M_init_188 : decode bc_M_init 188 = .ok (.goto (-17), 3) := by decide +kernel
theorem dd_M_init_191 : decode bc_M_init 191 = .ok (.aload_n 0, 1) := by decide +kernel
theorem dd_M_init_192 : decode bc_M_init 192 = .ok (.invokevirtual 66, 3) := by decide +kernel
theorem dd_M_init_195 : decode bc_M_init 195 = .ok (.aload_n 0, 1) := by decide +kernel
theorem dd_M_init_196 : decode bc_M_init 196 = .ok (.invokevirtual 69, 3) := by decide +kernel
theorem dd_M_init_199 : decode bc_M_init 199 = .ok (.return_, 1) := by decide +kernel
theorem dd_M_in_0 : decode bc_M_in 0 = .ok (.iload_n 0, 1) := by decide +kernel
theorem dd_M_in_1 : decode bc_M_in 1 = .ok (.iload_n 1, 1) := by decide +kernel
theorem dd_M_in_2 : decode bc_M_in 2 = .ok (.if_icmp .lt 12, 3) := by decide +kernel
theorem dd_M_in_5 : decode bc_M_in 5 = .ok (.iload_n 0, 1) := by decide +kernel
theorem dd_M_in_6 : decode bc_M_in 6 = .ok (.iload_n 2, 1) := by decide +kernel
theorem dd_M_in_7 : decode bc_M_in 7 = .ok (.if_icmp .gt 7, 3) := by decide +kernel
theorem dd_M_in_10 : decode bc_M_in 10 = .ok (.iconst 1, 1) := by decide +kernel
theorem dd_M_in_11 : decode bc_M_in 11 = .ok (.goto 4, 3) := by decide +kernel
theorem dd_M_in_14 : decode bc_M_in 14 = .ok (.iconst 0, 1) := by decide +kernel
theorem dd_M_in_15 : decode bc_M_in 15 = .ok (.ireturn, 1) := by decide +kernel
theorem dd_M_many_0 : decode bc_M_many 0 = .ok (.aload_n 0, 1) := by decide +kernel
theorem dd_M_many_1 : decode bc_M_many 1 = .ok (.getfield 7, 3) := by decide +kernel
theorem dd_M_many_4 : decode bc_M_many 4 = .ok (.iconst 0, 1) := by decide +kernel
theorem dd_M_many_5 : decode bc_M_many 5 = .ok (.iaload, 1) := by decide +kernel
theorem dd_M_many_6 : decode bc_M_many 6 = .ok (.ireturn, 1) := by decide +kernel
theorem dd_M_rank_0 : decode bc_M_rank 0 = .ok (.iconst 0, 1) := by decide +kernel
theorem dd_M_rank_1 : decode bc_M_rank 1 = .ok (.istore_n 1, 1) := by decide +kernel
theorem dd_M_rank_2 : decode bc_M_rank 2 = .ok (.iconst 0, 1) := by decide +kernel
theorem dd_M_rank_3 : decode bc_M_rank 3 = .ok (.istore_n 2, 1) := by decide +kernel
theorem dd_M_rank_4 : decode bc_M_rank 4 = .ok (.iload_n 2, 1) := by decide +kernel
theorem dd_M_rank_5 : decode bc_M_rank 5 = .ok (.aload_n 0, 1) := by decide +kernel
theorem dd_M_rank_6 : decode bc_M_rank 6 = .ok (.invokevirtual 72, 3) := by decide +kernel
theorem dd_M_rank_9 : decode bc_M_rank 9 = .ok (.if_icmp .ge 66, 3) := by decide +kernel
theorem dd_M_rank_12 : decode bc_M_rank 12 = .ok (.iconst 0, 1) := by decide +kernel
theorem dd_M_rank_13 : decode bc_M_rank 13 = .ok (.istore_n 3, 1) := by decide +kernel
theorem dd_M_rank_14 : decode bc_M_rank 14 = .ok (.iload_n 2, 1) := by decide +kernel
theorem dd_M_rank_15 : decode bc_M_rank 15 = .ok (.iconst 1, 1) := by decide +kernel
theorem dd_M_rank_16 : decode bc_M_rank 16 = .ok (.iadd, 1) := by decide +kernel
theorem dd_M_rank_17 : decode bc_M_rank 17 = .ok (.istore 4, 2) := by decide +kernel
theorem dd_M_rank_19 : decode bc_M_rank 19 = .ok (.iload 4, 2) := by decide +kernel
theorem dd_M_rank_21 : decode bc_M_rank 21 = .ok (.aload_n 0, 1) := by decide +kernel
theorem dd_M_rank_22 : decode bc_M_rank 22 = .ok (.invokevirtual 72, 3) := by decide +kernel
theorem dd_M_rank_25 : decode bc_M_rank 25 = .ok (.if_icmp .ge 33, 3) := by decide +kernel
theorem dd_M_rank_28 : decode bc_M_rank 28 = .ok (.iload_n 3, 1) := by decide +kernel
theorem dd_M_rank_29 : decode bc_M_rank 29 = .ok (.aload_n 0, 1) := by decide +kernel
theorem dd_M_rank_30 : decode bc_M_rank 30 = .ok (.getfield 23, 3) := by decide +kernel
theorem dd_M_rank_33 : decode bc_M_rank 33 = .ok (.iload 4, 2) := by decide +kernel
theorem dd_M_rank_35 : decode bc_M_rank 35 = .ok (.iaload, 1) := by decide +kernel
theorem dd_M_rank_36 : decode bc_M_rank 36 = .ok (.aload_n 0, 1) := by decide +kernel
theorem dd_M_rank_37 : decode bc_M_rank 37 = .ok (.getfield 23, 3) := by decide +kernel
theorem dd_M_rank_40 : decode bc_M_rank 40 = .ok (.iload_n 2, 1) := by decide +kernel
theorem dd_M_rank_41 : decode bc_M_rank 41 = .ok (.iaload, 1) := by decide +kernel
theorem dd_M_rank_42 : decode bc_M_rank 42 = .ok (.if_icmp .ge 7, 3) := by decide +kernel
theorem dd_M_rank_45 : decode bc_M_rank 45 = .ok (.iconst 1, 1) := by decide +kernel
theorem dd_M_rank_46 : decode bc_M_rank 46 = .ok (.goto 4, 3) := by decide +kernel
theorem dd_M_rank_49 : decode bc_M_rank 49 = .ok (.iconst 0, 1) := by decide +kernel
theorem dd_M_rank_50 : decode bc_M_rank 50 = .ok (.iadd, 1) := by decide +kernel
theorem dd_M_rank_51 : decode bc_M_rank 51 = .ok (.istore_n 3, 1) := by decide +kernel
theorem dd_M_rank_52 : decode bc_M_rank 52 = .ok (.iinc 4 1, 3) := by decide +kernel
theorem dd_M_rank_55 : decode bc_M_rank 55 = .ok (.goto (-36), 3) := by decide +kernel
theorem dd_M_rank_58 : decode bc_M_rank 58 = .ok (.iload_n 1, 1) := by decide +kernel
theorem dd_M_rank_59 : decode bc_M_rank 59 = .ok (.aload_n 0, 1) := by decide +kernel
theorem dd_M_rank_60 : decode bc_M_rank 60 = .ok (.invokevirtual 72, 3) := by decide +kernel
theorem dd_M_rank_63 : decode bc_M_rank 63 = .ok (.iload_n 2, 1) := by decide +kernel
theorem dd_M_rank_64 : decode bc_M_rank 64 = .ok (.isub, 1) := by decide +kernel
theorem dd_M_rank_65 : decode bc_M_rank 65 = .ok (.imul, 1) := by decide +kernel
theorem dd_M_rank_66 : decode bc_M_rank 66 = .ok (.iload_n 3, 1) := by decide +kernel
theorem dd_M_rank_67 : decode bc_M_rank 67 = .ok (.iadd, 1) := by decide +kernel
theorem dd_M_rank_68 : decode bc_M_rank 68 = .ok (.istore_n 1, 1) := by decide +kernel
theorem dd_M_rank_69 : decode bc_M_rank 69 = .ok (.iinc 2 1, 3) := by decide +kernel
theorem dd_M_rank_72 : decode bc_M_rank 72 = .ok (.goto (-68), 3) := by decide +kernel
theorem dd_M_rank_75 : decode bc_M_rank 75 = .ok (.iload_n 1, 1) := by decide +kernel
theorem dd_M_rank_76 : decode bc_M_rank 76 = .ok (.ireturn, 1) := by decide +kernel
theorem dd_M_layRank_0 : decode bc_M_layRank 0 = .ok (.iload_n 1, 1) := by decide +kernel
theorem dd_M_layRank_1 : decode bc_M_layRank 1 = .ok (.istore_n 2, 1) := by decide +kernel
theorem dd_M_layRank_2 : decode bc_M_layRank 2 = .ok (.aload_n 0, 1) := by decide +kernel
theorem dd_M_layRank_3 : decode bc_M_layRank 3 = .ok (.invokevirtual 72, 3) := by decide +kernel
theorem dd_M_layRank_6 : decode bc_M_layRank 6 = .ok (.iconst 1, 1) := by decide +kernel
theorem dd_M_layRank_7 : decode bc_M_layRank 7 = .ok (.isub, 1) := by decide +kernel
theorem dd_M_layRank_8 : decode bc_M_layRank 8 = .ok (.istore_n 3, 1) := by decide +kernel
theorem dd_M_layRank_9 : decode bc_M_layRank 9 = .ok (.iload_n 3, 1) := by decide +kernel
theorem dd_M_layRank_10 : decode bc_M_layRank 10 = .ok (.ifCond .lt 39, 3) := by decide +kernel
theorem dd_M_layRank_13 : decode bc_M_layRank 13 = .ok (.aload_n 0, 1) := by decide +kernel
theorem dd_M_layRank_14 : decode bc_M_layRank 14 = .ok (.getfield 23, 3) := by decide +kernel
theorem dd_M_layRank_17 : decode bc_M_layRank 17 = .ok (.iload_n 3, 1) := by decide +kernel
theorem dd_M_layRank_18 : decode bc_M_layRank 18 = .ok (.iload_n 2, 1) := by decide +kernel
theorem dd_M_layRank_19 : decode bc_M_layRank 19 = .ok (.aload_n 0, 1) := by decide +kernel
theorem dd_M_layRank_20 : decode bc_M_layRank 20 = .ok (.invokevirtual 72, 3) := by decide +kernel
theorem dd_M_layRank_23 : decode bc_M_layRank 23 = .ok (.iload_n 3, 1) := by decide +kernel
theorem dd_M_layRank_24 : decode bc_M_layRank 24 = .ok (.isub, 1) := by decide +kernel
theorem dd_M_layRank_25 : decode bc_M_layRank 25 = .ok (.irem, 1) := by decide +kernel
theorem dd_M_layRank_26 : decode bc_M_layRank 26 = .ok (.iastore, 1) := by decide +kernel
theorem dd_M_layRank_27 : decode bc_M_layRank 27 = .ok (.iload_n 2, 1) := by decide +kernel
theorem dd_M_layRank_28 : decode bc_M_layRank 28 = .ok (.aload_n 0, 1) := by decide +kernel
theorem dd_M_layRank_29 : decode bc_M_layRank 29 = .ok (.invokevirtual 72, 3) := by decide +kernel
theorem dd_M_layRank_32 : decode bc_M_layRank 32 = .ok (.iload_n 3, 1) := by decide +kernel
theorem dd_M_layRank_33 : decode bc_M_layRank 33 = .ok (.isub, 1) := by decide +kernel
theorem dd_M_layRank_34 : decode bc_M_layRank 34 = .ok (.idiv, 1) := by decide +kernel
theorem dd_M_layRank_35 : decode bc_M_layRank 35 = .ok (.istore_n 2, 1) := by decide +kernel
theorem dd_M_layRank_36 : decode bc_M_layRank 36 = .ok (.aload_n 0, 1) := by decide +kernel
theorem dd_M_layRank_37 : decode bc_M_layRank 37 = .ok (.getfield 26, 3) := by decide +kernel
theorem dd_M_layRank_40 : decode bc_M_layRank 40 = .ok (.iload_n 3, 1) := by decide +kernel
theorem dd_M_layRank_41 : decode bc_M_layRank 41 = .ok (.iconst 0, 1) := by decide +kernel
theorem dd_M_layRank_42 : decode bc_M_layRank 42 = .ok (.bastore, 1) := by decide +kernel
theorem dd_M_layRank_43 : decode bc_M_layRank 43 = .ok (.iinc 3 (-1), 3) := by decide +kernel
theorem dd_M_layRank_46 : decode bc_M_layRank 46 = .ok (.goto (-37), 3) := by decide +kernel
theorem dd_M_layRank_49 : decode bc_M_layRank 49 = .ok (.iconst 0, 1) := by decide +kernel
theorem dd_M_layRank_50 : decode bc_M_layRank 50 = .ok (.istore_n 3, 1) := by decide +kernel
theorem dd_M_layRank_51 : decode bc_M_layRank 51 = .ok (.iload_n 3, 1) := by decide +kernel
theorem dd_M_layRank_52 : decode bc_M_layRank 52 = .ok (.aload_n 0, 1) := by decide +kernel
theorem dd_M_layRank_53 : decode bc_M_layRank 53 = .ok (.invokevirtual 72, 3) := by decide +kernel
theorem dd_M_layRank_56 : decode bc_M_layRank 56 = .ok (.if_icmp .ge 77, 3) := by decide +kernel
theorem dd_M_layRank_59 : decode bc_M_layRank 59 = .ok (.aload_n 0, 1) := by decide +kernel
theorem dd_M_layRank_60 : decode bc_M_layRank 60 = .ok (.getfield 23, 3) := by decide +kernel
theorem dd_M_layRank_63 : decode bc_M_layRank 63 = .ok (.iload_n 3, 1) := by decide +kernel
theorem dd_M_layRank_64 : decode bc_M_layRank 64 = .ok (.iaload, 1) := by decide +kernel
theorem dd_M_layRank_65 : decode bc_M_layRank 65 = .ok (.istore 4, 2) := by decide +kernel
theorem dd_M_layRank_67 : decode bc_M_layRank 67 = .ok (.iconst 0, 1) := by decide +kernel
theorem dd_M_layRank_68 : decode bc_M_layRank 68 = .ok (.istore 5, 2) := by decide +kernel
theorem dd_M_layRank_70 : decode bc_M_layRank 70 = .ok (.aload_n 0, 1) := by decide +kernel
theorem dd_M_layRank_71 : decode bc_M_layRank 71 = .ok (.getfield 26, 3) := by decide +kernel
theorem dd_M_layRank_74 : decode bc_M_layRank 74 = .ok (.iload 5, 2) := by decide +kernel
theorem dd_M_layRank_76 : decode bc_M_layRank 76 = .ok (.baload, 1) := by decide +kernel
theorem dd_M_layRank_77 : decode bc_M_layRank 77 = .ok (.ifCond .ne 8, 3) := by decide +kernel
theorem dd_M_layRank_80 : decode bc_M_layRank 80 = .ok (.iload 4, 2) := by decide +kernel
theorem dd_M_layRank_82 : decode bc_M_layRank 82 = .ok (.ifCond .le 29, 3) := by decide +kernel
theorem dd_M_layRank_85 : decode bc_M_layRank 85 = .ok (.iload 4, 2) := by decide +kernel
theorem dd_M_layRank_87 : decode bc_M_layRank 87 = .ok (.aload_n 0, 1) := by decide +kernel
theorem dd_M_layRank_88 : decode bc_M_layRank 88 = .ok (.getfield 26, 3) := by decide +kernel
theorem dd_M_layRank_91 : decode bc_M_layRank 91 = .ok (.iload 5, 2) := by decide +kernel
theorem dd_M_layRank_93 : decode bc_M_layRank 93 = .ok (.baload, 1) := by decide +kernel
theorem dd_M_layRank_94 : decode bc_M_layRank 94 = .ok (.ifCond .eq 7, 3) := by decide +kernel
theorem dd_M_layRank_97 : decode bc_M_layRank 97 = .ok (.iconst 0, 1) := by decide +kernel
theorem dd_M_layRank_98 : decode bc_M_layRank 98 = .ok (.goto 4, 3) := by decide +kernel
theorem dd_M_layRank_101 : decode bc_M_layRank 101 = .ok (.iconst 1, 1) := by decide +kernel
theorem dd_M_layRank_102 : decode bc_M_layRank 102 = .ok (.isub, 1) := by decide +kernel
theorem dd_M_layRank_103 : decode bc_M_layRank 103 = .ok (.istore 4, 2) := by decide +kernel
theorem dd_M_layRank_105 : decode bc_M_layRank 105 = .ok (.iinc 5 1, 3) := by decide +kernel
theorem dd_M_layRank_108 : decode bc_M_layRank 108 = .ok (.goto (-38), 3) := by decide +kernel
theorem dd_M_layRank_111 : decode bc_M_layRank 111 = .ok (.aload_n 0, 1) := by decide +kernel
theorem dd_M_layRank_112 : decode bc_M_layRank 112 = .ok (.getfield 26, 3) := by decide +kernel
theorem dd_M_layRank_115 : decode bc_M_layRank 115 = .ok (.iload 5, 2) := by decide +kernel
theorem dd_M_layRank_117 : decode bc_M_layRank 117 = .ok (.iconst 1, 1) := by decide +kernel
theorem dd_M_layRank_118 : decode bc_M_layRank 118 = .ok (.bastore, 1) := by decide +kernel
theorem dd_M_layRank_119 : decode bc_M_layRank 119 = .ok (.aload_n 0, 1) := by decide +kernel
theorem dd_M_layRank_120 : decode bc_M_layRank 120 = .ok (.getfield 23, 3) := by decide +kernel
theorem dd_M_layRank_123 : decode bc_M_layRank 123 = .ok (.iload_n 3, 1) := by decide +kernel
theorem dd_M_layRank_124 : decode bc_M_layRank 124 = .ok (.iload 5, 2) := by decide +kernel
theorem dd_M_layRank_126 : decode bc_M_layRank 126 = .ok (.iastore, 1) := by decide +kernel
theorem dd_M_layRank_127 : decode bc_M_layRank 127 = .ok (.iinc 3 1, 3) := by decide +kernel
theorem dd_M_layRank_130 : decode bc_M_layRank 130 = .ok (.goto (-79), 3) := by decide +kernel
theorem dd_M_layRank_133 : decode bc_M_layRank 133 = .ok (.return_, 1) := by decide +kernel
theorem dd_M_beginGroup_0 : decode bc_M_beginGroup 0 = .ok (.aload_n 0, 1) := by decide +kernel
theorem dd_M_beginGroup_1 : decode bc_M_beginGroup 1 = .ok (.iconst 0, 1) := by decide +kernel
theorem dd_M_beginGroup_2 : decode bc_M_beginGroup 2 = .ok (.putfield 76, 3) := by decide +kernel
theorem dd_M_beginGroup_5 : decode bc_M_beginGroup 5 = .ok (.return_, 1) := by decide +kernel
theorem dd_M_addMaker_0 : decode bc_M_addMaker 0 = .ok (.iconst 0, 1) := by decide +kernel
theorem dd_M_addMaker_1 : decode bc_M_addMaker 1 = .ok (.istore_n 1, 1) := by decide +kernel
theorem dd_M_addMaker_2 : decode bc_M_addMaker 2 = .ok (.iload_n 1, 1) := by decide +kernel
theorem dd_M_addMaker_3 : decode bc_M_addMaker 3 = .ok (.aload_n 0, 1) := by decide +kernel
theorem dd_M_addMaker_4 : decode bc_M_addMaker 4 = .ok (.invokevirtual 72, 3) := by decide +kernel
theorem dd_M_addMaker_7 : decode bc_M_addMaker 7 = .ok (.if_icmp .ge 29, 3) := by decide +kernel
theorem dd_M_addMaker_10 : decode bc_M_addMaker 10 = .ok (.aload_n 0, 1) := by decide +kernel
theorem dd_M_addMaker_11 : decode bc_M_addMaker 11 = .ok (.getfield 29, 3) := by decide +kernel
theorem dd_M_addMaker_14 : decode bc_M_addMaker 14 = .ok (.bipush 7, 2) := by decide +kernel
theorem dd_M_addMaker_16 : decode bc_M_addMaker 16 = .ok (.aload_n 0, 1) := by decide +kernel
theorem dd_M_addMaker_17 : decode bc_M_addMaker 17 = .ok (.getfield 76, 3) := by decide +kernel
theorem dd_M_addMaker_20 : decode bc_M_addMaker 20 = .ok (.imul, 1) := by decide +kernel
theorem dd_M_addMaker_21 : decode bc_M_addMaker 21 = .ok (.iload_n 1, 1) := by decide +kernel
theorem dd_M_addMaker_22 : decode bc_M_addMaker 22 = .ok (.iadd, 1) := by decide +kernel
theorem dd_M_addMaker_23 : decode bc_M_addMaker 23 = .ok (.aload_n 0, 1) := by decide +kernel
theorem dd_M_addMaker_24 : decode bc_M_addMaker 24 = .ok (.getfield 23, 3) := by decide +kernel
theorem dd_M_addMaker_27 : decode bc_M_addMaker 27 = .ok (.iload_n 1, 1) := by decide +kernel
theorem dd_M_addMaker_28 : decode bc_M_addMaker 28 = .ok (.iaload, 1) := by decide +kernel
theorem dd_M_addMaker_29 : decode bc_M_addMaker 29 = .ok (.iastore, 1) := by decide +kernel
theorem dd_M_addMaker_30 : decode bc_M_addMaker 30 = .ok (.iinc 1 1, 3) := by decide +kernel
theorem dd_M_addMaker_33 : decode bc_M_addMaker 33 = .ok (.goto (-31), 3) := by decide +kernel
theorem dd_M_addMaker_36 : decode bc_M_addMaker 36 = .ok (.aload_n 0, 1) := by decide +kernel
theorem dd_M_addMaker_37 : decode bc_M_addMaker 37 = .ok (.dup, 1) := by decide +kernel
theorem dd_M_addMaker_38 : decode bc_M_addMaker 38 = .ok (.getfield 76, 3) := by decide +kernel
theorem dd_M_addMaker_41 : decode bc_M_addMaker 41 = .ok (.iconst 1, 1) := by decide +kernel
theorem dd_M_addMaker_42 : decode bc_M_addMaker 42 = .ok (.iadd, 1) := by decide +kernel
theorem dd_M_addMaker_43 : decode bc_M_addMaker 43 = .ok (.putfield 76, 3) := by decide +kernel
theorem dd_M_addMaker_46 : decode bc_M_addMaker 46 = .ok (.return_, 1) := by decide +kernel
theorem dd_M_layStill_0 : decode bc_M_layStill 0 = .ok (.iconst 0, 1) := by decide +kernel
theorem dd_M_layStill_1 : decode bc_M_layStill 1 = .ok (.istore_n 1, 1) := by decide +kernel
theorem dd_M_layStill_2 : decode bc_M_layStill 2 = .ok (.iload_n 1, 1) := by decide +kernel
theorem dd_M_layStill_3 : decode bc_M_layStill 3 = .ok (.aload_n 0, 1) := by decide +kernel
theorem dd_M_layStill_4 : decode bc_M_layStill 4 = .ok (.invokevirtual 72, 3) := by decide +kernel
theorem dd_M_layStill_7 : decode bc_M_layStill 7 = .ok (.if_icmp .ge 16, 3) := by decide +kernel
theorem dd_M_layStill_10 : decode bc_M_layStill 10 = .ok (.aload_n 0, 1) := by decide +kernel
theorem dd_M_layStill_11 : decode bc_M_layStill 11 = .ok (.getfield 23, 3) := by decide +kernel
theorem dd_M_layStill_14 : decode bc_M_layStill 14 = .ok (.iload_n 1, 1) := by decide +kernel
theorem dd_M_layStill_15 : decode bc_M_layStill 15 = .ok (.iload_n 1, 1) := by decide +kernel
theorem dd_M_layStill_16 : decode bc_M_layStill 16 = .ok (.iastore, 1) := by decide +kernel
theorem dd_M_layStill_17 : decode bc_M_layStill 17 = .ok (.iinc 1 1, 3) := by decide +kernel
theorem dd_M_layStill_20 : decode bc_M_layStill 20 = .ok (.goto (-18), 3) := by decide +kernel
theorem dd_M_layStill_23 : decode bc_M_layStill 23 = .ok (.return_, 1) := by decide +kernel
theorem dd_M_meet_0 : decode bc_M_meet 0 = .ok (.aload_n 0, 1) := by decide +kernel
theorem dd_M_meet_1 : decode bc_M_meet 1 = .ok (.getfield 7, 3) := by decide +kernel
theorem dd_M_meet_4 : decode bc_M_meet 4 = .ok (.bipush 6, 2) := by decide +kernel
theorem dd_M_meet_6 : decode bc_M_meet 6 = .ok (.iload_n 1, 1) := by decide +kernel
theorem dd_M_meet_7 : decode bc_M_meet 7 = .ok (.iadd, 1) := by decide +kernel
theorem dd_M_meet_8 : decode bc_M_meet 8 = .ok (.iaload, 1) := by decide +kernel
theorem dd_M_meet_9 : decode bc_M_meet 9 = .ok (.ifCond .ne 33, 3) := by decide +kernel
theorem dd_M_meet_12 : decode bc_M_meet 12 = .ok (.aload_n 0, 1) := by decide +kernel
theorem dd_M_meet_13 : decode bc_M_meet 13 = .ok (.getfield 7, 3) := by decide +kernel
theorem dd_M_meet_16 : decode bc_M_meet 16 = .ok (.bipush 6, 2) := by decide +kernel
theorem dd_M_meet_18 : decode bc_M_meet 18 = .ok (.iload_n 1, 1) := by decide +kernel
theorem dd_M_meet_19 : decode bc_M_meet 19 = .ok (.iadd, 1) := by decide +kernel
theorem dd_M_meet_20 : decode bc_M_meet 20 = .ok (.iconst 1, 1) := by decide +kernel
theorem dd_M_meet_21 : decode bc_M_meet 21 = .ok (.iastore, 1) := by decide +kernel
theorem dd_M_meet_22 : decode bc_M_meet 22 = .ok (.aload_n 0, 1) := by decide +kernel
theorem dd_M_meet_23 : decode bc_M_meet 23 = .ok (.getfield 32, 3) := by decide +kernel
theorem dd_M_meet_26 : decode bc_M_meet 26 = .ok (.aload_n 0, 1) := by decide +kernel
theorem dd_M_meet_27 : decode bc_M_meet 27 = .ok (.getfield 80, 3) := by decide +kernel
theorem dd_M_meet_30 : decode bc_M_meet 30 = .ok (.iload_n 1, 1) := by decide +kernel
theorem dd_M_meet_31 : decode bc_M_meet 31 = .ok (.iastore, 1) := by decide +kernel
theorem dd_M_meet_32 : decode bc_M_meet 32 = .ok (.aload_n 0, 1) := by decide +kernel
theorem dd_M_meet_33 : decode bc_M_meet 33 = .ok (.dup, 1) := by decide +kernel
theorem dd_M_meet_34 : decode bc_M_meet 34 = .ok (.getfield 80, 3) := by decide +kernel
theorem dd_M_meet_37 : decode bc_M_meet 37 = .ok (.iconst 1, 1) := by decide +kernel
theorem dd_M_meet_38 : decode bc_M_meet 38 = .ok (.iadd, 1) := by decide +kernel
theorem dd_M_meet_39 : decode bc_M_meet 39 = .ok (.putfield 80, 3) := by decide +kernel
theorem dd_M_meet_42 : decode bc_M_meet 42 = .ok (.return_, 1) := by decide +kernel
theorem dd_M_closeGroup_0 : decode bc_M_closeGroup 0 = .ok (.iconst 0, 1) := by decide +kernel
theorem dd_M_closeGroup_1 : decode bc_M_closeGroup 1 = .ok (.istore_n 1, 1) := by decide +kernel
theorem dd_M_closeGroup_2 : decode bc_M_closeGroup 2 = .ok (.iload_n 1, 1) := by decide +kernel
theorem dd_M_closeGroup_3 : decode bc_M_closeGroup 3 = .ok (.sipush 5040, 3) := by decide +kernel
theorem dd_M_closeGroup_6 : decode bc_M_closeGroup 6 = .ok (.if_icmp .ge 19, 3) := by decide +kernel
theorem dd_M_closeGroup_9 : decode bc_M_closeGroup 9 = .ok (.aload_n 0, 1) := by decide +kernel
theorem dd_M_closeGroup_10 : decode bc_M_closeGroup 10 = .ok (.getfield 7, 3) := by decide +kernel
theorem dd_M_closeGroup_13 : decode bc_M_closeGroup 13 = .ok (.bipush 6, 2) := by decide +kernel
theorem dd_M_closeGroup_15 : decode bc_M_closeGroup 15 = .ok (.iload_n 1, 1) := by decide +kernel
theorem dd_M_closeGroup_16 : decode bc_M_closeGroup 16 = .ok (.iadd, 1) := by decide +kernel
theorem dd_M_closeGroup_17 : decode bc_M_closeGroup 17 = .ok (.iconst 0, 1) := by decide +kernel
theorem dd_M_closeGroup_18 : decode bc_M_closeGroup 18 = .ok (.iastore, 1) := by decide +kernel
theorem dd_M_closeGroup_19 : decode bc_M_closeGroup 19 = .ok (.iinc 1 1, 3) := by decide +kernel
theorem dd_M_closeGroup_22 : decode bc_M_closeGroup 22 = .ok (.goto (-20), 3) := by decide +kernel
theorem dd_M_closeGroup_25 : decode bc_M_closeGroup 25 = .ok (.aload_n 0, 1) := by decide +kernel
theorem dd_M_closeGroup_26 : decode bc_M_closeGroup 26 = .ok (.iconst 0, 1) := by decide +kernel
theorem dd_M_closeGroup_27 : decode bc_M_closeGroup 27 = .ok (.putfield 80, 3) := by decide +kernel
theorem dd_M_closeGroup_30 : decode bc_M_closeGroup 30 = .ok (.aload_n 0, 1) := by decide +kernel
theorem dd_M_closeGroup_31 : decode bc_M_closeGroup 31 = .ok (.invokevirtual 83, 3) := by decide +kernel
theorem dd_M_closeGroup_34 : decode bc_M_closeGroup 34 = .ok (.aload_n 0, 1) := by decide +kernel
theorem dd_M_closeGroup_35 : decode bc_M_closeGroup 35 = .ok (.aload_n 0, 1) := by decide +kernel
theorem dd_M_closeGroup_36 : decode bc_M_closeGroup 36 = .ok (.invokevirtual 86, 3) := by decide +kernel
theorem dd_M_closeGroup_39 : decode bc_M_closeGroup 39 = .ok (.invokevirtual 89, 3) := by decide +kernel
theorem dd_M_closeGroup_42 : decode bc_M_closeGroup 42 = .ok (.iconst 0, 1) := by decide +kernel
theorem dd_M_closeGroup_43 : decode bc_M_closeGroup 43 = .ok (.istore_n 1, 1) := by decide +kernel
theorem dd_M_closeGroup_44 : decode bc_M_closeGroup 44 = .ok (.iload_n 1, 1) := by decide +kernel
theorem dd_M_closeGroup_45 : decode bc_M_closeGroup 45 = .ok (.aload_n 0, 1) := by decide +kernel
theorem dd_M_closeGroup_46 : decode bc_M_closeGroup 46 = .ok (.getfield 80, 3) := by decide +kernel
theorem dd_M_closeGroup_49 : decode bc_M_closeGroup 49 = .ok (.if_icmp .ge 81, 3) := by decide +kernel
theorem dd_M_closeGroup_52 : decode bc_M_closeGroup 52 = .ok (.iconst 0, 1) := by decide +kernel
theorem dd_M_closeGroup_53 : decode bc_M_closeGroup 53 = .ok (.istore_n 2, 1) := by decide +kernel
theorem dd_M_closeGroup_54 : decode bc_M_closeGroup 54 = .ok (.iload_n 2, 1) := by decide +kernel
theorem dd_M_closeGroup_55 : decode bc_M_closeGroup 55 = .ok (.aload_n 0, 1) := by decide +kernel
theorem dd_M_closeGroup_56 : decode bc_M_closeGroup 56 = .ok (.getfield 76, 3) := by decide +kernel
theorem dd_M_closeGroup_59 : decode bc_M_closeGroup 59 = .ok (.if_icmp .ge 65, 3) := by decide +kernel
theorem dd_M_closeGroup_62 : decode bc_M_closeGroup 62 = .ok (.aload_n 0, 1) := by decide +kernel
theorem dd_M_closeGroup_63 : decode bc_M_closeGroup 63 = .ok (.aload_n 0, 1) := by decide +kernel
theorem dd_M_closeGroup_64 : decode bc_M_closeGroup 64 = .ok (.getfield 32, 3) := by decide +kernel
theorem dd_M_closeGroup_67 : decode bc_M_closeGroup 67 = .ok (.iload_n 1, 1) := by decide +kernel
theorem dd_M_closeGroup_68 : decode bc_M_closeGroup 68 = .ok (.iaload, 1) := by decide +kernel
theorem dd_M_closeGroup_69 : decode bc_M_closeGroup 69 = .ok (.invokevirtual 93, 3) := by decide +kernel
theorem dd_M_closeGroup_72 : decode bc_M_closeGroup 72 = .ok (.iconst 0, 1) := by decide +kernel
theorem dd_M_closeGroup_73 : decode bc_M_closeGroup 73 = .ok (.istore_n 3, 1) := by decide +kernel
theorem dd_M_closeGroup_74 : decode bc_M_closeGroup 74 = .ok (.iload_n 3, 1) := by decide +kernel
theorem dd_M_closeGroup_75 : decode bc_M_closeGroup 75 = .ok (.aload_n 0, 1) := by decide +kernel
theorem dd_M_closeGroup_76 : decode bc_M_closeGroup 76 = .ok (.invokevirtual 72, 3) := by decide +kernel
theorem dd_M_closeGroup_79 : decode bc_M_closeGroup 79 = .ok (.if_icmp .ge 31, 3) := by decide +kernel
theorem dd_M_closeGroup_82 : decode bc_M_closeGroup 82 = .ok (.aload_n 0, 1) := by decide +kernel
theorem dd_M_closeGroup_83 : decode bc_M_closeGroup 83 = .ok (.getfield 23, 3) := by decide +kernel
theorem dd_M_closeGroup_86 : decode bc_M_closeGroup 86 = .ok (.iload_n 3, 1) := by decide +kernel
theorem dd_M_closeGroup_87 : decode bc_M_closeGroup 87 = .ok (.aload_n 0, 1) := by decide +kernel
theorem dd_M_closeGroup_88 : decode bc_M_closeGroup 88 = .ok (.getfield 29, 3) := by decide +kernel
theorem dd_M_closeGroup_91 : decode bc_M_closeGroup 91 = .ok (.bipush 7, 2) := by decide +kernel
theorem dd_M_closeGroup_93 : decode bc_M_closeGroup 93 = .ok (.iload_n 2, 1) := by decide +kernel
theorem dd_M_closeGroup_94 : decode bc_M_closeGroup 94 = .ok (.imul, 1) := by decide +kernel
theorem dd_M_closeGroup_95 : decode bc_M_closeGroup 95 = .ok (.aload_n 0, 1) := by decide +kernel
theorem dd_M_closeGroup_96 : decode bc_M_closeGroup 96 = .ok (.getfield 23, 3) := by decide +kernel
theorem dd_M_closeGroup_99 : decode bc_M_closeGroup 99 = .ok (.iload_n 3, 1) := by decide +kernel
theorem dd_M_closeGroup_100 : decode bc_M_closeGroup 100 = .ok (.iaload, 1) := by decide +kernel
theorem dd_M_closeGroup_101 : decode bc_M_closeGroup 101 = .ok (.iadd, 1) := by decide +kernel
theorem dd_M_closeGroup_102 : decode bc_M_closeGroup 102 = .ok (.iaload, 1) := by decide +kernel
theorem dd_M_closeGroup_103 : decode bc_M_closeGroup 103 = .ok (.iastore, 1) := by decide +kernel
theorem dd_M_closeGroup_104 : decode bc_M_closeGroup 104 = .ok (.iinc 3 1, 3) := by decide +kernel
theorem dd_M_closeGroup_107 : decode bc_M_closeGroup 107 = .ok (.goto (-33), 3) := by decide +kernel
theorem dd_M_closeGroup_110 : decode bc_M_closeGroup 110 = .ok (.aload_n 0, 1) := by decide +kernel
theorem dd_M_closeGroup_111 : decode bc_M_closeGroup 111 = .ok (.aload_n 0, 1) := by decide +kernel
theorem dd_M_closeGroup_112 : decode bc_M_closeGroup 112 = .ok (.invokevirtual 86, 3) := by decide +kernel
theorem dd_M_closeGroup_115 : decode bc_M_closeGroup 115 = .ok (.invokevirtual 89, 3) := by decide +kernel
theorem dd_M_closeGroup_118 : decode bc_M_closeGroup 118 = .ok (.iinc 2 1, 3) := by decide +kernel
theorem dd_M_closeGroup_121 : decode bc_M_closeGroup 121 = .ok (.goto (-67), 3) := by decide +kernel
theorem dd_M_closeGroup_124 : decode bc_M_closeGroup 124 = .ok (.iinc 1 1, 3) := by decide +kernel
theorem dd_M_closeGroup_127 : decode bc_M_closeGroup 127 = .ok (.goto (-83), 3) := by decide +kernel
theorem dd_M_closeGroup_130 : decode bc_M_closeGroup 130 = .ok (.aload_n 0, 1) := by decide +kernel
theorem dd_M_closeGroup_131 : decode bc_M_closeGroup 131 = .ok (.invokevirtual 96, 3) := by decide +kernel
theorem dd_M_closeGroup_134 : decode bc_M_closeGroup 134 = .ok (.return_, 1) := by decide +kernel
theorem dd_M_layTurns_0 : decode bc_M_layTurns 0 = .ok (.aload_n 0, 1) := by decide +kernel
theorem dd_M_layTurns_1 : decode bc_M_layTurns 1 = .ok (.iconst 0, 1) := by decide +kernel
theorem dd_M_layTurns_2 : decode bc_M_layTurns 2 = .ok (.putfield 99, 3) := by decide +kernel
theorem dd_M_layTurns_5 : decode bc_M_layTurns 5 = .ok (.iconst 0, 1) := by decide +kernel
theorem dd_M_layTurns_6 : decode bc_M_layTurns 6 = .ok (.istore_n 1, 1) := by decide +kernel
theorem dd_M_layTurns_7 : decode bc_M_layTurns 7 = .ok (.iload_n 1, 1) := by decide +kernel
theorem dd_M_layTurns_8 : decode bc_M_layTurns 8 = .ok (.sipush 5040, 3) := by decide +kernel
theorem dd_M_layTurns_11 : decode bc_M_layTurns 11 = .ok (.if_icmp .ge 73, 3) := by decide +kernel
theorem dd_M_layTurns_14 : decode bc_M_layTurns 14 = .ok (.aload_n 0, 1) := by decide +kernel
theorem dd_M_layTurns_15 : decode bc_M_layTurns 15 = .ok (.getfield 7, 3) := by decide +kernel
theorem dd_M_layTurns_18 : decode bc_M_layTurns 18 = .ok (.bipush 6, 2) := by decide +kernel
theorem dd_M_layTurns_20 : decode bc_M_layTurns 20 = .ok (.iload_n 1, 1) := by decide +kernel
theorem dd_M_layTurns_21 : decode bc_M_layTurns 21 = .ok (.iadd, 1) := by decide +kernel
theorem dd_M_layTurns_22 : decode bc_M_layTurns 22 = .ok (.iaload, 1) := by decide +kernel
theorem dd_M_layTurns_23 : decode bc_M_layTurns 23 = .ok (.iconst 1, 1) := by decide +kernel
theorem dd_M_layTurns_24 : decode bc_M_layTurns 24 = .ok (.if_icmp .ne 54, 3) := by decide +kernel
theorem dd_M_layTurns_27 : decode bc_M_layTurns 27 = .ok (.aload_n 0, 1) := by decide +kernel
theorem dd_M_layTurns_28 : decode bc_M_layTurns 28 = .ok (.iload_n 1, 1) := by decide +kernel
theorem dd_M_layTurns_29 : decode bc_M_layTurns 29 = .ok (.invokevirtual 93, 3) := by decide +kernel
theorem dd_M_layTurns_32 : decode bc_M_layTurns 32 = .ok (.iconst 0, 1) := by decide +kernel
theorem dd_M_layTurns_33 : decode bc_M_layTurns 33 = .ok (.istore_n 2, 1) := by decide +kernel
theorem dd_M_layTurns_34 : decode bc_M_layTurns 34 = .ok (.iload_n 2, 1) := by decide +kernel
theorem dd_M_layTurns_35 : decode bc_M_layTurns 35 = .ok (.aload_n 0, 1) := by decide +kernel
theorem dd_M_layTurns_36 : decode bc_M_layTurns 36 = .ok (.invokevirtual 72, 3) := by decide +kernel
theorem dd_M_layTurns_39 : decode bc_M_layTurns 39 = .ok (.if_icmp .ge 29, 3) := by decide +kernel
theorem dd_M_layTurns_42 : decode bc_M_layTurns 42 = .ok (.aload_n 0, 1) := by decide +kernel
theorem dd_M_layTurns_43 : decode bc_M_layTurns 43 = .ok (.getfield 36, 3) := by decide +kernel
theorem dd_M_layTurns_46 : decode bc_M_layTurns 46 = .ok (.bipush 7, 2) := by decide +kernel
theorem dd_M_layTurns_48 : decode bc_M_layTurns 48 = .ok (.aload_n 0, 1) := by decide +kernel
theorem dd_M_layTurns_49 : decode bc_M_layTurns 49 = .ok (.getfield 99, 3) := by decide +kernel
theorem dd_M_layTurns_52 : decode bc_M_layTurns 52 = .ok (.imul, 1) := by decide +kernel
theorem dd_M_layTurns_53 : decode bc_M_layTurns 53 = .ok (.iload_n 2, 1) := by decide +kernel
theorem dd_M_layTurns_54 : decode bc_M_layTurns 54 = .ok (.iadd, 1) := by decide +kernel
theorem dd_M_layTurns_55 : decode bc_M_layTurns 55 = .ok (.aload_n 0, 1) := by decide +kernel
theorem dd_M_layTurns_56 : decode bc_M_layTurns 56 = .ok (.getfield 23, 3) := by decide +kernel
theorem dd_M_layTurns_59 : decode bc_M_layTurns 59 = .ok (.iload_n 2, 1) := by decide +kernel
theorem dd_M_layTurns_60 : decode bc_M_layTurns 60 = .ok (.iaload, 1) := by decide +kernel
theorem dd_M_layTurns_61 : decode bc_M_layTurns 61 = .ok (.iastore, 1) := by decide +kernel
theorem dd_M_layTurns_62 : decode bc_M_layTurns 62 = .ok (.iinc 2 1, 3) := by decide +kernel
theorem dd_M_layTurns_65 : decode bc_M_layTurns 65 = .ok (.goto (-31), 3) := by decide +kernel
theorem dd_M_layTurns_68 : decode bc_M_layTurns 68 = .ok (.aload_n 0, 1) := by decide +kernel
theorem dd_M_layTurns_69 : decode bc_M_layTurns 69 = .ok (.dup, 1) := by decide +kernel
theorem dd_M_layTurns_70 : decode bc_M_layTurns 70 = .ok (.getfield 99, 3) := by decide +kernel
theorem dd_M_layTurns_73 : decode bc_M_layTurns 73 = .ok (.iconst 1, 1) := by decide +kernel
theorem dd_M_layTurns_74 : decode bc_M_layTurns 74 = .ok (.iadd, 1) := by decide +kernel
theorem dd_M_layTurns_75 : decode bc_M_layTurns 75 = .ok (.putfield 99, 3) := by decide +kernel
theorem dd_M_layTurns_78 : decode bc_M_layTurns 78 = .ok (.iinc 1 1, 3) := by decide +kernel
theorem dd_M_layTurns_81 : decode bc_M_layTurns 81 = .ok (.goto (-74), 3) := by decide +kernel
theorem dd_M_layTurns_84 : decode bc_M_layTurns 84 = .ok (.return_, 1) := by decide +kernel
theorem dd_M_points_0 : decode bc_M_points 0 = .ok (.iload_n 1, 1) := by decide +kernel
theorem dd_M_points_1 : decode bc_M_points 1 = .ok (.iconst 1, 1) := by decide +kernel
theorem dd_M_points_2 : decode bc_M_points 2 = .ok (.bipush 7, 2) := by decide +kernel
theorem dd_M_points_4 : decode bc_M_points 4 = .ok (.invokestatic 102, 3) := by decide +kernel
theorem dd_M_points_7 : decode bc_M_points 7 = .ok (.ifCond .ne 6, 3) := by decide +kernel
theorem dd_M_points_10 : decode bc_M_points 10 = .ok (.bipush (-2), 2) := by decide +kernel
theorem dd_M_points_12 : decode bc_M_points 12 = .ok (.ireturn, 1) := by decide +kernel
theorem dd_M_points_13 : decode bc_M_points 13 = .ok (.aload_n 0, 1) := by decide +kernel
theorem dd_M_points_14 : decode bc_M_points 14 = .ok (.invokevirtual 72, 3) := by decide +kernel
theorem dd_M_points_17 : decode bc_M_points 17 = .ok (.istore_n 2, 1) := by decide +kernel
theorem dd_M_points_18 : decode bc_M_points 18 = .ok (.aload_n 0, 1) := by decide +kernel
theorem dd_M_points_19 : decode bc_M_points 19 = .ok (.getfield 7, 3) := by decide +kernel
theorem dd_M_points_22 : decode bc_M_points 22 = .ok (.iconst 0, 1) := by decide +kernel
theorem dd_M_points_23 : decode bc_M_points 23 = .ok (.iload_n 1, 1) := by decide +kernel
theorem dd_M_points_24 : decode bc_M_points 24 = .ok (.iastore, 1) := by decide +kernel
theorem dd_M_points_25 : decode bc_M_points 25 = .ok (.aload_n 0, 1) := by decide +kernel
theorem dd_M_points_26 : decode bc_M_points 26 = .ok (.invokevirtual 66, 3) := by decide +kernel
theorem dd_M_points_29 : decode bc_M_points 29 = .ok (.aload_n 0, 1) := by decide +kernel
theorem dd_M_points_30 : decode bc_M_points 30 = .ok (.invokevirtual 69, 3) := by decide +kernel
theorem dd_M_points_33 : decode bc_M_points 33 = .ok (.iload_n 2, 1) := by decide +kernel
theorem dd_M_points_34 : decode bc_M_points 34 = .ok (.ireturn, 1) := by decide +kernel
theorem dd_M_isKind_0 : decode bc_M_isKind 0 = .ok (.iload_n 0, 1) := by decide +kernel
theorem dd_M_isKind_1 : decode bc_M_isKind 1 = .ok (.iconst 0, 1) := by decide +kernel
theorem dd_M_isKind_2 : decode bc_M_isKind 2 = .ok (.iconst 4, 1) := by decide +kernel
theorem dd_M_isKind_3 : decode bc_M_isKind 3 = .ok (.invokestatic 102, 3) := by decide +kernel
theorem dd_M_isKind_6 : decode bc_M_isKind 6 = .ok (.ireturn, 1) := by decide +kernel
theorem dd_M_bring_0 : decode bc_M_bring 0 = .ok (.iconst 0, 1) := by decide +kernel
theorem dd_M_bring_1 : decode bc_M_bring 1 = .ok (.istore 5, 2) := by decide +kernel
theorem dd_M_bring_3 : decode bc_M_bring 3 = .ok (.iload 5, 2) := by decide +kernel
theorem dd_M_bring_5 : decode bc_M_bring 5 = .ok (.iload_n 2, 1) := by decide +kernel
theorem dd_M_bring_6 : decode bc_M_bring 6 = .ok (.if_icmp .ge 31, 3) := by decide +kernel
theorem dd_M_bring_9 : decode bc_M_bring 9 = .ok (.aload_n 0, 1) := by decide +kernel
theorem dd_M_bring_10 : decode bc_M_bring 10 = .ok (.getfield 23, 3) := by decide +kernel
theorem dd_M_bring_13 : decode bc_M_bring 13 = .ok (.iload_n 1, 1) := by decide +kernel
theorem dd_M_bring_14 : decode bc_M_bring 14 = .ok (.iload_n 2, 1) := by decide +kernel
theorem dd_M_bring_15 : decode bc_M_bring 15 = .ok (.iload_n 3, 1) := by decide +kernel
theorem dd_M_bring_16 : decode bc_M_bring 16 = .ok (.imul, 1) := by decide +kernel
theorem dd_M_bring_17 : decode bc_M_bring 17 = .ok (.iadd, 1) := by decide +kernel
theorem dd_M_bring_18 : decode bc_M_bring 18 = .ok (.iload 5, 2) := by decide +kernel
theorem dd_M_bring_20 : decode bc_M_bring 20 = .ok (.iadd, 1) := by decide +kernel
theorem dd_M_bring_21 : decode bc_M_bring 21 = .ok (.iload_n 1, 1) := by decide +kernel
theorem dd_M_bring_22 : decode bc_M_bring 22 = .ok (.iload_n 2, 1) := by decide +kernel
theorem dd_M_bring_23 : decode bc_M_bring 23 = .ok (.iload 4, 2) := by decide +kernel
theorem dd_M_bring_25 : decode bc_M_bring 25 = .ok (.imul, 1) := by decide +kernel
theorem dd_M_bring_26 : decode bc_M_bring 26 = .ok (.iadd, 1) := by decide +kernel
theorem dd_M_bring_27 : decode bc_M_bring 27 = .ok (.iload 5, 2) := by decide +kernel
theorem dd_M_bring_29 : decode bc_M_bring 29 = .ok (.iadd, 1) := by decide +kernel
theorem dd_M_bring_30 : decode bc_M_bring 30 = .ok (.iastore, 1) := by decide +kernel
theorem dd_M_bring_31 : decode bc_M_bring 31 = .ok (.iinc 5 1, 3) := by decide +kernel
theorem dd_M_bring_34 : decode bc_M_bring 34 = .ok (.goto (-31), 3) := by decide +kernel
theorem dd_M_bring_37 : decode bc_M_bring 37 = .ok (.return_, 1) := by decide +kernel
theorem dd_M_addRound_0 : decode bc_M_addRound 0 = .ok (.aload_n 0, 1) := by decide +kernel
theorem dd_M_addRound_1 : decode bc_M_addRound 1 = .ok (.invokevirtual 83, 3) := by decide +kernel
theorem dd_M_addRound_4 : decode bc_M_addRound 4 = .ok (.iconst 0, 1) := by decide +kernel
theorem dd_M_addRound_5 : decode bc_M_addRound 5 = .ok (.istore 4, 2) := by decide +kernel
theorem dd_M_addRound_7 : decode bc_M_addRound 7 = .ok (.iload 4, 2) := by decide +kernel
theorem dd_M_addRound_9 : decode bc_M_addRound 9 = .ok (.iload_n 3, 1) := by decide +kernel
theorem dd_M_addRound_10 : decode bc_M_addRound 10 = .ok (.if_icmp .ge 23, 3) := by decide +kernel
theorem dd_M_addRound_13 : decode bc_M_addRound 13 = .ok (.aload_n 0, 1) := by decide +kernel
theorem dd_M_addRound_14 : decode bc_M_addRound 14 = .ok (.iload_n 1, 1) := by decide +kernel
theorem dd_M_addRound_15 : decode bc_M_addRound 15 = .ok (.iload_n 2, 1) := by decide +kernel
theorem dd_M_addRound_16 : decode bc_M_addRound 16 = .ok (.iload 4, 2) := by decide +kernel
theorem dd_M_addRound_18 : decode bc_M_addRound 18 = .ok (.iload 4, 2) := by decide +kernel
theorem dd_M_addRound_20 : decode bc_M_addRound 20 = .ok (.iconst 1, 1) := by decide +kernel
theorem dd_M_addRound_21 : decode bc_M_addRound 21 = .ok (.iadd, 1) := by decide +kernel
theorem dd_M_addRound_22 : decode bc_M_addRound 22 = .ok (.iload_n 3, 1) := by decide +kernel
theorem dd_M_addRound_23 : decode bc_M_addRound 23 = .ok (.irem, 1) := by decide +kernel
theorem dd_M_addRound_24 : decode bc_M_addRound 24 = .ok (.invokevirtual 106, 3) := by decide +kernel
theorem dd_M_addRound_27 : decode bc_M_addRound 27 = .ok (.iinc 4 1, 3) := by decide +kernel
theorem dd_M_addRound_30 : decode bc_M_addRound 30 = .ok (.goto (-23), 3) := by decide +kernel
theorem dd_M_addRound_33 : decode bc_M_addRound 33 = .ok (.aload_n 0, 1) := by decide +kernel
theorem dd_M_addRound_34 : decode bc_M_addRound 34 = .ok (.invokevirtual 110, 3) := by decide +kernel
theorem dd_M_addRound_37 : decode bc_M_addRound 37 = .ok (.return_, 1) := by decide +kernel
theorem dd_M_addFlip_0 : decode bc_M_addFlip 0 = .ok (.aload_n 0, 1) := by decide +kernel
theorem dd_M_addFlip_1 : decode bc_M_addFlip 1 = .ok (.invokevirtual 83, 3) := by decide +kernel
theorem dd_M_addFlip_4 : decode bc_M_addFlip 4 = .ok (.iconst 0, 1) := by decide +kernel
theorem dd_M_addFlip_5 : decode bc_M_addFlip 5 = .ok (.istore 4, 2) := by decide +kernel
theorem dd_M_addFlip_7 : decode bc_M_addFlip 7 = .ok (.iload 4, 2) := by decide +kernel
theorem dd_M_addFlip_9 : decode bc_M_addFlip 9 = .ok (.iload_n 3, 1) := by decide +kernel
theorem dd_M_addFlip_10 : decode bc_M_addFlip 10 = .ok (.if_icmp .ge 23, 3) := by decide +kernel
theorem dd_M_addFlip_13 : decode bc_M_addFlip 13 = .ok (.aload_n 0, 1) := by decide +kernel
theorem dd_M_addFlip_14 : decode bc_M_addFlip 14 = .ok (.iload_n 1, 1) := by decide +kernel
theorem dd_M_addFlip_15 : decode bc_M_addFlip 15 = .ok (.iload_n 2, 1) := by decide +kernel
theorem dd_M_addFlip_16 : decode bc_M_addFlip 16 = .ok (.iload 4, 2) := by decide +kernel
theorem dd_M_addFlip_18 : decode bc_M_addFlip 18 = .ok (.iload_n 3, 1) := by decide +kernel
theorem dd_M_addFlip_19 : decode bc_M_addFlip 19 = .ok (.iconst 1, 1) := by decide +kernel
theorem dd_M_addFlip_20 : decode bc_M_addFlip 20 = .ok (.isub, 1) := by decide +kernel
theorem dd_M_addFlip_21 : decode bc_M_addFlip 21 = .ok (.iload 4, 2) := by decide +kernel
theorem dd_M_addFlip_23 : decode bc_M_addFlip 23 = .ok (.isub, 1) := by decide +kernel
theorem dd_M_addFlip_24 : decode bc_M_addFlip 24 = .ok (.invokevirtual 106, 3) := by decide +kernel
theorem dd_M_addFlip_27 : decode bc_M_addFlip 27 = .ok (.iinc 4 1, 3) := by decide +kernel
theorem dd_M_addFlip_30 : decode bc_M_addFlip 30 = .ok (.goto (-23), 3) := by decide +kernel
theorem dd_M_addFlip_33 : decode bc_M_addFlip 33 = .ok (.aload_n 0, 1) := by decide +kernel
theorem dd_M_addFlip_34 : decode bc_M_addFlip 34 = .ok (.invokevirtual 110, 3) := by decide +kernel
theorem dd_M_addFlip_37 : decode bc_M_addFlip 37 = .ok (.return_, 1) := by decide +kernel
theorem dd_M_addNext_0 : decode bc_M_addNext 0 = .ok (.aload_n 0, 1) := by decide +kernel
theorem dd_M_addNext_1 : decode bc_M_addNext 1 = .ok (.invokevirtual 83, 3) := by decide +kernel
theorem dd_M_addNext_4 : decode bc_M_addNext 4 = .ok (.iconst 0, 1) := by decide +kernel
theorem dd_M_addNext_5 : decode bc_M_addNext 5 = .ok (.istore 5, 2) := by decide +kernel
theorem dd_M_addNext_7 : decode bc_M_addNext 7 = .ok (.iload 5, 2) := by decide +kernel
theorem dd_M_addNext_9 : decode bc_M_addNext 9 = .ok (.iload 4, 2) := by decide +kernel
theorem dd_M_addNext_11 : decode bc_M_addNext 11 = .ok (.if_icmp .ge 28, 3) := by decide +kernel
theorem dd_M_addNext_14 : decode bc_M_addNext 14 = .ok (.aload_n 0, 1) := by decide +kernel
theorem dd_M_addNext_15 : decode bc_M_addNext 15 = .ok (.iload_n 1, 1) := by decide +kernel
theorem dd_M_addNext_16 : decode bc_M_addNext 16 = .ok (.iload_n 2, 1) := by decide +kernel
theorem dd_M_addNext_17 : decode bc_M_addNext 17 = .ok (.iload_n 3, 1) := by decide +kernel
theorem dd_M_addNext_18 : decode bc_M_addNext 18 = .ok (.iload 5, 2) := by decide +kernel
theorem dd_M_addNext_20 : decode bc_M_addNext 20 = .ok (.iadd, 1) := by decide +kernel
theorem dd_M_addNext_21 : decode bc_M_addNext 21 = .ok (.iload_n 3, 1) := by decide +kernel
theorem dd_M_addNext_22 : decode bc_M_addNext 22 = .ok (.iload 5, 2) := by decide +kernel
theorem dd_M_addNext_24 : decode bc_M_addNext 24 = .ok (.iconst 1, 1) := by decide +kernel
theorem dd_M_addNext_25 : decode bc_M_addNext 25 = .ok (.iadd, 1) := by decide +kernel
theorem dd_M_addNext_26 : decode bc_M_addNext 26 = .ok (.iload 4, 2) := by decide +kernel
theorem dd_M_addNext_28 : decode bc_M_addNext 28 = .ok (.irem, 1) := by decide +kernel
theorem dd_M_addNext_29 : decode bc_M_addNext 29 = .ok (.iadd, 1) := by decide +kernel
theorem dd_M_addNext_30 : decode bc_M_addNext 30 = .ok (.invokevirtual 106, 3) := by decide +kernel
theorem dd_M_addNext_33 : decode bc_M_addNext 33 = .ok (.iinc 5 1, 3) := by decide +kernel
theorem dd_M_addNext_36 : decode bc_M_addNext 36 = .ok (.goto (-29), 3) := by decide +kernel
theorem dd_M_addNext_39 : decode bc_M_addNext 39 = .ok (.aload_n 0, 1) := by decide +kernel
theorem dd_M_addNext_40 : decode bc_M_addNext 40 = .ok (.invokevirtual 110, 3) := by decide +kernel
theorem dd_M_addNext_43 : decode bc_M_addNext 43 = .ok (.return_, 1) := by decide +kernel
theorem dd_M_addKind_0 : decode bc_M_addKind 0 = .ok (.iload 4, 2) := by decide +kernel
theorem dd_M_addKind_2 : decode bc_M_addKind 2 = .ok (.iconst 2, 1) := by decide +kernel
theorem dd_M_addKind_3 : decode bc_M_addKind 3 = .ok (.if_icmp .lt 7, 3) := by decide +kernel
theorem dd_M_addKind_6 : decode bc_M_addKind 6 = .ok (.iload_n 1, 1) := by decide +kernel
theorem dd_M_addKind_7 : decode bc_M_addKind 7 = .ok (.ifCond .ne 4, 3) := by decide +kernel
theorem dd_M_addKind_10 : decode bc_M_addKind 10 = .ok (.return_, 1) := by decide +kernel
theorem dd_M_addKind_11 : decode bc_M_addKind 11 = .ok (.iload_n 1, 1) := by decide +kernel
theorem dd_M_addKind_12 : decode bc_M_addKind 12 = .ok (.iconst 3, 1) := by decide +kernel
theorem dd_M_addKind_13 : decode bc_M_addKind 13 = .ok (.if_icmp .ge 11, 3) := by decide +kernel
theorem dd_M_addKind_16 : decode bc_M_addKind 16 = .ok (.aload_n 0, 1) := by decide +kernel
theorem dd_M_addKind_17 : decode bc_M_addKind 17 = .ok (.iload_n 2, 1) := by decide +kernel
theorem dd_M_addKind_18 : decode bc_M_addKind 18 = .ok (.iload_n 3, 1) := by decide +kernel
theorem dd_M_addKind_19 : decode bc_M_addKind 19 = .ok (.iload 4, 2) := by decide +kernel
theorem dd_M_addKind_21 : decode bc_M_addKind 21 = .ok (.invokevirtual 113, 3) := by decide +kernel
theorem dd_M_addKind_24 : decode bc_M_addKind 24 = .ok (.iload_n 1, 1) := by decide +kernel
theorem dd_M_addKind_25 : decode bc_M_addKind 25 = .ok (.iconst 2, 1) := by decide +kernel
theorem dd_M_addKind_26 : decode bc_M_addKind 26 = .ok (.if_icmp .ne 11, 3) := by decide +kernel
theorem dd_M_addKind_29 : decode bc_M_addKind 29 = .ok (.aload_n 0, 1) := by decide +kernel
theorem dd_M_addKind_30 : decode bc_M_addKind 30 = .ok (.iload_n 2, 1) := by decide +kernel
theorem dd_M_addKind_31 : decode bc_M_addKind 31 = .ok (.iload_n 3, 1) := by decide +kernel
theorem dd_M_addKind_32 : decode bc_M_addKind 32 = .ok (.iload 4, 2) := by decide +kernel
theorem dd_M_addKind_34 : decode bc_M_addKind 34 = .ok (.invokevirtual 117, 3) := by decide +kernel
theorem dd_M_addKind_37 : decode bc_M_addKind 37 = .ok (.iload_n 1, 1) := by decide +kernel
theorem dd_M_addKind_38 : decode bc_M_addKind 38 = .ok (.iconst 3, 1) := by decide +kernel
theorem dd_M_addKind_39 : decode bc_M_addKind 39 = .ok (.if_icmp .ne 7, 3) := by decide +kernel
theorem dd_M_addKind_42 : decode bc_M_addKind 42 = .ok (.iconst 3, 1) := by decide +kernel
theorem dd_M_addKind_43 : decode bc_M_addKind 43 = .ok (.goto 4, 3) := by decide +kernel
theorem dd_M_addKind_46 : decode bc_M_addKind 46 = .ok (.iconst 2, 1) := by decide +kernel
theorem dd_M_addKind_47 : decode bc_M_addKind 47 = .ok (.istore 5, 2) := by decide +kernel
theorem dd_M_addKind_49 : decode bc_M_addKind 49 = .ok (.iconst 0, 1) := by decide +kernel
theorem dd_M_addKind_50 : decode bc_M_addKind 50 = .ok (.istore 6, 2) := by decide +kernel
theorem dd_M_addKind_52 : decode bc_M_addKind 52 = .ok (.iload 6, 2) := by decide +kernel
theorem dd_M_addKind_54 : decode bc_M_addKind 54 = .ok (.iload 5, 2) := by decide +kernel
theorem dd_M_addKind_56 : decode bc_M_addKind 56 = .ok (.iadd, 1) := by decide +kernel
theorem dd_M_addKind_57 : decode bc_M_addKind 57 = .ok (.iload 4, 2) := by decide +kernel
theorem dd_M_addKind_59 : decode bc_M_addKind 59 = .ok (.if_icmp .gt 24, 3) := by decide +kernel
theorem dd_M_addKind_62 : decode bc_M_addKind 62 = .ok (.iload_n 1, 1) := by decide +kernel
theorem dd_M_addKind_63 : decode bc_M_addKind 63 = .ok (.iconst 2, 1) := by decide +kernel
theorem dd_M_addKind_64 : decode bc_M_addKind 64 = .ok (.if_icmp .le 19, 3) := by decide +kernel
theorem dd_M_addKind_67 : decode bc_M_addKind 67 = .ok (.aload_n 0, 1) := by decide +kernel
theorem dd_M_addKind_68 : decode bc_M_addKind 68 = .ok (.iload_n 2, 1) := by decide +kernel
theorem dd_M_addKind_69 : decode bc_M_addKind 69 = .ok (.iload_n 3, 1) := by decide +kernel
theorem dd_M_addKind_70 : decode bc_M_addKind 70 = .ok (.iload 6, 2) := by decide +kernel
theorem dd_M_addKind_72 : decode bc_M_addKind 72 = .ok (.iload 5, 2) := by decide +kernel
theorem dd_M_addKind_74 : decode bc_M_addKind 74 = .ok (.invokevirtual 120, 3) := by decide +kernel
theorem dd_M_addKind_77 : decode bc_M_addKind 77 = .ok (.iinc 6 1, 3) := by decide +kernel
theorem dd_M_addKind_80 : decode bc_M_addKind 80 = .ok (.goto (-28), 3) := by decide +kernel
theorem dd_M_addKind_83 : decode bc_M_addKind 83 = .ok (.return_, 1) := by decide +kernel
theorem dd_M_beside_0 : decode bc_M_beside 0 = .ok (.iload_n 1, 1) := by decide +kernel
theorem dd_M_beside_1 : decode bc_M_beside 1 = .ok (.iconst 0, 1) := by decide +kernel
theorem dd_M_beside_2 : decode bc_M_beside 2 = .ok (.aload_n 0, 1) := by decide +kernel
theorem dd_M_beside_3 : decode bc_M_beside 3 = .ok (.invokevirtual 72, 3) := by decide +kernel
theorem dd_M_beside_6 : decode bc_M_beside 6 = .ok (.invokestatic 102, 3) := by decide +kernel
theorem dd_M_beside_9 : decode bc_M_beside 9 = .ok (.ifCond .eq 17, 3) := by decide +kernel
theorem dd_M_beside_12 : decode bc_M_beside 12 = .ok (.iload_n 2, 1) := by decide +kernel
theorem dd_M_beside_13 : decode bc_M_beside 13 = .ok (.invokestatic 123, 3) := by decide +kernel
theorem dd_M_beside_16 : decode bc_M_beside 16 = .ok (.ifCond .eq 10, 3) := by decide +kernel
theorem dd_M_beside_19 : decode bc_M_beside 19 = .ok (.iload_n 3, 1) := by decide +kernel
theorem dd_M_beside_20 : decode bc_M_beside 20 = .ok (.invokestatic 123, 3) := by decide +kernel
theorem dd_M_beside_23 : decode bc_M_beside 23 = .ok (.ifCond .ne 6, 3) := by decide +kernel
theorem dd_M_beside_26 : decode bc_M_beside 26 = .ok (.bipush (-2), 2) := by decide +kernel
theorem dd_M_beside_28 : decode bc_M_beside 28 = .ok (.ireturn, 1) := by decide +kernel
theorem dd_M_beside_29 : decode bc_M_beside 29 = .ok (.aload_n 0, 1) := by decide +kernel
theorem dd_M_beside_30 : decode bc_M_beside 30 = .ok (.invokevirtual 66, 3) := by decide +kernel
theorem dd_M_beside_33 : decode bc_M_beside 33 = .ok (.aload_n 0, 1) := by decide +kernel
theorem dd_M_beside_34 : decode bc_M_beside 34 = .ok (.iload_n 2, 1) := by decide +kernel
theorem dd_M_beside_35 : decode bc_M_beside 35 = .ok (.iconst 0, 1) := by decide +kernel
theorem dd_M_beside_36 : decode bc_M_beside 36 = .ok (.iconst 1, 1) := by decide +kernel
theorem dd_M_beside_37 : decode bc_M_beside 37 = .ok (.iload_n 1, 1) := by decide +kernel
theorem dd_M_beside_38 : decode bc_M_beside 38 = .ok (.invokevirtual 127, 3) := by decide +kernel
theorem dd_M_beside_41 : decode bc_M_beside 41 = .ok (.aload_n 0, 1) := by decide +kernel
theorem dd_M_beside_42 : decode bc_M_beside 42 = .ok (.iload_n 3, 1) := by decide +kernel
theorem dd_M_beside_43 : decode bc_M_beside 43 = .ok (.iload_n 1, 1) := by decide +kernel
theorem dd_M_beside_44 : decode bc_M_beside 44 = .ok (.iconst 1, 1) := by decide +kernel
theorem dd_M_beside_45 : decode bc_M_beside 45 = .ok (.aload_n 0, 1) := by decide +kernel
theorem dd_M_beside_46 : decode bc_M_beside 46 = .ok (.invokevirtual 72, 3) := by decide +kernel
theorem dd_M_beside_49 : decode bc_M_beside 49 = .ok (.iload_n 1, 1) := by decide +kernel
theorem dd_M_beside_50 : decode bc_M_beside 50 = .ok (.isub, 1) := by decide +kernel
theorem dd_M_beside_51 : decode bc_M_beside 51 = .ok (.invokevirtual 127, 3) := by decide +kernel
theorem dd_M_beside_54 : decode bc_M_beside 54 = .ok (.aload_n 0, 1) := by decide +kernel
theorem dd_M_beside_55 : decode bc_M_beside 55 = .ok (.invokevirtual 69, 3) := by decide +kernel
theorem dd_M_beside_58 : decode bc_M_beside 58 = .ok (.aload_n 0, 1) := by decide +kernel
theorem dd_M_beside_59 : decode bc_M_beside 59 = .ok (.getfield 99, 3) := by decide +kernel
theorem dd_M_beside_62 : decode bc_M_beside 62 = .ok (.ireturn, 1) := by decide +kernel
theorem dd_M_blocks_0 : decode bc_M_blocks 0 = .ok (.iload_n 1, 1) := by decide +kernel
theorem dd_M_blocks_1 : decode bc_M_blocks 1 = .ok (.iconst 1, 1) := by decide +kernel
theorem dd_M_blocks_2 : decode bc_M_blocks 2 = .ok (.aload_n 0, 1) := by decide +kernel
theorem dd_M_blocks_3 : decode bc_M_blocks 3 = .ok (.invokevirtual 72, 3) := by decide +kernel
theorem dd_M_blocks_6 : decode bc_M_blocks 6 = .ok (.invokestatic 102, 3) := by decide +kernel
theorem dd_M_blocks_9 : decode bc_M_blocks 9 = .ok (.ifCond .eq 26, 3) := by decide +kernel
theorem dd_M_blocks_12 : decode bc_M_blocks 12 = .ok (.aload_n 0, 1) := by decide +kernel
theorem dd_M_blocks_13 : decode bc_M_blocks 13 = .ok (.invokevirtual 72, 3) := by decide +kernel
theorem dd_M_blocks_16 : decode bc_M_blocks 16 = .ok (.iload_n 1, 1) := by decide +kernel
theorem dd_M_blocks_17 : decode bc_M_blocks 17 = .ok (.irem, 1) := by decide +kernel
theorem dd_M_blocks_18 : decode bc_M_blocks 18 = .ok (.ifCond .ne 17, 3) := by decide +kernel
theorem dd_M_blocks_21 : decode bc_M_blocks 21 = .ok (.iload_n 2, 1) := by decide +kernel
theorem dd_M_blocks_22 : decode bc_M_blocks 22 = .ok (.invokestatic 123, 3) := by decide +kernel
theorem dd_M_blocks_25 : decode bc_M_blocks 25 = .ok (.ifCond .eq 10, 3) := by decide +kernel
theorem dd_M_blocks_28 : decode bc_M_blocks 28 = .ok (.iload_n 3, 1) := by decide +kernel
theorem dd_M_blocks_29 : decode bc_M_blocks 29 = .ok (.invokestatic 123, 3) := by decide +kernel
theorem dd_M_blocks_32 : decode bc_M_blocks 32 = .ok (.ifCond .ne 6, 3) := by decide +kernel
theorem dd_M_blocks_35 : decode bc_M_blocks 35 = .ok (.bipush (-2), 2) := by decide +kernel
theorem dd_M_blocks_37 : decode bc_M_blocks 37 = .ok (.ireturn, 1) := by decide +kernel
theorem dd_M_blocks_38 : decode bc_M_blocks 38 = .ok (.aload_n 0, 1) := by decide +kernel
theorem dd_M_blocks_39 : decode bc_M_blocks 39 = .ok (.invokevirtual 66, 3) := by decide +kernel
theorem dd_M_blocks_42 : decode bc_M_blocks 42 = .ok (.iconst 0, 1) := by decide +kernel
theorem dd_M_blocks_43 : decode bc_M_blocks 43 = .ok (.istore 4, 2) := by decide +kernel
theorem dd_M_blocks_45 : decode bc_M_blocks 45 = .ok (.iload 4, 2) := by decide +kernel
theorem dd_M_blocks_47 : decode bc_M_blocks 47 = .ok (.aload_n 0, 1) := by decide +kernel
theorem dd_M_blocks_48 : decode bc_M_blocks 48 = .ok (.invokevirtual 72, 3) := by decide +kernel
theorem dd_M_blocks_51 : decode bc_M_blocks 51 = .ok (.if_icmp .ge 21, 3) := by decide +kernel
theorem dd_M_blocks_54 : decode bc_M_blocks 54 = .ok (.aload_n 0, 1) := by decide +kernel
theorem dd_M_blocks_55 : decode bc_M_blocks 55 = .ok (.iload_n 2, 1) := by decide +kernel
theorem dd_M_blocks_56 : decode bc_M_blocks 56 = .ok (.iload 4, 2) := by decide +kernel
theorem dd_M_blocks_58 : decode bc_M_blocks 58 = .ok (.iconst 1, 1) := by decide +kernel
theorem dd_M_blocks_59 : decode bc_M_blocks 59 = .ok (.iload_n 1, 1) := by decide +kernel
theorem dd_M_blocks_60 : decode bc_M_blocks 60 = .ok (.invokevirtual 127, 3) := by decide +kernel
theorem dd_M_blocks_63 : decode bc_M_blocks 63 = .ok (.iload 4, 2) := by decide +kernel
theorem dd_M_blocks_65 : decode bc_M_blocks 65 = .ok (.iload_n 1, 1) := by decide +kernel
theorem dd_M_blocks_66 : decode bc_M_blocks 66 = .ok (.iadd, 1) := by decide +kernel
theorem dd_M_blocks_67 : decode bc_M_blocks 67 = .ok (.istore 4, 2) := by decide +kernel
theorem dd_M_blocks_69 : decode bc_M_blocks 69 = .ok (.goto (-24), 3) := by decide +kernel
theorem dd_M_blocks_72 : decode bc_M_blocks 72 = .ok (.aload_n 0, 1) := by decide +kernel
theorem dd_M_blocks_73 : decode bc_M_blocks 73 = .ok (.iload_n 3, 1) := by decide +kernel
theorem dd_M_blocks_74 : decode bc_M_blocks 74 = .ok (.iconst 0, 1) := by decide +kernel
theorem dd_M_blocks_75 : decode bc_M_blocks 75 = .ok (.iload_n 1, 1) := by decide +kernel
theorem dd_M_blocks_76 : decode bc_M_blocks 76 = .ok (.aload_n 0, 1) := by decide +kernel
theorem dd_M_blocks_77 : decode bc_M_blocks 77 = .ok (.invokevirtual 72, 3) := by decide +kernel
theorem dd_M_blocks_80 : decode bc_M_blocks 80 = .ok (.iload_n 1, 1) := by decide +kernel
theorem dd_M_blocks_81 : decode bc_M_blocks 81 = .ok (.idiv, 1) := by decide +kernel
theorem dd_M_blocks_82 : decode bc_M_blocks 82 = .ok (.invokevirtual 127, 3) := by decide +kernel
theorem dd_M_blocks_85 : decode bc_M_blocks 85 = .ok (.aload_n 0, 1) := by decide +kernel
theorem dd_M_blocks_86 : decode bc_M_blocks 86 = .ok (.invokevirtual 69, 3) := by decide +kernel
theorem dd_M_blocks_89 : decode bc_M_blocks 89 = .ok (.aload_n 0, 1) := by decide +kernel
theorem dd_M_blocks_90 : decode bc_M_blocks 90 = .ok (.getfield 99, 3) := by decide +kernel
theorem dd_M_blocks_93 : decode bc_M_blocks 93 = .ok (.ireturn, 1) := by decide +kernel
theorem dd_M_say_0 : decode bc_M_say 0 = .ok (.iload_n 1, 1) := by decide +kernel
theorem dd_M_say_1 : decode bc_M_say 1 = .ok (.bipush 33, 2) := by decide +kernel
theorem dd_M_say_3 : decode bc_M_say 3 = .ok (.bipush 126, 2) := by decide +kernel
theorem dd_M_say_5 : decode bc_M_say 5 = .ok (.invokestatic 102, 3) := by decide +kernel
theorem dd_M_say_8 : decode bc_M_say 8 = .ok (.ifCond .ne 6, 3) := by decide +kernel
theorem dd_M_say_11 : decode bc_M_say 11 = .ok (.bipush (-2), 2) := by decide +kernel
theorem dd_M_say_13 : decode bc_M_say 13 = .ok (.ireturn, 1) := by decide +kernel
theorem dd_M_say_14 : decode bc_M_say 14 = .ok (.aload_n 0, 1) := by decide +kernel
theorem dd_M_say_15 : decode bc_M_say 15 = .ok (.getfield 130, 3) := by decide +kernel
theorem dd_M_say_18 : decode bc_M_say 18 = .ok (.bipush 7, 2) := by decide +kernel
theorem dd_M_say_20 : decode bc_M_say 20 = .ok (.if_icmp .ne 6, 3) := by decide +kernel
theorem dd_M_say_23 : decode bc_M_say 23 = .ok (.bipush (-4), 2) := by decide +kernel
theorem dd_M_say_25 : decode bc_M_say 25 = .ok (.ireturn, 1) := by decide +kernel
theorem dd_M_say_26 : decode bc_M_say 26 = .ok (.aload_n 0, 1) := by decide +kernel
theorem dd_M_say_27 : decode bc_M_say 27 = .ok (.getfield 20, 3) := by decide +kernel
theorem dd_M_say_30 : decode bc_M_say 30 = .ok (.aload_n 0, 1) := by decide +kernel
theorem dd_M_say_31 : decode bc_M_say 31 = .ok (.getfield 130, 3) := by decide +kernel
theorem dd_M_say_34 : decode bc_M_say 34 = .ok (.iload_n 1, 1) := by decide +kernel
theorem dd_M_say_35 : decode bc_M_say 35 = .ok (.iastore, 1) := by decide +kernel
theorem dd_M_say_36 : decode bc_M_say 36 = .ok (.aload_n 0, 1) := by decide +kernel
theorem dd_M_say_37 : decode bc_M_say 37 = .ok (.dup, 1) := by decide +kernel
theorem dd_M_say_38 : decode bc_M_say 38 = .ok (.getfield 130, 3) := by decide +kernel
theorem dd_M_say_41 : decode bc_M_say 41 = .ok (.iconst 1, 1) := by decide +kernel
theorem dd_M_say_42 : decode bc_M_say 42 = .ok (.iadd, 1) := by decide +kernel
theorem dd_M_say_43 : decode bc_M_say 43 = .ok (.putfield 130, 3) := by decide +kernel
theorem dd_M_say_46 : decode bc_M_say 46 = .ok (.aload_n 0, 1) := by decide +kernel
theorem dd_M_say_47 : decode bc_M_say 47 = .ok (.getfield 130, 3) := by decide +kernel
theorem dd_M_say_50 : decode bc_M_say 50 = .ok (.ireturn, 1) := by decide +kernel
theorem dd_M_wipe_0 : decode bc_M_wipe 0 = .ok (.aload_n 0, 1) := by decide +kernel
theorem dd_M_wipe_1 : decode bc_M_wipe 1 = .ok (.getfield 130, 3) := by decide +kernel
theorem dd_M_wipe_4 : decode bc_M_wipe 4 = .ok (.istore_n 1, 1) := by decide +kernel
theorem dd_M_wipe_5 : decode bc_M_wipe 5 = .ok (.aload_n 0, 1) := by decide +kernel
theorem dd_M_wipe_6 : decode bc_M_wipe 6 = .ok (.iconst 0, 1) := by decide +kernel
theorem dd_M_wipe_7 : decode bc_M_wipe 7 = .ok (.putfield 130, 3) := by decide +kernel
theorem dd_M_wipe_10 : decode bc_M_wipe 10 = .ok (.iload_n 1, 1) := by decide +kernel
theorem dd_M_wipe_11 : decode bc_M_wipe 11 = .ok (.ireturn, 1) := by decide +kernel
theorem dd_M_layPad_0 : decode bc_M_layPad 0 = .ok (.iconst 0, 1) := by decide +kernel
theorem dd_M_layPad_1 : decode bc_M_layPad 1 = .ok (.istore_n 1, 1) := by decide +kernel
theorem dd_M_layPad_2 : decode bc_M_layPad 2 = .ok (.iconst 0, 1) := by decide +kernel
theorem dd_M_layPad_3 : decode bc_M_layPad 3 = .ok (.istore_n 2, 1) := by decide +kernel
theorem dd_M_layPad_4 : decode bc_M_layPad 4 = .ok (.iload_n 2, 1) := by decide +kernel
theorem dd_M_layPad_5 : decode bc_M_layPad 5 = .ok (.aload_n 0, 1) := by decide +kernel
theorem dd_M_layPad_6 : decode bc_M_layPad 6 = .ok (.getfield 130, 3) := by decide +kernel
theorem dd_M_layPad_9 : decode bc_M_layPad 9 = .ok (.if_icmp .ge 48, 3) := by decide +kernel
theorem dd_M_layPad_12 : decode bc_M_layPad 12 = .ok (.aload_n 0, 1) := by decide +kernel
theorem dd_M_layPad_13 : decode bc_M_layPad 13 = .ok (.getfield 20, 3) := by decide +kernel
theorem dd_M_layPad_16 : decode bc_M_layPad 16 = .ok (.iload_n 2, 1) := by decide +kernel
theorem dd_M_layPad_17 : decode bc_M_layPad 17 = .ok (.iaload, 1) := by decide +kernel
theorem dd_M_layPad_18 : decode bc_M_layPad 18 = .ok (.bipush 48, 2) := by decide +kernel
theorem dd_M_layPad_20 : decode bc_M_layPad 20 = .ok (.isub, 1) := by decide +kernel
theorem dd_M_layPad_21 : decode bc_M_layPad 21 = .ok (.istore_n 3, 1) := by decide +kernel
theorem dd_M_layPad_22 : decode bc_M_layPad 22 = .ok (.iload_n 3, 1) := by decide +kernel
theorem dd_M_layPad_23 : decode bc_M_layPad 23 = .ok (.iconst 0, 1) := by decide +kernel
theorem dd_M_layPad_24 : decode bc_M_layPad 24 = .ok (.aload_n 0, 1) := by decide +kernel
theorem dd_M_layPad_25 : decode bc_M_layPad 25 = .ok (.invokevirtual 72, 3) := by decide +kernel
theorem dd_M_layPad_28 : decode bc_M_layPad 28 = .ok (.iconst 1, 1) := by decide +kernel
theorem dd_M_layPad_29 : decode bc_M_layPad 29 = .ok (.isub, 1) := by decide +kernel
theorem dd_M_layPad_30 : decode bc_M_layPad 30 = .ok (.invokestatic 102, 3) := by decide +kernel
theorem dd_M_layPad_33 : decode bc_M_layPad 33 = .ok (.ifCond .ne 5, 3) := by decide +kernel
theorem dd_M_layPad_36 : decode bc_M_layPad 36 = .ok (.iconst 0, 1) := by decide +kernel
theorem dd_M_layPad_37 : decode bc_M_layPad 37 = .ok (.ireturn, 1) := by decide +kernel
theorem dd_M_layPad_38 : decode bc_M_layPad 38 = .ok (.aload_n 0, 1) := by decide +kernel
theorem dd_M_layPad_39 : decode bc_M_layPad 39 = .ok (.getfield 23, 3) := by decide +kernel
theorem dd_M_layPad_42 : decode bc_M_layPad 42 = .ok (.iload_n 2, 1) := by decide +kernel
theorem dd_M_layPad_43 : decode bc_M_layPad 43 = .ok (.iload_n 3, 1) := by decide +kernel
theorem dd_M_layPad_44 : decode bc_M_layPad 44 = .ok (.iastore, 1) := by decide +kernel
theorem dd_M_layPad_45 : decode bc_M_layPad 45 = .ok (.iload_n 1, 1) := by decide +kernel
theorem dd_M_layPad_46 : decode bc_M_layPad 46 = .ok (.iconst 1, 1) := by decide +kernel
theorem dd_M_layPad_47 : decode bc_M_layPad 47 = .ok (.iload_n 3, 1) := by decide +kernel
theorem dd_M_layPad_48 : decode bc_M_layPad 48 = .ok (.ishl, 1) := by decide +kernel
theorem dd_M_layPad_49 : decode bc_M_layPad 49 = .ok (.ior, 1) := by decide +kernel
theorem dd_M_layPad_50 : decode bc_M_layPad 50 = .ok (.istore_n 1, 1) := by decide +kernel
theorem dd_M_layPad_51 : decode bc_M_layPad 51 = .ok (.iinc 2 1, 3) := by decide +kernel
theorem dd_M_layPad_54 : decode bc_M_layPad 54 = .ok (.goto (-50), 3) := by decide +kernel
theorem dd_M_layPad_57 : decode bc_M_layPad 57 = .ok (.aload_n 0, 1) := by decide +kernel
theorem dd_M_layPad_58 : decode bc_M_layPad 58 = .ok (.getfield 130, 3) := by decide +kernel
theorem dd_M_layPad_61 : decode bc_M_layPad 61 = .ok (.aload_n 0, 1) := by decide +kernel
theorem dd_M_layPad_62 : decode bc_M_layPad 62 = .ok (.invokevirtual 72, 3) := by decide +kernel
theorem dd_M_layPad_65 : decode bc_M_layPad 65 = .ok (.if_icmp .ne 19, 3) := by decide +kernel
theorem dd_M_layPad_68 : decode bc_M_layPad 68 = .ok (.iload_n 1, 1) := by decide +kernel
theorem dd_M_layPad_69 : decode bc_M_layPad 69 = .ok (.iconst 1, 1) := by decide +kernel
theorem dd_M_layPad_70 : decode bc_M_layPad 70 = .ok (.aload_n 0, 1) := by decide +kernel
theorem dd_M_layPad_71 : decode bc_M_layPad 71 = .ok (.invokevirtual 72, 3) := by decide +kernel
theorem dd_M_layPad_74 : decode bc_M_layPad 74 = .ok (.ishl, 1) := by decide +kernel
theorem dd_M_layPad_75 : decode bc_M_layPad 75 = .ok (.iconst 1, 1) := by decide +kernel
theorem dd_M_layPad_76 : decode bc_M_layPad 76 = .ok (.isub, 1) := by decide +kernel
theorem dd_M_layPad_77 : decode bc_M_layPad 77 = .ok (.if_icmp .ne 7, 3) := by decide +kernel
theorem dd_M_layPad_80 : decode bc_M_layPad 80 = .ok (.iconst 1, 1) := by decide +kernel
theorem dd_M_layPad_81 : decode bc_M_layPad 81 = .ok (.goto 4, 3) := by decide +kernel
theorem dd_M_layPad_84 : decode bc_M_layPad 84 = .ok (.iconst 0, 1) := by decide +kernel
theorem dd_M_layPad_85 : decode bc_M_layPad 85 = .ok (.ireturn, 1) := by decide +kernel
theorem dd_M_join_0 : decode bc_M_join 0 = .ok (.aload_n 0, 1) := by decide +kernel
theorem dd_M_join_1 : decode bc_M_join 1 = .ok (.invokevirtual 133, 3) := by decide +kernel
theorem dd_M_join_4 : decode bc_M_join 4 = .ok (.ifCond .ne 6, 3) := by decide +kernel
theorem dd_M_join_7 : decode bc_M_join 7 = .ok (.bipush (-7), 2) := by decide +kernel
theorem dd_M_join_9 : decode bc_M_join 9 = .ok (.ireturn, 1) := by decide +kernel
theorem dd_M_join_10 : decode bc_M_join 10 = .ok (.aload_n 0, 1) := by decide +kernel
theorem dd_M_join_11 : decode bc_M_join 11 = .ok (.invokevirtual 86, 3) := by decide +kernel
theorem dd_M_join_14 : decode bc_M_join 14 = .ok (.istore_n 1, 1) := by decide +kernel
theorem dd_M_join_15 : decode bc_M_join 15 = .ok (.iconst 0, 1) := by decide +kernel
theorem dd_M_join_16 : decode bc_M_join 16 = .ok (.istore_n 2, 1) := by decide +kernel
theorem dd_M_join_17 : decode bc_M_join 17 = .ok (.iload_n 2, 1) := by decide +kernel
theorem dd_M_join_18 : decode bc_M_join 18 = .ok (.sipush 5040, 3) := by decide +kernel
theorem dd_M_join_21 : decode bc_M_join 21 = .ok (.if_icmp .ge 24, 3) := by decide +kernel
theorem dd_M_join_24 : decode bc_M_join 24 = .ok (.aload_n 0, 1) := by decide +kernel
theorem dd_M_join_25 : decode bc_M_join 25 = .ok (.getfield 39, 3) := by decide +kernel
theorem dd_M_join_28 : decode bc_M_join 28 = .ok (.iload_n 2, 1) := by decide +kernel
theorem dd_M_join_29 : decode bc_M_join 29 = .ok (.aload_n 0, 1) := by decide +kernel
theorem dd_M_join_30 : decode bc_M_join 30 = .ok (.getfield 7, 3) := by decide +kernel
theorem dd_M_join_33 : decode bc_M_join 33 = .ok (.bipush 6, 2) := by decide +kernel
theorem dd_M_join_35 : decode bc_M_join 35 = .ok (.iload_n 2, 1) := by decide +kernel
theorem dd_M_join_36 : decode bc_M_join 36 = .ok (.iadd, 1) := by decide +kernel
theorem dd_M_join_37 : decode bc_M_join 37 = .ok (.iaload, 1) := by decide +kernel
theorem dd_M_join_38 : decode bc_M_join 38 = .ok (.iastore, 1) := by decide +kernel
theorem dd_M_join_39 : decode bc_M_join 39 = .ok (.iinc 2 1, 3) := by decide +kernel
theorem dd_M_join_42 : decode bc_M_join 42 = .ok (.goto (-25), 3) := by decide +kernel
theorem dd_M_join_45 : decode bc_M_join 45 = .ok (.aload_n 0, 1) := by decide +kernel
theorem dd_M_join_46 : decode bc_M_join 46 = .ok (.invokevirtual 66, 3) := by decide +kernel
theorem dd_M_join_49 : decode bc_M_join 49 = .ok (.aload_n 0, 1) := by decide +kernel
theorem dd_M_join_50 : decode bc_M_join 50 = .ok (.iload_n 1, 1) := by decide +kernel
theorem dd_M_join_51 : decode bc_M_join 51 = .ok (.invokevirtual 93, 3) := by decide +kernel
theorem dd_M_join_54 : decode bc_M_join 54 = .ok (.aload_n 0, 1) := by decide +kernel
theorem dd_M_join_55 : decode bc_M_join 55 = .ok (.invokevirtual 110, 3) := by decide +kernel
theorem dd_M_join_58 : decode bc_M_join 58 = .ok (.aload_n 0, 1) := by decide +kernel
theorem dd_M_join_59 : decode bc_M_join 59 = .ok (.invokevirtual 69, 3) := by decide +kernel
theorem dd_M_join_62 : decode bc_M_join 62 = .ok (.iconst 0, 1) := by decide +kernel
theorem dd_M_join_63 : decode bc_M_join 63 = .ok (.istore_n 2, 1) := by decide +kernel
theorem dd_M_join_64 : decode bc_M_join 64 = .ok (.iload_n 2, 1) := by decide +kernel
theorem dd_M_join_65 : decode bc_M_join 65 = .ok (.sipush 5040, 3) := by decide +kernel
theorem dd_M_join_68 : decode bc_M_join 68 = .ok (.if_icmp .ge 44, 3) := by decide +kernel
theorem dd_M_join_71 : decode bc_M_join 71 = .ok (.aload_n 0, 1) := by decide +kernel
theorem dd_M_join_72 : decode bc_M_join 72 = .ok (.getfield 39, 3) := by decide +kernel
theorem dd_M_join_75 : decode bc_M_join 75 = .ok (.iload_n 2, 1) := by decide +kernel
theorem dd_M_join_76 : decode bc_M_join 76 = .ok (.iaload, 1) := by decide +kernel
theorem dd_M_join_77 : decode bc_M_join 77 = .ok (.iconst 1, 1) := by decide +kernel
theorem dd_M_join_78 : decode bc_M_join 78 = .ok (.if_icmp .ne 28, 3) := by decide +kernel
theorem dd_M_join_81 : decode bc_M_join 81 = .ok (.aload_n 0, 1) := by decide +kernel
theorem dd_M_join_82 : decode bc_M_join 82 = .ok (.getfield 7, 3) := by decide +kernel
theorem dd_M_join_85 : decode bc_M_join 85 = .ok (.bipush 6, 2) := by decide +kernel
theorem dd_M_join_87 : decode bc_M_join 87 = .ok (.iload_n 2, 1) := by decide +kernel
theorem dd_M_join_88 : decode bc_M_join 88 = .ok (.iadd, 1) := by decide +kernel
theorem dd_M_join_89 : decode bc_M_join 89 = .ok (.iaload, 1) := by decide +kernel
theorem dd_M_join_90 : decode bc_M_join 90 = .ok (.ifCond .ne 16, 3) := by decide +kernel
theorem dd_M_join_93 : decode bc_M_join 93 = .ok (.aload_n 0, 1) := by decide +kernel
theorem dd_M_join_94 : decode bc_M_join 94 = .ok (.iload_n 2, 1) := by decide +kernel
theorem dd_M_join_95 : decode bc_M_join 95 = .ok (.invokevirtual 93, 3) := by decide +kernel
theorem dd_M_join_98 : decode bc_M_join 98 = .ok (.aload_n 0, 1) := by decide +kernel
theorem dd_M_join_99 : decode bc_M_join 99 = .ok (.invokevirtual 110, 3) := by decide +kernel
theorem dd_M_join_102 : decode bc_M_join 102 = .ok (.aload_n 0, 1) := by decide +kernel
theorem dd_M_join_103 : decode bc_M_join 103 = .ok (.invokevirtual 69, 3) := by decide +kernel
theorem dd_M_join_106 : decode bc_M_join 106 = .ok (.iinc 2 1, 3) := by decide +kernel
theorem dd_M_join_109 : decode bc_M_join 109 = .ok (.goto (-45), 3) := by decide +kernel
theorem dd_M_join_112 : decode bc_M_join 112 = .ok (.aload_n 0, 1) := by decide +kernel
theorem dd_M_join_113 : decode bc_M_join 113 = .ok (.iconst 0, 1) := by decide +kernel
theorem dd_M_join_114 : decode bc_M_join 114 = .ok (.putfield 130, 3) := by decide +kernel
theorem dd_M_join_117 : decode bc_M_join 117 = .ok (.aload_n 0, 1) := by decide +kernel
theorem dd_M_join_118 : decode bc_M_join 118 = .ok (.getfield 99, 3) := by decide +kernel
theorem dd_M_join_121 : decode bc_M_join 121 = .ok (.ireturn, 1) := by decide +kernel
theorem dd_M_typeOfRow_0 : decode bc_M_typeOfRow 0 = .ok (.iconst 0, 1) := by decide +kernel
theorem dd_M_typeOfRow_1 : decode bc_M_typeOfRow 1 = .ok (.istore_n 1, 1) := by decide +kernel
theorem dd_M_typeOfRow_2 : decode bc_M_typeOfRow 2 = .ok (.iload_n 1, 1) := by decide +kernel
theorem dd_M_typeOfRow_3 : decode bc_M_typeOfRow 3 = .ok (.bipush 8, 2) := by decide +kernel
theorem dd_M_typeOfRow_5 : decode bc_M_typeOfRow 5 = .ok (.if_icmp .ge 16, 3) := by decide +kernel
theorem dd_M_typeOfRow_8 : decode bc_M_typeOfRow 8 = .ok (.aload_n 0, 1) := by decide +kernel
theorem dd_M_typeOfRow_9 : decode bc_M_typeOfRow 9 = .ok (.getfield 42, 3) := by decide +kernel
theorem dd_M_typeOfRow_12 : decode bc_M_typeOfRow 12 = .ok (.iload_n 1, 1) := by decide +kernel
theorem dd_M_typeOfRow_13 : decode bc_M_typeOfRow 13 = .ok (.iconst 0, 1) := by decide +kernel
theorem dd_M_typeOfRow_14 : decode bc_M_typeOfRow 14 = .ok (.iastore, 1) := by decide +kernel
theorem dd_M_typeOfRow_15 : decode bc_M_typeOfRow 15 = .ok (.iinc 1 1, 3) := by decide +kernel
theorem dd_M_typeOfRow_18 : decode bc_M_typeOfRow 18 = .ok (.goto (-16), 3) := by decide +kernel
theorem dd_M_typeOfRow_21 : decode bc_M_typeOfRow 21 = .ok (.iconst 0, 1) := by decide +kernel
theorem dd_M_typeOfRow_22 : decode bc_M_typeOfRow 22 = .ok (.istore_n 1, 1) := by decide +kernel
theorem dd_M_typeOfRow_23 : decode bc_M_typeOfRow 23 = .ok (.iconst 0, 1) := by decide +kernel
theorem dd_M_typeOfRow_24 : decode bc_M_typeOfRow 24 = .ok (.istore_n 2, 1) := by decide +kernel
theorem dd_M_typeOfRow_25 : decode bc_M_typeOfRow 25 = .ok (.iload_n 2, 1) := by decide +kernel
theorem dd_M_typeOfRow_26 : decode bc_M_typeOfRow 26 = .ok (.aload_n 0, 1) := by decide +kernel
theorem dd_M_typeOfRow_27 : decode bc_M_typeOfRow 27 = .ok (.invokevirtual 72, 3) := by decide +kernel
theorem dd_M_typeOfRow_30 : decode bc_M_typeOfRow 30 = .ok (.if_icmp .ge 55, 3) := by decide +kernel
theorem dd_M_typeOfRow_33 : decode bc_M_typeOfRow 33 = .ok (.iconst 0, 1) := by decide +kernel
theorem dd_M_typeOfRow_34 : decode bc_M_typeOfRow 34 = .ok (.istore_n 3, 1) := by decide +kernel
theorem dd_M_typeOfRow_35 : decode bc_M_typeOfRow 35 = .ok (.iload_n 2, 1) := by decide +kernel
theorem dd_M_typeOfRow_36 : decode bc_M_typeOfRow 36 = .ok (.istore 4, 2) := by decide +kernel
theorem dd_M_typeOfRow_38 : decode bc_M_typeOfRow 38 = .ok (.iload_n 1, 1) := by decide +kernel
theorem dd_M_typeOfRow_39 : decode bc_M_typeOfRow 39 = .ok (.iload 4, 2) := by decide +kernel
theorem dd_M_typeOfRow_41 : decode bc_M_typeOfRow 41 = .ok (.ishr, 1) := by decide +kernel
theorem dd_M_typeOfRow_42 : decode bc_M_typeOfRow 42 = .ok (.iconst 1, 1) := by decide +kernel
theorem dd_M_typeOfRow_43 : decode bc_M_typeOfRow 43 = .ok (.iand, 1) := by decide +kernel
theorem dd_M_typeOfRow_44 : decode bc_M_typeOfRow 44 = .ok (.ifCond .ne 25, 3) := by decide +kernel
theorem dd_M_typeOfRow_47 : decode bc_M_typeOfRow 47 = .ok (.iload_n 1, 1) := by decide +kernel
theorem dd_M_typeOfRow_48 : decode bc_M_typeOfRow 48 = .ok (.iconst 1, 1) := by decide +kernel
theorem dd_M_typeOfRow_49 : decode bc_M_typeOfRow 49 = .ok (.iload 4, 2) := by decide +kernel
theorem dd_M_typeOfRow_51 : decode bc_M_typeOfRow 51 = .ok (.ishl, 1) := by decide +kernel
theorem dd_M_typeOfRow_52 : decode bc_M_typeOfRow 52 = .ok (.ior, 1) := by decide +kernel
theorem dd_M_typeOfRow_53 : decode bc_M_typeOfRow 53 = .ok (.istore_n 1, 1) := by decide +kernel
theorem dd_M_typeOfRow_54 : decode bc_M_typeOfRow 54 = .ok (.iinc 3 1, 3) := by decide +kernel
theorem dd_M_typeOfRow_57 : decode bc_M_typeOfRow 57 = .ok (.aload_n 0, 1) := by decide +kernel
theorem dd_M_typeOfRow_58 : decode bc_M_typeOfRow 58 = .ok (.getfield 23, 3) := by decide +kernel
theorem dd_M_typeOfRow_61 : decode bc_M_typeOfRow 61 = .ok (.iload 4, 2) := by decide +kernel
theorem dd_M_typeOfRow_63 : decode bc_M_typeOfRow 63 = .ok (.iaload, 1) := by decide +kernel
theorem dd_M_typeOfRow_64 : decode bc_M_typeOfRow 64 = .ok (.istore 4, 2) := by decide +kernel
theorem dd_M_typeOfRow_66 : decode bc_M_typeOfRow 66 = .ok (.goto (-28), 3) := by decide +kernel
theorem dd_M_typeOfRow_69 : decode bc_M_typeOfRow 69 = .ok (.aload_n 0, 1) := by decide +kernel
theorem dd_M_typeOfRow_70 : decode bc_M_typeOfRow 70 = .ok (.getfield 42, 3) := by decide +kernel
theorem dd_M_typeOfRow_73 : decode bc_M_typeOfRow 73 = .ok (.iload_n 3, 1) := by decide +kernel
theorem dd_M_typeOfRow_74 : decode bc_M_typeOfRow 74 = .ok (.dup2, 1) := by decide +kernel
theorem dd_M_typeOfRow_75 : decode bc_M_typeOfRow 75 = .ok (.iaload, 1) := by decide +kernel
theorem dd_M_typeOfRow_76 : decode bc_M_typeOfRow 76 = .ok (.iconst 1, 1) := by decide +kernel
theorem dd_M_typeOfRow_77 : decode bc_M_typeOfRow 77 = .ok (.iadd, 1) := by decide +kernel
theorem dd_M_typeOfRow_78 : decode bc_M_typeOfRow 78 = .ok (.iastore, 1) := by decide +kernel
theorem dd_M_typeOfRow_79 : decode bc_M_typeOfRow 79 = .ok (.iinc 2 1, 3) := by decide +kernel
theorem dd_M_typeOfRow_82 : decode bc_M_typeOfRow 82 = .ok (.goto (-57), 3) := by decide +kernel
theorem dd_M_typeOfRow_85 : decode bc_M_typeOfRow 85 = .ok (.iconst 0, 1) := by decide +kernel
theorem dd_M_typeOfRow_86 : decode bc_M_typeOfRow 86 = .ok (.istore_n 2, 1) := by decide +kernel
theorem dd_M_typeOfRow_87 : decode bc_M_typeOfRow 87 = .ok (.bipush 7, 2) := by decide +kernel
theorem dd_M_typeOfRow_89 : decode bc_M_typeOfRow 89 = .ok (.istore_n 3, 1) := by decide +kernel
theorem dd_M_typeOfRow_90 : decode bc_M_typeOfRow 90 = .ok (.iload_n 3, 1) := by decide +kernel
theorem dd_M_typeOfRow_91 : decode bc_M_typeOfRow 91 = .ok (.ifCond .le 36, 3) := by decide +kernel
theorem dd_M_typeOfRow_94 : decode bc_M_typeOfRow 94 = .ok (.iconst 0, 1) := by decide +kernel
theorem dd_M_typeOfRow_95 : decode bc_M_typeOfRow 95 = .ok (.istore 4, 2) := by decide +kernel
theorem dd_M_typeOfRow_97 : decode bc_M_typeOfRow 97 = .ok (.iload 4, 2) := by decide +kernel
theorem dd_M_typeOfRow_99 : decode bc_M_typeOfRow 99 = .ok (.aload_n 0, 1) := by decide +kernel
theorem dd_M_typeOfRow_100 : decode bc_M_typeOfRow 100 = .ok (.getfield 42, 3) := by decide +kernel
theorem dd_M_typeOfRow_103 : decode bc_M_typeOfRow 103 = .ok (.iload_n 3, 1) := by decide +kernel
theorem dd_M_typeOfRow_104 : decode bc_M_typeOfRow 104 = .ok (.iaload, 1) := by decide +kernel
theorem dd_M_typeOfRow_105 : decode bc_M_typeOfRow 105 = .ok (.if_icmp .ge 16, 3) := by decide +kernel
theorem dd_M_typeOfRow_108 : decode bc_M_typeOfRow 108 = .ok (.bipush 10, 2) := by decide +kernel
theorem dd_M_typeOfRow_110 : decode bc_M_typeOfRow 110 = .ok (.iload_n 2, 1) := by decide +kernel
theorem dd_M_typeOfRow_111 : decode bc_M_typeOfRow 111 = .ok (.imul, 1) := by decide +kernel
theorem dd_M_typeOfRow_112 : decode bc_M_typeOfRow 112 = .ok (.iload_n 3, 1) := by decide +kernel
theorem dd_M_typeOfRow_113 : decode bc_M_typeOfRow 113 = .ok (.iadd, 1) := by decide +kernel
theorem dd_M_typeOfRow_114 : decode bc_M_typeOfRow 114 = .ok (.istore_n 2, 1) := by decide +kernel
theorem dd_M_typeOfRow_115 : decode bc_M_typeOfRow 115 = .ok (.iinc 4 1, 3) := by decide +kernel
theorem dd_M_typeOfRow_118 : decode bc_M_typeOfRow 118 = .ok (.goto (-21), 3) := by decide +kernel
theorem dd_M_typeOfRow_121 : decode bc_M_typeOfRow 121 = .ok (.iinc 3 (-1), 3) := by decide +kernel
end
section
theorem dd_M_typeOfRow_124 : decode bc_M_typeOfRow 124 = .ok (.goto (-34), 3) := by decide +kernel
theorem dd_M_typeOfRow_127 : decode bc_M_typeOfRow 127 = .ok (.iload_n 2, 1) := by decide +kernel
theorem dd_M_typeOfRow_128 : decode bc_M_typeOfRow 128 = .ok (.ireturn, 1) := by decide +kernel
theorem dd_M_common_0 : decode bc_M_common 0 = .ok (.iload_n 0, 1) := by decide +kernel
theorem dd_M_common_1 : decode bc_M_common 1 = .ok (.istore_n 2, 1) := by decide +kernel
theorem dd_M_common_2 : decode bc_M_common 2 = .ok (.iload_n 1, 1) := by decide +kernel
theorem dd_M_common_3 : decode bc_M_common 3 = .ok (.istore_n 3, 1) := by decide +kernel
theorem dd_M_common_4 : decode bc_M_common 4 = .ok (.iload_n 3, 1) := by decide +kernel
theorem dd_M_common_5 : decode bc_M_common 5 = .ok (.ifCond .eq 16, 3) := by decide +kernel
theorem dd_M_common_8 : decode bc_M_common 8 = .ok (.iload_n 2, 1) := by decide +kernel
theorem dd_M_common_9 : decode bc_M_common 9 = .ok (.iload_n 3, 1) := by decide +kernel
theorem dd_M_common_10 : decode bc_M_common 10 = .ok (.irem, 1) := by decide +kernel
theorem dd_M_common_11 : decode bc_M_common 11 = .ok (.istore 4, 2) := by decide +kernel
theorem dd_M_common_13 : decode bc_M_common 13 = .ok (.iload_n 3, 1) := by decide +kernel
theorem dd_M_common_14 : decode bc_M_common 14 = .ok (.istore_n 2, 1) := by decide +kernel
theorem dd_M_common_15 : decode bc_M_common 15 = .ok (.iload 4, 2) := by decide +kernel
theorem dd_M_common_17 : decode bc_M_common 17 = .ok (.istore_n 3, 1) := by decide +kernel
theorem dd_M_common_18 : decode bc_M_common 18 = .ok (.goto (-14), 3) := by decide +kernel
theorem dd_M_common_21 : decode bc_M_common 21 = .ok (.iload_n 2, 1) := by decide +kernel
theorem dd_M_common_22 : decode bc_M_common 22 = .ok (.ireturn, 1) := by decide +kernel
theorem dd_M_orderOf_0 : decode bc_M_orderOf 0 = .ok (.iconst 1, 1) := by decide +kernel
theorem dd_M_orderOf_1 : decode bc_M_orderOf 1 = .ok (.istore_n 1, 1) := by decide +kernel
theorem dd_M_orderOf_2 : decode bc_M_orderOf 2 = .ok (.iload_n 0, 1) := by decide +kernel
theorem dd_M_orderOf_3 : decode bc_M_orderOf 3 = .ok (.istore_n 2, 1) := by decide +kernel
theorem dd_M_orderOf_4 : decode bc_M_orderOf 4 = .ok (.iload_n 2, 1) := by decide +kernel
theorem dd_M_orderOf_5 : decode bc_M_orderOf 5 = .ok (.ifCond .le 27, 3) := by decide +kernel
theorem dd_M_orderOf_8 : decode bc_M_orderOf 8 = .ok (.iload_n 1, 1) := by decide +kernel
theorem dd_M_orderOf_9 : decode bc_M_orderOf 9 = .ok (.iload_n 1, 1) := by decide +kernel
theorem dd_M_orderOf_10 : decode bc_M_orderOf 10 = .ok (.iload_n 2, 1) := by decide +kernel
theorem dd_M_orderOf_11 : decode bc_M_orderOf 11 = .ok (.bipush 10, 2) := by decide +kernel
theorem dd_M_orderOf_13 : decode bc_M_orderOf 13 = .ok (.irem, 1) := by decide +kernel
theorem dd_M_orderOf_14 : decode bc_M_orderOf 14 = .ok (.invokestatic 137, 3) := by decide +kernel
theorem dd_M_orderOf_17 : decode bc_M_orderOf 17 = .ok (.idiv, 1) := by decide +kernel
theorem dd_M_orderOf_18 : decode bc_M_orderOf 18 = .ok (.iload_n 2, 1) := by decide +kernel
theorem dd_M_orderOf_19 : decode bc_M_orderOf 19 = .ok (.bipush 10, 2) := by decide +kernel
theorem dd_M_orderOf_21 : decode bc_M_orderOf 21 = .ok (.irem, 1) := by decide +kernel
theorem dd_M_orderOf_22 : decode bc_M_orderOf 22 = .ok (.imul, 1) := by decide +kernel
theorem dd_M_orderOf_23 : decode bc_M_orderOf 23 = .ok (.istore_n 1, 1) := by decide +kernel
theorem dd_M_orderOf_24 : decode bc_M_orderOf 24 = .ok (.iload_n 2, 1) := by decide +kernel
theorem dd_M_orderOf_25 : decode bc_M_orderOf 25 = .ok (.bipush 10, 2) := by decide +kernel
theorem dd_M_orderOf_27 : decode bc_M_orderOf 27 = .ok (.idiv, 1) := by decide +kernel
theorem dd_M_orderOf_28 : decode bc_M_orderOf 28 = .ok (.istore_n 2, 1) := by decide +kernel
theorem dd_M_orderOf_29 : decode bc_M_orderOf 29 = .ok (.goto (-25), 3) := by decide +kernel
theorem dd_M_orderOf_32 : decode bc_M_orderOf 32 = .ok (.iload_n 1, 1) := by decide +kernel
theorem dd_M_orderOf_33 : decode bc_M_orderOf 33 = .ok (.ireturn, 1) := by decide +kernel
theorem dd_M_turn_0 : decode bc_M_turn 0 = .ok (.iload_n 1, 1) := by decide +kernel
theorem dd_M_turn_1 : decode bc_M_turn 1 = .ok (.iconst 0, 1) := by decide +kernel
theorem dd_M_turn_2 : decode bc_M_turn 2 = .ok (.iconst 2, 1) := by decide +kernel
theorem dd_M_turn_3 : decode bc_M_turn 3 = .ok (.invokestatic 102, 3) := by decide +kernel
theorem dd_M_turn_6 : decode bc_M_turn 6 = .ok (.ifCond .ne 6, 3) := by decide +kernel
theorem dd_M_turn_9 : decode bc_M_turn 9 = .ok (.bipush (-2), 2) := by decide +kernel
theorem dd_M_turn_11 : decode bc_M_turn 11 = .ok (.ireturn, 1) := by decide +kernel
theorem dd_M_turn_12 : decode bc_M_turn 12 = .ok (.aload_n 0, 1) := by decide +kernel
theorem dd_M_turn_13 : decode bc_M_turn 13 = .ok (.invokevirtual 133, 3) := by decide +kernel
theorem dd_M_turn_16 : decode bc_M_turn 16 = .ok (.ifCond .ne 6, 3) := by decide +kernel
theorem dd_M_turn_19 : decode bc_M_turn 19 = .ok (.bipush (-7), 2) := by decide +kernel
theorem dd_M_turn_21 : decode bc_M_turn 21 = .ok (.ireturn, 1) := by decide +kernel
theorem dd_M_turn_22 : decode bc_M_turn 22 = .ok (.iload_n 1, 1) := by decide +kernel
theorem dd_M_turn_23 : decode bc_M_turn 23 = .ok (.ifCond .ne 18, 3) := by decide +kernel
theorem dd_M_turn_26 : decode bc_M_turn 26 = .ok (.aload_n 0, 1) := by decide +kernel
theorem dd_M_turn_27 : decode bc_M_turn 27 = .ok (.getfield 7, 3) := by decide +kernel
theorem dd_M_turn_30 : decode bc_M_turn 30 = .ok (.bipush 6, 2) := by decide +kernel
theorem dd_M_turn_32 : decode bc_M_turn 32 = .ok (.aload_n 0, 1) := by decide +kernel
theorem dd_M_turn_33 : decode bc_M_turn 33 = .ok (.invokevirtual 86, 3) := by decide +kernel
theorem dd_M_turn_36 : decode bc_M_turn 36 = .ok (.iadd, 1) := by decide +kernel
theorem dd_M_turn_37 : decode bc_M_turn 37 = .ok (.iaload, 1) := by decide +kernel
theorem dd_M_turn_38 : decode bc_M_turn 38 = .ok (.goto 22, 3) := by decide +kernel
theorem dd_M_turn_41 : decode bc_M_turn 41 = .ok (.iload_n 1, 1) := by decide +kernel
theorem dd_M_turn_42 : decode bc_M_turn 42 = .ok (.iconst 1, 1) := by decide +kernel
theorem dd_M_turn_43 : decode bc_M_turn 43 = .ok (.if_icmp .ne 10, 3) := by decide +kernel
theorem dd_M_turn_46 : decode bc_M_turn 46 = .ok (.aload_n 0, 1) := by decide +kernel
theorem dd_M_turn_47 : decode bc_M_turn 47 = .ok (.invokevirtual 141, 3) := by decide +kernel
theorem dd_M_turn_50 : decode bc_M_turn 50 = .ok (.goto 10, 3) := by decide +kernel
theorem dd_M_turn_53 : decode bc_M_turn 53 = .ok (.aload_n 0, 1) := by decide +kernel
theorem dd_M_turn_54 : decode bc_M_turn 54 = .ok (.invokevirtual 141, 3) := by decide +kernel
theorem dd_M_turn_57 : decode bc_M_turn 57 = .ok (.invokestatic 144, 3) := by decide +kernel
theorem dd_M_turn_60 : decode bc_M_turn 60 = .ok (.ireturn, 1) := by decide +kernel
theorem dd_M_addType_0 : decode bc_M_addType 0 = .ok (.aload_n 0, 1) := by decide +kernel
theorem dd_M_addType_1 : decode bc_M_addType 1 = .ok (.getfield 148, 3) := by decide +kernel
theorem dd_M_addType_4 : decode bc_M_addType 4 = .ok (.istore_n 2, 1) := by decide +kernel
theorem dd_M_addType_5 : decode bc_M_addType 5 = .ok (.iload_n 2, 1) := by decide +kernel
theorem dd_M_addType_6 : decode bc_M_addType 6 = .ok (.ifCond .le 21, 3) := by decide +kernel
theorem dd_M_addType_9 : decode bc_M_addType 9 = .ok (.aload_n 0, 1) := by decide +kernel
theorem dd_M_addType_10 : decode bc_M_addType 10 = .ok (.getfield 45, 3) := by decide +kernel
theorem dd_M_addType_13 : decode bc_M_addType 13 = .ok (.iload_n 2, 1) := by decide +kernel
theorem dd_M_addType_14 : decode bc_M_addType 14 = .ok (.iconst 1, 1) := by decide +kernel
theorem dd_M_addType_15 : decode bc_M_addType 15 = .ok (.isub, 1) := by decide +kernel
theorem dd_M_addType_16 : decode bc_M_addType 16 = .ok (.iaload, 1) := by decide +kernel
theorem dd_M_addType_17 : decode bc_M_addType 17 = .ok (.iload_n 1, 1) := by decide +kernel
theorem dd_M_addType_18 : decode bc_M_addType 18 = .ok (.if_icmp .ge 9, 3) := by decide +kernel
theorem dd_M_addType_21 : decode bc_M_addType 21 = .ok (.iinc 2 (-1), 3) := by decide +kernel
theorem dd_M_addType_24 : decode bc_M_addType 24 = .ok (.goto (-19), 3) := by decide +kernel
theorem dd_M_addType_27 : decode bc_M_addType 27 = .ok (.iload_n 2, 1) := by decide +kernel
theorem dd_M_addType_28 : decode bc_M_addType 28 = .ok (.ifCond .le 28, 3) := by decide +kernel
theorem dd_M_addType_31 : decode bc_M_addType 31 = .ok (.aload_n 0, 1) := by decide +kernel
theorem dd_M_addType_32 : decode bc_M_addType 32 = .ok (.getfield 45, 3) := by decide +kernel
theorem dd_M_addType_35 : decode bc_M_addType 35 = .ok (.iload_n 2, 1) := by decide +kernel
theorem dd_M_addType_36 : decode bc_M_addType 36 = .ok (.iconst 1, 1) := by decide +kernel
theorem dd_M_addType_37 : decode bc_M_addType 37 = .ok (.isub, 1) := by decide +kernel
theorem dd_M_addType_38 : decode bc_M_addType 38 = .ok (.iaload, 1) := by decide +kernel
theorem dd_M_addType_39 : decode bc_M_addType 39 = .ok (.iload_n 1, 1) := by decide +kernel
theorem dd_M_addType_40 : decode bc_M_addType 40 = .ok (.if_icmp .ne 16, 3) := by decide +kernel
theorem dd_M_addType_43 : decode bc_M_addType 43 = .ok (.aload_n 0, 1) := by decide +kernel
theorem dd_M_addType_44 : decode bc_M_addType 44 = .ok (.getfield 48, 3) := by decide +kernel
theorem dd_M_addType_47 : decode bc_M_addType 47 = .ok (.iload_n 2, 1) := by decide +kernel
theorem dd_M_addType_48 : decode bc_M_addType 48 = .ok (.iconst 1, 1) := by decide +kernel
theorem dd_M_addType_49 : decode bc_M_addType 49 = .ok (.isub, 1) := by decide +kernel
theorem dd_M_addType_50 : decode bc_M_addType 50 = .ok (.dup2, 1) := by decide +kernel
theorem dd_M_addType_51 : decode bc_M_addType 51 = .ok (.iaload, 1) := by decide +kernel
theorem dd_M_addType_52 : decode bc_M_addType 52 = .ok (.iconst 1, 1) := by decide +kernel
theorem dd_M_addType_53 : decode bc_M_addType 53 = .ok (.iadd, 1) := by decide +kernel
theorem dd_M_addType_54 : decode bc_M_addType 54 = .ok (.iastore, 1) := by decide +kernel
theorem dd_M_addType_55 : decode bc_M_addType 55 = .ok (.return_, 1) := by decide +kernel
theorem dd_M_addType_56 : decode bc_M_addType 56 = .ok (.aload_n 0, 1) := by decide +kernel
theorem dd_M_addType_57 : decode bc_M_addType 57 = .ok (.getfield 148, 3) := by decide +kernel
theorem dd_M_addType_60 : decode bc_M_addType 60 = .ok (.istore_n 3, 1) := by decide +kernel
theorem dd_M_addType_61 : decode bc_M_addType 61 = .ok (.iload_n 3, 1) := by decide +kernel
theorem dd_M_addType_62 : decode bc_M_addType 62 = .ok (.iload_n 2, 1) := by decide +kernel
theorem dd_M_addType_63 : decode bc_M_addType 63 = .ok (.if_icmp .le 37, 3) := by decide +kernel
theorem dd_M_addType_66 : decode bc_M_addType 66 = .ok (.aload_n 0, 1) := by decide +kernel
theorem dd_M_addType_67 : decode bc_M_addType 67 = .ok (.getfield 45, 3) := by decide +kernel
theorem dd_M_addType_70 : decode bc_M_addType 70 = .ok (.iload_n 3, 1) := by decide +kernel
theorem dd_M_addType_71 : decode bc_M_addType 71 = .ok (.aload_n 0, 1) := by decide +kernel
theorem dd_M_addType_72 : decode bc_M_addType 72 = .ok (.getfield 45, 3) := by decide +kernel
theorem dd_M_addType_75 : decode bc_M_addType 75 = .ok (.iload_n 3, 1) := by decide +kernel
theorem dd_M_addType_76 : decode bc_M_addType 76 = .ok (.iconst 1, 1) := by decide +kernel
theorem dd_M_addType_77 : decode bc_M_addType 77 = .ok (.isub, 1) := by decide +kernel
theorem dd_M_addType_78 : decode bc_M_addType 78 = .ok (.iaload, 1) := by decide +kernel
theorem dd_M_addType_79 : decode bc_M_addType 79 = .ok (.iastore, 1) := by decide +kernel
theorem dd_M_addType_80 : decode bc_M_addType 80 = .ok (.aload_n 0, 1) := by decide +kernel
theorem dd_M_addType_81 : decode bc_M_addType 81 = .ok (.getfield 48, 3) := by decide +kernel
theorem dd_M_addType_84 : decode bc_M_addType 84 = .ok (.iload_n 3, 1) := by decide +kernel
theorem dd_M_addType_85 : decode bc_M_addType 85 = .ok (.aload_n 0, 1) := by decide +kernel
theorem dd_M_addType_86 : decode bc_M_addType 86 = .ok (.getfield 48, 3) := by decide +kernel
theorem dd_M_addType_89 : decode bc_M_addType 89 = .ok (.iload_n 3, 1) := by decide +kernel
theorem dd_M_addType_90 : decode bc_M_addType 90 = .ok (.iconst 1, 1) := by decide +kernel
theorem dd_M_addType_91 : decode bc_M_addType 91 = .ok (.isub, 1) := by decide +kernel
theorem dd_M_addType_92 : decode bc_M_addType 92 = .ok (.iaload, 1) := by decide +kernel
theorem dd_M_addType_93 : decode bc_M_addType 93 = .ok (.iastore, 1) := by decide +kernel
theorem dd_M_addType_94 : decode bc_M_addType 94 = .ok (.iinc 3 (-1), 3) := by decide +kernel
theorem dd_M_addType_97 : decode bc_M_addType 97 = .ok (.goto (-36), 3) := by decide +kernel
theorem dd_M_addType_100 : decode bc_M_addType 100 = .ok (.aload_n 0, 1) := by decide +kernel
theorem dd_M_addType_101 : decode bc_M_addType 101 = .ok (.getfield 45, 3) := by decide +kernel
theorem dd_M_addType_104 : decode bc_M_addType 104 = .ok (.iload_n 2, 1) := by decide +kernel
theorem dd_M_addType_105 : decode bc_M_addType 105 = .ok (.iload_n 1, 1) := by decide +kernel
theorem dd_M_addType_106 : decode bc_M_addType 106 = .ok (.iastore, 1) := by decide +kernel
theorem dd_M_addType_107 : decode bc_M_addType 107 = .ok (.aload_n 0, 1) := by decide +kernel
theorem dd_M_addType_108 : decode bc_M_addType 108 = .ok (.getfield 48, 3) := by decide +kernel
theorem dd_M_addType_111 : decode bc_M_addType 111 = .ok (.iload_n 2, 1) := by decide +kernel
theorem dd_M_addType_112 : decode bc_M_addType 112 = .ok (.iconst 1, 1) := by decide +kernel
theorem dd_M_addType_113 : decode bc_M_addType 113 = .ok (.iastore, 1) := by decide +kernel
theorem dd_M_addType_114 : decode bc_M_addType 114 = .ok (.aload_n 0, 1) := by decide +kernel
theorem dd_M_addType_115 : decode bc_M_addType 115 = .ok (.dup, 1) := by decide +kernel
theorem dd_M_addType_116 : decode bc_M_addType 116 = .ok (.getfield 148, 3) := by decide +kernel
theorem dd_M_addType_119 : decode bc_M_addType 119 = .ok (.iconst 1, 1) := by decide +kernel
theorem dd_M_addType_120 : decode bc_M_addType 120 = .ok (.iadd, 1) := by decide +kernel
theorem dd_M_addType_121 : decode bc_M_addType 121 = .ok (.putfield 148, 3) := by decide +kernel
theorem dd_M_addType_124 : decode bc_M_addType 124 = .ok (.return_, 1) := by decide +kernel
theorem dd_M_layTurn_0 : decode bc_M_layTurn 0 = .ok (.iconst 0, 1) := by decide +kernel
theorem dd_M_layTurn_1 : decode bc_M_layTurn 1 = .ok (.istore_n 2, 1) := by decide +kernel
theorem dd_M_layTurn_2 : decode bc_M_layTurn 2 = .ok (.iload_n 2, 1) := by decide +kernel
theorem dd_M_layTurn_3 : decode bc_M_layTurn 3 = .ok (.aload_n 0, 1) := by decide +kernel
theorem dd_M_layTurn_4 : decode bc_M_layTurn 4 = .ok (.invokevirtual 72, 3) := by decide +kernel
theorem dd_M_layTurn_7 : decode bc_M_layTurn 7 = .ok (.if_icmp .ge 26, 3) := by decide +kernel
theorem dd_M_layTurn_10 : decode bc_M_layTurn 10 = .ok (.aload_n 0, 1) := by decide +kernel
theorem dd_M_layTurn_11 : decode bc_M_layTurn 11 = .ok (.getfield 23, 3) := by decide +kernel
theorem dd_M_layTurn_14 : decode bc_M_layTurn 14 = .ok (.iload_n 2, 1) := by decide +kernel
theorem dd_M_layTurn_15 : decode bc_M_layTurn 15 = .ok (.aload_n 0, 1) := by decide +kernel
theorem dd_M_layTurn_16 : decode bc_M_layTurn 16 = .ok (.getfield 36, 3) := by decide +kernel
theorem dd_M_layTurn_19 : decode bc_M_layTurn 19 = .ok (.bipush 7, 2) := by decide +kernel
theorem dd_M_layTurn_21 : decode bc_M_layTurn 21 = .ok (.iload_n 1, 1) := by decide +kernel
theorem dd_M_layTurn_22 : decode bc_M_layTurn 22 = .ok (.imul, 1) := by decide +kernel
theorem dd_M_layTurn_23 : decode bc_M_layTurn 23 = .ok (.iload_n 2, 1) := by decide +kernel
theorem dd_M_layTurn_24 : decode bc_M_layTurn 24 = .ok (.iadd, 1) := by decide +kernel
theorem dd_M_layTurn_25 : decode bc_M_layTurn 25 = .ok (.iaload, 1) := by decide +kernel
theorem dd_M_layTurn_26 : decode bc_M_layTurn 26 = .ok (.iastore, 1) := by decide +kernel
theorem dd_M_layTurn_27 : decode bc_M_layTurn 27 = .ok (.iinc 2 1, 3) := by decide +kernel
theorem dd_M_layTurn_30 : decode bc_M_layTurn 30 = .ok (.goto (-28), 3) := by decide +kernel
theorem dd_M_layTurn_33 : decode bc_M_layTurn 33 = .ok (.return_, 1) := by decide +kernel
theorem dd_M_layTypes_0 : decode bc_M_layTypes 0 = .ok (.aload_n 0, 1) := by decide +kernel
theorem dd_M_layTypes_1 : decode bc_M_layTypes 1 = .ok (.iconst 0, 1) := by decide +kernel
theorem dd_M_layTypes_2 : decode bc_M_layTypes 2 = .ok (.putfield 148, 3) := by decide +kernel
theorem dd_M_layTypes_5 : decode bc_M_layTypes 5 = .ok (.iconst 0, 1) := by decide +kernel
theorem dd_M_layTypes_6 : decode bc_M_layTypes 6 = .ok (.istore_n 1, 1) := by decide +kernel
theorem dd_M_layTypes_7 : decode bc_M_layTypes 7 = .ok (.iload_n 1, 1) := by decide +kernel
theorem dd_M_layTypes_8 : decode bc_M_layTypes 8 = .ok (.aload_n 0, 1) := by decide +kernel
theorem dd_M_layTypes_9 : decode bc_M_layTypes 9 = .ok (.getfield 99, 3) := by decide +kernel
theorem dd_M_layTypes_12 : decode bc_M_layTypes 12 = .ok (.if_icmp .ge 22, 3) := by decide +kernel
theorem dd_M_layTypes_15 : decode bc_M_layTypes 15 = .ok (.aload_n 0, 1) := by decide +kernel
theorem dd_M_layTypes_16 : decode bc_M_layTypes 16 = .ok (.iload_n 1, 1) := by decide +kernel
theorem dd_M_layTypes_17 : decode bc_M_layTypes 17 = .ok (.invokevirtual 151, 3) := by decide +kernel
theorem dd_M_layTypes_20 : decode bc_M_layTypes 20 = .ok (.aload_n 0, 1) := by decide +kernel
theorem dd_M_layTypes_21 : decode bc_M_layTypes 21 = .ok (.aload_n 0, 1) := by decide +kernel
theorem dd_M_layTypes_22 : decode bc_M_layTypes 22 = .ok (.invokevirtual 141, 3) := by decide +kernel
theorem dd_M_layTypes_25 : decode bc_M_layTypes 25 = .ok (.invokevirtual 154, 3) := by decide +kernel
theorem dd_M_layTypes_28 : decode bc_M_layTypes 28 = .ok (.iinc 1 1, 3) := by decide +kernel
theorem dd_M_layTypes_31 : decode bc_M_layTypes 31 = .ok (.goto (-24), 3) := by decide +kernel
theorem dd_M_layTypes_34 : decode bc_M_layTypes 34 = .ok (.return_, 1) := by decide +kernel
theorem dd_M_type_0 : decode bc_M_type 0 = .ok (.iload_n 1, 1) := by decide +kernel
theorem dd_M_type_1 : decode bc_M_type 1 = .ok (.iconst (-1), 1) := by decide +kernel
theorem dd_M_type_2 : decode bc_M_type 2 = .ok (.if_icmp .lt 12, 3) := by decide +kernel
theorem dd_M_type_5 : decode bc_M_type 5 = .ok (.iload_n 2, 1) := by decide +kernel
theorem dd_M_type_6 : decode bc_M_type 6 = .ok (.iconst 0, 1) := by decide +kernel
theorem dd_M_type_7 : decode bc_M_type 7 = .ok (.iconst 1, 1) := by decide +kernel
theorem dd_M_type_8 : decode bc_M_type 8 = .ok (.invokestatic 102, 3) := by decide +kernel
theorem dd_M_type_11 : decode bc_M_type 11 = .ok (.ifCond .ne 6, 3) := by decide +kernel
theorem dd_M_type_14 : decode bc_M_type 14 = .ok (.bipush (-2), 2) := by decide +kernel
theorem dd_M_type_16 : decode bc_M_type 16 = .ok (.ireturn, 1) := by decide +kernel
theorem dd_M_type_17 : decode bc_M_type 17 = .ok (.aload_n 0, 1) := by decide +kernel
theorem dd_M_type_18 : decode bc_M_type 18 = .ok (.invokevirtual 157, 3) := by decide +kernel
theorem dd_M_type_21 : decode bc_M_type 21 = .ok (.iload_n 1, 1) := by decide +kernel
theorem dd_M_type_22 : decode bc_M_type 22 = .ok (.iconst (-1), 1) := by decide +kernel
theorem dd_M_type_23 : decode bc_M_type 23 = .ok (.if_icmp .ne 8, 3) := by decide +kernel
theorem dd_M_type_26 : decode bc_M_type 26 = .ok (.aload_n 0, 1) := by decide +kernel
theorem dd_M_type_27 : decode bc_M_type 27 = .ok (.getfield 148, 3) := by decide +kernel
theorem dd_M_type_30 : decode bc_M_type 30 = .ok (.ireturn, 1) := by decide +kernel
theorem dd_M_type_31 : decode bc_M_type 31 = .ok (.iload_n 1, 1) := by decide +kernel
theorem dd_M_type_32 : decode bc_M_type 32 = .ok (.aload_n 0, 1) := by decide +kernel
theorem dd_M_type_33 : decode bc_M_type 33 = .ok (.getfield 148, 3) := by decide +kernel
theorem dd_M_type_36 : decode bc_M_type 36 = .ok (.if_icmp .lt 8, 3) := by decide +kernel
theorem dd_M_type_39 : decode bc_M_type 39 = .ok (.bipush (-6), 2) := by decide +kernel
theorem dd_M_type_41 : decode bc_M_type 41 = .ok (.goto 22, 3) := by decide +kernel
theorem dd_M_type_44 : decode bc_M_type 44 = .ok (.iload_n 2, 1) := by decide +kernel
theorem dd_M_type_45 : decode bc_M_type 45 = .ok (.ifCond .ne 12, 3) := by decide +kernel
theorem dd_M_type_48 : decode bc_M_type 48 = .ok (.aload_n 0, 1) := by decide +kernel
theorem dd_M_type_49 : decode bc_M_type 49 = .ok (.getfield 45, 3) := by decide +kernel
theorem dd_M_type_52 : decode bc_M_type 52 = .ok (.iload_n 1, 1) := by decide +kernel
theorem dd_M_type_53 : decode bc_M_type 53 = .ok (.iaload, 1) := by decide +kernel
theorem dd_M_type_54 : decode bc_M_type 54 = .ok (.goto 9, 3) := by decide +kernel
theorem dd_M_type_57 : decode bc_M_type 57 = .ok (.aload_n 0, 1) := by decide +kernel
theorem dd_M_type_58 : decode bc_M_type 58 = .ok (.getfield 48, 3) := by decide +kernel
theorem dd_M_type_61 : decode bc_M_type 61 = .ok (.iload_n 1, 1) := by decide +kernel
theorem dd_M_type_62 : decode bc_M_type 62 = .ok (.iaload, 1) := by decide +kernel
theorem dd_M_type_63 : decode bc_M_type 63 = .ok (.ireturn, 1) := by decide +kernel
theorem dd_M_isPoint_0 : decode bc_M_isPoint 0 = .ok (.iload_n 1, 1) := by decide +kernel
theorem dd_M_isPoint_1 : decode bc_M_isPoint 1 = .ok (.iconst 0, 1) := by decide +kernel
theorem dd_M_isPoint_2 : decode bc_M_isPoint 2 = .ok (.aload_n 0, 1) := by decide +kernel
theorem dd_M_isPoint_3 : decode bc_M_isPoint 3 = .ok (.invokevirtual 72, 3) := by decide +kernel
theorem dd_M_isPoint_6 : decode bc_M_isPoint 6 = .ok (.iconst 1, 1) := by decide +kernel
theorem dd_M_isPoint_7 : decode bc_M_isPoint 7 = .ok (.isub, 1) := by decide +kernel
theorem dd_M_isPoint_8 : decode bc_M_isPoint 8 = .ok (.invokestatic 102, 3) := by decide +kernel
theorem dd_M_isPoint_11 : decode bc_M_isPoint 11 = .ok (.ireturn, 1) := by decide +kernel
theorem dd_M_orbit_0 : decode bc_M_orbit 0 = .ok (.aload_n 0, 1) := by decide +kernel
theorem dd_M_orbit_1 : decode bc_M_orbit 1 = .ok (.iload_n 1, 1) := by decide +kernel
theorem dd_M_orbit_2 : decode bc_M_orbit 2 = .ok (.invokevirtual 160, 3) := by decide +kernel
theorem dd_M_orbit_5 : decode bc_M_orbit 5 = .ok (.ifCond .ne 5, 3) := by decide +kernel
theorem dd_M_orbit_8 : decode bc_M_orbit 8 = .ok (.iconst (-1), 1) := by decide +kernel
theorem dd_M_orbit_9 : decode bc_M_orbit 9 = .ok (.ireturn, 1) := by decide +kernel
theorem dd_M_orbit_10 : decode bc_M_orbit 10 = .ok (.iload_n 2, 1) := by decide +kernel
theorem dd_M_orbit_11 : decode bc_M_orbit 11 = .ok (.iconst 0, 1) := by decide +kernel
theorem dd_M_orbit_12 : decode bc_M_orbit 12 = .ok (.iconst 1, 1) := by decide +kernel
theorem dd_M_orbit_13 : decode bc_M_orbit 13 = .ok (.invokestatic 102, 3) := by decide +kernel
theorem dd_M_orbit_16 : decode bc_M_orbit 16 = .ok (.ifCond .ne 6, 3) := by decide +kernel
theorem dd_M_orbit_19 : decode bc_M_orbit 19 = .ok (.bipush (-2), 2) := by decide +kernel
theorem dd_M_orbit_21 : decode bc_M_orbit 21 = .ok (.ireturn, 1) := by decide +kernel
theorem dd_M_orbit_22 : decode bc_M_orbit 22 = .ok (.iconst 0, 1) := by decide +kernel
theorem dd_M_orbit_23 : decode bc_M_orbit 23 = .ok (.istore_n 3, 1) := by decide +kernel
theorem dd_M_orbit_24 : decode bc_M_orbit 24 = .ok (.iconst 0, 1) := by decide +kernel
theorem dd_M_orbit_25 : decode bc_M_orbit 25 = .ok (.istore 4, 2) := by decide +kernel
theorem dd_M_orbit_27 : decode bc_M_orbit 27 = .ok (.iconst 0, 1) := by decide +kernel
theorem dd_M_orbit_28 : decode bc_M_orbit 28 = .ok (.istore 5, 2) := by decide +kernel
theorem dd_M_orbit_30 : decode bc_M_orbit 30 = .ok (.iload 5, 2) := by decide +kernel
theorem dd_M_orbit_32 : decode bc_M_orbit 32 = .ok (.aload_n 0, 1) := by decide +kernel
theorem dd_M_orbit_33 : decode bc_M_orbit 33 = .ok (.getfield 99, 3) := by decide +kernel
theorem dd_M_orbit_36 : decode bc_M_orbit 36 = .ok (.if_icmp .ge 46, 3) := by decide +kernel
theorem dd_M_orbit_39 : decode bc_M_orbit 39 = .ok (.aload_n 0, 1) := by decide +kernel
theorem dd_M_orbit_40 : decode bc_M_orbit 40 = .ok (.getfield 36, 3) := by decide +kernel
theorem dd_M_orbit_43 : decode bc_M_orbit 43 = .ok (.bipush 7, 2) := by decide +kernel
theorem dd_M_orbit_45 : decode bc_M_orbit 45 = .ok (.iload 5, 2) := by decide +kernel
theorem dd_M_orbit_47 : decode bc_M_orbit 47 = .ok (.imul, 1) := by decide +kernel
theorem dd_M_orbit_48 : decode bc_M_orbit 48 = .ok (.iload_n 1, 1) := by decide +kernel
theorem dd_M_orbit_49 : decode bc_M_orbit 49 = .ok (.iadd, 1) := by decide +kernel
theorem dd_M_orbit_50 : decode bc_M_orbit 50 = .ok (.iaload, 1) := by decide +kernel
theorem dd_M_orbit_51 : decode bc_M_orbit 51 = .ok (.istore 6, 2) := by decide +kernel
theorem dd_M_orbit_53 : decode bc_M_orbit 53 = .ok (.iload_n 3, 1) := by decide +kernel
theorem dd_M_orbit_54 : decode bc_M_orbit 54 = .ok (.iconst 1, 1) := by decide +kernel
theorem dd_M_orbit_55 : decode bc_M_orbit 55 = .ok (.iload 6, 2) := by decide +kernel
theorem dd_M_orbit_57 : decode bc_M_orbit 57 = .ok (.ishl, 1) := by decide +kernel
theorem dd_M_orbit_58 : decode bc_M_orbit 58 = .ok (.ior, 1) := by decide +kernel
theorem dd_M_orbit_59 : decode bc_M_orbit 59 = .ok (.istore_n 3, 1) := by decide +kernel
theorem dd_M_orbit_60 : decode bc_M_orbit 60 = .ok (.iload 4, 2) := by decide +kernel
theorem dd_M_orbit_62 : decode bc_M_orbit 62 = .ok (.iload 6, 2) := by decide +kernel
theorem dd_M_orbit_64 : decode bc_M_orbit 64 = .ok (.iload_n 1, 1) := by decide +kernel
theorem dd_M_orbit_65 : decode bc_M_orbit 65 = .ok (.if_icmp .ne 7, 3) := by decide +kernel
theorem dd_M_orbit_68 : decode bc_M_orbit 68 = .ok (.iconst 1, 1) := by decide +kernel
theorem dd_M_orbit_69 : decode bc_M_orbit 69 = .ok (.goto 4, 3) := by decide +kernel
theorem dd_M_orbit_72 : decode bc_M_orbit 72 = .ok (.iconst 0, 1) := by decide +kernel
theorem dd_M_orbit_73 : decode bc_M_orbit 73 = .ok (.iadd, 1) := by decide +kernel
theorem dd_M_orbit_74 : decode bc_M_orbit 74 = .ok (.istore 4, 2) := by decide +kernel
theorem dd_M_orbit_76 : decode bc_M_orbit 76 = .ok (.iinc 5 1, 3) := by decide +kernel
theorem dd_M_orbit_79 : decode bc_M_orbit 79 = .ok (.goto (-49), 3) := by decide +kernel
theorem dd_M_orbit_82 : decode bc_M_orbit 82 = .ok (.iconst 0, 1) := by decide +kernel
theorem dd_M_orbit_83 : decode bc_M_orbit 83 = .ok (.istore 5, 2) := by decide +kernel
theorem dd_M_orbit_85 : decode bc_M_orbit 85 = .ok (.iconst 0, 1) := by decide +kernel
theorem dd_M_orbit_86 : decode bc_M_orbit 86 = .ok (.istore 6, 2) := by decide +kernel
theorem dd_M_orbit_88 : decode bc_M_orbit 88 = .ok (.iload 6, 2) := by decide +kernel
theorem dd_M_orbit_90 : decode bc_M_orbit 90 = .ok (.bipush 7, 2) := by decide +kernel
theorem dd_M_orbit_92 : decode bc_M_orbit 92 = .ok (.if_icmp .ge 20, 3) := by decide +kernel
theorem dd_M_orbit_95 : decode bc_M_orbit 95 = .ok (.iload 5, 2) := by decide +kernel
theorem dd_M_orbit_97 : decode bc_M_orbit 97 = .ok (.iload_n 3, 1) := by decide +kernel
theorem dd_M_orbit_98 : decode bc_M_orbit 98 = .ok (.iload 6, 2) := by decide +kernel
theorem dd_M_orbit_100 : decode bc_M_orbit 100 = .ok (.ishr, 1) := by decide +kernel
theorem dd_M_orbit_101 : decode bc_M_orbit 101 = .ok (.iconst 1, 1) := by decide +kernel
theorem dd_M_orbit_102 : decode bc_M_orbit 102 = .ok (.iand, 1) := by decide +kernel
theorem dd_M_orbit_103 : decode bc_M_orbit 103 = .ok (.iadd, 1) := by decide +kernel
theorem dd_M_orbit_104 : decode bc_M_orbit 104 = .ok (.istore 5, 2) := by decide +kernel
theorem dd_M_orbit_106 : decode bc_M_orbit 106 = .ok (.iinc 6 1, 3) := by decide +kernel
theorem dd_M_orbit_109 : decode bc_M_orbit 109 = .ok (.goto (-21), 3) := by decide +kernel
theorem dd_M_orbit_112 : decode bc_M_orbit 112 = .ok (.iload_n 2, 1) := by decide +kernel
theorem dd_M_orbit_113 : decode bc_M_orbit 113 = .ok (.ifCond .ne 8, 3) := by decide +kernel
theorem dd_M_orbit_116 : decode bc_M_orbit 116 = .ok (.iload 5, 2) := by decide +kernel
theorem dd_M_orbit_118 : decode bc_M_orbit 118 = .ok (.goto 5, 3) := by decide +kernel
theorem dd_M_orbit_121 : decode bc_M_orbit 121 = .ok (.iload 4, 2) := by decide +kernel
theorem dd_M_orbit_123 : decode bc_M_orbit 123 = .ok (.ireturn, 1) := by decide +kernel
theorem dd_M_layColours_0 : decode bc_M_layColours 0 = .ok (.iload_n 1, 1) := by decide +kernel
theorem dd_M_layColours_1 : decode bc_M_layColours 1 = .ok (.istore_n 2, 1) := by decide +kernel
theorem dd_M_layColours_2 : decode bc_M_layColours 2 = .ok (.aload_n 0, 1) := by decide +kernel
theorem dd_M_layColours_3 : decode bc_M_layColours 3 = .ok (.invokevirtual 72, 3) := by decide +kernel
theorem dd_M_layColours_6 : decode bc_M_layColours 6 = .ok (.iconst 1, 1) := by decide +kernel
theorem dd_M_layColours_7 : decode bc_M_layColours 7 = .ok (.isub, 1) := by decide +kernel
theorem dd_M_layColours_8 : decode bc_M_layColours 8 = .ok (.istore_n 3, 1) := by decide +kernel
theorem dd_M_layColours_9 : decode bc_M_layColours 9 = .ok (.iload_n 3, 1) := by decide +kernel
theorem dd_M_layColours_10 : decode bc_M_layColours 10 = .ok (.ifCond .lt 32, 3) := by decide +kernel
theorem dd_M_layColours_13 : decode bc_M_layColours 13 = .ok (.aload_n 0, 1) := by decide +kernel
theorem dd_M_layColours_14 : decode bc_M_layColours 14 = .ok (.getfield 51, 3) := by decide +kernel
theorem dd_M_layColours_17 : decode bc_M_layColours 17 = .ok (.iload_n 3, 1) := by decide +kernel
theorem dd_M_layColours_18 : decode bc_M_layColours 18 = .ok (.iload_n 2, 1) := by decide +kernel
theorem dd_M_layColours_19 : decode bc_M_layColours 19 = .ok (.aload_n 0, 1) := by decide +kernel
theorem dd_M_layColours_20 : decode bc_M_layColours 20 = .ok (.getfield 7, 3) := by decide +kernel
theorem dd_M_layColours_23 : decode bc_M_layColours 23 = .ok (.iconst 1, 1) := by decide +kernel
theorem dd_M_layColours_24 : decode bc_M_layColours 24 = .ok (.iaload, 1) := by decide +kernel
theorem dd_M_layColours_25 : decode bc_M_layColours 25 = .ok (.irem, 1) := by decide +kernel
theorem dd_M_layColours_26 : decode bc_M_layColours 26 = .ok (.iastore, 1) := by decide +kernel
theorem dd_M_layColours_27 : decode bc_M_layColours 27 = .ok (.iload_n 2, 1) := by decide +kernel
theorem dd_M_layColours_28 : decode bc_M_layColours 28 = .ok (.aload_n 0, 1) := by decide +kernel
theorem dd_M_layColours_29 : decode bc_M_layColours 29 = .ok (.getfield 7, 3) := by decide +kernel
theorem dd_M_layColours_32 : decode bc_M_layColours 32 = .ok (.iconst 1, 1) := by decide +kernel
theorem dd_M_layColours_33 : decode bc_M_layColours 33 = .ok (.iaload, 1) := by decide +kernel
theorem dd_M_layColours_34 : decode bc_M_layColours 34 = .ok (.idiv, 1) := by decide +kernel
theorem dd_M_layColours_35 : decode bc_M_layColours 35 = .ok (.istore_n 2, 1) := by decide +kernel
theorem dd_M_layColours_36 : decode bc_M_layColours 36 = .ok (.iinc 3 (-1), 3) := by decide +kernel
theorem dd_M_layColours_39 : decode bc_M_layColours 39 = .ok (.goto (-30), 3) := by decide +kernel
theorem dd_M_layColours_42 : decode bc_M_layColours 42 = .ok (.return_, 1) := by decide +kernel
theorem dd_M_layWorths_0 : decode bc_M_layWorths 0 = .ok (.iconst 1, 1) := by decide +kernel
theorem dd_M_layWorths_1 : decode bc_M_layWorths 1 = .ok (.istore_n 1, 1) := by decide +kernel
theorem dd_M_layWorths_2 : decode bc_M_layWorths 2 = .ok (.aload_n 0, 1) := by decide +kernel
theorem dd_M_layWorths_3 : decode bc_M_layWorths 3 = .ok (.invokevirtual 72, 3) := by decide +kernel
theorem dd_M_layWorths_6 : decode bc_M_layWorths 6 = .ok (.iconst 1, 1) := by decide +kernel
theorem dd_M_layWorths_7 : decode bc_M_layWorths 7 = .ok (.isub, 1) := by decide +kernel
theorem dd_M_layWorths_8 : decode bc_M_layWorths 8 = .ok (.istore_n 2, 1) := by decide +kernel
theorem dd_M_layWorths_9 : decode bc_M_layWorths 9 = .ok (.iload_n 2, 1) := by decide +kernel
theorem dd_M_layWorths_10 : decode bc_M_layWorths 10 = .ok (.ifCond .lt 25, 3) := by decide +kernel
theorem dd_M_layWorths_13 : decode bc_M_layWorths 13 = .ok (.aload_n 0, 1) := by decide +kernel
theorem dd_M_layWorths_14 : decode bc_M_layWorths 14 = .ok (.getfield 63, 3) := by decide +kernel
theorem dd_M_layWorths_17 : decode bc_M_layWorths 17 = .ok (.iload_n 2, 1) := by decide +kernel
theorem dd_M_layWorths_18 : decode bc_M_layWorths 18 = .ok (.iload_n 1, 1) := by decide +kernel
theorem dd_M_layWorths_19 : decode bc_M_layWorths 19 = .ok (.iastore, 1) := by decide +kernel
theorem dd_M_layWorths_20 : decode bc_M_layWorths 20 = .ok (.iload_n 1, 1) := by decide +kernel
theorem dd_M_layWorths_21 : decode bc_M_layWorths 21 = .ok (.aload_n 0, 1) := by decide +kernel
theorem dd_M_layWorths_22 : decode bc_M_layWorths 22 = .ok (.getfield 7, 3) := by decide +kernel
theorem dd_M_layWorths_25 : decode bc_M_layWorths 25 = .ok (.iconst 1, 1) := by decide +kernel
theorem dd_M_layWorths_26 : decode bc_M_layWorths 26 = .ok (.iaload, 1) := by decide +kernel
theorem dd_M_layWorths_27 : decode bc_M_layWorths 27 = .ok (.imul, 1) := by decide +kernel
theorem dd_M_layWorths_28 : decode bc_M_layWorths 28 = .ok (.istore_n 1, 1) := by decide +kernel
theorem dd_M_layWorths_29 : decode bc_M_layWorths 29 = .ok (.iinc 2 (-1), 3) := by decide +kernel
theorem dd_M_layWorths_32 : decode bc_M_layWorths 32 = .ok (.goto (-23), 3) := by decide +kernel
theorem dd_M_layWorths_35 : decode bc_M_layWorths 35 = .ok (.aload_n 0, 1) := by decide +kernel
theorem dd_M_layWorths_36 : decode bc_M_layWorths 36 = .ok (.iload_n 1, 1) := by decide +kernel
theorem dd_M_layWorths_37 : decode bc_M_layWorths 37 = .ok (.putfield 163, 3) := by decide +kernel
theorem dd_M_layWorths_40 : decode bc_M_layWorths 40 = .ok (.return_, 1) := by decide +kernel
theorem dd_M_turned_0 : decode bc_M_turned 0 = .ok (.iconst 0, 1) := by decide +kernel
theorem dd_M_turned_1 : decode bc_M_turned 1 = .ok (.istore_n 2, 1) := by decide +kernel
theorem dd_M_turned_2 : decode bc_M_turned 2 = .ok (.iconst 0, 1) := by decide +kernel
theorem dd_M_turned_3 : decode bc_M_turned 3 = .ok (.istore_n 3, 1) := by decide +kernel
theorem dd_M_turned_4 : decode bc_M_turned 4 = .ok (.iload_n 3, 1) := by decide +kernel
theorem dd_M_turned_5 : decode bc_M_turned 5 = .ok (.aload_n 0, 1) := by decide +kernel
theorem dd_M_turned_6 : decode bc_M_turned 6 = .ok (.invokevirtual 72, 3) := by decide +kernel
theorem dd_M_turned_9 : decode bc_M_turned 9 = .ok (.if_icmp .ge 35, 3) := by decide +kernel
theorem dd_M_turned_12 : decode bc_M_turned 12 = .ok (.iload_n 2, 1) := by decide +kernel
theorem dd_M_turned_13 : decode bc_M_turned 13 = .ok (.aload_n 0, 1) := by decide +kernel
theorem dd_M_turned_14 : decode bc_M_turned 14 = .ok (.getfield 51, 3) := by decide +kernel
theorem dd_M_turned_17 : decode bc_M_turned 17 = .ok (.iload_n 3, 1) := by decide +kernel
theorem dd_M_turned_18 : decode bc_M_turned 18 = .ok (.iaload, 1) := by decide +kernel
theorem dd_M_turned_19 : decode bc_M_turned 19 = .ok (.aload_n 0, 1) := by decide +kernel
theorem dd_M_turned_20 : decode bc_M_turned 20 = .ok (.getfield 63, 3) := by decide +kernel
theorem dd_M_turned_23 : decode bc_M_turned 23 = .ok (.aload_n 0, 1) := by decide +kernel
theorem dd_M_turned_24 : decode bc_M_turned 24 = .ok (.getfield 36, 3) := by decide +kernel
theorem dd_M_turned_27 : decode bc_M_turned 27 = .ok (.bipush 7, 2) := by decide +kernel
theorem dd_M_turned_29 : decode bc_M_turned 29 = .ok (.iload_n 1, 1) := by decide +kernel
theorem dd_M_turned_30 : decode bc_M_turned 30 = .ok (.imul, 1) := by decide +kernel
theorem dd_M_turned_31 : decode bc_M_turned 31 = .ok (.iload_n 3, 1) := by decide +kernel
theorem dd_M_turned_32 : decode bc_M_turned 32 = .ok (.iadd, 1) := by decide +kernel
theorem dd_M_turned_33 : decode bc_M_turned 33 = .ok (.iaload, 1) := by decide +kernel
theorem dd_M_turned_34 : decode bc_M_turned 34 = .ok (.iaload, 1) := by decide +kernel
theorem dd_M_turned_35 : decode bc_M_turned 35 = .ok (.imul, 1) := by decide +kernel
theorem dd_M_turned_36 : decode bc_M_turned 36 = .ok (.iadd, 1) := by decide +kernel
theorem dd_M_turned_37 : decode bc_M_turned 37 = .ok (.istore_n 2, 1) := by decide +kernel
theorem dd_M_turned_38 : decode bc_M_turned 38 = .ok (.iinc 3 1, 3) := by decide +kernel
theorem dd_M_turned_41 : decode bc_M_turned 41 = .ok (.goto (-37), 3) := by decide +kernel
theorem dd_M_turned_44 : decode bc_M_turned 44 = .ok (.iload_n 2, 1) := by decide +kernel
theorem dd_M_turned_45 : decode bc_M_turned 45 = .ok (.ireturn, 1) := by decide +kernel
theorem dd_M_layPatterns_0 : decode bc_M_layPatterns 0 = .ok (.aload_n 0, 1) := by decide +kernel
theorem dd_M_layPatterns_1 : decode bc_M_layPatterns 1 = .ok (.invokevirtual 166, 3) := by decide +kernel
theorem dd_M_layPatterns_4 : decode bc_M_layPatterns 4 = .ok (.aload_n 0, 1) := by decide +kernel
theorem dd_M_layPatterns_5 : decode bc_M_layPatterns 5 = .ok (.iconst 0, 1) := by decide +kernel
theorem dd_M_layPatterns_6 : decode bc_M_layPatterns 6 = .ok (.putfield 169, 3) := by decide +kernel
theorem dd_M_layPatterns_9 : decode bc_M_layPatterns 9 = .ok (.iconst 0, 1) := by decide +kernel
theorem dd_M_layPatterns_10 : decode bc_M_layPatterns 10 = .ok (.istore_n 1, 1) := by decide +kernel
theorem dd_M_layPatterns_11 : decode bc_M_layPatterns 11 = .ok (.iload_n 1, 1) := by decide +kernel
theorem dd_M_layPatterns_12 : decode bc_M_layPatterns 12 = .ok (.aload_n 0, 1) := by decide +kernel
theorem dd_M_layPatterns_13 : decode bc_M_layPatterns 13 = .ok (.getfield 163, 3) := by decide +kernel
theorem dd_M_layPatterns_16 : decode bc_M_layPatterns 16 = .ok (.if_icmp .ge 17, 3) := by decide +kernel
theorem dd_M_layPatterns_19 : decode bc_M_layPatterns 19 = .ok (.aload_n 0, 1) := by decide +kernel
theorem dd_M_layPatterns_20 : decode bc_M_layPatterns 20 = .ok (.getfield 54, 3) := by decide +kernel
theorem dd_M_layPatterns_23 : decode bc_M_layPatterns 23 = .ok (.iload_n 1, 1) := by decide +kernel
theorem dd_M_layPatterns_24 : decode bc_M_layPatterns 24 = .ok (.bipush (-6), 2) := by decide +kernel
theorem dd_M_layPatterns_26 : decode bc_M_layPatterns 26 = .ok (.iastore, 1) := by decide +kernel
theorem dd_M_layPatterns_27 : decode bc_M_layPatterns 27 = .ok (.iinc 1 1, 3) := by decide +kernel
theorem dd_M_layPatterns_30 : decode bc_M_layPatterns 30 = .ok (.goto (-19), 3) := by decide +kernel
theorem dd_M_layPatterns_33 : decode bc_M_layPatterns 33 = .ok (.iconst 0, 1) := by decide +kernel
theorem dd_M_layPatterns_34 : decode bc_M_layPatterns 34 = .ok (.istore_n 1, 1) := by decide +kernel
theorem dd_M_layPatterns_35 : decode bc_M_layPatterns 35 = .ok (.iload_n 1, 1) := by decide +kernel
theorem dd_M_layPatterns_36 : decode bc_M_layPatterns 36 = .ok (.aload_n 0, 1) := by decide +kernel
theorem dd_M_layPatterns_37 : decode bc_M_layPatterns 37 = .ok (.getfield 163, 3) := by decide +kernel
theorem dd_M_layPatterns_40 : decode bc_M_layPatterns 40 = .ok (.if_icmp .ge 53, 3) := by decide +kernel
theorem dd_M_layPatterns_43 : decode bc_M_layPatterns 43 = .ok (.aload_n 0, 1) := by decide +kernel
theorem dd_M_layPatterns_44 : decode bc_M_layPatterns 44 = .ok (.getfield 54, 3) := by decide +kernel
theorem dd_M_layPatterns_47 : decode bc_M_layPatterns 47 = .ok (.iload_n 1, 1) := by decide +kernel
theorem dd_M_layPatterns_48 : decode bc_M_layPatterns 48 = .ok (.iaload, 1) := by decide +kernel
theorem dd_M_layPatterns_49 : decode bc_M_layPatterns 49 = .ok (.ifCond .ge 38, 3) := by decide +kernel
theorem dd_M_layPatterns_52 : decode bc_M_layPatterns 52 = .ok (.aload_n 0, 1) := by decide +kernel
theorem dd_M_layPatterns_53 : decode bc_M_layPatterns 53 = .ok (.getfield 57, 3) := by decide +kernel
theorem dd_M_layPatterns_56 : decode bc_M_layPatterns 56 = .ok (.aload_n 0, 1) := by decide +kernel
theorem dd_M_layPatterns_57 : decode bc_M_layPatterns 57 = .ok (.getfield 169, 3) := by decide +kernel
theorem dd_M_layPatterns_60 : decode bc_M_layPatterns 60 = .ok (.iload_n 1, 1) := by decide +kernel
theorem dd_M_layPatterns_61 : decode bc_M_layPatterns 61 = .ok (.iastore, 1) := by decide +kernel
theorem dd_M_layPatterns_62 : decode bc_M_layPatterns 62 = .ok (.aload_n 0, 1) := by decide +kernel
theorem dd_M_layPatterns_63 : decode bc_M_layPatterns 63 = .ok (.getfield 60, 3) := by decide +kernel
theorem dd_M_layPatterns_66 : decode bc_M_layPatterns 66 = .ok (.aload_n 0, 1) := by decide +kernel
theorem dd_M_layPatterns_67 : decode bc_M_layPatterns 67 = .ok (.getfield 169, 3) := by decide +kernel
theorem dd_M_layPatterns_70 : decode bc_M_layPatterns 70 = .ok (.iconst 0, 1) := by decide +kernel
theorem dd_M_layPatterns_71 : decode bc_M_layPatterns 71 = .ok (.iastore, 1) := by decide +kernel
theorem dd_M_layPatterns_72 : decode bc_M_layPatterns 72 = .ok (.aload_n 0, 1) := by decide +kernel
theorem dd_M_layPatterns_73 : decode bc_M_layPatterns 73 = .ok (.iload_n 1, 1) := by decide +kernel
theorem dd_M_layPatterns_74 : decode bc_M_layPatterns 74 = .ok (.invokevirtual 172, 3) := by decide +kernel
theorem dd_M_layPatterns_77 : decode bc_M_layPatterns 77 = .ok (.aload_n 0, 1) := by decide +kernel
theorem dd_M_layPatterns_78 : decode bc_M_layPatterns 78 = .ok (.dup, 1) := by decide +kernel
theorem dd_M_layPatterns_79 : decode bc_M_layPatterns 79 = .ok (.getfield 169, 3) := by decide +kernel
theorem dd_M_layPatterns_82 : decode bc_M_layPatterns 82 = .ok (.iconst 1, 1) := by decide +kernel
theorem dd_M_layPatterns_83 : decode bc_M_layPatterns 83 = .ok (.iadd, 1) := by decide +kernel
theorem dd_M_layPatterns_84 : decode bc_M_layPatterns 84 = .ok (.putfield 169, 3) := by decide +kernel
theorem dd_M_layPatterns_87 : decode bc_M_layPatterns 87 = .ok (.iinc 1 1, 3) := by decide +kernel
theorem dd_M_layPatterns_90 : decode bc_M_layPatterns 90 = .ok (.goto (-55), 3) := by decide +kernel
theorem dd_M_layPatterns_93 : decode bc_M_layPatterns 93 = .ok (.return_, 1) := by decide +kernel
theorem dd_M_strike_0 : decode bc_M_strike 0 = .ok (.aload_n 0, 1) := by decide +kernel
theorem dd_M_strike_1 : decode bc_M_strike 1 = .ok (.iload_n 1, 1) := by decide +kernel
theorem dd_M_strike_2 : decode bc_M_strike 2 = .ok (.invokevirtual 175, 3) := by decide +kernel
theorem dd_M_strike_5 : decode bc_M_strike 5 = .ok (.iconst 0, 1) := by decide +kernel
theorem dd_M_strike_6 : decode bc_M_strike 6 = .ok (.istore_n 2, 1) := by decide +kernel
theorem dd_M_strike_7 : decode bc_M_strike 7 = .ok (.iload_n 2, 1) := by decide +kernel
theorem dd_M_strike_8 : decode bc_M_strike 8 = .ok (.aload_n 0, 1) := by decide +kernel
theorem dd_M_strike_9 : decode bc_M_strike 9 = .ok (.getfield 99, 3) := by decide +kernel
theorem dd_M_strike_12 : decode bc_M_strike 12 = .ok (.if_icmp .ge 47, 3) := by decide +kernel
theorem dd_M_strike_15 : decode bc_M_strike 15 = .ok (.aload_n 0, 1) := by decide +kernel
theorem dd_M_strike_16 : decode bc_M_strike 16 = .ok (.iload_n 2, 1) := by decide +kernel
theorem dd_M_strike_17 : decode bc_M_strike 17 = .ok (.invokevirtual 178, 3) := by decide +kernel
theorem dd_M_strike_20 : decode bc_M_strike 20 = .ok (.istore_n 3, 1) := by decide +kernel
theorem dd_M_strike_21 : decode bc_M_strike 21 = .ok (.aload_n 0, 1) := by decide +kernel
theorem dd_M_strike_22 : decode bc_M_strike 22 = .ok (.getfield 54, 3) := by decide +kernel
theorem dd_M_strike_25 : decode bc_M_strike 25 = .ok (.iload_n 3, 1) := by decide +kernel
theorem dd_M_strike_26 : decode bc_M_strike 26 = .ok (.iaload, 1) := by decide +kernel
theorem dd_M_strike_27 : decode bc_M_strike 27 = .ok (.ifCond .ge 26, 3) := by decide +kernel
theorem dd_M_strike_30 : decode bc_M_strike 30 = .ok (.aload_n 0, 1) := by decide +kernel
theorem dd_M_strike_31 : decode bc_M_strike 31 = .ok (.getfield 54, 3) := by decide +kernel
theorem dd_M_strike_34 : decode bc_M_strike 34 = .ok (.iload_n 3, 1) := by decide +kernel
theorem dd_M_strike_35 : decode bc_M_strike 35 = .ok (.aload_n 0, 1) := by decide +kernel
theorem dd_M_strike_36 : decode bc_M_strike 36 = .ok (.getfield 169, 3) := by decide +kernel
theorem dd_M_strike_39 : decode bc_M_strike 39 = .ok (.iastore, 1) := by decide +kernel
theorem dd_M_strike_40 : decode bc_M_strike 40 = .ok (.aload_n 0, 1) := by decide +kernel
theorem dd_M_strike_41 : decode bc_M_strike 41 = .ok (.getfield 60, 3) := by decide +kernel
theorem dd_M_strike_44 : decode bc_M_strike 44 = .ok (.aload_n 0, 1) := by decide +kernel
theorem dd_M_strike_45 : decode bc_M_strike 45 = .ok (.getfield 169, 3) := by decide +kernel
theorem dd_M_strike_48 : decode bc_M_strike 48 = .ok (.dup2, 1) := by decide +kernel
theorem dd_M_strike_49 : decode bc_M_strike 49 = .ok (.iaload, 1) := by decide +kernel
theorem dd_M_strike_50 : decode bc_M_strike 50 = .ok (.iconst 1, 1) := by decide +kernel
theorem dd_M_strike_51 : decode bc_M_strike 51 = .ok (.iadd, 1) := by decide +kernel
theorem dd_M_strike_52 : decode bc_M_strike 52 = .ok (.iastore, 1) := by decide +kernel
theorem dd_M_strike_53 : decode bc_M_strike 53 = .ok (.iinc 2 1, 3) := by decide +kernel
theorem dd_M_strike_56 : decode bc_M_strike 56 = .ok (.goto (-49), 3) := by decide +kernel
theorem dd_M_strike_59 : decode bc_M_strike 59 = .ok (.return_, 1) := by decide +kernel
theorem dd_M_weightOf_0 : decode bc_M_weightOf 0 = .ok (.aload_n 0, 1) := by decide +kernel
theorem dd_M_weightOf_1 : decode bc_M_weightOf 1 = .ok (.iload_n 1, 1) := by decide +kernel
theorem dd_M_weightOf_2 : decode bc_M_weightOf 2 = .ok (.invokevirtual 175, 3) := by decide +kernel
theorem dd_M_weightOf_5 : decode bc_M_weightOf 5 = .ok (.iconst 0, 1) := by decide +kernel
theorem dd_M_weightOf_6 : decode bc_M_weightOf 6 = .ok (.istore_n 2, 1) := by decide +kernel
theorem dd_M_weightOf_7 : decode bc_M_weightOf 7 = .ok (.iconst 0, 1) := by decide +kernel
theorem dd_M_weightOf_8 : decode bc_M_weightOf 8 = .ok (.istore_n 3, 1) := by decide +kernel
theorem dd_M_weightOf_9 : decode bc_M_weightOf 9 = .ok (.iload_n 3, 1) := by decide +kernel
theorem dd_M_weightOf_10 : decode bc_M_weightOf 10 = .ok (.aload_n 0, 1) := by decide +kernel
theorem dd_M_weightOf_11 : decode bc_M_weightOf 11 = .ok (.invokevirtual 72, 3) := by decide +kernel
theorem dd_M_weightOf_14 : decode bc_M_weightOf 14 = .ok (.if_icmp .ge 25, 3) := by decide +kernel
theorem dd_M_weightOf_17 : decode bc_M_weightOf 17 = .ok (.iload_n 2, 1) := by decide +kernel
theorem dd_M_weightOf_18 : decode bc_M_weightOf 18 = .ok (.aload_n 0, 1) := by decide +kernel
theorem dd_M_weightOf_19 : decode bc_M_weightOf 19 = .ok (.getfield 7, 3) := by decide +kernel
theorem dd_M_weightOf_22 : decode bc_M_weightOf 22 = .ok (.iconst 2, 1) := by decide +kernel
theorem dd_M_weightOf_23 : decode bc_M_weightOf 23 = .ok (.aload_n 0, 1) := by decide +kernel
theorem dd_M_weightOf_24 : decode bc_M_weightOf 24 = .ok (.getfield 51, 3) := by decide +kernel
theorem dd_M_weightOf_27 : decode bc_M_weightOf 27 = .ok (.iload_n 3, 1) := by decide +kernel
theorem dd_M_weightOf_28 : decode bc_M_weightOf 28 = .ok (.iaload, 1) := by decide +kernel
theorem dd_M_weightOf_29 : decode bc_M_weightOf 29 = .ok (.iadd, 1) := by decide +kernel
theorem dd_M_weightOf_30 : decode bc_M_weightOf 30 = .ok (.iaload, 1) := by decide +kernel
theorem dd_M_weightOf_31 : decode bc_M_weightOf 31 = .ok (.iadd, 1) := by decide +kernel
theorem dd_M_weightOf_32 : decode bc_M_weightOf 32 = .ok (.istore_n 2, 1) := by decide +kernel
theorem dd_M_weightOf_33 : decode bc_M_weightOf 33 = .ok (.iinc 3 1, 3) := by decide +kernel
theorem dd_M_weightOf_36 : decode bc_M_weightOf 36 = .ok (.goto (-27), 3) := by decide +kernel
theorem dd_M_weightOf_39 : decode bc_M_weightOf 39 = .ok (.iload_n 2, 1) := by decide +kernel
theorem dd_M_weightOf_40 : decode bc_M_weightOf 40 = .ok (.ireturn, 1) := by decide +kernel
theorem dd_M_coloursOf_0 : decode bc_M_coloursOf 0 = .ok (.aload_n 0, 1) := by decide +kernel
theorem dd_M_coloursOf_1 : decode bc_M_coloursOf 1 = .ok (.iload_n 1, 1) := by decide +kernel
theorem dd_M_coloursOf_2 : decode bc_M_coloursOf 2 = .ok (.invokevirtual 175, 3) := by decide +kernel
theorem dd_M_coloursOf_5 : decode bc_M_coloursOf 5 = .ok (.iconst 0, 1) := by decide +kernel
theorem dd_M_coloursOf_6 : decode bc_M_coloursOf 6 = .ok (.istore_n 2, 1) := by decide +kernel
theorem dd_M_coloursOf_7 : decode bc_M_coloursOf 7 = .ok (.iconst 0, 1) := by decide +kernel
theorem dd_M_coloursOf_8 : decode bc_M_coloursOf 8 = .ok (.istore_n 3, 1) := by decide +kernel
theorem dd_M_coloursOf_9 : decode bc_M_coloursOf 9 = .ok (.iload_n 3, 1) := by decide +kernel
theorem dd_M_coloursOf_10 : decode bc_M_coloursOf 10 = .ok (.aload_n 0, 1) := by decide +kernel
theorem dd_M_coloursOf_11 : decode bc_M_coloursOf 11 = .ok (.invokevirtual 72, 3) := by decide +kernel
theorem dd_M_coloursOf_14 : decode bc_M_coloursOf 14 = .ok (.if_icmp .ge 20, 3) := by decide +kernel
theorem dd_M_coloursOf_17 : decode bc_M_coloursOf 17 = .ok (.iload_n 2, 1) := by decide +kernel
theorem dd_M_coloursOf_18 : decode bc_M_coloursOf 18 = .ok (.iconst 1, 1) := by decide +kernel
theorem dd_M_coloursOf_19 : decode bc_M_coloursOf 19 = .ok (.aload_n 0, 1) := by decide +kernel
theorem dd_M_coloursOf_20 : decode bc_M_coloursOf 20 = .ok (.getfield 51, 3) := by decide +kernel
theorem dd_M_coloursOf_23 : decode bc_M_coloursOf 23 = .ok (.iload_n 3, 1) := by decide +kernel
theorem dd_M_coloursOf_24 : decode bc_M_coloursOf 24 = .ok (.iaload, 1) := by decide +kernel
theorem dd_M_coloursOf_25 : decode bc_M_coloursOf 25 = .ok (.ishl, 1) := by decide +kernel
theorem dd_M_coloursOf_26 : decode bc_M_coloursOf 26 = .ok (.ior, 1) := by decide +kernel
theorem dd_M_coloursOf_27 : decode bc_M_coloursOf 27 = .ok (.istore_n 2, 1) := by decide +kernel
theorem dd_M_coloursOf_28 : decode bc_M_coloursOf 28 = .ok (.iinc 3 1, 3) := by decide +kernel
theorem dd_M_coloursOf_31 : decode bc_M_coloursOf 31 = .ok (.goto (-22), 3) := by decide +kernel
theorem dd_M_coloursOf_34 : decode bc_M_coloursOf 34 = .ok (.iload_n 2, 1) := by decide +kernel
theorem dd_M_coloursOf_35 : decode bc_M_coloursOf 35 = .ok (.iconst 1, 1) := by decide +kernel
theorem dd_M_coloursOf_36 : decode bc_M_coloursOf 36 = .ok (.iand, 1) := by decide +kernel
theorem dd_M_coloursOf_37 : decode bc_M_coloursOf 37 = .ok (.iload_n 2, 1) := by decide +kernel
theorem dd_M_coloursOf_38 : decode bc_M_coloursOf 38 = .ok (.iconst 1, 1) := by decide +kernel
theorem dd_M_coloursOf_39 : decode bc_M_coloursOf 39 = .ok (.ishr, 1) := by decide +kernel
theorem dd_M_coloursOf_40 : decode bc_M_coloursOf 40 = .ok (.iconst 1, 1) := by decide +kernel
theorem dd_M_coloursOf_41 : decode bc_M_coloursOf 41 = .ok (.iand, 1) := by decide +kernel
theorem dd_M_coloursOf_42 : decode bc_M_coloursOf 42 = .ok (.iadd, 1) := by decide +kernel
theorem dd_M_coloursOf_43 : decode bc_M_coloursOf 43 = .ok (.iload_n 2, 1) := by decide +kernel
theorem dd_M_coloursOf_44 : decode bc_M_coloursOf 44 = .ok (.iconst 2, 1) := by decide +kernel
theorem dd_M_coloursOf_45 : decode bc_M_coloursOf 45 = .ok (.ishr, 1) := by decide +kernel
theorem dd_M_coloursOf_46 : decode bc_M_coloursOf 46 = .ok (.iconst 1, 1) := by decide +kernel
theorem dd_M_coloursOf_47 : decode bc_M_coloursOf 47 = .ok (.iand, 1) := by decide +kernel
theorem dd_M_coloursOf_48 : decode bc_M_coloursOf 48 = .ok (.iadd, 1) := by decide +kernel
theorem dd_M_coloursOf_49 : decode bc_M_coloursOf 49 = .ok (.iload_n 2, 1) := by decide +kernel
theorem dd_M_coloursOf_50 : decode bc_M_coloursOf 50 = .ok (.iconst 3, 1) := by decide +kernel
theorem dd_M_coloursOf_51 : decode bc_M_coloursOf 51 = .ok (.ishr, 1) := by decide +kernel
theorem dd_M_coloursOf_52 : decode bc_M_coloursOf 52 = .ok (.iconst 1, 1) := by decide +kernel
theorem dd_M_coloursOf_53 : decode bc_M_coloursOf 53 = .ok (.iand, 1) := by decide +kernel
theorem dd_M_coloursOf_54 : decode bc_M_coloursOf 54 = .ok (.iadd, 1) := by decide +kernel
theorem dd_M_coloursOf_55 : decode bc_M_coloursOf 55 = .ok (.ireturn, 1) := by decide +kernel
theorem dd_M_mirrored_0 : decode bc_M_mirrored 0 = .ok (.aload_n 0, 1) := by decide +kernel
theorem dd_M_mirrored_1 : decode bc_M_mirrored 1 = .ok (.iload_n 1, 1) := by decide +kernel
theorem dd_M_mirrored_2 : decode bc_M_mirrored 2 = .ok (.invokevirtual 175, 3) := by decide +kernel
theorem dd_M_mirrored_5 : decode bc_M_mirrored 5 = .ok (.iconst 0, 1) := by decide +kernel
theorem dd_M_mirrored_6 : decode bc_M_mirrored 6 = .ok (.istore_n 2, 1) := by decide +kernel
theorem dd_M_mirrored_7 : decode bc_M_mirrored 7 = .ok (.iconst 0, 1) := by decide +kernel
theorem dd_M_mirrored_8 : decode bc_M_mirrored 8 = .ok (.istore_n 3, 1) := by decide +kernel
theorem dd_M_mirrored_9 : decode bc_M_mirrored 9 = .ok (.iload_n 3, 1) := by decide +kernel
theorem dd_M_mirrored_10 : decode bc_M_mirrored 10 = .ok (.aload_n 0, 1) := by decide +kernel
theorem dd_M_mirrored_11 : decode bc_M_mirrored 11 = .ok (.invokevirtual 72, 3) := by decide +kernel
theorem dd_M_mirrored_14 : decode bc_M_mirrored 14 = .ok (.if_icmp .ge 32, 3) := by decide +kernel
theorem dd_M_mirrored_17 : decode bc_M_mirrored 17 = .ok (.iload_n 2, 1) := by decide +kernel
theorem dd_M_mirrored_18 : decode bc_M_mirrored 18 = .ok (.aload_n 0, 1) := by decide +kernel
theorem dd_M_mirrored_19 : decode bc_M_mirrored 19 = .ok (.getfield 51, 3) := by decide +kernel
theorem dd_M_mirrored_22 : decode bc_M_mirrored 22 = .ok (.aload_n 0, 1) := by decide +kernel
theorem dd_M_mirrored_23 : decode bc_M_mirrored 23 = .ok (.invokevirtual 72, 3) := by decide +kernel
theorem dd_M_mirrored_26 : decode bc_M_mirrored 26 = .ok (.iconst 1, 1) := by decide +kernel
theorem dd_M_mirrored_27 : decode bc_M_mirrored 27 = .ok (.isub, 1) := by decide +kernel
theorem dd_M_mirrored_28 : decode bc_M_mirrored 28 = .ok (.iload_n 3, 1) := by decide +kernel
theorem dd_M_mirrored_29 : decode bc_M_mirrored 29 = .ok (.isub, 1) := by decide +kernel
theorem dd_M_mirrored_30 : decode bc_M_mirrored 30 = .ok (.iaload, 1) := by decide +kernel
theorem dd_M_mirrored_31 : decode bc_M_mirrored 31 = .ok (.aload_n 0, 1) := by decide +kernel
theorem dd_M_mirrored_32 : decode bc_M_mirrored 32 = .ok (.getfield 63, 3) := by decide +kernel
theorem dd_M_mirrored_35 : decode bc_M_mirrored 35 = .ok (.iload_n 3, 1) := by decide +kernel
theorem dd_M_mirrored_36 : decode bc_M_mirrored 36 = .ok (.iaload, 1) := by decide +kernel
theorem dd_M_mirrored_37 : decode bc_M_mirrored 37 = .ok (.imul, 1) := by decide +kernel
theorem dd_M_mirrored_38 : decode bc_M_mirrored 38 = .ok (.iadd, 1) := by decide +kernel
theorem dd_M_mirrored_39 : decode bc_M_mirrored 39 = .ok (.istore_n 2, 1) := by decide +kernel
theorem dd_M_mirrored_40 : decode bc_M_mirrored 40 = .ok (.iinc 3 1, 3) := by decide +kernel
theorem dd_M_mirrored_43 : decode bc_M_mirrored 43 = .ok (.goto (-34), 3) := by decide +kernel
theorem dd_M_mirrored_46 : decode bc_M_mirrored 46 = .ok (.iload_n 2, 1) := by decide +kernel
theorem dd_M_mirrored_47 : decode bc_M_mirrored 47 = .ok (.ireturn, 1) := by decide +kernel
theorem dd_M_sorts_0 : decode bc_M_sorts 0 = .ok (.iload_n 1, 1) := by decide +kernel
theorem dd_M_sorts_1 : decode bc_M_sorts 1 = .ok (.iconst 1, 1) := by decide +kernel
theorem dd_M_sorts_2 : decode bc_M_sorts 2 = .ok (.iconst 4, 1) := by decide +kernel
theorem dd_M_sorts_3 : decode bc_M_sorts 3 = .ok (.invokestatic 102, 3) := by decide +kernel
theorem dd_M_sorts_6 : decode bc_M_sorts 6 = .ok (.ifCond .ne 6, 3) := by decide +kernel
theorem dd_M_sorts_9 : decode bc_M_sorts 9 = .ok (.bipush (-2), 2) := by decide +kernel
theorem dd_M_sorts_11 : decode bc_M_sorts 11 = .ok (.ireturn, 1) := by decide +kernel
theorem dd_M_sorts_12 : decode bc_M_sorts 12 = .ok (.aload_n 0, 1) := by decide +kernel
theorem dd_M_sorts_13 : decode bc_M_sorts 13 = .ok (.getfield 7, 3) := by decide +kernel
theorem dd_M_sorts_16 : decode bc_M_sorts 16 = .ok (.iconst 1, 1) := by decide +kernel
theorem dd_M_sorts_17 : decode bc_M_sorts 17 = .ok (.iaload, 1) := by decide +kernel
theorem dd_M_sorts_18 : decode bc_M_sorts 18 = .ok (.istore_n 2, 1) := by decide +kernel
theorem dd_M_sorts_19 : decode bc_M_sorts 19 = .ok (.aload_n 0, 1) := by decide +kernel
theorem dd_M_sorts_20 : decode bc_M_sorts 20 = .ok (.getfield 7, 3) := by decide +kernel
theorem dd_M_sorts_23 : decode bc_M_sorts 23 = .ok (.iconst 1, 1) := by decide +kernel
theorem dd_M_sorts_24 : decode bc_M_sorts 24 = .ok (.iload_n 1, 1) := by decide +kernel
theorem dd_M_sorts_25 : decode bc_M_sorts 25 = .ok (.iastore, 1) := by decide +kernel
theorem dd_M_sorts_26 : decode bc_M_sorts 26 = .ok (.iload_n 2, 1) := by decide +kernel
theorem dd_M_sorts_27 : decode bc_M_sorts 27 = .ok (.ireturn, 1) := by decide +kernel
theorem dd_M_weight_0 : decode bc_M_weight 0 = .ok (.iload_n 1, 1) := by decide +kernel
theorem dd_M_weight_1 : decode bc_M_weight 1 = .ok (.iconst 0, 1) := by decide +kernel
theorem dd_M_weight_2 : decode bc_M_weight 2 = .ok (.iconst 3, 1) := by decide +kernel
theorem dd_M_weight_3 : decode bc_M_weight 3 = .ok (.invokestatic 102, 3) := by decide +kernel
theorem dd_M_weight_6 : decode bc_M_weight 6 = .ok (.ifCond .ne 5, 3) := by decide +kernel
theorem dd_M_weight_9 : decode bc_M_weight 9 = .ok (.iconst (-1), 1) := by decide +kernel
theorem dd_M_weight_10 : decode bc_M_weight 10 = .ok (.ireturn, 1) := by decide +kernel
theorem dd_M_weight_11 : decode bc_M_weight 11 = .ok (.iload_n 2, 1) := by decide +kernel
theorem dd_M_weight_12 : decode bc_M_weight 12 = .ok (.iconst 0, 1) := by decide +kernel
theorem dd_M_weight_13 : decode bc_M_weight 13 = .ok (.bipush 9, 2) := by decide +kernel
theorem dd_M_weight_15 : decode bc_M_weight 15 = .ok (.invokestatic 102, 3) := by decide +kernel
theorem dd_M_weight_18 : decode bc_M_weight 18 = .ok (.ifCond .ne 6, 3) := by decide +kernel
theorem dd_M_weight_21 : decode bc_M_weight 21 = .ok (.bipush (-2), 2) := by decide +kernel
theorem dd_M_weight_23 : decode bc_M_weight 23 = .ok (.ireturn, 1) := by decide +kernel
theorem dd_M_weight_24 : decode bc_M_weight 24 = .ok (.aload_n 0, 1) := by decide +kernel
theorem dd_M_weight_25 : decode bc_M_weight 25 = .ok (.getfield 7, 3) := by decide +kernel
theorem dd_M_weight_28 : decode bc_M_weight 28 = .ok (.iconst 2, 1) := by decide +kernel
theorem dd_M_weight_29 : decode bc_M_weight 29 = .ok (.iload_n 1, 1) := by decide +kernel
theorem dd_M_weight_30 : decode bc_M_weight 30 = .ok (.iadd, 1) := by decide +kernel
theorem dd_M_weight_31 : decode bc_M_weight 31 = .ok (.iaload, 1) := by decide +kernel
theorem dd_M_weight_32 : decode bc_M_weight 32 = .ok (.istore_n 3, 1) := by decide +kernel
theorem dd_M_weight_33 : decode bc_M_weight 33 = .ok (.aload_n 0, 1) := by decide +kernel
theorem dd_M_weight_34 : decode bc_M_weight 34 = .ok (.getfield 7, 3) := by decide +kernel
theorem dd_M_weight_37 : decode bc_M_weight 37 = .ok (.iconst 2, 1) := by decide +kernel
theorem dd_M_weight_38 : decode bc_M_weight 38 = .ok (.iload_n 1, 1) := by decide +kernel
theorem dd_M_weight_39 : decode bc_M_weight 39 = .ok (.iadd, 1) := by decide +kernel
theorem dd_M_weight_40 : decode bc_M_weight 40 = .ok (.iload_n 2, 1) := by decide +kernel
theorem dd_M_weight_41 : decode bc_M_weight 41 = .ok (.iastore, 1) := by decide +kernel
theorem dd_M_weight_42 : decode bc_M_weight 42 = .ok (.iload_n 3, 1) := by decide +kernel
theorem dd_M_weight_43 : decode bc_M_weight 43 = .ok (.ireturn, 1) := by decide +kernel
theorem dd_M_patterns_0 : decode bc_M_patterns 0 = .ok (.iload_n 1, 1) := by decide +kernel
theorem dd_M_patterns_1 : decode bc_M_patterns 1 = .ok (.iconst (-1), 1) := by decide +kernel
theorem dd_M_patterns_2 : decode bc_M_patterns 2 = .ok (.bipush 63, 2) := by decide +kernel
theorem dd_M_patterns_4 : decode bc_M_patterns 4 = .ok (.invokestatic 102, 3) := by decide +kernel
theorem dd_M_patterns_7 : decode bc_M_patterns 7 = .ok (.ifCond .ne 6, 3) := by decide +kernel
theorem dd_M_patterns_10 : decode bc_M_patterns 10 = .ok (.bipush (-2), 2) := by decide +kernel
theorem dd_M_patterns_12 : decode bc_M_patterns 12 = .ok (.ireturn, 1) := by decide +kernel
theorem dd_M_patterns_13 : decode bc_M_patterns 13 = .ok (.aload_n 0, 1) := by decide +kernel
theorem dd_M_patterns_14 : decode bc_M_patterns 14 = .ok (.invokevirtual 181, 3) := by decide +kernel
theorem dd_M_patterns_17 : decode bc_M_patterns 17 = .ok (.iconst 0, 1) := by decide +kernel
theorem dd_M_patterns_18 : decode bc_M_patterns 18 = .ok (.istore_n 2, 1) := by decide +kernel
theorem dd_M_patterns_19 : decode bc_M_patterns 19 = .ok (.iconst 0, 1) := by decide +kernel
theorem dd_M_patterns_20 : decode bc_M_patterns 20 = .ok (.istore_n 3, 1) := by decide +kernel
theorem dd_M_patterns_21 : decode bc_M_patterns 21 = .ok (.iload_n 3, 1) := by decide +kernel
theorem dd_M_patterns_22 : decode bc_M_patterns 22 = .ok (.aload_n 0, 1) := by decide +kernel
theorem dd_M_patterns_23 : decode bc_M_patterns 23 = .ok (.getfield 169, 3) := by decide +kernel
theorem dd_M_patterns_26 : decode bc_M_patterns 26 = .ok (.if_icmp .ge 36, 3) := by decide +kernel
theorem dd_M_patterns_29 : decode bc_M_patterns 29 = .ok (.iload_n 2, 1) := by decide +kernel
theorem dd_M_patterns_30 : decode bc_M_patterns 30 = .ok (.iload_n 1, 1) := by decide +kernel
theorem dd_M_patterns_31 : decode bc_M_patterns 31 = .ok (.iconst (-1), 1) := by decide +kernel
theorem dd_M_patterns_32 : decode bc_M_patterns 32 = .ok (.if_icmp .eq 17, 3) := by decide +kernel
theorem dd_M_patterns_35 : decode bc_M_patterns 35 = .ok (.aload_n 0, 1) := by decide +kernel
theorem dd_M_patterns_36 : decode bc_M_patterns 36 = .ok (.aload_n 0, 1) := by decide +kernel
theorem dd_M_patterns_37 : decode bc_M_patterns 37 = .ok (.getfield 57, 3) := by decide +kernel
theorem dd_M_patterns_40 : decode bc_M_patterns 40 = .ok (.iload_n 3, 1) := by decide +kernel
theorem dd_M_patterns_41 : decode bc_M_patterns 41 = .ok (.iaload, 1) := by decide +kernel
theorem dd_M_patterns_42 : decode bc_M_patterns 42 = .ok (.invokevirtual 184, 3) := by decide +kernel
theorem dd_M_patterns_45 : decode bc_M_patterns 45 = .ok (.iload_n 1, 1) := by decide +kernel
theorem dd_M_patterns_46 : decode bc_M_patterns 46 = .ok (.if_icmp .ne 7, 3) := by decide +kernel
theorem dd_M_patterns_49 : decode bc_M_patterns 49 = .ok (.iconst 1, 1) := by decide +kernel
theorem dd_M_patterns_50 : decode bc_M_patterns 50 = .ok (.goto 4, 3) := by decide +kernel
theorem dd_M_patterns_53 : decode bc_M_patterns 53 = .ok (.iconst 0, 1) := by decide +kernel
theorem dd_M_patterns_54 : decode bc_M_patterns 54 = .ok (.iadd, 1) := by decide +kernel
theorem dd_M_patterns_55 : decode bc_M_patterns 55 = .ok (.istore_n 2, 1) := by decide +kernel
theorem dd_M_patterns_56 : decode bc_M_patterns 56 = .ok (.iinc 3 1, 3) := by decide +kernel
theorem dd_M_patterns_59 : decode bc_M_patterns 59 = .ok (.goto (-38), 3) := by decide +kernel
theorem dd_M_patterns_62 : decode bc_M_patterns 62 = .ok (.iload_n 2, 1) := by decide +kernel
theorem dd_M_patterns_63 : decode bc_M_patterns 63 = .ok (.ireturn, 1) := by decide +kernel
theorem dd_M_twin_0 : decode bc_M_twin 0 = .ok (.aload_n 0, 1) := by decide +kernel
theorem dd_M_twin_1 : decode bc_M_twin 1 = .ok (.getfield 54, 3) := by decide +kernel
theorem dd_M_twin_4 : decode bc_M_twin 4 = .ok (.aload_n 0, 1) := by decide +kernel
theorem dd_M_twin_5 : decode bc_M_twin 5 = .ok (.aload_n 0, 1) := by decide +kernel
theorem dd_M_twin_6 : decode bc_M_twin 6 = .ok (.getfield 57, 3) := by decide +kernel
theorem dd_M_twin_9 : decode bc_M_twin 9 = .ok (.iload_n 1, 1) := by decide +kernel
theorem dd_M_twin_10 : decode bc_M_twin 10 = .ok (.iaload, 1) := by decide +kernel
theorem dd_M_twin_11 : decode bc_M_twin 11 = .ok (.invokevirtual 187, 3) := by decide +kernel
theorem dd_M_twin_14 : decode bc_M_twin 14 = .ok (.iaload, 1) := by decide +kernel
theorem dd_M_twin_15 : decode bc_M_twin 15 = .ok (.ireturn, 1) := by decide +kernel
theorem dd_M_pattern_0 : decode bc_M_pattern 0 = .ok (.iload_n 2, 1) := by decide +kernel
theorem dd_M_pattern_1 : decode bc_M_pattern 1 = .ok (.iconst 0, 1) := by decide +kernel
theorem dd_M_pattern_2 : decode bc_M_pattern 2 = .ok (.iconst 4, 1) := by decide +kernel
theorem dd_M_pattern_3 : decode bc_M_pattern 3 = .ok (.invokestatic 102, 3) := by decide +kernel
theorem dd_M_pattern_6 : decode bc_M_pattern 6 = .ok (.ifCond .ne 6, 3) := by decide +kernel
theorem dd_M_pattern_9 : decode bc_M_pattern 9 = .ok (.bipush (-2), 2) := by decide +kernel
theorem dd_M_pattern_11 : decode bc_M_pattern 11 = .ok (.ireturn, 1) := by decide +kernel
theorem dd_M_pattern_12 : decode bc_M_pattern 12 = .ok (.aload_n 0, 1) := by decide +kernel
theorem dd_M_pattern_13 : decode bc_M_pattern 13 = .ok (.invokevirtual 181, 3) := by decide +kernel
theorem dd_M_pattern_16 : decode bc_M_pattern 16 = .ok (.iload_n 1, 1) := by decide +kernel
theorem dd_M_pattern_17 : decode bc_M_pattern 17 = .ok (.iconst 0, 1) := by decide +kernel
theorem dd_M_pattern_18 : decode bc_M_pattern 18 = .ok (.aload_n 0, 1) := by decide +kernel
theorem dd_M_pattern_19 : decode bc_M_pattern 19 = .ok (.getfield 169, 3) := by decide +kernel
theorem dd_M_pattern_22 : decode bc_M_pattern 22 = .ok (.iconst 1, 1) := by decide +kernel
theorem dd_M_pattern_23 : decode bc_M_pattern 23 = .ok (.isub, 1) := by decide +kernel
theorem dd_M_pattern_24 : decode bc_M_pattern 24 = .ok (.invokestatic 102, 3) := by decide +kernel
theorem dd_M_pattern_27 : decode bc_M_pattern 27 = .ok (.ifCond .ne 6, 3) := by decide +kernel
theorem dd_M_pattern_30 : decode bc_M_pattern 30 = .ok (.bipush (-6), 2) := by decide +kernel
theorem dd_M_pattern_32 : decode bc_M_pattern 32 = .ok (.ireturn, 1) := by decide +kernel
theorem dd_M_pattern_33 : decode bc_M_pattern 33 = .ok (.iload_n 2, 1) := by decide +kernel
theorem dd_M_pattern_34 : decode bc_M_pattern 34 = .ok (.tableswitch 61 0 3 #[30, 37, 44, 55], 30) := by decide +kernel
theorem dd_M_pattern_64 : decode bc_M_pattern 64 = .ok (.aload_n 0, 1) := by decide +kernel
theorem dd_M_pattern_65 : decode bc_M_pattern 65 = .ok (.getfield 57, 3) := by decide +kernel
theorem dd_M_pattern_68 : decode bc_M_pattern 68 = .ok (.iload_n 1, 1) := by decide +kernel
theorem dd_M_pattern_69 : decode bc_M_pattern 69 = .ok (.iaload, 1) := by decide +kernel
theorem dd_M_pattern_70 : decode bc_M_pattern 70 = .ok (.ireturn, 1) := by decide +kernel
theorem dd_M_pattern_71 : decode bc_M_pattern 71 = .ok (.aload_n 0, 1) := by decide +kernel
theorem dd_M_pattern_72 : decode bc_M_pattern 72 = .ok (.getfield 60, 3) := by decide +kernel
theorem dd_M_pattern_75 : decode bc_M_pattern 75 = .ok (.iload_n 1, 1) := by decide +kernel
theorem dd_M_pattern_76 : decode bc_M_pattern 76 = .ok (.iaload, 1) := by decide +kernel
theorem dd_M_pattern_77 : decode bc_M_pattern 77 = .ok (.ireturn, 1) := by decide +kernel
theorem dd_M_pattern_78 : decode bc_M_pattern 78 = .ok (.aload_n 0, 1) := by decide +kernel
theorem dd_M_pattern_79 : decode bc_M_pattern 79 = .ok (.aload_n 0, 1) := by decide +kernel
theorem dd_M_pattern_80 : decode bc_M_pattern 80 = .ok (.getfield 57, 3) := by decide +kernel
theorem dd_M_pattern_83 : decode bc_M_pattern 83 = .ok (.iload_n 1, 1) := by decide +kernel
theorem dd_M_pattern_84 : decode bc_M_pattern 84 = .ok (.iaload, 1) := by decide +kernel
theorem dd_M_pattern_85 : decode bc_M_pattern 85 = .ok (.invokevirtual 184, 3) := by decide +kernel
theorem dd_M_pattern_88 : decode bc_M_pattern 88 = .ok (.ireturn, 1) := by decide +kernel
theorem dd_M_pattern_89 : decode bc_M_pattern 89 = .ok (.aload_n 0, 1) := by decide +kernel
theorem dd_M_pattern_90 : decode bc_M_pattern 90 = .ok (.iload_n 1, 1) := by decide +kernel
theorem dd_M_pattern_91 : decode bc_M_pattern 91 = .ok (.invokevirtual 190, 3) := by decide +kernel
theorem dd_M_pattern_94 : decode bc_M_pattern 94 = .ok (.ireturn, 1) := by decide +kernel
theorem dd_M_pattern_95 : decode bc_M_pattern 95 = .ok (.aload_n 0, 1) := by decide +kernel
theorem dd_M_pattern_96 : decode bc_M_pattern 96 = .ok (.aload_n 0, 1) := by decide +kernel
theorem dd_M_pattern_97 : decode bc_M_pattern 97 = .ok (.getfield 57, 3) := by decide +kernel
theorem dd_M_pattern_100 : decode bc_M_pattern 100 = .ok (.iload_n 1, 1) := by decide +kernel
theorem dd_M_pattern_101 : decode bc_M_pattern 101 = .ok (.iaload, 1) := by decide +kernel
theorem dd_M_pattern_102 : decode bc_M_pattern 102 = .ok (.invokevirtual 193, 3) := by decide +kernel
theorem dd_M_pattern_105 : decode bc_M_pattern 105 = .ok (.ireturn, 1) := by decide +kernel
theorem dd_M_isNumber_0 : decode bc_M_isNumber 0 = .ok (.aload_n 0, 1) := by decide +kernel
theorem dd_M_isNumber_1 : decode bc_M_isNumber 1 = .ok (.invokevirtual 166, 3) := by decide +kernel
theorem dd_M_isNumber_4 : decode bc_M_isNumber 4 = .ok (.iload_n 1, 1) := by decide +kernel
theorem dd_M_isNumber_5 : decode bc_M_isNumber 5 = .ok (.iconst 0, 1) := by decide +kernel
theorem dd_M_isNumber_6 : decode bc_M_isNumber 6 = .ok (.aload_n 0, 1) := by decide +kernel
theorem dd_M_isNumber_7 : decode bc_M_isNumber 7 = .ok (.getfield 163, 3) := by decide +kernel
theorem dd_M_isNumber_10 : decode bc_M_isNumber 10 = .ok (.iconst 1, 1) := by decide +kernel
theorem dd_M_isNumber_11 : decode bc_M_isNumber 11 = .ok (.isub, 1) := by decide +kernel
theorem dd_M_isNumber_12 : decode bc_M_isNumber 12 = .ok (.invokestatic 102, 3) := by decide +kernel
theorem dd_M_isNumber_15 : decode bc_M_isNumber 15 = .ok (.ireturn, 1) := by decide +kernel
theorem dd_M_of_0 : decode bc_M_of 0 = .ok (.aload_n 0, 1) := by decide +kernel
theorem dd_M_of_1 : decode bc_M_of 1 = .ok (.iload_n 1, 1) := by decide +kernel
theorem dd_M_of_2 : decode bc_M_of 2 = .ok (.invokevirtual 196, 3) := by decide +kernel
theorem dd_M_of_5 : decode bc_M_of 5 = .ok (.ifCond .eq 12, 3) := by decide +kernel
theorem dd_M_of_8 : decode bc_M_of 8 = .ok (.iload_n 2, 1) := by decide +kernel
theorem dd_M_of_9 : decode bc_M_of 9 = .ok (.iconst 0, 1) := by decide +kernel
theorem dd_M_of_10 : decode bc_M_of 10 = .ok (.iconst 3, 1) := by decide +kernel
theorem dd_M_of_11 : decode bc_M_of 11 = .ok (.invokestatic 102, 3) := by decide +kernel
theorem dd_M_of_14 : decode bc_M_of 14 = .ok (.ifCond .ne 6, 3) := by decide +kernel
theorem dd_M_of_17 : decode bc_M_of 17 = .ok (.bipush (-2), 2) := by decide +kernel
theorem dd_M_of_19 : decode bc_M_of 19 = .ok (.ireturn, 1) := by decide +kernel
theorem dd_M_of_20 : decode bc_M_of 20 = .ok (.aload_n 0, 1) := by decide +kernel
theorem dd_M_of_21 : decode bc_M_of 21 = .ok (.invokevirtual 181, 3) := by decide +kernel
theorem dd_M_of_24 : decode bc_M_of 24 = .ok (.aload_n 0, 1) := by decide +kernel
theorem dd_M_of_25 : decode bc_M_of 25 = .ok (.getfield 54, 3) := by decide +kernel
theorem dd_M_of_28 : decode bc_M_of 28 = .ok (.iload_n 1, 1) := by decide +kernel
theorem dd_M_of_29 : decode bc_M_of 29 = .ok (.iaload, 1) := by decide +kernel
theorem dd_M_of_30 : decode bc_M_of 30 = .ok (.istore_n 3, 1) := by decide +kernel
theorem dd_M_of_31 : decode bc_M_of 31 = .ok (.iload_n 2, 1) := by decide +kernel
theorem dd_M_of_32 : decode bc_M_of 32 = .ok (.ifCond .ne 7, 3) := by decide +kernel
theorem dd_M_of_35 : decode bc_M_of 35 = .ok (.iload_n 3, 1) := by decide +kernel
theorem dd_M_of_36 : decode bc_M_of 36 = .ok (.goto 41, 3) := by decide +kernel
theorem dd_M_of_39 : decode bc_M_of 39 = .ok (.iload_n 2, 1) := by decide +kernel
theorem dd_M_of_40 : decode bc_M_of 40 = .ok (.iconst 1, 1) := by decide +kernel
theorem dd_M_of_41 : decode bc_M_of 41 = .ok (.if_icmp .ne 12, 3) := by decide +kernel
theorem dd_M_of_44 : decode bc_M_of 44 = .ok (.aload_n 0, 1) := by decide +kernel
theorem dd_M_of_45 : decode bc_M_of 45 = .ok (.getfield 57, 3) := by decide +kernel
theorem dd_M_of_48 : decode bc_M_of 48 = .ok (.iload_n 3, 1) := by decide +kernel
theorem dd_M_of_49 : decode bc_M_of 49 = .ok (.iaload, 1) := by decide +kernel
theorem dd_M_of_50 : decode bc_M_of 50 = .ok (.goto 27, 3) := by decide +kernel
theorem dd_M_of_53 : decode bc_M_of 53 = .ok (.iload_n 2, 1) := by decide +kernel
theorem dd_M_of_54 : decode bc_M_of 54 = .ok (.iconst 2, 1) := by decide +kernel
theorem dd_M_of_55 : decode bc_M_of 55 = .ok (.if_icmp .ne 17, 3) := by decide +kernel
theorem dd_M_of_58 : decode bc_M_of 58 = .ok (.aload_n 0, 1) := by decide +kernel
theorem dd_M_of_59 : decode bc_M_of 59 = .ok (.getfield 99, 3) := by decide +kernel
theorem dd_M_of_62 : decode bc_M_of 62 = .ok (.aload_n 0, 1) := by decide +kernel
theorem dd_M_of_63 : decode bc_M_of 63 = .ok (.getfield 60, 3) := by decide +kernel
theorem dd_M_of_66 : decode bc_M_of 66 = .ok (.iload_n 3, 1) := by decide +kernel
theorem dd_M_of_67 : decode bc_M_of 67 = .ok (.iaload, 1) := by decide +kernel
theorem dd_M_of_68 : decode bc_M_of 68 = .ok (.idiv, 1) := by decide +kernel
theorem dd_M_of_69 : decode bc_M_of 69 = .ok (.goto 8, 3) := by decide +kernel
theorem dd_M_of_72 : decode bc_M_of 72 = .ok (.aload_n 0, 1) := by decide +kernel
theorem dd_M_of_73 : decode bc_M_of 73 = .ok (.iload_n 1, 1) := by decide +kernel
theorem dd_M_of_74 : decode bc_M_of 74 = .ok (.invokevirtual 187, 3) := by decide +kernel
theorem dd_M_of_77 : decode bc_M_of 77 = .ok (.ireturn, 1) := by decide +kernel
theorem dd_M_isOf_0 : decode bc_M_isOf 0 = .ok (.iload_n 2, 1) := by decide +kernel
theorem dd_M_isOf_1 : decode bc_M_isOf 1 = .ok (.lookupswitch 67 #[(0, 27), (1, 42)], 27) := by decide +kernel
theorem dd_M_isOf_28 : decode bc_M_isOf 28 = .ok (.aload_n 0, 1) := by decide +kernel
theorem dd_M_isOf_29 : decode bc_M_isOf 29 = .ok (.iload_n 1, 1) := by decide +kernel
theorem dd_M_isOf_30 : decode bc_M_isOf 30 = .ok (.invokevirtual 190, 3) := by decide +kernel
theorem dd_M_isOf_33 : decode bc_M_isOf 33 = .ok (.iload_n 1, 1) := by decide +kernel
theorem dd_M_isOf_34 : decode bc_M_isOf 34 = .ok (.if_icmp .eq 7, 3) := by decide +kernel
theorem dd_M_isOf_37 : decode bc_M_isOf 37 = .ok (.iconst 1, 1) := by decide +kernel
theorem dd_M_isOf_38 : decode bc_M_isOf 38 = .ok (.goto 4, 3) := by decide +kernel
theorem dd_M_isOf_41 : decode bc_M_isOf 41 = .ok (.iconst 0, 1) := by decide +kernel
theorem dd_M_isOf_42 : decode bc_M_isOf 42 = .ok (.ireturn, 1) := by decide +kernel
theorem dd_M_isOf_43 : decode bc_M_isOf 43 = .ok (.aload_n 0, 1) := by decide +kernel
theorem dd_M_isOf_44 : decode bc_M_isOf 44 = .ok (.aload_n 0, 1) := by decide +kernel
theorem dd_M_isOf_45 : decode bc_M_isOf 45 = .ok (.getfield 57, 3) := by decide +kernel
theorem dd_M_isOf_48 : decode bc_M_isOf 48 = .ok (.iload_n 1, 1) := by decide +kernel
theorem dd_M_isOf_49 : decode bc_M_isOf 49 = .ok (.iaload, 1) := by decide +kernel
theorem dd_M_isOf_50 : decode bc_M_isOf 50 = .ok (.invokevirtual 193, 3) := by decide +kernel
theorem dd_M_isOf_53 : decode bc_M_isOf 53 = .ok (.aload_n 0, 1) := by decide +kernel
theorem dd_M_isOf_54 : decode bc_M_isOf 54 = .ok (.getfield 7, 3) := by decide +kernel
theorem dd_M_isOf_57 : decode bc_M_isOf 57 = .ok (.iconst 1, 1) := by decide +kernel
theorem dd_M_isOf_58 : decode bc_M_isOf 58 = .ok (.iaload, 1) := by decide +kernel
theorem dd_M_isOf_59 : decode bc_M_isOf 59 = .ok (.if_icmp .ne 7, 3) := by decide +kernel
theorem dd_M_isOf_62 : decode bc_M_isOf 62 = .ok (.iconst 1, 1) := by decide +kernel
theorem dd_M_isOf_63 : decode bc_M_isOf 63 = .ok (.goto 4, 3) := by decide +kernel
theorem dd_M_isOf_66 : decode bc_M_isOf 66 = .ok (.iconst 0, 1) := by decide +kernel
theorem dd_M_isOf_67 : decode bc_M_isOf 67 = .ok (.ireturn, 1) := by decide +kernel
theorem dd_M_isOf_68 : decode bc_M_isOf 68 = .ok (.aload_n 0, 1) := by decide +kernel
theorem dd_M_isOf_69 : decode bc_M_isOf 69 = .ok (.getfield 60, 3) := by decide +kernel
theorem dd_M_isOf_72 : decode bc_M_isOf 72 = .ok (.iload_n 1, 1) := by decide +kernel
theorem dd_M_isOf_73 : decode bc_M_isOf 73 = .ok (.iaload, 1) := by decide +kernel
theorem dd_M_isOf_74 : decode bc_M_isOf 74 = .ok (.iconst 1, 1) := by decide +kernel
theorem dd_M_isOf_75 : decode bc_M_isOf 75 = .ok (.if_icmp .ne 7, 3) := by decide +kernel
theorem dd_M_isOf_78 : decode bc_M_isOf 78 = .ok (.iconst 1, 1) := by decide +kernel
theorem dd_M_isOf_79 : decode bc_M_isOf 79 = .ok (.goto 4, 3) := by decide +kernel
theorem dd_M_isOf_82 : decode bc_M_isOf 82 = .ok (.iconst 0, 1) := by decide +kernel
theorem dd_M_isOf_83 : decode bc_M_isOf 83 = .ok (.ireturn, 1) := by decide +kernel
theorem dd_M_kinds_0 : decode bc_M_kinds 0 = .ok (.iload_n 1, 1) := by decide +kernel
theorem dd_M_kinds_1 : decode bc_M_kinds 1 = .ok (.iconst 0, 1) := by decide +kernel
theorem dd_M_kinds_2 : decode bc_M_kinds 2 = .ok (.iconst 3, 1) := by decide +kernel
theorem dd_M_kinds_3 : decode bc_M_kinds 3 = .ok (.invokestatic 102, 3) := by decide +kernel
theorem dd_M_kinds_6 : decode bc_M_kinds 6 = .ok (.ifCond .ne 6, 3) := by decide +kernel
theorem dd_M_kinds_9 : decode bc_M_kinds 9 = .ok (.bipush (-2), 2) := by decide +kernel
theorem dd_M_kinds_11 : decode bc_M_kinds 11 = .ok (.ireturn, 1) := by decide +kernel
theorem dd_M_kinds_12 : decode bc_M_kinds 12 = .ok (.aload_n 0, 1) := by decide +kernel
theorem dd_M_kinds_13 : decode bc_M_kinds 13 = .ok (.invokevirtual 181, 3) := by decide +kernel
theorem dd_M_kinds_16 : decode bc_M_kinds 16 = .ok (.iconst 0, 1) := by decide +kernel
theorem dd_M_kinds_17 : decode bc_M_kinds 17 = .ok (.istore_n 2, 1) := by decide +kernel
theorem dd_M_kinds_18 : decode bc_M_kinds 18 = .ok (.iconst 0, 1) := by decide +kernel
theorem dd_M_kinds_19 : decode bc_M_kinds 19 = .ok (.istore_n 3, 1) := by decide +kernel
theorem dd_M_kinds_20 : decode bc_M_kinds 20 = .ok (.iconst 0, 1) := by decide +kernel
theorem dd_M_kinds_21 : decode bc_M_kinds 21 = .ok (.istore 4, 2) := by decide +kernel
theorem dd_M_kinds_23 : decode bc_M_kinds 23 = .ok (.iload 4, 2) := by decide +kernel
theorem dd_M_kinds_25 : decode bc_M_kinds 25 = .ok (.aload_n 0, 1) := by decide +kernel
theorem dd_M_kinds_26 : decode bc_M_kinds 26 = .ok (.getfield 169, 3) := by decide +kernel
theorem dd_M_kinds_29 : decode bc_M_kinds 29 = .ok (.if_icmp .ge 50, 3) := by decide +kernel
theorem dd_M_kinds_32 : decode bc_M_kinds 32 = .ok (.iload_n 2, 1) := by decide +kernel
theorem dd_M_kinds_33 : decode bc_M_kinds 33 = .ok (.aload_n 0, 1) := by decide +kernel
theorem dd_M_kinds_34 : decode bc_M_kinds 34 = .ok (.iload 4, 2) := by decide +kernel
theorem dd_M_kinds_36 : decode bc_M_kinds 36 = .ok (.iload_n 1, 1) := by decide +kernel
theorem dd_M_kinds_37 : decode bc_M_kinds 37 = .ok (.invokevirtual 199, 3) := by decide +kernel
theorem dd_M_kinds_40 : decode bc_M_kinds 40 = .ok (.ifCond .eq 7, 3) := by decide +kernel
theorem dd_M_kinds_43 : decode bc_M_kinds 43 = .ok (.iconst 1, 1) := by decide +kernel
theorem dd_M_kinds_44 : decode bc_M_kinds 44 = .ok (.goto 4, 3) := by decide +kernel
theorem dd_M_kinds_47 : decode bc_M_kinds 47 = .ok (.iconst 0, 1) := by decide +kernel
theorem dd_M_kinds_48 : decode bc_M_kinds 48 = .ok (.iadd, 1) := by decide +kernel
theorem dd_M_kinds_49 : decode bc_M_kinds 49 = .ok (.istore_n 2, 1) := by decide +kernel
theorem dd_M_kinds_50 : decode bc_M_kinds 50 = .ok (.aload_n 0, 1) := by decide +kernel
theorem dd_M_kinds_51 : decode bc_M_kinds 51 = .ok (.getfield 60, 3) := by decide +kernel
theorem dd_M_kinds_54 : decode bc_M_kinds 54 = .ok (.iload 4, 2) := by decide +kernel
theorem dd_M_kinds_56 : decode bc_M_kinds 56 = .ok (.iaload, 1) := by decide +kernel
theorem dd_M_kinds_57 : decode bc_M_kinds 57 = .ok (.iload_n 3, 1) := by decide +kernel
theorem dd_M_kinds_58 : decode bc_M_kinds 58 = .ok (.if_icmp .le 13, 3) := by decide +kernel
theorem dd_M_kinds_61 : decode bc_M_kinds 61 = .ok (.aload_n 0, 1) := by decide +kernel
theorem dd_M_kinds_62 : decode bc_M_kinds 62 = .ok (.getfield 60, 3) := by decide +kernel
theorem dd_M_kinds_65 : decode bc_M_kinds 65 = .ok (.iload 4, 2) := by decide +kernel
theorem dd_M_kinds_67 : decode bc_M_kinds 67 = .ok (.iaload, 1) := by decide +kernel
theorem dd_M_kinds_68 : decode bc_M_kinds 68 = .ok (.goto 4, 3) := by decide +kernel
theorem dd_M_kinds_71 : decode bc_M_kinds 71 = .ok (.iload_n 3, 1) := by decide +kernel
theorem dd_M_kinds_72 : decode bc_M_kinds 72 = .ok (.istore_n 3, 1) := by decide +kernel
theorem dd_M_kinds_73 : decode bc_M_kinds 73 = .ok (.iinc 4 1, 3) := by decide +kernel
theorem dd_M_kinds_76 : decode bc_M_kinds 76 = .ok (.goto (-53), 3) := by decide +kernel
theorem dd_M_kinds_79 : decode bc_M_kinds 79 = .ok (.iload_n 1, 1) := by decide +kernel
theorem dd_M_kinds_80 : decode bc_M_kinds 80 = .ok (.iconst 3, 1) := by decide +kernel
theorem dd_M_kinds_81 : decode bc_M_kinds 81 = .ok (.if_icmp .ne 7, 3) := by decide +kernel
theorem dd_M_kinds_84 : decode bc_M_kinds 84 = .ok (.iload_n 3, 1) := by decide +kernel
theorem dd_M_kinds_85 : decode bc_M_kinds 85 = .ok (.goto 4, 3) := by decide +kernel
theorem dd_M_kinds_88 : decode bc_M_kinds 88 = .ok (.iload_n 2, 1) := by decide +kernel
theorem dd_M_kinds_89 : decode bc_M_kinds 89 = .ok (.ireturn, 1) := by decide +kernel
theorem dd_M_by_0 : decode bc_M_by 0 = .ok (.aload_n 0, 1) := by decide +kernel
theorem dd_M_by_1 : decode bc_M_by 1 = .ok (.iload_n 1, 1) := by decide +kernel
theorem dd_M_by_2 : decode bc_M_by 2 = .ok (.invokevirtual 196, 3) := by decide +kernel
theorem dd_M_by_5 : decode bc_M_by 5 = .ok (.ifCond .ne 6, 3) := by decide +kernel
theorem dd_M_by_8 : decode bc_M_by 8 = .ok (.bipush (-2), 2) := by decide +kernel
theorem dd_M_by_10 : decode bc_M_by 10 = .ok (.ireturn, 1) := by decide +kernel
theorem dd_M_by_11 : decode bc_M_by 11 = .ok (.aload_n 0, 1) := by decide +kernel
theorem dd_M_by_12 : decode bc_M_by 12 = .ok (.iload_n 2, 1) := by decide +kernel
theorem dd_M_by_13 : decode bc_M_by 13 = .ok (.invokevirtual 160, 3) := by decide +kernel
theorem dd_M_by_16 : decode bc_M_by 16 = .ok (.ifCond .ne 5, 3) := by decide +kernel
theorem dd_M_by_19 : decode bc_M_by 19 = .ok (.iconst (-1), 1) := by decide +kernel
theorem dd_M_by_20 : decode bc_M_by 20 = .ok (.ireturn, 1) := by decide +kernel
theorem dd_M_by_21 : decode bc_M_by 21 = .ok (.aload_n 0, 1) := by decide +kernel
theorem dd_M_by_22 : decode bc_M_by 22 = .ok (.invokevirtual 181, 3) := by decide +kernel
theorem dd_M_by_25 : decode bc_M_by 25 = .ok (.aload_n 0, 1) := by decide +kernel
theorem dd_M_by_26 : decode bc_M_by 26 = .ok (.getfield 57, 3) := by decide +kernel
theorem dd_M_by_29 : decode bc_M_by 29 = .ok (.aload_n 0, 1) := by decide +kernel
theorem dd_M_by_30 : decode bc_M_by 30 = .ok (.getfield 54, 3) := by decide +kernel
theorem dd_M_by_33 : decode bc_M_by 33 = .ok (.iload_n 1, 1) := by decide +kernel
theorem dd_M_by_34 : decode bc_M_by 34 = .ok (.iaload, 1) := by decide +kernel
theorem dd_M_by_35 : decode bc_M_by 35 = .ok (.iaload, 1) := by decide +kernel
theorem dd_M_by_36 : decode bc_M_by 36 = .ok (.istore_n 3, 1) := by decide +kernel
theorem dd_M_by_37 : decode bc_M_by 37 = .ok (.aload_n 0, 1) := by decide +kernel
theorem dd_M_by_38 : decode bc_M_by 38 = .ok (.iload_n 1, 1) := by decide +kernel
theorem dd_M_by_39 : decode bc_M_by 39 = .ok (.invokevirtual 175, 3) := by decide +kernel
theorem dd_M_by_42 : decode bc_M_by 42 = .ok (.iconst 0, 1) := by decide +kernel
theorem dd_M_by_43 : decode bc_M_by 43 = .ok (.istore 4, 2) := by decide +kernel
theorem dd_M_by_45 : decode bc_M_by 45 = .ok (.aload_n 0, 1) := by decide +kernel
theorem dd_M_by_46 : decode bc_M_by 46 = .ok (.iload 4, 2) := by decide +kernel
theorem dd_M_by_48 : decode bc_M_by 48 = .ok (.invokevirtual 178, 3) := by decide +kernel
theorem dd_M_by_51 : decode bc_M_by 51 = .ok (.iload_n 3, 1) := by decide +kernel
theorem dd_M_by_52 : decode bc_M_by 52 = .ok (.if_icmp .eq 9, 3) := by decide +kernel
theorem dd_M_by_55 : decode bc_M_by 55 = .ok (.iinc 4 1, 3) := by decide +kernel
theorem dd_M_by_58 : decode bc_M_by 58 = .ok (.goto (-13), 3) := by decide +kernel
theorem dd_M_by_61 : decode bc_M_by 61 = .ok (.aload_n 0, 1) := by decide +kernel
theorem dd_M_by_62 : decode bc_M_by 62 = .ok (.getfield 36, 3) := by decide +kernel
theorem dd_M_by_65 : decode bc_M_by 65 = .ok (.bipush 7, 2) := by decide +kernel
theorem dd_M_by_67 : decode bc_M_by 67 = .ok (.iload 4, 2) := by decide +kernel
theorem dd_M_by_69 : decode bc_M_by 69 = .ok (.imul, 1) := by decide +kernel
theorem dd_M_by_70 : decode bc_M_by 70 = .ok (.iload_n 2, 1) := by decide +kernel
theorem dd_M_by_71 : decode bc_M_by 71 = .ok (.iadd, 1) := by decide +kernel
theorem dd_M_by_72 : decode bc_M_by 72 = .ok (.iaload, 1) := by decide +kernel
theorem dd_M_by_73 : decode bc_M_by 73 = .ok (.ireturn, 1) := by decide +kernel
theorem dd_M_image_0 : decode bc_M_image 0 = .ok (.iload_n 1, 1) := by decide +kernel
theorem dd_M_image_1 : decode bc_M_image 1 = .ok (.iconst 0, 1) := by decide +kernel
theorem dd_M_image_2 : decode bc_M_image 2 = .ok (.iconst 1, 1) := by decide +kernel
theorem dd_M_image_3 : decode bc_M_image 3 = .ok (.invokestatic 102, 3) := by decide +kernel
theorem dd_M_image_6 : decode bc_M_image 6 = .ok (.ifCond .ne 6, 3) := by decide +kernel
theorem dd_M_image_9 : decode bc_M_image 9 = .ok (.bipush (-2), 2) := by decide +kernel
theorem dd_M_image_11 : decode bc_M_image 11 = .ok (.ireturn, 1) := by decide +kernel
theorem dd_M_image_12 : decode bc_M_image 12 = .ok (.iconst 0, 1) := by decide +kernel
theorem dd_M_image_13 : decode bc_M_image 13 = .ok (.istore_n 2, 1) := by decide +kernel
theorem dd_M_image_14 : decode bc_M_image 14 = .ok (.iload_n 2, 1) := by decide +kernel
theorem dd_M_image_15 : decode bc_M_image 15 = .ok (.sipush 5046, 3) := by decide +kernel
theorem dd_M_image_18 : decode bc_M_image 18 = .ok (.if_icmp .ge 27, 3) := by decide +kernel
theorem dd_M_image_21 : decode bc_M_image 21 = .ok (.aload_n 0, 1) := by decide +kernel
theorem dd_M_image_22 : decode bc_M_image 22 = .ok (.getfield 13, 3) := by decide +kernel
theorem dd_M_image_25 : decode bc_M_image 25 = .ok (.sipush 5046, 3) := by decide +kernel
theorem dd_M_image_28 : decode bc_M_image 28 = .ok (.iload_n 1, 1) := by decide +kernel
theorem dd_M_image_29 : decode bc_M_image 29 = .ok (.imul, 1) := by decide +kernel
theorem dd_M_image_30 : decode bc_M_image 30 = .ok (.iload_n 2, 1) := by decide +kernel
theorem dd_M_image_31 : decode bc_M_image 31 = .ok (.iadd, 1) := by decide +kernel
theorem dd_M_image_32 : decode bc_M_image 32 = .ok (.aload_n 0, 1) := by decide +kernel
theorem dd_M_image_33 : decode bc_M_image 33 = .ok (.getfield 7, 3) := by decide +kernel
theorem dd_M_image_36 : decode bc_M_image 36 = .ok (.iload_n 2, 1) := by decide +kernel
theorem dd_M_image_37 : decode bc_M_image 37 = .ok (.iaload, 1) := by decide +kernel
theorem dd_M_image_38 : decode bc_M_image 38 = .ok (.iastore, 1) := by decide +kernel
theorem dd_M_image_39 : decode bc_M_image 39 = .ok (.iinc 2 1, 3) := by decide +kernel
theorem dd_M_image_42 : decode bc_M_image 42 = .ok (.goto (-28), 3) := by decide +kernel
theorem dd_M_image_45 : decode bc_M_image 45 = .ok (.aload_n 0, 1) := by decide +kernel
theorem dd_M_image_46 : decode bc_M_image 46 = .ok (.getfield 16, 3) := by decide +kernel
theorem dd_M_image_49 : decode bc_M_image 49 = .ok (.iload_n 1, 1) := by decide +kernel
theorem dd_M_image_50 : decode bc_M_image 50 = .ok (.iconst 1, 1) := by decide +kernel
theorem dd_M_image_51 : decode bc_M_image 51 = .ok (.bastore, 1) := by decide +kernel
theorem dd_M_image_52 : decode bc_M_image 52 = .ok (.iconst 1, 1) := by decide +kernel
theorem dd_M_image_53 : decode bc_M_image 53 = .ok (.ireturn, 1) := by decide +kernel
theorem dd_M_restore_0 : decode bc_M_restore 0 = .ok (.iload_n 1, 1) := by decide +kernel
theorem dd_M_restore_1 : decode bc_M_restore 1 = .ok (.iconst 0, 1) := by decide +kernel
theorem dd_M_restore_2 : decode bc_M_restore 2 = .ok (.iconst 1, 1) := by decide +kernel
theorem dd_M_restore_3 : decode bc_M_restore 3 = .ok (.invokestatic 102, 3) := by decide +kernel
theorem dd_M_restore_6 : decode bc_M_restore 6 = .ok (.ifCond .ne 6, 3) := by decide +kernel
theorem dd_M_restore_9 : decode bc_M_restore 9 = .ok (.bipush (-2), 2) := by decide +kernel
theorem dd_M_restore_11 : decode bc_M_restore 11 = .ok (.ireturn, 1) := by decide +kernel
theorem dd_M_restore_12 : decode bc_M_restore 12 = .ok (.aload_n 0, 1) := by decide +kernel
theorem dd_M_restore_13 : decode bc_M_restore 13 = .ok (.getfield 16, 3) := by decide +kernel
theorem dd_M_restore_16 : decode bc_M_restore 16 = .ok (.iload_n 1, 1) := by decide +kernel
theorem dd_M_restore_17 : decode bc_M_restore 17 = .ok (.baload, 1) := by decide +kernel
theorem dd_M_restore_18 : decode bc_M_restore 18 = .ok (.ifCond .ne 6, 3) := by decide +kernel
theorem dd_M_restore_21 : decode bc_M_restore 21 = .ok (.bipush (-3), 2) := by decide +kernel
theorem dd_M_restore_23 : decode bc_M_restore 23 = .ok (.ireturn, 1) := by decide +kernel
theorem dd_M_restore_24 : decode bc_M_restore 24 = .ok (.iconst 0, 1) := by decide +kernel
theorem dd_M_restore_25 : decode bc_M_restore 25 = .ok (.istore_n 2, 1) := by decide +kernel
theorem dd_M_restore_26 : decode bc_M_restore 26 = .ok (.iload_n 2, 1) := by decide +kernel
theorem dd_M_restore_27 : decode bc_M_restore 27 = .ok (.sipush 5046, 3) := by decide +kernel
theorem dd_M_restore_30 : decode bc_M_restore 30 = .ok (.if_icmp .ge 27, 3) := by decide +kernel
theorem dd_M_restore_33 : decode bc_M_restore 33 = .ok (.aload_n 0, 1) := by decide +kernel
theorem dd_M_restore_34 : decode bc_M_restore 34 = .ok (.getfield 7, 3) := by decide +kernel
theorem dd_M_restore_37 : decode bc_M_restore 37 = .ok (.iload_n 2, 1) := by decide +kernel
theorem dd_M_restore_38 : decode bc_M_restore 38 = .ok (.aload_n 0, 1) := by decide +kernel
theorem dd_M_restore_39 : decode bc_M_restore 39 = .ok (.getfield 13, 3) := by decide +kernel
theorem dd_M_restore_42 : decode bc_M_restore 42 = .ok (.sipush 5046, 3) := by decide +kernel
theorem dd_M_restore_45 : decode bc_M_restore 45 = .ok (.iload_n 1, 1) := by decide +kernel
theorem dd_M_restore_46 : decode bc_M_restore 46 = .ok (.imul, 1) := by decide +kernel
theorem dd_M_restore_47 : decode bc_M_restore 47 = .ok (.iload_n 2, 1) := by decide +kernel
theorem dd_M_restore_48 : decode bc_M_restore 48 = .ok (.iadd, 1) := by decide +kernel
theorem dd_M_restore_49 : decode bc_M_restore 49 = .ok (.iaload, 1) := by decide +kernel
theorem dd_M_restore_50 : decode bc_M_restore 50 = .ok (.iastore, 1) := by decide +kernel
theorem dd_M_restore_51 : decode bc_M_restore 51 = .ok (.iinc 2 1, 3) := by decide +kernel
theorem dd_M_restore_54 : decode bc_M_restore 54 = .ok (.goto (-28), 3) := by decide +kernel
theorem dd_M_restore_57 : decode bc_M_restore 57 = .ok (.aload_n 0, 1) := by decide +kernel
theorem dd_M_restore_58 : decode bc_M_restore 58 = .ok (.invokevirtual 96, 3) := by decide +kernel
theorem dd_M_restore_61 : decode bc_M_restore 61 = .ok (.iconst 1, 1) := by decide +kernel
theorem dd_M_restore_62 : decode bc_M_restore 62 = .ok (.ireturn, 1) := by decide +kernel
theorem dd_M_count_0 : decode bc_M_count 0 = .ok (.iload_n 1, 1) := by decide +kernel
theorem dd_M_count_1 : decode bc_M_count 1 = .ok (.bipush 10, 2) := by decide +kernel
theorem dd_M_count_3 : decode bc_M_count 3 = .ok (.bipush 13, 2) := by decide +kernel
theorem dd_M_count_5 : decode bc_M_count 5 = .ok (.invokestatic 102, 3) := by decide +kernel
theorem dd_M_count_8 : decode bc_M_count 8 = .ok (.ifCond .eq 15, 3) := by decide +kernel
theorem dd_M_count_11 : decode bc_M_count 11 = .ok (.aload_n 0, 1) := by decide +kernel
theorem dd_M_count_12 : decode bc_M_count 12 = .ok (.getfield 7, 3) := by decide +kernel
theorem dd_M_count_15 : decode bc_M_count 15 = .ok (.iconst 2, 1) := by decide +kernel
theorem dd_M_count_16 : decode bc_M_count 16 = .ok (.iload_n 1, 1) := by decide +kernel
theorem dd_M_count_17 : decode bc_M_count 17 = .ok (.iadd, 1) := by decide +kernel
theorem dd_M_count_18 : decode bc_M_count 18 = .ok (.bipush 10, 2) := by decide +kernel
theorem dd_M_count_20 : decode bc_M_count 20 = .ok (.isub, 1) := by decide +kernel
theorem dd_M_count_21 : decode bc_M_count 21 = .ok (.iaload, 1) := by decide +kernel
theorem dd_M_count_22 : decode bc_M_count 22 = .ok (.ireturn, 1) := by decide +kernel
theorem dd_M_count_23 : decode bc_M_count 23 = .ok (.iload_n 1, 1) := by decide +kernel
theorem dd_M_count_24 : decode bc_M_count 24 = .ok (.tableswitch 88 0 4 #[36, 41, 46, 53, 58], 36) := by decide +kernel
theorem dd_M_count_60 : decode bc_M_count 60 = .ok (.aload_n 0, 1) := by decide +kernel
theorem dd_M_count_61 : decode bc_M_count 61 = .ok (.invokevirtual 72, 3) := by decide +kernel
theorem dd_M_count_64 : decode bc_M_count 64 = .ok (.ireturn, 1) := by decide +kernel
theorem dd_M_count_65 : decode bc_M_count 65 = .ok (.aload_n 0, 1) := by decide +kernel
theorem dd_M_count_66 : decode bc_M_count 66 = .ok (.getfield 99, 3) := by decide +kernel
theorem dd_M_count_69 : decode bc_M_count 69 = .ok (.ireturn, 1) := by decide +kernel
theorem dd_M_count_70 : decode bc_M_count 70 = .ok (.aload_n 0, 1) := by decide +kernel
theorem dd_M_count_71 : decode bc_M_count 71 = .ok (.getfield 7, 3) := by decide +kernel
theorem dd_M_count_74 : decode bc_M_count 74 = .ok (.iconst 1, 1) := by decide +kernel
theorem dd_M_count_75 : decode bc_M_count 75 = .ok (.iaload, 1) := by decide +kernel
theorem dd_M_count_76 : decode bc_M_count 76 = .ok (.ireturn, 1) := by decide +kernel
theorem dd_M_count_77 : decode bc_M_count 77 = .ok (.aload_n 0, 1) := by decide +kernel
theorem dd_M_count_78 : decode bc_M_count 78 = .ok (.getfield 130, 3) := by decide +kernel
theorem dd_M_count_81 : decode bc_M_count 81 = .ok (.ireturn, 1) := by decide +kernel
theorem dd_M_count_82 : decode bc_M_count 82 = .ok (.aload_n 0, 1) := by decide +kernel
theorem dd_M_count_83 : decode bc_M_count 83 = .ok (.getfield 16, 3) := by decide +kernel
theorem dd_M_count_86 : decode bc_M_count 86 = .ok (.iconst 0, 1) := by decide +kernel
theorem dd_M_count_87 : decode bc_M_count 87 = .ok (.baload, 1) := by decide +kernel
theorem dd_M_count_88 : decode bc_M_count 88 = .ok (.ifCond .eq 7, 3) := by decide +kernel
theorem dd_M_count_91 : decode bc_M_count 91 = .ok (.iconst 1, 1) := by decide +kernel
theorem dd_M_count_92 : decode bc_M_count 92 = .ok (.goto 4, 3) := by decide +kernel
theorem dd_M_count_95 : decode bc_M_count 95 = .ok (.iconst 0, 1) := by decide +kernel
theorem dd_M_count_96 : decode bc_M_count 96 = .ok (.aload_n 0, 1) := by decide +kernel
theorem dd_M_count_97 : decode bc_M_count 97 = .ok (.getfield 16, 3) := by decide +kernel
theorem dd_M_count_100 : decode bc_M_count 100 = .ok (.iconst 1, 1) := by decide +kernel
theorem dd_M_count_101 : decode bc_M_count 101 = .ok (.baload, 1) := by decide +kernel
theorem dd_M_count_102 : decode bc_M_count 102 = .ok (.ifCond .eq 7, 3) := by decide +kernel
theorem dd_M_count_105 : decode bc_M_count 105 = .ok (.iconst 2, 1) := by decide +kernel
theorem dd_M_count_106 : decode bc_M_count 106 = .ok (.goto 4, 3) := by decide +kernel
theorem dd_M_count_109 : decode bc_M_count 109 = .ok (.iconst 0, 1) := by decide +kernel
theorem dd_M_count_110 : decode bc_M_count 110 = .ok (.iadd, 1) := by decide +kernel
theorem dd_M_count_111 : decode bc_M_count 111 = .ok (.ireturn, 1) := by decide +kernel
theorem dd_M_count_112 : decode bc_M_count 112 = .ok (.bipush (-2), 2) := by decide +kernel
theorem dd_M_count_114 : decode bc_M_count 114 = .ok (.ireturn, 1) := by decide +kernel
theorem dd_J_bitCount_0 : decode bc_J_bitCount 0 = .ok (.iload_n 0, 1) := by decide +kernel
theorem dd_J_bitCount_1 : decode bc_J_bitCount 1 = .ok (.iload_n 0, 1) := by decide +kernel
theorem dd_J_bitCount_2 : decode bc_J_bitCount 2 = .ok (.iconst 1, 1) := by decide +kernel
theorem dd_J_bitCount_3 : decode bc_J_bitCount 3 = .ok (.iushr, 1) := by decide +kernel
theorem dd_J_bitCount_4 : decode bc_J_bitCount 4 = .ok (.ldc_w 265, 3) := by decide +kernel
theorem dd_J_bitCount_7 : decode bc_J_bitCount 7 = .ok (.iand, 1) := by decide +kernel
theorem dd_J_bitCount_8 : decode bc_J_bitCount 8 = .ok (.isub, 1) := by decide +kernel
theorem dd_J_bitCount_9 : decode bc_J_bitCount 9 = .ok (.istore_n 0, 1) := by decide +kernel
theorem dd_J_bitCount_10 : decode bc_J_bitCount 10 = .ok (.iload_n 0, 1) := by decide +kernel
theorem dd_J_bitCount_11 : decode bc_J_bitCount 11 = .ok (.ldc_w 266, 3) := by decide +kernel
theorem dd_J_bitCount_14 : decode bc_J_bitCount 14 = .ok (.iand, 1) := by decide +kernel
theorem dd_J_bitCount_15 : decode bc_J_bitCount 15 = .ok (.iload_n 0, 1) := by decide +kernel
theorem dd_J_bitCount_16 : decode bc_J_bitCount 16 = .ok (.iconst 2, 1) := by decide +kernel
theorem dd_J_bitCount_17 : decode bc_J_bitCount 17 = .ok (.iushr, 1) := by decide +kernel
theorem dd_J_bitCount_18 : decode bc_J_bitCount 18 = .ok (.ldc_w 266, 3) := by decide +kernel
theorem dd_J_bitCount_21 : decode bc_J_bitCount 21 = .ok (.iand, 1) := by decide +kernel
theorem dd_J_bitCount_22 : decode bc_J_bitCount 22 = .ok (.iadd, 1) := by decide +kernel
theorem dd_J_bitCount_23 : decode bc_J_bitCount 23 = .ok (.istore_n 0, 1) := by decide +kernel
theorem dd_J_bitCount_24 : decode bc_J_bitCount 24 = .ok (.iload_n 0, 1) := by decide +kernel
theorem dd_J_bitCount_25 : decode bc_J_bitCount 25 = .ok (.iload_n 0, 1) := by decide +kernel
theorem dd_J_bitCount_26 : decode bc_J_bitCount 26 = .ok (.iconst 4, 1) := by decide +kernel
theorem dd_J_bitCount_27 : decode bc_J_bitCount 27 = .ok (.iushr, 1) := by decide +kernel
theorem dd_J_bitCount_28 : decode bc_J_bitCount 28 = .ok (.iadd, 1) := by decide +kernel
theorem dd_J_bitCount_29 : decode bc_J_bitCount 29 = .ok (.ldc_w 267, 3) := by decide +kernel
theorem dd_J_bitCount_32 : decode bc_J_bitCount 32 = .ok (.iand, 1) := by decide +kernel
theorem dd_J_bitCount_33 : decode bc_J_bitCount 33 = .ok (.istore_n 0, 1) := by decide +kernel
theorem dd_J_bitCount_34 : decode bc_J_bitCount 34 = .ok (.iload_n 0, 1) := by decide +kernel
theorem dd_J_bitCount_35 : decode bc_J_bitCount 35 = .ok (.iload_n 0, 1) := by decide +kernel
theorem dd_J_bitCount_36 : decode bc_J_bitCount 36 = .ok (.bipush 8, 2) := by decide +kernel
theorem dd_J_bitCount_38 : decode bc_J_bitCount 38 = .ok (.iushr, 1) := by decide +kernel
theorem dd_J_bitCount_39 : decode bc_J_bitCount 39 = .ok (.iadd, 1) := by decide +kernel
theorem dd_J_bitCount_40 : decode bc_J_bitCount 40 = .ok (.istore_n 0, 1) := by decide +kernel
theorem dd_J_bitCount_41 : decode bc_J_bitCount 41 = .ok (.iload_n 0, 1) := by decide +kernel
theorem dd_J_bitCount_42 : decode bc_J_bitCount 42 = .ok (.iload_n 0, 1) := by decide +kernel
theorem dd_J_bitCount_43 : decode bc_J_bitCount 43 = .ok (.bipush 16, 2) := by decide +kernel
theorem dd_J_bitCount_45 : decode bc_J_bitCount 45 = .ok (.iushr, 1) := by decide +kernel
theorem dd_J_bitCount_46 : decode bc_J_bitCount 46 = .ok (.iadd, 1) := by decide +kernel
theorem dd_J_bitCount_47 : decode bc_J_bitCount 47 = .ok (.istore_n 0, 1) := by decide +kernel
theorem dd_J_bitCount_48 : decode bc_J_bitCount 48 = .ok (.iload_n 0, 1) := by decide +kernel
theorem dd_J_bitCount_49 : decode bc_J_bitCount 49 = .ok (.bipush 63, 2) := by decide +kernel
theorem dd_J_bitCount_51 : decode bc_J_bitCount 51 = .ok (.iand, 1) := by decide +kernel
theorem dd_J_bitCount_52 : decode bc_J_bitCount 52 = .ok (.ireturn, 1) := by decide +kernel
theorem dd_A_max_0 : decode bc_A_max 0 = .ok (.iload_n 0, 1) := by decide +kernel
theorem dd_A_max_1 : decode bc_A_max 1 = .ok (.iload_n 1, 1) := by decide +kernel
theorem dd_A_max_2 : decode bc_A_max 2 = .ok (.if_icmp .lt 7, 3) := by decide +kernel
theorem dd_A_max_5 : decode bc_A_max 5 = .ok (.iload_n 0, 1) := by decide +kernel
theorem dd_A_max_6 : decode bc_A_max 6 = .ok (.goto 4, 3) := by decide +kernel
theorem dd_A_max_9 : decode bc_A_max 9 = .ok (.iload_n 1, 1) := by decide +kernel
theorem dd_A_max_10 : decode bc_A_max 10 = .ok (.ireturn, 1) := by decide +kernel
theorem dd_L_0 : decode code 0 = .ok (.new 7, 3) := by decide +kernel
theorem dd_L_3 : decode code 3 = .ok (.dup, 1) := by decide +kernel
theorem dd_L_4 : decode code 4 = .ok (.invokespecial 9, 3) := by decide +kernel
theorem dd_L_7 : decode code 7 = .ok (.astore_n 1, 1) := by decide +kernel
theorem dd_L_8 : decode code 8 = .ok (.new 10, 3) := by decide +kernel
theorem dd_L_11 : decode code 11 = .ok (.dup, 1) := by decide +kernel
theorem dd_L_12 : decode code 12 = .ok (.invokespecial 12, 3) := by decide +kernel
theorem dd_L_15 : decode code 15 = .ok (.astore_n 2, 1) := by decide +kernel
theorem dd_L_16 : decode code 16 = .ok (.iconst 0, 1) := by decide +kernel
theorem dd_L_17 : decode code 17 = .ok (.istore_n 3, 1) := by decide +kernel
theorem dd_L_18 : decode code 18 = .ok (.iload_n 3, 1) := by decide +kernel
theorem dd_L_19 : decode code 19 = .ok (.aload_n 0, 1) := by decide +kernel
theorem dd_L_20 : decode code 20 = .ok (.arraylength, 1) := by decide +kernel
theorem dd_L_21 : decode code 21 = .ok (.iconst 4, 1) := by decide +kernel
theorem dd_L_22 : decode code 22 = .ok (.isub, 1) := by decide +kernel
theorem dd_L_23 : decode code 23 = .ok (.if_icmp .gt 624, 3) := by decide +kernel
theorem dd_L_26 : decode code 26 = .ok (.aload_n 0, 1) := by decide +kernel
theorem dd_L_27 : decode code 27 = .ok (.iload_n 3, 1) := by decide +kernel
theorem dd_L_28 : decode code 28 = .ok (.iaload, 1) := by decide +kernel
theorem dd_L_29 : decode code 29 = .ok (.bipush 31, 2) := by decide +kernel
theorem dd_L_31 : decode code 31 = .ok (.iand, 1) := by decide +kernel
theorem dd_L_32 : decode code 32 = .ok (.tableswitch 609 0 18 #[92, 115, 158, 201, 214, 237, 250, 273, 306, 339, 362, 395, 418, 451, 484, 507, 540, 563, 586], 92) := by decide +kernel
theorem dd_L_124 : decode code 124 = .ok (.aload_n 1, 1) := by decide +kernel
theorem dd_L_125 : decode code 125 = .ok (.aload_n 0, 1) := by decide +kernel
theorem dd_L_126 : decode code 126 = .ok (.iload_n 3, 1) := by decide +kernel
theorem dd_L_127 : decode code 127 = .ok (.iconst 1, 1) := by decide +kernel
theorem dd_L_128 : decode code 128 = .ok (.iadd, 1) := by decide +kernel
theorem dd_L_129 : decode code 129 = .ok (.iaload, 1) := by decide +kernel
theorem dd_L_130 : decode code 130 = .ok (.invokevirtual 13, 3) := by decide +kernel
theorem dd_L_133 : decode code 133 = .ok (.aload_n 2, 1) := by decide +kernel
theorem dd_L_134 : decode code 134 = .ok (.aload_n 0, 1) := by decide +kernel
theorem dd_L_135 : decode code 135 = .ok (.iload_n 3, 1) := by decide +kernel
theorem dd_L_136 : decode code 136 = .ok (.iconst 1, 1) := by decide +kernel
theorem dd_L_137 : decode code 137 = .ok (.iadd, 1) := by decide +kernel
theorem dd_L_138 : decode code 138 = .ok (.iaload, 1) := by decide +kernel
theorem dd_L_139 : decode code 139 = .ok (.invokevirtual 17, 3) := by decide +kernel
theorem dd_L_142 : decode code 142 = .ok (.if_icmp .eq 499, 3) := by decide +kernel
theorem dd_L_145 : decode code 145 = .ok (.iconst 0, 1) := by decide +kernel
theorem dd_L_146 : decode code 146 = .ok (.ireturn, 1) := by decide +kernel
theorem dd_L_147 : decode code 147 = .ok (.aload_n 1, 1) := by decide +kernel
theorem dd_L_148 : decode code 148 = .ok (.aload_n 0, 1) := by decide +kernel
theorem dd_L_149 : decode code 149 = .ok (.iload_n 3, 1) := by decide +kernel
theorem dd_L_150 : decode code 150 = .ok (.iconst 1, 1) := by decide +kernel
theorem dd_L_151 : decode code 151 = .ok (.iadd, 1) := by decide +kernel
theorem dd_L_152 : decode code 152 = .ok (.iaload, 1) := by decide +kernel
theorem dd_L_153 : decode code 153 = .ok (.aload_n 0, 1) := by decide +kernel
theorem dd_L_154 : decode code 154 = .ok (.iload_n 3, 1) := by decide +kernel
theorem dd_L_155 : decode code 155 = .ok (.iconst 2, 1) := by decide +kernel
theorem dd_L_156 : decode code 156 = .ok (.iadd, 1) := by decide +kernel
theorem dd_L_157 : decode code 157 = .ok (.iaload, 1) := by decide +kernel
theorem dd_L_158 : decode code 158 = .ok (.aload_n 0, 1) := by decide +kernel
theorem dd_L_159 : decode code 159 = .ok (.iload_n 3, 1) := by decide +kernel
theorem dd_L_160 : decode code 160 = .ok (.iconst 3, 1) := by decide +kernel
theorem dd_L_161 : decode code 161 = .ok (.iadd, 1) := by decide +kernel
theorem dd_L_162 : decode code 162 = .ok (.iaload, 1) := by decide +kernel
theorem dd_L_163 : decode code 163 = .ok (.invokevirtual 18, 3) := by decide +kernel
theorem dd_L_166 : decode code 166 = .ok (.aload_n 2, 1) := by decide +kernel
theorem dd_L_167 : decode code 167 = .ok (.aload_n 0, 1) := by decide +kernel
theorem dd_L_168 : decode code 168 = .ok (.iload_n 3, 1) := by decide +kernel
theorem dd_L_169 : decode code 169 = .ok (.iconst 1, 1) := by decide +kernel
theorem dd_L_170 : decode code 170 = .ok (.iadd, 1) := by decide +kernel
theorem dd_L_171 : decode code 171 = .ok (.iaload, 1) := by decide +kernel
theorem dd_L_172 : decode code 172 = .ok (.aload_n 0, 1) := by decide +kernel
theorem dd_L_173 : decode code 173 = .ok (.iload_n 3, 1) := by decide +kernel
theorem dd_L_174 : decode code 174 = .ok (.iconst 2, 1) := by decide +kernel
theorem dd_L_175 : decode code 175 = .ok (.iadd, 1) := by decide +kernel
theorem dd_L_176 : decode code 176 = .ok (.iaload, 1) := by decide +kernel
theorem dd_L_177 : decode code 177 = .ok (.aload_n 0, 1) := by decide +kernel
theorem dd_L_178 : decode code 178 = .ok (.iload_n 3, 1) := by decide +kernel
theorem dd_L_179 : decode code 179 = .ok (.iconst 3, 1) := by decide +kernel
theorem dd_L_180 : decode code 180 = .ok (.iadd, 1) := by decide +kernel
theorem dd_L_181 : decode code 181 = .ok (.iaload, 1) := by decide +kernel
theorem dd_L_182 : decode code 182 = .ok (.invokevirtual 22, 3) := by decide +kernel
theorem dd_L_185 : decode code 185 = .ok (.if_icmp .eq 456, 3) := by decide +kernel
theorem dd_L_188 : decode code 188 = .ok (.iconst 0, 1) := by decide +kernel
theorem dd_L_189 : decode code 189 = .ok (.ireturn, 1) := by decide +kernel
theorem dd_L_190 : decode code 190 = .ok (.aload_n 1, 1) := by decide +kernel
theorem dd_L_191 : decode code 191 = .ok (.aload_n 0, 1) := by decide +kernel
theorem dd_L_192 : decode code 192 = .ok (.iload_n 3, 1) := by decide +kernel
theorem dd_L_193 : decode code 193 = .ok (.iconst 1, 1) := by decide +kernel
theorem dd_L_194 : decode code 194 = .ok (.iadd, 1) := by decide +kernel
theorem dd_L_195 : decode code 195 = .ok (.iaload, 1) := by decide +kernel
theorem dd_L_196 : decode code 196 = .ok (.aload_n 0, 1) := by decide +kernel
theorem dd_L_197 : decode code 197 = .ok (.iload_n 3, 1) := by decide +kernel
theorem dd_L_198 : decode code 198 = .ok (.iconst 2, 1) := by decide +kernel
theorem dd_L_199 : decode code 199 = .ok (.iadd, 1) := by decide +kernel
theorem dd_L_200 : decode code 200 = .ok (.iaload, 1) := by decide +kernel
theorem dd_L_201 : decode code 201 = .ok (.aload_n 0, 1) := by decide +kernel
theorem dd_L_202 : decode code 202 = .ok (.iload_n 3, 1) := by decide +kernel
theorem dd_L_203 : decode code 203 = .ok (.iconst 3, 1) := by decide +kernel
theorem dd_L_204 : decode code 204 = .ok (.iadd, 1) := by decide +kernel
theorem dd_L_205 : decode code 205 = .ok (.iaload, 1) := by decide +kernel
theorem dd_L_206 : decode code 206 = .ok (.invokevirtual 23, 3) := by decide +kernel
theorem dd_L_209 : decode code 209 = .ok (.aload_n 2, 1) := by decide +kernel
theorem dd_L_210 : decode code 210 = .ok (.aload_n 0, 1) := by decide +kernel
theorem dd_L_211 : decode code 211 = .ok (.iload_n 3, 1) := by decide +kernel
theorem dd_L_212 : decode code 212 = .ok (.iconst 1, 1) := by decide +kernel
theorem dd_L_213 : decode code 213 = .ok (.iadd, 1) := by decide +kernel
theorem dd_L_214 : decode code 214 = .ok (.iaload, 1) := by decide +kernel
theorem dd_L_215 : decode code 215 = .ok (.aload_n 0, 1) := by decide +kernel
theorem dd_L_216 : decode code 216 = .ok (.iload_n 3, 1) := by decide +kernel
theorem dd_L_217 : decode code 217 = .ok (.iconst 2, 1) := by decide +kernel
theorem dd_L_218 : decode code 218 = .ok (.iadd, 1) := by decide +kernel
theorem dd_L_219 : decode code 219 = .ok (.iaload, 1) := by decide +kernel
theorem dd_L_220 : decode code 220 = .ok (.aload_n 0, 1) := by decide +kernel
theorem dd_L_221 : decode code 221 = .ok (.iload_n 3, 1) := by decide +kernel
theorem dd_L_222 : decode code 222 = .ok (.iconst 3, 1) := by decide +kernel
theorem dd_L_223 : decode code 223 = .ok (.iadd, 1) := by decide +kernel
theorem dd_L_224 : decode code 224 = .ok (.iaload, 1) := by decide +kernel
theorem dd_L_225 : decode code 225 = .ok (.invokevirtual 26, 3) := by decide +kernel
theorem dd_L_228 : decode code 228 = .ok (.if_icmp .eq 413, 3) := by decide +kernel
theorem dd_L_231 : decode code 231 = .ok (.iconst 0, 1) := by decide +kernel
theorem dd_L_232 : decode code 232 = .ok (.ireturn, 1) := by decide +kernel
theorem dd_L_233 : decode code 233 = .ok (.aload_n 1, 1) := by decide +kernel
theorem dd_L_234 : decode code 234 = .ok (.invokevirtual 27, 3) := by decide +kernel
theorem dd_L_237 : decode code 237 = .ok (.aload_n 2, 1) := by decide +kernel
theorem dd_L_238 : decode code 238 = .ok (.invokevirtual 31, 3) := by decide +kernel
theorem dd_L_241 : decode code 241 = .ok (.if_icmp .eq 400, 3) := by decide +kernel
theorem dd_L_244 : decode code 244 = .ok (.iconst 0, 1) := by decide +kernel
theorem dd_L_245 : decode code 245 = .ok (.ireturn, 1) := by decide +kernel
theorem dd_L_246 : decode code 246 = .ok (.aload_n 1, 1) := by decide +kernel
theorem dd_L_247 : decode code 247 = .ok (.aload_n 0, 1) := by decide +kernel
theorem dd_L_248 : decode code 248 = .ok (.iload_n 3, 1) := by decide +kernel
theorem dd_L_249 : decode code 249 = .ok (.iconst 1, 1) := by decide +kernel
theorem dd_L_250 : decode code 250 = .ok (.iadd, 1) := by decide +kernel
theorem dd_L_251 : decode code 251 = .ok (.iaload, 1) := by decide +kernel
theorem dd_L_252 : decode code 252 = .ok (.invokevirtual 32, 3) := by decide +kernel
theorem dd_L_255 : decode code 255 = .ok (.aload_n 2, 1) := by decide +kernel
theorem dd_L_256 : decode code 256 = .ok (.aload_n 0, 1) := by decide +kernel
theorem dd_L_257 : decode code 257 = .ok (.iload_n 3, 1) := by decide +kernel
theorem dd_L_258 : decode code 258 = .ok (.iconst 1, 1) := by decide +kernel
theorem dd_L_259 : decode code 259 = .ok (.iadd, 1) := by decide +kernel
theorem dd_L_260 : decode code 260 = .ok (.iaload, 1) := by decide +kernel
theorem dd_L_261 : decode code 261 = .ok (.invokevirtual 35, 3) := by decide +kernel
theorem dd_L_264 : decode code 264 = .ok (.if_icmp .eq 377, 3) := by decide +kernel
theorem dd_L_267 : decode code 267 = .ok (.iconst 0, 1) := by decide +kernel
theorem dd_L_268 : decode code 268 = .ok (.ireturn, 1) := by decide +kernel
theorem dd_L_269 : decode code 269 = .ok (.aload_n 1, 1) := by decide +kernel
theorem dd_L_270 : decode code 270 = .ok (.invokevirtual 36, 3) := by decide +kernel
theorem dd_L_273 : decode code 273 = .ok (.aload_n 2, 1) := by decide +kernel
theorem dd_L_274 : decode code 274 = .ok (.invokevirtual 39, 3) := by decide +kernel
theorem dd_L_277 : decode code 277 = .ok (.if_icmp .eq 364, 3) := by decide +kernel
theorem dd_L_280 : decode code 280 = .ok (.iconst 0, 1) := by decide +kernel
theorem dd_L_281 : decode code 281 = .ok (.ireturn, 1) := by decide +kernel
theorem dd_L_282 : decode code 282 = .ok (.aload_n 1, 1) := by decide +kernel
theorem dd_L_283 : decode code 283 = .ok (.aload_n 0, 1) := by decide +kernel
theorem dd_L_284 : decode code 284 = .ok (.iload_n 3, 1) := by decide +kernel
theorem dd_L_285 : decode code 285 = .ok (.iconst 1, 1) := by decide +kernel
theorem dd_L_286 : decode code 286 = .ok (.iadd, 1) := by decide +kernel
theorem dd_L_287 : decode code 287 = .ok (.iaload, 1) := by decide +kernel
theorem dd_L_288 : decode code 288 = .ok (.invokevirtual 40, 3) := by decide +kernel
theorem dd_L_291 : decode code 291 = .ok (.aload_n 2, 1) := by decide +kernel
theorem dd_L_292 : decode code 292 = .ok (.aload_n 0, 1) := by decide +kernel
theorem dd_L_293 : decode code 293 = .ok (.iload_n 3, 1) := by decide +kernel
theorem dd_L_294 : decode code 294 = .ok (.iconst 1, 1) := by decide +kernel
theorem dd_L_295 : decode code 295 = .ok (.iadd, 1) := by decide +kernel
theorem dd_L_296 : decode code 296 = .ok (.iaload, 1) := by decide +kernel
theorem dd_L_297 : decode code 297 = .ok (.invokevirtual 43, 3) := by decide +kernel
theorem dd_L_300 : decode code 300 = .ok (.if_icmp .eq 341, 3) := by decide +kernel
theorem dd_L_303 : decode code 303 = .ok (.iconst 0, 1) := by decide +kernel
theorem dd_L_304 : decode code 304 = .ok (.ireturn, 1) := by decide +kernel
theorem dd_L_305 : decode code 305 = .ok (.aload_n 1, 1) := by decide +kernel
theorem dd_L_306 : decode code 306 = .ok (.aload_n 0, 1) := by decide +kernel
theorem dd_L_307 : decode code 307 = .ok (.iload_n 3, 1) := by decide +kernel
theorem dd_L_308 : decode code 308 = .ok (.iconst 1, 1) := by decide +kernel
theorem dd_L_309 : decode code 309 = .ok (.iadd, 1) := by decide +kernel
theorem dd_L_310 : decode code 310 = .ok (.iaload, 1) := by decide +kernel
theorem dd_L_311 : decode code 311 = .ok (.aload_n 0, 1) := by decide +kernel
theorem dd_L_312 : decode code 312 = .ok (.iload_n 3, 1) := by decide +kernel
theorem dd_L_313 : decode code 313 = .ok (.iconst 2, 1) := by decide +kernel
theorem dd_L_314 : decode code 314 = .ok (.iadd, 1) := by decide +kernel
theorem dd_L_315 : decode code 315 = .ok (.iaload, 1) := by decide +kernel
theorem dd_L_316 : decode code 316 = .ok (.invokevirtual 44, 3) := by decide +kernel
theorem dd_L_319 : decode code 319 = .ok (.aload_n 2, 1) := by decide +kernel
theorem dd_L_320 : decode code 320 = .ok (.aload_n 0, 1) := by decide +kernel
theorem dd_L_321 : decode code 321 = .ok (.iload_n 3, 1) := by decide +kernel
theorem dd_L_322 : decode code 322 = .ok (.iconst 1, 1) := by decide +kernel
theorem dd_L_323 : decode code 323 = .ok (.iadd, 1) := by decide +kernel
theorem dd_L_324 : decode code 324 = .ok (.iaload, 1) := by decide +kernel
theorem dd_L_325 : decode code 325 = .ok (.aload_n 0, 1) := by decide +kernel
theorem dd_L_326 : decode code 326 = .ok (.iload_n 3, 1) := by decide +kernel
theorem dd_L_327 : decode code 327 = .ok (.iconst 2, 1) := by decide +kernel
theorem dd_L_328 : decode code 328 = .ok (.iadd, 1) := by decide +kernel
theorem dd_L_329 : decode code 329 = .ok (.iaload, 1) := by decide +kernel
theorem dd_L_330 : decode code 330 = .ok (.invokevirtual 48, 3) := by decide +kernel
theorem dd_L_333 : decode code 333 = .ok (.if_icmp .eq 308, 3) := by decide +kernel
theorem dd_L_336 : decode code 336 = .ok (.iconst 0, 1) := by decide +kernel
theorem dd_L_337 : decode code 337 = .ok (.ireturn, 1) := by decide +kernel
theorem dd_L_338 : decode code 338 = .ok (.aload_n 1, 1) := by decide +kernel
theorem dd_L_339 : decode code 339 = .ok (.aload_n 0, 1) := by decide +kernel
theorem dd_L_340 : decode code 340 = .ok (.iload_n 3, 1) := by decide +kernel
theorem dd_L_341 : decode code 341 = .ok (.iconst 1, 1) := by decide +kernel
theorem dd_L_342 : decode code 342 = .ok (.iadd, 1) := by decide +kernel
theorem dd_L_343 : decode code 343 = .ok (.iaload, 1) := by decide +kernel
theorem dd_L_344 : decode code 344 = .ok (.aload_n 0, 1) := by decide +kernel
theorem dd_L_345 : decode code 345 = .ok (.iload_n 3, 1) := by decide +kernel
theorem dd_L_346 : decode code 346 = .ok (.iconst 2, 1) := by decide +kernel
theorem dd_L_347 : decode code 347 = .ok (.iadd, 1) := by decide +kernel
theorem dd_L_348 : decode code 348 = .ok (.iaload, 1) := by decide +kernel
theorem dd_L_349 : decode code 349 = .ok (.invokevirtual 49, 3) := by decide +kernel
theorem dd_L_352 : decode code 352 = .ok (.aload_n 2, 1) := by decide +kernel
theorem dd_L_353 : decode code 353 = .ok (.aload_n 0, 1) := by decide +kernel
theorem dd_L_354 : decode code 354 = .ok (.iload_n 3, 1) := by decide +kernel
theorem dd_L_355 : decode code 355 = .ok (.iconst 1, 1) := by decide +kernel
theorem dd_L_356 : decode code 356 = .ok (.iadd, 1) := by decide +kernel
theorem dd_L_357 : decode code 357 = .ok (.iaload, 1) := by decide +kernel
theorem dd_L_358 : decode code 358 = .ok (.aload_n 0, 1) := by decide +kernel
theorem dd_L_359 : decode code 359 = .ok (.iload_n 3, 1) := by decide +kernel
theorem dd_L_360 : decode code 360 = .ok (.iconst 2, 1) := by decide +kernel
theorem dd_L_361 : decode code 361 = .ok (.iadd, 1) := by decide +kernel
theorem dd_L_362 : decode code 362 = .ok (.iaload, 1) := by decide +kernel
theorem dd_L_363 : decode code 363 = .ok (.invokevirtual 52, 3) := by decide +kernel
theorem dd_L_366 : decode code 366 = .ok (.if_icmp .eq 275, 3) := by decide +kernel
theorem dd_L_369 : decode code 369 = .ok (.iconst 0, 1) := by decide +kernel
theorem dd_L_370 : decode code 370 = .ok (.ireturn, 1) := by decide +kernel
theorem dd_L_371 : decode code 371 = .ok (.aload_n 1, 1) := by decide +kernel
theorem dd_L_372 : decode code 372 = .ok (.aload_n 0, 1) := by decide +kernel
theorem dd_L_373 : decode code 373 = .ok (.iload_n 3, 1) := by decide +kernel
theorem dd_L_374 : decode code 374 = .ok (.iconst 1, 1) := by decide +kernel
theorem dd_L_375 : decode code 375 = .ok (.iadd, 1) := by decide +kernel
theorem dd_L_376 : decode code 376 = .ok (.iaload, 1) := by decide +kernel
theorem dd_L_377 : decode code 377 = .ok (.invokevirtual 53, 3) := by decide +kernel
theorem dd_L_380 : decode code 380 = .ok (.aload_n 2, 1) := by decide +kernel
theorem dd_L_381 : decode code 381 = .ok (.aload_n 0, 1) := by decide +kernel
theorem dd_L_382 : decode code 382 = .ok (.iload_n 3, 1) := by decide +kernel
theorem dd_L_383 : decode code 383 = .ok (.iconst 1, 1) := by decide +kernel
theorem dd_L_384 : decode code 384 = .ok (.iadd, 1) := by decide +kernel
theorem dd_L_385 : decode code 385 = .ok (.iaload, 1) := by decide +kernel
theorem dd_L_386 : decode code 386 = .ok (.invokevirtual 56, 3) := by decide +kernel
theorem dd_L_389 : decode code 389 = .ok (.if_icmp .eq 252, 3) := by decide +kernel
theorem dd_L_392 : decode code 392 = .ok (.iconst 0, 1) := by decide +kernel
theorem dd_L_393 : decode code 393 = .ok (.ireturn, 1) := by decide +kernel
theorem dd_L_394 : decode code 394 = .ok (.aload_n 1, 1) := by decide +kernel
theorem dd_L_395 : decode code 395 = .ok (.aload_n 0, 1) := by decide +kernel
theorem dd_L_396 : decode code 396 = .ok (.iload_n 3, 1) := by decide +kernel
theorem dd_L_397 : decode code 397 = .ok (.iconst 1, 1) := by decide +kernel
theorem dd_L_398 : decode code 398 = .ok (.iadd, 1) := by decide +kernel
theorem dd_L_399 : decode code 399 = .ok (.iaload, 1) := by decide +kernel
theorem dd_L_400 : decode code 400 = .ok (.aload_n 0, 1) := by decide +kernel
theorem dd_L_401 : decode code 401 = .ok (.iload_n 3, 1) := by decide +kernel
theorem dd_L_402 : decode code 402 = .ok (.iconst 2, 1) := by decide +kernel
theorem dd_L_403 : decode code 403 = .ok (.iadd, 1) := by decide +kernel
theorem dd_L_404 : decode code 404 = .ok (.iaload, 1) := by decide +kernel
theorem dd_L_405 : decode code 405 = .ok (.invokevirtual 57, 3) := by decide +kernel
theorem dd_L_408 : decode code 408 = .ok (.aload_n 2, 1) := by decide +kernel
theorem dd_L_409 : decode code 409 = .ok (.aload_n 0, 1) := by decide +kernel
theorem dd_L_410 : decode code 410 = .ok (.iload_n 3, 1) := by decide +kernel
theorem dd_L_411 : decode code 411 = .ok (.iconst 1, 1) := by decide +kernel
theorem dd_L_412 : decode code 412 = .ok (.iadd, 1) := by decide +kernel
theorem dd_L_413 : decode code 413 = .ok (.iaload, 1) := by decide +kernel
theorem dd_L_414 : decode code 414 = .ok (.aload_n 0, 1) := by decide +kernel
theorem dd_L_415 : decode code 415 = .ok (.iload_n 3, 1) := by decide +kernel
theorem dd_L_416 : decode code 416 = .ok (.iconst 2, 1) := by decide +kernel
theorem dd_L_417 : decode code 417 = .ok (.iadd, 1) := by decide +kernel
theorem dd_L_418 : decode code 418 = .ok (.iaload, 1) := by decide +kernel
theorem dd_L_419 : decode code 419 = .ok (.invokevirtual 60, 3) := by decide +kernel
theorem dd_L_422 : decode code 422 = .ok (.if_icmp .eq 219, 3) := by decide +kernel
theorem dd_L_425 : decode code 425 = .ok (.iconst 0, 1) := by decide +kernel
theorem dd_L_426 : decode code 426 = .ok (.ireturn, 1) := by decide +kernel
theorem dd_L_427 : decode code 427 = .ok (.aload_n 1, 1) := by decide +kernel
theorem dd_L_428 : decode code 428 = .ok (.aload_n 0, 1) := by decide +kernel
theorem dd_L_429 : decode code 429 = .ok (.iload_n 3, 1) := by decide +kernel
theorem dd_L_430 : decode code 430 = .ok (.iconst 1, 1) := by decide +kernel
theorem dd_L_431 : decode code 431 = .ok (.iadd, 1) := by decide +kernel
theorem dd_L_432 : decode code 432 = .ok (.iaload, 1) := by decide +kernel
theorem dd_L_433 : decode code 433 = .ok (.invokevirtual 61, 3) := by decide +kernel
theorem dd_L_436 : decode code 436 = .ok (.aload_n 2, 1) := by decide +kernel
theorem dd_L_437 : decode code 437 = .ok (.aload_n 0, 1) := by decide +kernel
theorem dd_L_438 : decode code 438 = .ok (.iload_n 3, 1) := by decide +kernel
theorem dd_L_439 : decode code 439 = .ok (.iconst 1, 1) := by decide +kernel
theorem dd_L_440 : decode code 440 = .ok (.iadd, 1) := by decide +kernel
theorem dd_L_441 : decode code 441 = .ok (.iaload, 1) := by decide +kernel
theorem dd_L_442 : decode code 442 = .ok (.invokevirtual 64, 3) := by decide +kernel
theorem dd_L_445 : decode code 445 = .ok (.if_icmp .eq 196, 3) := by decide +kernel
theorem dd_L_448 : decode code 448 = .ok (.iconst 0, 1) := by decide +kernel
theorem dd_L_449 : decode code 449 = .ok (.ireturn, 1) := by decide +kernel
theorem dd_L_450 : decode code 450 = .ok (.aload_n 1, 1) := by decide +kernel
theorem dd_L_451 : decode code 451 = .ok (.aload_n 0, 1) := by decide +kernel
theorem dd_L_452 : decode code 452 = .ok (.iload_n 3, 1) := by decide +kernel
theorem dd_L_453 : decode code 453 = .ok (.iconst 1, 1) := by decide +kernel
theorem dd_L_454 : decode code 454 = .ok (.iadd, 1) := by decide +kernel
theorem dd_L_455 : decode code 455 = .ok (.iaload, 1) := by decide +kernel
theorem dd_L_456 : decode code 456 = .ok (.aload_n 0, 1) := by decide +kernel
theorem dd_L_457 : decode code 457 = .ok (.iload_n 3, 1) := by decide +kernel
theorem dd_L_458 : decode code 458 = .ok (.iconst 2, 1) := by decide +kernel
theorem dd_L_459 : decode code 459 = .ok (.iadd, 1) := by decide +kernel
theorem dd_L_460 : decode code 460 = .ok (.iaload, 1) := by decide +kernel
theorem dd_L_461 : decode code 461 = .ok (.invokevirtual 65, 3) := by decide +kernel
theorem dd_L_464 : decode code 464 = .ok (.aload_n 2, 1) := by decide +kernel
theorem dd_L_465 : decode code 465 = .ok (.aload_n 0, 1) := by decide +kernel
theorem dd_L_466 : decode code 466 = .ok (.iload_n 3, 1) := by decide +kernel
theorem dd_L_467 : decode code 467 = .ok (.iconst 1, 1) := by decide +kernel
theorem dd_L_468 : decode code 468 = .ok (.iadd, 1) := by decide +kernel
theorem dd_L_469 : decode code 469 = .ok (.iaload, 1) := by decide +kernel
theorem dd_L_470 : decode code 470 = .ok (.aload_n 0, 1) := by decide +kernel
theorem dd_L_471 : decode code 471 = .ok (.iload_n 3, 1) := by decide +kernel
theorem dd_L_472 : decode code 472 = .ok (.iconst 2, 1) := by decide +kernel
theorem dd_L_473 : decode code 473 = .ok (.iadd, 1) := by decide +kernel
theorem dd_L_474 : decode code 474 = .ok (.iaload, 1) := by decide +kernel
theorem dd_L_475 : decode code 475 = .ok (.invokevirtual 68, 3) := by decide +kernel
theorem dd_L_478 : decode code 478 = .ok (.if_icmp .eq 163, 3) := by decide +kernel
theorem dd_L_481 : decode code 481 = .ok (.iconst 0, 1) := by decide +kernel
theorem dd_L_482 : decode code 482 = .ok (.ireturn, 1) := by decide +kernel
theorem dd_L_483 : decode code 483 = .ok (.aload_n 1, 1) := by decide +kernel
theorem dd_L_484 : decode code 484 = .ok (.aload_n 0, 1) := by decide +kernel
theorem dd_L_485 : decode code 485 = .ok (.iload_n 3, 1) := by decide +kernel
theorem dd_L_486 : decode code 486 = .ok (.iconst 1, 1) := by decide +kernel
theorem dd_L_487 : decode code 487 = .ok (.iadd, 1) := by decide +kernel
theorem dd_L_488 : decode code 488 = .ok (.iaload, 1) := by decide +kernel
theorem dd_L_489 : decode code 489 = .ok (.aload_n 0, 1) := by decide +kernel
theorem dd_L_490 : decode code 490 = .ok (.iload_n 3, 1) := by decide +kernel
theorem dd_L_491 : decode code 491 = .ok (.iconst 2, 1) := by decide +kernel
theorem dd_L_492 : decode code 492 = .ok (.iadd, 1) := by decide +kernel
theorem dd_L_493 : decode code 493 = .ok (.iaload, 1) := by decide +kernel
theorem dd_L_494 : decode code 494 = .ok (.invokevirtual 69, 3) := by decide +kernel
theorem dd_L_497 : decode code 497 = .ok (.aload_n 2, 1) := by decide +kernel
theorem dd_L_498 : decode code 498 = .ok (.aload_n 0, 1) := by decide +kernel
theorem dd_L_499 : decode code 499 = .ok (.iload_n 3, 1) := by decide +kernel
theorem dd_L_500 : decode code 500 = .ok (.iconst 1, 1) := by decide +kernel
theorem dd_L_501 : decode code 501 = .ok (.iadd, 1) := by decide +kernel
theorem dd_L_502 : decode code 502 = .ok (.iaload, 1) := by decide +kernel
theorem dd_L_503 : decode code 503 = .ok (.aload_n 0, 1) := by decide +kernel
theorem dd_L_504 : decode code 504 = .ok (.iload_n 3, 1) := by decide +kernel
theorem dd_L_505 : decode code 505 = .ok (.iconst 2, 1) := by decide +kernel
theorem dd_L_506 : decode code 506 = .ok (.iadd, 1) := by decide +kernel
theorem dd_L_507 : decode code 507 = .ok (.iaload, 1) := by decide +kernel
theorem dd_L_508 : decode code 508 = .ok (.invokevirtual 72, 3) := by decide +kernel
theorem dd_L_511 : decode code 511 = .ok (.if_icmp .eq 130, 3) := by decide +kernel
theorem dd_L_514 : decode code 514 = .ok (.iconst 0, 1) := by decide +kernel
theorem dd_L_515 : decode code 515 = .ok (.ireturn, 1) := by decide +kernel
theorem dd_L_516 : decode code 516 = .ok (.aload_n 1, 1) := by decide +kernel
theorem dd_L_517 : decode code 517 = .ok (.aload_n 0, 1) := by decide +kernel
theorem dd_L_518 : decode code 518 = .ok (.iload_n 3, 1) := by decide +kernel
theorem dd_L_519 : decode code 519 = .ok (.iconst 1, 1) := by decide +kernel
theorem dd_L_520 : decode code 520 = .ok (.iadd, 1) := by decide +kernel
theorem dd_L_521 : decode code 521 = .ok (.iaload, 1) := by decide +kernel
theorem dd_L_522 : decode code 522 = .ok (.invokevirtual 73, 3) := by decide +kernel
theorem dd_L_525 : decode code 525 = .ok (.aload_n 2, 1) := by decide +kernel
theorem dd_L_526 : decode code 526 = .ok (.aload_n 0, 1) := by decide +kernel
theorem dd_L_527 : decode code 527 = .ok (.iload_n 3, 1) := by decide +kernel
theorem dd_L_528 : decode code 528 = .ok (.iconst 1, 1) := by decide +kernel
theorem dd_L_529 : decode code 529 = .ok (.iadd, 1) := by decide +kernel
theorem dd_L_530 : decode code 530 = .ok (.iaload, 1) := by decide +kernel
theorem dd_L_531 : decode code 531 = .ok (.invokevirtual 76, 3) := by decide +kernel
theorem dd_L_534 : decode code 534 = .ok (.if_icmp .eq 107, 3) := by decide +kernel
theorem dd_L_537 : decode code 537 = .ok (.iconst 0, 1) := by decide +kernel
theorem dd_L_538 : decode code 538 = .ok (.ireturn, 1) := by decide +kernel
theorem dd_L_539 : decode code 539 = .ok (.aload_n 1, 1) := by decide +kernel
theorem dd_L_540 : decode code 540 = .ok (.aload_n 0, 1) := by decide +kernel
theorem dd_L_541 : decode code 541 = .ok (.iload_n 3, 1) := by decide +kernel
theorem dd_L_542 : decode code 542 = .ok (.iconst 1, 1) := by decide +kernel
theorem dd_L_543 : decode code 543 = .ok (.iadd, 1) := by decide +kernel
theorem dd_L_544 : decode code 544 = .ok (.iaload, 1) := by decide +kernel
theorem dd_L_545 : decode code 545 = .ok (.aload_n 0, 1) := by decide +kernel
theorem dd_L_546 : decode code 546 = .ok (.iload_n 3, 1) := by decide +kernel
theorem dd_L_547 : decode code 547 = .ok (.iconst 2, 1) := by decide +kernel
theorem dd_L_548 : decode code 548 = .ok (.iadd, 1) := by decide +kernel
theorem dd_L_549 : decode code 549 = .ok (.iaload, 1) := by decide +kernel
theorem dd_L_550 : decode code 550 = .ok (.invokevirtual 77, 3) := by decide +kernel
theorem dd_L_553 : decode code 553 = .ok (.aload_n 2, 1) := by decide +kernel
theorem dd_L_554 : decode code 554 = .ok (.aload_n 0, 1) := by decide +kernel
theorem dd_L_555 : decode code 555 = .ok (.iload_n 3, 1) := by decide +kernel
theorem dd_L_556 : decode code 556 = .ok (.iconst 1, 1) := by decide +kernel
theorem dd_L_557 : decode code 557 = .ok (.iadd, 1) := by decide +kernel
theorem dd_L_558 : decode code 558 = .ok (.iaload, 1) := by decide +kernel
theorem dd_L_559 : decode code 559 = .ok (.aload_n 0, 1) := by decide +kernel
theorem dd_L_560 : decode code 560 = .ok (.iload_n 3, 1) := by decide +kernel
theorem dd_L_561 : decode code 561 = .ok (.iconst 2, 1) := by decide +kernel
theorem dd_L_562 : decode code 562 = .ok (.iadd, 1) := by decide +kernel
theorem dd_L_563 : decode code 563 = .ok (.iaload, 1) := by decide +kernel
theorem dd_L_564 : decode code 564 = .ok (.invokevirtual 80, 3) := by decide +kernel
theorem dd_L_567 : decode code 567 = .ok (.if_icmp .eq 74, 3) := by decide +kernel
theorem dd_L_570 : decode code 570 = .ok (.iconst 0, 1) := by decide +kernel
theorem dd_L_571 : decode code 571 = .ok (.ireturn, 1) := by decide +kernel
theorem dd_L_572 : decode code 572 = .ok (.aload_n 1, 1) := by decide +kernel
theorem dd_L_573 : decode code 573 = .ok (.aload_n 0, 1) := by decide +kernel
theorem dd_L_574 : decode code 574 = .ok (.iload_n 3, 1) := by decide +kernel
theorem dd_L_575 : decode code 575 = .ok (.iconst 1, 1) := by decide +kernel
theorem dd_L_576 : decode code 576 = .ok (.iadd, 1) := by decide +kernel
theorem dd_L_577 : decode code 577 = .ok (.iaload, 1) := by decide +kernel
theorem dd_L_578 : decode code 578 = .ok (.invokevirtual 81, 3) := by decide +kernel
theorem dd_L_581 : decode code 581 = .ok (.aload_n 2, 1) := by decide +kernel
theorem dd_L_582 : decode code 582 = .ok (.aload_n 0, 1) := by decide +kernel
theorem dd_L_583 : decode code 583 = .ok (.iload_n 3, 1) := by decide +kernel
theorem dd_L_584 : decode code 584 = .ok (.iconst 1, 1) := by decide +kernel
theorem dd_L_585 : decode code 585 = .ok (.iadd, 1) := by decide +kernel
theorem dd_L_586 : decode code 586 = .ok (.iaload, 1) := by decide +kernel
theorem dd_L_587 : decode code 587 = .ok (.invokevirtual 84, 3) := by decide +kernel
theorem dd_L_590 : decode code 590 = .ok (.if_icmp .eq 51, 3) := by decide +kernel
theorem dd_L_593 : decode code 593 = .ok (.iconst 0, 1) := by decide +kernel
theorem dd_L_594 : decode code 594 = .ok (.ireturn, 1) := by decide +kernel
theorem dd_L_595 : decode code 595 = .ok (.aload_n 1, 1) := by decide +kernel
theorem dd_L_596 : decode code 596 = .ok (.aload_n 0, 1) := by decide +kernel
theorem dd_L_597 : decode code 597 = .ok (.iload_n 3, 1) := by decide +kernel
theorem dd_L_598 : decode code 598 = .ok (.iconst 1, 1) := by decide +kernel
theorem dd_L_599 : decode code 599 = .ok (.iadd, 1) := by decide +kernel
theorem dd_L_600 : decode code 600 = .ok (.iaload, 1) := by decide +kernel
theorem dd_L_601 : decode code 601 = .ok (.invokevirtual 85, 3) := by decide +kernel
theorem dd_L_604 : decode code 604 = .ok (.aload_n 2, 1) := by decide +kernel
theorem dd_L_605 : decode code 605 = .ok (.aload_n 0, 1) := by decide +kernel
theorem dd_L_606 : decode code 606 = .ok (.iload_n 3, 1) := by decide +kernel
theorem dd_L_607 : decode code 607 = .ok (.iconst 1, 1) := by decide +kernel
theorem dd_L_608 : decode code 608 = .ok (.iadd, 1) := by decide +kernel
theorem dd_L_609 : decode code 609 = .ok (.iaload, 1) := by decide +kernel
theorem dd_L_610 : decode code 610 = .ok (.invokevirtual 88, 3) := by decide +kernel
theorem dd_L_613 : decode code 613 = .ok (.if_icmp .eq 28, 3) := by decide +kernel
theorem dd_L_616 : decode code 616 = .ok (.iconst 0, 1) := by decide +kernel
theorem dd_L_617 : decode code 617 = .ok (.ireturn, 1) := by decide +kernel
theorem dd_L_618 : decode code 618 = .ok (.aload_n 1, 1) := by decide +kernel
theorem dd_L_619 : decode code 619 = .ok (.aload_n 0, 1) := by decide +kernel
theorem dd_L_620 : decode code 620 = .ok (.iload_n 3, 1) := by decide +kernel
theorem dd_L_621 : decode code 621 = .ok (.iconst 1, 1) := by decide +kernel
theorem dd_L_622 : decode code 622 = .ok (.iadd, 1) := by decide +kernel
theorem dd_L_623 : decode code 623 = .ok (.iaload, 1) := by decide +kernel
theorem dd_L_624 : decode code 624 = .ok (.invokevirtual 89, 3) := by decide +kernel
theorem dd_L_627 : decode code 627 = .ok (.aload_n 2, 1) := by decide +kernel
theorem dd_L_628 : decode code 628 = .ok (.aload_n 0, 1) := by decide +kernel
theorem dd_L_629 : decode code 629 = .ok (.iload_n 3, 1) := by decide +kernel
theorem dd_L_630 : decode code 630 = .ok (.iconst 1, 1) := by decide +kernel
theorem dd_L_631 : decode code 631 = .ok (.iadd, 1) := by decide +kernel
theorem dd_L_632 : decode code 632 = .ok (.iaload, 1) := by decide +kernel
theorem dd_L_633 : decode code 633 = .ok (.invokevirtual 92, 3) := by decide +kernel
theorem dd_L_636 : decode code 636 = .ok (.if_icmp .eq 5, 3) := by decide +kernel
theorem dd_L_639 : decode code 639 = .ok (.iconst 0, 1) := by decide +kernel
theorem dd_L_640 : decode code 640 = .ok (.ireturn, 1) := by decide +kernel
theorem dd_L_641 : decode code 641 = .ok (.iinc 3 4, 3) := by decide +kernel
theorem dd_L_644 : decode code 644 = .ok (.goto (-626), 3) := by decide +kernel
theorem dd_L_647 : decode code 647 = .ok (.iconst 1, 1) := by decide +kernel
theorem dd_L_648 : decode code 648 = .ok (.ireturn, 1) := by decide +kernel
end
section
/-! ===== numbers: ints of the machine as integers ===== -/
abbrev Mm : Type := Nat → Nat → Int
def iI (x : Int) : Int32 := Int32.ofInt x
def inR (x : Int) : Prop := -2147483648 ≤ x ∧ x ≤ 2147483647
theorem rk {x : Int} (h : (decide (-2147483648 ≤ x) && decide (x ≤ 2147483647)) = true) : inR x := by
  simp only [Bool.and_eq_true, decide_eq_true_eq] at h; exact h
theorem rng (x : Int32) : inR x.toInt := by
  have h1 := Int32.toInt_lt x
  have h2 := Int32.le_toInt x
  constructor <;> omega
theorem iI_of (x : Int32) : iI x.toInt = x := Int32.ofInt_toInt x
theorem iI_toInt {x : Int} (h : inR x) : (iI x).toInt = x := Int32.toInt_ofInt_of_le (by have := h.1; omega) (by have := h.2; omega)
theorem iI_inj {a b : Int} (ha : inR a) (hb : inR b) : iI a = iI b ↔ a = b := by
  rw [← Int32.toInt_inj, iI_toInt ha, iI_toInt hb]
theorem iI_lt {a b : Int} (ha : inR a) (hb : inR b) : iI a < iI b ↔ a < b := by
  rw [Int32.lt_iff_toInt_lt, iI_toInt ha, iI_toInt hb]
theorem iI_le {a b : Int} (ha : inR a) (hb : inR b) : iI a ≤ iI b ↔ a ≤ b := by
  rw [Int32.le_iff_toInt_le, iI_toInt ha, iI_toInt hb]
theorem iI_add (a b : Int) : iI a + iI b = iI (a + b) := Int32.toBitVec_inj.1 (by simp [iI, BitVec.ofInt_add])
theorem iI_mul (a b : Int) : iI a * iI b = iI (a * b) := Int32.toBitVec_inj.1 (by simp [iI, BitVec.ofInt_mul])
theorem iI_sub (a b : Int) : iI a - iI b = iI (a - b) := by
  have h : iI (a - b) + iI b = iI a := by rw [iI_add]; congr 1; omega
  rw [← h]; simp
theorem iI_nat (n : Nat) : iI (n : Int) = nI n := Int32.ofInt_eq_ofNat
theorem iI_clamp {i : Int} (h : inR i) : (iI i).toNatClampNeg = i.toNat := by
  show (iI i).toInt.toNat = _
  rw [iI_toInt h]
theorem iI_in {i : Int} {n : Nat} (h : 0 ≤ i ∧ i < (n : Int)) (hn : n < 2147483648) : vp_in (iI i) n := by
  rw [vp_in_iff, iI_toInt ⟨by omega, by omega⟩]; exact h
theorem inR_ix {i : Int} {n : Nat} (h : 0 ≤ i ∧ i < (n : Int)) (hn : n < 2147483648) : inR i := ⟨by omega, by omega⟩
theorem iI_div {a b : Int} (ha : inR a) (hb : inR b) (h0 : 0 ≤ a) (h1 : 0 < b) : iI a / iI b = iI (a / b) := by
  obtain ⟨x, rfl⟩ := Int.eq_ofNat_of_zero_le h0
  obtain ⟨y, rfl⟩ := Int.eq_ofNat_of_zero_le (Int.le_of_lt h1)
  have h2 := ha.2
  have h3 := hb.2
  show iI ((x : Nat) : Int) / iI ((y : Nat) : Int) = iI (((x : Nat) : Int) / ((y : Nat) : Int))
  rw [iI_nat, iI_nat, pk_div (by omega) (by omega) (by omega), ← iI_nat]; rfl
theorem iI_rem {a b : Int} (ha : inR a) (hb : inR b) (h0 : 0 ≤ a) (h1 : 0 < b) : iI a - iI a / iI b * iI b = iI (a % b) := by
  obtain ⟨x, rfl⟩ := Int.eq_ofNat_of_zero_le h0
  obtain ⟨y, rfl⟩ := Int.eq_ofNat_of_zero_le (Int.le_of_lt h1)
  have h2 := ha.2
  have h3 := hb.2
  show iI ((x : Nat) : Int) - iI ((x : Nat) : Int) / iI ((y : Nat) : Int) * iI ((y : Nat) : Int) = iI (((x : Nat) : Int) % ((y : Nat) : Int))
  rw [iI_nat, iI_nat, pk_rem (by omega) (by omega) (by omega), ← iI_nat]; rfl
theorem rDiv {a b : Int} (ha : inR a) (h0 : 0 ≤ a) (h1 : 0 < b) : inR (a / b) := by
  have h2 := ha.2
  have h3 : 0 ≤ a / b := Int.ediv_nonneg h0 (Int.le_of_lt h1)
  have h4 : a / b ≤ a := Int.ediv_le_self b h0
  constructor <;> omega
theorem rMod {a b : Int} (hb : inR b) (h1 : 0 < b) : inR (a % b) := by
  have h2 := hb.2
  have h3 : 0 ≤ a % b := Int.emod_nonneg a (by omega)
  have h4 : a % b < b := Int.emod_lt_of_pos a h1
  constructor <;> omega
theorem iI_ne0 {b : Int} (hb : inR b) (h1 : 0 < b) : ¬ iI b = 0 := by
  intro h
  have h2 : iI b = iI 0 := h
  rw [iI_inj hb (rk rfl)] at h2
  omega
def bShl (a b : Int) : Int := (iI a <<< (iI b &&& 31)).toInt
def bShr (a b : Int) : Int := (iI a >>> (iI b &&& 31)).toInt
def bUshr (a b : Int) : Int := ((iI a).toUInt32 >>> ((iI b).toUInt32 &&& Int32.toUInt32 31)).toInt32.toInt
def bAnd (a b : Int) : Int := (iI a &&& iI b).toInt
def bOr (a b : Int) : Int := (iI a ||| iI b).toInt
def bXor (a b : Int) : Int := (iI a ^^^ iI b).toInt
/-! ===== the memory: cell, place: integer ===== -/
def mr (M : Mm) : Prop := ∀ k j, inR (M k j)
def ms (M : Mm) (k j : Nat) (v : Int) : Mm := fun a => if a = k then (fun b => if b = j then v else M k b) else M a
theorem ms_self (M : Mm) (k j : Nat) (v : Int) : ms M k j v k j = v := by simp [ms]
theorem ms_ne (M : Mm) {k j b : Nat} (v : Int) (h : b ≠ j) : ms M k j v k b = M k b := by simp [ms, h]
theorem ms_o (M : Mm) {k a : Nat} (j : Nat) (v : Int) (h : a ≠ k) : ms M k j v a = M a := by simp [ms, h]
theorem ms_k (M : Mm) (k j : Nat) (v : Int) : ms M k j v k = fun b => if b = j then v else M k b := by simp [ms]
theorem ms_r {M : Mm} {k j : Nat} {v : Int} (hM : mr M) (hv : inR v) : mr (ms M k j v) := by
  intro a b
  unfold ms
  split
  · dsimp only
    split
    · exact hv
    · exact hM k b
  · exact hM a b
/-- n places of the row k1, from sp on, copied to the row k2, from dp on -/
def mc (M : Mm) (k1 sp k2 dp n : Nat) : Mm := fun a => if a = k2 then (fun b => if dp ≤ b ∧ b < dp + n then M k1 (sp + (b - dp)) else M k2 b) else M a
theorem mc_o (M : Mm) {k2 a : Nat} (k1 sp dp n : Nat) (h : a ≠ k2) : mc M k1 sp k2 dp n a = M a := by simp [mc, h]
theorem mc_r {M : Mm} {k1 sp k2 dp n : Nat} (hM : mr M) : mr (mc M k1 sp k2 dp n) := by
  intro a b
  unfold mc
  split
  · dsimp only
    split
    · exact hM _ _
    · exact hM _ _
  · exact hM a b
/-! ===== the world: which cells there are, where, and what each holds of a memory ===== -/
abbrev Xw : Type := va_G × List (ClassId × FieldType) × List Nat × (Nat → Nat) × (Nat → Mm → va_E)
def xD (X : Xw) : va_G := X.1
def xT (X : Xw) : List (ClassId × FieldType) := X.2.1
def xK (X : Xw) : List Nat := X.2.2.1
def xA (X : Xw) : Nat → Nat := X.2.2.2.1
def xS (X : Xw) : Nat → Mm → va_E := X.2.2.2.2
abbrev vc : List vw_C := [(rr_G, ft_G, 5), (rr_D, ft_D, 2), (rr_P, ft_P, 9), (rr_S, ft_S, 4), (rr_Y, ft_Y, 4), (rr_T, ft_T, 6), (rr_M, ft_M, 25)]
def wl (X : Xw) (M : Mm) : va_W := (xK X).map (fun k => (xA X k, xS X k M))
def lcl (X : Xw) : Prop := (xK X).Nodup ∧ ∀ (k : Nat) (M M' : Mm), M k = M' k → xS X k M = xS X k M'
def xF (X : Xw) (sz : Nat) : Nat → Prop := fun q => (∃ k ∈ xK X, q = xA X k) ∨ sz ≤ q
def St (X : Xw) (A : Nat → Prop) (s : State) (M : Mm) (H : Heap) (locs : List Loc) : Prop := va_P (xD X) vc (wl X M) H ∧ va_D A (wl X M) ∧ va_S A s.heap H locs ∧ mr M
theorem wl_get {X : Xw} {M : Mm} {q k : Nat} (h : (xK X)[q]? = some k) : (wl X M)[q]? = some (xA X k, xS X k M) := by
  unfold wl; rw [List.getElem?_map, h]; rfl
theorem wl_inv {X : Xw} {M : Mm} {q : Nat} {z : Nat × va_E} (h : (wl X M)[q]? = some z) : ∃ k, (xK X)[q]? = some k ∧ z = (xA X k, xS X k M) := by
  unfold wl at h
  rw [List.getElem?_map] at h
  cases hk : (xK X)[q]? with
  | none => rw [hk] at h; cases h
  | some k => rw [hk] at h; exact ⟨k, rfl, (Option.some.inj h).symm⟩
theorem wl_set {X : Xw} {M M' : Mm} {q k : Nat} {e : va_E} (hl : lcl X) (h : (xK X)[q]? = some k) (he : xS X k M' = e) (ho : ∀ a, a ≠ k → M' a = M a) : (wl X M).set q (xA X k, e) = wl X M' := by
  have hq := (List.getElem?_eq_some_iff.mp h).1
  apply List.ext_getElem?
  intro i
  by_cases hi : i = q
  · subst hi
    rw [List.getElem?_set_self (by simpa [wl] using hq), wl_get h, he]
  · rw [List.getElem?_set_ne (Ne.symm hi)]
    cases hk : (xK X)[i]? with
    | none => simp [wl, hk]
    | some k' =>
      rw [wl_get hk, wl_get hk]
      have hne : k' ≠ k := by
        intro e1
        subst e1
        have h1 := List.getElem?_eq_some_iff.mp hk
        have h2 := List.getElem?_eq_some_iff.mp h
        obtain ⟨l1, e1⟩ := h1
        obtain ⟨l2, e2⟩ := h2
        exact hi ((List.getElem_inj (hl.1)).mp (e1.trans e2.symm))
      rw [hl.2 k' M' M (ho k' hne)]
theorem wl_D {X : Xw} {A : Nat → Prop} {M M' : Mm} (h : va_D A (wl X M)) : va_D A (wl X M') := by
  refine ⟨fun i j a b ha hb hab => ?_, fun i a ha => ?_⟩
  · obtain ⟨k, h1, rfl⟩ := wl_inv ha
    obtain ⟨k', h2, rfl⟩ := wl_inv hb
    exact h.1 i j _ _ (wl_get h1) (wl_get h2) hab
  · obtain ⟨k, h1, rfl⟩ := wl_inv ha
    exact h.2 i (xA X k, xS X k M) (wl_get h1)
theorem xF_in {X : Xw} {A : Nat → Prop} {M : Mm} {sz : Nat} (hD : va_D A (wl X M)) (hA : ∀ q, sz ≤ q → A q) : ∀ q, xF X sz q → A q := by
  intro q h
  rcases h with ⟨k, hk, rfl⟩ | h
  · obtain ⟨i, hi⟩ := List.getElem?_of_mem hk
    exact hD.2 i _ (wl_get hi)
  · exact hA q h
theorem xF_D {X : Xw} {A : Nat → Prop} {M : Mm} {sz : Nat} (hD : va_D A (wl X M)) : va_D (xF X sz) (wl X M) := by
  refine ⟨hD.1, fun i a ha => ?_⟩
  obtain ⟨k, h1, rfl⟩ := wl_inv ha
  exact Or.inl ⟨k, List.mem_of_getElem? h1, rfl⟩
/-- a cell that is an object: the kind ci, its fields out of the memory -/
def Ob (X : Xw) (k ci : Nat) (fs : Mm → List Value) : Prop := k ∈ xK X ∧ ∀ M, xS X k M = .inr (ci, fs M)
def AI (X : Xw) (k n : Nat) : Prop := k ∈ xK X ∧ n < 2147483648 ∧ ∃ cA, (cA, FieldType.int) ∈ xT X ∧ ∀ M, xS X k M = .inl (cA, n, .inl (fun j => iI (M k j)))
def AZ (X : Xw) (k n : Nat) : Prop := k ∈ xK X ∧ n < 2147483648 ∧ ∃ cA, (cA, FieldType.boolean) ∈ xT X ∧ ∀ M, xS X k M = .inl (cA, n, .inl (fun j => iI (M k j)))
def AQ (X : Xw) (k n : Nat) (f : Nat → Option Nat) : Prop := k ∈ xK X ∧ n < 2147483648 ∧ ∃ cA, (cA, FieldType.object "TurnCounts$Setting") ∈ xT X ∧ ∀ M, xS X k M = .inl (cA, n, .inr (.inr (.inr (.inr f))))
/-- what stays over a method: machine, code, tables, the world's plan -/
def Cx (p : Program) (s : State) (m : MethodId) (args : Array Value) (c : Code) (cc : ByteArray) (nL : Nat) (own : String) (X : Xw) (A : Nat → Prop) : Prop :=
  (p.tables.exec = Jvm.exec ∧ c.code = cc ∧ c.maxLocals = nL ∧ s.vm.findClass own = some m.cls ∧ ∀ w ∈ tg, w.before args s = true) ∧ va_K (xD X) vc (xT X) s ∧ lcl X ∧ ∀ q, s.heap.size ≤ q → A q
theorem tb_gi : GoodIn tg tg := fun w hw => ⟨hw, good_of_word (List.mem_filter.mp hw).2⟩
theorem tb_cons {c : Cond} {ws : List Cond} (h : c ∈ tg) (hw : GoodIn tg ws) : GoodIn tg (c :: ws) := fun w hm => (List.mem_cons.mp hm).elim (fun e => by rw [e]; exact tb_gi c h) (hw w)
end
section
section XR
variable {p : Program} {l : Launch} {e : Env} {R : Room} {s : State} {m : MethodId} {args : Array Value} {below : List Frame} {meth : Method} {c : Code} {H : Heap} {locs : List Loc} {cells slots : Nat} {Q : State → Prop}
variable {cc : ByteArray} {pc : Nat} {ls : Array Slot} {rest : List Value} {nL : Nat} {own : String} {X : Xw} {A : Nat → Prop} {M : Mm}
theorem x_get (hC : Cx p s m args c cc nL own X A) (hS : St X A s M H locs) {k ci N idx : Nat} {C nm ds : String} {T : u_T} {b : Bool} {fs : Mm → List Value} (ho : Ob X k ci fs) (hc : vc[ci]? = some (C, T, N)) (hin : ∀ w ∈ u_ws C T N, w ∈ tg) (j : Nat) (hj : j < N) (hlk : Cond.fieldLink own idx C nm ds ∈ tg) (e1 : T j = (C, nm, ds, b)) {v : Value} (hv : (fs M)[j]? = some v) (hd : decode cc pc = .ok (.getfield idx, 3))
    (kk : W p l e R s m args below meth c H locs cells slots Q (F0 m (pc + 3) ls (v :: rest))) : W p l e R s m args below meth c H locs cells slots Q (F0 m pc ls (.ref (xA X k) :: rest)) := by
  obtain ⟨⟨hx, hb, hml, hown, hts⟩, hK, hl, hA⟩ := hC
  obtain ⟨q, hq⟩ := List.getElem?_of_mem ho.1
  refine va_get (D := xD X) (ci := ci) (v := v) (C := C) (T := T) (N := N) (fs := fs M) (ref := C) hx hb hts hin hown hK hS.1 q (by rw [wl_get hq, ho.2 M]) hc j hj (by rw [e1]; exact hts _ hlk) (by rw [e1]; exact fun _ h => h) hv hd kk
theorem x_put (hC : Cx p s m args c cc nL own X A) (hS : St X A s M H locs) {k ci N idx : Nat} {C nm ds : String} {T : u_T} {fs : Mm → List Value} (ho : Ob X k ci fs) (hc : vc[ci]? = some (C, T, N)) (hin : ∀ w ∈ u_ws C T N, w ∈ tg) (ty0 : Nat → FieldType) (hty : ∀ k, k < N → parseFieldDescriptor (T k).2.2.1 = some (ty0 k)) (hnm : ∀ a, a < N → ∀ b, b < N → a ≠ b → (T a).2.1 ≠ (T b).2.1) (j : Nat) (hj : j < N) (hlk : Cond.fieldLink own idx C nm ds ∈ tg) (e1 : T j = (C, nm, ds, false)) {v : Int} (hv : inR v) (hn : narrow (ty0 j) (.int (iI v)) = .int (iI v)) (hfit : fits (ty0 j) (.int (iI v)) = true) (hset : fs (ms M k j v) = (fs M).set j (.int (iI v))) (hlen : j < (fs M).length) (hd : decode cc pc = .ok (.putfield idx, 3))
    (kk : ∀ (H1 : Heap) (locs1 : List Loc), St X A s (ms M k j v) H1 locs1 → W p l e R s m args below meth c H1 locs1 cells slots Q (F0 m (pc + 3) ls rest)) : W p l e R s m args below meth c H locs cells slots Q (F0 m pc ls (.int (iI v) :: .ref (xA X k) :: rest)) := by
  obtain ⟨⟨hx, hb, hml, hown, hts⟩, hK, hl, hA⟩ := hC
  obtain ⟨hP, hD, hSS, hr⟩ := hS
  obtain ⟨q, hq⟩ := List.getElem?_of_mem ho.1
  refine va_put (D := xD X) (ci := ci) (v := .int (iI v)) (ty := ty0 j) (C := C) (T := T) (N := N) (fs := fs M) (ref := C) hx hb hts hin ty0 hty hnm hown hK hP hD hSS q (by rw [wl_get hq, ho.2 M]) hc j hj (by rw [e1]; exact hts _ hlk) (by rw [e1]; exact fun _ h => h) (by rw [e1]) (hty j hj) hn hfit hlen hd (fun H1 locs1 hP1 hD1 hS1 => ?_)
  have e2 : (wl X M).set q (xA X k, .inr (ci, (fs M).set j (.int (iI v)))) = wl X (ms M k j v) := wl_set hl hq (by rw [ho.2, hset]) (fun a ha => ms_o M j v ha)
  rw [e2] at hP1 hD1
  exact kk H1 locs1 ⟨hP1, hD1, hS1, ms_r hr hv⟩

theorem x_iald (hC : Cx p s m args c cc nL own X A) (hS : St X A s M H locs) {k n : Nat} (ha : AI X k n) {i : Int} (hi : 0 ≤ i ∧ i < (n : Int)) (hd : decode cc pc = .ok (.iaload, 1))
    (kk : W p l e R s m args below meth c H locs cells slots Q (F0 m (pc + 1) ls (.int (iI (M k i.toNat)) :: rest))) : W p l e R s m args below meth c H locs cells slots Q (F0 m pc ls (.int (iI i) :: .ref (xA X k) :: rest)) := by
  obtain ⟨⟨hx, hb, hml, hown, hts⟩, hK, hl, hA⟩ := hC
  obtain ⟨hk, hn, cA, hcA, hsh⟩ := ha
  obtain ⟨q, hq⟩ := List.getElem?_of_mem hk
  obtain ⟨t, ht⟩ := List.getElem?_of_mem hcA
  refine va_iald hx hb hK hS.1 q t (by rw [wl_get hq, hsh M]) ht (iI_in hi hn) hd ?_
  rw [iI_clamp (inR_ix hi hn)]
  exact kk

theorem x_zald (hC : Cx p s m args c cc nL own X A) (hS : St X A s M H locs) {k n : Nat} (ha : AZ X k n) {i : Int} (hi : 0 ≤ i ∧ i < (n : Int)) (hd : decode cc pc = .ok (.baload, 1))
    (kk : W p l e R s m args below meth c H locs cells slots Q (F0 m (pc + 1) ls (.int (iI (M k i.toNat)) :: rest))) : W p l e R s m args below meth c H locs cells slots Q (F0 m pc ls (.int (iI i) :: .ref (xA X k) :: rest)) := by
  obtain ⟨⟨hx, hb, hml, hown, hts⟩, hK, hl, hA⟩ := hC
  obtain ⟨hk, hn, cA, hcA, hsh⟩ := ha
  obtain ⟨q, hq⟩ := List.getElem?_of_mem hk
  obtain ⟨t, ht⟩ := List.getElem?_of_mem hcA
  refine va_zald hx hb hK hS.1 q t (by rw [wl_get hq, hsh M]) ht (iI_in hi hn) hd ?_
  rw [iI_clamp (inR_ix hi hn)]
  exact kk

theorem upd_ms {M : Mm} {k j : Nat} {v : Int} : upd (fun b => iI (M k b)) j (iI v) = fun b => iI (ms M k j v k b) := by
  funext b
  unfold upd
  by_cases h : b = j
  · rw [if_pos h, h, ms_self]
  · rw [if_neg h, ms_ne M v h]
theorem x_iast (hC : Cx p s m args c cc nL own X A) (hS : St X A s M H locs) {k n : Nat} (ha : AI X k n) {i v : Int} (hi : 0 ≤ i ∧ i < (n : Int)) (hv : inR v) (hd : decode cc pc = .ok (.iastore, 1))
    (kk : ∀ (H1 : Heap) (locs1 : List Loc), St X A s (ms M k i.toNat v) H1 locs1 → W p l e R s m args below meth c H1 locs1 cells slots Q (F0 m (pc + 1) ls rest)) : W p l e R s m args below meth c H locs cells slots Q (F0 m pc ls (.int (iI v) :: .int (iI i) :: .ref (xA X k) :: rest)) := by
  obtain ⟨⟨hx, hb, hml, hown, hts⟩, hK, hl, hA⟩ := hC
  obtain ⟨hP, hD, hSS, hr⟩ := hS
  obtain ⟨hk, hn, cA, hcA, hsh⟩ := ha
  obtain ⟨q, hq⟩ := List.getElem?_of_mem hk
  obtain ⟨t, ht⟩ := List.getElem?_of_mem hcA
  refine va_iast hx hb hK hP hD hSS q t (by rw [wl_get hq, hsh M]) ht (iI_in hi hn) hd (fun H1 locs1 hP1 hD1 hS1 => ?_)
  rw [iI_clamp (inR_ix hi hn), upd_ms] at hP1 hD1
  have e2 : (wl X M).set q (xA X k, .inl (cA, n, .inl (fun b => iI (ms M k i.toNat v k b)))) = wl X (ms M k i.toNat v) := wl_set hl hq (by rw [hsh]) (fun a ha => ms_o M _ v ha)
  rw [e2] at hP1 hD1
  exact kk H1 locs1 ⟨hP1, hD1, hS1, ms_r hr hv⟩
theorem x_zast (hC : Cx p s m args c cc nL own X A) (hS : St X A s M H locs) {k n : Nat} (ha : AZ X k n) {i v : Int} (hi : 0 ≤ i ∧ i < (n : Int)) (hv : inR v) (hz : vp_nar .boolean (iI v) = iI v) (hd : decode cc pc = .ok (.bastore, 1))
    (kk : ∀ (H1 : Heap) (locs1 : List Loc), St X A s (ms M k i.toNat v) H1 locs1 → W p l e R s m args below meth c H1 locs1 cells slots Q (F0 m (pc + 1) ls rest)) : W p l e R s m args below meth c H locs cells slots Q (F0 m pc ls (.int (iI v) :: .int (iI i) :: .ref (xA X k) :: rest)) := by
  obtain ⟨⟨hx, hb, hml, hown, hts⟩, hK, hl, hA⟩ := hC
  obtain ⟨hP, hD, hSS, hr⟩ := hS
  obtain ⟨hk, hn, cA, hcA, hsh⟩ := ha
  obtain ⟨q, hq⟩ := List.getElem?_of_mem hk
  obtain ⟨t, ht⟩ := List.getElem?_of_mem hcA
  refine va_zast hx hb hK hP hD hSS q t (by rw [wl_get hq, hsh M]) ht (iI_in hi hn) hd (fun H1 locs1 hP1 hD1 hS1 => ?_)
  rw [iI_clamp (inR_ix hi hn), hz, upd_ms] at hP1 hD1
  have e2 : (wl X M).set q (xA X k, .inl (cA, n, .inl (fun b => iI (ms M k i.toNat v k b)))) = wl X (ms M k i.toNat v) := wl_set hl hq (by rw [hsh]) (fun a ha => ms_o M _ v ha)
  rw [e2] at hP1 hD1
  exact kk H1 locs1 ⟨hP1, hD1, hS1, ms_r hr hv⟩
theorem x_alen (hC : Cx p s m args c cc nL own X A) (hS : St X A s M H locs) {k n : Nat} {z : Int} (ha : AI X k n) (hz : (n : Int) = z) (hd : decode cc pc = .ok (.arraylength, 1))
    (kk : W p l e R s m args below meth c H locs cells slots Q (F0 m (pc + 1) ls (.int (iI z) :: rest))) : W p l e R s m args below meth c H locs cells slots Q (F0 m pc ls (.ref (xA X k) :: rest)) := by
  obtain ⟨⟨hx, hb, hml, hown, hts⟩, hK, hl, hA⟩ := hC
  obtain ⟨hk, hn, cA, hcA, hsh⟩ := ha
  obtain ⟨q, hq⟩ := List.getElem?_of_mem hk
  obtain ⟨t, ht⟩ := List.getElem?_of_mem hcA
  refine va_alen (v := iI z) hx hb hK hS.1 q t (x := (n, .inl (fun j => iI (M k j)))) (by rw [wl_get hq, hsh M]) ht (by rw [← hz, iI_nat]; rfl) hd kk
theorem x_aald (hC : Cx p s m args c cc nL own X A) (hS : St X A s M H locs) {k n a : Nat} {f : Nat → Option Nat} (ha : AQ X k n f) {i : Int} (hi : 0 ≤ i ∧ i < (n : Int)) (hf : f i.toNat = some a) (hd : decode cc pc = .ok (.aaload, 1))
    (kk : W p l e R s m args below meth c H locs cells slots Q (F0 m (pc + 1) ls (.ref a :: rest))) : W p l e R s m args below meth c H locs cells slots Q (F0 m pc ls (.int (iI i) :: .ref (xA X k) :: rest)) := by
  obtain ⟨⟨hx, hb, hml, hown, hts⟩, hK, hl, hA⟩ := hC
  obtain ⟨hk, hn, cA, hcA, hsh⟩ := ha
  obtain ⟨q, hq⟩ := List.getElem?_of_mem hk
  obtain ⟨t, ht⟩ := List.getElem?_of_mem hcA
  refine va_aldq (C := "TurnCounts$Setting") (f := f) hx hb hK hS.1 q t (by rw [wl_get hq, hsh M]) ht (iI_in hi hn) hd ?_
  rw [iI_clamp (inR_ix hi hn), hf]
  exact kk
theorem cpy_mc {M : Mm} {k1 sp k2 dp n : Nat} : va_cpy (fun b => iI (M k1 b)) (fun b => iI (M k2 b)) sp dp n = fun b => iI (mc M k1 sp k2 dp n k2 b) := by
  funext b
  unfold va_cpy mc
  rw [if_pos rfl]
  split <;> rfl
theorem x_copy (hC : Cx p s m args c cc nL own X A) (hS : St X A s M H locs) {k1 k2 n1 n2 idx : Nat} (ha1 : AI X k1 n1) (ha2 : AI X k2 n2) {sp dp n : Int} (h1 : 0 ≤ sp) (h2 : 0 ≤ dp) (h3 : 0 ≤ n) (h4 : sp + n ≤ (n1 : Int)) (h5 : dp + n ≤ (n2 : Int)) (hls : ls.size = nL)
    (hlk : Cond.methodLink own idx arraycopyName ∈ tg) (hnat : Cond.native arraycopyName ∈ tg) (hst : Cond.static arraycopyName ∈ tg) (hini : Cond.initialized "java/lang/System" ∈ tg) (hframes : 1 ≤ R.frames) (hlocals : (rest.map fun v => v.category).sum + (nativeFrameWords "java/lang/System" "arraycopy" 5 + 11) ≤ R.locals) (hd : decode cc pc = .ok (.invokestatic idx, 3))
    (kk : ∀ (H1 : Heap) (locs1 : List Loc), St X A s (mc M k1 sp.toNat k2 dp.toNat n.toNat) H1 locs1 → W p l e R s m args below meth c H1 locs1 cells slots Q (F0 m (pc + 3) ls rest)) : W p l e R s m args below meth c H locs cells slots Q (F0 m pc ls (.int (iI n) :: .int (iI dp) :: .ref (xA X k2) :: .int (iI sp) :: .ref (xA X k1) :: rest)) := by
  obtain ⟨⟨hx, hb, hml, hown, hts⟩, hK, hl, hA⟩ := hC
  obtain ⟨hP, hD, hSS, hr⟩ := hS
  obtain ⟨hk1, hn1, c1, hc1, hsh1⟩ := ha1
  obtain ⟨hk2, hn2, c2, hc2, hsh2⟩ := ha2
  obtain ⟨q1, hq1⟩ := List.getElem?_of_mem hk1
  obtain ⟨t1, ht1⟩ := List.getElem?_of_mem hc1
  obtain ⟨q2, hq2⟩ := List.getElem?_of_mem hk2
  obtain ⟨t2, ht2⟩ := List.getElem?_of_mem hc2
  have r1 : inR sp := ⟨by omega, by omega⟩
  have r2 : inR dp := ⟨by omega, by omega⟩
  have r3 : inR n := ⟨by omega, by omega⟩
  have z0 : ∀ {x : Int}, inR x → 0 ≤ x → ¬ iI x < 0 := fun {x} hx h0 h => by
    have h9 : iI x < iI 0 := h
    rw [iI_lt hx (rk rfl)] at h9
    omega
  refine va_copyi (ty := .int) hx hb (by rw [hml, hls]) hown (hts _ hlk) (hts _ hnat) (hts _ hst) (hts _ hini) hK hP hD hSS q1 q2 t1 t2 (by rw [wl_get hq1, hsh1 M]) (by rw [wl_get hq2, hsh2 M]) ht1 ht2 rfl (z0 r1 h1) (z0 r2 h2) (z0 r3 h3) (by rw [iI_clamp r1, iI_clamp r3]; omega) (by rw [iI_clamp r2, iI_clamp r3]; omega) (fun i _ => rfl) hframes hlocals hd (fun H1 locs1 hP1 hD1 hS1 => ?_)
  rw [iI_clamp r1, iI_clamp r2, iI_clamp r3, cpy_mc] at hP1 hD1
  have e2 : (wl X M).set q2 (xA X k2, .inl (c2, n2, .inl (fun b => iI (mc M k1 sp.toNat k2 dp.toNat n.toNat k2 b)))) = wl X (mc M k1 sp.toNat k2 dp.toNat n.toNat) := wl_set hl hq2 (by rw [hsh2]) (fun a ha => mc_o M _ _ _ _ ha)
  rw [e2] at hP1 hD1
  exact kk H1 locs1 ⟨hP1, hD1, hS1, mc_r hr⟩

theorem x_add (hC : Cx p s m args c cc nL own X A) {a b : Int} (hd : decode cc pc = .ok (.iadd, 1)) (kk : W p l e R s m args below meth c H locs cells slots Q (F0 m (pc + 1) ls (.int (iI (a + b)) :: rest))) : W p l e R s m args below meth c H locs cells slots Q (F0 m pc ls (.int (iI b) :: .int (iI a) :: rest)) := lv_iadd hC.1.1 hC.1.2.1 hd (by rw [iI_add]; exact kk)

theorem x_sub (hC : Cx p s m args c cc nL own X A) {a b : Int} (hd : decode cc pc = .ok (.isub, 1)) (kk : W p l e R s m args below meth c H locs cells slots Q (F0 m (pc + 1) ls (.int (iI (a - b)) :: rest))) : W p l e R s m args below meth c H locs cells slots Q (F0 m pc ls (.int (iI b) :: .int (iI a) :: rest)) := lv_isub hC.1.1 hC.1.2.1 hd (by rw [iI_sub]; exact kk)

theorem x_mul (hC : Cx p s m args c cc nL own X A) {a b : Int} (hd : decode cc pc = .ok (.imul, 1)) (kk : W p l e R s m args below meth c H locs cells slots Q (F0 m (pc + 1) ls (.int (iI (a * b)) :: rest))) : W p l e R s m args below meth c H locs cells slots Q (F0 m pc ls (.int (iI b) :: .int (iI a) :: rest)) := lv_imul hC.1.1 hC.1.2.1 hd (by rw [iI_mul]; exact kk)

theorem x_div (hC : Cx p s m args c cc nL own X A) {a b : Int} (ha : inR a) (hb : inR b) (h : 0 ≤ a ∧ 0 < b) (hd : decode cc pc = .ok (.idiv, 1)) (kk : W p l e R s m args below meth c H locs cells slots Q (F0 m (pc + 1) ls (.int (iI (a / b)) :: rest))) : W p l e R s m args below meth c H locs cells slots Q (F0 m pc ls (.int (iI b) :: .int (iI a) :: rest)) := lv_idiv hC.1.1 hC.1.2.1 hd (iI_ne0 hb h.2) (by rw [iI_div ha hb h.1 h.2]; exact kk)
theorem x_rem (hC : Cx p s m args c cc nL own X A) {a b : Int} (ha : inR a) (hb : inR b) (h : 0 ≤ a ∧ 0 < b) (hd : decode cc pc = .ok (.irem, 1)) (kk : W p l e R s m args below meth c H locs cells slots Q (F0 m (pc + 1) ls (.int (iI (a % b)) :: rest))) : W p l e R s m args below meth c H locs cells slots Q (F0 m pc ls (.int (iI b) :: .int (iI a) :: rest)) := lv_irem hC.1.1 hC.1.2.1 hd (iI_ne0 hb h.2) (by rw [iI_rem ha hb h.1 h.2]; exact kk)

theorem x_shl (hC : Cx p s m args c cc nL own X A) {a b : Int} (hd : decode cc pc = .ok (.ishl, 1)) (kk : W p l e R s m args below meth c H locs cells slots Q (F0 m (pc + 1) ls (.int (iI (bShl a b)) :: rest))) : W p l e R s m args below meth c H locs cells slots Q (F0 m pc ls (.int (iI b) :: .int (iI a) :: rest)) := lv_ishl hC.1.1 hC.1.2.1 hd (by rw [bShl, iI_of] at kk; exact kk)

theorem x_shr (hC : Cx p s m args c cc nL own X A) {a b : Int} (hd : decode cc pc = .ok (.ishr, 1)) (kk : W p l e R s m args below meth c H locs cells slots Q (F0 m (pc + 1) ls (.int (iI (bShr a b)) :: rest))) : W p l e R s m args below meth c H locs cells slots Q (F0 m pc ls (.int (iI b) :: .int (iI a) :: rest)) := lv_ishr hC.1.1 hC.1.2.1 hd (by rw [bShr, iI_of] at kk; exact kk)

theorem x_and (hC : Cx p s m args c cc nL own X A) {a b : Int} (hd : decode cc pc = .ok (.iand, 1)) (kk : W p l e R s m args below meth c H locs cells slots Q (F0 m (pc + 1) ls (.int (iI (bAnd a b)) :: rest))) : W p l e R s m args below meth c H locs cells slots Q (F0 m pc ls (.int (iI b) :: .int (iI a) :: rest)) := lv_iand hC.1.1 hC.1.2.1 hd (by rw [bAnd, iI_of] at kk; exact kk)

theorem x_or (hC : Cx p s m args c cc nL own X A) {a b : Int} (hd : decode cc pc = .ok (.ior, 1)) (kk : W p l e R s m args below meth c H locs cells slots Q (F0 m (pc + 1) ls (.int (iI (bOr a b)) :: rest))) : W p l e R s m args below meth c H locs cells slots Q (F0 m pc ls (.int (iI b) :: .int (iI a) :: rest)) := lv_ior hC.1.1 hC.1.2.1 hd (by rw [bOr, iI_of] at kk; exact kk)

theorem x_xor (hC : Cx p s m args c cc nL own X A) {a b : Int} (hd : decode cc pc = .ok (.ixor, 1)) (kk : W p l e R s m args below meth c H locs cells slots Q (F0 m (pc + 1) ls (.int (iI (bXor a b)) :: rest))) : W p l e R s m args below meth c H locs cells slots Q (F0 m pc ls (.int (iI b) :: .int (iI a) :: rest)) := lv_ixor hC.1.1 hC.1.2.1 hd (by rw [bXor, iI_of] at kk; exact kk)

theorem x_ushr (hC : Cx p s m args c cc nL own X A) {a b : Int} (hd : decode cc pc = .ok (.iushr, 1)) (kk : W p l e R s m args below meth c H locs cells slots Q (F0 m (pc + 1) ls (.int (iI (bUshr a b)) :: rest))) : W p l e R s m args below meth c H locs cells slots Q (F0 m pc ls (.int (iI b) :: .int (iI a) :: rest)) := lv_iushr hC.1.1 hC.1.2.1 hd rfl (by rw [bUshr, iI_of] at kk; exact kk)
theorem x_iconst (hC : Cx p s m args c cc nL own X A) {n : Int} (hd : decode cc pc = .ok (.iconst n, 1)) (kk : W p l e R s m args below meth c H locs cells slots Q (F0 m (pc + 1) ls (.int (iI n) :: rest))) : W p l e R s m args below meth c H locs cells slots Q (F0 m pc ls rest) := lv_iconst hC.1.1 hC.1.2.1 hd rfl kk
theorem x_bipush (hC : Cx p s m args c cc nL own X A) {n : Int} (hd : decode cc pc = .ok (.bipush n, 2)) (hn : (Int8.ofInt n).toInt32 = iI n) (kk : W p l e R s m args below meth c H locs cells slots Q (F0 m (pc + 2) ls (.int (iI n) :: rest))) : W p l e R s m args below meth c H locs cells slots Q (F0 m pc ls rest) := lv_bipush hC.1.1 hC.1.2.1 hd hn kk
theorem x_sipush (hC : Cx p s m args c cc nL own X A) {n : Int} (hd : decode cc pc = .ok (.sipush n, 3)) (hn : (Int16.ofInt n).toInt32 = iI n) (kk : W p l e R s m args below meth c H locs cells slots Q (F0 m (pc + 3) ls (.int (iI n) :: rest))) : W p l e R s m args below meth c H locs cells slots Q (F0 m pc ls rest) := lv_sipush hC.1.1 hC.1.2.1 hd hn kk
theorem x_ldc (hC : Cx p s m args c cc nL own X A) {idx : Nat} {v : Int32} {n : Int} (hk : Cond.constant own idx v ∈ tg) (hn : v = iI n) (hd : decode cc pc = .ok (.ldc idx, 2)) (kk : W p l e R s m args below meth c H locs cells slots Q (F0 m (pc + 2) ls (.int (iI n) :: rest))) : W p l e R s m args below meth c H locs cells slots Q (F0 m pc ls rest) := lv_ldc hC.1.1 hC.1.2.1 hC.1.2.2.2.1 (hC.1.2.2.2.2 _ hk) hd (by rw [hn]; exact kk)
theorem x_ldcw (hC : Cx p s m args c cc nL own X A) {idx : Nat} {v : Int32} {n : Int} (hk : Cond.constant own idx v ∈ tg) (hn : v = iI n) (hd : decode cc pc = .ok (.ldc_w idx, 3)) (kk : W p l e R s m args below meth c H locs cells slots Q (F0 m (pc + 3) ls (.int (iI n) :: rest))) : W p l e R s m args below meth c H locs cells slots Q (F0 m pc ls rest) := lv_ldcw hC.1.1 hC.1.2.1 hC.1.2.2.2.1 (hC.1.2.2.2.2 _ hk) hd (by rw [hn]; exact kk)
/-- a number gets a name -/
theorem x_nm {a : Int} (ha : inR a) (kk : ∀ y : Int, inR y → y = a → W p l e R s m args below meth c H locs cells slots Q (F0 m pc ls (.int (iI y) :: rest))) : W p l e R s m args below meth c H locs cells slots Q (F0 m pc ls (.int (iI a) :: rest)) := kk a ha rfl

theorem x_icmp_eq (hC : Cx p s m args c cc nL own X A) {a b : Int} (ha : inR a) (hb : inR b) {off : Int} {tgt : Nat} (hd : decode cc pc = .ok (.if_icmp .eq off, 3)) (ht : (pc : Int) + off = (tgt : Int)) (kt : a = b → W p l e R s m args below meth c H locs cells slots Q (F0 m tgt ls rest)) (kf : ¬ a = b → W p l e R s m args below meth c H locs cells slots Q (F0 m (pc + 3) ls rest)) : W p l e R s m args below meth c H locs cells slots Q (F0 m pc ls (.int (iI b) :: .int (iI a) :: rest)) := lv_icmp_eq hC.1.1 hC.1.2.1 hd ht (fun h => kt ((iI_inj ha hb).mp h)) (fun h => kf (fun q => h ((iI_inj ha hb).mpr q)))

theorem x_if_eq (hC : Cx p s m args c cc nL own X A) {a : Int} (ha : inR a) {off : Int} {tgt : Nat} (hd : decode cc pc = .ok (.ifCond .eq off, 3)) (ht : (pc : Int) + off = (tgt : Int)) (kt : a = 0 → W p l e R s m args below meth c H locs cells slots Q (F0 m tgt ls rest)) (kf : ¬ a = 0 → W p l e R s m args below meth c H locs cells slots Q (F0 m (pc + 3) ls rest)) : W p l e R s m args below meth c H locs cells slots Q (F0 m pc ls (.int (iI a) :: rest)) := by
  have hb : inR 0 := rk rfl
  exact lv_if_eq hC.1.1 hC.1.2.1 hd ht (fun h => kt ((iI_inj ha hb).mp h)) (fun h => kf (fun q => h ((iI_inj ha hb).mpr q)))

theorem x_icmp_ne (hC : Cx p s m args c cc nL own X A) {a b : Int} (ha : inR a) (hb : inR b) {off : Int} {tgt : Nat} (hd : decode cc pc = .ok (.if_icmp .ne off, 3)) (ht : (pc : Int) + off = (tgt : Int)) (kt : ¬ a = b → W p l e R s m args below meth c H locs cells slots Q (F0 m tgt ls rest)) (kf : a = b → W p l e R s m args below meth c H locs cells slots Q (F0 m (pc + 3) ls rest)) : W p l e R s m args below meth c H locs cells slots Q (F0 m pc ls (.int (iI b) :: .int (iI a) :: rest)) := lv_icmp_ne hC.1.1 hC.1.2.1 hd ht (fun h => kt ((not_congr (iI_inj ha hb)).mp h)) (fun h => kf ((iI_inj ha hb).mp h))

theorem x_if_ne (hC : Cx p s m args c cc nL own X A) {a : Int} (ha : inR a) {off : Int} {tgt : Nat} (hd : decode cc pc = .ok (.ifCond .ne off, 3)) (ht : (pc : Int) + off = (tgt : Int)) (kt : ¬ a = 0 → W p l e R s m args below meth c H locs cells slots Q (F0 m tgt ls rest)) (kf : a = 0 → W p l e R s m args below meth c H locs cells slots Q (F0 m (pc + 3) ls rest)) : W p l e R s m args below meth c H locs cells slots Q (F0 m pc ls (.int (iI a) :: rest)) := by
  have hb : inR 0 := rk rfl
  exact lv_if_ne hC.1.1 hC.1.2.1 hd ht (fun h => kt ((not_congr (iI_inj ha hb)).mp h)) (fun h => kf ((iI_inj ha hb).mp h))

theorem x_icmp_lt (hC : Cx p s m args c cc nL own X A) {a b : Int} (ha : inR a) (hb : inR b) {off : Int} {tgt : Nat} (hd : decode cc pc = .ok (.if_icmp .lt off, 3)) (ht : (pc : Int) + off = (tgt : Int)) (kt : a < b → W p l e R s m args below meth c H locs cells slots Q (F0 m tgt ls rest)) (kf : ¬ a < b → W p l e R s m args below meth c H locs cells slots Q (F0 m (pc + 3) ls rest)) : W p l e R s m args below meth c H locs cells slots Q (F0 m pc ls (.int (iI b) :: .int (iI a) :: rest)) := lv_icmp_lt hC.1.1 hC.1.2.1 hd ht (fun h => kt ((iI_lt ha hb).mp h)) (fun h => kf (fun q => h ((iI_lt ha hb).mpr q)))

theorem x_if_lt (hC : Cx p s m args c cc nL own X A) {a : Int} (ha : inR a) {off : Int} {tgt : Nat} (hd : decode cc pc = .ok (.ifCond .lt off, 3)) (ht : (pc : Int) + off = (tgt : Int)) (kt : a < 0 → W p l e R s m args below meth c H locs cells slots Q (F0 m tgt ls rest)) (kf : ¬ a < 0 → W p l e R s m args below meth c H locs cells slots Q (F0 m (pc + 3) ls rest)) : W p l e R s m args below meth c H locs cells slots Q (F0 m pc ls (.int (iI a) :: rest)) := by
  have hb : inR 0 := rk rfl
  exact lv_if_lt hC.1.1 hC.1.2.1 hd ht (fun h => kt ((iI_lt ha hb).mp h)) (fun h => kf (fun q => h ((iI_lt ha hb).mpr q)))

theorem x_icmp_ge (hC : Cx p s m args c cc nL own X A) {a b : Int} (ha : inR a) (hb : inR b) {off : Int} {tgt : Nat} (hd : decode cc pc = .ok (.if_icmp .ge off, 3)) (ht : (pc : Int) + off = (tgt : Int)) (kt : b ≤ a → W p l e R s m args below meth c H locs cells slots Q (F0 m tgt ls rest)) (kf : ¬ b ≤ a → W p l e R s m args below meth c H locs cells slots Q (F0 m (pc + 3) ls rest)) : W p l e R s m args below meth c H locs cells slots Q (F0 m pc ls (.int (iI b) :: .int (iI a) :: rest)) := lv_icmp_ge hC.1.1 hC.1.2.1 hd ht (fun h => kt ((iI_le hb ha).mp h)) (fun h => kf (fun q => h ((iI_le hb ha).mpr q)))

theorem x_if_ge (hC : Cx p s m args c cc nL own X A) {a : Int} (ha : inR a) {off : Int} {tgt : Nat} (hd : decode cc pc = .ok (.ifCond .ge off, 3)) (ht : (pc : Int) + off = (tgt : Int)) (kt : 0 ≤ a → W p l e R s m args below meth c H locs cells slots Q (F0 m tgt ls rest)) (kf : ¬ 0 ≤ a → W p l e R s m args below meth c H locs cells slots Q (F0 m (pc + 3) ls rest)) : W p l e R s m args below meth c H locs cells slots Q (F0 m pc ls (.int (iI a) :: rest)) := by
  have hb : inR 0 := rk rfl
  exact lv_if_ge hC.1.1 hC.1.2.1 hd ht (fun h => kt ((iI_le hb ha).mp h)) (fun h => kf (fun q => h ((iI_le hb ha).mpr q)))

theorem x_icmp_gt (hC : Cx p s m args c cc nL own X A) {a b : Int} (ha : inR a) (hb : inR b) {off : Int} {tgt : Nat} (hd : decode cc pc = .ok (.if_icmp .gt off, 3)) (ht : (pc : Int) + off = (tgt : Int)) (kt : b < a → W p l e R s m args below meth c H locs cells slots Q (F0 m tgt ls rest)) (kf : ¬ b < a → W p l e R s m args below meth c H locs cells slots Q (F0 m (pc + 3) ls rest)) : W p l e R s m args below meth c H locs cells slots Q (F0 m pc ls (.int (iI b) :: .int (iI a) :: rest)) := lv_icmp_gt hC.1.1 hC.1.2.1 hd ht (fun h => kt ((iI_lt hb ha).mp h)) (fun h => kf (fun q => h ((iI_lt hb ha).mpr q)))

theorem x_if_gt (hC : Cx p s m args c cc nL own X A) {a : Int} (ha : inR a) {off : Int} {tgt : Nat} (hd : decode cc pc = .ok (.ifCond .gt off, 3)) (ht : (pc : Int) + off = (tgt : Int)) (kt : 0 < a → W p l e R s m args below meth c H locs cells slots Q (F0 m tgt ls rest)) (kf : ¬ 0 < a → W p l e R s m args below meth c H locs cells slots Q (F0 m (pc + 3) ls rest)) : W p l e R s m args below meth c H locs cells slots Q (F0 m pc ls (.int (iI a) :: rest)) := by
  have hb : inR 0 := rk rfl
  exact lv_if_gt hC.1.1 hC.1.2.1 hd ht (fun h => kt ((iI_lt hb ha).mp h)) (fun h => kf (fun q => h ((iI_lt hb ha).mpr q)))

theorem x_icmp_le (hC : Cx p s m args c cc nL own X A) {a b : Int} (ha : inR a) (hb : inR b) {off : Int} {tgt : Nat} (hd : decode cc pc = .ok (.if_icmp .le off, 3)) (ht : (pc : Int) + off = (tgt : Int)) (kt : a ≤ b → W p l e R s m args below meth c H locs cells slots Q (F0 m tgt ls rest)) (kf : ¬ a ≤ b → W p l e R s m args below meth c H locs cells slots Q (F0 m (pc + 3) ls rest)) : W p l e R s m args below meth c H locs cells slots Q (F0 m pc ls (.int (iI b) :: .int (iI a) :: rest)) := lv_icmp_le hC.1.1 hC.1.2.1 hd ht (fun h => kt ((iI_le ha hb).mp h)) (fun h => kf (fun q => h ((iI_le ha hb).mpr q)))

theorem x_if_le (hC : Cx p s m args c cc nL own X A) {a : Int} (ha : inR a) {off : Int} {tgt : Nat} (hd : decode cc pc = .ok (.ifCond .le off, 3)) (ht : (pc : Int) + off = (tgt : Int)) (kt : a ≤ 0 → W p l e R s m args below meth c H locs cells slots Q (F0 m tgt ls rest)) (kf : ¬ a ≤ 0 → W p l e R s m args below meth c H locs cells slots Q (F0 m (pc + 3) ls rest)) : W p l e R s m args below meth c H locs cells slots Q (F0 m pc ls (.int (iI a) :: rest)) := by
  have hb : inR 0 := rk rfl
  exact lv_if_le hC.1.1 hC.1.2.1 hd ht (fun h => kt ((iI_le ha hb).mp h)) (fun h => kf (fun q => h ((iI_le ha hb).mpr q)))

theorem x_tin (hC : Cx p s m args c cc nL own X A) {dflt lo hi : Int} {offs : Array Int} {len : Nat} {a off : Int} {tgt : Nat} (v : Int) (ha : inR a) (hv : a = v) (hd : decode cc pc = .ok (.tableswitch dflt lo hi offs, len)) (h1 : ¬ v < lo) (h2 : ¬ hi < v) (ho : offs[(v - lo).toNat]? = some off) (ht : (pc : Int) + off = (tgt : Int)) (kk : W p l e R s m args below meth c H locs cells slots Q (F0 m tgt ls rest)) : W p l e R s m args below meth c H locs cells slots Q (F0 m pc ls (.int (iI a) :: rest)) := by
  subst hv
  exact lv_tableIn hC.1.1 hC.1.2.1 hd (by rw [iI_toInt ha]; exact h1) (by rw [iI_toInt ha]; exact h2) (by rw [iI_toInt ha]; exact ho) ht kk
theorem x_tout (hC : Cx p s m args c cc nL own X A) {dflt lo hi : Int} {offs : Array Int} {len : Nat} {a : Int} {tgt : Nat} (ha : inR a) (hd : decode cc pc = .ok (.tableswitch dflt lo hi offs, len)) (h : a < lo ∨ hi < a) (ht : (pc : Int) + dflt = (tgt : Int)) (kk : W p l e R s m args below meth c H locs cells slots Q (F0 m tgt ls rest)) : W p l e R s m args below meth c H locs cells slots Q (F0 m pc ls (.int (iI a) :: rest)) :=
  lv_tableOut hC.1.1 hC.1.2.1 hd (by rw [iI_toInt ha]; exact h) ht kk
theorem x_look (hC : Cx p s m args c cc nL own X A) {dflt : Int} {ps : Array (Int × Int)} {len : Nat} {a off : Int} {tgt : Nat} (ha : inR a) (hd : decode cc pc = .ok (.lookupswitch dflt ps, len)) (hp : (ps.toList.zip (ps.toList.drop 1)).all (fun (a, next) => a.1 < next.1) = true) (ho : Op.lookupswitch.offset ps.toList dflt a = off) (ht : (pc : Int) + off = (tgt : Int)) (kk : W p l e R s m args below meth c H locs cells slots Q (F0 m tgt ls rest)) : W p l e R s m args below meth c H locs cells slots Q (F0 m pc ls (.int (iI a) :: rest)) :=
  lv_lookup hC.1.1 hC.1.2.1 hd hp (by rw [iI_toInt ha]; exact ho) ht kk
/-! ===== a method: its start, its ends, its calls ===== -/
def Pw (X : Xw) (av : List Value) (M : Mm) (sz : Nat) : Array Value → State → Prop := va_Pc av (fun U => U.heap.size = sz ∧ va_P (xD X) vc (wl X M) U.heap ∧ va_K (xD X) vc (xT X) U ∧ va_D (fun _ => True) (wl X M))
def Bw (X : Xw) : Mm → State → Prop := fun M t => va_P (xD X) vc (wl X M) t.heap ∧ va_K (xD X) vc (xT X) t
def Qi (X : Xw) (sz : Nat) (post : Int → Mm → Prop) : Array Value → State → Outcome → State → Prop := va_Qi (S := Mm) (fun r M1 => ∃ i : Int, r = iI i ∧ inR i ∧ mr M1 ∧ post i M1) (Bw X) (xF X sz)
def Qv (X : Xw) (sz : Nat) (post : Mm → Prop) : Array Value → State → Outcome → State → Prop := va_Qv (S := Mm) (fun M1 => mr M1 ∧ post M1) (Bw X) (xF X sz)
theorem Pw_blind {av : List Value} {sz : Nat} : FrameBlind (Pw X av M sz) := fun a U g mk q => by
  obtain ⟨q0, q1, qP, qK, qD⟩ := q
  exact ⟨q0, q1, qP, va_K.moved (u := U) (U := U.calling g mk a) (Vm.Alike.refl U.vm) qK, qD⟩
theorem x_iret (hC : Cx p s m args c cc nL own X A) {sz : Nat} {post : Int → Mm → Prop} (hS : St X (xF X sz) s M H locs) (hlocks : meth.locks = false) (hr : meth.sig.returnType = some .int) {r : Int} (hi : inR r) (hp : post r M) (hd : decode cc pc = .ok (.ireturn, 1)) : W p l e R s m args below meth c H locs cells slots (MQ below (Qi X sz post) args s cells slots (xF X sz)) (F0 m pc ls [.int (iI r)]) :=
  W.iret hC.1.1 hC.1.2.1 hr (fun t ht hW => ⟨⟨iI r, M, rfl, ⟨r, rfl, hi, hS.2.2.2, hp⟩, by rw [ht]; exact hS.1, va_K.moved hW.alike hC.2.1⟩, hS.2.2.1.F ht⟩) hS.2.2.1.2.2 hd hlocks
theorem x_zret (hC : Cx p s m args c cc nL own X A) {sz : Nat} {post : Int → Mm → Prop} (hS : St X (xF X sz) s M H locs) (hlocks : meth.locks = false) (hr : meth.sig.returnType = some .boolean) {r : Int} (h01 : r = 0 ∨ r = 1) (hp : post r M) (hd : decode cc pc = .ok (.ireturn, 1)) : W p l e R s m args below meth c H locs cells slots (MQ below (Qi X sz post) args s cells slots (xF X sz)) (F0 m pc ls [.int (iI r)]) :=
  W.zret (ty := .boolean) hC.1.1 hC.1.2.1 hr (by rcases h01 with rfl | rfl <;> decide) (fun t ht hW => ⟨⟨iI r, M, rfl, ⟨r, rfl, by rcases h01 with rfl | rfl <;> exact rk rfl, hS.2.2.2, hp⟩, by rw [ht]; exact hS.1, va_K.moved hW.alike hC.2.1⟩, hS.2.2.1.F ht⟩) hS.2.2.1.2.2 hd hlocks
theorem x_vret (hC : Cx p s m args c cc nL own X A) {sz : Nat} {post : Mm → Prop} (hS : St X (xF X sz) s M H locs) (hlocks : meth.locks = false) (hr : meth.sig.returnType = none) (hp : post M) (hd : decode cc pc = .ok (.return_, 1)) : W p l e R s m args below meth c H locs cells slots (MQ below (Qv X sz post) args s cells slots (xF X sz)) (F0 m pc ls []) :=
  W.vret hC.1.1 hC.1.2.1 hr (fun t ht hW => ⟨⟨M, rfl, ⟨hS.2.2.2, hp⟩, by rw [ht]; exact hS.1, va_K.moved hW.alike hC.2.1⟩, hS.2.2.1.F ht⟩) hS.2.2.1.2.2 hd hlocks
theorem x_enter {y : MethodName} {maxL : Nat} {ret : Option FieldType} {rm : Room} {av : List Value} {sz : Nat} {Qc : Array Value → State → Outcome → State → Prop} (hy : plainName y.cls = true) (hlc : lcl X) (hm : mr M) (hav : (lg_sl av).length ≤ maxL)
    (body : ∀ (p : Program) (e : Env) (s : State) (m : MethodId) (below : List Frame) (meth : Method) (c : Code) (ls : Array Slot), Cx p s m av.toArray c cc maxL y.cls X (xF X sz) → s.heap.size = sz → meth.sig.returnType = ret → meth.locks = false → St X (xF X sz) s M s.heap [] → lv_has ls maxL (lv_args 0 av) → W p l e rm s m av.toArray below meth c s.heap [] 0 0 (MQ below Qc av.toArray s 0 0 (xF X sz)) (F0 m 0 ls [])) : Met l y (Cond.code y cc maxL ret :: tg) rm (Pw X av M sz) Qc 0 0 (xF X sz) := by
  refine Met.ofW (cc := cc) (maxL := maxL) (ret := ret) hy rfl ?_
  intro p e s m args below meth c s₁ B hml hv
  obtain ⟨rfl, hsz, hP, hK, hD⟩ := hv
  have hts := atoms_spec (ws := Cond.code y cc maxL ret :: tg) B.pre
  have hl := lv_entry av (n := maxL) hav
  rw [lg_entry_eq]
  exact body p e s m below meth c _ ⟨⟨B.exec, B.bytes, hml, findClass_of_methodNamed B.named, fun w hw => hts w (List.mem_cons_of_mem _ hw)⟩, hK, hlc, fun q hq => Or.inr (by rw [← hsz]; exact hq)⟩ hsz B.returns B.notSynchronized ⟨hP, xF_D hD, va_S.rf, hm⟩ hl
/-- what a caller must know of a method that it calls: its words in the tables, its descriptor -/
def cV (y : MethodName) (bytes : ByteArray) (maxL : Nat) (ret : Option FieldType) (n : Nat) : Prop := Cond.code y bytes maxL ret ∈ tg ∧ Cond.instanceMethod y ∈ tg ∧ Cond.selects y.cls y y ∈ tg ∧ Cond.initialized y.cls ∈ tg ∧ y.cls ≠ "java/lang/invoke/MethodHandle" ∧ y.cls ≠ "java/lang/invoke/VarHandle" ∧ (parseMethodDescriptor y.desc).map (fun d => d.parameters.length) = some n
def cS (y : MethodName) (bytes : ByteArray) (maxL : Nat) (ret : Option FieldType) (n : Nat) : Prop := Cond.code y bytes maxL ret ∈ tg ∧ Cond.static y ∈ tg ∧ Cond.initialized y.cls ∈ tg ∧ y.cls ≠ "java/lang/invoke/MethodHandle" ∧ y.cls ≠ "java/lang/invoke/VarHandle" ∧ (parseMethodDescriptor y.desc).map (fun d => d.parameters.length) = some n

theorem x_callVi (hC : Cx p s m args c cc nL own X A) (hS : St X A s M H locs) {y : MethodName} {bytes : ByteArray} {maxL n idx : Nat} {rt : FieldType} {rm : Room} {As : List Value} {post : Int → Mm → Prop} {k ci N : Nat} {T : u_T} {fs : Mm → List Value} (ho : Ob X k ci fs) (hc : vc[ci]? = some (y.cls, T, N)) (hy : cV y bytes maxL (some rt) n) (hM : Met l y (Cond.code y bytes maxL (some rt) :: tg) rm (Pw X (.ref (xA X k) :: As) M H.size) (Qi X H.size post) 0 0 (xF X H.size)) (hlk : Cond.methodLink own idx y ∈ tg) (hr1 : rm.cells = 0) (hr2 : rm.slots = 0) (hR : rm.frames + 1 ≤ R.frames ∧ 8 + (maxL + 11) + rm.locals ≤ R.locals) (hn : As.length = n) (hls : ls.size = nL) (hroom : (rest.map fun v => v.category).sum ≤ 8) (hd : decode cc pc = .ok (.invokevirtual idx, 3)) (hcs : cells ≤ R.cells ∧ slots ≤ R.slots) {st0 : List Value} (hst0 : st0 = As.reverse ++ .ref (xA X k) :: rest)
    (kk : ∀ (r : Int) (M1 : Mm) (H1 : Heap) (locs1 : List Loc), inR r → post r M1 → St X A s M1 H1 locs1 → W p l e R s m args below meth c H1 locs1 cells slots Q (F0 m (pc + 3) ls (.int (iI r) :: rest))) : W p l e R s m args below meth c H locs cells slots Q (F0 m pc ls st0) := by
  obtain ⟨⟨hx, hb, hml, hown, hts⟩, hK, hl, hA⟩ := hC
  obtain ⟨hP, hD, hSS, hr⟩ := hS
  obtain ⟨hco, hin, hse, hini, hy1, hy2, hy3⟩ := hy
  obtain ⟨q, hq⟩ := List.getElem?_of_mem ho.1
  have hf := xF_in (sz := H.size) hD (fun q h => hA q (Nat.le_trans hSS.1 h))
  refine va_calli (va_runV (As := As) (rest := rest) ⟨hx, hb, hml, hown, hts⟩ hM (cwV n hts (tb_cons hlk (tb_cons hin (tb_cons hse (tb_cons hini (tb_cons hco tb_gi))))) rfl hr1 hr2 ⟨rfl, hy1, hy2, hy3⟩ hR) ⟨Pw_blind, va_recv hK hP hc (by rw [wl_get hq, ho.2 M]), fun U hU hW => ⟨rfl, by rw [hU], by rw [hU]; exact hP, va_K.moved hW.alike hK, hD.weaken (fun _ _ _ _ => trivial)⟩⟩ rfl hn hls hst0 (lv_room hroom) hd hcs) hSS (fun q _ h => hf q h) hf (fun r u t H1 locs1 ht hvm hw hB hz1 hk1 hS1 => ?_)
  obtain ⟨i, rfl, hi, hm1, hp1⟩ := hw
  obtain ⟨hP1, hK1⟩ := hB
  exact kk i u H1 locs1 hi hp1 ⟨by rw [← ht]; exact hP1, wl_D hD, hS1, hm1⟩

theorem x_callVv (hC : Cx p s m args c cc nL own X A) (hS : St X A s M H locs) {y : MethodName} {bytes : ByteArray} {maxL n idx : Nat} {rm : Room} {As : List Value} {post : Mm → Prop} {k ci N : Nat} {T : u_T} {fs : Mm → List Value} (ho : Ob X k ci fs) (hc : vc[ci]? = some (y.cls, T, N)) (hy : cV y bytes maxL none n) (hM : Met l y (Cond.code y bytes maxL none :: tg) rm (Pw X (.ref (xA X k) :: As) M H.size) (Qv X H.size post) 0 0 (xF X H.size)) (hlk : Cond.methodLink own idx y ∈ tg) (hr1 : rm.cells = 0) (hr2 : rm.slots = 0) (hR : rm.frames + 1 ≤ R.frames ∧ 8 + (maxL + 11) + rm.locals ≤ R.locals) (hn : As.length = n) (hls : ls.size = nL) (hroom : (rest.map fun v => v.category).sum ≤ 8) (hd : decode cc pc = .ok (.invokevirtual idx, 3)) (hcs : cells ≤ R.cells ∧ slots ≤ R.slots) {st0 : List Value} (hst0 : st0 = As.reverse ++ .ref (xA X k) :: rest)
    (kk : ∀ (M1 : Mm) (H1 : Heap) (locs1 : List Loc), post M1 → St X A s M1 H1 locs1 → W p l e R s m args below meth c H1 locs1 cells slots Q (F0 m (pc + 3) ls rest)) : W p l e R s m args below meth c H locs cells slots Q (F0 m pc ls st0) := by
  obtain ⟨⟨hx, hb, hml, hown, hts⟩, hK, hl, hA⟩ := hC
  obtain ⟨hP, hD, hSS, hr⟩ := hS
  obtain ⟨hco, hin, hse, hini, hy1, hy2, hy3⟩ := hy
  obtain ⟨q, hq⟩ := List.getElem?_of_mem ho.1
  have hf := xF_in (sz := H.size) hD (fun q h => hA q (Nat.le_trans hSS.1 h))
  refine va_callv (va_runV (As := As) (rest := rest) ⟨hx, hb, hml, hown, hts⟩ hM (cwV n hts (tb_cons hlk (tb_cons hin (tb_cons hse (tb_cons hini (tb_cons hco tb_gi))))) rfl hr1 hr2 ⟨rfl, hy1, hy2, hy3⟩ hR) ⟨Pw_blind, va_recv hK hP hc (by rw [wl_get hq, ho.2 M]), fun U hU hW => ⟨rfl, by rw [hU], by rw [hU]; exact hP, va_K.moved hW.alike hK, hD.weaken (fun _ _ _ _ => trivial)⟩⟩ rfl hn hls hst0 (lv_room hroom) hd hcs) hSS (fun q _ h => hf q h) hf (fun u t H1 locs1 ht hvm hw hB hz1 hk1 hS1 => ?_)
  obtain ⟨hm1, hp1⟩ := hw
  obtain ⟨hP1, hK1⟩ := hB
  exact kk u H1 locs1 hp1 ⟨by rw [← ht]; exact hP1, wl_D hD, hS1, hm1⟩

theorem x_callSi (hC : Cx p s m args c cc nL own X A) (hS : St X A s M H locs) {y : MethodName} {bytes : ByteArray} {maxL n idx : Nat} {rt : FieldType} {rm : Room} {As : List Value} {post : Int → Mm → Prop} (hy : cS y bytes maxL (some rt) n) (hM : Met l y (Cond.code y bytes maxL (some rt) :: tg) rm (Pw X As M H.size) (Qi X H.size post) 0 0 (xF X H.size)) (hlk : Cond.methodLink own idx y ∈ tg) (hr1 : rm.cells = 0) (hr2 : rm.slots = 0) (hR : rm.frames + 1 ≤ R.frames ∧ 8 + (maxL + 11) + rm.locals ≤ R.locals) (hn : As.length = n) (hls : ls.size = nL) (hroom : (rest.map fun v => v.category).sum ≤ 8) (hd : decode cc pc = .ok (.invokestatic idx, 3)) (hcs : cells ≤ R.cells ∧ slots ≤ R.slots) {st0 : List Value} (hst0 : st0 = As.reverse ++ rest)
    (kk : ∀ (r : Int) (M1 : Mm) (H1 : Heap) (locs1 : List Loc), inR r → post r M1 → St X A s M1 H1 locs1 → W p l e R s m args below meth c H1 locs1 cells slots Q (F0 m (pc + 3) ls (.int (iI r) :: rest))) : W p l e R s m args below meth c H locs cells slots Q (F0 m pc ls st0) := by
  obtain ⟨⟨hx, hb, hml, hown, hts⟩, hK, hl, hA⟩ := hC
  obtain ⟨hP, hD, hSS, hr⟩ := hS
  obtain ⟨hco, hst, hini, hy1, hy2, hy3⟩ := hy
  have hf := xF_in (sz := H.size) hD (fun q h => hA q (Nat.le_trans hSS.1 h))
  refine va_calli (va_runS (As := As) (rest := rest) ⟨hx, hb, hml, hown, hts⟩ hM (va_cwS n hts (tb_cons hlk (tb_cons hst (tb_cons hini (tb_cons hco tb_gi)))) rfl hr1 hr2 ⟨hy1, hy2, hy3⟩ hR) ⟨Pw_blind, fun U hU hW => ⟨rfl, by rw [hU], by rw [hU]; exact hP, va_K.moved hW.alike hK, hD.weaken (fun _ _ _ _ => trivial)⟩⟩ rfl hn hls hst0 (lv_room hroom) hd hcs) hSS (fun q _ h => hf q h) hf (fun r u t H1 locs1 ht hvm hw hB hz1 hk1 hS1 => ?_)
  obtain ⟨i, rfl, hi, hm1, hp1⟩ := hw
  obtain ⟨hP1, hK1⟩ := hB
  exact kk i u H1 locs1 hi hp1 ⟨by rw [← ht]; exact hP1, wl_D hD, hS1, hm1⟩

theorem x_callSv (hC : Cx p s m args c cc nL own X A) (hS : St X A s M H locs) {y : MethodName} {bytes : ByteArray} {maxL n idx : Nat} {rm : Room} {As : List Value} {post : Mm → Prop} (hy : cS y bytes maxL none n) (hM : Met l y (Cond.code y bytes maxL none :: tg) rm (Pw X As M H.size) (Qv X H.size post) 0 0 (xF X H.size)) (hlk : Cond.methodLink own idx y ∈ tg) (hr1 : rm.cells = 0) (hr2 : rm.slots = 0) (hR : rm.frames + 1 ≤ R.frames ∧ 8 + (maxL + 11) + rm.locals ≤ R.locals) (hn : As.length = n) (hls : ls.size = nL) (hroom : (rest.map fun v => v.category).sum ≤ 8) (hd : decode cc pc = .ok (.invokestatic idx, 3)) (hcs : cells ≤ R.cells ∧ slots ≤ R.slots) {st0 : List Value} (hst0 : st0 = As.reverse ++ rest)
    (kk : ∀ (M1 : Mm) (H1 : Heap) (locs1 : List Loc), post M1 → St X A s M1 H1 locs1 → W p l e R s m args below meth c H1 locs1 cells slots Q (F0 m (pc + 3) ls rest)) : W p l e R s m args below meth c H locs cells slots Q (F0 m pc ls st0) := by
  obtain ⟨⟨hx, hb, hml, hown, hts⟩, hK, hl, hA⟩ := hC
  obtain ⟨hP, hD, hSS, hr⟩ := hS
  obtain ⟨hco, hst, hini, hy1, hy2, hy3⟩ := hy
  have hf := xF_in (sz := H.size) hD (fun q h => hA q (Nat.le_trans hSS.1 h))
  refine va_callv (va_runS (As := As) (rest := rest) ⟨hx, hb, hml, hown, hts⟩ hM (va_cwS n hts (tb_cons hlk (tb_cons hst (tb_cons hini (tb_cons hco tb_gi)))) rfl hr1 hr2 ⟨hy1, hy2, hy3⟩ hR) ⟨Pw_blind, fun U hU hW => ⟨rfl, by rw [hU], by rw [hU]; exact hP, va_K.moved hW.alike hK, hD.weaken (fun _ _ _ _ => trivial)⟩⟩ rfl hn hls hst0 (lv_room hroom) hd hcs) hSS (fun q _ h => hf q h) hf (fun u t H1 locs1 ht hvm hw hB hz1 hk1 hS1 => ?_)
  obtain ⟨hm1, hp1⟩ := hw
  obtain ⟨hP1, hK1⟩ := hB
  exact kk u H1 locs1 hp1 ⟨by rw [← ht]; exact hP1, wl_D hD, hS1, hm1⟩

end XR
end
section
theorem iw_G : ∀ w ∈ u_ws rr_G ft_G 5, w ∈ tg := by
  have e : u_ws rr_G ft_G 5 = [Cond.laysFinal "TurnCounts$Group" "TurnCounts$Group" "turns" "[I", Cond.lays "TurnCounts$Group" "TurnCounts$Group" "size" "I", Cond.laysFinal "TurnCounts$Group" "TurnCounts$Group" "makers" "[I", Cond.lays "TurnCounts$Group" "TurnCounts$Group" "makerCount" "I", Cond.laysFinal "TurnCounts$Group" "TurnCounts$Group" "members" "[I"] := by decide +kernel
  rw [e]
  exact List.forall_mem_cons.mpr ⟨tb_65, List.forall_mem_cons.mpr ⟨tb_67, List.forall_mem_cons.mpr ⟨tb_69, List.forall_mem_cons.mpr ⟨tb_71, List.forall_mem_cons.mpr ⟨tb_73, fun _ h => absurd h List.not_mem_nil⟩⟩⟩⟩⟩
theorem iw_D : ∀ w ∈ u_ws rr_D ft_D 2, w ∈ tg := by
  have e : u_ws rr_D ft_D 2 = [Cond.laysFinal "TurnCounts$Pad" "TurnCounts$Pad" "signs" "[I", Cond.lays "TurnCounts$Pad" "TurnCounts$Pad" "length" "I"] := by decide +kernel
  rw [e]
  exact List.forall_mem_cons.mpr ⟨tb_110, List.forall_mem_cons.mpr ⟨tb_112, fun _ h => absurd h List.not_mem_nil⟩⟩
theorem iw_P : ∀ w ∈ u_ws rr_P ft_P 9, w ∈ tg := by
  have e : u_ws rr_P ft_P 9 = [Cond.laysFinal "TurnCounts$PatternTable" "TurnCounts$PatternTable" "patternOf" "[I", Cond.laysFinal "TurnCounts$PatternTable" "TurnCounts$PatternTable" "colourings" "[I", Cond.laysFinal "TurnCounts$PatternTable" "TurnCounts$PatternTable" "starts" "[I", Cond.laysFinal "TurnCounts$PatternTable" "TurnCounts$PatternTable" "places" "[I", Cond.lays "TurnCounts$PatternTable" "TurnCounts$PatternTable" "many" "I", Cond.lays "TurnCounts$PatternTable" "TurnCounts$PatternTable" "sortCount" "I", Cond.lays "TurnCounts$PatternTable" "TurnCounts$PatternTable" "filled" "I", Cond.lays "TurnCounts$PatternTable" "TurnCounts$PatternTable" "amount" "I", Cond.lays "TurnCounts$PatternTable" "TurnCounts$PatternTable" "upToDate" "Z"] := by decide +kernel
  rw [e]
  exact List.forall_mem_cons.mpr ⟨tb_156, List.forall_mem_cons.mpr ⟨tb_158, List.forall_mem_cons.mpr ⟨tb_160, List.forall_mem_cons.mpr ⟨tb_162, List.forall_mem_cons.mpr ⟨tb_164, List.forall_mem_cons.mpr ⟨tb_166, List.forall_mem_cons.mpr ⟨tb_168, List.forall_mem_cons.mpr ⟨tb_170, List.forall_mem_cons.mpr ⟨tb_172, fun _ h => absurd h List.not_mem_nil⟩⟩⟩⟩⟩⟩⟩⟩⟩
theorem iw_S : ∀ w ∈ u_ws rr_S ft_S 4, w ∈ tg := by
  have e : u_ws rr_S ft_S 4 = [Cond.lays "TurnCounts$Setting" "TurnCounts$Setting" "many" "I", Cond.lays "TurnCounts$Setting" "TurnCounts$Setting" "sortCount" "I", Cond.laysFinal "TurnCounts$Setting" "TurnCounts$Setting" "weights" "[I", Cond.laysFinal "TurnCounts$Setting" "TurnCounts$Setting" "group" "LTurnCounts$Group;"] := by decide +kernel
  rw [e]
  exact List.forall_mem_cons.mpr ⟨tb_90, List.forall_mem_cons.mpr ⟨tb_92, List.forall_mem_cons.mpr ⟨tb_94, List.forall_mem_cons.mpr ⟨tb_96, fun _ h => absurd h List.not_mem_nil⟩⟩⟩⟩
theorem iw_Y : ∀ w ∈ u_ws rr_Y ft_Y 4, w ∈ tg := by
  have e : u_ws rr_Y ft_Y 4 = [Cond.laysFinal "TurnCounts$TypeTable" "TurnCounts$TypeTable" "figures" "[I", Cond.laysFinal "TurnCounts$TypeTable" "TurnCounts$TypeTable" "turns" "[I", Cond.lays "TurnCounts$TypeTable" "TurnCounts$TypeTable" "amount" "I", Cond.lays "TurnCounts$TypeTable" "TurnCounts$TypeTable" "upToDate" "Z"] := by decide +kernel
  rw [e]
  exact List.forall_mem_cons.mpr ⟨tb_129, List.forall_mem_cons.mpr ⟨tb_131, List.forall_mem_cons.mpr ⟨tb_133, List.forall_mem_cons.mpr ⟨tb_135, fun _ h => absurd h List.not_mem_nil⟩⟩⟩⟩
theorem iw_T : ∀ w ∈ u_ws rr_T ft_T 6, w ∈ tg := by
  have e : u_ws rr_T ft_T 6 = [Cond.laysFinal "TurnCounts" "TurnCounts" "now" "LTurnCounts$Setting;", Cond.laysFinal "TurnCounts" "TurnCounts" "kept" "[LTurnCounts$Setting;", Cond.lays "TurnCounts" "TurnCounts" "keptSet" "I", Cond.laysFinal "TurnCounts" "TurnCounts" "pad" "LTurnCounts$Pad;", Cond.laysFinal "TurnCounts" "TurnCounts" "types" "LTurnCounts$TypeTable;", Cond.laysFinal "TurnCounts" "TurnCounts" "table" "LTurnCounts$PatternTable;"] := by decide +kernel
  rw [e]
  exact List.forall_mem_cons.mpr ⟨tb_181, List.forall_mem_cons.mpr ⟨tb_183, List.forall_mem_cons.mpr ⟨tb_185, List.forall_mem_cons.mpr ⟨tb_187, List.forall_mem_cons.mpr ⟨tb_189, List.forall_mem_cons.mpr ⟨tb_191, fun _ h => absurd h List.not_mem_nil⟩⟩⟩⟩⟩⟩
theorem iw_M : ∀ w ∈ u_ws rr_M ft_M 25, w ∈ tg := by
  have e : u_ws rr_M ft_M 25 = [Cond.laysFinal "TurnCountsModel" "TurnCountsModel" "state" "[I", Cond.laysFinal "TurnCountsModel" "TurnCountsModel" "images" "[I", Cond.laysFinal "TurnCountsModel" "TurnCountsModel" "isKept" "[Z", Cond.laysFinal "TurnCountsModel" "TurnCountsModel" "pad" "[I", Cond.lays "TurnCountsModel" "TurnCountsModel" "said" "I", Cond.laysFinal "TurnCountsModel" "TurnCountsModel" "row" "[I", Cond.laysFinal "TurnCountsModel" "TurnCountsModel" "isUsed" "[Z", Cond.laysFinal "TurnCountsModel" "TurnCountsModel" "maker" "[I", Cond.lays "TurnCountsModel" "TurnCountsModel" "makers" "I", Cond.laysFinal "TurnCountsModel" "TurnCountsModel" "wave" "[I", Cond.lays "TurnCountsModel" "TurnCountsModel" "waved" "I", Cond.laysFinal "TurnCountsModel" "TurnCountsModel" "turnOf" "[I", Cond.lays "TurnCountsModel" "TurnCountsModel" "turns" "I", Cond.laysFinal "TurnCountsModel" "TurnCountsModel" "had" "[I", Cond.laysFinal "TurnCountsModel" "TurnCountsModel" "longs" "[I", Cond.laysFinal "TurnCountsModel" "TurnCountsModel" "types" "[I", Cond.laysFinal "TurnCountsModel" "TurnCountsModel" "typeMany" "[I", Cond.lays "TurnCountsModel" "TurnCountsModel" "typesMany" "I", Cond.laysFinal "TurnCountsModel" "TurnCountsModel" "colour" "[I", Cond.laysFinal "TurnCountsModel" "TurnCountsModel" "patternOf" "[I", Cond.laysFinal "TurnCountsModel" "TurnCountsModel" "leastOf" "[I", Cond.laysFinal "TurnCountsModel" "TurnCountsModel" "sizeOf" "[I", Cond.lays "TurnCountsModel" "TurnCountsModel" "patternMany" "I", Cond.lays "TurnCountsModel" "TurnCountsModel" "colourings" "I", Cond.laysFinal "TurnCountsModel" "TurnCountsModel" "placeWorth" "[I"] := by decide +kernel
  rw [e]
  exact List.forall_mem_cons.mpr ⟨tb_523, List.forall_mem_cons.mpr ⟨tb_525, List.forall_mem_cons.mpr ⟨tb_527, List.forall_mem_cons.mpr ⟨tb_529, List.forall_mem_cons.mpr ⟨tb_531, List.forall_mem_cons.mpr ⟨tb_533, List.forall_mem_cons.mpr ⟨tb_535, List.forall_mem_cons.mpr ⟨tb_537, List.forall_mem_cons.mpr ⟨tb_539, List.forall_mem_cons.mpr ⟨tb_541, List.forall_mem_cons.mpr ⟨tb_543, List.forall_mem_cons.mpr ⟨tb_545, List.forall_mem_cons.mpr ⟨tb_547, List.forall_mem_cons.mpr ⟨tb_549, List.forall_mem_cons.mpr ⟨tb_551, List.forall_mem_cons.mpr ⟨tb_553, List.forall_mem_cons.mpr ⟨tb_555, List.forall_mem_cons.mpr ⟨tb_557, List.forall_mem_cons.mpr ⟨tb_559, List.forall_mem_cons.mpr ⟨tb_561, List.forall_mem_cons.mpr ⟨tb_563, List.forall_mem_cons.mpr ⟨tb_565, List.forall_mem_cons.mpr ⟨tb_567, List.forall_mem_cons.mpr ⟨tb_569, List.forall_mem_cons.mpr ⟨tb_571, fun _ h => absurd h List.not_mem_nil⟩⟩⟩⟩⟩⟩⟩⟩⟩⟩⟩⟩⟩⟩⟩⟩⟩⟩⟩⟩⟩⟩⟩⟩⟩
def fs_G (X : Xw) (g : Nat) (M : Mm) : List Value := [.ref (xA X (g + 1)), .int (iI (M g 1)), .ref (xA X (g + 2)), .int (iI (M g 3)), .ref (xA X (g + 3))]
theorem ps_G_1 (X : Xw) (g : Nat) (M : Mm) (v : Int) : fs_G X g (ms M g 1 v) = (fs_G X g M).set 1 (.int (iI v)) := by simp [fs_G, ms]
theorem ps_G_3 (X : Xw) (g : Nat) (M : Mm) (v : Int) : fs_G X g (ms M g 3 v) = (fs_G X g M).set 3 (.int (iI v)) := by simp [fs_G, ms]
def fs_D (X : Xw) (M : Mm) : List Value := [.ref (xA X 3), .int (iI (M 2 1))]
theorem ps_D_1 (X : Xw) (M : Mm) (v : Int) : fs_D X (ms M 2 1 v) = (fs_D X M).set 1 (.int (iI v)) := by simp [fs_D, ms]
def fs_P (X : Xw) (M : Mm) : List Value := [.ref (xA X 8), .ref (xA X 9), .ref (xA X 10), .ref (xA X 11), .int (iI (M 7 4)), .int (iI (M 7 5)), .int (iI (M 7 6)), .int (iI (M 7 7)), .int (iI (M 7 8))]
theorem ps_P_4 (X : Xw) (M : Mm) (v : Int) : fs_P X (ms M 7 4 v) = (fs_P X M).set 4 (.int (iI v)) := by simp [fs_P, ms]
theorem ps_P_5 (X : Xw) (M : Mm) (v : Int) : fs_P X (ms M 7 5 v) = (fs_P X M).set 5 (.int (iI v)) := by simp [fs_P, ms]
theorem ps_P_6 (X : Xw) (M : Mm) (v : Int) : fs_P X (ms M 7 6 v) = (fs_P X M).set 6 (.int (iI v)) := by simp [fs_P, ms]
theorem ps_P_7 (X : Xw) (M : Mm) (v : Int) : fs_P X (ms M 7 7 v) = (fs_P X M).set 7 (.int (iI v)) := by simp [fs_P, ms]
theorem ps_P_8 (X : Xw) (M : Mm) (v : Int) : fs_P X (ms M 7 8 v) = (fs_P X M).set 8 (.int (iI v)) := by simp [fs_P, ms]
def fs_S (X : Xw) (s : Nat) (M : Mm) : List Value := [.int (iI (M s 0)), .int (iI (M s 1)), .ref (xA X (s + 1)), .ref (xA X (s + 2))]
theorem ps_S_0 (X : Xw) (s : Nat) (M : Mm) (v : Int) : fs_S X s (ms M s 0 v) = (fs_S X s M).set 0 (.int (iI v)) := by simp [fs_S, ms]
theorem ps_S_1 (X : Xw) (s : Nat) (M : Mm) (v : Int) : fs_S X s (ms M s 1 v) = (fs_S X s M).set 1 (.int (iI v)) := by simp [fs_S, ms]
def fs_Y (X : Xw) (M : Mm) : List Value := [.ref (xA X 5), .ref (xA X 6), .int (iI (M 4 2)), .int (iI (M 4 3))]
theorem ps_Y_2 (X : Xw) (M : Mm) (v : Int) : fs_Y X (ms M 4 2 v) = (fs_Y X M).set 2 (.int (iI v)) := by simp [fs_Y, ms]
theorem ps_Y_3 (X : Xw) (M : Mm) (v : Int) : fs_Y X (ms M 4 3 v) = (fs_Y X M).set 3 (.int (iI v)) := by simp [fs_Y, ms]
def fs_T (X : Xw) (M : Mm) : List Value := [.ref (xA X 12), .ref (xA X 1), .int (iI (M 0 2)), .ref (xA X 2), .ref (xA X 4), .ref (xA X 7)]
theorem ps_T_2 (X : Xw) (M : Mm) (v : Int) : fs_T X (ms M 0 2 v) = (fs_T X M).set 2 (.int (iI v)) := by simp [fs_T, ms]
def fs_M (X : Xw) (M : Mm) : List Value := [.ref (xA X 31), .ref (xA X 32), .ref (xA X 33), .ref (xA X 34), .int (iI (M 30 4)), .ref (xA X 35), .ref (xA X 36), .ref (xA X 37), .int (iI (M 30 8)), .ref (xA X 38), .int (iI (M 30 10)), .ref (xA X 39), .int (iI (M 30 12)), .ref (xA X 40), .ref (xA X 41), .ref (xA X 42), .ref (xA X 43), .int (iI (M 30 17)), .ref (xA X 44), .ref (xA X 45), .ref (xA X 46), .ref (xA X 47), .int (iI (M 30 22)), .int (iI (M 30 23)), .ref (xA X 48)]
theorem ps_M_4 (X : Xw) (M : Mm) (v : Int) : fs_M X (ms M 30 4 v) = (fs_M X M).set 4 (.int (iI v)) := by simp [fs_M, ms]
theorem ps_M_8 (X : Xw) (M : Mm) (v : Int) : fs_M X (ms M 30 8 v) = (fs_M X M).set 8 (.int (iI v)) := by simp [fs_M, ms]
theorem ps_M_10 (X : Xw) (M : Mm) (v : Int) : fs_M X (ms M 30 10 v) = (fs_M X M).set 10 (.int (iI v)) := by simp [fs_M, ms]
theorem ps_M_12 (X : Xw) (M : Mm) (v : Int) : fs_M X (ms M 30 12 v) = (fs_M X M).set 12 (.int (iI v)) := by simp [fs_M, ms]
theorem ps_M_17 (X : Xw) (M : Mm) (v : Int) : fs_M X (ms M 30 17 v) = (fs_M X M).set 17 (.int (iI v)) := by simp [fs_M, ms]
theorem ps_M_22 (X : Xw) (M : Mm) (v : Int) : fs_M X (ms M 30 22 v) = (fs_M X M).set 22 (.int (iI v)) := by simp [fs_M, ms]
theorem ps_M_23 (X : Xw) (M : Mm) (v : Int) : fs_M X (ms M 30 23 v) = (fs_M X M).set 23 (.int (iI v)) := by simp [fs_M, ms]
def IsG (X : Xw) (g : Nat) : Prop := Ob X g 0 (fs_G X g) ∧ AI X (g + 1) 5040 ∧ AI X (g + 2) 12 ∧ AI X (g + 3) 158
def IsS (X : Xw) (s : Nat) : Prop := Ob X s 3 (fs_S X s) ∧ AI X (s + 1) 4 ∧ IsG X (s + 2)
def IsD (X : Xw) : Prop := Ob X 2 1 (fs_D X) ∧ AI X 3 7
def IsY (X : Xw) : Prop := Ob X 4 4 (fs_Y X) ∧ AI X 5 15 ∧ AI X 6 15
def IsP (X : Xw) : Prop := Ob X 7 2 (fs_P X) ∧ AI X 8 16384 ∧ AI X 9 16384 ∧ AI X 10 16385 ∧ AI X 11 7
def IsT (X : Xw) : Prop := Ob X 0 5 (fs_T X) ∧ AQ X 1 2 (fun i => some (xA X (18 + 6 * i))) ∧ IsD X ∧ IsY X ∧ IsP X ∧ IsS X 12 ∧ ∀ i, i < 2 → IsS X (18 + 6 * i)
def IsM (X : Xw) : Prop := Ob X 30 6 (fs_M X) ∧ AI X 31 5046 ∧ AI X 32 10092 ∧ AZ X 33 2 ∧ AI X 34 7 ∧ AI X 35 7 ∧ AZ X 36 7 ∧ AI X 37 420 ∧ AI X 38 5040 ∧ AI X 39 35280 ∧ AI X 40 5040 ∧ AI X 41 8 ∧ AI X 42 16 ∧ AI X 43 16 ∧ AI X 44 7 ∧ AI X 45 16384 ∧ AI X 46 16384 ∧ AI X 47 16384 ∧ AI X 48 7
theorem cv_G_makeStill : cV yy_G_makeStill bc_G_makeStill 2 none 0 := ⟨tb_35, tb_33, tb_34, tb_3, by decide, by decide, by decide +kernel⟩
theorem cv_G_copyFrom : cV yy_G_copyFrom bc_G_copyFrom 2 none 1 := ⟨tb_449, tb_447, tb_448, tb_3, by decide, by decide, by decide +kernel⟩
theorem cv_G_has : cV yy_G_has bc_G_has 3 (some .boolean) 1 := ⟨tb_234, tb_232, tb_233, tb_3, by decide, by decide, by decide +kernel⟩
theorem cv_G_add : cV yy_G_add bc_G_add 3 none 1 := ⟨tb_40, tb_39, tp_0, tb_3, by decide, by decide, by decide +kernel⟩
theorem cv_G_widenByKind : cV yy_G_widenByKind bc_G_widenByKind 6 none 4 := ⟨tb_216, tb_214, tb_215, tb_3, by decide, by decide, by decide +kernel⟩
theorem cv_G_widen : cV yy_G_widen bc_G_widen 6 none 1 := ⟨tb_230, tb_228, tb_229, tb_3, by decide, by decide, by decide +kernel⟩
theorem cv_G_addCopy : cV yy_G_addCopy bc_G_addCopy 4 none 2 := ⟨tb_238, tb_237, tp_2, tb_3, by decide, by decide, by decide +kernel⟩
theorem cv_G_reachFrom : cV yy_G_reachFrom bc_G_reachFrom 4 (some .int) 1 := ⟨tb_307, tb_305, tb_306, tb_3, by decide, by decide, by decide +kernel⟩
theorem cv_G_holding : cV yy_G_holding bc_G_holding 4 (some .int) 1 := ⟨tb_313, tb_311, tb_312, tb_3, by decide, by decide, by decide +kernel⟩
theorem cv_D_toldTurn : cV yy_D_toldTurn bc_D_toldTurn 6 (some .int) 1 := ⟨tb_256, tb_254, tb_255, tb_6, by decide, by decide, by decide +kernel⟩
theorem cv_P_bringUp : cV yy_P_bringUp bc_P_bringUp 4 none 1 := ⟨tb_329, tb_327, tb_328, tb_8, by decide, by decide, by decide +kernel⟩
theorem cv_P_setPlaces : cV yy_P_setPlaces bc_P_setPlaces 4 none 1 := ⟨tb_333, tb_332, tp_5, tb_8, by decide, by decide, by decide +kernel⟩
theorem cv_P_gather : cV yy_P_gather bc_P_gather 6 none 2 := ⟨tb_341, tb_340, tp_6, tb_8, by decide, by decide, by decide +kernel⟩
theorem cv_P_put : cV yy_P_put bc_P_put 2 none 1 := ⟨tb_345, tb_344, tp_7, tb_8, by decide, by decide, by decide +kernel⟩
theorem cv_P_turned : cV yy_P_turned bc_P_turned 6 (some .int) 2 := ⟨tb_349, tb_348, tp_8, tb_8, by decide, by decide, by decide +kernel⟩
theorem cv_P_leastOf : cV yy_P_leastOf bc_P_leastOf 2 (some .int) 1 := ⟨tb_358, tb_356, tb_357, tb_8, by decide, by decide, by decide +kernel⟩
theorem cv_P_sizeOf : cV yy_P_sizeOf bc_P_sizeOf 2 (some .int) 1 := ⟨tb_371, tb_369, tb_370, tb_8, by decide, by decide, by decide +kernel⟩
theorem cv_P_twinOf : cV yy_P_twinOf bc_P_twinOf 3 (some .int) 2 := ⟨tb_376, tb_374, tb_375, tb_8, by decide, by decide, by decide +kernel⟩
theorem cv_P_keepersOf : cV yy_P_keepersOf bc_P_keepersOf 4 (some .int) 2 := ⟨tb_399, tb_397, tb_398, tb_8, by decide, by decide, by decide +kernel⟩
theorem cv_P_firstToLeast : cV yy_P_firstToLeast bc_P_firstToLeast 7 (some .int) 2 := ⟨tb_433, tb_431, tb_432, tb_8, by decide, by decide, by decide +kernel⟩
theorem cv_P_amountOfWeight : cV yy_P_amountOfWeight bc_P_amountOfWeight 5 (some .int) 2 := ⟨tb_354, tb_352, tb_353, tb_8, by decide, by decide, by decide +kernel⟩
theorem cv_P_amountHanded : cV yy_P_amountHanded bc_P_amountHanded 4 (some .int) 1 := ⟨tb_408, tb_406, tb_407, tb_8, by decide, by decide, by decide +kernel⟩
theorem cv_P_amountOfAllColours : cV yy_P_amountOfAllColours bc_P_amountOfAllColours 4 (some .int) 1 := ⟨tb_413, tb_411, tb_412, tb_8, by decide, by decide, by decide +kernel⟩
theorem cv_P_amountAlone : cV yy_P_amountAlone bc_P_amountAlone 3 (some .int) 0 := ⟨tb_418, tb_416, tb_417, tb_8, by decide, by decide, by decide +kernel⟩
theorem cv_P_greatestSize : cV yy_P_greatestSize bc_P_greatestSize 3 (some .int) 0 := ⟨tb_422, tb_420, tb_421, tb_8, by decide, by decide, by decide +kernel⟩
theorem cv_S_copyFrom : cV yy_S_copyFrom bc_S_copyFrom 2 none 1 := ⟨tb_442, tb_440, tb_441, tb_2, by decide, by decide, by decide +kernel⟩
theorem cv_S_colourings : cV yy_S_colourings bc_S_colourings 3 (some .int) 0 := ⟨tb_337, tb_335, tb_336, tb_2, by decide, by decide, by decide +kernel⟩
theorem cv_S_mirrored : cV yy_S_mirrored bc_S_mirrored 5 (some .int) 1 := ⟨tb_380, tb_378, tb_379, tb_2, by decide, by decide, by decide +kernel⟩
theorem cv_S_weightOf : cV yy_S_weightOf bc_S_weightOf 5 (some .int) 1 := ⟨tb_362, tb_360, tb_361, tb_2, by decide, by decide, by decide +kernel⟩
theorem cv_S_coloursOf : cV yy_S_coloursOf bc_S_coloursOf 5 (some .int) 1 := ⟨tb_384, tb_382, tb_383, tb_2, by decide, by decide, by decide +kernel⟩
theorem cs_U_goal : cS yy_U_goal bc_U_goal 2 (some .int) 2 := ⟨tb_46, tb_45, tb_4, by decide, by decide, by decide +kernel⟩
theorem cs_U_withGoal : cS yy_U_withGoal bc_U_withGoal 4 (some .int) 3 := ⟨tb_226, tb_225, tb_4, by decide, by decide, by decide +kernel⟩
theorem cs_U_oneThenOther : cS yy_U_oneThenOther bc_U_oneThenOther 4 (some .int) 2 := ⟨tb_241, tb_240, tb_4, by decide, by decide, by decide +kernel⟩
theorem cs_U_rank : cS yy_U_rank bc_U_rank 6 (some .int) 1 := ⟨tb_43, tb_42, tb_4, by decide, by decide, by decide +kernel⟩
theorem cs_U_typeOf : cS yy_U_typeOf bc_U_typeOf 7 (some .int) 2 := ⟨tb_275, tb_274, tb_4, by decide, by decide, by decide +kernel⟩
theorem cs_U_tallyCycles : cS yy_U_tallyCycles bc_U_tallyCycles 7 (some .int) 2 := ⟨tb_278, tb_277, tb_4, by decide, by decide, by decide +kernel⟩
theorem cs_U_timesTillStill : cS yy_U_timesTillStill bc_U_timesTillStill 3 (some .int) 1 := ⟨tb_281, tb_280, tb_4, by decide, by decide, by decide +kernel⟩
theorem cs_U_roundTurn : cS yy_U_roundTurn bc_U_roundTurn 6 (some .int) 3 := ⟨tb_219, tb_218, tb_4, by decide, by decide, by decide +kernel⟩
theorem cs_U_flipTurn : cS yy_U_flipTurn bc_U_flipTurn 5 (some .int) 3 := ⟨tb_244, tb_243, tb_4, by decide, by decide, by decide +kernel⟩
theorem cs_U_withThing : cS yy_U_withThing bc_U_withThing 6 (some .int) 4 := ⟨tb_223, tb_222, tb_4, by decide, by decide, by decide +kernel⟩
theorem cv_Y_bringUp : cV yy_Y_bringUp bc_Y_bringUp 3 none 1 := ⟨tb_290, tb_288, tb_289, tb_7, by decide, by decide, by decide +kernel⟩
theorem cv_Y_add : cV yy_Y_add bc_Y_add 3 none 1 := ⟨tb_295, tb_294, tp_3, tb_7, by decide, by decide, by decide +kernel⟩
theorem cv_Y_insert : cV yy_Y_insert bc_Y_insert 4 none 2 := ⟨tb_299, tb_298, tp_4, tb_7, by decide, by decide, by decide +kernel⟩
theorem cv_T_points : cV yy_T_points bc_T_points 3 (some .int) 1 := ⟨tb_197, tb_195, tb_196, tb_1, by decide, by decide, by decide +kernel⟩
theorem cv_T_beside : cV yy_T_beside bc_T_beside 4 (some .int) 3 := ⟨tb_209, tb_207, tb_208, tb_1, by decide, by decide, by decide +kernel⟩
theorem cv_T_blocks : cV yy_T_blocks bc_T_blocks 6 (some .int) 3 := ⟨tb_248, tb_246, tb_247, tb_1, by decide, by decide, by decide +kernel⟩
theorem cv_T_join : cV yy_T_join bc_T_join 2 (some .int) 0 := ⟨tb_252, tb_250, tb_251, tb_1, by decide, by decide, by decide +kernel⟩
theorem cv_T_say : cV yy_T_say bc_T_say 2 (some .int) 1 := ⟨tb_264, tb_262, tb_263, tb_1, by decide, by decide, by decide +kernel⟩
theorem cv_T_wipe : cV yy_T_wipe bc_T_wipe 2 (some .int) 0 := ⟨tb_268, tb_266, tb_267, tb_1, by decide, by decide, by decide +kernel⟩
theorem cv_T_turn : cV yy_T_turn bc_T_turn 3 (some .int) 1 := ⟨tb_272, tb_270, tb_271, tb_1, by decide, by decide, by decide +kernel⟩
theorem cv_T_type : cV yy_T_type bc_T_type 3 (some .int) 2 := ⟨tb_286, tb_284, tb_285, tb_1, by decide, by decide, by decide +kernel⟩
theorem cv_T_orbit : cV yy_T_orbit bc_T_orbit 3 (some .int) 2 := ⟨tb_303, tb_301, tb_302, tb_1, by decide, by decide, by decide +kernel⟩
theorem cv_T_sorts : cV yy_T_sorts bc_T_sorts 3 (some .int) 1 := ⟨tb_317, tb_315, tb_316, tb_1, by decide, by decide, by decide +kernel⟩
theorem cv_T_weight : cV yy_T_weight bc_T_weight 4 (some .int) 2 := ⟨tb_321, tb_319, tb_320, tb_1, by decide, by decide, by decide +kernel⟩
theorem cv_T_patterns : cV yy_T_patterns bc_T_patterns 2 (some .int) 1 := ⟨tb_325, tb_323, tb_324, tb_1, by decide, by decide, by decide +kernel⟩
theorem cv_T_pattern : cV yy_T_pattern bc_T_pattern 4 (some .int) 2 := ⟨tb_366, tb_364, tb_365, tb_1, by decide, by decide, by decide +kernel⟩
theorem cv_T_of : cV yy_T_of bc_T_of 4 (some .int) 2 := ⟨tb_389, tb_387, tb_388, tb_1, by decide, by decide, by decide +kernel⟩
theorem cv_T_kinds : cV yy_T_kinds bc_T_kinds 2 (some .int) 1 := ⟨tb_404, tb_402, tb_403, tb_1, by decide, by decide, by decide +kernel⟩
theorem cv_T_by : cV yy_T_by bc_T_by 3 (some .int) 2 := ⟨tb_429, tb_427, tb_428, tb_1, by decide, by decide, by decide +kernel⟩
theorem cv_T_image : cV yy_T_image bc_T_image 2 (some .int) 1 := ⟨tb_438, tb_436, tb_437, tb_1, by decide, by decide, by decide +kernel⟩
theorem cv_T_restore : cV yy_T_restore bc_T_restore 2 (some .int) 1 := ⟨tb_454, tb_452, tb_453, tb_1, by decide, by decide, by decide +kernel⟩
theorem cv_T_count : cV yy_T_count bc_T_count 2 (some .int) 1 := ⟨tb_458, tb_456, tb_457, tb_1, by decide, by decide, by decide +kernel⟩
theorem cs_T_isWithin : cS yy_T_isWithin bc_T_isWithin 3 (some .boolean) 3 := ⟨tb_200, tb_199, tb_1, by decide, by decide, by decide +kernel⟩
theorem cs_T_isKind : cS yy_T_isKind bc_T_isKind 1 (some .boolean) 1 := ⟨tb_212, tb_211, tb_1, by decide, by decide, by decide +kernel⟩
theorem cv_T_isNumber : cV yy_T_isNumber bc_T_isNumber 2 (some .boolean) 1 := ⟨tb_393, tb_392, tp_9, tb_1, by decide, by decide, by decide +kernel⟩
theorem cv_T_forgetGroup : cV yy_T_forgetGroup bc_T_forgetGroup 1 none 0 := ⟨tb_205, tb_204, tp_1, tb_1, by decide, by decide, by decide +kernel⟩
theorem cs_M_in : cS yy_M_in bc_M_in 3 (some .boolean) 3 := ⟨tb_581, tb_580, tb_9, by decide, by decide, by decide +kernel⟩
theorem cv_M_many : cV yy_M_many bc_M_many 1 (some .int) 0 := ⟨tb_481, tb_480, tp_13, tb_9, by decide, by decide, by decide +kernel⟩
theorem cv_M_rank : cV yy_M_rank bc_M_rank 5 (some .int) 0 := ⟨tb_485, tb_484, tp_14, tb_9, by decide, by decide, by decide +kernel⟩
theorem cv_M_layRank : cV yy_M_layRank bc_M_layRank 6 none 1 := ⟨tb_493, tb_492, tp_16, tb_9, by decide, by decide, by decide +kernel⟩
theorem cv_M_beginGroup : cV yy_M_beginGroup bc_M_beginGroup 1 none 0 := ⟨tb_469, tb_468, tp_10, tb_9, by decide, by decide, by decide +kernel⟩
theorem cv_M_addMaker : cV yy_M_addMaker bc_M_addMaker 2 none 0 := ⟨tb_604, tb_603, tp_21, tb_9, by decide, by decide, by decide +kernel⟩
theorem cv_M_layStill : cV yy_M_layStill bc_M_layStill 2 none 0 := ⟨tb_477, tb_476, tp_12, tb_9, by decide, by decide, by decide +kernel⟩
theorem cv_M_meet : cV yy_M_meet bc_M_meet 2 none 1 := ⟨tb_489, tb_488, tp_15, tb_9, by decide, by decide, by decide +kernel⟩
theorem cv_M_closeGroup : cV yy_M_closeGroup bc_M_closeGroup 4 none 0 := ⟨tb_473, tb_472, tp_11, tb_9, by decide, by decide, by decide +kernel⟩
theorem cv_M_layTurns : cV yy_M_layTurns bc_M_layTurns 3 none 0 := ⟨tb_497, tb_496, tp_17, tb_9, by decide, by decide, by decide +kernel⟩
theorem cv_M_points : cV yy_M_points bc_M_points 3 (some .int) 1 := ⟨tb_578, tb_576, tb_577, tb_9, by decide, by decide, by decide +kernel⟩
theorem cs_M_isKind : cS yy_M_isKind bc_M_isKind 1 (some .boolean) 1 := ⟨tb_588, tb_587, tb_9, by decide, by decide, by decide +kernel⟩
theorem cv_M_bring : cV yy_M_bring bc_M_bring 6 none 4 := ⟨tb_600, tb_599, tp_20, tb_9, by decide, by decide, by decide +kernel⟩
theorem cv_M_addRound : cV yy_M_addRound bc_M_addRound 5 none 3 := ⟨tb_596, tb_595, tp_19, tb_9, by decide, by decide, by decide +kernel⟩
theorem cv_M_addFlip : cV yy_M_addFlip bc_M_addFlip 5 none 3 := ⟨tb_608, tb_607, tp_22, tb_9, by decide, by decide, by decide +kernel⟩
theorem cv_M_addNext : cV yy_M_addNext bc_M_addNext 6 none 4 := ⟨tb_612, tb_611, tp_23, tb_9, by decide, by decide, by decide +kernel⟩
theorem cv_M_addKind : cV yy_M_addKind bc_M_addKind 7 none 4 := ⟨tb_592, tb_591, tp_18, tb_9, by decide, by decide, by decide +kernel⟩
theorem cv_M_beside : cV yy_M_beside bc_M_beside 4 (some .int) 3 := ⟨tb_585, tb_583, tb_584, tb_9, by decide, by decide, by decide +kernel⟩
theorem cv_M_blocks : cV yy_M_blocks bc_M_blocks 5 (some .int) 3 := ⟨tb_616, tb_614, tb_615, tb_9, by decide, by decide, by decide +kernel⟩
theorem cv_M_say : cV yy_M_say bc_M_say 2 (some .int) 1 := ⟨tb_620, tb_618, tb_619, tb_9, by decide, by decide, by decide +kernel⟩
theorem cv_M_wipe : cV yy_M_wipe bc_M_wipe 2 (some .int) 0 := ⟨tb_624, tb_622, tb_623, tb_9, by decide, by decide, by decide +kernel⟩
theorem cv_M_layPad : cV yy_M_layPad bc_M_layPad 4 (some .boolean) 0 := ⟨tb_632, tb_631, tp_24, tb_9, by decide, by decide, by decide +kernel⟩
theorem cv_M_join : cV yy_M_join bc_M_join 3 (some .int) 0 := ⟨tb_628, tb_626, tb_627, tb_9, by decide, by decide, by decide +kernel⟩
theorem cv_M_typeOfRow : cV yy_M_typeOfRow bc_M_typeOfRow 5 (some .int) 0 := ⟨tb_640, tb_639, tp_25, tb_9, by decide, by decide, by decide +kernel⟩
theorem cs_M_common : cS yy_M_common bc_M_common 5 (some .int) 2 := ⟨tb_646, tb_645, tb_9, by decide, by decide, by decide +kernel⟩
theorem cs_M_orderOf : cS yy_M_orderOf bc_M_orderOf 3 (some .int) 1 := ⟨tb_643, tb_642, tb_9, by decide, by decide, by decide +kernel⟩
theorem cv_M_turn : cV yy_M_turn bc_M_turn 2 (some .int) 1 := ⟨tb_636, tb_634, tb_635, tb_9, by decide, by decide, by decide +kernel⟩
theorem cv_M_addType : cV yy_M_addType bc_M_addType 4 none 1 := ⟨tb_662, tb_661, tp_28, tb_9, by decide, by decide, by decide +kernel⟩
theorem cv_M_layTurn : cV yy_M_layTurn bc_M_layTurn 3 none 1 := ⟨tb_658, tb_657, tp_27, tb_9, by decide, by decide, by decide +kernel⟩
theorem cv_M_layTypes : cV yy_M_layTypes bc_M_layTypes 2 none 0 := ⟨tb_654, tb_653, tp_26, tb_9, by decide, by decide, by decide +kernel⟩
theorem cv_M_type : cV yy_M_type bc_M_type 3 (some .int) 2 := ⟨tb_650, tb_648, tb_649, tb_9, by decide, by decide, by decide +kernel⟩
theorem cv_M_isPoint : cV yy_M_isPoint bc_M_isPoint 2 (some .boolean) 1 := ⟨tb_670, tb_669, tp_29, tb_9, by decide, by decide, by decide +kernel⟩
theorem cv_M_orbit : cV yy_M_orbit bc_M_orbit 7 (some .int) 2 := ⟨tb_666, tb_664, tb_665, tb_9, by decide, by decide, by decide +kernel⟩
theorem cv_M_layColours : cV yy_M_layColours bc_M_layColours 4 none 1 := ⟨tb_698, tb_697, tp_33, tb_9, by decide, by decide, by decide +kernel⟩
theorem cv_M_layWorths : cV yy_M_layWorths bc_M_layWorths 3 none 0 := ⟨tb_690, tb_689, tp_31, tb_9, by decide, by decide, by decide +kernel⟩
theorem cv_M_turned : cV yy_M_turned bc_M_turned 4 (some .int) 1 := ⟨tb_702, tb_701, tp_34, tb_9, by decide, by decide, by decide +kernel⟩
theorem cv_M_layPatterns : cV yy_M_layPatterns bc_M_layPatterns 2 none 0 := ⟨tb_686, tb_685, tp_30, tb_9, by decide, by decide, by decide +kernel⟩
theorem cv_M_strike : cV yy_M_strike bc_M_strike 4 none 1 := ⟨tb_694, tb_693, tp_32, tb_9, by decide, by decide, by decide +kernel⟩
theorem cv_M_weightOf : cV yy_M_weightOf bc_M_weightOf 4 (some .int) 1 := ⟨tb_706, tb_705, tp_35, tb_9, by decide, by decide, by decide +kernel⟩
theorem cv_M_coloursOf : cV yy_M_coloursOf bc_M_coloursOf 4 (some .int) 1 := ⟨tb_722, tb_721, tp_38, tb_9, by decide, by decide, by decide +kernel⟩
theorem cv_M_mirrored : cV yy_M_mirrored bc_M_mirrored 4 (some .int) 1 := ⟨tb_718, tb_717, tp_37, tb_9, by decide, by decide, by decide +kernel⟩
theorem cv_M_sorts : cV yy_M_sorts bc_M_sorts 3 (some .int) 1 := ⟨tb_674, tb_672, tb_673, tb_9, by decide, by decide, by decide +kernel⟩
theorem cv_M_weight : cV yy_M_weight bc_M_weight 4 (some .int) 2 := ⟨tb_678, tb_676, tb_677, tb_9, by decide, by decide, by decide +kernel⟩
theorem cv_M_patterns : cV yy_M_patterns bc_M_patterns 4 (some .int) 1 := ⟨tb_682, tb_680, tb_681, tb_9, by decide, by decide, by decide +kernel⟩
theorem cv_M_twin : cV yy_M_twin bc_M_twin 2 (some .int) 1 := ⟨tb_714, tb_713, tp_36, tb_9, by decide, by decide, by decide +kernel⟩
theorem cv_M_pattern : cV yy_M_pattern bc_M_pattern 3 (some .int) 2 := ⟨tb_710, tb_708, tb_709, tb_9, by decide, by decide, by decide +kernel⟩
theorem cv_M_isNumber : cV yy_M_isNumber bc_M_isNumber 2 (some .boolean) 1 := ⟨tb_730, tb_729, tp_39, tb_9, by decide, by decide, by decide +kernel⟩
theorem cv_M_of : cV yy_M_of bc_M_of 4 (some .int) 2 := ⟨tb_726, tb_724, tb_725, tb_9, by decide, by decide, by decide +kernel⟩
theorem cv_M_isOf : cV yy_M_isOf bc_M_isOf 3 (some .boolean) 2 := ⟨tb_738, tb_737, tp_40, tb_9, by decide, by decide, by decide +kernel⟩
theorem cv_M_kinds : cV yy_M_kinds bc_M_kinds 5 (some .int) 1 := ⟨tb_734, tb_732, tb_733, tb_9, by decide, by decide, by decide +kernel⟩
theorem cv_M_by : cV yy_M_by bc_M_by 5 (some .int) 2 := ⟨tb_742, tb_740, tb_741, tb_9, by decide, by decide, by decide +kernel⟩
theorem cv_M_image : cV yy_M_image bc_M_image 3 (some .int) 1 := ⟨tb_746, tb_744, tb_745, tb_9, by decide, by decide, by decide +kernel⟩
theorem cv_M_restore : cV yy_M_restore bc_M_restore 3 (some .int) 1 := ⟨tb_750, tb_748, tb_749, tb_9, by decide, by decide, by decide +kernel⟩
theorem cv_M_count : cV yy_M_count bc_M_count 2 (some .int) 1 := ⟨tb_754, tb_752, tb_753, tb_9, by decide, by decide, by decide +kernel⟩
theorem cs_J_bitCount : cS yy_J_bitCount bc_J_bitCount 1 (some .int) 1 := ⟨tb_49, tb_48, tb_5, by decide, by decide, by decide +kernel⟩
section XM
variable {p : Program} {l : Launch} {e : Env} {R : Room} {s : State} {m : MethodId} {args : Array Value} {below : List Frame} {meth : Method} {c : Code} {H : Heap} {locs : List Loc} {cells slots : Nat} {Q : State → Prop}
variable {cc : ByteArray} {pc : Nat} {ls : Array Slot} {rest : List Value} {nL : Nat} {own : String} {X : Xw} {A : Nat → Prop}
theorem x_max (hC : Cx p s m args c cc nL own X A) {a b : Int} (ha : inR a) (hb : inR b) {idx : Nat} (hls : ls.size = nL) (hlk : Cond.methodLink own idx ⟨"java/lang/Math", "max", "(II)I"⟩ ∈ tg) (hframes : 1 ≤ R.frames) (hlocals : (rest.map fun v => v.category).sum + 13 ≤ R.locals) (hcs : cells ≤ R.cells ∧ slots ≤ R.slots) (hd : decode cc pc = .ok (.invokestatic idx, 3))
    (kk : ∀ z : Int, inR z → z = (if a < b then b else a) → W p l e R s m args below meth c H locs cells slots Q (F0 m (pc + 3) ls (.int (iI z) :: rest))) : W p l e R s m args below meth c H locs cells slots Q (F0 m pc ls (.int (iI b) :: .int (iI a) :: rest)) := by
  obtain ⟨⟨hx, hbb, hml, hown, hts⟩, hK, hl, hA⟩ := hC
  refine va_mmax hx hbb (by rw [hml, hls]) hown (hts _ hlk) (hts _ tb_424) (hts _ tb_10) (hts _ tb_425) hframes hlocals hcs.1 hcs.2 hd ?_
  have e1 : (if iI a < iI b then iI b else iI a) = iI (if a < b then b else a) := by
    by_cases h : a < b
    · rw [if_pos ((iI_lt ha hb).mpr h), if_pos h]
    · rw [if_neg (fun q => h ((iI_lt ha hb).mp q)), if_neg h]
  rw [e1]
  exact kk _ (by split <;> assumption) rfl
end XM
end
section
def wp_U_goal (a0 : Int) (a1 : Int) (post : Int → Prop) : Prop :=
  inR (6 - a1) ∧ inR (3 * (6 - a1)) ∧ post (bAnd (bShr a0 (3 * (6 - a1))) 7)
set_option maxHeartbeats 4000000 in
set_option maxRecDepth 100000 in
theorem mt_U_goal (l : Launch) (X : Xw) (hlc : lcl X) (a0 : Int) (ra0 : inR a0) (a1 : Int) (ra1 : inR a1) (M : Mm) (hm_M : mr M) (post : Int → Prop) (sz : Nat) (hw : wp_U_goal a0 a1 post) : Met l yy_U_goal (Cond.code yy_U_goal bc_U_goal 2 (some .int) :: tg) ({ frames := 0, cells := 0, slots := 0, locals := 0 } : Room) (Pw X [.int (iI a0), .int (iI a1)] M sz) (Qi X sz (fun r M1 => M1 = M ∧ post r)) 0 0 (xF X sz) := by
  unfold wp_U_goal at hw
  refine x_enter (by decide) hlc hm_M (Nat.le_of_ble_eq_true rfl) ?_
  intro p e s m below meth c ls hC hsz hr hlocks hS hl
  have hx := hC.1.1
  have hb := hC.1.2.1
  have hl : lv_has ls 2 [(0, .int (iI a0)), (1, .int (iI a1))] := hl
  refine lv_iload_n hx hb dd_U_goal_0 rfl (lv_at hl 0 rfl) ?_
  refine x_iconst hC dd_U_goal_1 ?_
  refine x_bipush hC dd_U_goal_2 (by decide) ?_
  refine lv_iload_n hx hb dd_U_goal_4 rfl (lv_at hl 1 rfl) ?_
  obtain ⟨q1, hw⟩ := hw
  refine x_sub hC dd_U_goal_5 ?_
  obtain ⟨q2, hw⟩ := hw
  refine x_mul hC dd_U_goal_6 ?_
  refine x_shr hC dd_U_goal_7 ?_
  refine x_bipush hC dd_U_goal_8 (by decide) ?_
  refine x_and hC dd_U_goal_10 ?_
  exact x_iret hC hS hlocks hr (rng _) ⟨rfl, hw⟩ dd_U_goal_11
def wp_J_bitCount (a0 : Int) (post : Int → Prop) : Prop :=
  inR (a0 - (bAnd (bUshr a0 1) 1431655765)) ∧ ∀ v0_9 : Int, v0_9 = (a0 - (bAnd (bUshr a0 1) 1431655765)) → inR ((bAnd v0_9 858993459) + (bAnd (bUshr v0_9 2) 858993459)) ∧ ∀ v0_23 : Int, v0_23 = ((bAnd v0_9 858993459) + (bAnd (bUshr v0_9 2) 858993459)) → inR (v0_23 + (bUshr v0_23 4)) ∧ ∀ v0_33 : Int, v0_33 = (bAnd (v0_23 + (bUshr v0_23 4)) 252645135) → inR (v0_33 + (bUshr v0_33 8)) ∧ ∀ v0_40 : Int, v0_40 = (v0_33 + (bUshr v0_33 8)) → inR (v0_40 + (bUshr v0_40 16)) ∧ ∀ v0_47 : Int, v0_47 = (v0_40 + (bUshr v0_40 16)) → post (bAnd v0_47 63)
set_option maxHeartbeats 4000000 in
set_option maxRecDepth 100000 in
theorem mt_J_bitCount (l : Launch) (X : Xw) (hlc : lcl X) (a0 : Int) (ra0 : inR a0) (M : Mm) (hm_M : mr M) (post : Int → Prop) (sz : Nat) (hw : wp_J_bitCount a0 post) : Met l yy_J_bitCount (Cond.code yy_J_bitCount bc_J_bitCount 1 (some .int) :: tg) ({ frames := 0, cells := 0, slots := 0, locals := 0 } : Room) (Pw X [.int (iI a0)] M sz) (Qi X sz (fun r M1 => M1 = M ∧ post r)) 0 0 (xF X sz) := by
  unfold wp_J_bitCount at hw
  refine x_enter (by decide) hlc hm_M (Nat.le_of_ble_eq_true rfl) ?_
  intro p e s m below meth c ls hC hsz hr hlocks hS hl
  have hx := hC.1.1
  have hb := hC.1.2.1
  have hl : lv_has ls 1 [(0, .int (iI a0))] := hl
  refine lv_iload_n hx hb dd_J_bitCount_0 rfl (lv_at hl 0 rfl) ?_
  refine lv_iload_n hx hb dd_J_bitCount_1 rfl (lv_at hl 0 rfl) ?_
  refine x_iconst hC dd_J_bitCount_2 ?_
  refine x_ushr hC dd_J_bitCount_3 ?_
  refine x_ldcw hC (n := 1431655765) tb_50 (by decide) dd_J_bitCount_4 ?_
  refine x_and hC dd_J_bitCount_7 ?_
  obtain ⟨q1, hw⟩ := hw
  refine x_sub hC dd_J_bitCount_8 ?_
  refine x_nm q1 (fun v0_9 rv0_9 ev0_9 => ?_)
  have hw := hw v0_9 ev0_9
  refine lv_istore_n (lv' := [(0, .int (iI v0_9))]) hx hb dd_J_bitCount_9 rfl hl (by decide) rfl (fun ls hl => ?_)
  refine lv_iload_n hx hb dd_J_bitCount_10 rfl (lv_at hl 0 rfl) ?_
  refine x_ldcw hC (n := 858993459) tb_51 (by decide) dd_J_bitCount_11 ?_
  refine x_and hC dd_J_bitCount_14 ?_
  refine lv_iload_n hx hb dd_J_bitCount_15 rfl (lv_at hl 0 rfl) ?_
  refine x_iconst hC dd_J_bitCount_16 ?_
  refine x_ushr hC dd_J_bitCount_17 ?_
  refine x_ldcw hC (n := 858993459) tb_51 (by decide) dd_J_bitCount_18 ?_
  refine x_and hC dd_J_bitCount_21 ?_
  obtain ⟨q2, hw⟩ := hw
  refine x_add hC dd_J_bitCount_22 ?_
  refine x_nm q2 (fun v0_23 rv0_23 ev0_23 => ?_)
  have hw := hw v0_23 ev0_23
  refine lv_istore_n (lv' := [(0, .int (iI v0_23))]) hx hb dd_J_bitCount_23 rfl hl (by decide) rfl (fun ls hl => ?_)
  refine lv_iload_n hx hb dd_J_bitCount_24 rfl (lv_at hl 0 rfl) ?_
  refine lv_iload_n hx hb dd_J_bitCount_25 rfl (lv_at hl 0 rfl) ?_
  refine x_iconst hC dd_J_bitCount_26 ?_
  refine x_ushr hC dd_J_bitCount_27 ?_
  obtain ⟨q3, hw⟩ := hw
  refine x_add hC dd_J_bitCount_28 ?_
  refine x_ldcw hC (n := 252645135) tb_52 (by decide) dd_J_bitCount_29 ?_
  refine x_and hC dd_J_bitCount_32 ?_
  refine x_nm (rng _) (fun v0_33 rv0_33 ev0_33 => ?_)
  have hw := hw v0_33 ev0_33
  refine lv_istore_n (lv' := [(0, .int (iI v0_33))]) hx hb dd_J_bitCount_33 rfl hl (by decide) rfl (fun ls hl => ?_)
  refine lv_iload_n hx hb dd_J_bitCount_34 rfl (lv_at hl 0 rfl) ?_
  refine lv_iload_n hx hb dd_J_bitCount_35 rfl (lv_at hl 0 rfl) ?_
  refine x_bipush hC dd_J_bitCount_36 (by decide) ?_
  refine x_ushr hC dd_J_bitCount_38 ?_
  obtain ⟨q4, hw⟩ := hw
  refine x_add hC dd_J_bitCount_39 ?_
  refine x_nm q4 (fun v0_40 rv0_40 ev0_40 => ?_)
  have hw := hw v0_40 ev0_40
  refine lv_istore_n (lv' := [(0, .int (iI v0_40))]) hx hb dd_J_bitCount_40 rfl hl (by decide) rfl (fun ls hl => ?_)
  refine lv_iload_n hx hb dd_J_bitCount_41 rfl (lv_at hl 0 rfl) ?_
  refine lv_iload_n hx hb dd_J_bitCount_42 rfl (lv_at hl 0 rfl) ?_
  refine x_bipush hC dd_J_bitCount_43 (by decide) ?_
  refine x_ushr hC dd_J_bitCount_45 ?_
  obtain ⟨q5, hw⟩ := hw
  refine x_add hC dd_J_bitCount_46 ?_
  refine x_nm q5 (fun v0_47 rv0_47 ev0_47 => ?_)
  have hw := hw v0_47 ev0_47
  refine lv_istore_n (lv' := [(0, .int (iI v0_47))]) hx hb dd_J_bitCount_47 rfl hl (by decide) rfl (fun ls hl => ?_)
  refine lv_iload_n hx hb dd_J_bitCount_48 rfl (lv_at hl 0 rfl) ?_
  refine x_bipush hC dd_J_bitCount_49 (by decide) ?_
  refine x_and hC dd_J_bitCount_51 ?_
  exact x_iret hC hS hlocks hr (rng _) ⟨rfl, hw⟩ dd_J_bitCount_52
def wp_U_rank (a0 : Int) (post : Int → Prop) : Prop :=
  ∃ I6 : Nat → Int → Int → Int → Prop, (∃ n, I6 n 0 0 0) ∧ ∀ (n6 : Nat) (x1_6 : Int) (x2_6 : Int) (x3_6 : Int), I6 n6 x1_6 x2_6 x3_6 →
    ((7 ≤ x3_6 → post x1_6) ∧
      (¬ 7 ≤ x3_6 → wp_U_goal a0 x3_6 (fun (r14 : Int) => inR ((bShl 1 r14) - 1) ∧ wp_J_bitCount (bAnd x2_6 ((bShl 1 r14) - 1)) (fun (r29 : Int) => inR (r14 - r29) ∧ ∀ v5_33 : Int, v5_33 = (r14 - r29) → inR (7 - x3_6) ∧ inR (x1_6 * (7 - x3_6)) ∧ inR ((x1_6 * (7 - x3_6)) + v5_33) ∧ ∀ v1_44 : Int, v1_44 = ((x1_6 * (7 - x3_6)) + v5_33) → ∀ v2_51 : Int, v2_51 = (bOr x2_6 (bShl 1 r14)) → inR (x3_6 + 1) ∧ ∀ v3_52 : Int, v3_52 = x3_6 + 1 → ∃ k_7, k_7 < n6 ∧ I6 k_7 v1_44 v2_51 v3_52))))
set_option maxHeartbeats 4000000 in
set_option maxRecDepth 100000 in
theorem mt_U_rank (l : Launch) (X : Xw) (hlc : lcl X) (a0 : Int) (ra0 : inR a0) (M : Mm) (hm_M : mr M) (post : Int → Prop) (sz : Nat) (hw : wp_U_rank a0 post) : Met l yy_U_rank (Cond.code yy_U_rank bc_U_rank 6 (some .int) :: tg) ({ frames := 1, cells := 0, slots := 0, locals := 21 } : Room) (Pw X [.int (iI a0)] M sz) (Qi X sz (fun r M1 => M1 = M ∧ post r)) 0 0 (xF X sz) := by
  unfold wp_U_rank at hw
  refine x_enter (by decide) hlc hm_M (Nat.le_of_ble_eq_true rfl) ?_
  intro p e s m below meth c ls hC hsz hr hlocks hS hl
  have hx := hC.1.1
  have hb := hC.1.2.1
  have hl : lv_has ls 6 [(0, .int (iI a0))] := hl
  refine x_iconst hC dd_U_rank_0 ?_
  refine lv_istore_n (lv' := [(1, .int (iI 0)), (0, .int (iI a0))]) hx hb dd_U_rank_1 rfl hl (by decide) rfl (fun ls hl => ?_)
  refine x_iconst hC dd_U_rank_2 ?_
  refine lv_istore_n (lv' := [(2, .int (iI 0)), (1, .int (iI 0)), (0, .int (iI a0))]) hx hb dd_U_rank_3 rfl hl (by decide) rfl (fun ls hl => ?_)
  refine x_iconst hC dd_U_rank_4 ?_
  refine lv_istore_n (lv' := [(3, .int (iI 0)), (2, .int (iI 0)), (1, .int (iI 0)), (0, .int (iI a0))]) hx hb dd_U_rank_5 rfl hl (by decide) rfl (fun ls hl => ?_)
  obtain ⟨I6, ⟨n0, hI⟩, hstep_I6⟩ := hw
  have lp_I6 : ∀ (n6 : Nat) (x1_6 : Int) (x2_6 : Int) (x3_6 : Int) (H : Heap) (locs : List Loc) (ls : Array Slot), I6 n6 x1_6 x2_6 x3_6 → inR x1_6 → inR x2_6 → inR x3_6 → St X (xF X sz) s M H locs → lv_has ls 6 [(0, .int (iI a0)), (1, .int (iI x1_6)), (2, .int (iI x2_6)), (3, .int (iI x3_6))] → W p l e ({ frames := 1, cells := 0, slots := 0, locals := 21 } : Room) s m ([.int (iI a0)] : List Value).toArray below meth c H locs 0 0 (MQ below (Qi X sz (fun r M1 => M1 = M ∧ post r)) ([.int (iI a0)] : List Value).toArray s 0 0 (xF X sz)) (F0 m 6 ls []) := by
    intro n6
    induction n6 using Nat.strongRecOn with
    | _ n6 ih_I6 =>
      intro x1_6 x2_6 x3_6 H locs ls hI rx1_6 rx2_6 rx3_6 hS hl
      have hw := hstep_I6 n6 x1_6 x2_6 x3_6 hI
      refine lv_iload_n hx hb dd_U_rank_6 rfl (lv_at hl 3 rfl) ?_
      refine x_bipush hC dd_U_rank_7 (by decide) ?_
      refine x_icmp_ge hC rx3_6 (rk rfl) (tgt := 58) dd_U_rank_9 (by decide) (fun c1 => ?_) (fun c1 => ?_)
      · have hw := hw.1 c1
        refine lv_iload_n hx hb dd_U_rank_58 rfl (lv_at hl 1 rfl) ?_
        exact x_iret hC hS hlocks hr rx1_6 ⟨rfl, hw⟩ dd_U_rank_59
      · have hw := hw.2 c1
        refine lv_iload_n hx hb dd_U_rank_12 rfl (lv_at hl 0 rfl) ?_
        refine lv_iload_n hx hb dd_U_rank_13 rfl (lv_at hl 3 rfl) ?_
        refine x_callSi hC hS (As := [.int (iI a0), .int (iI x3_6)]) (rest := []) cs_U_goal (mt_U_goal l X hC.2.2.1  a0 ra0 x3_6 rx3_6 M hm_M _ _ hw) tb_44 rfl rfl ⟨Nat.le_of_ble_eq_true rfl, Nat.le_of_ble_eq_true rfl⟩ rfl hl.1 (Nat.le_of_ble_eq_true rfl) dd_U_rank_14 ⟨Nat.le_refl _, Nat.le_refl _⟩ rfl (fun r14 Mx H locs rr14 hp hS => ?_)
        obtain ⟨hq, hw⟩ := hp
        rw [hq] at hS
        refine lv_istore (lv' := [(4, .int (iI r14)), (0, .int (iI a0)), (1, .int (iI x1_6)), (2, .int (iI x2_6)), (3, .int (iI x3_6))]) hx hb dd_U_rank_17 hl (by decide) rfl (fun ls hl => ?_)
        refine lv_iload hx hb dd_U_rank_19 (lv_at hl 0 rfl) ?_
        refine lv_iload_n hx hb dd_U_rank_21 rfl (lv_at hl 3 rfl) ?_
        refine x_iconst hC dd_U_rank_22 ?_
        refine lv_iload hx hb dd_U_rank_23 (lv_at hl 0 rfl) ?_
        refine x_shl hC dd_U_rank_25 ?_
        refine x_iconst hC dd_U_rank_26 ?_
        obtain ⟨q2, hw⟩ := hw
        refine x_sub hC dd_U_rank_27 ?_
        refine x_and hC dd_U_rank_28 ?_
        refine x_callSi hC hS (As := [.int (iI (bAnd x2_6 ((bShl 1 r14) - 1)))]) (rest := [.int (iI r14)]) cs_J_bitCount (mt_J_bitCount l X hC.2.2.1  (bAnd x2_6 ((bShl 1 r14) - 1)) (rng _) M hm_M _ _ hw) tb_47 rfl rfl ⟨Nat.le_of_ble_eq_true rfl, Nat.le_of_ble_eq_true rfl⟩ rfl hl.1 (Nat.le_of_ble_eq_true rfl) dd_U_rank_29 ⟨Nat.le_refl _, Nat.le_refl _⟩ rfl (fun r29 Mx H locs rr29 hp hS => ?_)
        obtain ⟨hq, hw⟩ := hp
        rw [hq] at hS
        obtain ⟨q3, hw⟩ := hw
        refine x_sub hC dd_U_rank_32 ?_
        refine x_nm q3 (fun v5_33 rv5_33 ev5_33 => ?_)
        have hw := hw v5_33 ev5_33
        refine lv_istore (lv' := [(5, .int (iI v5_33)), (4, .int (iI r14)), (0, .int (iI a0)), (1, .int (iI x1_6)), (2, .int (iI x2_6)), (3, .int (iI x3_6))]) hx hb dd_U_rank_33 hl (by decide) rfl (fun ls hl => ?_)
        refine lv_iload_n hx hb dd_U_rank_35 rfl (lv_at hl 3 rfl) ?_
        refine x_bipush hC dd_U_rank_36 (by decide) ?_
        refine lv_iload_n hx hb dd_U_rank_38 rfl (lv_at hl 5 rfl) ?_
        obtain ⟨q4, hw⟩ := hw
        refine x_sub hC dd_U_rank_39 ?_
        obtain ⟨q5, hw⟩ := hw
        refine x_mul hC dd_U_rank_40 ?_
        refine lv_iload hx hb dd_U_rank_41 (lv_at hl 0 rfl) ?_
        obtain ⟨q6, hw⟩ := hw
        refine x_add hC dd_U_rank_43 ?_
        refine x_nm q6 (fun v1_44 rv1_44 ev1_44 => ?_)
        have hw := hw v1_44 ev1_44
        refine lv_istore_n (lv' := [(1, .int (iI v1_44)), (5, .int (iI v5_33)), (4, .int (iI r14)), (0, .int (iI a0)), (2, .int (iI x2_6)), (3, .int (iI x3_6))]) hx hb dd_U_rank_44 rfl hl (by decide) rfl (fun ls hl => ?_)
        refine lv_iload_n hx hb dd_U_rank_45 rfl (lv_at hl 4 rfl) ?_
        refine x_iconst hC dd_U_rank_46 ?_
        refine lv_iload hx hb dd_U_rank_47 (lv_at hl 2 rfl) ?_
        refine x_shl hC dd_U_rank_49 ?_
        refine x_or hC dd_U_rank_50 ?_
        refine x_nm (rng _) (fun v2_51 rv2_51 ev2_51 => ?_)
        have hw := hw v2_51 ev2_51
        refine lv_istore_n (lv' := [(2, .int (iI v2_51)), (1, .int (iI v1_44)), (5, .int (iI v5_33)), (4, .int (iI r14)), (0, .int (iI a0)), (3, .int (iI x3_6))]) hx hb dd_U_rank_51 rfl hl (by decide) rfl (fun ls hl => ?_)
        obtain ⟨hr_, hw⟩ := hw
        obtain ⟨v3_52, rv3_52, ev3_52⟩ : ∃ z : Int, inR z ∧ z = x3_6 + 1 := ⟨_, hr_, rfl⟩
        have hw := hw v3_52 ev3_52
        refine lv_iinc (v := iI v3_52) (lv' := [(3, .int (iI v3_52)), (2, .int (iI v2_51)), (1, .int (iI v1_44)), (5, .int (iI v5_33)), (4, .int (iI r14)), (0, .int (iI a0))]) hx hb dd_U_rank_52 hl (k := 5) rfl (by rw [ev3_52]; exact iI_add _ _) (by decide) rfl (fun ls hl => ?_)
        refine lv_goto (tgt := 6) hx hb dd_U_rank_55 (by decide) ?_
        obtain ⟨k_7, h8, hI⟩ := hw
        exact ih_I6 k_7 h8 v1_44 v2_51 v3_52 _ _ _ hI rv1_44 rv2_51 rv3_52 hS (lv_sub hl [5, 2, 1, 0] rfl)
  exact lp_I6 n0 0 0 0 _ _ _ hI (rk rfl) (rk rfl) (rk rfl) hS (lv_sub hl [3, 2, 1, 0] rfl)
def wp_U_withGoal (a0 : Int) (a1 : Int) (a2 : Int) (post : Int → Prop) : Prop :=
  inR (6 - a1) ∧ inR (3 * (6 - a1)) ∧ ∀ v3_6 : Int, v3_6 = (3 * (6 - a1)) → post (bOr (bAnd a0 (bXor (bShl 7 v3_6) (-1))) (bShl a2 v3_6))
set_option maxHeartbeats 4000000 in
set_option maxRecDepth 100000 in
theorem mt_U_withGoal (l : Launch) (X : Xw) (hlc : lcl X) (a0 : Int) (ra0 : inR a0) (a1 : Int) (ra1 : inR a1) (a2 : Int) (ra2 : inR a2) (M : Mm) (hm_M : mr M) (post : Int → Prop) (sz : Nat) (hw : wp_U_withGoal a0 a1 a2 post) : Met l yy_U_withGoal (Cond.code yy_U_withGoal bc_U_withGoal 4 (some .int) :: tg) ({ frames := 0, cells := 0, slots := 0, locals := 0 } : Room) (Pw X [.int (iI a0), .int (iI a1), .int (iI a2)] M sz) (Qi X sz (fun r M1 => M1 = M ∧ post r)) 0 0 (xF X sz) := by
  unfold wp_U_withGoal at hw
  refine x_enter (by decide) hlc hm_M (Nat.le_of_ble_eq_true rfl) ?_
  intro p e s m below meth c ls hC hsz hr hlocks hS hl
  have hx := hC.1.1
  have hb := hC.1.2.1
  have hl : lv_has ls 4 [(0, .int (iI a0)), (1, .int (iI a1)), (2, .int (iI a2))] := hl
  refine x_iconst hC dd_U_withGoal_0 ?_
  refine x_bipush hC dd_U_withGoal_1 (by decide) ?_
  refine lv_iload_n hx hb dd_U_withGoal_3 rfl (lv_at hl 1 rfl) ?_
  obtain ⟨q1, hw⟩ := hw
  refine x_sub hC dd_U_withGoal_4 ?_
  obtain ⟨q2, hw⟩ := hw
  refine x_mul hC dd_U_withGoal_5 ?_
  refine x_nm q2 (fun v3_6 rv3_6 ev3_6 => ?_)
  have hw := hw v3_6 ev3_6
  refine lv_istore_n (lv' := [(3, .int (iI v3_6)), (0, .int (iI a0)), (1, .int (iI a1)), (2, .int (iI a2))]) hx hb dd_U_withGoal_6 rfl hl (by decide) rfl (fun ls hl => ?_)
  refine lv_iload_n hx hb dd_U_withGoal_7 rfl (lv_at hl 1 rfl) ?_
  refine x_bipush hC dd_U_withGoal_8 (by decide) ?_
  refine lv_iload_n hx hb dd_U_withGoal_10 rfl (lv_at hl 0 rfl) ?_
  refine x_shl hC dd_U_withGoal_11 ?_
  refine x_iconst hC dd_U_withGoal_12 ?_
  refine x_xor hC dd_U_withGoal_13 ?_
  refine x_and hC dd_U_withGoal_14 ?_
  refine lv_iload_n hx hb dd_U_withGoal_15 rfl (lv_at hl 3 rfl) ?_
  refine lv_iload_n hx hb dd_U_withGoal_16 rfl (lv_at hl 0 rfl) ?_
  refine x_shl hC dd_U_withGoal_17 ?_
  refine x_or hC dd_U_withGoal_18 ?_
  exact x_iret hC hS hlocks hr (rng _) ⟨rfl, hw⟩ dd_U_withGoal_19
def wp_U_withThing (a0 : Int) (a1 : Int) (a2 : Int) (a3 : Int) (post : Int → Prop) : Prop :=
  ∃ I6 : Nat → Int → Int → Prop, (∃ n, I6 n a0 0) ∧ ∀ (n6 : Nat) (x4_6 : Int) (x5_6 : Int), I6 n6 x4_6 x5_6 →
    ((a3 ≤ x5_6 → post x4_6) ∧
      (¬ a3 ≤ x5_6 → inR (a1 + x5_6) ∧ inR (a2 + x5_6) ∧ wp_U_withGoal x4_6 (a1 + x5_6) (a2 + x5_6) (fun (r22 : Int) => inR (x5_6 + 1) ∧ ∀ v5_27 : Int, v5_27 = x5_6 + 1 → ∃ k_4, k_4 < n6 ∧ I6 k_4 r22 v5_27)))
set_option maxHeartbeats 4000000 in
set_option maxRecDepth 100000 in
theorem mt_U_withThing (l : Launch) (X : Xw) (hlc : lcl X) (a0 : Int) (ra0 : inR a0) (a1 : Int) (ra1 : inR a1) (a2 : Int) (ra2 : inR a2) (a3 : Int) (ra3 : inR a3) (M : Mm) (hm_M : mr M) (post : Int → Prop) (sz : Nat) (hw : wp_U_withThing a0 a1 a2 a3 post) : Met l yy_U_withThing (Cond.code yy_U_withThing bc_U_withThing 6 (some .int) :: tg) ({ frames := 1, cells := 0, slots := 0, locals := 23 } : Room) (Pw X [.int (iI a0), .int (iI a1), .int (iI a2), .int (iI a3)] M sz) (Qi X sz (fun r M1 => M1 = M ∧ post r)) 0 0 (xF X sz) := by
  unfold wp_U_withThing at hw
  refine x_enter (by decide) hlc hm_M (Nat.le_of_ble_eq_true rfl) ?_
  intro p e s m below meth c ls hC hsz hr hlocks hS hl
  have hx := hC.1.1
  have hb := hC.1.2.1
  have hl : lv_has ls 6 [(0, .int (iI a0)), (1, .int (iI a1)), (2, .int (iI a2)), (3, .int (iI a3))] := hl
  refine lv_iload_n hx hb dd_U_withThing_0 rfl (lv_at hl 0 rfl) ?_
  refine lv_istore (lv' := [(4, .int (iI a0)), (0, .int (iI a0)), (1, .int (iI a1)), (2, .int (iI a2)), (3, .int (iI a3))]) hx hb dd_U_withThing_1 hl (by decide) rfl (fun ls hl => ?_)
  refine x_iconst hC dd_U_withThing_3 ?_
  refine lv_istore (lv' := [(5, .int (iI 0)), (4, .int (iI a0)), (0, .int (iI a0)), (1, .int (iI a1)), (2, .int (iI a2)), (3, .int (iI a3))]) hx hb dd_U_withThing_4 hl (by decide) rfl (fun ls hl => ?_)
  obtain ⟨I6, ⟨n0, hI⟩, hstep_I6⟩ := hw
  have lp_I6 : ∀ (n6 : Nat) (x4_6 : Int) (x5_6 : Int) (H : Heap) (locs : List Loc) (ls : Array Slot), I6 n6 x4_6 x5_6 → inR x4_6 → inR x5_6 → St X (xF X sz) s M H locs → lv_has ls 6 [(1, .int (iI a1)), (2, .int (iI a2)), (3, .int (iI a3)), (4, .int (iI x4_6)), (5, .int (iI x5_6))] → W p l e ({ frames := 1, cells := 0, slots := 0, locals := 23 } : Room) s m ([.int (iI a0), .int (iI a1), .int (iI a2), .int (iI a3)] : List Value).toArray below meth c H locs 0 0 (MQ below (Qi X sz (fun r M1 => M1 = M ∧ post r)) ([.int (iI a0), .int (iI a1), .int (iI a2), .int (iI a3)] : List Value).toArray s 0 0 (xF X sz)) (F0 m 6 ls []) := by
    intro n6
    induction n6 using Nat.strongRecOn with
    | _ n6 ih_I6 =>
      intro x4_6 x5_6 H locs ls hI rx4_6 rx5_6 hS hl
      have hw := hstep_I6 n6 x4_6 x5_6 hI
      refine lv_iload hx hb dd_U_withThing_6 (lv_at hl 4 rfl) ?_
      refine lv_iload_n hx hb dd_U_withThing_8 rfl (lv_at hl 2 rfl) ?_
      refine x_icmp_ge hC rx5_6 ra3 (tgt := 33) dd_U_withThing_9 (by decide) (fun c1 => ?_) (fun c1 => ?_)
      · have hw := hw.1 c1
        refine lv_iload hx hb dd_U_withThing_33 (lv_at hl 3 rfl) ?_
        exact x_iret hC hS hlocks hr rx4_6 ⟨rfl, hw⟩ dd_U_withThing_35
      · have hw := hw.2 c1
        refine lv_iload hx hb dd_U_withThing_12 (lv_at hl 3 rfl) ?_
        refine lv_iload_n hx hb dd_U_withThing_14 rfl (lv_at hl 0 rfl) ?_
        refine lv_iload hx hb dd_U_withThing_15 (lv_at hl 4 rfl) ?_
        obtain ⟨q2, hw⟩ := hw
        refine x_add hC dd_U_withThing_17 ?_
        refine lv_iload_n hx hb dd_U_withThing_18 rfl (lv_at hl 1 rfl) ?_
        refine lv_iload hx hb dd_U_withThing_19 (lv_at hl 4 rfl) ?_
        obtain ⟨q3, hw⟩ := hw
        refine x_add hC dd_U_withThing_21 ?_
        refine x_callSi hC hS (As := [.int (iI x4_6), .int (iI (a1 + x5_6)), .int (iI (a2 + x5_6))]) (rest := []) cs_U_withGoal (mt_U_withGoal l X hC.2.2.1  x4_6 rx4_6 (a1 + x5_6) q2 (a2 + x5_6) q3 M hm_M _ _ hw) tb_224 rfl rfl ⟨Nat.le_of_ble_eq_true rfl, Nat.le_of_ble_eq_true rfl⟩ rfl hl.1 (Nat.le_of_ble_eq_true rfl) dd_U_withThing_22 ⟨Nat.le_refl _, Nat.le_refl _⟩ rfl (fun r22 Mx H locs rr22 hp hS => ?_)
        obtain ⟨hq, hw⟩ := hp
        rw [hq] at hS
        refine lv_istore (lv' := [(4, .int (iI r22)), (1, .int (iI a1)), (2, .int (iI a2)), (3, .int (iI a3)), (5, .int (iI x5_6))]) hx hb dd_U_withThing_25 hl (by decide) rfl (fun ls hl => ?_)
        obtain ⟨hr_, hw⟩ := hw
        obtain ⟨v5_27, rv5_27, ev5_27⟩ : ∃ z : Int, inR z ∧ z = x5_6 + 1 := ⟨_, hr_, rfl⟩
        have hw := hw v5_27 ev5_27
        refine lv_iinc (v := iI v5_27) (lv' := [(5, .int (iI v5_27)), (4, .int (iI r22)), (1, .int (iI a1)), (2, .int (iI a2)), (3, .int (iI a3))]) hx hb dd_U_withThing_27 hl (k := 4) rfl (by rw [ev5_27]; exact iI_add _ _) (by decide) rfl (fun ls hl => ?_)
        refine lv_goto (tgt := 6) hx hb dd_U_withThing_30 (by decide) ?_
        obtain ⟨k_4, h5, hI⟩ := hw
        exact ih_I6 k_4 h5 r22 v5_27 _ _ _ hI rr22 rv5_27 hS (lv_sub hl [2, 3, 4, 1, 0] rfl)
  exact lp_I6 n0 a0 0 _ _ _ hI ra0 (rk rfl) hS (lv_sub hl [3, 4, 5, 1, 0] rfl)
def wp_U_roundTurn (a0 : Int) (a1 : Int) (a2 : Int) (post : Int → Prop) : Prop :=
  ∃ I6 : Nat → Int → Int → Prop, (∃ n, I6 n 42798 0) ∧ ∀ (n6 : Nat) (x3_6 : Int) (x4_6 : Int), I6 n6 x3_6 x4_6 →
    ((a1 ≤ x4_6 → post x3_6) ∧
      (¬ a1 ≤ x4_6 → inR (x4_6 + 1) ∧ ∀ K28 : Int → Prop, (∀ (s0_28 : Int), (inR (x4_6 * a2) ∧ inR (a0 + (x4_6 * a2)) ∧ inR (s0_28 * a2) ∧ inR (a0 + (s0_28 * a2)) ∧ wp_U_withThing x3_6 (a0 + (x4_6 * a2)) (a0 + (s0_28 * a2)) a2 (fun (r44 : Int) => inR (x4_6 + 1) ∧ ∀ v4_48 : Int, v4_48 = x4_6 + 1 → ∃ k_7, k_7 < n6 ∧ I6 k_7 r44 v4_48)) →
          K28 s0_28) →
        ((a1 ≤ (x4_6 + 1) → K28 0) ∧
        (¬ a1 ≤ (x4_6 + 1) → inR (x4_6 + 1) ∧ K28 (x4_6 + 1)))))
set_option maxHeartbeats 4000000 in
set_option maxRecDepth 100000 in
theorem mt_U_roundTurn (l : Launch) (X : Xw) (hlc : lcl X) (a0 : Int) (ra0 : inR a0) (a1 : Int) (ra1 : inR a1) (a2 : Int) (ra2 : inR a2) (M : Mm) (hm_M : mr M) (post : Int → Prop) (sz : Nat) (hw : wp_U_roundTurn a0 a1 a2 post) : Met l yy_U_roundTurn (Cond.code yy_U_roundTurn bc_U_roundTurn 6 (some .int) :: tg) ({ frames := 2, cells := 0, slots := 0, locals := 48 } : Room) (Pw X [.int (iI a0), .int (iI a1), .int (iI a2)] M sz) (Qi X sz (fun r M1 => M1 = M ∧ post r)) 0 0 (xF X sz) := by
  unfold wp_U_roundTurn at hw
  refine x_enter (by decide) hlc hm_M (Nat.le_of_ble_eq_true rfl) ?_
  intro p e s m below meth c ls hC hsz hr hlocks hS hl
  have hx := hC.1.1
  have hb := hC.1.2.1
  have hl : lv_has ls 6 [(0, .int (iI a0)), (1, .int (iI a1)), (2, .int (iI a2))] := hl
  refine x_ldc hC (n := 42798) tb_220 (by decide) dd_U_roundTurn_0 ?_
  refine lv_istore_n (lv' := [(3, .int (iI 42798)), (0, .int (iI a0)), (1, .int (iI a1)), (2, .int (iI a2))]) hx hb dd_U_roundTurn_2 rfl hl (by decide) rfl (fun ls hl => ?_)
  refine x_iconst hC dd_U_roundTurn_3 ?_
  refine lv_istore (lv' := [(4, .int (iI 0)), (3, .int (iI 42798)), (0, .int (iI a0)), (1, .int (iI a1)), (2, .int (iI a2))]) hx hb dd_U_roundTurn_4 hl (by decide) rfl (fun ls hl => ?_)
  obtain ⟨I6, ⟨n0, hI⟩, hstep_I6⟩ := hw
  have lp_I6 : ∀ (n6 : Nat) (x3_6 : Int) (x4_6 : Int) (H : Heap) (locs : List Loc) (ls : Array Slot), I6 n6 x3_6 x4_6 → inR x3_6 → inR x4_6 → St X (xF X sz) s M H locs → lv_has ls 6 [(0, .int (iI a0)), (1, .int (iI a1)), (2, .int (iI a2)), (3, .int (iI x3_6)), (4, .int (iI x4_6))] → W p l e ({ frames := 2, cells := 0, slots := 0, locals := 48 } : Room) s m ([.int (iI a0), .int (iI a1), .int (iI a2)] : List Value).toArray below meth c H locs 0 0 (MQ below (Qi X sz (fun r M1 => M1 = M ∧ post r)) ([.int (iI a0), .int (iI a1), .int (iI a2)] : List Value).toArray s 0 0 (xF X sz)) (F0 m 6 ls []) := by
    intro n6
    induction n6 using Nat.strongRecOn with
    | _ n6 ih_I6 =>
      intro x3_6 x4_6 H locs ls hI rx3_6 rx4_6 hS hl
      have hw := hstep_I6 n6 x3_6 x4_6 hI
      refine lv_iload hx hb dd_U_roundTurn_6 (lv_at hl 4 rfl) ?_
      refine lv_iload_n hx hb dd_U_roundTurn_8 rfl (lv_at hl 1 rfl) ?_
      refine x_icmp_ge hC rx4_6 ra1 (tgt := 54) dd_U_roundTurn_9 (by decide) (fun c1 => ?_) (fun c1 => ?_)
      · have hw := hw.1 c1
        refine lv_iload_n hx hb dd_U_roundTurn_54 rfl (lv_at hl 3 rfl) ?_
        exact x_iret hC hS hlocks hr rx3_6 ⟨rfl, hw⟩ dd_U_roundTurn_55
      · have hw := hw.2 c1
        refine lv_iload hx hb dd_U_roundTurn_12 (lv_at hl 4 rfl) ?_
        refine x_iconst hC dd_U_roundTurn_14 ?_
        obtain ⟨q2, hw⟩ := hw
        refine x_add hC dd_U_roundTurn_15 ?_
        refine lv_iload_n hx hb dd_U_roundTurn_16 rfl (lv_at hl 1 rfl) ?_
        have hw := hw (fun (s0_28 : Int) => ∀ (H : Heap) (locs : List Loc) (ls : Array Slot), inR s0_28 → St X (xF X sz) s M H locs → lv_has ls 6 [(0, .int (iI a0)), (1, .int (iI a1)), (2, .int (iI a2)), (3, .int (iI x3_6)), (4, .int (iI x4_6))] → W p l e ({ frames := 2, cells := 0, slots := 0, locals := 48 } : Room) s m ([.int (iI a0), .int (iI a1), .int (iI a2)] : List Value).toArray below meth c H locs 0 0 (MQ below (Qi X sz (fun r M1 => M1 = M ∧ post r)) ([.int (iI a0), .int (iI a1), .int (iI a2)] : List Value).toArray s 0 0 (xF X sz)) (F0 m 28 ls [.int (iI s0_28)])) (by
            intro s0_28 hw H locs ls rs0_28 hS hl
            refine lv_istore (lv' := [(5, .int (iI s0_28)), (0, .int (iI a0)), (1, .int (iI a1)), (2, .int (iI a2)), (3, .int (iI x3_6)), (4, .int (iI x4_6))]) hx hb dd_U_roundTurn_28 hl (by decide) rfl (fun ls hl => ?_)
            refine lv_iload_n hx hb dd_U_roundTurn_30 rfl (lv_at hl 4 rfl) ?_
            refine lv_iload_n hx hb dd_U_roundTurn_31 rfl (lv_at hl 1 rfl) ?_
            refine lv_iload hx hb dd_U_roundTurn_32 (lv_at hl 5 rfl) ?_
            refine lv_iload_n hx hb dd_U_roundTurn_34 rfl (lv_at hl 3 rfl) ?_
            obtain ⟨q3, hw⟩ := hw
            refine x_mul hC dd_U_roundTurn_35 ?_
            obtain ⟨q4, hw⟩ := hw
            refine x_add hC dd_U_roundTurn_36 ?_
            refine lv_iload_n hx hb dd_U_roundTurn_37 rfl (lv_at hl 1 rfl) ?_
            refine lv_iload hx hb dd_U_roundTurn_38 (lv_at hl 0 rfl) ?_
            refine lv_iload_n hx hb dd_U_roundTurn_40 rfl (lv_at hl 3 rfl) ?_
            obtain ⟨q5, hw⟩ := hw
            refine x_mul hC dd_U_roundTurn_41 ?_
            obtain ⟨q6, hw⟩ := hw
            refine x_add hC dd_U_roundTurn_42 ?_
            refine lv_iload_n hx hb dd_U_roundTurn_43 rfl (lv_at hl 3 rfl) ?_
            refine x_callSi hC hS (As := [.int (iI x3_6), .int (iI (a0 + (x4_6 * a2))), .int (iI (a0 + (s0_28 * a2))), .int (iI a2)]) (rest := []) cs_U_withThing (mt_U_withThing l X hC.2.2.1  x3_6 rx3_6 (a0 + (x4_6 * a2)) q4 (a0 + (s0_28 * a2)) q6 a2 ra2 M hm_M _ _ hw) tb_221 rfl rfl ⟨Nat.le_of_ble_eq_true rfl, Nat.le_of_ble_eq_true rfl⟩ rfl hl.1 (Nat.le_of_ble_eq_true rfl) dd_U_roundTurn_44 ⟨Nat.le_refl _, Nat.le_refl _⟩ rfl (fun r44 Mx H locs rr44 hp hS => ?_)
            obtain ⟨hq, hw⟩ := hp
            rw [hq] at hS
            refine lv_istore_n (lv' := [(3, .int (iI r44)), (5, .int (iI s0_28)), (0, .int (iI a0)), (1, .int (iI a1)), (2, .int (iI a2)), (4, .int (iI x4_6))]) hx hb dd_U_roundTurn_47 rfl hl (by decide) rfl (fun ls hl => ?_)
            obtain ⟨hr_, hw⟩ := hw
            obtain ⟨v4_48, rv4_48, ev4_48⟩ : ∃ z : Int, inR z ∧ z = x4_6 + 1 := ⟨_, hr_, rfl⟩
            have hw := hw v4_48 ev4_48
            refine lv_iinc (v := iI v4_48) (lv' := [(4, .int (iI v4_48)), (3, .int (iI r44)), (5, .int (iI s0_28)), (0, .int (iI a0)), (1, .int (iI a1)), (2, .int (iI a2))]) hx hb dd_U_roundTurn_48 hl (k := 5) rfl (by rw [ev4_48]; exact iI_add _ _) (by decide) rfl (fun ls hl => ?_)
            refine lv_goto (tgt := 6) hx hb dd_U_roundTurn_51 (by decide) ?_
            obtain ⟨k_7, h8, hI⟩ := hw
            exact ih_I6 k_7 h8 r44 v4_48 _ _ _ hI rr44 rv4_48 hS (lv_sub hl [3, 4, 5, 1, 0] rfl))
        refine x_icmp_ge hC q2 ra1 (tgt := 27) dd_U_roundTurn_17 (by decide) (fun c9 => ?_) (fun c9 => ?_)
        · have hw := hw.1 c9
          refine x_iconst hC dd_U_roundTurn_27 ?_
          exact hw _ _ _ (rk rfl) hS (lv_sub hl [0, 1, 2, 3, 4] rfl)
        · have hw := hw.2 c9
          refine lv_iload hx hb dd_U_roundTurn_20 (lv_at hl 4 rfl) ?_
          refine x_iconst hC dd_U_roundTurn_22 ?_
          obtain ⟨q10, hw⟩ := hw
          refine x_add hC dd_U_roundTurn_23 ?_
          refine lv_goto (tgt := 28) hx hb dd_U_roundTurn_24 (by decide) ?_
          exact hw _ _ _ q10 hS (lv_sub hl [0, 1, 2, 3, 4] rfl)
  exact lp_I6 n0 42798 0 _ _ _ hI (rk rfl) (rk rfl) hS (lv_sub hl [2, 3, 4, 1, 0] rfl)
def wp_U_oneThenOther (a0 : Int) (a1 : Int) (post : Int → Prop) : Prop :=
  ∃ I4 : Nat → Int → Int → Prop, (∃ n, I4 n 0 0) ∧ ∀ (n4 : Nat) (x2_4 : Int) (x3_4 : Int), I4 n4 x2_4 x3_4 →
    ((7 ≤ x3_4 → post x2_4) ∧
      (¬ 7 ≤ x3_4 → wp_U_goal a0 x3_4 (fun (r16 : Int) => wp_U_goal a1 r16 (fun (r19 : Int) => ∀ v2_23 : Int, v2_23 = (bOr (bShl x2_4 3) r19) → inR (x3_4 + 1) ∧ ∀ v3_24 : Int, v3_24 = x3_4 + 1 → ∃ k_2, k_2 < n4 ∧ I4 k_2 v2_23 v3_24))))
set_option maxHeartbeats 4000000 in
set_option maxRecDepth 100000 in
theorem mt_U_oneThenOther (l : Launch) (X : Xw) (hlc : lcl X) (a0 : Int) (ra0 : inR a0) (a1 : Int) (ra1 : inR a1) (M : Mm) (hm_M : mr M) (post : Int → Prop) (sz : Nat) (hw : wp_U_oneThenOther a0 a1 post) : Met l yy_U_oneThenOther (Cond.code yy_U_oneThenOther bc_U_oneThenOther 4 (some .int) :: tg) ({ frames := 1, cells := 0, slots := 0, locals := 21 } : Room) (Pw X [.int (iI a0), .int (iI a1)] M sz) (Qi X sz (fun r M1 => M1 = M ∧ post r)) 0 0 (xF X sz) := by
  unfold wp_U_oneThenOther at hw
  refine x_enter (by decide) hlc hm_M (Nat.le_of_ble_eq_true rfl) ?_
  intro p e s m below meth c ls hC hsz hr hlocks hS hl
  have hx := hC.1.1
  have hb := hC.1.2.1
  have hl : lv_has ls 4 [(0, .int (iI a0)), (1, .int (iI a1))] := hl
  refine x_iconst hC dd_U_oneThenOther_0 ?_
  refine lv_istore_n (lv' := [(2, .int (iI 0)), (0, .int (iI a0)), (1, .int (iI a1))]) hx hb dd_U_oneThenOther_1 rfl hl (by decide) rfl (fun ls hl => ?_)
  refine x_iconst hC dd_U_oneThenOther_2 ?_
  refine lv_istore_n (lv' := [(3, .int (iI 0)), (2, .int (iI 0)), (0, .int (iI a0)), (1, .int (iI a1))]) hx hb dd_U_oneThenOther_3 rfl hl (by decide) rfl (fun ls hl => ?_)
  obtain ⟨I4, ⟨n0, hI⟩, hstep_I4⟩ := hw
  have lp_I4 : ∀ (n4 : Nat) (x2_4 : Int) (x3_4 : Int) (H : Heap) (locs : List Loc) (ls : Array Slot), I4 n4 x2_4 x3_4 → inR x2_4 → inR x3_4 → St X (xF X sz) s M H locs → lv_has ls 4 [(0, .int (iI a0)), (1, .int (iI a1)), (2, .int (iI x2_4)), (3, .int (iI x3_4))] → W p l e ({ frames := 1, cells := 0, slots := 0, locals := 21 } : Room) s m ([.int (iI a0), .int (iI a1)] : List Value).toArray below meth c H locs 0 0 (MQ below (Qi X sz (fun r M1 => M1 = M ∧ post r)) ([.int (iI a0), .int (iI a1)] : List Value).toArray s 0 0 (xF X sz)) (F0 m 4 ls []) := by
    intro n4
    induction n4 using Nat.strongRecOn with
    | _ n4 ih_I4 =>
      intro x2_4 x3_4 H locs ls hI rx2_4 rx3_4 hS hl
      have hw := hstep_I4 n4 x2_4 x3_4 hI
      refine lv_iload_n hx hb dd_U_oneThenOther_4 rfl (lv_at hl 3 rfl) ?_
      refine x_bipush hC dd_U_oneThenOther_5 (by decide) ?_
      refine x_icmp_ge hC rx3_4 (rk rfl) (tgt := 30) dd_U_oneThenOther_7 (by decide) (fun c1 => ?_) (fun c1 => ?_)
      · have hw := hw.1 c1
        refine lv_iload_n hx hb dd_U_oneThenOther_30 rfl (lv_at hl 2 rfl) ?_
        exact x_iret hC hS hlocks hr rx2_4 ⟨rfl, hw⟩ dd_U_oneThenOther_31
      · have hw := hw.2 c1
        refine lv_iload_n hx hb dd_U_oneThenOther_10 rfl (lv_at hl 2 rfl) ?_
        refine x_iconst hC dd_U_oneThenOther_11 ?_
        refine x_shl hC dd_U_oneThenOther_12 ?_
        refine lv_iload_n hx hb dd_U_oneThenOther_13 rfl (lv_at hl 1 rfl) ?_
        refine lv_iload_n hx hb dd_U_oneThenOther_14 rfl (lv_at hl 0 rfl) ?_
        refine lv_iload_n hx hb dd_U_oneThenOther_15 rfl (lv_at hl 3 rfl) ?_
        refine x_callSi hC hS (As := [.int (iI a0), .int (iI x3_4)]) (rest := [.int (iI a1), .int (iI (bShl x2_4 3))]) cs_U_goal (mt_U_goal l X hC.2.2.1  a0 ra0 x3_4 rx3_4 M hm_M _ _ hw) tb_44 rfl rfl ⟨Nat.le_of_ble_eq_true rfl, Nat.le_of_ble_eq_true rfl⟩ rfl hl.1 (Nat.le_of_ble_eq_true rfl) dd_U_oneThenOther_16 ⟨Nat.le_refl _, Nat.le_refl _⟩ rfl (fun r16 Mx H locs rr16 hp hS => ?_)
        obtain ⟨hq, hw⟩ := hp
        rw [hq] at hS
        refine x_callSi hC hS (As := [.int (iI a1), .int (iI r16)]) (rest := [.int (iI (bShl x2_4 3))]) cs_U_goal (mt_U_goal l X hC.2.2.1  a1 ra1 r16 rr16 M hm_M _ _ hw) tb_44 rfl rfl ⟨Nat.le_of_ble_eq_true rfl, Nat.le_of_ble_eq_true rfl⟩ rfl hl.1 (Nat.le_of_ble_eq_true rfl) dd_U_oneThenOther_19 ⟨Nat.le_refl _, Nat.le_refl _⟩ rfl (fun r19 Mx H locs rr19 hp hS => ?_)
        obtain ⟨hq, hw⟩ := hp
        rw [hq] at hS
        refine x_or hC dd_U_oneThenOther_22 ?_
        refine x_nm (rng _) (fun v2_23 rv2_23 ev2_23 => ?_)
        have hw := hw v2_23 ev2_23
        refine lv_istore_n (lv' := [(2, .int (iI v2_23)), (0, .int (iI a0)), (1, .int (iI a1)), (3, .int (iI x3_4))]) hx hb dd_U_oneThenOther_23 rfl hl (by decide) rfl (fun ls hl => ?_)
        obtain ⟨hr_, hw⟩ := hw
        obtain ⟨v3_24, rv3_24, ev3_24⟩ : ∃ z : Int, inR z ∧ z = x3_4 + 1 := ⟨_, hr_, rfl⟩
        have hw := hw v3_24 ev3_24
        refine lv_iinc (v := iI v3_24) (lv' := [(3, .int (iI v3_24)), (2, .int (iI v2_23)), (0, .int (iI a0)), (1, .int (iI a1))]) hx hb dd_U_oneThenOther_24 hl (k := 3) rfl (by rw [ev3_24]; exact iI_add _ _) (by decide) rfl (fun ls hl => ?_)
        refine lv_goto (tgt := 4) hx hb dd_U_oneThenOther_27 (by decide) ?_
        obtain ⟨k_2, h3, hI⟩ := hw
        exact ih_I4 k_2 h3 v2_23 v3_24 _ _ _ hI rv2_23 rv3_24 hS (lv_sub hl [2, 3, 1, 0] rfl)
  exact lp_I4 n0 0 0 _ _ _ hI (rk rfl) (rk rfl) hS (lv_sub hl [2, 3, 1, 0] rfl)
def wp_U_flipTurn (a0 : Int) (a1 : Int) (a2 : Int) (post : Int → Prop) : Prop :=
  ∃ I6 : Nat → Int → Int → Prop, (∃ n, I6 n 42798 0) ∧ ∀ (n6 : Nat) (x3_6 : Int) (x4_6 : Int), I6 n6 x3_6 x4_6 →
    ((a1 ≤ x4_6 → post x3_6) ∧
      (¬ a1 ≤ x4_6 → inR (x4_6 * a2) ∧ inR (a0 + (x4_6 * a2)) ∧ inR (a1 - 1) ∧ inR ((a1 - 1) - x4_6) ∧ inR (((a1 - 1) - x4_6) * a2) ∧ inR (a0 + (((a1 - 1) - x4_6) * a2)) ∧ wp_U_withThing x3_6 (a0 + (x4_6 * a2)) (a0 + (((a1 - 1) - x4_6) * a2)) a2 (fun (r30 : Int) => inR (x4_6 + 1) ∧ ∀ v4_34 : Int, v4_34 = x4_6 + 1 → ∃ k_8, k_8 < n6 ∧ I6 k_8 r30 v4_34)))
set_option maxHeartbeats 4000000 in
set_option maxRecDepth 100000 in
theorem mt_U_flipTurn (l : Launch) (X : Xw) (hlc : lcl X) (a0 : Int) (ra0 : inR a0) (a1 : Int) (ra1 : inR a1) (a2 : Int) (ra2 : inR a2) (M : Mm) (hm_M : mr M) (post : Int → Prop) (sz : Nat) (hw : wp_U_flipTurn a0 a1 a2 post) : Met l yy_U_flipTurn (Cond.code yy_U_flipTurn bc_U_flipTurn 5 (some .int) :: tg) ({ frames := 2, cells := 0, slots := 0, locals := 48 } : Room) (Pw X [.int (iI a0), .int (iI a1), .int (iI a2)] M sz) (Qi X sz (fun r M1 => M1 = M ∧ post r)) 0 0 (xF X sz) := by
  unfold wp_U_flipTurn at hw
  refine x_enter (by decide) hlc hm_M (Nat.le_of_ble_eq_true rfl) ?_
  intro p e s m below meth c ls hC hsz hr hlocks hS hl
  have hx := hC.1.1
  have hb := hC.1.2.1
  have hl : lv_has ls 5 [(0, .int (iI a0)), (1, .int (iI a1)), (2, .int (iI a2))] := hl
  refine x_ldc hC (n := 42798) tb_220 (by decide) dd_U_flipTurn_0 ?_
  refine lv_istore_n (lv' := [(3, .int (iI 42798)), (0, .int (iI a0)), (1, .int (iI a1)), (2, .int (iI a2))]) hx hb dd_U_flipTurn_2 rfl hl (by decide) rfl (fun ls hl => ?_)
  refine x_iconst hC dd_U_flipTurn_3 ?_
  refine lv_istore (lv' := [(4, .int (iI 0)), (3, .int (iI 42798)), (0, .int (iI a0)), (1, .int (iI a1)), (2, .int (iI a2))]) hx hb dd_U_flipTurn_4 hl (by decide) rfl (fun ls hl => ?_)
  obtain ⟨I6, ⟨n0, hI⟩, hstep_I6⟩ := hw
  have lp_I6 : ∀ (n6 : Nat) (x3_6 : Int) (x4_6 : Int) (H : Heap) (locs : List Loc) (ls : Array Slot), I6 n6 x3_6 x4_6 → inR x3_6 → inR x4_6 → St X (xF X sz) s M H locs → lv_has ls 5 [(0, .int (iI a0)), (1, .int (iI a1)), (2, .int (iI a2)), (3, .int (iI x3_6)), (4, .int (iI x4_6))] → W p l e ({ frames := 2, cells := 0, slots := 0, locals := 48 } : Room) s m ([.int (iI a0), .int (iI a1), .int (iI a2)] : List Value).toArray below meth c H locs 0 0 (MQ below (Qi X sz (fun r M1 => M1 = M ∧ post r)) ([.int (iI a0), .int (iI a1), .int (iI a2)] : List Value).toArray s 0 0 (xF X sz)) (F0 m 6 ls []) := by
    intro n6
    induction n6 using Nat.strongRecOn with
    | _ n6 ih_I6 =>
      intro x3_6 x4_6 H locs ls hI rx3_6 rx4_6 hS hl
      have hw := hstep_I6 n6 x3_6 x4_6 hI
      refine lv_iload hx hb dd_U_flipTurn_6 (lv_at hl 4 rfl) ?_
      refine lv_iload_n hx hb dd_U_flipTurn_8 rfl (lv_at hl 1 rfl) ?_
      refine x_icmp_ge hC rx4_6 ra1 (tgt := 40) dd_U_flipTurn_9 (by decide) (fun c1 => ?_) (fun c1 => ?_)
      · have hw := hw.1 c1
        refine lv_iload_n hx hb dd_U_flipTurn_40 rfl (lv_at hl 3 rfl) ?_
        exact x_iret hC hS hlocks hr rx3_6 ⟨rfl, hw⟩ dd_U_flipTurn_41
      · have hw := hw.2 c1
        refine lv_iload_n hx hb dd_U_flipTurn_12 rfl (lv_at hl 3 rfl) ?_
        refine lv_iload_n hx hb dd_U_flipTurn_13 rfl (lv_at hl 0 rfl) ?_
        refine lv_iload hx hb dd_U_flipTurn_14 (lv_at hl 4 rfl) ?_
        refine lv_iload_n hx hb dd_U_flipTurn_16 rfl (lv_at hl 2 rfl) ?_
        obtain ⟨q2, hw⟩ := hw
        refine x_mul hC dd_U_flipTurn_17 ?_
        obtain ⟨q3, hw⟩ := hw
        refine x_add hC dd_U_flipTurn_18 ?_
        refine lv_iload_n hx hb dd_U_flipTurn_19 rfl (lv_at hl 0 rfl) ?_
        refine lv_iload_n hx hb dd_U_flipTurn_20 rfl (lv_at hl 1 rfl) ?_
        refine x_iconst hC dd_U_flipTurn_21 ?_
        obtain ⟨q4, hw⟩ := hw
        refine x_sub hC dd_U_flipTurn_22 ?_
        refine lv_iload hx hb dd_U_flipTurn_23 (lv_at hl 4 rfl) ?_
        obtain ⟨q5, hw⟩ := hw
        refine x_sub hC dd_U_flipTurn_25 ?_
        refine lv_iload_n hx hb dd_U_flipTurn_26 rfl (lv_at hl 2 rfl) ?_
        obtain ⟨q6, hw⟩ := hw
        refine x_mul hC dd_U_flipTurn_27 ?_
        obtain ⟨q7, hw⟩ := hw
        refine x_add hC dd_U_flipTurn_28 ?_
        refine lv_iload_n hx hb dd_U_flipTurn_29 rfl (lv_at hl 2 rfl) ?_
        refine x_callSi hC hS (As := [.int (iI x3_6), .int (iI (a0 + (x4_6 * a2))), .int (iI (a0 + (((a1 - 1) - x4_6) * a2))), .int (iI a2)]) (rest := []) cs_U_withThing (mt_U_withThing l X hC.2.2.1  x3_6 rx3_6 (a0 + (x4_6 * a2)) q3 (a0 + (((a1 - 1) - x4_6) * a2)) q7 a2 ra2 M hm_M _ _ hw) tb_221 rfl rfl ⟨Nat.le_of_ble_eq_true rfl, Nat.le_of_ble_eq_true rfl⟩ rfl hl.1 (Nat.le_of_ble_eq_true rfl) dd_U_flipTurn_30 ⟨Nat.le_refl _, Nat.le_refl _⟩ rfl (fun r30 Mx H locs rr30 hp hS => ?_)
        obtain ⟨hq, hw⟩ := hp
        rw [hq] at hS
        refine lv_istore_n (lv' := [(3, .int (iI r30)), (0, .int (iI a0)), (1, .int (iI a1)), (2, .int (iI a2)), (4, .int (iI x4_6))]) hx hb dd_U_flipTurn_33 rfl hl (by decide) rfl (fun ls hl => ?_)
        obtain ⟨hr_, hw⟩ := hw
        obtain ⟨v4_34, rv4_34, ev4_34⟩ : ∃ z : Int, inR z ∧ z = x4_6 + 1 := ⟨_, hr_, rfl⟩
        have hw := hw v4_34 ev4_34
        refine lv_iinc (v := iI v4_34) (lv' := [(4, .int (iI v4_34)), (3, .int (iI r30)), (0, .int (iI a0)), (1, .int (iI a1)), (2, .int (iI a2))]) hx hb dd_U_flipTurn_34 hl (k := 4) rfl (by rw [ev4_34]; exact iI_add _ _) (by decide) rfl (fun ls hl => ?_)
        refine lv_goto (tgt := 6) hx hb dd_U_flipTurn_37 (by decide) ?_
        obtain ⟨k_8, h9, hI⟩ := hw
        exact ih_I6 k_8 h9 r30 v4_34 _ _ _ hI rr30 rv4_34 hS (lv_sub hl [2, 3, 4, 1, 0] rfl)
  exact lp_I6 n0 42798 0 _ _ _ hI (rk rfl) (rk rfl) hS (lv_sub hl [2, 3, 4, 1, 0] rfl)
def wp_U_tallyCycles (a0 : Int) (a1 : Int) (post : Int → Prop) : Prop :=
  ∃ I7 : Nat → Int → Int → Int → Prop, (∃ n, I7 n 0 0 0) ∧ ∀ (n7 : Nat) (x2_7 : Int) (x3_7 : Int) (x4_7 : Int), I7 n7 x2_7 x3_7 x4_7 →
    ((a1 ≤ x4_7 → post x2_7) ∧
      (¬ a1 ≤ x4_7 → ∃ I20 : Nat → Int → Int → Int → Prop, (∃ n, I20 n x3_7 0 x4_7) ∧ ∀ (n20 : Nat) (x3_20 : Int) (x5_20 : Int) (x6_20 : Int), I20 n20 x3_20 x5_20 x6_20 →
          (∀ K57 : Prop, ((∀ K71 : Int → Prop, (∀ (y2_71 : Int), (inR (x4_7 + 1) ∧ ∀ v4_71 : Int, v4_71 = x4_7 + 1 → ∃ k_2, k_2 < n7 ∧ I7 k_2 y2_71 x3_20 v4_71) →
                  K71 y2_71) →
                ((x5_20 ≤ 0 → K71 x2_7) ∧
                (¬ x5_20 ≤ 0 → inR (4 * x5_20) ∧ inR (x2_7 + (bShl 1 (4 * x5_20))) ∧ ∀ v2_70 : Int, v2_70 = (x2_7 + (bShl 1 (4 * x5_20))) → K71 v2_70))) →
              K57) →
            ((¬ (bAnd (bShr x3_20 x6_20) 1) = 0 → K57) ∧
            ((bAnd (bShr x3_20 x6_20) 1) = 0 → (7 ≤ x5_20 → K57) ∧
              (¬ 7 ≤ x5_20 → ∀ v3_42 : Int, v3_42 = (bOr x3_20 (bShl 1 x6_20)) → wp_U_goal a0 x6_20 (fun (r46 : Int) => inR (x5_20 + 1) ∧ ∀ v5_51 : Int, v5_51 = x5_20 + 1 → ∃ k_9, k_9 < n20 ∧ I20 k_9 v3_42 v5_51 r46)))))))
set_option maxHeartbeats 4000000 in
set_option maxRecDepth 100000 in
theorem mt_U_tallyCycles (l : Launch) (X : Xw) (hlc : lcl X) (a0 : Int) (ra0 : inR a0) (a1 : Int) (ra1 : inR a1) (M : Mm) (hm_M : mr M) (post : Int → Prop) (sz : Nat) (hw : wp_U_tallyCycles a0 a1 post) : Met l yy_U_tallyCycles (Cond.code yy_U_tallyCycles bc_U_tallyCycles 7 (some .int) :: tg) ({ frames := 1, cells := 0, slots := 0, locals := 21 } : Room) (Pw X [.int (iI a0), .int (iI a1)] M sz) (Qi X sz (fun r M1 => M1 = M ∧ post r)) 0 0 (xF X sz) := by
  unfold wp_U_tallyCycles at hw
  refine x_enter (by decide) hlc hm_M (Nat.le_of_ble_eq_true rfl) ?_
  intro p e s m below meth c ls hC hsz hr hlocks hS hl
  have hx := hC.1.1
  have hb := hC.1.2.1
  have hl : lv_has ls 7 [(0, .int (iI a0)), (1, .int (iI a1))] := hl
  refine x_iconst hC dd_U_tallyCycles_0 ?_
  refine lv_istore_n (lv' := [(2, .int (iI 0)), (0, .int (iI a0)), (1, .int (iI a1))]) hx hb dd_U_tallyCycles_1 rfl hl (by decide) rfl (fun ls hl => ?_)
  refine x_iconst hC dd_U_tallyCycles_2 ?_
  refine lv_istore_n (lv' := [(3, .int (iI 0)), (2, .int (iI 0)), (0, .int (iI a0)), (1, .int (iI a1))]) hx hb dd_U_tallyCycles_3 rfl hl (by decide) rfl (fun ls hl => ?_)
  refine x_iconst hC dd_U_tallyCycles_4 ?_
  refine lv_istore (lv' := [(4, .int (iI 0)), (3, .int (iI 0)), (2, .int (iI 0)), (0, .int (iI a0)), (1, .int (iI a1))]) hx hb dd_U_tallyCycles_5 hl (by decide) rfl (fun ls hl => ?_)
  obtain ⟨I7, ⟨n0, hI⟩, hstep_I7⟩ := hw
  have lp_I7 : ∀ (n7 : Nat) (x2_7 : Int) (x3_7 : Int) (x4_7 : Int) (H : Heap) (locs : List Loc) (ls : Array Slot), I7 n7 x2_7 x3_7 x4_7 → inR x2_7 → inR x3_7 → inR x4_7 → St X (xF X sz) s M H locs → lv_has ls 7 [(0, .int (iI a0)), (1, .int (iI a1)), (2, .int (iI x2_7)), (3, .int (iI x3_7)), (4, .int (iI x4_7))] → W p l e ({ frames := 1, cells := 0, slots := 0, locals := 21 } : Room) s m ([.int (iI a0), .int (iI a1)] : List Value).toArray below meth c H locs 0 0 (MQ below (Qi X sz (fun r M1 => M1 = M ∧ post r)) ([.int (iI a0), .int (iI a1)] : List Value).toArray s 0 0 (xF X sz)) (F0 m 7 ls []) := by
    intro n7
    induction n7 using Nat.strongRecOn with
    | _ n7 ih_I7 =>
      intro x2_7 x3_7 x4_7 H locs ls hI rx2_7 rx3_7 rx4_7 hS hl
      have hw := hstep_I7 n7 x2_7 x3_7 x4_7 hI
      refine lv_iload hx hb dd_U_tallyCycles_7 (lv_at hl 4 rfl) ?_
      refine lv_iload_n hx hb dd_U_tallyCycles_9 rfl (lv_at hl 1 rfl) ?_
      refine x_icmp_ge hC rx4_7 ra1 (tgt := 77) dd_U_tallyCycles_10 (by decide) (fun c1 => ?_) (fun c1 => ?_)
      · have hw := hw.1 c1
        refine lv_iload_n hx hb dd_U_tallyCycles_77 rfl (lv_at hl 2 rfl) ?_
        exact x_iret hC hS hlocks hr rx2_7 ⟨rfl, hw⟩ dd_U_tallyCycles_78
      · have hw := hw.2 c1
        refine x_iconst hC dd_U_tallyCycles_13 ?_
        refine lv_istore (lv' := [(5, .int (iI 0)), (0, .int (iI a0)), (1, .int (iI a1)), (2, .int (iI x2_7)), (3, .int (iI x3_7)), (4, .int (iI x4_7))]) hx hb dd_U_tallyCycles_14 hl (by decide) rfl (fun ls hl => ?_)
        refine lv_iload hx hb dd_U_tallyCycles_16 (lv_at hl 5 rfl) ?_
        refine lv_istore (lv' := [(6, .int (iI x4_7)), (5, .int (iI 0)), (0, .int (iI a0)), (1, .int (iI a1)), (2, .int (iI x2_7)), (3, .int (iI x3_7)), (4, .int (iI x4_7))]) hx hb dd_U_tallyCycles_18 hl (by decide) rfl (fun ls hl => ?_)
        obtain ⟨I20, ⟨n0, hI⟩, hstep_I20⟩ := hw
        have lp_I20 : ∀ (n20 : Nat) (x3_20 : Int) (x5_20 : Int) (x6_20 : Int) (H : Heap) (locs : List Loc) (ls : Array Slot), I20 n20 x3_20 x5_20 x6_20 → inR x3_20 → inR x5_20 → inR x6_20 → St X (xF X sz) s M H locs → lv_has ls 7 [(0, .int (iI a0)), (1, .int (iI a1)), (2, .int (iI x2_7)), (3, .int (iI x3_20)), (4, .int (iI x4_7)), (5, .int (iI x5_20)), (6, .int (iI x6_20))] → W p l e ({ frames := 1, cells := 0, slots := 0, locals := 21 } : Room) s m ([.int (iI a0), .int (iI a1)] : List Value).toArray below meth c H locs 0 0 (MQ below (Qi X sz (fun r M1 => M1 = M ∧ post r)) ([.int (iI a0), .int (iI a1)] : List Value).toArray s 0 0 (xF X sz)) (F0 m 20 ls []) := by
          intro n20
          induction n20 using Nat.strongRecOn with
          | _ n20 ih_I20 =>
            intro x3_20 x5_20 x6_20 H locs ls hI rx3_20 rx5_20 rx6_20 hS hl
            have hw := hstep_I20 n20 x3_20 x5_20 x6_20 hI
            refine lv_iload_n hx hb dd_U_tallyCycles_20 rfl (lv_at hl 3 rfl) ?_
            refine lv_iload hx hb dd_U_tallyCycles_21 (lv_at hl 6 rfl) ?_
            refine x_shr hC dd_U_tallyCycles_23 ?_
            refine x_iconst hC dd_U_tallyCycles_24 ?_
            refine x_and hC dd_U_tallyCycles_25 ?_
            have hw := hw (∀ (H : Heap) (locs : List Loc) (ls : Array Slot), St X (xF X sz) s M H locs → lv_has ls 7 [(0, .int (iI a0)), (1, .int (iI a1)), (2, .int (iI x2_7)), (3, .int (iI x3_20)), (4, .int (iI x4_7)), (5, .int (iI x5_20))] → W p l e ({ frames := 1, cells := 0, slots := 0, locals := 21 } : Room) s m ([.int (iI a0), .int (iI a1)] : List Value).toArray below meth c H locs 0 0 (MQ below (Qi X sz (fun r M1 => M1 = M ∧ post r)) ([.int (iI a0), .int (iI a1)] : List Value).toArray s 0 0 (xF X sz)) (F0 m 57 ls [])) (by
                intro  hw H locs ls  hS hl
                refine lv_iload hx hb dd_U_tallyCycles_57 (lv_at hl 5 rfl) ?_
                have hw := hw (fun (y2_71 : Int) => ∀ (H : Heap) (locs : List Loc) (ls : Array Slot), inR y2_71 → St X (xF X sz) s M H locs → lv_has ls 7 [(0, .int (iI a0)), (1, .int (iI a1)), (2, .int (iI y2_71)), (3, .int (iI x3_20)), (4, .int (iI x4_7))] → W p l e ({ frames := 1, cells := 0, slots := 0, locals := 21 } : Room) s m ([.int (iI a0), .int (iI a1)] : List Value).toArray below meth c H locs 0 0 (MQ below (Qi X sz (fun r M1 => M1 = M ∧ post r)) ([.int (iI a0), .int (iI a1)] : List Value).toArray s 0 0 (xF X sz)) (F0 m 71 ls [])) (by
                    intro y2_71 hw H locs ls ry2_71 hS hl
                    obtain ⟨hr_, hw⟩ := hw
                    obtain ⟨v4_71, rv4_71, ev4_71⟩ : ∃ z : Int, inR z ∧ z = x4_7 + 1 := ⟨_, hr_, rfl⟩
                    have hw := hw v4_71 ev4_71
                    refine lv_iinc (v := iI v4_71) (lv' := [(4, .int (iI v4_71)), (0, .int (iI a0)), (1, .int (iI a1)), (2, .int (iI y2_71)), (3, .int (iI x3_20))]) hx hb dd_U_tallyCycles_71 hl (k := 4) rfl (by rw [ev4_71]; exact iI_add _ _) (by decide) rfl (fun ls hl => ?_)
                    refine lv_goto (tgt := 7) hx hb dd_U_tallyCycles_74 (by decide) ?_
                    obtain ⟨k_2, h3, hI⟩ := hw
                    exact ih_I7 k_2 h3 y2_71 x3_20 v4_71 _ _ _ hI ry2_71 rx3_20 rv4_71 hS (lv_sub hl [1, 2, 3, 4, 0] rfl))
                refine x_if_le hC rx5_20 (tgt := 71) dd_U_tallyCycles_59 (by decide) (fun c4 => ?_) (fun c4 => ?_)
                · have hw := hw.1 c4
                  exact hw _ _ _ rx2_7 hS (lv_sub hl [0, 1, 2, 3, 4] rfl)
                · have hw := hw.2 c4
                  refine lv_iload_n hx hb dd_U_tallyCycles_62 rfl (lv_at hl 2 rfl) ?_
                  refine x_iconst hC dd_U_tallyCycles_63 ?_
                  refine x_iconst hC dd_U_tallyCycles_64 ?_
                  refine lv_iload hx hb dd_U_tallyCycles_65 (lv_at hl 5 rfl) ?_
                  obtain ⟨q5, hw⟩ := hw
                  refine x_mul hC dd_U_tallyCycles_67 ?_
                  refine x_shl hC dd_U_tallyCycles_68 ?_
                  obtain ⟨q6, hw⟩ := hw
                  refine x_add hC dd_U_tallyCycles_69 ?_
                  refine x_nm q6 (fun v2_70 rv2_70 ev2_70 => ?_)
                  have hw := hw v2_70 ev2_70
                  refine lv_istore_n (lv' := [(2, .int (iI v2_70)), (0, .int (iI a0)), (1, .int (iI a1)), (3, .int (iI x3_20)), (4, .int (iI x4_7)), (5, .int (iI x5_20))]) hx hb dd_U_tallyCycles_70 rfl hl (by decide) rfl (fun ls hl => ?_)
                  exact hw _ _ _ rv2_70 hS (lv_sub hl [1, 2, 0, 3, 4] rfl))
            refine x_if_ne hC (rng _) (tgt := 57) dd_U_tallyCycles_26 (by decide) (fun c7 => ?_) (fun c7 => ?_)
            · have hw := hw.1 c7
              exact hw _ _ _  hS (lv_sub hl [0, 1, 2, 3, 4, 5] rfl)
            · have hw := hw.2 c7
              refine lv_iload hx hb dd_U_tallyCycles_29 (lv_at hl 5 rfl) ?_
              refine x_bipush hC dd_U_tallyCycles_31 (by decide) ?_
              refine x_icmp_ge hC rx5_20 (rk rfl) (tgt := 57) dd_U_tallyCycles_33 (by decide) (fun c8 => ?_) (fun c8 => ?_)
              · have hw := hw.1 c8
                exact hw _ _ _  hS (lv_sub hl [0, 1, 2, 3, 4, 5] rfl)
              · have hw := hw.2 c8
                refine lv_iload_n hx hb dd_U_tallyCycles_36 rfl (lv_at hl 3 rfl) ?_
                refine x_iconst hC dd_U_tallyCycles_37 ?_
                refine lv_iload hx hb dd_U_tallyCycles_38 (lv_at hl 6 rfl) ?_
                refine x_shl hC dd_U_tallyCycles_40 ?_
                refine x_or hC dd_U_tallyCycles_41 ?_
                refine x_nm (rng _) (fun v3_42 rv3_42 ev3_42 => ?_)
                have hw := hw v3_42 ev3_42
                refine lv_istore_n (lv' := [(3, .int (iI v3_42)), (0, .int (iI a0)), (1, .int (iI a1)), (2, .int (iI x2_7)), (4, .int (iI x4_7)), (5, .int (iI x5_20)), (6, .int (iI x6_20))]) hx hb dd_U_tallyCycles_42 rfl hl (by decide) rfl (fun ls hl => ?_)
                refine lv_iload_n hx hb dd_U_tallyCycles_43 rfl (lv_at hl 1 rfl) ?_
                refine lv_iload hx hb dd_U_tallyCycles_44 (lv_at hl 6 rfl) ?_
                refine x_callSi hC hS (As := [.int (iI a0), .int (iI x6_20)]) (rest := []) cs_U_goal (mt_U_goal l X hC.2.2.1  a0 ra0 x6_20 rx6_20 M hm_M _ _ hw) tb_44 rfl rfl ⟨Nat.le_of_ble_eq_true rfl, Nat.le_of_ble_eq_true rfl⟩ rfl hl.1 (Nat.le_of_ble_eq_true rfl) dd_U_tallyCycles_46 ⟨Nat.le_refl _, Nat.le_refl _⟩ rfl (fun r46 Mx H locs rr46 hp hS => ?_)
                obtain ⟨hq, hw⟩ := hp
                rw [hq] at hS
                refine lv_istore (lv' := [(6, .int (iI r46)), (3, .int (iI v3_42)), (0, .int (iI a0)), (1, .int (iI a1)), (2, .int (iI x2_7)), (4, .int (iI x4_7)), (5, .int (iI x5_20))]) hx hb dd_U_tallyCycles_49 hl (by decide) rfl (fun ls hl => ?_)
                obtain ⟨hr_, hw⟩ := hw
                obtain ⟨v5_51, rv5_51, ev5_51⟩ : ∃ z : Int, inR z ∧ z = x5_20 + 1 := ⟨_, hr_, rfl⟩
                have hw := hw v5_51 ev5_51
                refine lv_iinc (v := iI v5_51) (lv' := [(5, .int (iI v5_51)), (6, .int (iI r46)), (3, .int (iI v3_42)), (0, .int (iI a0)), (1, .int (iI a1)), (2, .int (iI x2_7)), (4, .int (iI x4_7))]) hx hb dd_U_tallyCycles_51 hl (k := 6) rfl (by rw [ev5_51]; exact iI_add _ _) (by decide) rfl (fun ls hl => ?_)
                refine lv_goto (tgt := 20) hx hb dd_U_tallyCycles_54 (by decide) ?_
                obtain ⟨k_9, h10, hI⟩ := hw
                exact ih_I20 k_9 h10 v3_42 v5_51 r46 _ _ _ hI rv3_42 rv5_51 rr46 hS (lv_sub hl [3, 4, 5, 2, 6, 0, 1] rfl)
        exact lp_I20 n0 x3_7 0 x4_7 _ _ _ hI rx3_7 (rk rfl) rx4_7 hS (lv_sub hl [2, 3, 4, 5, 6, 1, 0] rfl)
  exact lp_I7 n0 0 0 0 _ _ _ hI (rk rfl) (rk rfl) (rk rfl) hS (lv_sub hl [3, 4, 2, 1, 0] rfl)
def wp_U_typeOf (a0 : Int) (a1 : Int) (post : Int → Prop) : Prop :=
  wp_U_tallyCycles a0 a1 (fun (r2 : Int) => ∃ I11 : Nat → Int → Int → Prop, (∃ n, I11 n 0 a1) ∧ ∀ (n11 : Nat) (x3_11 : Int) (x4_11 : Int), I11 n11 x3_11 x4_11 →
    ((x4_11 < 1 → post x3_11) ∧
      (¬ x4_11 < 1 → inR (4 * x4_11) ∧ ∀ v5_26 : Int, v5_26 = (bAnd (bShr r2 (4 * x4_11)) 15) → ∃ I31 : Nat → Int → Int → Prop, (∃ n, I31 n x3_11 0) ∧ ∀ (n31 : Nat) (x3_31 : Int) (x6_31 : Int), I31 n31 x3_31 x6_31 →
          ((v5_26 ≤ x6_31 → inR (x4_11 + (-1)) ∧ ∀ v4_52 : Int, v4_52 = x4_11 + (-1) → ∃ k_4, k_4 < n11 ∧ I11 k_4 x3_31 v4_52) ∧
            (¬ v5_26 ≤ x6_31 → inR (x3_31 * 10) ∧ inR ((x3_31 * 10) + x4_11) ∧ ∀ v3_45 : Int, v3_45 = ((x3_31 * 10) + x4_11) → inR (x6_31 + 1) ∧ ∀ v6_46 : Int, v6_46 = x6_31 + 1 → ∃ k_8, k_8 < n31 ∧ I31 k_8 v3_45 v6_46)))))
set_option maxHeartbeats 4000000 in
set_option maxRecDepth 100000 in
theorem mt_U_typeOf (l : Launch) (X : Xw) (hlc : lcl X) (a0 : Int) (ra0 : inR a0) (a1 : Int) (ra1 : inR a1) (M : Mm) (hm_M : mr M) (post : Int → Prop) (sz : Nat) (hw : wp_U_typeOf a0 a1 post) : Met l yy_U_typeOf (Cond.code yy_U_typeOf bc_U_typeOf 7 (some .int) :: tg) ({ frames := 2, cells := 0, slots := 0, locals := 47 } : Room) (Pw X [.int (iI a0), .int (iI a1)] M sz) (Qi X sz (fun r M1 => M1 = M ∧ post r)) 0 0 (xF X sz) := by
  unfold wp_U_typeOf at hw
  refine x_enter (by decide) hlc hm_M (Nat.le_of_ble_eq_true rfl) ?_
  intro p e s m below meth c ls hC hsz hr hlocks hS hl
  have hx := hC.1.1
  have hb := hC.1.2.1
  have hl : lv_has ls 7 [(0, .int (iI a0)), (1, .int (iI a1))] := hl
  refine lv_iload_n hx hb dd_U_typeOf_0 rfl (lv_at hl 0 rfl) ?_
  refine lv_iload_n hx hb dd_U_typeOf_1 rfl (lv_at hl 1 rfl) ?_
  refine x_callSi hC hS (As := [.int (iI a0), .int (iI a1)]) (rest := []) cs_U_tallyCycles (mt_U_tallyCycles l X hC.2.2.1  a0 ra0 a1 ra1 M hm_M _ _ hw) tb_276 rfl rfl ⟨Nat.le_of_ble_eq_true rfl, Nat.le_of_ble_eq_true rfl⟩ rfl hl.1 (Nat.le_of_ble_eq_true rfl) dd_U_typeOf_2 ⟨Nat.le_refl _, Nat.le_refl _⟩ rfl (fun r2 Mx H locs rr2 hp hS => ?_)
  obtain ⟨hq, hw⟩ := hp
  rw [hq] at hS
  refine lv_istore_n (lv' := [(2, .int (iI r2)), (0, .int (iI a0)), (1, .int (iI a1))]) hx hb dd_U_typeOf_5 rfl hl (by decide) rfl (fun ls hl => ?_)
  refine x_iconst hC dd_U_typeOf_6 ?_
  refine lv_istore_n (lv' := [(3, .int (iI 0)), (2, .int (iI r2)), (0, .int (iI a0)), (1, .int (iI a1))]) hx hb dd_U_typeOf_7 rfl hl (by decide) rfl (fun ls hl => ?_)
  refine lv_iload_n hx hb dd_U_typeOf_8 rfl (lv_at hl 3 rfl) ?_
  refine lv_istore (lv' := [(4, .int (iI a1)), (3, .int (iI 0)), (2, .int (iI r2)), (0, .int (iI a0)), (1, .int (iI a1))]) hx hb dd_U_typeOf_9 hl (by decide) rfl (fun ls hl => ?_)
  obtain ⟨I11, ⟨n0, hI⟩, hstep_I11⟩ := hw
  have lp_I11 : ∀ (n11 : Nat) (x3_11 : Int) (x4_11 : Int) (H : Heap) (locs : List Loc) (ls : Array Slot), I11 n11 x3_11 x4_11 → inR x3_11 → inR x4_11 → St X (xF X sz) s M H locs → lv_has ls 7 [(2, .int (iI r2)), (3, .int (iI x3_11)), (4, .int (iI x4_11))] → W p l e ({ frames := 2, cells := 0, slots := 0, locals := 47 } : Room) s m ([.int (iI a0), .int (iI a1)] : List Value).toArray below meth c H locs 0 0 (MQ below (Qi X sz (fun r M1 => M1 = M ∧ post r)) ([.int (iI a0), .int (iI a1)] : List Value).toArray s 0 0 (xF X sz)) (F0 m 11 ls []) := by
    intro n11
    induction n11 using Nat.strongRecOn with
    | _ n11 ih_I11 =>
      intro x3_11 x4_11 H locs ls hI rx3_11 rx4_11 hS hl
      have hw := hstep_I11 n11 x3_11 x4_11 hI
      refine lv_iload hx hb dd_U_typeOf_11 (lv_at hl 2 rfl) ?_
      refine x_iconst hC dd_U_typeOf_13 ?_
      refine x_icmp_lt hC rx4_11 (rk rfl) (tgt := 58) dd_U_typeOf_14 (by decide) (fun c1 => ?_) (fun c1 => ?_)
      · have hw := hw.1 c1
        refine lv_iload_n hx hb dd_U_typeOf_58 rfl (lv_at hl 1 rfl) ?_
        exact x_iret hC hS hlocks hr rx3_11 ⟨rfl, hw⟩ dd_U_typeOf_59
      · have hw := hw.2 c1
        refine lv_iload_n hx hb dd_U_typeOf_17 rfl (lv_at hl 0 rfl) ?_
        refine x_iconst hC dd_U_typeOf_18 ?_
        refine lv_iload hx hb dd_U_typeOf_19 (lv_at hl 2 rfl) ?_
        obtain ⟨q2, hw⟩ := hw
        refine x_mul hC dd_U_typeOf_21 ?_
        refine x_shr hC dd_U_typeOf_22 ?_
        refine x_bipush hC dd_U_typeOf_23 (by decide) ?_
        refine x_and hC dd_U_typeOf_25 ?_
        refine x_nm (rng _) (fun v5_26 rv5_26 ev5_26 => ?_)
        have hw := hw v5_26 ev5_26
        refine lv_istore (lv' := [(5, .int (iI v5_26)), (2, .int (iI r2)), (3, .int (iI x3_11)), (4, .int (iI x4_11))]) hx hb dd_U_typeOf_26 hl (by decide) rfl (fun ls hl => ?_)
        refine x_iconst hC dd_U_typeOf_28 ?_
        refine lv_istore (lv' := [(6, .int (iI 0)), (5, .int (iI v5_26)), (2, .int (iI r2)), (3, .int (iI x3_11)), (4, .int (iI x4_11))]) hx hb dd_U_typeOf_29 hl (by decide) rfl (fun ls hl => ?_)
        obtain ⟨I31, ⟨n0, hI⟩, hstep_I31⟩ := hw
        have lp_I31 : ∀ (n31 : Nat) (x3_31 : Int) (x6_31 : Int) (H : Heap) (locs : List Loc) (ls : Array Slot), I31 n31 x3_31 x6_31 → inR x3_31 → inR x6_31 → St X (xF X sz) s M H locs → lv_has ls 7 [(2, .int (iI r2)), (3, .int (iI x3_31)), (4, .int (iI x4_11)), (5, .int (iI v5_26)), (6, .int (iI x6_31))] → W p l e ({ frames := 2, cells := 0, slots := 0, locals := 47 } : Room) s m ([.int (iI a0), .int (iI a1)] : List Value).toArray below meth c H locs 0 0 (MQ below (Qi X sz (fun r M1 => M1 = M ∧ post r)) ([.int (iI a0), .int (iI a1)] : List Value).toArray s 0 0 (xF X sz)) (F0 m 31 ls []) := by
          intro n31
          induction n31 using Nat.strongRecOn with
          | _ n31 ih_I31 =>
            intro x3_31 x6_31 H locs ls hI rx3_31 rx6_31 hS hl
            have hw := hstep_I31 n31 x3_31 x6_31 hI
            refine lv_iload hx hb dd_U_typeOf_31 (lv_at hl 4 rfl) ?_
            refine lv_iload hx hb dd_U_typeOf_33 (lv_at hl 3 rfl) ?_
            refine x_icmp_ge hC rx6_31 rv5_26 (tgt := 52) dd_U_typeOf_35 (by decide) (fun c3 => ?_) (fun c3 => ?_)
            · have hw := hw.1 c3
              obtain ⟨hr_, hw⟩ := hw
              obtain ⟨v4_52, rv4_52, ev4_52⟩ : ∃ z : Int, inR z ∧ z = x4_11 + (-1) := ⟨_, hr_, rfl⟩
              have hw := hw v4_52 ev4_52
              refine lv_iinc (v := iI v4_52) (lv' := [(4, .int (iI v4_52)), (2, .int (iI r2)), (3, .int (iI x3_31)), (5, .int (iI v5_26)), (6, .int (iI x6_31))]) hx hb dd_U_typeOf_52 hl (k := 2) rfl (by rw [ev4_52]; exact iI_add _ _) (by decide) rfl (fun ls hl => ?_)
              refine lv_goto (tgt := 11) hx hb dd_U_typeOf_55 (by decide) ?_
              obtain ⟨k_4, h5, hI⟩ := hw
              exact ih_I11 k_4 h5 x3_31 v4_52 _ _ _ hI rx3_31 rv4_52 hS (lv_sub hl [1, 2, 0] rfl)
            · have hw := hw.2 c3
              refine lv_iload_n hx hb dd_U_typeOf_38 rfl (lv_at hl 1 rfl) ?_
              refine x_bipush hC dd_U_typeOf_39 (by decide) ?_
              obtain ⟨q6, hw⟩ := hw
              refine x_mul hC dd_U_typeOf_41 ?_
              refine lv_iload hx hb dd_U_typeOf_42 (lv_at hl 2 rfl) ?_
              obtain ⟨q7, hw⟩ := hw
              refine x_add hC dd_U_typeOf_44 ?_
              refine x_nm q7 (fun v3_45 rv3_45 ev3_45 => ?_)
              have hw := hw v3_45 ev3_45
              refine lv_istore_n (lv' := [(3, .int (iI v3_45)), (2, .int (iI r2)), (4, .int (iI x4_11)), (5, .int (iI v5_26)), (6, .int (iI x6_31))]) hx hb dd_U_typeOf_45 rfl hl (by decide) rfl (fun ls hl => ?_)
              obtain ⟨hr_, hw⟩ := hw
              obtain ⟨v6_46, rv6_46, ev6_46⟩ : ∃ z : Int, inR z ∧ z = x6_31 + 1 := ⟨_, hr_, rfl⟩
              have hw := hw v6_46 ev6_46
              refine lv_iinc (v := iI v6_46) (lv' := [(6, .int (iI v6_46)), (3, .int (iI v3_45)), (2, .int (iI r2)), (4, .int (iI x4_11)), (5, .int (iI v5_26))]) hx hb dd_U_typeOf_46 hl (k := 4) rfl (by rw [ev6_46]; exact iI_add _ _) (by decide) rfl (fun ls hl => ?_)
              refine lv_goto (tgt := 31) hx hb dd_U_typeOf_49 (by decide) ?_
              obtain ⟨k_8, h9, hI⟩ := hw
              exact ih_I31 k_8 h9 v3_45 v6_46 _ _ _ hI rv3_45 rv6_46 hS (lv_sub hl [2, 1, 3, 4, 0] rfl)
        exact lp_I31 n0 x3_11 0 _ _ _ hI rx3_11 (rk rfl) hS (lv_sub hl [2, 3, 4, 1, 0] rfl)
  exact lp_I11 n0 0 a1 _ _ _ hI (rk rfl) ra1 hS (lv_sub hl [2, 1, 0] rfl)
def wp_U_timesTillStill (a0 : Int) (post : Int → Prop) : Prop :=
  ∃ I4 : Nat → Int → Int → Prop, (∃ n, I4 n a0 1) ∧ ∀ (n4 : Nat) (x1_4 : Int) (x2_4 : Int), I4 n4 x1_4 x2_4 →
    ((x1_4 = 42798 → post x2_4) ∧
      (¬ x1_4 = 42798 → (12 ≤ x2_4 → post x2_4) ∧
        (¬ 12 ≤ x2_4 → wp_U_oneThenOther x1_4 a0 (fun (r18 : Int) => inR (x2_4 + 1) ∧ ∀ v2_22 : Int, v2_22 = x2_4 + 1 → ∃ k_3, k_3 < n4 ∧ I4 k_3 r18 v2_22))))
set_option maxHeartbeats 4000000 in
set_option maxRecDepth 100000 in
theorem mt_U_timesTillStill (l : Launch) (X : Xw) (hlc : lcl X) (a0 : Int) (ra0 : inR a0) (M : Mm) (hm_M : mr M) (post : Int → Prop) (sz : Nat) (hw : wp_U_timesTillStill a0 post) : Met l yy_U_timesTillStill (Cond.code yy_U_timesTillStill bc_U_timesTillStill 3 (some .int) :: tg) ({ frames := 2, cells := 0, slots := 0, locals := 44 } : Room) (Pw X [.int (iI a0)] M sz) (Qi X sz (fun r M1 => M1 = M ∧ post r)) 0 0 (xF X sz) := by
  unfold wp_U_timesTillStill at hw
  refine x_enter (by decide) hlc hm_M (Nat.le_of_ble_eq_true rfl) ?_
  intro p e s m below meth c ls hC hsz hr hlocks hS hl
  have hx := hC.1.1
  have hb := hC.1.2.1
  have hl : lv_has ls 3 [(0, .int (iI a0))] := hl
  refine lv_iload_n hx hb dd_U_timesTillStill_0 rfl (lv_at hl 0 rfl) ?_
  refine lv_istore_n (lv' := [(1, .int (iI a0)), (0, .int (iI a0))]) hx hb dd_U_timesTillStill_1 rfl hl (by decide) rfl (fun ls hl => ?_)
  refine x_iconst hC dd_U_timesTillStill_2 ?_
  refine lv_istore_n (lv' := [(2, .int (iI 1)), (1, .int (iI a0)), (0, .int (iI a0))]) hx hb dd_U_timesTillStill_3 rfl hl (by decide) rfl (fun ls hl => ?_)
  obtain ⟨I4, ⟨n0, hI⟩, hstep_I4⟩ := hw
  have lp_I4 : ∀ (n4 : Nat) (x1_4 : Int) (x2_4 : Int) (H : Heap) (locs : List Loc) (ls : Array Slot), I4 n4 x1_4 x2_4 → inR x1_4 → inR x2_4 → St X (xF X sz) s M H locs → lv_has ls 3 [(0, .int (iI a0)), (1, .int (iI x1_4)), (2, .int (iI x2_4))] → W p l e ({ frames := 2, cells := 0, slots := 0, locals := 44 } : Room) s m ([.int (iI a0)] : List Value).toArray below meth c H locs 0 0 (MQ below (Qi X sz (fun r M1 => M1 = M ∧ post r)) ([.int (iI a0)] : List Value).toArray s 0 0 (xF X sz)) (F0 m 4 ls []) := by
    intro n4
    induction n4 using Nat.strongRecOn with
    | _ n4 ih_I4 =>
      intro x1_4 x2_4 H locs ls hI rx1_4 rx2_4 hS hl
      have hw := hstep_I4 n4 x1_4 x2_4 hI
      refine lv_iload_n hx hb dd_U_timesTillStill_4 rfl (lv_at hl 1 rfl) ?_
      refine x_ldc hC (n := 42798) tb_220 (by decide) dd_U_timesTillStill_5 ?_
      refine x_icmp_eq hC rx1_4 (rk rfl) (tgt := 28) dd_U_timesTillStill_7 (by decide) (fun c1 => ?_) (fun c1 => ?_)
      · have hw := hw.1 c1
        refine lv_iload_n hx hb dd_U_timesTillStill_28 rfl (lv_at hl 2 rfl) ?_
        exact x_iret hC hS hlocks hr rx2_4 ⟨rfl, hw⟩ dd_U_timesTillStill_29
      · have hw := hw.2 c1
        refine lv_iload_n hx hb dd_U_timesTillStill_10 rfl (lv_at hl 2 rfl) ?_
        refine x_bipush hC dd_U_timesTillStill_11 (by decide) ?_
        refine x_icmp_ge hC rx2_4 (rk rfl) (tgt := 28) dd_U_timesTillStill_13 (by decide) (fun c2 => ?_) (fun c2 => ?_)
        · have hw := hw.1 c2
          refine lv_iload_n hx hb dd_U_timesTillStill_28 rfl (lv_at hl 2 rfl) ?_
          exact x_iret hC hS hlocks hr rx2_4 ⟨rfl, hw⟩ dd_U_timesTillStill_29
        · have hw := hw.2 c2
          refine lv_iload_n hx hb dd_U_timesTillStill_16 rfl (lv_at hl 1 rfl) ?_
          refine lv_iload_n hx hb dd_U_timesTillStill_17 rfl (lv_at hl 0 rfl) ?_
          refine x_callSi hC hS (As := [.int (iI x1_4), .int (iI a0)]) (rest := []) cs_U_oneThenOther (mt_U_oneThenOther l X hC.2.2.1  x1_4 rx1_4 a0 ra0 M hm_M _ _ hw) tb_282 rfl rfl ⟨Nat.le_of_ble_eq_true rfl, Nat.le_of_ble_eq_true rfl⟩ rfl hl.1 (Nat.le_of_ble_eq_true rfl) dd_U_timesTillStill_18 ⟨Nat.le_refl _, Nat.le_refl _⟩ rfl (fun r18 Mx H locs rr18 hp hS => ?_)
          obtain ⟨hq, hw⟩ := hp
          rw [hq] at hS
          refine lv_istore_n (lv' := [(1, .int (iI r18)), (0, .int (iI a0)), (2, .int (iI x2_4))]) hx hb dd_U_timesTillStill_21 rfl hl (by decide) rfl (fun ls hl => ?_)
          obtain ⟨hr_, hw⟩ := hw
          obtain ⟨v2_22, rv2_22, ev2_22⟩ : ∃ z : Int, inR z ∧ z = x2_4 + 1 := ⟨_, hr_, rfl⟩
          have hw := hw v2_22 ev2_22
          refine lv_iinc (v := iI v2_22) (lv' := [(2, .int (iI v2_22)), (1, .int (iI r18)), (0, .int (iI a0))]) hx hb dd_U_timesTillStill_22 hl (k := 2) rfl (by rw [ev2_22]; exact iI_add _ _) (by decide) rfl (fun ls hl => ?_)
          refine lv_goto (tgt := 4) hx hb dd_U_timesTillStill_25 (by decide) ?_
          obtain ⟨k_3, h4, hI⟩ := hw
          exact ih_I4 k_3 h4 r18 v2_22 _ _ _ hI rr18 rv2_22 hS (lv_sub hl [2, 1, 0] rfl)
  exact lp_I4 n0 a0 1 _ _ _ hI ra0 (rk rfl) hS (lv_sub hl [2, 1, 0] rfl)
end
section
def wp_G_add (g : Nat) (a1 : Int) (M : Mm) (post : Mm → Prop) : Prop :=
  (5040 ≤ (M g 1) → post M) ∧
  (¬ 5040 ≤ (M g 1) → wp_U_rank a1 (fun (r13 : Int) => (0 ≤ (bShr r13 5) ∧ (bShr r13 5) < 158) ∧ ∀ z3 : Int, z3 = M (g + 3) ((bShr r13 5)).toNat → (0 ≤ (bShr r13 5) ∧ (bShr r13 5) < 158) ∧ ∀ M_5 : Mm, M_5 = ms M (g + 3) ((bShr r13 5)).toNat (bOr z3 (bShl 1 (bAnd r13 31))) → (0 ≤ (M_5 g 1) ∧ (M_5 g 1) < 5040) ∧ ∀ M_7 : Mm, M_7 = ms M_5 (g + 1) ((M_5 g 1)).toNat a1 → inR ((M_7 g 1) + 1) ∧ ∀ M_9 : Mm, M_9 = ms M_7 g 1 ((M_7 g 1) + 1) → post M_9))
set_option maxHeartbeats 4000000 in
set_option maxRecDepth 100000 in
theorem mt_G_add (l : Launch) (X : Xw) (hlc : lcl X) (g : Nat) (hG0 : IsG X g) (a1 : Int) (ra1 : inR a1) (M : Mm) (hm_M : mr M) (post : Mm → Prop) (sz : Nat) (hw : wp_G_add g a1 M post) : Met l yy_G_add (Cond.code yy_G_add bc_G_add 3 none :: tg) ({ frames := 2, cells := 0, slots := 0, locals := 46 } : Room) (Pw X [.ref (xA X g), .int (iI a1)] M sz) (Qv X sz post) 0 0 (xF X sz) := by
  unfold wp_G_add at hw
  refine x_enter (by decide) hlc hm_M (Nat.le_of_ble_eq_true rfl) ?_
  intro p e s m below meth c ls hC hsz hr hlocks hS hl
  have hx := hC.1.1
  have hb := hC.1.2.1
  have hl : lv_has ls 3 [(0, .ref (xA X g)), (1, .int (iI a1))] := hl
  refine lv_aload_n hx hb dd_G_add_0 rfl (lv_at hl 0 rfl) ?_
  refine x_get hC hS hG0.1 rfl iw_G 1 (by decide) tb_57 rfl rfl dd_G_add_1 ?_
  refine lv_aload_n hx hb dd_G_add_4 rfl (lv_at hl 0 rfl) ?_
  refine x_get hC hS hG0.1 rfl iw_G 0 (by decide) tb_53 rfl rfl dd_G_add_5 ?_
  refine x_alen hC hS (z := 5040) hG0.2.1 rfl dd_G_add_8 ?_
  refine x_icmp_ge hC (hm_M g 1) (rk rfl) (tgt := 54) dd_G_add_9 (by decide) (fun c1 => ?_) (fun c1 => ?_)
  · have hw := hw.1 c1
    exact x_vret hC hS hlocks hr hw dd_G_add_54
  · have hw := hw.2 c1
    refine lv_iload_n hx hb dd_G_add_12 rfl (lv_at hl 1 rfl) ?_
    refine x_callSi hC hS (As := [.int (iI a1)]) (rest := []) cs_U_rank (mt_U_rank l X hC.2.2.1  a1 ra1 M hm_M _ _ hw) tb_41 rfl rfl ⟨Nat.le_of_ble_eq_true rfl, Nat.le_of_ble_eq_true rfl⟩ rfl hl.1 (Nat.le_of_ble_eq_true rfl) dd_G_add_13 ⟨Nat.le_refl _, Nat.le_refl _⟩ rfl (fun r13 Mx H locs rr13 hp hS => ?_)
    obtain ⟨hq, hw⟩ := hp
    rw [hq] at hS
    refine lv_istore_n (lv' := [(2, .int (iI r13)), (0, .ref (xA X g)), (1, .int (iI a1))]) hx hb dd_G_add_16 rfl hl (by decide) rfl (fun ls hl => ?_)
    refine lv_aload_n hx hb dd_G_add_17 rfl (lv_at hl 1 rfl) ?_
    refine x_get hC hS hG0.1 rfl iw_G 4 (by decide) tb_64 rfl rfl dd_G_add_18 ?_
    refine lv_iload_n hx hb dd_G_add_21 rfl (lv_at hl 0 rfl) ?_
    refine x_iconst hC dd_G_add_22 ?_
    refine x_shr hC dd_G_add_23 ?_
    refine lv_dup2_11 hx hb dd_G_add_24 rfl rfl ?_
    obtain ⟨q2, hw⟩ := hw
    refine x_iald hC hS hG0.2.2.2 q2 dd_G_add_25 ?_
    refine x_nm (hm_M (g + 3) _) (fun z3 rz3 ez3 => ?_)
    have hw := hw z3 ez3
    refine x_iconst hC dd_G_add_26 ?_
    refine lv_iload_n hx hb dd_G_add_27 rfl (lv_at hl 0 rfl) ?_
    refine x_bipush hC dd_G_add_28 (by decide) ?_
    refine x_and hC dd_G_add_30 ?_
    refine x_shl hC dd_G_add_31 ?_
    refine x_or hC dd_G_add_32 ?_
    obtain ⟨q4, hw⟩ := hw
    refine x_iast hC hS hG0.2.2.2 q4 (rng _) dd_G_add_33 (fun H locs hS => ?_)
    obtain ⟨M_5, eM_5⟩ : ∃ Z : Mm, Z = ms M (g + 3) ((bShr r13 5)).toNat (bOr z3 (bShl 1 (bAnd r13 31))) := ⟨_, rfl⟩
    rw [← eM_5] at hS
    have hw := hw M_5 eM_5
    have hm_M_5 := hS.2.2.2
    refine lv_aload_n hx hb dd_G_add_34 rfl (lv_at hl 1 rfl) ?_
    refine x_get hC hS hG0.1 rfl iw_G 0 (by decide) tb_53 rfl rfl dd_G_add_35 ?_
    refine lv_aload_n hx hb dd_G_add_38 rfl (lv_at hl 1 rfl) ?_
    refine x_get hC hS hG0.1 rfl iw_G 1 (by decide) tb_57 rfl rfl dd_G_add_39 ?_
    refine lv_iload_n hx hb dd_G_add_42 rfl (lv_at hl 2 rfl) ?_
    obtain ⟨q6, hw⟩ := hw
    refine x_iast hC hS hG0.2.1 q6 ra1 dd_G_add_43 (fun H locs hS => ?_)
    obtain ⟨M_7, eM_7⟩ : ∃ Z : Mm, Z = ms M_5 (g + 1) ((M_5 g 1)).toNat a1 := ⟨_, rfl⟩
    rw [← eM_7] at hS
    have hw := hw M_7 eM_7
    have hm_M_7 := hS.2.2.2
    refine lv_aload_n hx hb dd_G_add_44 rfl (lv_at hl 1 rfl) ?_
    refine lv_dup hx hb dd_G_add_45 rfl ?_
    refine x_get hC hS hG0.1 rfl iw_G 1 (by decide) tb_57 rfl rfl dd_G_add_46 ?_
    refine x_iconst hC dd_G_add_49 ?_
    obtain ⟨q8, hw⟩ := hw
    refine x_add hC dd_G_add_50 ?_
    refine x_put hC hS hG0.1 rfl iw_G fy_G fk_G fn_G 1 (by decide) tb_57 rfl q8 rfl rfl (ps_G_1 _ _ _ _) (Nat.le_of_ble_eq_true rfl) dd_G_add_51 (fun H locs hS => ?_)
    obtain ⟨M_9, eM_9⟩ : ∃ Z : Mm, Z = ms M_7 g 1 ((M_7 g 1) + 1) := ⟨_, rfl⟩
    rw [← eM_9] at hS
    have hw := hw M_9 eM_9
    have hm_M_9 := hS.2.2.2
    exact x_vret hC hS hlocks hr hw dd_G_add_54
def wp_G_makeStill (g : Nat) (M : Mm) (post : Mm → Prop) : Prop :=
  ∃ I2 : Nat → Int → Mm → Prop, (∃ n, I2 n 0 M) ∧ ∀ (n2 : Nat) (x1_2 : Int) (M2 : Mm), I2 n2 x1_2 M2 →
    ((158 ≤ x1_2 → ∀ M_2 : Mm, M_2 = ms M2 g 3 0 → ∀ M_3 : Mm, M_3 = ms M_2 g 1 0 → wp_G_add g 42798 M_3 (fun (M_4 : Mm) => post M_4)) ∧
      (¬ 158 ≤ x1_2 → (0 ≤ x1_2 ∧ x1_2 < 158) ∧ ∀ M_6 : Mm, M_6 = ms M2 (g + 3) (x1_2).toNat 0 → inR (x1_2 + 1) ∧ ∀ v1_18 : Int, v1_18 = x1_2 + 1 → ∃ k_7, k_7 < n2 ∧ I2 k_7 v1_18 M_6))
set_option maxHeartbeats 4000000 in
set_option maxRecDepth 100000 in
theorem mt_G_makeStill (l : Launch) (X : Xw) (hlc : lcl X) (g : Nat) (hG0 : IsG X g) (M : Mm) (hm_M : mr M) (post : Mm → Prop) (sz : Nat) (hw : wp_G_makeStill g M post) : Met l yy_G_makeStill (Cond.code yy_G_makeStill bc_G_makeStill 2 none :: tg) ({ frames := 3, cells := 0, slots := 0, locals := 68 } : Room) (Pw X [.ref (xA X g)] M sz) (Qv X sz post) 0 0 (xF X sz) := by
  unfold wp_G_makeStill at hw
  refine x_enter (by decide) hlc hm_M (Nat.le_of_ble_eq_true rfl) ?_
  intro p e s m below meth c ls hC hsz hr hlocks hS hl
  have hx := hC.1.1
  have hb := hC.1.2.1
  have hl : lv_has ls 2 [(0, .ref (xA X g))] := hl
  refine x_iconst hC dd_G_makeStill_0 ?_
  refine lv_istore_n (lv' := [(1, .int (iI 0)), (0, .ref (xA X g))]) hx hb dd_G_makeStill_1 rfl hl (by decide) rfl (fun ls hl => ?_)
  obtain ⟨I2, ⟨n0, hI⟩, hstep_I2⟩ := hw
  have lp_I2 : ∀ (n2 : Nat) (x1_2 : Int) (M2 : Mm) (H : Heap) (locs : List Loc) (ls : Array Slot), I2 n2 x1_2 M2 → inR x1_2 → St X (xF X sz) s M2 H locs → lv_has ls 2 [(0, .ref (xA X g)), (1, .int (iI x1_2))] → W p l e ({ frames := 3, cells := 0, slots := 0, locals := 68 } : Room) s m ([.ref (xA X g)] : List Value).toArray below meth c H locs 0 0 (MQ below (Qv X sz post) ([.ref (xA X g)] : List Value).toArray s 0 0 (xF X sz)) (F0 m 2 ls []) := by
    intro n2
    induction n2 using Nat.strongRecOn with
    | _ n2 ih_I2 =>
      intro x1_2 M2 H locs ls hI rx1_2 hS hl
      have hw := hstep_I2 n2 x1_2 M2 hI
      have hm_M2 := hS.2.2.2
      refine lv_iload_n hx hb dd_G_makeStill_2 rfl (lv_at hl 1 rfl) ?_
      refine lv_aload_n hx hb dd_G_makeStill_3 rfl (lv_at hl 0 rfl) ?_
      refine x_get hC hS hG0.1 rfl iw_G 4 (by decide) tb_64 rfl rfl dd_G_makeStill_4 ?_
      refine x_alen hC hS (z := 158) hG0.2.2.2 rfl dd_G_makeStill_7 ?_
      refine x_icmp_ge hC rx1_2 (rk rfl) (tgt := 24) dd_G_makeStill_8 (by decide) (fun c1 => ?_) (fun c1 => ?_)
      · have hw := hw.1 c1
        refine lv_aload_n hx hb dd_G_makeStill_24 rfl (lv_at hl 0 rfl) ?_
        refine x_iconst hC dd_G_makeStill_25 ?_
        refine x_put hC hS hG0.1 rfl iw_G fy_G fk_G fn_G 3 (by decide) tb_62 rfl (rk rfl) rfl rfl (ps_G_3 _ _ _ _) (Nat.le_of_ble_eq_true rfl) dd_G_makeStill_26 (fun H locs hS => ?_)
        obtain ⟨M_2, eM_2⟩ : ∃ Z : Mm, Z = ms M2 g 3 0 := ⟨_, rfl⟩
        rw [← eM_2] at hS
        have hw := hw M_2 eM_2
        have hm_M_2 := hS.2.2.2
        refine lv_aload_n hx hb dd_G_makeStill_29 rfl (lv_at hl 0 rfl) ?_
        refine x_iconst hC dd_G_makeStill_30 ?_
        refine x_put hC hS hG0.1 rfl iw_G fy_G fk_G fn_G 1 (by decide) tb_57 rfl (rk rfl) rfl rfl (ps_G_1 _ _ _ _) (Nat.le_of_ble_eq_true rfl) dd_G_makeStill_31 (fun H locs hS => ?_)
        obtain ⟨M_3, eM_3⟩ : ∃ Z : Mm, Z = ms M_2 g 1 0 := ⟨_, rfl⟩
        rw [← eM_3] at hS
        have hw := hw M_3 eM_3
        have hm_M_3 := hS.2.2.2
        refine lv_aload_n hx hb dd_G_makeStill_34 rfl (lv_at hl 0 rfl) ?_
        refine x_ldc hC (n := 42798) tb_36 (by decide) dd_G_makeStill_35 ?_
        refine x_callVv hC hS (As := [.int (iI 42798)]) (rest := []) hG0.1 rfl cv_G_add (mt_G_add l X hC.2.2.1 g hG0 42798 (rk rfl) M_3 hm_M_3 _ _ hw) tb_37 rfl rfl ⟨Nat.le_of_ble_eq_true rfl, Nat.le_of_ble_eq_true rfl⟩ rfl hl.1 (Nat.le_of_ble_eq_true rfl) dd_G_makeStill_37 ⟨Nat.le_refl _, Nat.le_refl _⟩ rfl (fun M_4 H locs hw hS => ?_)
        have hm_M_4 := hS.2.2.2
        exact x_vret hC hS hlocks hr hw dd_G_makeStill_40
      · have hw := hw.2 c1
        refine lv_aload_n hx hb dd_G_makeStill_11 rfl (lv_at hl 0 rfl) ?_
        refine x_get hC hS hG0.1 rfl iw_G 4 (by decide) tb_64 rfl rfl dd_G_makeStill_12 ?_
        refine lv_iload_n hx hb dd_G_makeStill_15 rfl (lv_at hl 1 rfl) ?_
        refine x_iconst hC dd_G_makeStill_16 ?_
        obtain ⟨q5, hw⟩ := hw
        refine x_iast hC hS hG0.2.2.2 q5 (rk rfl) dd_G_makeStill_17 (fun H locs hS => ?_)
        obtain ⟨M_6, eM_6⟩ : ∃ Z : Mm, Z = ms M2 (g + 3) (x1_2).toNat 0 := ⟨_, rfl⟩
        rw [← eM_6] at hS
        have hw := hw M_6 eM_6
        have hm_M_6 := hS.2.2.2
        obtain ⟨hr_, hw⟩ := hw
        obtain ⟨v1_18, rv1_18, ev1_18⟩ : ∃ z : Int, inR z ∧ z = x1_2 + 1 := ⟨_, hr_, rfl⟩
        have hw := hw v1_18 ev1_18
        refine lv_iinc (v := iI v1_18) (lv' := [(1, .int (iI v1_18)), (0, .ref (xA X g))]) hx hb dd_G_makeStill_18 hl (k := 1) rfl (by rw [ev1_18]; exact iI_add _ _) (by decide) rfl (fun ls hl => ?_)
        refine lv_goto (tgt := 2) hx hb dd_G_makeStill_21 (by decide) ?_
        obtain ⟨k_7, h8, hI⟩ := hw
        exact ih_I2 k_7 h8 v1_18 M_6 _ _ _ hI rv1_18 hS (lv_sub hl [1, 0] rfl)
  exact lp_I2 n0 0 M _ _ _ hI (rk rfl) hS (lv_sub hl [1, 0] rfl)
def wp_G_copyFrom (g : Nat) (g1 : Nat) (M : Mm) (post : Mm → Prop) : Prop :=
  (0 ≤ (0 : Int) ∧ 0 ≤ (0 : Int) ∧ 0 ≤ (M g1 1) ∧ (0 : Int) + (M g1 1) ≤ 5040 ∧ (0 : Int) + (M g1 1) ≤ 5040) ∧ ∀ M_1 : Mm, M_1 = mc M (g1 + 1) ((0 : Int)).toNat (g + 1) ((0 : Int)).toNat ((M g1 1)).toNat → ∀ M_3 : Mm, M_3 = ms M_1 g 1 (M_1 g1 1) → (0 ≤ (0 : Int) ∧ 0 ≤ (0 : Int) ∧ 0 ≤ (M_3 g1 3) ∧ (0 : Int) + (M_3 g1 3) ≤ 12 ∧ (0 : Int) + (M_3 g1 3) ≤ 12) ∧ ∀ M_4 : Mm, M_4 = mc M_3 (g1 + 2) ((0 : Int)).toNat (g + 2) ((0 : Int)).toNat ((M_3 g1 3)).toNat → ∀ M_6 : Mm, M_6 = ms M_4 g 3 (M_4 g1 3) → (0 ≤ (0 : Int) ∧ 0 ≤ (0 : Int) ∧ 0 ≤ (158 : Int) ∧ (0 : Int) + (158 : Int) ≤ 158 ∧ (0 : Int) + (158 : Int) ≤ 158) ∧ ∀ M_7 : Mm, M_7 = mc M_6 (g1 + 3) ((0 : Int)).toNat (g + 3) ((0 : Int)).toNat ((158 : Int)).toNat → post M_7
set_option maxHeartbeats 4000000 in
set_option maxRecDepth 100000 in
theorem mt_G_copyFrom (l : Launch) (X : Xw) (hlc : lcl X) (g : Nat)  (g1 : Nat) (hG0 : IsG X g) (hg1 : IsG X g1) (M : Mm) (hm_M : mr M) (post : Mm → Prop) (sz : Nat) (hw : wp_G_copyFrom g g1 M post) : Met l yy_G_copyFrom (Cond.code yy_G_copyFrom bc_G_copyFrom 2 none :: tg) ({ frames := 1, cells := 0, slots := 0, locals := 26 } : Room) (Pw X [.ref (xA X g), .ref (xA X g1)] M sz) (Qv X sz post) 0 0 (xF X sz) := by
  unfold wp_G_copyFrom at hw
  refine x_enter (by decide) hlc hm_M (Nat.le_of_ble_eq_true rfl) ?_
  intro p e s m below meth c ls hC hsz hr hlocks hS hl
  have hx := hC.1.1
  have hb := hC.1.2.1
  have hl : lv_has ls 2 [(0, .ref (xA X g)), (1, .ref (xA X g1))] := hl
  refine lv_aload_n hx hb dd_G_copyFrom_0 rfl (lv_at hl 1 rfl) ?_
  refine x_get hC hS hg1.1 rfl iw_G 0 (by decide) tb_53 rfl rfl dd_G_copyFrom_1 ?_
  refine x_iconst hC dd_G_copyFrom_4 ?_
  refine lv_aload_n hx hb dd_G_copyFrom_5 rfl (lv_at hl 0 rfl) ?_
  refine x_get hC hS hG0.1 rfl iw_G 0 (by decide) tb_53 rfl rfl dd_G_copyFrom_6 ?_
  refine x_iconst hC dd_G_copyFrom_9 ?_
  refine lv_aload_n hx hb dd_G_copyFrom_10 rfl (lv_at hl 1 rfl) ?_
  refine x_get hC hS hg1.1 rfl iw_G 1 (by decide) tb_57 rfl rfl dd_G_copyFrom_11 ?_
  obtain ⟨q2, hw⟩ := hw
  refine x_copy hC hS hg1.2.1 hG0.2.1 q2.1 q2.2.1 q2.2.2.1 q2.2.2.2.1 q2.2.2.2.2 hl.1 tb_450 tb_445 tb_444 tb_11 (Nat.le_of_ble_eq_true rfl) (Nat.le_of_ble_eq_true rfl) dd_G_copyFrom_14 (fun H locs hS => ?_)
  obtain ⟨M_1, eM_1⟩ : ∃ Z : Mm, Z = mc M (g1 + 1) ((0 : Int)).toNat (g + 1) ((0 : Int)).toNat ((M g1 1)).toNat := ⟨_, rfl⟩
  rw [← eM_1] at hS
  have hw := hw M_1 eM_1
  have hm_M_1 := hS.2.2.2
  refine lv_aload_n hx hb dd_G_copyFrom_17 rfl (lv_at hl 0 rfl) ?_
  refine lv_aload_n hx hb dd_G_copyFrom_18 rfl (lv_at hl 1 rfl) ?_
  refine x_get hC hS hg1.1 rfl iw_G 1 (by decide) tb_57 rfl rfl dd_G_copyFrom_19 ?_
  refine x_put hC hS hG0.1 rfl iw_G fy_G fk_G fn_G 1 (by decide) tb_57 rfl (hm_M_1 g1 1) rfl rfl (ps_G_1 _ _ _ _) (Nat.le_of_ble_eq_true rfl) dd_G_copyFrom_22 (fun H locs hS => ?_)
  obtain ⟨M_3, eM_3⟩ : ∃ Z : Mm, Z = ms M_1 g 1 (M_1 g1 1) := ⟨_, rfl⟩
  rw [← eM_3] at hS
  have hw := hw M_3 eM_3
  have hm_M_3 := hS.2.2.2
  refine lv_aload_n hx hb dd_G_copyFrom_25 rfl (lv_at hl 1 rfl) ?_
  refine x_get hC hS hg1.1 rfl iw_G 2 (by decide) tb_60 rfl rfl dd_G_copyFrom_26 ?_
  refine x_iconst hC dd_G_copyFrom_29 ?_
  refine lv_aload_n hx hb dd_G_copyFrom_30 rfl (lv_at hl 0 rfl) ?_
  refine x_get hC hS hG0.1 rfl iw_G 2 (by decide) tb_60 rfl rfl dd_G_copyFrom_31 ?_
  refine x_iconst hC dd_G_copyFrom_34 ?_
  refine lv_aload_n hx hb dd_G_copyFrom_35 rfl (lv_at hl 1 rfl) ?_
  refine x_get hC hS hg1.1 rfl iw_G 3 (by decide) tb_62 rfl rfl dd_G_copyFrom_36 ?_
  obtain ⟨q5, hw⟩ := hw
  refine x_copy hC hS hg1.2.2.1 hG0.2.2.1 q5.1 q5.2.1 q5.2.2.1 q5.2.2.2.1 q5.2.2.2.2 hl.1 tb_450 tb_445 tb_444 tb_11 (Nat.le_of_ble_eq_true rfl) (Nat.le_of_ble_eq_true rfl) dd_G_copyFrom_39 (fun H locs hS => ?_)
  obtain ⟨M_4, eM_4⟩ : ∃ Z : Mm, Z = mc M_3 (g1 + 2) ((0 : Int)).toNat (g + 2) ((0 : Int)).toNat ((M_3 g1 3)).toNat := ⟨_, rfl⟩
  rw [← eM_4] at hS
  have hw := hw M_4 eM_4
  have hm_M_4 := hS.2.2.2
  refine lv_aload_n hx hb dd_G_copyFrom_42 rfl (lv_at hl 0 rfl) ?_
  refine lv_aload_n hx hb dd_G_copyFrom_43 rfl (lv_at hl 1 rfl) ?_
  refine x_get hC hS hg1.1 rfl iw_G 3 (by decide) tb_62 rfl rfl dd_G_copyFrom_44 ?_
  refine x_put hC hS hG0.1 rfl iw_G fy_G fk_G fn_G 3 (by decide) tb_62 rfl (hm_M_4 g1 3) rfl rfl (ps_G_3 _ _ _ _) (Nat.le_of_ble_eq_true rfl) dd_G_copyFrom_47 (fun H locs hS => ?_)
  obtain ⟨M_6, eM_6⟩ : ∃ Z : Mm, Z = ms M_4 g 3 (M_4 g1 3) := ⟨_, rfl⟩
  rw [← eM_6] at hS
  have hw := hw M_6 eM_6
  have hm_M_6 := hS.2.2.2
  refine lv_aload_n hx hb dd_G_copyFrom_50 rfl (lv_at hl 1 rfl) ?_
  refine x_get hC hS hg1.1 rfl iw_G 4 (by decide) tb_64 rfl rfl dd_G_copyFrom_51 ?_
  refine x_iconst hC dd_G_copyFrom_54 ?_
  refine lv_aload_n hx hb dd_G_copyFrom_55 rfl (lv_at hl 0 rfl) ?_
  refine x_get hC hS hG0.1 rfl iw_G 4 (by decide) tb_64 rfl rfl dd_G_copyFrom_56 ?_
  refine x_iconst hC dd_G_copyFrom_59 ?_
  refine lv_aload_n hx hb dd_G_copyFrom_60 rfl (lv_at hl 0 rfl) ?_
  refine x_get hC hS hG0.1 rfl iw_G 4 (by decide) tb_64 rfl rfl dd_G_copyFrom_61 ?_
  refine x_alen hC hS (z := 158) hG0.2.2.2 rfl dd_G_copyFrom_64 ?_
  obtain ⟨q8, hw⟩ := hw
  refine x_copy hC hS hg1.2.2.2 hG0.2.2.2 q8.1 q8.2.1 q8.2.2.1 q8.2.2.2.1 q8.2.2.2.2 hl.1 tb_450 tb_445 tb_444 tb_11 (Nat.le_of_ble_eq_true rfl) (Nat.le_of_ble_eq_true rfl) dd_G_copyFrom_65 (fun H locs hS => ?_)
  obtain ⟨M_7, eM_7⟩ : ∃ Z : Mm, Z = mc M_6 (g1 + 3) ((0 : Int)).toNat (g + 3) ((0 : Int)).toNat ((158 : Int)).toNat := ⟨_, rfl⟩
  rw [← eM_7] at hS
  have hw := hw M_7 eM_7
  have hm_M_7 := hS.2.2.2
  exact x_vret hC hS hlocks hr hw dd_G_copyFrom_68
def wp_G_has (g : Nat) (a1 : Int) (M : Mm) (post : Int → Prop) : Prop :=
  wp_U_rank a1 (fun (r1 : Int) => (0 ≤ (bShr r1 5) ∧ (bShr r1 5) < 158) ∧ ∀ z2 : Int, z2 = M (g + 3) ((bShr r1 5)).toNat → (¬ (bAnd (bShr z2 (bAnd r1 31)) 1) = 1 → post 0) ∧
  ((bAnd (bShr z2 (bAnd r1 31)) 1) = 1 → post 1))
set_option maxHeartbeats 4000000 in
set_option maxRecDepth 100000 in
theorem mt_G_has (l : Launch) (X : Xw) (hlc : lcl X) (g : Nat) (hG0 : IsG X g) (a1 : Int) (ra1 : inR a1) (M : Mm) (hm_M : mr M) (post : Int → Prop) (sz : Nat) (hw : wp_G_has g a1 M post) : Met l yy_G_has (Cond.code yy_G_has bc_G_has 3 (some .boolean) :: tg) ({ frames := 2, cells := 0, slots := 0, locals := 46 } : Room) (Pw X [.ref (xA X g), .int (iI a1)] M sz) (Qi X sz (fun r M1 => M1 = M ∧ post r)) 0 0 (xF X sz) := by
  unfold wp_G_has at hw
  refine x_enter (by decide) hlc hm_M (Nat.le_of_ble_eq_true rfl) ?_
  intro p e s m below meth c ls hC hsz hr hlocks hS hl
  have hx := hC.1.1
  have hb := hC.1.2.1
  have hl : lv_has ls 3 [(0, .ref (xA X g)), (1, .int (iI a1))] := hl
  refine lv_iload_n hx hb dd_G_has_0 rfl (lv_at hl 1 rfl) ?_
  refine x_callSi hC hS (As := [.int (iI a1)]) (rest := []) cs_U_rank (mt_U_rank l X hC.2.2.1  a1 ra1 M hm_M _ _ hw) tb_41 rfl rfl ⟨Nat.le_of_ble_eq_true rfl, Nat.le_of_ble_eq_true rfl⟩ rfl hl.1 (Nat.le_of_ble_eq_true rfl) dd_G_has_1 ⟨Nat.le_refl _, Nat.le_refl _⟩ rfl (fun r1 Mx H locs rr1 hp hS => ?_)
  obtain ⟨hq, hw⟩ := hp
  rw [hq] at hS
  refine lv_istore_n (lv' := [(2, .int (iI r1)), (0, .ref (xA X g)), (1, .int (iI a1))]) hx hb dd_G_has_4 rfl hl (by decide) rfl (fun ls hl => ?_)
  refine lv_aload_n hx hb dd_G_has_5 rfl (lv_at hl 1 rfl) ?_
  refine x_get hC hS hG0.1 rfl iw_G 4 (by decide) tb_64 rfl rfl dd_G_has_6 ?_
  refine lv_iload_n hx hb dd_G_has_9 rfl (lv_at hl 0 rfl) ?_
  refine x_iconst hC dd_G_has_10 ?_
  refine x_shr hC dd_G_has_11 ?_
  obtain ⟨q1, hw⟩ := hw
  refine x_iald hC hS hG0.2.2.2 q1 dd_G_has_12 ?_
  refine x_nm (hm_M (g + 3) _) (fun z2 rz2 ez2 => ?_)
  have hw := hw z2 ez2
  refine lv_iload_n hx hb dd_G_has_13 rfl (lv_at hl 0 rfl) ?_
  refine x_bipush hC dd_G_has_14 (by decide) ?_
  refine x_and hC dd_G_has_16 ?_
  refine x_shr hC dd_G_has_17 ?_
  refine x_iconst hC dd_G_has_18 ?_
  refine x_and hC dd_G_has_19 ?_
  refine x_iconst hC dd_G_has_20 ?_
  refine x_icmp_ne hC (rng _) (rk rfl) (tgt := 28) dd_G_has_21 (by decide) (fun c3 => ?_) (fun c3 => ?_)
  · have hw := hw.1 c3
    refine x_iconst hC dd_G_has_28 ?_
    exact x_zret hC hS hlocks hr (Or.inl rfl) ⟨rfl, hw⟩ dd_G_has_29
  · have hw := hw.2 c3
    refine x_iconst hC dd_G_has_24 ?_
    refine lv_goto (tgt := 29) hx hb dd_G_has_25 (by decide) ?_
    exact x_zret hC hS hlocks hr (Or.inr rfl) ⟨rfl, hw⟩ dd_G_has_29
def wp_G_addCopy (g : Nat) (a1 : Int) (a2 : Int) (M : Mm) (post : Mm → Prop) : Prop :=
  ∃ I2 : Nat → Int → Mm → Prop, (∃ n, I2 n 0 M) ∧ ∀ (n2 : Nat) (x3_2 : Int) (M2 : Mm), I2 n2 x3_2 M2 →
    ((a1 ≤ x3_2 → post M2) ∧
      (¬ a1 ≤ x3_2 → (0 ≤ x3_2 ∧ x3_2 < 5040) ∧ ∀ z3 : Int, z3 = M2 (g + 1) (x3_2).toNat → wp_U_oneThenOther z3 a2 (fun (r15 : Int) => wp_G_add g r15 M2 (fun (M_4 : Mm) => inR (x3_2 + 1) ∧ ∀ v3_21 : Int, v3_21 = x3_2 + 1 → ∃ k_5, k_5 < n2 ∧ I2 k_5 v3_21 M_4))))
set_option maxHeartbeats 4000000 in
set_option maxRecDepth 100000 in
theorem mt_G_addCopy (l : Launch) (X : Xw) (hlc : lcl X) (g : Nat) (hG0 : IsG X g) (a1 : Int) (ra1 : inR a1) (a2 : Int) (ra2 : inR a2) (M : Mm) (hm_M : mr M) (post : Mm → Prop) (sz : Nat) (hw : wp_G_addCopy g a1 a2 M post) : Met l yy_G_addCopy (Cond.code yy_G_addCopy bc_G_addCopy 4 none :: tg) ({ frames := 3, cells := 0, slots := 0, locals := 68 } : Room) (Pw X [.ref (xA X g), .int (iI a1), .int (iI a2)] M sz) (Qv X sz post) 0 0 (xF X sz) := by
  unfold wp_G_addCopy at hw
  refine x_enter (by decide) hlc hm_M (Nat.le_of_ble_eq_true rfl) ?_
  intro p e s m below meth c ls hC hsz hr hlocks hS hl
  have hx := hC.1.1
  have hb := hC.1.2.1
  have hl : lv_has ls 4 [(0, .ref (xA X g)), (1, .int (iI a1)), (2, .int (iI a2))] := hl
  refine x_iconst hC dd_G_addCopy_0 ?_
  refine lv_istore_n (lv' := [(3, .int (iI 0)), (0, .ref (xA X g)), (1, .int (iI a1)), (2, .int (iI a2))]) hx hb dd_G_addCopy_1 rfl hl (by decide) rfl (fun ls hl => ?_)
  obtain ⟨I2, ⟨n0, hI⟩, hstep_I2⟩ := hw
  have lp_I2 : ∀ (n2 : Nat) (x3_2 : Int) (M2 : Mm) (H : Heap) (locs : List Loc) (ls : Array Slot), I2 n2 x3_2 M2 → inR x3_2 → St X (xF X sz) s M2 H locs → lv_has ls 4 [(0, .ref (xA X g)), (1, .int (iI a1)), (2, .int (iI a2)), (3, .int (iI x3_2))] → W p l e ({ frames := 3, cells := 0, slots := 0, locals := 68 } : Room) s m ([.ref (xA X g), .int (iI a1), .int (iI a2)] : List Value).toArray below meth c H locs 0 0 (MQ below (Qv X sz post) ([.ref (xA X g), .int (iI a1), .int (iI a2)] : List Value).toArray s 0 0 (xF X sz)) (F0 m 2 ls []) := by
    intro n2
    induction n2 using Nat.strongRecOn with
    | _ n2 ih_I2 =>
      intro x3_2 M2 H locs ls hI rx3_2 hS hl
      have hw := hstep_I2 n2 x3_2 M2 hI
      have hm_M2 := hS.2.2.2
      refine lv_iload_n hx hb dd_G_addCopy_2 rfl (lv_at hl 3 rfl) ?_
      refine lv_iload_n hx hb dd_G_addCopy_3 rfl (lv_at hl 1 rfl) ?_
      refine x_icmp_ge hC rx3_2 ra1 (tgt := 27) dd_G_addCopy_4 (by decide) (fun c1 => ?_) (fun c1 => ?_)
      · have hw := hw.1 c1
        exact x_vret hC hS hlocks hr hw dd_G_addCopy_27
      · have hw := hw.2 c1
        refine lv_aload_n hx hb dd_G_addCopy_7 rfl (lv_at hl 0 rfl) ?_
        refine lv_aload_n hx hb dd_G_addCopy_8 rfl (lv_at hl 0 rfl) ?_
        refine x_get hC hS hG0.1 rfl iw_G 0 (by decide) tb_53 rfl rfl dd_G_addCopy_9 ?_
        refine lv_iload_n hx hb dd_G_addCopy_12 rfl (lv_at hl 3 rfl) ?_
        obtain ⟨q2, hw⟩ := hw
        refine x_iald hC hS hG0.2.1 q2 dd_G_addCopy_13 ?_
        refine x_nm (hm_M2 (g + 1) _) (fun z3 rz3 ez3 => ?_)
        have hw := hw z3 ez3
        refine lv_iload_n hx hb dd_G_addCopy_14 rfl (lv_at hl 2 rfl) ?_
        refine x_callSi hC hS (As := [.int (iI z3), .int (iI a2)]) (rest := [.ref (xA X g)]) cs_U_oneThenOther (mt_U_oneThenOther l X hC.2.2.1  z3 rz3 a2 ra2 M2 hm_M2 _ _ hw) tb_239 rfl rfl ⟨Nat.le_of_ble_eq_true rfl, Nat.le_of_ble_eq_true rfl⟩ rfl hl.1 (Nat.le_of_ble_eq_true rfl) dd_G_addCopy_15 ⟨Nat.le_refl _, Nat.le_refl _⟩ rfl (fun r15 Mx H locs rr15 hp hS => ?_)
        obtain ⟨hq, hw⟩ := hp
        rw [hq] at hS
        refine x_callVv hC hS (As := [.int (iI r15)]) (rest := []) hG0.1 rfl cv_G_add (mt_G_add l X hC.2.2.1 g hG0 r15 rr15 M2 hm_M2 _ _ hw) tb_37 rfl rfl ⟨Nat.le_of_ble_eq_true rfl, Nat.le_of_ble_eq_true rfl⟩ rfl hl.1 (Nat.le_of_ble_eq_true rfl) dd_G_addCopy_18 ⟨Nat.le_refl _, Nat.le_refl _⟩ rfl (fun M_4 H locs hw hS => ?_)
        have hm_M_4 := hS.2.2.2
        obtain ⟨hr_, hw⟩ := hw
        obtain ⟨v3_21, rv3_21, ev3_21⟩ : ∃ z : Int, inR z ∧ z = x3_2 + 1 := ⟨_, hr_, rfl⟩
        have hw := hw v3_21 ev3_21
        refine lv_iinc (v := iI v3_21) (lv' := [(3, .int (iI v3_21)), (0, .ref (xA X g)), (1, .int (iI a1)), (2, .int (iI a2))]) hx hb dd_G_addCopy_21 hl (k := 3) rfl (by rw [ev3_21]; exact iI_add _ _) (by decide) rfl (fun ls hl => ?_)
        refine lv_goto (tgt := 2) hx hb dd_G_addCopy_24 (by decide) ?_
        obtain ⟨k_5, h6, hI⟩ := hw
        exact ih_I2 k_5 h6 v3_21 M_4 _ _ _ hI rv3_21 hS (lv_sub hl [1, 2, 3, 0] rfl)
  exact lp_I2 n0 0 M _ _ _ hI (rk rfl) hS (lv_sub hl [1, 2, 3, 0] rfl)
def wp_G_widen (g : Nat) (a1 : Int) (M : Mm) (post : Mm → Prop) : Prop :=
  wp_G_has g a1 M (fun (r2 : Int) => (¬ r2 = 0 → post M) ∧
  (r2 = 0 → ((M g 3) < 12 → (0 ≤ (M g 3) ∧ (M g 3) < 12) ∧ ∀ M_4 : Mm, M_4 = ms M (g + 2) ((M g 3)).toNat a1 → inR ((M_4 g 3) + 1) ∧ ∀ M_6 : Mm, M_6 = ms M_4 g 3 ((M_4 g 3) + 1) → ∀ v2_45 : Int, v2_45 = (M_6 g 1) → wp_G_addCopy g v2_45 a1 M_6 (fun (M_7 : Mm) => ∃ I54 : Nat → Int → Mm → Prop, (∃ n, I54 n 1 M_7) ∧ ∀ (n54 : Nat) (x3_54 : Int) (M54 : Mm), I54 n54 x3_54 M54 →
        ((5040 ≤ x3_54 → post M54) ∧
          (¬ 5040 ≤ x3_54 → inR (x3_54 * v2_45) ∧ ((M54 g 1) ≤ (x3_54 * v2_45) → post M54) ∧
            (¬ (M54 g 1) ≤ (x3_54 * v2_45) → ∃ I74 : Nat → Int → Mm → Prop, (∃ n, I74 n 0 M54) ∧ ∀ (n74 : Nat) (x4_74 : Int) (M74 : Mm), I74 n74 x4_74 M74 →
                (((M74 g 3) ≤ x4_74 → inR (x3_54 + 1) ∧ ∀ v3_125 : Int, v3_125 = x3_54 + 1 → ∃ k_12, k_12 < n54 ∧ I54 k_12 v3_125 M74) ∧
                  (¬ (M74 g 3) ≤ x4_74 → inR (x3_54 * v2_45) ∧ (0 ≤ (x3_54 * v2_45) ∧ (x3_54 * v2_45) < 5040) ∧ ∀ z16 : Int, z16 = M74 (g + 1) ((x3_54 * v2_45)).toNat → (0 ≤ x4_74 ∧ x4_74 < 12) ∧ ∀ z18 : Int, z18 = M74 (g + 2) (x4_74).toNat → wp_U_oneThenOther z16 z18 (fun (r98 : Int) => wp_G_has g r98 M74 (fun (r106 : Int) => ∀ K119 : Mm → Prop, (∀ (M119 : Mm), (inR (x4_74 + 1) ∧ ∀ v4_119 : Int, v4_119 = x4_74 + 1 → ∃ k_19, k_19 < n74 ∧ I74 k_19 v4_119 M119) →
                      K119 M119) →
                    ((¬ r106 = 0 → K119 M74) ∧
                    (r106 = 0 → wp_G_addCopy g v2_45 r98 M74 (fun (M_22 : Mm) => K119 M_22)))))))))))) ∧
    (¬ (M g 3) < 12 → post M)))
set_option maxHeartbeats 4000000 in
set_option maxRecDepth 100000 in
theorem mt_G_widen (l : Launch) (X : Xw) (hlc : lcl X) (g : Nat) (hG0 : IsG X g) (a1 : Int) (ra1 : inR a1) (M : Mm) (hm_M : mr M) (post : Mm → Prop) (sz : Nat) (hw : wp_G_widen g a1 M post) : Met l yy_G_widen (Cond.code yy_G_widen bc_G_widen 6 none :: tg) ({ frames := 4, cells := 0, slots := 0, locals := 91 } : Room) (Pw X [.ref (xA X g), .int (iI a1)] M sz) (Qv X sz post) 0 0 (xF X sz) := by
  unfold wp_G_widen at hw
  refine x_enter (by decide) hlc hm_M (Nat.le_of_ble_eq_true rfl) ?_
  intro p e s m below meth c ls hC hsz hr hlocks hS hl
  have hx := hC.1.1
  have hb := hC.1.2.1
  have hl : lv_has ls 6 [(0, .ref (xA X g)), (1, .int (iI a1))] := hl
  refine lv_aload_n hx hb dd_G_widen_0 rfl (lv_at hl 0 rfl) ?_
  refine lv_iload_n hx hb dd_G_widen_1 rfl (lv_at hl 1 rfl) ?_
  refine x_callVi hC hS (As := [.int (iI a1)]) (rest := []) hG0.1 rfl cv_G_has (mt_G_has l X hC.2.2.1 g hG0 a1 ra1 M hm_M _ _ hw) tb_231 rfl rfl ⟨Nat.le_of_ble_eq_true rfl, Nat.le_of_ble_eq_true rfl⟩ rfl hl.1 (Nat.le_of_ble_eq_true rfl) dd_G_widen_2 ⟨Nat.le_refl _, Nat.le_refl _⟩ rfl (fun r2 Mx H locs rr2 hp hS => ?_)
  obtain ⟨hq, hw⟩ := hp
  rw [hq] at hS
  refine x_if_ne hC rr2 (tgt := 20) dd_G_widen_5 (by decide) (fun c1 => ?_) (fun c1 => ?_)
  · have hw := hw.1 c1
    exact x_vret hC hS hlocks hr hw dd_G_widen_20
  · have hw := hw.2 c1
    refine lv_aload_n hx hb dd_G_widen_8 rfl (lv_at hl 0 rfl) ?_
    refine x_get hC hS hG0.1 rfl iw_G 3 (by decide) tb_62 rfl rfl dd_G_widen_9 ?_
    refine lv_aload_n hx hb dd_G_widen_12 rfl (lv_at hl 0 rfl) ?_
    refine x_get hC hS hG0.1 rfl iw_G 2 (by decide) tb_60 rfl rfl dd_G_widen_13 ?_
    refine x_alen hC hS (z := 12) hG0.2.2.1 rfl dd_G_widen_16 ?_
    refine x_icmp_lt hC (hm_M g 3) (rk rfl) (tgt := 21) dd_G_widen_17 (by decide) (fun c2 => ?_) (fun c2 => ?_)
    · have hw := hw.1 c2
      refine lv_aload_n hx hb dd_G_widen_21 rfl (lv_at hl 0 rfl) ?_
      refine x_get hC hS hG0.1 rfl iw_G 2 (by decide) tb_60 rfl rfl dd_G_widen_22 ?_
      refine lv_aload_n hx hb dd_G_widen_25 rfl (lv_at hl 0 rfl) ?_
      refine x_get hC hS hG0.1 rfl iw_G 3 (by decide) tb_62 rfl rfl dd_G_widen_26 ?_
      refine lv_iload_n hx hb dd_G_widen_29 rfl (lv_at hl 1 rfl) ?_
      obtain ⟨q3, hw⟩ := hw
      refine x_iast hC hS hG0.2.2.1 q3 ra1 dd_G_widen_30 (fun H locs hS => ?_)
      obtain ⟨M_4, eM_4⟩ : ∃ Z : Mm, Z = ms M (g + 2) ((M g 3)).toNat a1 := ⟨_, rfl⟩
      rw [← eM_4] at hS
      have hw := hw M_4 eM_4
      have hm_M_4 := hS.2.2.2
      refine lv_aload_n hx hb dd_G_widen_31 rfl (lv_at hl 0 rfl) ?_
      refine lv_dup hx hb dd_G_widen_32 rfl ?_
      refine x_get hC hS hG0.1 rfl iw_G 3 (by decide) tb_62 rfl rfl dd_G_widen_33 ?_
      refine x_iconst hC dd_G_widen_36 ?_
      obtain ⟨q5, hw⟩ := hw
      refine x_add hC dd_G_widen_37 ?_
      refine x_put hC hS hG0.1 rfl iw_G fy_G fk_G fn_G 3 (by decide) tb_62 rfl q5 rfl rfl (ps_G_3 _ _ _ _) (Nat.le_of_ble_eq_true rfl) dd_G_widen_38 (fun H locs hS => ?_)
      obtain ⟨M_6, eM_6⟩ : ∃ Z : Mm, Z = ms M_4 g 3 ((M_4 g 3) + 1) := ⟨_, rfl⟩
      rw [← eM_6] at hS
      have hw := hw M_6 eM_6
      have hm_M_6 := hS.2.2.2
      refine lv_aload_n hx hb dd_G_widen_41 rfl (lv_at hl 0 rfl) ?_
      refine x_get hC hS hG0.1 rfl iw_G 1 (by decide) tb_57 rfl rfl dd_G_widen_42 ?_
      refine x_nm (hm_M_6 g 1) (fun v2_45 rv2_45 ev2_45 => ?_)
      have hw := hw v2_45 ev2_45
      refine lv_istore_n (lv' := [(2, .int (iI v2_45)), (0, .ref (xA X g)), (1, .int (iI a1))]) hx hb dd_G_widen_45 rfl hl (by decide) rfl (fun ls hl => ?_)
      refine lv_aload_n hx hb dd_G_widen_46 rfl (lv_at hl 1 rfl) ?_
      refine lv_iload_n hx hb dd_G_widen_47 rfl (lv_at hl 0 rfl) ?_
      refine lv_iload_n hx hb dd_G_widen_48 rfl (lv_at hl 2 rfl) ?_
      refine x_callVv hC hS (As := [.int (iI v2_45), .int (iI a1)]) (rest := []) hG0.1 rfl cv_G_addCopy (mt_G_addCopy l X hC.2.2.1 g hG0 v2_45 rv2_45 a1 ra1 M_6 hm_M_6 _ _ hw) tb_235 rfl rfl ⟨Nat.le_of_ble_eq_true rfl, Nat.le_of_ble_eq_true rfl⟩ rfl hl.1 (Nat.le_of_ble_eq_true rfl) dd_G_widen_49 ⟨Nat.le_refl _, Nat.le_refl _⟩ rfl (fun M_7 H locs hw hS => ?_)
      have hm_M_7 := hS.2.2.2
      refine x_iconst hC dd_G_widen_52 ?_
      refine lv_istore_n (lv' := [(3, .int (iI 1)), (2, .int (iI v2_45)), (0, .ref (xA X g)), (1, .int (iI a1))]) hx hb dd_G_widen_53 rfl hl (by decide) rfl (fun ls hl => ?_)
      obtain ⟨I54, ⟨n0, hI⟩, hstep_I54⟩ := hw
      have lp_I54 : ∀ (n54 : Nat) (x3_54 : Int) (M54 : Mm) (H : Heap) (locs : List Loc) (ls : Array Slot), I54 n54 x3_54 M54 → inR x3_54 → St X (xF X sz) s M54 H locs → lv_has ls 6 [(0, .ref (xA X g)), (2, .int (iI v2_45)), (3, .int (iI x3_54))] → W p l e ({ frames := 4, cells := 0, slots := 0, locals := 91 } : Room) s m ([.ref (xA X g), .int (iI a1)] : List Value).toArray below meth c H locs 0 0 (MQ below (Qv X sz post) ([.ref (xA X g), .int (iI a1)] : List Value).toArray s 0 0 (xF X sz)) (F0 m 54 ls []) := by
        intro n54
        induction n54 using Nat.strongRecOn with
        | _ n54 ih_I54 =>
          intro x3_54 M54 H locs ls hI rx3_54 hS hl
          have hw := hstep_I54 n54 x3_54 M54 hI
          have hm_M54 := hS.2.2.2
          refine lv_iload_n hx hb dd_G_widen_54 rfl (lv_at hl 2 rfl) ?_
          refine x_sipush hC dd_G_widen_55 (by decide) ?_
          refine x_icmp_ge hC rx3_54 (rk rfl) (tgt := 131) dd_G_widen_58 (by decide) (fun c8 => ?_) (fun c8 => ?_)
          · have hw := hw.1 c8
            exact x_vret hC hS hlocks hr hw dd_G_widen_131
          · have hw := hw.2 c8
            refine lv_iload_n hx hb dd_G_widen_61 rfl (lv_at hl 2 rfl) ?_
            refine lv_iload_n hx hb dd_G_widen_62 rfl (lv_at hl 1 rfl) ?_
            obtain ⟨q9, hw⟩ := hw
            refine x_mul hC dd_G_widen_63 ?_
            refine lv_aload_n hx hb dd_G_widen_64 rfl (lv_at hl 0 rfl) ?_
            refine x_get hC hS hG0.1 rfl iw_G 1 (by decide) tb_57 rfl rfl dd_G_widen_65 ?_
            refine x_icmp_ge hC q9 (hm_M54 g 1) (tgt := 131) dd_G_widen_68 (by decide) (fun c10 => ?_) (fun c10 => ?_)
            · have hw := hw.1 c10
              exact x_vret hC hS hlocks hr hw dd_G_widen_131
            · have hw := hw.2 c10
              refine x_iconst hC dd_G_widen_71 ?_
              refine lv_istore (lv' := [(4, .int (iI 0)), (0, .ref (xA X g)), (2, .int (iI v2_45)), (3, .int (iI x3_54))]) hx hb dd_G_widen_72 hl (by decide) rfl (fun ls hl => ?_)
              obtain ⟨I74, ⟨n0, hI⟩, hstep_I74⟩ := hw
              have lp_I74 : ∀ (n74 : Nat) (x4_74 : Int) (M74 : Mm) (H : Heap) (locs : List Loc) (ls : Array Slot), I74 n74 x4_74 M74 → inR x4_74 → St X (xF X sz) s M74 H locs → lv_has ls 6 [(0, .ref (xA X g)), (2, .int (iI v2_45)), (3, .int (iI x3_54)), (4, .int (iI x4_74))] → W p l e ({ frames := 4, cells := 0, slots := 0, locals := 91 } : Room) s m ([.ref (xA X g), .int (iI a1)] : List Value).toArray below meth c H locs 0 0 (MQ below (Qv X sz post) ([.ref (xA X g), .int (iI a1)] : List Value).toArray s 0 0 (xF X sz)) (F0 m 74 ls []) := by
                intro n74
                induction n74 using Nat.strongRecOn with
                | _ n74 ih_I74 =>
                  intro x4_74 M74 H locs ls hI rx4_74 hS hl
                  have hw := hstep_I74 n74 x4_74 M74 hI
                  have hm_M74 := hS.2.2.2
                  refine lv_iload hx hb dd_G_widen_74 (lv_at hl 3 rfl) ?_
                  refine lv_aload_n hx hb dd_G_widen_76 rfl (lv_at hl 0 rfl) ?_
                  refine x_get hC hS hG0.1 rfl iw_G 3 (by decide) tb_62 rfl rfl dd_G_widen_77 ?_
                  refine x_icmp_ge hC rx4_74 (hm_M74 g 3) (tgt := 125) dd_G_widen_80 (by decide) (fun c11 => ?_) (fun c11 => ?_)
                  · have hw := hw.1 c11
                    obtain ⟨hr_, hw⟩ := hw
                    obtain ⟨v3_125, rv3_125, ev3_125⟩ : ∃ z : Int, inR z ∧ z = x3_54 + 1 := ⟨_, hr_, rfl⟩
                    have hw := hw v3_125 ev3_125
                    refine lv_iinc (v := iI v3_125) (lv' := [(3, .int (iI v3_125)), (0, .ref (xA X g)), (2, .int (iI v2_45)), (4, .int (iI x4_74))]) hx hb dd_G_widen_125 hl (k := 2) rfl (by rw [ev3_125]; exact iI_add _ _) (by decide) rfl (fun ls hl => ?_)
                    refine lv_goto (tgt := 54) hx hb dd_G_widen_128 (by decide) ?_
                    obtain ⟨k_12, h13, hI⟩ := hw
                    exact ih_I54 k_12 h13 v3_125 M74 _ _ _ hI rv3_125 hS (lv_sub hl [1, 2, 0] rfl)
                  · have hw := hw.2 c11
                    refine lv_aload_n hx hb dd_G_widen_83 rfl (lv_at hl 0 rfl) ?_
                    refine x_get hC hS hG0.1 rfl iw_G 0 (by decide) tb_53 rfl rfl dd_G_widen_84 ?_
                    refine lv_iload_n hx hb dd_G_widen_87 rfl (lv_at hl 2 rfl) ?_
                    refine lv_iload_n hx hb dd_G_widen_88 rfl (lv_at hl 1 rfl) ?_
                    obtain ⟨q14, hw⟩ := hw
                    refine x_mul hC dd_G_widen_89 ?_
                    obtain ⟨q15, hw⟩ := hw
                    refine x_iald hC hS hG0.2.1 q15 dd_G_widen_90 ?_
                    refine x_nm (hm_M74 (g + 1) _) (fun z16 rz16 ez16 => ?_)
                    have hw := hw z16 ez16
                    refine lv_aload_n hx hb dd_G_widen_91 rfl (lv_at hl 0 rfl) ?_
                    refine x_get hC hS hG0.1 rfl iw_G 2 (by decide) tb_60 rfl rfl dd_G_widen_92 ?_
                    refine lv_iload hx hb dd_G_widen_95 (lv_at hl 3 rfl) ?_
                    obtain ⟨q17, hw⟩ := hw
                    refine x_iald hC hS hG0.2.2.1 q17 dd_G_widen_97 ?_
                    refine x_nm (hm_M74 (g + 2) _) (fun z18 rz18 ez18 => ?_)
                    have hw := hw z18 ez18
                    refine x_callSi hC hS (As := [.int (iI z16), .int (iI z18)]) (rest := []) cs_U_oneThenOther (mt_U_oneThenOther l X hC.2.2.1  z16 rz16 z18 rz18 M74 hm_M74 _ _ hw) tb_239 rfl rfl ⟨Nat.le_of_ble_eq_true rfl, Nat.le_of_ble_eq_true rfl⟩ rfl hl.1 (Nat.le_of_ble_eq_true rfl) dd_G_widen_98 ⟨Nat.le_refl _, Nat.le_refl _⟩ rfl (fun r98 Mx H locs rr98 hp hS => ?_)
                    obtain ⟨hq, hw⟩ := hp
                    rw [hq] at hS
                    refine lv_istore (lv' := [(5, .int (iI r98)), (0, .ref (xA X g)), (2, .int (iI v2_45)), (3, .int (iI x3_54)), (4, .int (iI x4_74))]) hx hb dd_G_widen_101 hl (by decide) rfl (fun ls hl => ?_)
                    refine lv_aload_n hx hb dd_G_widen_103 rfl (lv_at hl 1 rfl) ?_
                    refine lv_iload hx hb dd_G_widen_104 (lv_at hl 0 rfl) ?_
                    refine x_callVi hC hS (As := [.int (iI r98)]) (rest := []) hG0.1 rfl cv_G_has (mt_G_has l X hC.2.2.1 g hG0 r98 rr98 M74 hm_M74 _ _ hw) tb_231 rfl rfl ⟨Nat.le_of_ble_eq_true rfl, Nat.le_of_ble_eq_true rfl⟩ rfl hl.1 (Nat.le_of_ble_eq_true rfl) dd_G_widen_106 ⟨Nat.le_refl _, Nat.le_refl _⟩ rfl (fun r106 Mx H locs rr106 hp hS => ?_)
                    obtain ⟨hq, hw⟩ := hp
                    rw [hq] at hS
                    have hw := hw (fun (M119 : Mm) => ∀ (H : Heap) (locs : List Loc) (ls : Array Slot), St X (xF X sz) s M119 H locs → lv_has ls 6 [(0, .ref (xA X g)), (2, .int (iI v2_45)), (3, .int (iI x3_54)), (4, .int (iI x4_74))] → W p l e ({ frames := 4, cells := 0, slots := 0, locals := 91 } : Room) s m ([.ref (xA X g), .int (iI a1)] : List Value).toArray below meth c H locs 0 0 (MQ below (Qv X sz post) ([.ref (xA X g), .int (iI a1)] : List Value).toArray s 0 0 (xF X sz)) (F0 m 119 ls [])) (by
                        intro M119 hw H locs ls  hS hl
                        have hm_M119 := hS.2.2.2
                        obtain ⟨hr_, hw⟩ := hw
                        obtain ⟨v4_119, rv4_119, ev4_119⟩ : ∃ z : Int, inR z ∧ z = x4_74 + 1 := ⟨_, hr_, rfl⟩
                        have hw := hw v4_119 ev4_119
                        refine lv_iinc (v := iI v4_119) (lv' := [(4, .int (iI v4_119)), (0, .ref (xA X g)), (2, .int (iI v2_45)), (3, .int (iI x3_54))]) hx hb dd_G_widen_119 hl (k := 3) rfl (by rw [ev4_119]; exact iI_add _ _) (by decide) rfl (fun ls hl => ?_)
                        refine lv_goto (tgt := 74) hx hb dd_G_widen_122 (by decide) ?_
                        obtain ⟨k_19, h20, hI⟩ := hw
                        exact ih_I74 k_19 h20 v4_119 M119 _ _ _ hI rv4_119 hS (lv_sub hl [1, 2, 3, 0] rfl))
                    refine x_if_ne hC rr106 (tgt := 119) dd_G_widen_109 (by decide) (fun c21 => ?_) (fun c21 => ?_)
                    · have hw := hw.1 c21
                      exact hw _ _ _  hS (lv_sub hl [1, 2, 3, 4] rfl)
                    · have hw := hw.2 c21
                      refine lv_aload_n hx hb dd_G_widen_112 rfl (lv_at hl 1 rfl) ?_
                      refine lv_iload_n hx hb dd_G_widen_113 rfl (lv_at hl 2 rfl) ?_
                      refine lv_iload hx hb dd_G_widen_114 (lv_at hl 0 rfl) ?_
                      refine x_callVv hC hS (As := [.int (iI v2_45), .int (iI r98)]) (rest := []) hG0.1 rfl cv_G_addCopy (mt_G_addCopy l X hC.2.2.1 g hG0 v2_45 rv2_45 r98 rr98 M74 hm_M74 _ _ hw) tb_235 rfl rfl ⟨Nat.le_of_ble_eq_true rfl, Nat.le_of_ble_eq_true rfl⟩ rfl hl.1 (Nat.le_of_ble_eq_true rfl) dd_G_widen_116 ⟨Nat.le_refl _, Nat.le_refl _⟩ rfl (fun M_22 H locs hw hS => ?_)
                      have hm_M_22 := hS.2.2.2
                      exact hw _ _ _  hS (lv_sub hl [1, 2, 3, 4] rfl)
              exact lp_I74 n0 0 M54 _ _ _ hI (rk rfl) hS (lv_sub hl [1, 2, 3, 0] rfl)
      exact lp_I54 n0 1 M_7 _ _ _ hI (rk rfl) hS (lv_sub hl [2, 1, 0] rfl)
    · have hw := hw.2 c2
      exact x_vret hC hS hlocks hr hw dd_G_widen_20
def wp_G_widenByKind (g : Nat) (a1 : Int) (a2 : Int) (a3 : Int) (a4 : Int) (M : Mm) (post : Mm → Prop) : Prop :=
  ∀ K26 : Mm → Prop, (∀ (M26 : Mm), (∀ K42 : Mm → Prop, (∀ (M42 : Mm), (∀ K63 : Mm → Prop, (∀ (M63 : Mm), ((¬ a1 = 3 → post M63) ∧
              (a1 = 3 → (a3 < 3 → post M63) ∧
                (¬ a3 < 3 → (0 ≤ a3 ∧ 0 < (2 : Int)) ∧ ∀ K84 : Int → Prop, (∀ (s0_84 : Int), (inR (s0_84 * a4) ∧ inR (a2 + (s0_84 * a4)) ∧ inR (a3 - s0_84) ∧ wp_U_roundTurn (a2 + (s0_84 * a4)) (a3 - s0_84) a4 (fun (r100 : Int) => wp_G_widen g r100 M63 (fun (M_7 : Mm) => wp_U_roundTurn a2 3 a4 (fun (r111 : Int) => wp_G_widen g r111 M_7 (fun (M_8 : Mm) => post M_8))))) →
                    K84 s0_84) →
                  ((¬ (a3 % 2) = 0 → K84 0) ∧
                  ((a3 % 2) = 0 → K84 1))))) →
            K63 M63) →
          ((¬ a1 = 4 → K63 M42) ∧
          (a1 = 4 → (a3 < 2 → K63 M42) ∧
            (¬ a3 < 2 → wp_U_roundTurn a2 2 a4 (fun (r57 : Int) => wp_G_widen g r57 M42 (fun (M_12 : Mm) => K63 M_12)))))) →
        K42 M42) →
      ((¬ a1 = 2 → K42 M26) ∧
      (a1 = 2 → wp_U_flipTurn a2 a3 a4 (fun (r36 : Int) => wp_G_widen g r36 M26 (fun (M_14 : Mm) => K42 M_14))))) →
    K26 M26) →
  (∀ K15 : Prop, ((wp_U_roundTurn a2 a3 a4 (fun (r20 : Int) => wp_G_widen g r20 M (fun (M_15 : Mm) => K26 M_15))) →
    K15) →
  ((a1 = 1 → K15) ∧
  (¬ a1 = 1 → (a1 = 2 → K15) ∧
    (¬ a1 = 2 → (¬ a1 = 4 → K26 M) ∧
      (a1 = 4 → K15)))))
set_option maxHeartbeats 4000000 in
set_option maxRecDepth 100000 in
theorem mt_G_widenByKind (l : Launch) (X : Xw) (hlc : lcl X) (g : Nat) (hG0 : IsG X g) (a1 : Int) (ra1 : inR a1) (a2 : Int) (ra2 : inR a2) (a3 : Int) (ra3 : inR a3) (a4 : Int) (ra4 : inR a4) (M : Mm) (hm_M : mr M) (post : Mm → Prop) (sz : Nat) (hw : wp_G_widenByKind g a1 a2 a3 a4 M post) : Met l yy_G_widenByKind (Cond.code yy_G_widenByKind bc_G_widenByKind 6 none :: tg) ({ frames := 5, cells := 0, slots := 0, locals := 116 } : Room) (Pw X [.ref (xA X g), .int (iI a1), .int (iI a2), .int (iI a3), .int (iI a4)] M sz) (Qv X sz post) 0 0 (xF X sz) := by
  unfold wp_G_widenByKind at hw
  refine x_enter (by decide) hlc hm_M (Nat.le_of_ble_eq_true rfl) ?_
  intro p e s m below meth c ls hC hsz hr hlocks hS hl
  have hx := hC.1.1
  have hb := hC.1.2.1
  have hl : lv_has ls 6 [(0, .ref (xA X g)), (1, .int (iI a1)), (2, .int (iI a2)), (3, .int (iI a3)), (4, .int (iI a4))] := hl
  refine lv_iload_n hx hb dd_G_widenByKind_0 rfl (lv_at hl 1 rfl) ?_
  refine x_iconst hC dd_G_widenByKind_1 ?_
  have hw := hw (fun (M26 : Mm) => ∀ (H : Heap) (locs : List Loc) (ls : Array Slot), St X (xF X sz) s M26 H locs → lv_has ls 6 [(0, .ref (xA X g)), (1, .int (iI a1)), (2, .int (iI a2)), (3, .int (iI a3)), (4, .int (iI a4))] → W p l e ({ frames := 5, cells := 0, slots := 0, locals := 116 } : Room) s m ([.ref (xA X g), .int (iI a1), .int (iI a2), .int (iI a3), .int (iI a4)] : List Value).toArray below meth c H locs 0 0 (MQ below (Qv X sz post) ([.ref (xA X g), .int (iI a1), .int (iI a2), .int (iI a3), .int (iI a4)] : List Value).toArray s 0 0 (xF X sz)) (F0 m 26 ls [])) (by
      intro M26 hw H locs ls  hS hl
      have hm_M26 := hS.2.2.2
      refine lv_iload_n hx hb dd_G_widenByKind_26 rfl (lv_at hl 1 rfl) ?_
      refine x_iconst hC dd_G_widenByKind_27 ?_
      have hw := hw (fun (M42 : Mm) => ∀ (H : Heap) (locs : List Loc) (ls : Array Slot), St X (xF X sz) s M42 H locs → lv_has ls 6 [(0, .ref (xA X g)), (1, .int (iI a1)), (2, .int (iI a2)), (3, .int (iI a3)), (4, .int (iI a4))] → W p l e ({ frames := 5, cells := 0, slots := 0, locals := 116 } : Room) s m ([.ref (xA X g), .int (iI a1), .int (iI a2), .int (iI a3), .int (iI a4)] : List Value).toArray below meth c H locs 0 0 (MQ below (Qv X sz post) ([.ref (xA X g), .int (iI a1), .int (iI a2), .int (iI a3), .int (iI a4)] : List Value).toArray s 0 0 (xF X sz)) (F0 m 42 ls [])) (by
          intro M42 hw H locs ls  hS hl
          have hm_M42 := hS.2.2.2
          refine lv_iload_n hx hb dd_G_widenByKind_42 rfl (lv_at hl 1 rfl) ?_
          refine x_iconst hC dd_G_widenByKind_43 ?_
          have hw := hw (fun (M63 : Mm) => ∀ (H : Heap) (locs : List Loc) (ls : Array Slot), St X (xF X sz) s M63 H locs → lv_has ls 6 [(0, .ref (xA X g)), (1, .int (iI a1)), (2, .int (iI a2)), (3, .int (iI a3)), (4, .int (iI a4))] → W p l e ({ frames := 5, cells := 0, slots := 0, locals := 116 } : Room) s m ([.ref (xA X g), .int (iI a1), .int (iI a2), .int (iI a3), .int (iI a4)] : List Value).toArray below meth c H locs 0 0 (MQ below (Qv X sz post) ([.ref (xA X g), .int (iI a1), .int (iI a2), .int (iI a3), .int (iI a4)] : List Value).toArray s 0 0 (xF X sz)) (F0 m 63 ls [])) (by
              intro M63 hw H locs ls  hS hl
              have hm_M63 := hS.2.2.2
              refine lv_iload_n hx hb dd_G_widenByKind_63 rfl (lv_at hl 1 rfl) ?_
              refine x_iconst hC dd_G_widenByKind_64 ?_
              refine x_icmp_ne hC ra1 (rk rfl) (tgt := 117) dd_G_widenByKind_65 (by decide) (fun c1 => ?_) (fun c1 => ?_)
              · have hw := hw.1 c1
                exact x_vret hC hS hlocks hr hw dd_G_widenByKind_117
              · have hw := hw.2 c1
                refine lv_iload_n hx hb dd_G_widenByKind_68 rfl (lv_at hl 3 rfl) ?_
                refine x_iconst hC dd_G_widenByKind_69 ?_
                refine x_icmp_lt hC ra3 (rk rfl) (tgt := 117) dd_G_widenByKind_70 (by decide) (fun c2 => ?_) (fun c2 => ?_)
                · have hw := hw.1 c2
                  exact x_vret hC hS hlocks hr hw dd_G_widenByKind_117
                · have hw := hw.2 c2
                  refine lv_iload_n hx hb dd_G_widenByKind_73 rfl (lv_at hl 3 rfl) ?_
                  refine x_iconst hC dd_G_widenByKind_74 ?_
                  obtain ⟨q3, hw⟩ := hw
                  refine x_rem hC ra3 (rk rfl) q3 dd_G_widenByKind_75 ?_
                  have hw := hw (fun (s0_84 : Int) => ∀ (H : Heap) (locs : List Loc) (ls : Array Slot), inR s0_84 → St X (xF X sz) s M63 H locs → lv_has ls 6 [(0, .ref (xA X g)), (2, .int (iI a2)), (3, .int (iI a3)), (4, .int (iI a4))] → W p l e ({ frames := 5, cells := 0, slots := 0, locals := 116 } : Room) s m ([.ref (xA X g), .int (iI a1), .int (iI a2), .int (iI a3), .int (iI a4)] : List Value).toArray below meth c H locs 0 0 (MQ below (Qv X sz post) ([.ref (xA X g), .int (iI a1), .int (iI a2), .int (iI a3), .int (iI a4)] : List Value).toArray s 0 0 (xF X sz)) (F0 m 84 ls [.int (iI s0_84)])) (by
                      intro s0_84 hw H locs ls rs0_84 hS hl
                      refine lv_istore (lv' := [(5, .int (iI s0_84)), (0, .ref (xA X g)), (2, .int (iI a2)), (3, .int (iI a3)), (4, .int (iI a4))]) hx hb dd_G_widenByKind_84 hl (by decide) rfl (fun ls hl => ?_)
                      refine lv_aload_n hx hb dd_G_widenByKind_86 rfl (lv_at hl 1 rfl) ?_
                      refine lv_iload_n hx hb dd_G_widenByKind_87 rfl (lv_at hl 2 rfl) ?_
                      refine lv_iload hx hb dd_G_widenByKind_88 (lv_at hl 0 rfl) ?_
                      refine lv_iload hx hb dd_G_widenByKind_90 (lv_at hl 4 rfl) ?_
                      obtain ⟨q4, hw⟩ := hw
                      refine x_mul hC dd_G_widenByKind_92 ?_
                      obtain ⟨q5, hw⟩ := hw
                      refine x_add hC dd_G_widenByKind_93 ?_
                      refine lv_iload_n hx hb dd_G_widenByKind_94 rfl (lv_at hl 3 rfl) ?_
                      refine lv_iload hx hb dd_G_widenByKind_95 (lv_at hl 0 rfl) ?_
                      obtain ⟨q6, hw⟩ := hw
                      refine x_sub hC dd_G_widenByKind_97 ?_
                      refine lv_iload hx hb dd_G_widenByKind_98 (lv_at hl 4 rfl) ?_
                      refine x_callSi hC hS (As := [.int (iI (a2 + (s0_84 * a4))), .int (iI (a3 - s0_84)), .int (iI a4)]) (rest := [.ref (xA X g)]) cs_U_roundTurn (mt_U_roundTurn l X hC.2.2.1  (a2 + (s0_84 * a4)) q5 (a3 - s0_84) q6 a4 ra4 M63 hm_M63 _ _ hw) tb_217 rfl rfl ⟨Nat.le_of_ble_eq_true rfl, Nat.le_of_ble_eq_true rfl⟩ rfl hl.1 (Nat.le_of_ble_eq_true rfl) dd_G_widenByKind_100 ⟨Nat.le_refl _, Nat.le_refl _⟩ rfl (fun r100 Mx H locs rr100 hp hS => ?_)
                      obtain ⟨hq, hw⟩ := hp
                      rw [hq] at hS
                      refine x_callVv hC hS (As := [.int (iI r100)]) (rest := []) hG0.1 rfl cv_G_widen (mt_G_widen l X hC.2.2.1 g hG0 r100 rr100 M63 hm_M63 _ _ hw) tb_227 rfl rfl ⟨Nat.le_of_ble_eq_true rfl, Nat.le_of_ble_eq_true rfl⟩ rfl hl.1 (Nat.le_of_ble_eq_true rfl) dd_G_widenByKind_103 ⟨Nat.le_refl _, Nat.le_refl _⟩ rfl (fun M_7 H locs hw hS => ?_)
                      have hm_M_7 := hS.2.2.2
                      refine lv_aload_n hx hb dd_G_widenByKind_106 rfl (lv_at hl 1 rfl) ?_
                      refine lv_iload_n hx hb dd_G_widenByKind_107 rfl (lv_at hl 2 rfl) ?_
                      refine x_iconst hC dd_G_widenByKind_108 ?_
                      refine lv_iload hx hb dd_G_widenByKind_109 (lv_at hl 4 rfl) ?_
                      refine x_callSi hC hS (As := [.int (iI a2), .int (iI 3), .int (iI a4)]) (rest := [.ref (xA X g)]) cs_U_roundTurn (mt_U_roundTurn l X hC.2.2.1  a2 ra2 3 (rk rfl) a4 ra4 M_7 hm_M_7 _ _ hw) tb_217 rfl rfl ⟨Nat.le_of_ble_eq_true rfl, Nat.le_of_ble_eq_true rfl⟩ rfl hl.1 (Nat.le_of_ble_eq_true rfl) dd_G_widenByKind_111 ⟨Nat.le_refl _, Nat.le_refl _⟩ rfl (fun r111 Mx H locs rr111 hp hS => ?_)
                      obtain ⟨hq, hw⟩ := hp
                      rw [hq] at hS
                      refine x_callVv hC hS (As := [.int (iI r111)]) (rest := []) hG0.1 rfl cv_G_widen (mt_G_widen l X hC.2.2.1 g hG0 r111 rr111 M_7 hm_M_7 _ _ hw) tb_227 rfl rfl ⟨Nat.le_of_ble_eq_true rfl, Nat.le_of_ble_eq_true rfl⟩ rfl hl.1 (Nat.le_of_ble_eq_true rfl) dd_G_widenByKind_114 ⟨Nat.le_refl _, Nat.le_refl _⟩ rfl (fun M_8 H locs hw hS => ?_)
                      have hm_M_8 := hS.2.2.2
                      exact x_vret hC hS hlocks hr hw dd_G_widenByKind_117)
                  refine x_if_ne hC (rMod (rk rfl) q3.2) (tgt := 83) dd_G_widenByKind_76 (by decide) (fun c9 => ?_) (fun c9 => ?_)
                  · have hw := hw.1 c9
                    refine x_iconst hC dd_G_widenByKind_83 ?_
                    exact hw _ _ _ (rk rfl) hS (lv_sub hl [0, 2, 3, 4] rfl)
                  · have hw := hw.2 c9
                    refine x_iconst hC dd_G_widenByKind_79 ?_
                    refine lv_goto (tgt := 84) hx hb dd_G_widenByKind_80 (by decide) ?_
                    exact hw _ _ _ (rk rfl) hS (lv_sub hl [0, 2, 3, 4] rfl))
          refine x_icmp_ne hC ra1 (rk rfl) (tgt := 63) dd_G_widenByKind_44 (by decide) (fun c10 => ?_) (fun c10 => ?_)
          · have hw := hw.1 c10
            exact hw _ _ _  hS (lv_sub hl [0, 1, 2, 3, 4] rfl)
          · have hw := hw.2 c10
            refine lv_iload_n hx hb dd_G_widenByKind_47 rfl (lv_at hl 3 rfl) ?_
            refine x_iconst hC dd_G_widenByKind_48 ?_
            refine x_icmp_lt hC ra3 (rk rfl) (tgt := 63) dd_G_widenByKind_49 (by decide) (fun c11 => ?_) (fun c11 => ?_)
            · have hw := hw.1 c11
              exact hw _ _ _  hS (lv_sub hl [0, 1, 2, 3, 4] rfl)
            · have hw := hw.2 c11
              refine lv_aload_n hx hb dd_G_widenByKind_52 rfl (lv_at hl 0 rfl) ?_
              refine lv_iload_n hx hb dd_G_widenByKind_53 rfl (lv_at hl 2 rfl) ?_
              refine x_iconst hC dd_G_widenByKind_54 ?_
              refine lv_iload hx hb dd_G_widenByKind_55 (lv_at hl 4 rfl) ?_
              refine x_callSi hC hS (As := [.int (iI a2), .int (iI 2), .int (iI a4)]) (rest := [.ref (xA X g)]) cs_U_roundTurn (mt_U_roundTurn l X hC.2.2.1  a2 ra2 2 (rk rfl) a4 ra4 M42 hm_M42 _ _ hw) tb_217 rfl rfl ⟨Nat.le_of_ble_eq_true rfl, Nat.le_of_ble_eq_true rfl⟩ rfl hl.1 (Nat.le_of_ble_eq_true rfl) dd_G_widenByKind_57 ⟨Nat.le_refl _, Nat.le_refl _⟩ rfl (fun r57 Mx H locs rr57 hp hS => ?_)
              obtain ⟨hq, hw⟩ := hp
              rw [hq] at hS
              refine x_callVv hC hS (As := [.int (iI r57)]) (rest := []) hG0.1 rfl cv_G_widen (mt_G_widen l X hC.2.2.1 g hG0 r57 rr57 M42 hm_M42 _ _ hw) tb_227 rfl rfl ⟨Nat.le_of_ble_eq_true rfl, Nat.le_of_ble_eq_true rfl⟩ rfl hl.1 (Nat.le_of_ble_eq_true rfl) dd_G_widenByKind_60 ⟨Nat.le_refl _, Nat.le_refl _⟩ rfl (fun M_12 H locs hw hS => ?_)
              have hm_M_12 := hS.2.2.2
              exact hw _ _ _  hS (lv_sub hl [0, 1, 2, 3, 4] rfl))
      refine x_icmp_ne hC ra1 (rk rfl) (tgt := 42) dd_G_widenByKind_28 (by decide) (fun c13 => ?_) (fun c13 => ?_)
      · have hw := hw.1 c13
        exact hw _ _ _  hS (lv_sub hl [0, 1, 2, 3, 4] rfl)
      · have hw := hw.2 c13
        refine lv_aload_n hx hb dd_G_widenByKind_31 rfl (lv_at hl 0 rfl) ?_
        refine lv_iload_n hx hb dd_G_widenByKind_32 rfl (lv_at hl 2 rfl) ?_
        refine lv_iload_n hx hb dd_G_widenByKind_33 rfl (lv_at hl 3 rfl) ?_
        refine lv_iload hx hb dd_G_widenByKind_34 (lv_at hl 4 rfl) ?_
        refine x_callSi hC hS (As := [.int (iI a2), .int (iI a3), .int (iI a4)]) (rest := [.ref (xA X g)]) cs_U_flipTurn (mt_U_flipTurn l X hC.2.2.1  a2 ra2 a3 ra3 a4 ra4 M26 hm_M26 _ _ hw) tb_242 rfl rfl ⟨Nat.le_of_ble_eq_true rfl, Nat.le_of_ble_eq_true rfl⟩ rfl hl.1 (Nat.le_of_ble_eq_true rfl) dd_G_widenByKind_36 ⟨Nat.le_refl _, Nat.le_refl _⟩ rfl (fun r36 Mx H locs rr36 hp hS => ?_)
        obtain ⟨hq, hw⟩ := hp
        rw [hq] at hS
        refine x_callVv hC hS (As := [.int (iI r36)]) (rest := []) hG0.1 rfl cv_G_widen (mt_G_widen l X hC.2.2.1 g hG0 r36 rr36 M26 hm_M26 _ _ hw) tb_227 rfl rfl ⟨Nat.le_of_ble_eq_true rfl, Nat.le_of_ble_eq_true rfl⟩ rfl hl.1 (Nat.le_of_ble_eq_true rfl) dd_G_widenByKind_39 ⟨Nat.le_refl _, Nat.le_refl _⟩ rfl (fun M_14 H locs hw hS => ?_)
        have hm_M_14 := hS.2.2.2
        exact hw _ _ _  hS (lv_sub hl [0, 1, 2, 3, 4] rfl))
  have hw := hw (∀ (H : Heap) (locs : List Loc) (ls : Array Slot), St X (xF X sz) s M H locs → lv_has ls 6 [(0, .ref (xA X g)), (1, .int (iI a1)), (2, .int (iI a2)), (3, .int (iI a3)), (4, .int (iI a4))] → W p l e ({ frames := 5, cells := 0, slots := 0, locals := 116 } : Room) s m ([.ref (xA X g), .int (iI a1), .int (iI a2), .int (iI a3), .int (iI a4)] : List Value).toArray below meth c H locs 0 0 (MQ below (Qv X sz post) ([.ref (xA X g), .int (iI a1), .int (iI a2), .int (iI a3), .int (iI a4)] : List Value).toArray s 0 0 (xF X sz)) (F0 m 15 ls [])) (by
      intro  hw H locs ls  hS hl
      refine lv_aload_n hx hb dd_G_widenByKind_15 rfl (lv_at hl 0 rfl) ?_
      refine lv_iload_n hx hb dd_G_widenByKind_16 rfl (lv_at hl 2 rfl) ?_
      refine lv_iload_n hx hb dd_G_widenByKind_17 rfl (lv_at hl 3 rfl) ?_
      refine lv_iload hx hb dd_G_widenByKind_18 (lv_at hl 4 rfl) ?_
      refine x_callSi hC hS (As := [.int (iI a2), .int (iI a3), .int (iI a4)]) (rest := [.ref (xA X g)]) cs_U_roundTurn (mt_U_roundTurn l X hC.2.2.1  a2 ra2 a3 ra3 a4 ra4 M hm_M _ _ hw) tb_217 rfl rfl ⟨Nat.le_of_ble_eq_true rfl, Nat.le_of_ble_eq_true rfl⟩ rfl hl.1 (Nat.le_of_ble_eq_true rfl) dd_G_widenByKind_20 ⟨Nat.le_refl _, Nat.le_refl _⟩ rfl (fun r20 Mx H locs rr20 hp hS => ?_)
      obtain ⟨hq, hw⟩ := hp
      rw [hq] at hS
      refine x_callVv hC hS (As := [.int (iI r20)]) (rest := []) hG0.1 rfl cv_G_widen (mt_G_widen l X hC.2.2.1 g hG0 r20 rr20 M hm_M _ _ hw) tb_227 rfl rfl ⟨Nat.le_of_ble_eq_true rfl, Nat.le_of_ble_eq_true rfl⟩ rfl hl.1 (Nat.le_of_ble_eq_true rfl) dd_G_widenByKind_23 ⟨Nat.le_refl _, Nat.le_refl _⟩ rfl (fun M_15 H locs hw hS => ?_)
      have hm_M_15 := hS.2.2.2
      exact hw _ _ _  hS (lv_sub hl [0, 1, 2, 3, 4] rfl))
  refine x_icmp_eq hC ra1 (rk rfl) (tgt := 15) dd_G_widenByKind_2 (by decide) (fun c16 => ?_) (fun c16 => ?_)
  · have hw := hw.1 c16
    exact hw _ _ _  hS (lv_sub hl [0, 1, 2, 3, 4] rfl)
  · have hw := hw.2 c16
    refine lv_iload_n hx hb dd_G_widenByKind_5 rfl (lv_at hl 1 rfl) ?_
    refine x_iconst hC dd_G_widenByKind_6 ?_
    refine x_icmp_eq hC ra1 (rk rfl) (tgt := 15) dd_G_widenByKind_7 (by decide) (fun c17 => ?_) (fun c17 => ?_)
    · have hw := hw.1 c17
      exact hw _ _ _  hS (lv_sub hl [0, 1, 2, 3, 4] rfl)
    · have hw := hw.2 c17
      refine lv_iload_n hx hb dd_G_widenByKind_10 rfl (lv_at hl 1 rfl) ?_
      refine x_iconst hC dd_G_widenByKind_11 ?_
      refine x_icmp_ne hC ra1 (rk rfl) (tgt := 26) dd_G_widenByKind_12 (by decide) (fun c18 => ?_) (fun c18 => ?_)
      · have hw := hw.1 c18
        exact hw _ _ _  hS (lv_sub hl [0, 1, 2, 3, 4] rfl)
      · have hw := hw.2 c18
        exact hw _ _ _  hS (lv_sub hl [0, 1, 2, 3, 4] rfl)
def wp_G_reachFrom (g : Nat) (a1 : Int) (M : Mm) (post : Int → Prop) : Prop :=
  ∃ I4 : Nat → Int → Int → Prop, (∃ n, I4 n 0 0) ∧ ∀ (n4 : Nat) (x2_4 : Int) (x3_4 : Int), I4 n4 x2_4 x3_4 →
    (((M g 1) ≤ x3_4 → wp_J_bitCount x2_4 (fun (r34 : Int) => post r34)) ∧
      (¬ (M g 1) ≤ x3_4 → (0 ≤ x3_4 ∧ x3_4 < 5040) ∧ ∀ z3 : Int, z3 = M (g + 1) (x3_4).toNat → wp_U_goal z3 a1 (fun (r21 : Int) => ∀ v2_26 : Int, v2_26 = (bOr x2_4 (bShl 1 r21)) → inR (x3_4 + 1) ∧ ∀ v3_27 : Int, v3_27 = x3_4 + 1 → ∃ k_4, k_4 < n4 ∧ I4 k_4 v2_26 v3_27)))
set_option maxHeartbeats 4000000 in
set_option maxRecDepth 100000 in
theorem mt_G_reachFrom (l : Launch) (X : Xw) (hlc : lcl X) (g : Nat) (hG0 : IsG X g) (a1 : Int) (ra1 : inR a1) (M : Mm) (hm_M : mr M) (post : Int → Prop) (sz : Nat) (hw : wp_G_reachFrom g a1 M post) : Met l yy_G_reachFrom (Cond.code yy_G_reachFrom bc_G_reachFrom 4 (some .int) :: tg) ({ frames := 1, cells := 0, slots := 0, locals := 21 } : Room) (Pw X [.ref (xA X g), .int (iI a1)] M sz) (Qi X sz (fun r M1 => M1 = M ∧ post r)) 0 0 (xF X sz) := by
  unfold wp_G_reachFrom at hw
  refine x_enter (by decide) hlc hm_M (Nat.le_of_ble_eq_true rfl) ?_
  intro p e s m below meth c ls hC hsz hr hlocks hS hl
  have hx := hC.1.1
  have hb := hC.1.2.1
  have hl : lv_has ls 4 [(0, .ref (xA X g)), (1, .int (iI a1))] := hl
  refine x_iconst hC dd_G_reachFrom_0 ?_
  refine lv_istore_n (lv' := [(2, .int (iI 0)), (0, .ref (xA X g)), (1, .int (iI a1))]) hx hb dd_G_reachFrom_1 rfl hl (by decide) rfl (fun ls hl => ?_)
  refine x_iconst hC dd_G_reachFrom_2 ?_
  refine lv_istore_n (lv' := [(3, .int (iI 0)), (2, .int (iI 0)), (0, .ref (xA X g)), (1, .int (iI a1))]) hx hb dd_G_reachFrom_3 rfl hl (by decide) rfl (fun ls hl => ?_)
  obtain ⟨I4, ⟨n0, hI⟩, hstep_I4⟩ := hw
  have lp_I4 : ∀ (n4 : Nat) (x2_4 : Int) (x3_4 : Int) (H : Heap) (locs : List Loc) (ls : Array Slot), I4 n4 x2_4 x3_4 → inR x2_4 → inR x3_4 → St X (xF X sz) s M H locs → lv_has ls 4 [(0, .ref (xA X g)), (1, .int (iI a1)), (2, .int (iI x2_4)), (3, .int (iI x3_4))] → W p l e ({ frames := 1, cells := 0, slots := 0, locals := 21 } : Room) s m ([.ref (xA X g), .int (iI a1)] : List Value).toArray below meth c H locs 0 0 (MQ below (Qi X sz (fun r M1 => M1 = M ∧ post r)) ([.ref (xA X g), .int (iI a1)] : List Value).toArray s 0 0 (xF X sz)) (F0 m 4 ls []) := by
    intro n4
    induction n4 using Nat.strongRecOn with
    | _ n4 ih_I4 =>
      intro x2_4 x3_4 H locs ls hI rx2_4 rx3_4 hS hl
      have hw := hstep_I4 n4 x2_4 x3_4 hI
      refine lv_iload_n hx hb dd_G_reachFrom_4 rfl (lv_at hl 3 rfl) ?_
      refine lv_aload_n hx hb dd_G_reachFrom_5 rfl (lv_at hl 0 rfl) ?_
      refine x_get hC hS hG0.1 rfl iw_G 1 (by decide) tb_57 rfl rfl dd_G_reachFrom_6 ?_
      refine x_icmp_ge hC rx3_4 (hm_M g 1) (tgt := 33) dd_G_reachFrom_9 (by decide) (fun c1 => ?_) (fun c1 => ?_)
      · have hw := hw.1 c1
        refine lv_iload_n hx hb dd_G_reachFrom_33 rfl (lv_at hl 2 rfl) ?_
        refine x_callSi hC hS (As := [.int (iI x2_4)]) (rest := []) cs_J_bitCount (mt_J_bitCount l X hC.2.2.1  x2_4 rx2_4 M hm_M _ _ hw) tb_309 rfl rfl ⟨Nat.le_of_ble_eq_true rfl, Nat.le_of_ble_eq_true rfl⟩ rfl hl.1 (Nat.le_of_ble_eq_true rfl) dd_G_reachFrom_34 ⟨Nat.le_refl _, Nat.le_refl _⟩ rfl (fun r34 Mx H locs rr34 hp hS => ?_)
        obtain ⟨hq, hw⟩ := hp
        rw [hq] at hS
        exact x_iret hC hS hlocks hr rr34 ⟨rfl, hw⟩ dd_G_reachFrom_37
      · have hw := hw.2 c1
        refine lv_iload_n hx hb dd_G_reachFrom_12 rfl (lv_at hl 2 rfl) ?_
        refine x_iconst hC dd_G_reachFrom_13 ?_
        refine lv_aload_n hx hb dd_G_reachFrom_14 rfl (lv_at hl 0 rfl) ?_
        refine x_get hC hS hG0.1 rfl iw_G 0 (by decide) tb_53 rfl rfl dd_G_reachFrom_15 ?_
        refine lv_iload_n hx hb dd_G_reachFrom_18 rfl (lv_at hl 3 rfl) ?_
        obtain ⟨q2, hw⟩ := hw
        refine x_iald hC hS hG0.2.1 q2 dd_G_reachFrom_19 ?_
        refine x_nm (hm_M (g + 1) _) (fun z3 rz3 ez3 => ?_)
        have hw := hw z3 ez3
        refine lv_iload_n hx hb dd_G_reachFrom_20 rfl (lv_at hl 1 rfl) ?_
        refine x_callSi hC hS (As := [.int (iI z3), .int (iI a1)]) (rest := [.int (iI 1), .int (iI x2_4)]) cs_U_goal (mt_U_goal l X hC.2.2.1  z3 rz3 a1 ra1 M hm_M _ _ hw) tb_308 rfl rfl ⟨Nat.le_of_ble_eq_true rfl, Nat.le_of_ble_eq_true rfl⟩ rfl hl.1 (Nat.le_of_ble_eq_true rfl) dd_G_reachFrom_21 ⟨Nat.le_refl _, Nat.le_refl _⟩ rfl (fun r21 Mx H locs rr21 hp hS => ?_)
        obtain ⟨hq, hw⟩ := hp
        rw [hq] at hS
        refine x_shl hC dd_G_reachFrom_24 ?_
        refine x_or hC dd_G_reachFrom_25 ?_
        refine x_nm (rng _) (fun v2_26 rv2_26 ev2_26 => ?_)
        have hw := hw v2_26 ev2_26
        refine lv_istore_n (lv' := [(2, .int (iI v2_26)), (0, .ref (xA X g)), (1, .int (iI a1)), (3, .int (iI x3_4))]) hx hb dd_G_reachFrom_26 rfl hl (by decide) rfl (fun ls hl => ?_)
        obtain ⟨hr_, hw⟩ := hw
        obtain ⟨v3_27, rv3_27, ev3_27⟩ : ∃ z : Int, inR z ∧ z = x3_4 + 1 := ⟨_, hr_, rfl⟩
        have hw := hw v3_27 ev3_27
        refine lv_iinc (v := iI v3_27) (lv' := [(3, .int (iI v3_27)), (2, .int (iI v2_26)), (0, .ref (xA X g)), (1, .int (iI a1))]) hx hb dd_G_reachFrom_27 hl (k := 3) rfl (by rw [ev3_27]; exact iI_add _ _) (by decide) rfl (fun ls hl => ?_)
        refine lv_goto (tgt := 4) hx hb dd_G_reachFrom_30 (by decide) ?_
        obtain ⟨k_4, h5, hI⟩ := hw
        exact ih_I4 k_4 h5 v2_26 v3_27 _ _ _ hI rv2_26 rv3_27 hS (lv_sub hl [2, 3, 1, 0] rfl)
  exact lp_I4 n0 0 0 _ _ _ hI (rk rfl) (rk rfl) hS (lv_sub hl [2, 3, 1, 0] rfl)
def wp_G_holding (g : Nat) (a1 : Int) (M : Mm) (post : Int → Prop) : Prop :=
  ∃ I4 : Nat → Int → Int → Prop, (∃ n, I4 n 0 0) ∧ ∀ (n4 : Nat) (x2_4 : Int) (x3_4 : Int), I4 n4 x2_4 x3_4 →
    (((M g 1) ≤ x3_4 → post x2_4) ∧
      (¬ (M g 1) ≤ x3_4 → (0 ≤ x3_4 ∧ x3_4 < 5040) ∧ ∀ z3 : Int, z3 = M (g + 1) (x3_4).toNat → wp_U_goal z3 a1 (fun (r19 : Int) => ∀ K29 : Int → Prop, (∀ (y2_29 : Int), (inR (x3_4 + 1) ∧ ∀ v3_29 : Int, v3_29 = x3_4 + 1 → ∃ k_4, k_4 < n4 ∧ I4 k_4 y2_29 v3_29) →
          K29 y2_29) →
        ((¬ r19 = a1 → K29 x2_4) ∧
        (r19 = a1 → inR (x2_4 + 1) ∧ ∀ v2_26 : Int, v2_26 = x2_4 + 1 → K29 v2_26)))))
set_option maxHeartbeats 4000000 in
set_option maxRecDepth 100000 in
theorem mt_G_holding (l : Launch) (X : Xw) (hlc : lcl X) (g : Nat) (hG0 : IsG X g) (a1 : Int) (ra1 : inR a1) (M : Mm) (hm_M : mr M) (post : Int → Prop) (sz : Nat) (hw : wp_G_holding g a1 M post) : Met l yy_G_holding (Cond.code yy_G_holding bc_G_holding 4 (some .int) :: tg) ({ frames := 1, cells := 0, slots := 0, locals := 21 } : Room) (Pw X [.ref (xA X g), .int (iI a1)] M sz) (Qi X sz (fun r M1 => M1 = M ∧ post r)) 0 0 (xF X sz) := by
  unfold wp_G_holding at hw
  refine x_enter (by decide) hlc hm_M (Nat.le_of_ble_eq_true rfl) ?_
  intro p e s m below meth c ls hC hsz hr hlocks hS hl
  have hx := hC.1.1
  have hb := hC.1.2.1
  have hl : lv_has ls 4 [(0, .ref (xA X g)), (1, .int (iI a1))] := hl
  refine x_iconst hC dd_G_holding_0 ?_
  refine lv_istore_n (lv' := [(2, .int (iI 0)), (0, .ref (xA X g)), (1, .int (iI a1))]) hx hb dd_G_holding_1 rfl hl (by decide) rfl (fun ls hl => ?_)
  refine x_iconst hC dd_G_holding_2 ?_
  refine lv_istore_n (lv' := [(3, .int (iI 0)), (2, .int (iI 0)), (0, .ref (xA X g)), (1, .int (iI a1))]) hx hb dd_G_holding_3 rfl hl (by decide) rfl (fun ls hl => ?_)
  obtain ⟨I4, ⟨n0, hI⟩, hstep_I4⟩ := hw
  have lp_I4 : ∀ (n4 : Nat) (x2_4 : Int) (x3_4 : Int) (H : Heap) (locs : List Loc) (ls : Array Slot), I4 n4 x2_4 x3_4 → inR x2_4 → inR x3_4 → St X (xF X sz) s M H locs → lv_has ls 4 [(0, .ref (xA X g)), (1, .int (iI a1)), (2, .int (iI x2_4)), (3, .int (iI x3_4))] → W p l e ({ frames := 1, cells := 0, slots := 0, locals := 21 } : Room) s m ([.ref (xA X g), .int (iI a1)] : List Value).toArray below meth c H locs 0 0 (MQ below (Qi X sz (fun r M1 => M1 = M ∧ post r)) ([.ref (xA X g), .int (iI a1)] : List Value).toArray s 0 0 (xF X sz)) (F0 m 4 ls []) := by
    intro n4
    induction n4 using Nat.strongRecOn with
    | _ n4 ih_I4 =>
      intro x2_4 x3_4 H locs ls hI rx2_4 rx3_4 hS hl
      have hw := hstep_I4 n4 x2_4 x3_4 hI
      refine lv_iload_n hx hb dd_G_holding_4 rfl (lv_at hl 3 rfl) ?_
      refine lv_aload_n hx hb dd_G_holding_5 rfl (lv_at hl 0 rfl) ?_
      refine x_get hC hS hG0.1 rfl iw_G 1 (by decide) tb_57 rfl rfl dd_G_holding_6 ?_
      refine x_icmp_ge hC rx3_4 (hm_M g 1) (tgt := 35) dd_G_holding_9 (by decide) (fun c1 => ?_) (fun c1 => ?_)
      · have hw := hw.1 c1
        refine lv_iload_n hx hb dd_G_holding_35 rfl (lv_at hl 2 rfl) ?_
        exact x_iret hC hS hlocks hr rx2_4 ⟨rfl, hw⟩ dd_G_holding_36
      · have hw := hw.2 c1
        refine lv_aload_n hx hb dd_G_holding_12 rfl (lv_at hl 0 rfl) ?_
        refine x_get hC hS hG0.1 rfl iw_G 0 (by decide) tb_53 rfl rfl dd_G_holding_13 ?_
        refine lv_iload_n hx hb dd_G_holding_16 rfl (lv_at hl 3 rfl) ?_
        obtain ⟨q2, hw⟩ := hw
        refine x_iald hC hS hG0.2.1 q2 dd_G_holding_17 ?_
        refine x_nm (hm_M (g + 1) _) (fun z3 rz3 ez3 => ?_)
        have hw := hw z3 ez3
        refine lv_iload_n hx hb dd_G_holding_18 rfl (lv_at hl 1 rfl) ?_
        refine x_callSi hC hS (As := [.int (iI z3), .int (iI a1)]) (rest := []) cs_U_goal (mt_U_goal l X hC.2.2.1  z3 rz3 a1 ra1 M hm_M _ _ hw) tb_308 rfl rfl ⟨Nat.le_of_ble_eq_true rfl, Nat.le_of_ble_eq_true rfl⟩ rfl hl.1 (Nat.le_of_ble_eq_true rfl) dd_G_holding_19 ⟨Nat.le_refl _, Nat.le_refl _⟩ rfl (fun r19 Mx H locs rr19 hp hS => ?_)
        obtain ⟨hq, hw⟩ := hp
        rw [hq] at hS
        refine lv_iload_n hx hb dd_G_holding_22 rfl (lv_at hl 1 rfl) ?_
        have hw := hw (fun (y2_29 : Int) => ∀ (H : Heap) (locs : List Loc) (ls : Array Slot), inR y2_29 → St X (xF X sz) s M H locs → lv_has ls 4 [(0, .ref (xA X g)), (1, .int (iI a1)), (2, .int (iI y2_29)), (3, .int (iI x3_4))] → W p l e ({ frames := 1, cells := 0, slots := 0, locals := 21 } : Room) s m ([.ref (xA X g), .int (iI a1)] : List Value).toArray below meth c H locs 0 0 (MQ below (Qi X sz (fun r M1 => M1 = M ∧ post r)) ([.ref (xA X g), .int (iI a1)] : List Value).toArray s 0 0 (xF X sz)) (F0 m 29 ls [])) (by
            intro y2_29 hw H locs ls ry2_29 hS hl
            obtain ⟨hr_, hw⟩ := hw
            obtain ⟨v3_29, rv3_29, ev3_29⟩ : ∃ z : Int, inR z ∧ z = x3_4 + 1 := ⟨_, hr_, rfl⟩
            have hw := hw v3_29 ev3_29
            refine lv_iinc (v := iI v3_29) (lv' := [(3, .int (iI v3_29)), (0, .ref (xA X g)), (1, .int (iI a1)), (2, .int (iI y2_29))]) hx hb dd_G_holding_29 hl (k := 3) rfl (by rw [ev3_29]; exact iI_add _ _) (by decide) rfl (fun ls hl => ?_)
            refine lv_goto (tgt := 4) hx hb dd_G_holding_32 (by decide) ?_
            obtain ⟨k_4, h5, hI⟩ := hw
            exact ih_I4 k_4 h5 y2_29 v3_29 _ _ _ hI ry2_29 rv3_29 hS (lv_sub hl [1, 2, 3, 0] rfl))
        refine x_icmp_ne hC rr19 ra1 (tgt := 29) dd_G_holding_23 (by decide) (fun c6 => ?_) (fun c6 => ?_)
        · have hw := hw.1 c6
          exact hw _ _ _ rx2_4 hS (lv_sub hl [0, 1, 2, 3] rfl)
        · have hw := hw.2 c6
          obtain ⟨hr_, hw⟩ := hw
          obtain ⟨v2_26, rv2_26, ev2_26⟩ : ∃ z : Int, inR z ∧ z = x2_4 + 1 := ⟨_, hr_, rfl⟩
          have hw := hw v2_26 ev2_26
          refine lv_iinc (v := iI v2_26) (lv' := [(2, .int (iI v2_26)), (0, .ref (xA X g)), (1, .int (iI a1)), (3, .int (iI x3_4))]) hx hb dd_G_holding_26 hl (k := 2) rfl (by rw [ev2_26]; exact iI_add _ _) (by decide) rfl (fun ls hl => ?_)
          exact hw _ _ _ rv2_26 hS (lv_sub hl [1, 2, 0, 3] rfl)
  exact lp_I4 n0 0 0 _ _ _ hI (rk rfl) (rk rfl) hS (lv_sub hl [2, 3, 1, 0] rfl)
end
section
def wp_D_toldTurn (a1 : Int) (M : Mm) (post : Int → Prop) : Prop :=
  ((M 2 1) = a1 → ∃ I19 : Nat → Int → Int → Int → Prop, (∃ n, I19 n 42798 0 0) ∧ ∀ (n19 : Nat) (x2_19 : Int) (x3_19 : Int) (x4_19 : Int), I19 n19 x2_19 x3_19 x4_19 →
      ((a1 ≤ x4_19 → post x2_19) ∧
        (¬ a1 ≤ x4_19 → (0 ≤ x4_19 ∧ x4_19 < 7) ∧ ∀ z4 : Int, z4 = M 3 (x4_19).toNat → inR (z4 - 48) ∧ ∀ v5_35 : Int, v5_35 = (z4 - 48) → (v5_35 < 0 → post (-7)) ∧
          (¬ v5_35 < 0 → (a1 ≤ v5_35 → post (-7)) ∧
            (¬ a1 ≤ v5_35 → (¬ (bAnd (bShr x3_19 v5_35) 1) = 1 → ∀ v3_67 : Int, v3_67 = (bOr x3_19 (bShl 1 v5_35)) → wp_U_withGoal x2_19 x4_19 v5_35 (fun (r73 : Int) => inR (x4_19 + 1) ∧ ∀ v4_77 : Int, v4_77 = x4_19 + 1 → ∃ k_9, k_9 < n19 ∧ I19 k_9 r73 v3_67 v4_77)) ∧
              ((bAnd (bShr x3_19 v5_35) 1) = 1 → post (-7))))))) ∧
  (¬ (M 2 1) = a1 → post (-7))
set_option maxHeartbeats 4000000 in
set_option maxRecDepth 100000 in
theorem mt_D_toldTurn (l : Launch) (X : Xw) (hlc : lcl X)(hD0 : IsD X) (a1 : Int) (ra1 : inR a1) (M : Mm) (hm_M : mr M) (post : Int → Prop) (sz : Nat) (hw : wp_D_toldTurn a1 M post) : Met l yy_D_toldTurn (Cond.code yy_D_toldTurn bc_D_toldTurn 6 (some .int) :: tg) ({ frames := 1, cells := 0, slots := 0, locals := 23 } : Room) (Pw X [.ref (xA X 2), .int (iI a1)] M sz) (Qi X sz (fun r M1 => M1 = M ∧ post r)) 0 0 (xF X sz) := by
  unfold wp_D_toldTurn at hw
  refine x_enter (by decide) hlc hm_M (Nat.le_of_ble_eq_true rfl) ?_
  intro p e s m below meth c ls hC hsz hr hlocks hS hl
  have hx := hC.1.1
  have hb := hC.1.2.1
  have hl : lv_has ls 6 [(0, .ref (xA X 2)), (1, .int (iI a1))] := hl
  refine lv_aload_n hx hb dd_D_toldTurn_0 rfl (lv_at hl 0 rfl) ?_
  refine x_get hC hS hD0.1 rfl iw_D 1 (by decide) tb_108 rfl rfl dd_D_toldTurn_1 ?_
  refine lv_iload_n hx hb dd_D_toldTurn_4 rfl (lv_at hl 1 rfl) ?_
  refine x_icmp_eq hC (hm_M 2 1) ra1 (tgt := 11) dd_D_toldTurn_5 (by decide) (fun c1 => ?_) (fun c1 => ?_)
  · have hw := hw.1 c1
    refine x_ldc hC (n := 42798) tb_257 (by decide) dd_D_toldTurn_11 ?_
    refine lv_istore_n (lv' := [(2, .int (iI 42798)), (0, .ref (xA X 2)), (1, .int (iI a1))]) hx hb dd_D_toldTurn_13 rfl hl (by decide) rfl (fun ls hl => ?_)
    refine x_iconst hC dd_D_toldTurn_14 ?_
    refine lv_istore_n (lv' := [(3, .int (iI 0)), (2, .int (iI 42798)), (0, .ref (xA X 2)), (1, .int (iI a1))]) hx hb dd_D_toldTurn_15 rfl hl (by decide) rfl (fun ls hl => ?_)
    refine x_iconst hC dd_D_toldTurn_16 ?_
    refine lv_istore (lv' := [(4, .int (iI 0)), (3, .int (iI 0)), (2, .int (iI 42798)), (0, .ref (xA X 2)), (1, .int (iI a1))]) hx hb dd_D_toldTurn_17 hl (by decide) rfl (fun ls hl => ?_)
    obtain ⟨I19, ⟨n0, hI⟩, hstep_I19⟩ := hw
    have lp_I19 : ∀ (n19 : Nat) (x2_19 : Int) (x3_19 : Int) (x4_19 : Int) (H : Heap) (locs : List Loc) (ls : Array Slot), I19 n19 x2_19 x3_19 x4_19 → inR x2_19 → inR x3_19 → inR x4_19 → St X (xF X sz) s M H locs → lv_has ls 6 [(0, .ref (xA X 2)), (1, .int (iI a1)), (2, .int (iI x2_19)), (3, .int (iI x3_19)), (4, .int (iI x4_19))] → W p l e ({ frames := 1, cells := 0, slots := 0, locals := 23 } : Room) s m ([.ref (xA X 2), .int (iI a1)] : List Value).toArray below meth c H locs 0 0 (MQ below (Qi X sz (fun r M1 => M1 = M ∧ post r)) ([.ref (xA X 2), .int (iI a1)] : List Value).toArray s 0 0 (xF X sz)) (F0 m 19 ls []) := by
      intro n19
      induction n19 using Nat.strongRecOn with
      | _ n19 ih_I19 =>
        intro x2_19 x3_19 x4_19 H locs ls hI rx2_19 rx3_19 rx4_19 hS hl
        have hw := hstep_I19 n19 x2_19 x3_19 x4_19 hI
        refine lv_iload hx hb dd_D_toldTurn_19 (lv_at hl 4 rfl) ?_
        refine lv_iload_n hx hb dd_D_toldTurn_21 rfl (lv_at hl 1 rfl) ?_
        refine x_icmp_ge hC rx4_19 ra1 (tgt := 83) dd_D_toldTurn_22 (by decide) (fun c2 => ?_) (fun c2 => ?_)
        · have hw := hw.1 c2
          refine lv_iload_n hx hb dd_D_toldTurn_83 rfl (lv_at hl 2 rfl) ?_
          exact x_iret hC hS hlocks hr rx2_19 ⟨rfl, hw⟩ dd_D_toldTurn_84
        · have hw := hw.2 c2
          refine lv_aload_n hx hb dd_D_toldTurn_25 rfl (lv_at hl 0 rfl) ?_
          refine x_get hC hS hD0.1 rfl iw_D 0 (by decide) tb_106 rfl rfl dd_D_toldTurn_26 ?_
          refine lv_iload hx hb dd_D_toldTurn_29 (lv_at hl 4 rfl) ?_
          obtain ⟨q3, hw⟩ := hw
          refine x_iald hC hS hD0.2 q3 dd_D_toldTurn_31 ?_
          refine x_nm (hm_M 3 _) (fun z4 rz4 ez4 => ?_)
          have hw := hw z4 ez4
          refine x_bipush hC dd_D_toldTurn_32 (by decide) ?_
          obtain ⟨q5, hw⟩ := hw
          refine x_sub hC dd_D_toldTurn_34 ?_
          refine x_nm q5 (fun v5_35 rv5_35 ev5_35 => ?_)
          have hw := hw v5_35 ev5_35
          refine lv_istore (lv' := [(5, .int (iI v5_35)), (0, .ref (xA X 2)), (1, .int (iI a1)), (2, .int (iI x2_19)), (3, .int (iI x3_19)), (4, .int (iI x4_19))]) hx hb dd_D_toldTurn_35 hl (by decide) rfl (fun ls hl => ?_)
          refine lv_iload hx hb dd_D_toldTurn_37 (lv_at hl 0 rfl) ?_
          refine x_if_lt hC rv5_35 (tgt := 58) dd_D_toldTurn_39 (by decide) (fun c6 => ?_) (fun c6 => ?_)
          · have hw := hw.1 c6
            refine x_bipush hC dd_D_toldTurn_58 (by decide) ?_
            exact x_iret hC hS hlocks hr (rk rfl) ⟨rfl, hw⟩ dd_D_toldTurn_60
          · have hw := hw.2 c6
            refine lv_iload hx hb dd_D_toldTurn_42 (lv_at hl 0 rfl) ?_
            refine lv_iload_n hx hb dd_D_toldTurn_44 rfl (lv_at hl 2 rfl) ?_
            refine x_icmp_ge hC rv5_35 ra1 (tgt := 58) dd_D_toldTurn_45 (by decide) (fun c7 => ?_) (fun c7 => ?_)
            · have hw := hw.1 c7
              refine x_bipush hC dd_D_toldTurn_58 (by decide) ?_
              exact x_iret hC hS hlocks hr (rk rfl) ⟨rfl, hw⟩ dd_D_toldTurn_60
            · have hw := hw.2 c7
              refine lv_iload_n hx hb dd_D_toldTurn_48 rfl (lv_at hl 4 rfl) ?_
              refine lv_iload hx hb dd_D_toldTurn_49 (lv_at hl 0 rfl) ?_
              refine x_shr hC dd_D_toldTurn_51 ?_
              refine x_iconst hC dd_D_toldTurn_52 ?_
              refine x_and hC dd_D_toldTurn_53 ?_
              refine x_iconst hC dd_D_toldTurn_54 ?_
              refine x_icmp_ne hC (rng _) (rk rfl) (tgt := 61) dd_D_toldTurn_55 (by decide) (fun c8 => ?_) (fun c8 => ?_)
              · have hw := hw.1 c8
                refine lv_iload_n hx hb dd_D_toldTurn_61 rfl (lv_at hl 4 rfl) ?_
                refine x_iconst hC dd_D_toldTurn_62 ?_
                refine lv_iload hx hb dd_D_toldTurn_63 (lv_at hl 0 rfl) ?_
                refine x_shl hC dd_D_toldTurn_65 ?_
                refine x_or hC dd_D_toldTurn_66 ?_
                refine x_nm (rng _) (fun v3_67 rv3_67 ev3_67 => ?_)
                have hw := hw v3_67 ev3_67
                refine lv_istore_n (lv' := [(3, .int (iI v3_67)), (5, .int (iI v5_35)), (0, .ref (xA X 2)), (1, .int (iI a1)), (2, .int (iI x2_19)), (4, .int (iI x4_19))]) hx hb dd_D_toldTurn_67 rfl hl (by decide) rfl (fun ls hl => ?_)
                refine lv_iload_n hx hb dd_D_toldTurn_68 rfl (lv_at hl 4 rfl) ?_
                refine lv_iload hx hb dd_D_toldTurn_69 (lv_at hl 5 rfl) ?_
                refine lv_iload hx hb dd_D_toldTurn_71 (lv_at hl 1 rfl) ?_
                refine x_callSi hC hS (As := [.int (iI x2_19), .int (iI x4_19), .int (iI v5_35)]) (rest := []) cs_U_withGoal (mt_U_withGoal l X hC.2.2.1  x2_19 rx2_19 x4_19 rx4_19 v5_35 rv5_35 M hm_M _ _ hw) tb_258 rfl rfl ⟨Nat.le_of_ble_eq_true rfl, Nat.le_of_ble_eq_true rfl⟩ rfl hl.1 (Nat.le_of_ble_eq_true rfl) dd_D_toldTurn_73 ⟨Nat.le_refl _, Nat.le_refl _⟩ rfl (fun r73 Mx H locs rr73 hp hS => ?_)
                obtain ⟨hq, hw⟩ := hp
                rw [hq] at hS
                refine lv_istore_n (lv' := [(2, .int (iI r73)), (3, .int (iI v3_67)), (5, .int (iI v5_35)), (0, .ref (xA X 2)), (1, .int (iI a1)), (4, .int (iI x4_19))]) hx hb dd_D_toldTurn_76 rfl hl (by decide) rfl (fun ls hl => ?_)
                obtain ⟨hr_, hw⟩ := hw
                obtain ⟨v4_77, rv4_77, ev4_77⟩ : ∃ z : Int, inR z ∧ z = x4_19 + 1 := ⟨_, hr_, rfl⟩
                have hw := hw v4_77 ev4_77
                refine lv_iinc (v := iI v4_77) (lv' := [(4, .int (iI v4_77)), (2, .int (iI r73)), (3, .int (iI v3_67)), (5, .int (iI v5_35)), (0, .ref (xA X 2)), (1, .int (iI a1))]) hx hb dd_D_toldTurn_77 hl (k := 5) rfl (by rw [ev4_77]; exact iI_add _ _) (by decide) rfl (fun ls hl => ?_)
                refine lv_goto (tgt := 19) hx hb dd_D_toldTurn_80 (by decide) ?_
                obtain ⟨k_9, h10, hI⟩ := hw
                exact ih_I19 k_9 h10 r73 v3_67 v4_77 _ _ _ hI rr73 rv3_67 rv4_77 hS (lv_sub hl [4, 5, 1, 2, 0] rfl)
              · have hw := hw.2 c8
                refine x_bipush hC dd_D_toldTurn_58 (by decide) ?_
                exact x_iret hC hS hlocks hr (rk rfl) ⟨rfl, hw⟩ dd_D_toldTurn_60
    exact lp_I19 n0 42798 0 0 _ _ _ hI (rk rfl) (rk rfl) (rk rfl) hS (lv_sub hl [3, 4, 2, 1, 0] rfl)
  · have hw := hw.2 c1
    refine x_bipush hC dd_D_toldTurn_8 (by decide) ?_
    exact x_iret hC hS hlocks hr (rk rfl) ⟨rfl, hw⟩ dd_D_toldTurn_10
def wp_S_colourings (u : Nat) (M : Mm) (post : Int → Prop) : Prop :=
  ∃ I4 : Nat → Int → Int → Prop, (∃ n, I4 n 1 0) ∧ ∀ (n4 : Nat) (x1_4 : Int) (x2_4 : Int), I4 n4 x1_4 x2_4 →
    (((M u 0) ≤ x2_4 → post x1_4) ∧
      (¬ (M u 0) ≤ x2_4 → inR (x1_4 * (M u 1)) ∧ ∀ v1_18 : Int, v1_18 = (x1_4 * (M u 1)) → inR (x2_4 + 1) ∧ ∀ v2_19 : Int, v2_19 = x2_4 + 1 → ∃ k_3, k_3 < n4 ∧ I4 k_3 v1_18 v2_19))
set_option maxHeartbeats 4000000 in
set_option maxRecDepth 100000 in
theorem mt_S_colourings (l : Launch) (X : Xw) (hlc : lcl X) (u : Nat) (hS0 : IsS X u) (M : Mm) (hm_M : mr M) (post : Int → Prop) (sz : Nat) (hw : wp_S_colourings u M post) : Met l yy_S_colourings (Cond.code yy_S_colourings bc_S_colourings 3 (some .int) :: tg) ({ frames := 0, cells := 0, slots := 0, locals := 0 } : Room) (Pw X [.ref (xA X u)] M sz) (Qi X sz (fun r M1 => M1 = M ∧ post r)) 0 0 (xF X sz) := by
  unfold wp_S_colourings at hw
  refine x_enter (by decide) hlc hm_M (Nat.le_of_ble_eq_true rfl) ?_
  intro p e s m below meth c ls hC hsz hr hlocks hS hl
  have hx := hC.1.1
  have hb := hC.1.2.1
  have hl : lv_has ls 3 [(0, .ref (xA X u))] := hl
  refine x_iconst hC dd_S_colourings_0 ?_
  refine lv_istore_n (lv' := [(1, .int (iI 1)), (0, .ref (xA X u))]) hx hb dd_S_colourings_1 rfl hl (by decide) rfl (fun ls hl => ?_)
  refine x_iconst hC dd_S_colourings_2 ?_
  refine lv_istore_n (lv' := [(2, .int (iI 0)), (1, .int (iI 1)), (0, .ref (xA X u))]) hx hb dd_S_colourings_3 rfl hl (by decide) rfl (fun ls hl => ?_)
  obtain ⟨I4, ⟨n0, hI⟩, hstep_I4⟩ := hw
  have lp_I4 : ∀ (n4 : Nat) (x1_4 : Int) (x2_4 : Int) (H : Heap) (locs : List Loc) (ls : Array Slot), I4 n4 x1_4 x2_4 → inR x1_4 → inR x2_4 → St X (xF X sz) s M H locs → lv_has ls 3 [(0, .ref (xA X u)), (1, .int (iI x1_4)), (2, .int (iI x2_4))] → W p l e ({ frames := 0, cells := 0, slots := 0, locals := 0 } : Room) s m ([.ref (xA X u)] : List Value).toArray below meth c H locs 0 0 (MQ below (Qi X sz (fun r M1 => M1 = M ∧ post r)) ([.ref (xA X u)] : List Value).toArray s 0 0 (xF X sz)) (F0 m 4 ls []) := by
    intro n4
    induction n4 using Nat.strongRecOn with
    | _ n4 ih_I4 =>
      intro x1_4 x2_4 H locs ls hI rx1_4 rx2_4 hS hl
      have hw := hstep_I4 n4 x1_4 x2_4 hI
      refine lv_iload_n hx hb dd_S_colourings_4 rfl (lv_at hl 2 rfl) ?_
      refine lv_aload_n hx hb dd_S_colourings_5 rfl (lv_at hl 0 rfl) ?_
      refine x_get hC hS hS0.1 rfl iw_S 0 (by decide) tb_77 rfl rfl dd_S_colourings_6 ?_
      refine x_icmp_ge hC rx2_4 (hm_M u 0) (tgt := 25) dd_S_colourings_9 (by decide) (fun c1 => ?_) (fun c1 => ?_)
      · have hw := hw.1 c1
        refine lv_iload_n hx hb dd_S_colourings_25 rfl (lv_at hl 1 rfl) ?_
        exact x_iret hC hS hlocks hr rx1_4 ⟨rfl, hw⟩ dd_S_colourings_26
      · have hw := hw.2 c1
        refine lv_iload_n hx hb dd_S_colourings_12 rfl (lv_at hl 1 rfl) ?_
        refine lv_aload_n hx hb dd_S_colourings_13 rfl (lv_at hl 0 rfl) ?_
        refine x_get hC hS hS0.1 rfl iw_S 1 (by decide) tb_81 rfl rfl dd_S_colourings_14 ?_
        obtain ⟨q2, hw⟩ := hw
        refine x_mul hC dd_S_colourings_17 ?_
        refine x_nm q2 (fun v1_18 rv1_18 ev1_18 => ?_)
        have hw := hw v1_18 ev1_18
        refine lv_istore_n (lv' := [(1, .int (iI v1_18)), (0, .ref (xA X u)), (2, .int (iI x2_4))]) hx hb dd_S_colourings_18 rfl hl (by decide) rfl (fun ls hl => ?_)
        obtain ⟨hr_, hw⟩ := hw
        obtain ⟨v2_19, rv2_19, ev2_19⟩ : ∃ z : Int, inR z ∧ z = x2_4 + 1 := ⟨_, hr_, rfl⟩
        have hw := hw v2_19 ev2_19
        refine lv_iinc (v := iI v2_19) (lv' := [(2, .int (iI v2_19)), (1, .int (iI v1_18)), (0, .ref (xA X u))]) hx hb dd_S_colourings_19 hl (k := 2) rfl (by rw [ev2_19]; exact iI_add _ _) (by decide) rfl (fun ls hl => ?_)
        refine lv_goto (tgt := 4) hx hb dd_S_colourings_22 (by decide) ?_
        obtain ⟨k_3, h4, hI⟩ := hw
        exact ih_I4 k_3 h4 v1_18 v2_19 _ _ _ hI rv1_18 rv2_19 hS (lv_sub hl [2, 1, 0] rfl)
  exact lp_I4 n0 1 0 _ _ _ hI (rk rfl) (rk rfl) hS (lv_sub hl [2, 1, 0] rfl)
def wp_S_mirrored (u : Nat) (a1 : Int) (M : Mm) (post : Int → Prop) : Prop :=
  ∃ I7 : Nat → Int → Int → Int → Prop, (∃ n, I7 n a1 0 0) ∧ ∀ (n7 : Nat) (x2_7 : Int) (x3_7 : Int) (x4_7 : Int), I7 n7 x2_7 x3_7 x4_7 →
    (((M u 0) ≤ x4_7 → post x3_7) ∧
      (¬ (M u 0) ≤ x4_7 → inR (x3_7 * (M u 1)) ∧ (0 ≤ x2_7 ∧ 0 < (M u 1)) ∧ inR ((x3_7 * (M u 1)) + (x2_7 % (M u 1))) ∧ ∀ v3_29 : Int, v3_29 = ((x3_7 * (M u 1)) + (x2_7 % (M u 1))) → (0 ≤ x2_7 ∧ 0 < (M u 1)) ∧ ∀ v2_36 : Int, v2_36 = (x2_7 / (M u 1)) → inR (x4_7 + 1) ∧ ∀ v4_37 : Int, v4_37 = x4_7 + 1 → ∃ k_6, k_6 < n7 ∧ I7 k_6 v2_36 v3_29 v4_37))
set_option maxHeartbeats 4000000 in
set_option maxRecDepth 100000 in
theorem mt_S_mirrored (l : Launch) (X : Xw) (hlc : lcl X) (u : Nat) (hS0 : IsS X u) (a1 : Int) (ra1 : inR a1) (M : Mm) (hm_M : mr M) (post : Int → Prop) (sz : Nat) (hw : wp_S_mirrored u a1 M post) : Met l yy_S_mirrored (Cond.code yy_S_mirrored bc_S_mirrored 5 (some .int) :: tg) ({ frames := 0, cells := 0, slots := 0, locals := 0 } : Room) (Pw X [.ref (xA X u), .int (iI a1)] M sz) (Qi X sz (fun r M1 => M1 = M ∧ post r)) 0 0 (xF X sz) := by
  unfold wp_S_mirrored at hw
  refine x_enter (by decide) hlc hm_M (Nat.le_of_ble_eq_true rfl) ?_
  intro p e s m below meth c ls hC hsz hr hlocks hS hl
  have hx := hC.1.1
  have hb := hC.1.2.1
  have hl : lv_has ls 5 [(0, .ref (xA X u)), (1, .int (iI a1))] := hl
  refine lv_iload_n hx hb dd_S_mirrored_0 rfl (lv_at hl 1 rfl) ?_
  refine lv_istore_n (lv' := [(2, .int (iI a1)), (0, .ref (xA X u)), (1, .int (iI a1))]) hx hb dd_S_mirrored_1 rfl hl (by decide) rfl (fun ls hl => ?_)
  refine x_iconst hC dd_S_mirrored_2 ?_
  refine lv_istore_n (lv' := [(3, .int (iI 0)), (2, .int (iI a1)), (0, .ref (xA X u)), (1, .int (iI a1))]) hx hb dd_S_mirrored_3 rfl hl (by decide) rfl (fun ls hl => ?_)
  refine x_iconst hC dd_S_mirrored_4 ?_
  refine lv_istore (lv' := [(4, .int (iI 0)), (3, .int (iI 0)), (2, .int (iI a1)), (0, .ref (xA X u)), (1, .int (iI a1))]) hx hb dd_S_mirrored_5 hl (by decide) rfl (fun ls hl => ?_)
  obtain ⟨I7, ⟨n0, hI⟩, hstep_I7⟩ := hw
  have lp_I7 : ∀ (n7 : Nat) (x2_7 : Int) (x3_7 : Int) (x4_7 : Int) (H : Heap) (locs : List Loc) (ls : Array Slot), I7 n7 x2_7 x3_7 x4_7 → inR x2_7 → inR x3_7 → inR x4_7 → St X (xF X sz) s M H locs → lv_has ls 5 [(0, .ref (xA X u)), (2, .int (iI x2_7)), (3, .int (iI x3_7)), (4, .int (iI x4_7))] → W p l e ({ frames := 0, cells := 0, slots := 0, locals := 0 } : Room) s m ([.ref (xA X u), .int (iI a1)] : List Value).toArray below meth c H locs 0 0 (MQ below (Qi X sz (fun r M1 => M1 = M ∧ post r)) ([.ref (xA X u), .int (iI a1)] : List Value).toArray s 0 0 (xF X sz)) (F0 m 7 ls []) := by
    intro n7
    induction n7 using Nat.strongRecOn with
    | _ n7 ih_I7 =>
      intro x2_7 x3_7 x4_7 H locs ls hI rx2_7 rx3_7 rx4_7 hS hl
      have hw := hstep_I7 n7 x2_7 x3_7 x4_7 hI
      refine lv_iload hx hb dd_S_mirrored_7 (lv_at hl 3 rfl) ?_
      refine lv_aload_n hx hb dd_S_mirrored_9 rfl (lv_at hl 0 rfl) ?_
      refine x_get hC hS hS0.1 rfl iw_S 0 (by decide) tb_77 rfl rfl dd_S_mirrored_10 ?_
      refine x_icmp_ge hC rx4_7 (hm_M u 0) (tgt := 43) dd_S_mirrored_13 (by decide) (fun c1 => ?_) (fun c1 => ?_)
      · have hw := hw.1 c1
        refine lv_iload_n hx hb dd_S_mirrored_43 rfl (lv_at hl 2 rfl) ?_
        exact x_iret hC hS hlocks hr rx3_7 ⟨rfl, hw⟩ dd_S_mirrored_44
      · have hw := hw.2 c1
        refine lv_iload_n hx hb dd_S_mirrored_16 rfl (lv_at hl 2 rfl) ?_
        refine lv_aload_n hx hb dd_S_mirrored_17 rfl (lv_at hl 0 rfl) ?_
        refine x_get hC hS hS0.1 rfl iw_S 1 (by decide) tb_81 rfl rfl dd_S_mirrored_18 ?_
        obtain ⟨q2, hw⟩ := hw
        refine x_mul hC dd_S_mirrored_21 ?_
        refine lv_iload_n hx hb dd_S_mirrored_22 rfl (lv_at hl 1 rfl) ?_
        refine lv_aload_n hx hb dd_S_mirrored_23 rfl (lv_at hl 0 rfl) ?_
        refine x_get hC hS hS0.1 rfl iw_S 1 (by decide) tb_81 rfl rfl dd_S_mirrored_24 ?_
        obtain ⟨q3, hw⟩ := hw
        refine x_rem hC rx2_7 (hm_M u 1) q3 dd_S_mirrored_27 ?_
        obtain ⟨q4, hw⟩ := hw
        refine x_add hC dd_S_mirrored_28 ?_
        refine x_nm q4 (fun v3_29 rv3_29 ev3_29 => ?_)
        have hw := hw v3_29 ev3_29
        refine lv_istore_n (lv' := [(3, .int (iI v3_29)), (0, .ref (xA X u)), (2, .int (iI x2_7)), (4, .int (iI x4_7))]) hx hb dd_S_mirrored_29 rfl hl (by decide) rfl (fun ls hl => ?_)
        refine lv_iload_n hx hb dd_S_mirrored_30 rfl (lv_at hl 2 rfl) ?_
        refine lv_aload_n hx hb dd_S_mirrored_31 rfl (lv_at hl 1 rfl) ?_
        refine x_get hC hS hS0.1 rfl iw_S 1 (by decide) tb_81 rfl rfl dd_S_mirrored_32 ?_
        obtain ⟨q5, hw⟩ := hw
        refine x_div hC rx2_7 (hm_M u 1) q5 dd_S_mirrored_35 ?_
        refine x_nm (rDiv rx2_7 q5.1 q5.2) (fun v2_36 rv2_36 ev2_36 => ?_)
        have hw := hw v2_36 ev2_36
        refine lv_istore_n (lv' := [(2, .int (iI v2_36)), (3, .int (iI v3_29)), (0, .ref (xA X u)), (4, .int (iI x4_7))]) hx hb dd_S_mirrored_36 rfl hl (by decide) rfl (fun ls hl => ?_)
        obtain ⟨hr_, hw⟩ := hw
        obtain ⟨v4_37, rv4_37, ev4_37⟩ : ∃ z : Int, inR z ∧ z = x4_7 + 1 := ⟨_, hr_, rfl⟩
        have hw := hw v4_37 ev4_37
        refine lv_iinc (v := iI v4_37) (lv' := [(4, .int (iI v4_37)), (2, .int (iI v2_36)), (3, .int (iI v3_29)), (0, .ref (xA X u))]) hx hb dd_S_mirrored_37 hl (k := 3) rfl (by rw [ev4_37]; exact iI_add _ _) (by decide) rfl (fun ls hl => ?_)
        refine lv_goto (tgt := 7) hx hb dd_S_mirrored_40 (by decide) ?_
        obtain ⟨k_6, h7, hI⟩ := hw
        exact ih_I7 k_6 h7 v2_36 v3_29 v4_37 _ _ _ hI rv2_36 rv3_29 rv4_37 hS (lv_sub hl [3, 1, 2, 0] rfl)
  exact lp_I7 n0 a1 0 0 _ _ _ hI ra1 (rk rfl) (rk rfl) hS (lv_sub hl [3, 2, 1, 0] rfl)
def wp_S_weightOf (u : Nat) (a1 : Int) (M : Mm) (post : Int → Prop) : Prop :=
  ∃ I7 : Nat → Int → Int → Int → Prop, (∃ n, I7 n a1 0 0) ∧ ∀ (n7 : Nat) (x2_7 : Int) (x3_7 : Int) (x4_7 : Int), I7 n7 x2_7 x3_7 x4_7 →
    (((M u 0) ≤ x4_7 → post x3_7) ∧
      (¬ (M u 0) ≤ x4_7 → (0 ≤ x2_7 ∧ 0 < (M u 1)) ∧ (0 ≤ (x2_7 % (M u 1)) ∧ (x2_7 % (M u 1)) < 4) ∧ ∀ z4 : Int, z4 = M (u + 1) ((x2_7 % (M u 1))).toNat → inR (x3_7 + z4) ∧ ∀ v3_29 : Int, v3_29 = (x3_7 + z4) → (0 ≤ x2_7 ∧ 0 < (M u 1)) ∧ ∀ v2_36 : Int, v2_36 = (x2_7 / (M u 1)) → inR (x4_7 + 1) ∧ ∀ v4_37 : Int, v4_37 = x4_7 + 1 → ∃ k_7, k_7 < n7 ∧ I7 k_7 v2_36 v3_29 v4_37))
set_option maxHeartbeats 4000000 in
set_option maxRecDepth 100000 in
theorem mt_S_weightOf (l : Launch) (X : Xw) (hlc : lcl X) (u : Nat) (hS0 : IsS X u) (a1 : Int) (ra1 : inR a1) (M : Mm) (hm_M : mr M) (post : Int → Prop) (sz : Nat) (hw : wp_S_weightOf u a1 M post) : Met l yy_S_weightOf (Cond.code yy_S_weightOf bc_S_weightOf 5 (some .int) :: tg) ({ frames := 0, cells := 0, slots := 0, locals := 0 } : Room) (Pw X [.ref (xA X u), .int (iI a1)] M sz) (Qi X sz (fun r M1 => M1 = M ∧ post r)) 0 0 (xF X sz) := by
  unfold wp_S_weightOf at hw
  refine x_enter (by decide) hlc hm_M (Nat.le_of_ble_eq_true rfl) ?_
  intro p e s m below meth c ls hC hsz hr hlocks hS hl
  have hx := hC.1.1
  have hb := hC.1.2.1
  have hl : lv_has ls 5 [(0, .ref (xA X u)), (1, .int (iI a1))] := hl
  refine lv_iload_n hx hb dd_S_weightOf_0 rfl (lv_at hl 1 rfl) ?_
  refine lv_istore_n (lv' := [(2, .int (iI a1)), (0, .ref (xA X u)), (1, .int (iI a1))]) hx hb dd_S_weightOf_1 rfl hl (by decide) rfl (fun ls hl => ?_)
  refine x_iconst hC dd_S_weightOf_2 ?_
  refine lv_istore_n (lv' := [(3, .int (iI 0)), (2, .int (iI a1)), (0, .ref (xA X u)), (1, .int (iI a1))]) hx hb dd_S_weightOf_3 rfl hl (by decide) rfl (fun ls hl => ?_)
  refine x_iconst hC dd_S_weightOf_4 ?_
  refine lv_istore (lv' := [(4, .int (iI 0)), (3, .int (iI 0)), (2, .int (iI a1)), (0, .ref (xA X u)), (1, .int (iI a1))]) hx hb dd_S_weightOf_5 hl (by decide) rfl (fun ls hl => ?_)
  obtain ⟨I7, ⟨n0, hI⟩, hstep_I7⟩ := hw
  have lp_I7 : ∀ (n7 : Nat) (x2_7 : Int) (x3_7 : Int) (x4_7 : Int) (H : Heap) (locs : List Loc) (ls : Array Slot), I7 n7 x2_7 x3_7 x4_7 → inR x2_7 → inR x3_7 → inR x4_7 → St X (xF X sz) s M H locs → lv_has ls 5 [(0, .ref (xA X u)), (2, .int (iI x2_7)), (3, .int (iI x3_7)), (4, .int (iI x4_7))] → W p l e ({ frames := 0, cells := 0, slots := 0, locals := 0 } : Room) s m ([.ref (xA X u), .int (iI a1)] : List Value).toArray below meth c H locs 0 0 (MQ below (Qi X sz (fun r M1 => M1 = M ∧ post r)) ([.ref (xA X u), .int (iI a1)] : List Value).toArray s 0 0 (xF X sz)) (F0 m 7 ls []) := by
    intro n7
    induction n7 using Nat.strongRecOn with
    | _ n7 ih_I7 =>
      intro x2_7 x3_7 x4_7 H locs ls hI rx2_7 rx3_7 rx4_7 hS hl
      have hw := hstep_I7 n7 x2_7 x3_7 x4_7 hI
      refine lv_iload hx hb dd_S_weightOf_7 (lv_at hl 3 rfl) ?_
      refine lv_aload_n hx hb dd_S_weightOf_9 rfl (lv_at hl 0 rfl) ?_
      refine x_get hC hS hS0.1 rfl iw_S 0 (by decide) tb_77 rfl rfl dd_S_weightOf_10 ?_
      refine x_icmp_ge hC rx4_7 (hm_M u 0) (tgt := 43) dd_S_weightOf_13 (by decide) (fun c1 => ?_) (fun c1 => ?_)
      · have hw := hw.1 c1
        refine lv_iload_n hx hb dd_S_weightOf_43 rfl (lv_at hl 2 rfl) ?_
        exact x_iret hC hS hlocks hr rx3_7 ⟨rfl, hw⟩ dd_S_weightOf_44
      · have hw := hw.2 c1
        refine lv_iload_n hx hb dd_S_weightOf_16 rfl (lv_at hl 2 rfl) ?_
        refine lv_aload_n hx hb dd_S_weightOf_17 rfl (lv_at hl 0 rfl) ?_
        refine x_get hC hS hS0.1 rfl iw_S 2 (by decide) tb_84 rfl rfl dd_S_weightOf_18 ?_
        refine lv_iload_n hx hb dd_S_weightOf_21 rfl (lv_at hl 1 rfl) ?_
        refine lv_aload_n hx hb dd_S_weightOf_22 rfl (lv_at hl 0 rfl) ?_
        refine x_get hC hS hS0.1 rfl iw_S 1 (by decide) tb_81 rfl rfl dd_S_weightOf_23 ?_
        obtain ⟨q2, hw⟩ := hw
        refine x_rem hC rx2_7 (hm_M u 1) q2 dd_S_weightOf_26 ?_
        obtain ⟨q3, hw⟩ := hw
        refine x_iald hC hS hS0.2.1 q3 dd_S_weightOf_27 ?_
        refine x_nm (hm_M (u + 1) _) (fun z4 rz4 ez4 => ?_)
        have hw := hw z4 ez4
        obtain ⟨q5, hw⟩ := hw
        refine x_add hC dd_S_weightOf_28 ?_
        refine x_nm q5 (fun v3_29 rv3_29 ev3_29 => ?_)
        have hw := hw v3_29 ev3_29
        refine lv_istore_n (lv' := [(3, .int (iI v3_29)), (0, .ref (xA X u)), (2, .int (iI x2_7)), (4, .int (iI x4_7))]) hx hb dd_S_weightOf_29 rfl hl (by decide) rfl (fun ls hl => ?_)
        refine lv_iload_n hx hb dd_S_weightOf_30 rfl (lv_at hl 2 rfl) ?_
        refine lv_aload_n hx hb dd_S_weightOf_31 rfl (lv_at hl 1 rfl) ?_
        refine x_get hC hS hS0.1 rfl iw_S 1 (by decide) tb_81 rfl rfl dd_S_weightOf_32 ?_
        obtain ⟨q6, hw⟩ := hw
        refine x_div hC rx2_7 (hm_M u 1) q6 dd_S_weightOf_35 ?_
        refine x_nm (rDiv rx2_7 q6.1 q6.2) (fun v2_36 rv2_36 ev2_36 => ?_)
        have hw := hw v2_36 ev2_36
        refine lv_istore_n (lv' := [(2, .int (iI v2_36)), (3, .int (iI v3_29)), (0, .ref (xA X u)), (4, .int (iI x4_7))]) hx hb dd_S_weightOf_36 rfl hl (by decide) rfl (fun ls hl => ?_)
        obtain ⟨hr_, hw⟩ := hw
        obtain ⟨v4_37, rv4_37, ev4_37⟩ : ∃ z : Int, inR z ∧ z = x4_7 + 1 := ⟨_, hr_, rfl⟩
        have hw := hw v4_37 ev4_37
        refine lv_iinc (v := iI v4_37) (lv' := [(4, .int (iI v4_37)), (2, .int (iI v2_36)), (3, .int (iI v3_29)), (0, .ref (xA X u))]) hx hb dd_S_weightOf_37 hl (k := 3) rfl (by rw [ev4_37]; exact iI_add _ _) (by decide) rfl (fun ls hl => ?_)
        refine lv_goto (tgt := 7) hx hb dd_S_weightOf_40 (by decide) ?_
        obtain ⟨k_7, h8, hI⟩ := hw
        exact ih_I7 k_7 h8 v2_36 v3_29 v4_37 _ _ _ hI rv2_36 rv3_29 rv4_37 hS (lv_sub hl [3, 1, 2, 0] rfl)
  exact lp_I7 n0 a1 0 0 _ _ _ hI ra1 (rk rfl) (rk rfl) hS (lv_sub hl [3, 2, 1, 0] rfl)
def wp_S_coloursOf (u : Nat) (a1 : Int) (M : Mm) (post : Int → Prop) : Prop :=
  ∃ I7 : Nat → Int → Int → Int → Prop, (∃ n, I7 n a1 0 0) ∧ ∀ (n7 : Nat) (x2_7 : Int) (x3_7 : Int) (x4_7 : Int), I7 n7 x2_7 x3_7 x4_7 →
    (((M u 0) ≤ x4_7 → wp_J_bitCount x3_7 (fun (r41 : Int) => post r41)) ∧
      (¬ (M u 0) ≤ x4_7 → (0 ≤ x2_7 ∧ 0 < (M u 1)) ∧ ∀ v3_26 : Int, v3_26 = (bOr x3_7 (bShl 1 (x2_7 % (M u 1)))) → (0 ≤ x2_7 ∧ 0 < (M u 1)) ∧ ∀ v2_33 : Int, v2_33 = (x2_7 / (M u 1)) → inR (x4_7 + 1) ∧ ∀ v4_34 : Int, v4_34 = x4_7 + 1 → ∃ k_4, k_4 < n7 ∧ I7 k_4 v2_33 v3_26 v4_34))
set_option maxHeartbeats 4000000 in
set_option maxRecDepth 100000 in
theorem mt_S_coloursOf (l : Launch) (X : Xw) (hlc : lcl X) (u : Nat) (hS0 : IsS X u) (a1 : Int) (ra1 : inR a1) (M : Mm) (hm_M : mr M) (post : Int → Prop) (sz : Nat) (hw : wp_S_coloursOf u a1 M post) : Met l yy_S_coloursOf (Cond.code yy_S_coloursOf bc_S_coloursOf 5 (some .int) :: tg) ({ frames := 1, cells := 0, slots := 0, locals := 20 } : Room) (Pw X [.ref (xA X u), .int (iI a1)] M sz) (Qi X sz (fun r M1 => M1 = M ∧ post r)) 0 0 (xF X sz) := by
  unfold wp_S_coloursOf at hw
  refine x_enter (by decide) hlc hm_M (Nat.le_of_ble_eq_true rfl) ?_
  intro p e s m below meth c ls hC hsz hr hlocks hS hl
  have hx := hC.1.1
  have hb := hC.1.2.1
  have hl : lv_has ls 5 [(0, .ref (xA X u)), (1, .int (iI a1))] := hl
  refine lv_iload_n hx hb dd_S_coloursOf_0 rfl (lv_at hl 1 rfl) ?_
  refine lv_istore_n (lv' := [(2, .int (iI a1)), (0, .ref (xA X u)), (1, .int (iI a1))]) hx hb dd_S_coloursOf_1 rfl hl (by decide) rfl (fun ls hl => ?_)
  refine x_iconst hC dd_S_coloursOf_2 ?_
  refine lv_istore_n (lv' := [(3, .int (iI 0)), (2, .int (iI a1)), (0, .ref (xA X u)), (1, .int (iI a1))]) hx hb dd_S_coloursOf_3 rfl hl (by decide) rfl (fun ls hl => ?_)
  refine x_iconst hC dd_S_coloursOf_4 ?_
  refine lv_istore (lv' := [(4, .int (iI 0)), (3, .int (iI 0)), (2, .int (iI a1)), (0, .ref (xA X u)), (1, .int (iI a1))]) hx hb dd_S_coloursOf_5 hl (by decide) rfl (fun ls hl => ?_)
  obtain ⟨I7, ⟨n0, hI⟩, hstep_I7⟩ := hw
  have lp_I7 : ∀ (n7 : Nat) (x2_7 : Int) (x3_7 : Int) (x4_7 : Int) (H : Heap) (locs : List Loc) (ls : Array Slot), I7 n7 x2_7 x3_7 x4_7 → inR x2_7 → inR x3_7 → inR x4_7 → St X (xF X sz) s M H locs → lv_has ls 5 [(0, .ref (xA X u)), (2, .int (iI x2_7)), (3, .int (iI x3_7)), (4, .int (iI x4_7))] → W p l e ({ frames := 1, cells := 0, slots := 0, locals := 20 } : Room) s m ([.ref (xA X u), .int (iI a1)] : List Value).toArray below meth c H locs 0 0 (MQ below (Qi X sz (fun r M1 => M1 = M ∧ post r)) ([.ref (xA X u), .int (iI a1)] : List Value).toArray s 0 0 (xF X sz)) (F0 m 7 ls []) := by
    intro n7
    induction n7 using Nat.strongRecOn with
    | _ n7 ih_I7 =>
      intro x2_7 x3_7 x4_7 H locs ls hI rx2_7 rx3_7 rx4_7 hS hl
      have hw := hstep_I7 n7 x2_7 x3_7 x4_7 hI
      refine lv_iload hx hb dd_S_coloursOf_7 (lv_at hl 3 rfl) ?_
      refine lv_aload_n hx hb dd_S_coloursOf_9 rfl (lv_at hl 0 rfl) ?_
      refine x_get hC hS hS0.1 rfl iw_S 0 (by decide) tb_77 rfl rfl dd_S_coloursOf_10 ?_
      refine x_icmp_ge hC rx4_7 (hm_M u 0) (tgt := 40) dd_S_coloursOf_13 (by decide) (fun c1 => ?_) (fun c1 => ?_)
      · have hw := hw.1 c1
        refine lv_iload_n hx hb dd_S_coloursOf_40 rfl (lv_at hl 2 rfl) ?_
        refine x_callSi hC hS (As := [.int (iI x3_7)]) (rest := []) cs_J_bitCount (mt_J_bitCount l X hC.2.2.1  x3_7 rx3_7 M hm_M _ _ hw) tb_385 rfl rfl ⟨Nat.le_of_ble_eq_true rfl, Nat.le_of_ble_eq_true rfl⟩ rfl hl.1 (Nat.le_of_ble_eq_true rfl) dd_S_coloursOf_41 ⟨Nat.le_refl _, Nat.le_refl _⟩ rfl (fun r41 Mx H locs rr41 hp hS => ?_)
        obtain ⟨hq, hw⟩ := hp
        rw [hq] at hS
        exact x_iret hC hS hlocks hr rr41 ⟨rfl, hw⟩ dd_S_coloursOf_44
      · have hw := hw.2 c1
        refine lv_iload_n hx hb dd_S_coloursOf_16 rfl (lv_at hl 2 rfl) ?_
        refine x_iconst hC dd_S_coloursOf_17 ?_
        refine lv_iload_n hx hb dd_S_coloursOf_18 rfl (lv_at hl 1 rfl) ?_
        refine lv_aload_n hx hb dd_S_coloursOf_19 rfl (lv_at hl 0 rfl) ?_
        refine x_get hC hS hS0.1 rfl iw_S 1 (by decide) tb_81 rfl rfl dd_S_coloursOf_20 ?_
        obtain ⟨q2, hw⟩ := hw
        refine x_rem hC rx2_7 (hm_M u 1) q2 dd_S_coloursOf_23 ?_
        refine x_shl hC dd_S_coloursOf_24 ?_
        refine x_or hC dd_S_coloursOf_25 ?_
        refine x_nm (rng _) (fun v3_26 rv3_26 ev3_26 => ?_)
        have hw := hw v3_26 ev3_26
        refine lv_istore_n (lv' := [(3, .int (iI v3_26)), (0, .ref (xA X u)), (2, .int (iI x2_7)), (4, .int (iI x4_7))]) hx hb dd_S_coloursOf_26 rfl hl (by decide) rfl (fun ls hl => ?_)
        refine lv_iload_n hx hb dd_S_coloursOf_27 rfl (lv_at hl 2 rfl) ?_
        refine lv_aload_n hx hb dd_S_coloursOf_28 rfl (lv_at hl 1 rfl) ?_
        refine x_get hC hS hS0.1 rfl iw_S 1 (by decide) tb_81 rfl rfl dd_S_coloursOf_29 ?_
        obtain ⟨q3, hw⟩ := hw
        refine x_div hC rx2_7 (hm_M u 1) q3 dd_S_coloursOf_32 ?_
        refine x_nm (rDiv rx2_7 q3.1 q3.2) (fun v2_33 rv2_33 ev2_33 => ?_)
        have hw := hw v2_33 ev2_33
        refine lv_istore_n (lv' := [(2, .int (iI v2_33)), (3, .int (iI v3_26)), (0, .ref (xA X u)), (4, .int (iI x4_7))]) hx hb dd_S_coloursOf_33 rfl hl (by decide) rfl (fun ls hl => ?_)
        obtain ⟨hr_, hw⟩ := hw
        obtain ⟨v4_34, rv4_34, ev4_34⟩ : ∃ z : Int, inR z ∧ z = x4_7 + 1 := ⟨_, hr_, rfl⟩
        have hw := hw v4_34 ev4_34
        refine lv_iinc (v := iI v4_34) (lv' := [(4, .int (iI v4_34)), (2, .int (iI v2_33)), (3, .int (iI v3_26)), (0, .ref (xA X u))]) hx hb dd_S_coloursOf_34 hl (k := 3) rfl (by rw [ev4_34]; exact iI_add _ _) (by decide) rfl (fun ls hl => ?_)
        refine lv_goto (tgt := 7) hx hb dd_S_coloursOf_37 (by decide) ?_
        obtain ⟨k_4, h5, hI⟩ := hw
        exact ih_I7 k_4 h5 v2_33 v3_26 v4_34 _ _ _ hI rv2_33 rv3_26 rv4_34 hS (lv_sub hl [3, 1, 2, 0] rfl)
  exact lp_I7 n0 a1 0 0 _ _ _ hI ra1 (rk rfl) (rk rfl) hS (lv_sub hl [3, 2, 1, 0] rfl)
def wp_S_copyFrom (u : Nat) (u1 : Nat) (M : Mm) (post : Mm → Prop) : Prop :=
  ∀ M_1 : Mm, M_1 = ms M u 0 (M u1 0) → ∀ M_2 : Mm, M_2 = ms M_1 u 1 (M_1 u1 1) → (0 ≤ (0 : Int) ∧ 0 ≤ (0 : Int) ∧ 0 ≤ (4 : Int) ∧ (0 : Int) + (4 : Int) ≤ 4 ∧ (0 : Int) + (4 : Int) ≤ 4) ∧ ∀ M_3 : Mm, M_3 = mc M_2 (u1 + 1) ((0 : Int)).toNat (u + 1) ((0 : Int)).toNat ((4 : Int)).toNat → wp_G_copyFrom (u + 2) (u1 + 2) M_3 (fun (M_5 : Mm) => post M_5)
set_option maxHeartbeats 4000000 in
set_option maxRecDepth 100000 in
theorem mt_S_copyFrom (l : Launch) (X : Xw) (hlc : lcl X) (u : Nat)  (u1 : Nat) (hS0 : IsS X u) (hu1 : IsS X u1) (M : Mm) (hm_M : mr M) (post : Mm → Prop) (sz : Nat) (hw : wp_S_copyFrom u u1 M post) : Met l yy_S_copyFrom (Cond.code yy_S_copyFrom bc_S_copyFrom 2 none :: tg) ({ frames := 2, cells := 0, slots := 0, locals := 47 } : Room) (Pw X [.ref (xA X u), .ref (xA X u1)] M sz) (Qv X sz post) 0 0 (xF X sz) := by
  unfold wp_S_copyFrom at hw
  refine x_enter (by decide) hlc hm_M (Nat.le_of_ble_eq_true rfl) ?_
  intro p e s m below meth c ls hC hsz hr hlocks hS hl
  have hx := hC.1.1
  have hb := hC.1.2.1
  have hl : lv_has ls 2 [(0, .ref (xA X u)), (1, .ref (xA X u1))] := hl
  refine lv_aload_n hx hb dd_S_copyFrom_0 rfl (lv_at hl 0 rfl) ?_
  refine lv_aload_n hx hb dd_S_copyFrom_1 rfl (lv_at hl 1 rfl) ?_
  refine x_get hC hS hu1.1 rfl iw_S 0 (by decide) tb_77 rfl rfl dd_S_copyFrom_2 ?_
  refine x_put hC hS hS0.1 rfl iw_S fy_S fk_S fn_S 0 (by decide) tb_77 rfl (hm_M u1 0) rfl rfl (ps_S_0 _ _ _ _) (Nat.le_of_ble_eq_true rfl) dd_S_copyFrom_5 (fun H locs hS => ?_)
  obtain ⟨M_1, eM_1⟩ : ∃ Z : Mm, Z = ms M u 0 (M u1 0) := ⟨_, rfl⟩
  rw [← eM_1] at hS
  have hw := hw M_1 eM_1
  have hm_M_1 := hS.2.2.2
  refine lv_aload_n hx hb dd_S_copyFrom_8 rfl (lv_at hl 0 rfl) ?_
  refine lv_aload_n hx hb dd_S_copyFrom_9 rfl (lv_at hl 1 rfl) ?_
  refine x_get hC hS hu1.1 rfl iw_S 1 (by decide) tb_81 rfl rfl dd_S_copyFrom_10 ?_
  refine x_put hC hS hS0.1 rfl iw_S fy_S fk_S fn_S 1 (by decide) tb_81 rfl (hm_M_1 u1 1) rfl rfl (ps_S_1 _ _ _ _) (Nat.le_of_ble_eq_true rfl) dd_S_copyFrom_13 (fun H locs hS => ?_)
  obtain ⟨M_2, eM_2⟩ : ∃ Z : Mm, Z = ms M_1 u 1 (M_1 u1 1) := ⟨_, rfl⟩
  rw [← eM_2] at hS
  have hw := hw M_2 eM_2
  have hm_M_2 := hS.2.2.2
  refine lv_aload_n hx hb dd_S_copyFrom_16 rfl (lv_at hl 1 rfl) ?_
  refine x_get hC hS hu1.1 rfl iw_S 2 (by decide) tb_84 rfl rfl dd_S_copyFrom_17 ?_
  refine x_iconst hC dd_S_copyFrom_20 ?_
  refine lv_aload_n hx hb dd_S_copyFrom_21 rfl (lv_at hl 0 rfl) ?_
  refine x_get hC hS hS0.1 rfl iw_S 2 (by decide) tb_84 rfl rfl dd_S_copyFrom_22 ?_
  refine x_iconst hC dd_S_copyFrom_25 ?_
  refine lv_aload_n hx hb dd_S_copyFrom_26 rfl (lv_at hl 0 rfl) ?_
  refine x_get hC hS hS0.1 rfl iw_S 2 (by decide) tb_84 rfl rfl dd_S_copyFrom_27 ?_
  refine x_alen hC hS (z := 4) hS0.2.1 rfl dd_S_copyFrom_30 ?_
  obtain ⟨q4, hw⟩ := hw
  refine x_copy hC hS hu1.2.1 hS0.2.1 q4.1 q4.2.1 q4.2.2.1 q4.2.2.2.1 q4.2.2.2.2 hl.1 tb_443 tb_445 tb_444 tb_11 (Nat.le_of_ble_eq_true rfl) (Nat.le_of_ble_eq_true rfl) dd_S_copyFrom_31 (fun H locs hS => ?_)
  obtain ⟨M_3, eM_3⟩ : ∃ Z : Mm, Z = mc M_2 (u1 + 1) ((0 : Int)).toNat (u + 1) ((0 : Int)).toNat ((4 : Int)).toNat := ⟨_, rfl⟩
  rw [← eM_3] at hS
  have hw := hw M_3 eM_3
  have hm_M_3 := hS.2.2.2
  refine lv_aload_n hx hb dd_S_copyFrom_34 rfl (lv_at hl 0 rfl) ?_
  refine x_get hC hS hS0.1 rfl iw_S 3 (by decide) tb_86 rfl rfl dd_S_copyFrom_35 ?_
  refine lv_aload_n hx hb dd_S_copyFrom_38 rfl (lv_at hl 1 rfl) ?_
  refine x_get hC hS hu1.1 rfl iw_S 3 (by decide) tb_86 rfl rfl dd_S_copyFrom_39 ?_
  refine x_callVv hC hS (As := [.ref (xA X (u1 + 2))]) (rest := []) hS0.2.2.1 rfl cv_G_copyFrom (mt_G_copyFrom l X hC.2.2.1 (u + 2) (u1 + 2) hS0.2.2 hu1.2.2  M_3 hm_M_3 _ _ hw) tb_446 rfl rfl ⟨Nat.le_of_ble_eq_true rfl, Nat.le_of_ble_eq_true rfl⟩ rfl hl.1 (Nat.le_of_ble_eq_true rfl) dd_S_copyFrom_42 ⟨Nat.le_refl _, Nat.le_refl _⟩ rfl (fun M_5 H locs hw hS => ?_)
  have hm_M_5 := hS.2.2.2
  exact x_vret hC hS hlocks hr hw dd_S_copyFrom_45
def wp_Y_insert (a1 : Int) (a2 : Int) (M : Mm) (post : Mm → Prop) : Prop :=
  ∀ v3_4 : Int, v3_4 = (M 4 2) → ∃ I5 : Nat → Int → Mm → Prop, (∃ n, I5 n v3_4 M) ∧ ∀ (n5 : Nat) (x3_5 : Int) (M5 : Mm), I5 n5 x3_5 M5 →
    ((x3_5 ≤ a1 → (0 ≤ a1 ∧ a1 < 15) ∧ ∀ M_3 : Mm, M_3 = ms M5 5 (a1).toNat a2 → (0 ≤ a1 ∧ a1 < 15) ∧ ∀ M_5 : Mm, M_5 = ms M_3 6 (a1).toNat 1 → inR ((M_5 4 2) + 1) ∧ ∀ M_7 : Mm, M_7 = ms M_5 4 2 ((M_5 4 2) + 1) → post M_7) ∧
      (¬ x3_5 ≤ a1 → inR (x3_5 - 1) ∧ (0 ≤ (x3_5 - 1) ∧ (x3_5 - 1) < 15) ∧ ∀ z10 : Int, z10 = M5 5 ((x3_5 - 1)).toNat → (0 ≤ x3_5 ∧ x3_5 < 15) ∧ ∀ M_12 : Mm, M_12 = ms M5 5 (x3_5).toNat z10 → inR (x3_5 - 1) ∧ (0 ≤ (x3_5 - 1) ∧ (x3_5 - 1) < 15) ∧ ∀ z15 : Int, z15 = M_12 6 ((x3_5 - 1)).toNat → (0 ≤ x3_5 ∧ x3_5 < 15) ∧ ∀ M_17 : Mm, M_17 = ms M_12 6 (x3_5).toNat z15 → inR (x3_5 + (-1)) ∧ ∀ v3_38 : Int, v3_38 = x3_5 + (-1) → ∃ k_18, k_18 < n5 ∧ I5 k_18 v3_38 M_17))
set_option maxHeartbeats 4000000 in
set_option maxRecDepth 100000 in
theorem mt_Y_insert (l : Launch) (X : Xw) (hlc : lcl X)(hY0 : IsY X) (a1 : Int) (ra1 : inR a1) (a2 : Int) (ra2 : inR a2) (M : Mm) (hm_M : mr M) (post : Mm → Prop) (sz : Nat) (hw : wp_Y_insert a1 a2 M post) : Met l yy_Y_insert (Cond.code yy_Y_insert bc_Y_insert 4 none :: tg) ({ frames := 0, cells := 0, slots := 0, locals := 0 } : Room) (Pw X [.ref (xA X 4), .int (iI a1), .int (iI a2)] M sz) (Qv X sz post) 0 0 (xF X sz) := by
  unfold wp_Y_insert at hw
  refine x_enter (by decide) hlc hm_M (Nat.le_of_ble_eq_true rfl) ?_
  intro p e s m below meth c ls hC hsz hr hlocks hS hl
  have hx := hC.1.1
  have hb := hC.1.2.1
  have hl : lv_has ls 4 [(0, .ref (xA X 4)), (1, .int (iI a1)), (2, .int (iI a2))] := hl
  refine lv_aload_n hx hb dd_Y_insert_0 rfl (lv_at hl 0 rfl) ?_
  refine x_get hC hS hY0.1 rfl iw_Y 2 (by decide) tb_125 rfl rfl dd_Y_insert_1 ?_
  refine x_nm (hm_M 4 2) (fun v3_4 rv3_4 ev3_4 => ?_)
  have hw := hw v3_4 ev3_4
  refine lv_istore_n (lv' := [(3, .int (iI v3_4)), (0, .ref (xA X 4)), (1, .int (iI a1)), (2, .int (iI a2))]) hx hb dd_Y_insert_4 rfl hl (by decide) rfl (fun ls hl => ?_)
  obtain ⟨I5, ⟨n0, hI⟩, hstep_I5⟩ := hw
  have lp_I5 : ∀ (n5 : Nat) (x3_5 : Int) (M5 : Mm) (H : Heap) (locs : List Loc) (ls : Array Slot), I5 n5 x3_5 M5 → inR x3_5 → St X (xF X sz) s M5 H locs → lv_has ls 4 [(0, .ref (xA X 4)), (1, .int (iI a1)), (2, .int (iI a2)), (3, .int (iI x3_5))] → W p l e ({ frames := 0, cells := 0, slots := 0, locals := 0 } : Room) s m ([.ref (xA X 4), .int (iI a1), .int (iI a2)] : List Value).toArray below meth c H locs 0 0 (MQ below (Qv X sz post) ([.ref (xA X 4), .int (iI a1), .int (iI a2)] : List Value).toArray s 0 0 (xF X sz)) (F0 m 5 ls []) := by
    intro n5
    induction n5 using Nat.strongRecOn with
    | _ n5 ih_I5 =>
      intro x3_5 M5 H locs ls hI rx3_5 hS hl
      have hw := hstep_I5 n5 x3_5 M5 hI
      have hm_M5 := hS.2.2.2
      refine lv_iload_n hx hb dd_Y_insert_5 rfl (lv_at hl 3 rfl) ?_
      refine lv_iload_n hx hb dd_Y_insert_6 rfl (lv_at hl 1 rfl) ?_
      refine x_icmp_le hC rx3_5 ra1 (tgt := 44) dd_Y_insert_7 (by decide) (fun c1 => ?_) (fun c1 => ?_)
      · have hw := hw.1 c1
        refine lv_aload_n hx hb dd_Y_insert_44 rfl (lv_at hl 0 rfl) ?_
        refine x_get hC hS hY0.1 rfl iw_Y 0 (by decide) tb_121 rfl rfl dd_Y_insert_45 ?_
        refine lv_iload_n hx hb dd_Y_insert_48 rfl (lv_at hl 1 rfl) ?_
        refine lv_iload_n hx hb dd_Y_insert_49 rfl (lv_at hl 2 rfl) ?_
        obtain ⟨q2, hw⟩ := hw
        refine x_iast hC hS hY0.2.1 q2 ra2 dd_Y_insert_50 (fun H locs hS => ?_)
        obtain ⟨M_3, eM_3⟩ : ∃ Z : Mm, Z = ms M5 5 (a1).toNat a2 := ⟨_, rfl⟩
        rw [← eM_3] at hS
        have hw := hw M_3 eM_3
        have hm_M_3 := hS.2.2.2
        refine lv_aload_n hx hb dd_Y_insert_51 rfl (lv_at hl 0 rfl) ?_
        refine x_get hC hS hY0.1 rfl iw_Y 1 (by decide) tb_123 rfl rfl dd_Y_insert_52 ?_
        refine lv_iload_n hx hb dd_Y_insert_55 rfl (lv_at hl 1 rfl) ?_
        refine x_iconst hC dd_Y_insert_56 ?_
        obtain ⟨q4, hw⟩ := hw
        refine x_iast hC hS hY0.2.2 q4 (rk rfl) dd_Y_insert_57 (fun H locs hS => ?_)
        obtain ⟨M_5, eM_5⟩ : ∃ Z : Mm, Z = ms M_3 6 (a1).toNat 1 := ⟨_, rfl⟩
        rw [← eM_5] at hS
        have hw := hw M_5 eM_5
        have hm_M_5 := hS.2.2.2
        refine lv_aload_n hx hb dd_Y_insert_58 rfl (lv_at hl 0 rfl) ?_
        refine lv_dup hx hb dd_Y_insert_59 rfl ?_
        refine x_get hC hS hY0.1 rfl iw_Y 2 (by decide) tb_125 rfl rfl dd_Y_insert_60 ?_
        refine x_iconst hC dd_Y_insert_63 ?_
        obtain ⟨q6, hw⟩ := hw
        refine x_add hC dd_Y_insert_64 ?_
        refine x_put hC hS hY0.1 rfl iw_Y fy_Y fk_Y fn_Y 2 (by decide) tb_125 rfl q6 rfl rfl (ps_Y_2 _ _ _) (Nat.le_of_ble_eq_true rfl) dd_Y_insert_65 (fun H locs hS => ?_)
        obtain ⟨M_7, eM_7⟩ : ∃ Z : Mm, Z = ms M_5 4 2 ((M_5 4 2) + 1) := ⟨_, rfl⟩
        rw [← eM_7] at hS
        have hw := hw M_7 eM_7
        have hm_M_7 := hS.2.2.2
        exact x_vret hC hS hlocks hr hw dd_Y_insert_68
      · have hw := hw.2 c1
        refine lv_aload_n hx hb dd_Y_insert_10 rfl (lv_at hl 0 rfl) ?_
        refine x_get hC hS hY0.1 rfl iw_Y 0 (by decide) tb_121 rfl rfl dd_Y_insert_11 ?_
        refine lv_iload_n hx hb dd_Y_insert_14 rfl (lv_at hl 3 rfl) ?_
        refine lv_aload_n hx hb dd_Y_insert_15 rfl (lv_at hl 0 rfl) ?_
        refine x_get hC hS hY0.1 rfl iw_Y 0 (by decide) tb_121 rfl rfl dd_Y_insert_16 ?_
        refine lv_iload_n hx hb dd_Y_insert_19 rfl (lv_at hl 3 rfl) ?_
        refine x_iconst hC dd_Y_insert_20 ?_
        obtain ⟨q8, hw⟩ := hw
        refine x_sub hC dd_Y_insert_21 ?_
        obtain ⟨q9, hw⟩ := hw
        refine x_iald hC hS hY0.2.1 q9 dd_Y_insert_22 ?_
        refine x_nm (hm_M5 5 _) (fun z10 rz10 ez10 => ?_)
        have hw := hw z10 ez10
        obtain ⟨q11, hw⟩ := hw
        refine x_iast hC hS hY0.2.1 q11 rz10 dd_Y_insert_23 (fun H locs hS => ?_)
        obtain ⟨M_12, eM_12⟩ : ∃ Z : Mm, Z = ms M5 5 (x3_5).toNat z10 := ⟨_, rfl⟩
        rw [← eM_12] at hS
        have hw := hw M_12 eM_12
        have hm_M_12 := hS.2.2.2
        refine lv_aload_n hx hb dd_Y_insert_24 rfl (lv_at hl 0 rfl) ?_
        refine x_get hC hS hY0.1 rfl iw_Y 1 (by decide) tb_123 rfl rfl dd_Y_insert_25 ?_
        refine lv_iload_n hx hb dd_Y_insert_28 rfl (lv_at hl 3 rfl) ?_
        refine lv_aload_n hx hb dd_Y_insert_29 rfl (lv_at hl 0 rfl) ?_
        refine x_get hC hS hY0.1 rfl iw_Y 1 (by decide) tb_123 rfl rfl dd_Y_insert_30 ?_
        refine lv_iload_n hx hb dd_Y_insert_33 rfl (lv_at hl 3 rfl) ?_
        refine x_iconst hC dd_Y_insert_34 ?_
        obtain ⟨q13, hw⟩ := hw
        refine x_sub hC dd_Y_insert_35 ?_
        obtain ⟨q14, hw⟩ := hw
        refine x_iald hC hS hY0.2.2 q14 dd_Y_insert_36 ?_
        refine x_nm (hm_M_12 6 _) (fun z15 rz15 ez15 => ?_)
        have hw := hw z15 ez15
        obtain ⟨q16, hw⟩ := hw
        refine x_iast hC hS hY0.2.2 q16 rz15 dd_Y_insert_37 (fun H locs hS => ?_)
        obtain ⟨M_17, eM_17⟩ : ∃ Z : Mm, Z = ms M_12 6 (x3_5).toNat z15 := ⟨_, rfl⟩
        rw [← eM_17] at hS
        have hw := hw M_17 eM_17
        have hm_M_17 := hS.2.2.2
        obtain ⟨hr_, hw⟩ := hw
        obtain ⟨v3_38, rv3_38, ev3_38⟩ : ∃ z : Int, inR z ∧ z = x3_5 + (-1) := ⟨_, hr_, rfl⟩
        have hw := hw v3_38 ev3_38
        refine lv_iinc (v := iI v3_38) (lv' := [(3, .int (iI v3_38)), (0, .ref (xA X 4)), (1, .int (iI a1)), (2, .int (iI a2))]) hx hb dd_Y_insert_38 hl (k := 3) rfl (by rw [ev3_38]; exact iI_add _ _) (by decide) rfl (fun ls hl => ?_)
        refine lv_goto (tgt := 5) hx hb dd_Y_insert_41 (by decide) ?_
        obtain ⟨k_18, h19, hI⟩ := hw
        exact ih_I5 k_18 h19 v3_38 M_17 _ _ _ hI rv3_38 hS (lv_sub hl [1, 2, 3, 0] rfl)
  exact lp_I5 n0 v3_4 M _ _ _ hI rv3_4 hS (lv_sub hl [1, 2, 3, 0] rfl)
def wp_Y_add (a1 : Int) (M : Mm) (post : Mm → Prop) : Prop :=
  ∃ I2 : Nat → Int → Prop, (∃ n, I2 n 0) ∧ ∀ (n2 : Nat) (x2_2 : Int), I2 n2 x2_2 →
    (∀ K26 : Prop, ((∀ K57 : Prop, (((15 ≤ (M 4 2) → post M) ∧
              (¬ 15 ≤ (M 4 2) → wp_Y_insert x2_2 a1 M (fun (M_2 : Mm) => post M_2))) →
            K57) →
          (((M 4 2) ≤ x2_2 → K57) ∧
          (¬ (M 4 2) ≤ x2_2 → (0 ≤ x2_2 ∧ x2_2 < 15) ∧ ∀ z5 : Int, z5 = M 5 (x2_2).toNat → (¬ z5 = a1 → K57) ∧
            (z5 = a1 → (0 ≤ x2_2 ∧ x2_2 < 15) ∧ ∀ z8 : Int, z8 = M 6 (x2_2).toNat → inR (z8 + 1) ∧ (0 ≤ x2_2 ∧ x2_2 < 15) ∧ ∀ M_11 : Mm, M_11 = ms M 6 (x2_2).toNat (z8 + 1) → post M_11)))) →
        K26) →
      (((M 4 2) ≤ x2_2 → K26) ∧
      (¬ (M 4 2) ≤ x2_2 → (0 ≤ x2_2 ∧ x2_2 < 15) ∧ ∀ z14 : Int, z14 = M 5 (x2_2).toNat → (z14 ≤ a1 → K26) ∧
        (¬ z14 ≤ a1 → inR (x2_2 + 1) ∧ ∀ v2_20 : Int, v2_20 = x2_2 + 1 → ∃ k_16, k_16 < n2 ∧ I2 k_16 v2_20))))
set_option maxHeartbeats 4000000 in
set_option maxRecDepth 100000 in
theorem mt_Y_add (l : Launch) (X : Xw) (hlc : lcl X)(hY0 : IsY X) (a1 : Int) (ra1 : inR a1) (M : Mm) (hm_M : mr M) (post : Mm → Prop) (sz : Nat) (hw : wp_Y_add a1 M post) : Met l yy_Y_add (Cond.code yy_Y_add bc_Y_add 3 none :: tg) ({ frames := 1, cells := 0, slots := 0, locals := 23 } : Room) (Pw X [.ref (xA X 4), .int (iI a1)] M sz) (Qv X sz post) 0 0 (xF X sz) := by
  unfold wp_Y_add at hw
  refine x_enter (by decide) hlc hm_M (Nat.le_of_ble_eq_true rfl) ?_
  intro p e s m below meth c ls hC hsz hr hlocks hS hl
  have hx := hC.1.1
  have hb := hC.1.2.1
  have hl : lv_has ls 3 [(0, .ref (xA X 4)), (1, .int (iI a1))] := hl
  refine x_iconst hC dd_Y_add_0 ?_
  refine lv_istore_n (lv' := [(2, .int (iI 0)), (0, .ref (xA X 4)), (1, .int (iI a1))]) hx hb dd_Y_add_1 rfl hl (by decide) rfl (fun ls hl => ?_)
  obtain ⟨I2, ⟨n0, hI⟩, hstep_I2⟩ := hw
  have lp_I2 : ∀ (n2 : Nat) (x2_2 : Int) (H : Heap) (locs : List Loc) (ls : Array Slot), I2 n2 x2_2 → inR x2_2 → St X (xF X sz) s M H locs → lv_has ls 3 [(0, .ref (xA X 4)), (1, .int (iI a1)), (2, .int (iI x2_2))] → W p l e ({ frames := 1, cells := 0, slots := 0, locals := 23 } : Room) s m ([.ref (xA X 4), .int (iI a1)] : List Value).toArray below meth c H locs 0 0 (MQ below (Qv X sz post) ([.ref (xA X 4), .int (iI a1)] : List Value).toArray s 0 0 (xF X sz)) (F0 m 2 ls []) := by
    intro n2
    induction n2 using Nat.strongRecOn with
    | _ n2 ih_I2 =>
      intro x2_2 H locs ls hI rx2_2 hS hl
      have hw := hstep_I2 n2 x2_2 hI
      refine lv_iload_n hx hb dd_Y_add_2 rfl (lv_at hl 2 rfl) ?_
      refine lv_aload_n hx hb dd_Y_add_3 rfl (lv_at hl 0 rfl) ?_
      refine x_get hC hS hY0.1 rfl iw_Y 2 (by decide) tb_125 rfl rfl dd_Y_add_4 ?_
      have hw := hw (∀ (H : Heap) (locs : List Loc) (ls : Array Slot), St X (xF X sz) s M H locs → lv_has ls 3 [(0, .ref (xA X 4)), (1, .int (iI a1)), (2, .int (iI x2_2))] → W p l e ({ frames := 1, cells := 0, slots := 0, locals := 23 } : Room) s m ([.ref (xA X 4), .int (iI a1)] : List Value).toArray below meth c H locs 0 0 (MQ below (Qv X sz post) ([.ref (xA X 4), .int (iI a1)] : List Value).toArray s 0 0 (xF X sz)) (F0 m 26 ls [])) (by
          intro  hw H locs ls  hS hl
          refine lv_iload_n hx hb dd_Y_add_26 rfl (lv_at hl 2 rfl) ?_
          refine lv_aload_n hx hb dd_Y_add_27 rfl (lv_at hl 0 rfl) ?_
          refine x_get hC hS hY0.1 rfl iw_Y 2 (by decide) tb_125 rfl rfl dd_Y_add_28 ?_
          have hw := hw (∀ (H : Heap) (locs : List Loc) (ls : Array Slot), St X (xF X sz) s M H locs → lv_has ls 3 [(0, .ref (xA X 4)), (1, .int (iI a1)), (2, .int (iI x2_2))] → W p l e ({ frames := 1, cells := 0, slots := 0, locals := 23 } : Room) s m ([.ref (xA X 4), .int (iI a1)] : List Value).toArray below meth c H locs 0 0 (MQ below (Qv X sz post) ([.ref (xA X 4), .int (iI a1)] : List Value).toArray s 0 0 (xF X sz)) (F0 m 57 ls [])) (by
              intro  hw H locs ls  hS hl
              refine lv_aload_n hx hb dd_Y_add_57 rfl (lv_at hl 0 rfl) ?_
              refine x_get hC hS hY0.1 rfl iw_Y 2 (by decide) tb_125 rfl rfl dd_Y_add_58 ?_
              refine x_bipush hC dd_Y_add_61 (by decide) ?_
              refine x_icmp_ge hC (hm_M 4 2) (rk rfl) (tgt := 72) dd_Y_add_63 (by decide) (fun c1 => ?_) (fun c1 => ?_)
              · have hw := hw.1 c1
                exact x_vret hC hS hlocks hr hw dd_Y_add_72
              · have hw := hw.2 c1
                refine lv_aload_n hx hb dd_Y_add_66 rfl (lv_at hl 0 rfl) ?_
                refine lv_iload_n hx hb dd_Y_add_67 rfl (lv_at hl 2 rfl) ?_
                refine lv_iload_n hx hb dd_Y_add_68 rfl (lv_at hl 1 rfl) ?_
                refine x_callVv hC hS (As := [.int (iI x2_2), .int (iI a1)]) (rest := []) hY0.1 rfl cv_Y_insert (mt_Y_insert l X hC.2.2.1 hY0 x2_2 rx2_2 a1 ra1 M hm_M _ _ hw) tb_296 rfl rfl ⟨Nat.le_of_ble_eq_true rfl, Nat.le_of_ble_eq_true rfl⟩ rfl hl.1 (Nat.le_of_ble_eq_true rfl) dd_Y_add_69 ⟨Nat.le_refl _, Nat.le_refl _⟩ rfl (fun M_2 H locs hw hS => ?_)
                have hm_M_2 := hS.2.2.2
                exact x_vret hC hS hlocks hr hw dd_Y_add_72)
          refine x_icmp_ge hC rx2_2 (hm_M 4 2) (tgt := 57) dd_Y_add_31 (by decide) (fun c3 => ?_) (fun c3 => ?_)
          · have hw := hw.1 c3
            exact hw _ _ _  hS (lv_sub hl [0, 1, 2] rfl)
          · have hw := hw.2 c3
            refine lv_aload_n hx hb dd_Y_add_34 rfl (lv_at hl 0 rfl) ?_
            refine x_get hC hS hY0.1 rfl iw_Y 0 (by decide) tb_121 rfl rfl dd_Y_add_35 ?_
            refine lv_iload_n hx hb dd_Y_add_38 rfl (lv_at hl 2 rfl) ?_
            obtain ⟨q4, hw⟩ := hw
            refine x_iald hC hS hY0.2.1 q4 dd_Y_add_39 ?_
            refine x_nm (hm_M 5 _) (fun z5 rz5 ez5 => ?_)
            have hw := hw z5 ez5
            refine lv_iload_n hx hb dd_Y_add_40 rfl (lv_at hl 1 rfl) ?_
            refine x_icmp_ne hC rz5 ra1 (tgt := 57) dd_Y_add_41 (by decide) (fun c6 => ?_) (fun c6 => ?_)
            · have hw := hw.1 c6
              exact hw _ _ _  hS (lv_sub hl [0, 1, 2] rfl)
            · have hw := hw.2 c6
              refine lv_aload_n hx hb dd_Y_add_44 rfl (lv_at hl 0 rfl) ?_
              refine x_get hC hS hY0.1 rfl iw_Y 1 (by decide) tb_123 rfl rfl dd_Y_add_45 ?_
              refine lv_iload_n hx hb dd_Y_add_48 rfl (lv_at hl 2 rfl) ?_
              refine lv_dup2_11 hx hb dd_Y_add_49 rfl rfl ?_
              obtain ⟨q7, hw⟩ := hw
              refine x_iald hC hS hY0.2.2 q7 dd_Y_add_50 ?_
              refine x_nm (hm_M 6 _) (fun z8 rz8 ez8 => ?_)
              have hw := hw z8 ez8
              refine x_iconst hC dd_Y_add_51 ?_
              obtain ⟨q9, hw⟩ := hw
              refine x_add hC dd_Y_add_52 ?_
              obtain ⟨q10, hw⟩ := hw
              refine x_iast hC hS hY0.2.2 q10 q9 dd_Y_add_53 (fun H locs hS => ?_)
              obtain ⟨M_11, eM_11⟩ : ∃ Z : Mm, Z = ms M 6 (x2_2).toNat (z8 + 1) := ⟨_, rfl⟩
              rw [← eM_11] at hS
              have hw := hw M_11 eM_11
              have hm_M_11 := hS.2.2.2
              refine lv_goto (tgt := 72) hx hb dd_Y_add_54 (by decide) ?_
              exact x_vret hC hS hlocks hr hw dd_Y_add_72)
      refine x_icmp_ge hC rx2_2 (hm_M 4 2) (tgt := 26) dd_Y_add_7 (by decide) (fun c12 => ?_) (fun c12 => ?_)
      · have hw := hw.1 c12
        exact hw _ _ _  hS (lv_sub hl [0, 1, 2] rfl)
      · have hw := hw.2 c12
        refine lv_aload_n hx hb dd_Y_add_10 rfl (lv_at hl 0 rfl) ?_
        refine x_get hC hS hY0.1 rfl iw_Y 0 (by decide) tb_121 rfl rfl dd_Y_add_11 ?_
        refine lv_iload_n hx hb dd_Y_add_14 rfl (lv_at hl 2 rfl) ?_
        obtain ⟨q13, hw⟩ := hw
        refine x_iald hC hS hY0.2.1 q13 dd_Y_add_15 ?_
        refine x_nm (hm_M 5 _) (fun z14 rz14 ez14 => ?_)
        have hw := hw z14 ez14
        refine lv_iload_n hx hb dd_Y_add_16 rfl (lv_at hl 1 rfl) ?_
        refine x_icmp_le hC rz14 ra1 (tgt := 26) dd_Y_add_17 (by decide) (fun c15 => ?_) (fun c15 => ?_)
        · have hw := hw.1 c15
          exact hw _ _ _  hS (lv_sub hl [0, 1, 2] rfl)
        · have hw := hw.2 c15
          obtain ⟨hr_, hw⟩ := hw
          obtain ⟨v2_20, rv2_20, ev2_20⟩ : ∃ z : Int, inR z ∧ z = x2_2 + 1 := ⟨_, hr_, rfl⟩
          have hw := hw v2_20 ev2_20
          refine lv_iinc (v := iI v2_20) (lv' := [(2, .int (iI v2_20)), (0, .ref (xA X 4)), (1, .int (iI a1))]) hx hb dd_Y_add_20 hl (k := 2) rfl (by rw [ev2_20]; exact iI_add _ _) (by decide) rfl (fun ls hl => ?_)
          refine lv_goto (tgt := 2) hx hb dd_Y_add_23 (by decide) ?_
          obtain ⟨k_16, h17, hI⟩ := hw
          exact ih_I2 k_16 h17 v2_20 _ _ _ hI rv2_20 hS (lv_sub hl [1, 2, 0] rfl)
  exact lp_I2 n0 0 _ _ _ hI (rk rfl) hS (lv_sub hl [1, 2, 0] rfl)
def wp_Y_bringUp (u1 : Nat) (M : Mm) (post : Mm → Prop) : Prop :=
  ((M 4 3) = 0 → ∀ M_2 : Mm, M_2 = ms M 4 2 0 → ∃ I15 : Nat → Int → Mm → Prop, (∃ n, I15 n 0 M_2) ∧ ∀ (n15 : Nat) (x2_15 : Int) (M15 : Mm), I15 n15 x2_15 M15 →
      (((M15 (u1 + 2) 1) ≤ x2_15 → ∀ M_4 : Mm, M_4 = ms M15 4 3 1 → post M_4) ∧
        (¬ (M15 (u1 + 2) 1) ≤ x2_15 → (0 ≤ x2_15 ∧ x2_15 < 5040) ∧ ∀ z6 : Int, z6 = M15 ((u1 + 2) + 1) (x2_15).toNat → wp_U_typeOf z6 (M15 u1 0) (fun (r40 : Int) => wp_Y_add r40 M15 (fun (M_7 : Mm) => inR (x2_15 + 1) ∧ ∀ v2_46 : Int, v2_46 = x2_15 + 1 → ∃ k_8, k_8 < n15 ∧ I15 k_8 v2_46 M_7))))) ∧
  (¬ (M 4 3) = 0 → post M)
set_option maxHeartbeats 4000000 in
set_option maxRecDepth 100000 in
theorem mt_Y_bringUp (l : Launch) (X : Xw) (hlc : lcl X) (u1 : Nat) (hY0 : IsY X) (hu1 : IsS X u1) (M : Mm) (hm_M : mr M) (post : Mm → Prop) (sz : Nat) (hw : wp_Y_bringUp u1 M post) : Met l yy_Y_bringUp (Cond.code yy_Y_bringUp bc_Y_bringUp 3 none :: tg) ({ frames := 3, cells := 0, slots := 0, locals := 73 } : Room) (Pw X [.ref (xA X 4), .ref (xA X u1)] M sz) (Qv X sz post) 0 0 (xF X sz) := by
  unfold wp_Y_bringUp at hw
  refine x_enter (by decide) hlc hm_M (Nat.le_of_ble_eq_true rfl) ?_
  intro p e s m below meth c ls hC hsz hr hlocks hS hl
  have hx := hC.1.1
  have hb := hC.1.2.1
  have hl : lv_has ls 3 [(0, .ref (xA X 4)), (1, .ref (xA X u1))] := hl
  refine lv_aload_n hx hb dd_Y_bringUp_0 rfl (lv_at hl 0 rfl) ?_
  refine x_get hC hS hY0.1 rfl iw_Y 3 (by decide) tb_127 rfl rfl dd_Y_bringUp_1 ?_
  refine x_if_eq hC (hm_M 4 3) (tgt := 8) dd_Y_bringUp_4 (by decide) (fun c1 => ?_) (fun c1 => ?_)
  · have hw := hw.1 c1
    refine lv_aload_n hx hb dd_Y_bringUp_8 rfl (lv_at hl 0 rfl) ?_
    refine x_iconst hC dd_Y_bringUp_9 ?_
    refine x_put hC hS hY0.1 rfl iw_Y fy_Y fk_Y fn_Y 2 (by decide) tb_125 rfl (rk rfl) rfl rfl (ps_Y_2 _ _ _) (Nat.le_of_ble_eq_true rfl) dd_Y_bringUp_10 (fun H locs hS => ?_)
    obtain ⟨M_2, eM_2⟩ : ∃ Z : Mm, Z = ms M 4 2 0 := ⟨_, rfl⟩
    rw [← eM_2] at hS
    have hw := hw M_2 eM_2
    have hm_M_2 := hS.2.2.2
    refine x_iconst hC dd_Y_bringUp_13 ?_
    refine lv_istore_n (lv' := [(2, .int (iI 0)), (0, .ref (xA X 4)), (1, .ref (xA X u1))]) hx hb dd_Y_bringUp_14 rfl hl (by decide) rfl (fun ls hl => ?_)
    obtain ⟨I15, ⟨n0, hI⟩, hstep_I15⟩ := hw
    have lp_I15 : ∀ (n15 : Nat) (x2_15 : Int) (M15 : Mm) (H : Heap) (locs : List Loc) (ls : Array Slot), I15 n15 x2_15 M15 → inR x2_15 → St X (xF X sz) s M15 H locs → lv_has ls 3 [(0, .ref (xA X 4)), (1, .ref (xA X u1)), (2, .int (iI x2_15))] → W p l e ({ frames := 3, cells := 0, slots := 0, locals := 73 } : Room) s m ([.ref (xA X 4), .ref (xA X u1)] : List Value).toArray below meth c H locs 0 0 (MQ below (Qv X sz post) ([.ref (xA X 4), .ref (xA X u1)] : List Value).toArray s 0 0 (xF X sz)) (F0 m 15 ls []) := by
      intro n15
      induction n15 using Nat.strongRecOn with
      | _ n15 ih_I15 =>
        intro x2_15 M15 H locs ls hI rx2_15 hS hl
        have hw := hstep_I15 n15 x2_15 M15 hI
        have hm_M15 := hS.2.2.2
        refine lv_iload_n hx hb dd_Y_bringUp_15 rfl (lv_at hl 2 rfl) ?_
        refine lv_aload_n hx hb dd_Y_bringUp_16 rfl (lv_at hl 1 rfl) ?_
        refine x_get hC hS hu1.1 rfl iw_S 3 (by decide) tb_87 rfl rfl dd_Y_bringUp_17 ?_
        refine x_get hC hS hu1.2.2.1 rfl iw_G 1 (by decide) tb_56 rfl rfl dd_Y_bringUp_20 ?_
        refine x_icmp_ge hC rx2_15 (hm_M15 (u1 + 2) 1) (tgt := 52) dd_Y_bringUp_23 (by decide) (fun c3 => ?_) (fun c3 => ?_)
        · have hw := hw.1 c3
          refine lv_aload_n hx hb dd_Y_bringUp_52 rfl (lv_at hl 0 rfl) ?_
          refine x_iconst hC dd_Y_bringUp_53 ?_
          refine x_put hC hS hY0.1 rfl iw_Y fy_Y fk_Y fn_Y 3 (by decide) tb_127 rfl (rk rfl) rfl rfl (ps_Y_3 _ _ _) (Nat.le_of_ble_eq_true rfl) dd_Y_bringUp_54 (fun H locs hS => ?_)
          obtain ⟨M_4, eM_4⟩ : ∃ Z : Mm, Z = ms M15 4 3 1 := ⟨_, rfl⟩
          rw [← eM_4] at hS
          have hw := hw M_4 eM_4
          have hm_M_4 := hS.2.2.2
          exact x_vret hC hS hlocks hr hw dd_Y_bringUp_57
        · have hw := hw.2 c3
          refine lv_aload_n hx hb dd_Y_bringUp_26 rfl (lv_at hl 0 rfl) ?_
          refine lv_aload_n hx hb dd_Y_bringUp_27 rfl (lv_at hl 1 rfl) ?_
          refine x_get hC hS hu1.1 rfl iw_S 3 (by decide) tb_87 rfl rfl dd_Y_bringUp_28 ?_
          refine x_get hC hS hu1.2.2.1 rfl iw_G 0 (by decide) tb_54 rfl rfl dd_Y_bringUp_31 ?_
          refine lv_iload_n hx hb dd_Y_bringUp_34 rfl (lv_at hl 2 rfl) ?_
          obtain ⟨q5, hw⟩ := hw
          refine x_iald hC hS hu1.2.2.2.1 q5 dd_Y_bringUp_35 ?_
          refine x_nm (hm_M15 ((u1 + 2) + 1) _) (fun z6 rz6 ez6 => ?_)
          have hw := hw z6 ez6
          refine lv_aload_n hx hb dd_Y_bringUp_36 rfl (lv_at hl 1 rfl) ?_
          refine x_get hC hS hu1.1 rfl iw_S 0 (by decide) tb_79 rfl rfl dd_Y_bringUp_37 ?_
          refine x_callSi hC hS (As := [.int (iI z6), .int (iI (M15 u1 0))]) (rest := [.ref (xA X 4)]) cs_U_typeOf (mt_U_typeOf l X hC.2.2.1  z6 rz6 (M15 u1 0) (hm_M15 u1 0) M15 hm_M15 _ _ hw) tb_291 rfl rfl ⟨Nat.le_of_ble_eq_true rfl, Nat.le_of_ble_eq_true rfl⟩ rfl hl.1 (Nat.le_of_ble_eq_true rfl) dd_Y_bringUp_40 ⟨Nat.le_refl _, Nat.le_refl _⟩ rfl (fun r40 Mx H locs rr40 hp hS => ?_)
          obtain ⟨hq, hw⟩ := hp
          rw [hq] at hS
          refine x_callVv hC hS (As := [.int (iI r40)]) (rest := []) hY0.1 rfl cv_Y_add (mt_Y_add l X hC.2.2.1 hY0 r40 rr40 M15 hm_M15 _ _ hw) tb_292 rfl rfl ⟨Nat.le_of_ble_eq_true rfl, Nat.le_of_ble_eq_true rfl⟩ rfl hl.1 (Nat.le_of_ble_eq_true rfl) dd_Y_bringUp_43 ⟨Nat.le_refl _, Nat.le_refl _⟩ rfl (fun M_7 H locs hw hS => ?_)
          have hm_M_7 := hS.2.2.2
          obtain ⟨hr_, hw⟩ := hw
          obtain ⟨v2_46, rv2_46, ev2_46⟩ : ∃ z : Int, inR z ∧ z = x2_15 + 1 := ⟨_, hr_, rfl⟩
          have hw := hw v2_46 ev2_46
          refine lv_iinc (v := iI v2_46) (lv' := [(2, .int (iI v2_46)), (0, .ref (xA X 4)), (1, .ref (xA X u1))]) hx hb dd_Y_bringUp_46 hl (k := 2) rfl (by rw [ev2_46]; exact iI_add _ _) (by decide) rfl (fun ls hl => ?_)
          refine lv_goto (tgt := 15) hx hb dd_Y_bringUp_49 (by decide) ?_
          obtain ⟨k_8, h9, hI⟩ := hw
          exact ih_I15 k_8 h9 v2_46 M_7 _ _ _ hI rv2_46 hS (lv_sub hl [1, 2, 0] rfl)
    exact lp_I15 n0 0 M_2 _ _ _ hI (rk rfl) hS (lv_sub hl [1, 2, 0] rfl)
  · have hw := hw.2 c1
    exact x_vret hC hS hlocks hr hw dd_Y_bringUp_7
end
