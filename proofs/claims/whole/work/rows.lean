section
-- ===== PART A: goes FIRST, ahead of the names: the tables' words, and 'selects' of the private methods out of them =====
/-- a private method of a class that the tables say can be made, by its rows of tables_1 -/
def lw_okq (q : MethodName × Nat) : Prop := (q.1.cls ≠ "java/lang/invoke/MethodHandle" ∧ q.1.cls ≠ "java/lang/invoke/VarHandle") ∧ Cond.instantiable q.1.cls q.2 ∈ tables_1 ∧ Cond.privateMethod q.1 ∈ tables_1 ∧ Cond.instanceMethod q.1 ∈ tables_1
theorem lw_p0 : lw_okq (⟨"FogSheets", "found", "(I)I"⟩, 9) := ⟨⟨by decide +kernel, by decide +kernel⟩, List.mem_of_getElem? (i := 14) (by decide +kernel), List.mem_of_getElem? (i := 279) (by decide +kernel), List.mem_of_getElem? (i := 280) (by decide +kernel)⟩
theorem lw_p1 : lw_okq (⟨"FogSheets", "well", "(I)I"⟩, 9) := ⟨⟨by decide +kernel, by decide +kernel⟩, List.mem_of_getElem? (i := 14) (by decide +kernel), List.mem_of_getElem? (i := 291) (by decide +kernel), List.mem_of_getElem? (i := 292) (by decide +kernel)⟩
theorem lw_p2 : lw_okq (⟨"FogSheets$Row", "lowestBits", "(I)I"⟩, 4) := ⟨⟨by decide +kernel, by decide +kernel⟩, List.mem_of_getElem? (i := 216) (by decide +kernel), List.mem_of_getElem? (i := 307) (by decide +kernel), List.mem_of_getElem? (i := 308) (by decide +kernel)⟩
theorem lw_p3 : lw_okq (⟨"FogSheets$Reader", "nextToken", "()V"⟩, 8) := ⟨⟨by decide +kernel, by decide +kernel⟩, List.mem_of_getElem? (i := 24) (by decide +kernel), List.mem_of_getElem? (i := 344) (by decide +kernel), List.mem_of_getElem? (i := 345) (by decide +kernel)⟩
theorem lw_p4 : lw_okq (⟨"FogSheets$Reader", "readFigures", "()V"⟩, 8) := ⟨⟨by decide +kernel, by decide +kernel⟩, List.mem_of_getElem? (i := 24) (by decide +kernel), List.mem_of_getElem? (i := 352) (by decide +kernel), List.mem_of_getElem? (i := 353) (by decide +kernel)⟩
theorem lw_p5 : lw_okq (⟨"FogSheets$Reader", "readLaw", "()V"⟩, 8) := ⟨⟨by decide +kernel, by decide +kernel⟩, List.mem_of_getElem? (i := 24) (by decide +kernel), List.mem_of_getElem? (i := 356) (by decide +kernel), List.mem_of_getElem? (i := 357) (by decide +kernel)⟩
theorem lw_p6 : lw_okq (⟨"FogSheets$Reader", "take", "(I)V"⟩, 8) := ⟨⟨by decide +kernel, by decide +kernel⟩, List.mem_of_getElem? (i := 24) (by decide +kernel), List.mem_of_getElem? (i := 360) (by decide +kernel), List.mem_of_getElem? (i := 361) (by decide +kernel)⟩
theorem lw_p7 : lw_okq (⟨"FogSheets$Reader", "fail", "(I)V"⟩, 8) := ⟨⟨by decide +kernel, by decide +kernel⟩, List.mem_of_getElem? (i := 24) (by decide +kernel), List.mem_of_getElem? (i := 364) (by decide +kernel), List.mem_of_getElem? (i := 365) (by decide +kernel)⟩
theorem lw_p8 : lw_okq (⟨"FogSheets$Reader", "takeNumber", "(II)I"⟩, 8) := ⟨⟨by decide +kernel, by decide +kernel⟩, List.mem_of_getElem? (i := 24) (by decide +kernel), List.mem_of_getElem? (i := 368) (by decide +kernel), List.mem_of_getElem? (i := 369) (by decide +kernel)⟩
theorem lw_p9 : lw_okq (⟨"FogSheets$Reader", "readWinds", "()V"⟩, 8) := ⟨⟨by decide +kernel, by decide +kernel⟩, List.mem_of_getElem? (i := 24) (by decide +kernel), List.mem_of_getElem? (i := 372) (by decide +kernel), List.mem_of_getElem? (i := 373) (by decide +kernel)⟩
theorem lw_p10 : lw_okq (⟨"FogSheets$Reader", "readWind", "()V"⟩, 8) := ⟨⟨by decide +kernel, by decide +kernel⟩, List.mem_of_getElem? (i := 24) (by decide +kernel), List.mem_of_getElem? (i := 376) (by decide +kernel), List.mem_of_getElem? (i := 377) (by decide +kernel)⟩
theorem lw_p11 : lw_okq (⟨"FogSheets$Reader", "readSheets", "()V"⟩, 8) := ⟨⟨by decide +kernel, by decide +kernel⟩, List.mem_of_getElem? (i := 24) (by decide +kernel), List.mem_of_getElem? (i := 384) (by decide +kernel), List.mem_of_getElem? (i := 385) (by decide +kernel)⟩
theorem lw_p12 : lw_okq (⟨"FogSheets$Reader", "readSheet", "()V"⟩, 8) := ⟨⟨by decide +kernel, by decide +kernel⟩, List.mem_of_getElem? (i := 24) (by decide +kernel), List.mem_of_getElem? (i := 388) (by decide +kernel), List.mem_of_getElem? (i := 389) (by decide +kernel)⟩
theorem lw_p13 : lw_okq (⟨"FogSheets$Estuary", "drift", "(II)V"⟩, 16) := ⟨⟨by decide +kernel, by decide +kernel⟩, List.mem_of_getElem? (i := 30) (by decide +kernel), List.mem_of_getElem? (i := 454) (by decide +kernel), List.mem_of_getElem? (i := 455) (by decide +kernel)⟩
theorem lw_p14 : lw_okq (⟨"FogSheets$Estuary", "thickened", "(IZ)I"⟩, 16) := ⟨⟨by decide +kernel, by decide +kernel⟩, List.mem_of_getElem? (i := 30) (by decide +kernel), List.mem_of_getElem? (i := 461) (by decide +kernel), List.mem_of_getElem? (i := 462) (by decide +kernel)⟩
theorem lw_p15 : lw_okq (⟨"FogSheets$Estuary", "giveNumbers", "()V"⟩, 16) := ⟨⟨by decide +kernel, by decide +kernel⟩, List.mem_of_getElem? (i := 30) (by decide +kernel), List.mem_of_getElem? (i := 470) (by decide +kernel), List.mem_of_getElem? (i := 471) (by decide +kernel)⟩
def lw_privs_1 : List (MethodName × Nat) := [(⟨"FogSheets", "found", "(I)I"⟩, 9), (⟨"FogSheets", "well", "(I)I"⟩, 9), (⟨"FogSheets$Row", "lowestBits", "(I)I"⟩, 4), (⟨"FogSheets$Reader", "nextToken", "()V"⟩, 8), (⟨"FogSheets$Reader", "readFigures", "()V"⟩, 8), (⟨"FogSheets$Reader", "readLaw", "()V"⟩, 8), (⟨"FogSheets$Reader", "take", "(I)V"⟩, 8), (⟨"FogSheets$Reader", "fail", "(I)V"⟩, 8), (⟨"FogSheets$Reader", "takeNumber", "(II)I"⟩, 8), (⟨"FogSheets$Reader", "readWinds", "()V"⟩, 8), (⟨"FogSheets$Reader", "readWind", "()V"⟩, 8), (⟨"FogSheets$Reader", "readSheets", "()V"⟩, 8), (⟨"FogSheets$Reader", "readSheet", "()V"⟩, 8), (⟨"FogSheets$Estuary", "drift", "(II)V"⟩, 16), (⟨"FogSheets$Estuary", "thickened", "(IZ)I"⟩, 16), (⟨"FogSheets$Estuary", "giveNumbers", "()V"⟩, 16)]
theorem lw_r1 : ∀ q ∈ lw_privs_1, lw_okq q := List.forall_mem_cons.mpr ⟨lw_p0, List.forall_mem_cons.mpr ⟨lw_p1, List.forall_mem_cons.mpr ⟨lw_p2, List.forall_mem_cons.mpr ⟨lw_p3, List.forall_mem_cons.mpr ⟨lw_p4, List.forall_mem_cons.mpr ⟨lw_p5, List.forall_mem_cons.mpr ⟨lw_p6, List.forall_mem_cons.mpr ⟨lw_p7, List.forall_mem_cons.mpr ⟨lw_p8, List.forall_mem_cons.mpr ⟨lw_p9, List.forall_mem_cons.mpr ⟨lw_p10, List.forall_mem_cons.mpr ⟨lw_p11, List.forall_mem_cons.mpr ⟨lw_p12, List.forall_mem_cons.mpr ⟨lw_p13, List.forall_mem_cons.mpr ⟨lw_p14, List.forall_mem_cons.mpr ⟨lw_p15, fun _ h => absurd h List.not_mem_nil⟩⟩⟩⟩⟩⟩⟩⟩⟩⟩⟩⟩⟩⟩⟩⟩
theorem lw_p16 : lw_okq (⟨"FogSheets$Foreteller", "weighWalks", "(LFogSheets$Estuary;I)V"⟩, 6) := ⟨⟨by decide +kernel, by decide +kernel⟩, List.mem_of_getElem? (i := 173) (by decide +kernel), List.mem_of_getElem? (i := 599) (by decide +kernel), List.mem_of_getElem? (i := 600) (by decide +kernel)⟩
theorem lw_p17 : lw_okq (⟨"FogSheets$Foreteller", "noteOver", "([I)V"⟩, 6) := ⟨⟨by decide +kernel, by decide +kernel⟩, List.mem_of_getElem? (i := 173) (by decide +kernel), List.mem_of_getElem? (i := 603) (by decide +kernel), List.mem_of_getElem? (i := 604) (by decide +kernel)⟩
theorem lw_p18 : lw_okq (⟨"FogSheets$Foreteller", "bestNext", "(II)I"⟩, 6) := ⟨⟨by decide +kernel, by decide +kernel⟩, List.mem_of_getElem? (i := 173) (by decide +kernel), List.mem_of_getElem? (i := 609) (by decide +kernel), List.mem_of_getElem? (i := 610) (by decide +kernel)⟩
theorem lw_p19 : lw_okq (⟨"FogSheets$Foreteller", "weightOf", "(II)I"⟩, 6) := ⟨⟨by decide +kernel, by decide +kernel⟩, List.mem_of_getElem? (i := 173) (by decide +kernel), List.mem_of_getElem? (i := 617) (by decide +kernel), List.mem_of_getElem? (i := 618) (by decide +kernel)⟩
theorem lw_p20 : lw_okq (⟨"FogSheets$Foreteller", "numberedBy", "(II)I"⟩, 6) := ⟨⟨by decide +kernel, by decide +kernel⟩, List.mem_of_getElem? (i := 173) (by decide +kernel), List.mem_of_getElem? (i := 659) (by decide +kernel), List.mem_of_getElem? (i := 660) (by decide +kernel)⟩
theorem lw_p21 : lw_okq (⟨"FogSheets$Estuary", "thicknessOfSet", "(I)I"⟩, 16) := ⟨⟨by decide +kernel, by decide +kernel⟩, List.mem_of_getElem? (i := 30) (by decide +kernel), List.mem_of_getElem? (i := 672) (by decide +kernel), List.mem_of_getElem? (i := 673) (by decide +kernel)⟩
theorem lw_p22 : lw_okq (⟨"FogSheets$Foreteller", "walkersTurn", "(III)I"⟩, 6) := ⟨⟨by decide +kernel, by decide +kernel⟩, List.mem_of_getElem? (i := 173) (by decide +kernel), List.mem_of_getElem? (i := 695) (by decide +kernel), List.mem_of_getElem? (i := 696) (by decide +kernel)⟩
theorem lw_p23 : lw_okq (⟨"FogSheets$Foreteller", "courtsTurn", "(III)I"⟩, 6) := ⟨⟨by decide +kernel, by decide +kernel⟩, List.mem_of_getElem? (i := 173) (by decide +kernel), List.mem_of_getElem? (i := 699) (by decide +kernel), List.mem_of_getElem? (i := 700) (by decide +kernel)⟩
theorem lw_p24 : lw_okq (⟨"FogSheets", "allThatFits", "(IIIII)I"⟩, 9) := ⟨⟨by decide +kernel, by decide +kernel⟩, List.mem_of_getElem? (i := 14) (by decide +kernel), List.mem_of_getElem? (i := 707) (by decide +kernel), List.mem_of_getElem? (i := 708) (by decide +kernel)⟩
theorem lw_p25 : lw_okq (⟨"FogSheets$Foreteller", "suppose", "(III)V"⟩, 6) := ⟨⟨by decide +kernel, by decide +kernel⟩, List.mem_of_getElem? (i := 173) (by decide +kernel), List.mem_of_getElem? (i := 723) (by decide +kernel), List.mem_of_getElem? (i := 724) (by decide +kernel)⟩
theorem lw_p26 : lw_okq (⟨"FogSheets$Foreteller", "isAsTold", "()Z"⟩, 6) := ⟨⟨by decide +kernel, by decide +kernel⟩, List.mem_of_getElem? (i := 173) (by decide +kernel), List.mem_of_getElem? (i := 727) (by decide +kernel), List.mem_of_getElem? (i := 728) (by decide +kernel)⟩
theorem lw_p27 : lw_okq (⟨"FogSheets$Foreteller", "drawOne", "(I)V"⟩, 6) := ⟨⟨by decide +kernel, by decide +kernel⟩, List.mem_of_getElem? (i := 173) (by decide +kernel), List.mem_of_getElem? (i := 757) (by decide +kernel), List.mem_of_getElem? (i := 758) (by decide +kernel)⟩
theorem lw_p28 : lw_okq (⟨"FogSheets$Asks", "answer", "(LFogSheets$Estuary;III)I"⟩, 2) := ⟨⟨by decide +kernel, by decide +kernel⟩, List.mem_of_getElem? (i := 202) (by decide +kernel), List.mem_of_getElem? (i := 792) (by decide +kernel), List.mem_of_getElem? (i := 793) (by decide +kernel)⟩
theorem lw_p29 : lw_okq (⟨"FogSheets$Asks", "begin", "(ILFogSheets$Estuary;II)I"⟩, 2) := ⟨⟨by decide +kernel, by decide +kernel⟩, List.mem_of_getElem? (i := 202) (by decide +kernel), List.mem_of_getElem? (i := 804) (by decide +kernel), List.mem_of_getElem? (i := 805) (by decide +kernel)⟩
theorem lw_p30 : lw_okq (⟨"FogSheets$Asks", "leave", "(I)V"⟩, 2) := ⟨⟨by decide +kernel, by decide +kernel⟩, List.mem_of_getElem? (i := 202) (by decide +kernel), List.mem_of_getElem? (i := 808) (by decide +kernel), List.mem_of_getElem? (i := 809) (by decide +kernel)⟩
theorem lw_p31 : lw_okq (⟨"FogSheets", "rowsThere", "()I"⟩, 9) := ⟨⟨by decide +kernel, by decide +kernel⟩, List.mem_of_getElem? (i := 14) (by decide +kernel), List.mem_of_getElem? (i := 820) (by decide +kernel), List.mem_of_getElem? (i := 821) (by decide +kernel)⟩
def lw_privs_2 : List (MethodName × Nat) := [(⟨"FogSheets$Foreteller", "weighWalks", "(LFogSheets$Estuary;I)V"⟩, 6), (⟨"FogSheets$Foreteller", "noteOver", "([I)V"⟩, 6), (⟨"FogSheets$Foreteller", "bestNext", "(II)I"⟩, 6), (⟨"FogSheets$Foreteller", "weightOf", "(II)I"⟩, 6), (⟨"FogSheets$Foreteller", "numberedBy", "(II)I"⟩, 6), (⟨"FogSheets$Estuary", "thicknessOfSet", "(I)I"⟩, 16), (⟨"FogSheets$Foreteller", "walkersTurn", "(III)I"⟩, 6), (⟨"FogSheets$Foreteller", "courtsTurn", "(III)I"⟩, 6), (⟨"FogSheets", "allThatFits", "(IIIII)I"⟩, 9), (⟨"FogSheets$Foreteller", "suppose", "(III)V"⟩, 6), (⟨"FogSheets$Foreteller", "isAsTold", "()Z"⟩, 6), (⟨"FogSheets$Foreteller", "drawOne", "(I)V"⟩, 6), (⟨"FogSheets$Asks", "answer", "(LFogSheets$Estuary;III)I"⟩, 2), (⟨"FogSheets$Asks", "begin", "(ILFogSheets$Estuary;II)I"⟩, 2), (⟨"FogSheets$Asks", "leave", "(I)V"⟩, 2), (⟨"FogSheets", "rowsThere", "()I"⟩, 9)]
theorem lw_r2 : ∀ q ∈ lw_privs_2, lw_okq q := List.forall_mem_cons.mpr ⟨lw_p16, List.forall_mem_cons.mpr ⟨lw_p17, List.forall_mem_cons.mpr ⟨lw_p18, List.forall_mem_cons.mpr ⟨lw_p19, List.forall_mem_cons.mpr ⟨lw_p20, List.forall_mem_cons.mpr ⟨lw_p21, List.forall_mem_cons.mpr ⟨lw_p22, List.forall_mem_cons.mpr ⟨lw_p23, List.forall_mem_cons.mpr ⟨lw_p24, List.forall_mem_cons.mpr ⟨lw_p25, List.forall_mem_cons.mpr ⟨lw_p26, List.forall_mem_cons.mpr ⟨lw_p27, List.forall_mem_cons.mpr ⟨lw_p28, List.forall_mem_cons.mpr ⟨lw_p29, List.forall_mem_cons.mpr ⟨lw_p30, List.forall_mem_cons.mpr ⟨lw_p31, fun _ h => absurd h List.not_mem_nil⟩⟩⟩⟩⟩⟩⟩⟩⟩⟩⟩⟩⟩⟩⟩⟩
theorem lw_p32 : lw_okq (⟨"FogSheetsModel", "finding", "(I)I"⟩, 24) := ⟨⟨by decide +kernel, by decide +kernel⟩, List.mem_of_getElem? (i := 828) (by decide +kernel), List.mem_of_getElem? (i := 921) (by decide +kernel), List.mem_of_getElem? (i := 922) (by decide +kernel)⟩
theorem lw_p33 : lw_okq (⟨"FogSheetsModel", "begin", "()V"⟩, 24) := ⟨⟨by decide +kernel, by decide +kernel⟩, List.mem_of_getElem? (i := 828) (by decide +kernel), List.mem_of_getElem? (i := 952) (by decide +kernel), List.mem_of_getElem? (i := 953) (by decide +kernel)⟩
theorem lw_p34 : lw_okq (⟨"FogSheetsModel", "nextToken", "()V"⟩, 24) := ⟨⟨by decide +kernel, by decide +kernel⟩, List.mem_of_getElem? (i := 828) (by decide +kernel), List.mem_of_getElem? (i := 956) (by decide +kernel), List.mem_of_getElem? (i := 957) (by decide +kernel)⟩
theorem lw_p35 : lw_okq (⟨"FogSheetsModel", "isLetter", "(I)Z"⟩, 24) := ⟨⟨by decide +kernel, by decide +kernel⟩, List.mem_of_getElem? (i := 828) (by decide +kernel), List.mem_of_getElem? (i := 965) (by decide +kernel), List.mem_of_getElem? (i := 966) (by decide +kernel)⟩
theorem lw_p36 : lw_okq (⟨"FogSheetsModel", "must", "(Z)V"⟩, 24) := ⟨⟨by decide +kernel, by decide +kernel⟩, List.mem_of_getElem? (i := 828) (by decide +kernel), List.mem_of_getElem? (i := 969) (by decide +kernel), List.mem_of_getElem? (i := 970) (by decide +kernel)⟩
theorem lw_p37 : lw_okq (⟨"FogSheetsModel", "bad", "(I)V"⟩, 24) := ⟨⟨by decide +kernel, by decide +kernel⟩, List.mem_of_getElem? (i := 828) (by decide +kernel), List.mem_of_getElem? (i := 973) (by decide +kernel), List.mem_of_getElem? (i := 974) (by decide +kernel)⟩
theorem lw_p38 : lw_okq (⟨"FogSheetsModel", "number", "(II)I"⟩, 24) := ⟨⟨by decide +kernel, by decide +kernel⟩, List.mem_of_getElem? (i := 828) (by decide +kernel), List.mem_of_getElem? (i := 977) (by decide +kernel), List.mem_of_getElem? (i := 978) (by decide +kernel)⟩
theorem lw_p39 : lw_okq (⟨"FogSheetsModel", "mustSign", "(I)V"⟩, 24) := ⟨⟨by decide +kernel, by decide +kernel⟩, List.mem_of_getElem? (i := 828) (by decide +kernel), List.mem_of_getElem? (i := 981) (by decide +kernel), List.mem_of_getElem? (i := 982) (by decide +kernel)⟩
theorem lw_p40 : lw_okq (⟨"FogSheetsModel", "readWind", "()V"⟩, 24) := ⟨⟨by decide +kernel, by decide +kernel⟩, List.mem_of_getElem? (i := 828) (by decide +kernel), List.mem_of_getElem? (i := 985) (by decide +kernel), List.mem_of_getElem? (i := 986) (by decide +kernel)⟩
theorem lw_p41 : lw_okq (⟨"FogSheetsModel", "isSort", "()Z"⟩, 24) := ⟨⟨by decide +kernel, by decide +kernel⟩, List.mem_of_getElem? (i := 828) (by decide +kernel), List.mem_of_getElem? (i := 989) (by decide +kernel), List.mem_of_getElem? (i := 990) (by decide +kernel)⟩
theorem lw_p42 : lw_okq (⟨"FogSheetsModel", "readSheet", "()V"⟩, 24) := ⟨⟨by decide +kernel, by decide +kernel⟩, List.mem_of_getElem? (i := 828) (by decide +kernel), List.mem_of_getElem? (i := 996) (by decide +kernel), List.mem_of_getElem? (i := 997) (by decide +kernel)⟩
theorem lw_p43 : lw_okq (⟨"FogSheetsModel", "failed", "()Z"⟩, 24) := ⟨⟨by decide +kernel, by decide +kernel⟩, List.mem_of_getElem? (i := 828) (by decide +kernel), List.mem_of_getElem? (i := 1000) (by decide +kernel), List.mem_of_getElem? (i := 1001) (by decide +kernel)⟩
theorem lw_p44 : lw_okq (⟨"FogSheetsModel", "isThere", "()Z"⟩, 24) := ⟨⟨by decide +kernel, by decide +kernel⟩, List.mem_of_getElem? (i := 828) (by decide +kernel), List.mem_of_getElem? (i := 1009) (by decide +kernel), List.mem_of_getElem? (i := 1010) (by decide +kernel)⟩
theorem lw_p45 : lw_okq (⟨"FogSheetsModel", "keep", "()V"⟩, 24) := ⟨⟨by decide +kernel, by decide +kernel⟩, List.mem_of_getElem? (i := 828) (by decide +kernel), List.mem_of_getElem? (i := 1015) (by decide +kernel), List.mem_of_getElem? (i := 1016) (by decide +kernel)⟩
theorem lw_p46 : lw_okq (⟨"FogSheetsModel", "isCell", "(I)Z"⟩, 24) := ⟨⟨by decide +kernel, by decide +kernel⟩, List.mem_of_getElem? (i := 828) (by decide +kernel), List.mem_of_getElem? (i := 1056) (by decide +kernel), List.mem_of_getElem? (i := 1057) (by decide +kernel)⟩
theorem lw_p47 : lw_okq (⟨"FogSheetsModel", "isWind", "(I)Z"⟩, 24) := ⟨⟨by decide +kernel, by decide +kernel⟩, List.mem_of_getElem? (i := 828) (by decide +kernel), List.mem_of_getElem? (i := 1064) (by decide +kernel), List.mem_of_getElem? (i := 1065) (by decide +kernel)⟩
def lw_privs_3 : List (MethodName × Nat) := [(⟨"FogSheetsModel", "finding", "(I)I"⟩, 24), (⟨"FogSheetsModel", "begin", "()V"⟩, 24), (⟨"FogSheetsModel", "nextToken", "()V"⟩, 24), (⟨"FogSheetsModel", "isLetter", "(I)Z"⟩, 24), (⟨"FogSheetsModel", "must", "(Z)V"⟩, 24), (⟨"FogSheetsModel", "bad", "(I)V"⟩, 24), (⟨"FogSheetsModel", "number", "(II)I"⟩, 24), (⟨"FogSheetsModel", "mustSign", "(I)V"⟩, 24), (⟨"FogSheetsModel", "readWind", "()V"⟩, 24), (⟨"FogSheetsModel", "isSort", "()Z"⟩, 24), (⟨"FogSheetsModel", "readSheet", "()V"⟩, 24), (⟨"FogSheetsModel", "failed", "()Z"⟩, 24), (⟨"FogSheetsModel", "isThere", "()Z"⟩, 24), (⟨"FogSheetsModel", "keep", "()V"⟩, 24), (⟨"FogSheetsModel", "isCell", "(I)Z"⟩, 24), (⟨"FogSheetsModel", "isWind", "(I)Z"⟩, 24)]
theorem lw_r3 : ∀ q ∈ lw_privs_3, lw_okq q := List.forall_mem_cons.mpr ⟨lw_p32, List.forall_mem_cons.mpr ⟨lw_p33, List.forall_mem_cons.mpr ⟨lw_p34, List.forall_mem_cons.mpr ⟨lw_p35, List.forall_mem_cons.mpr ⟨lw_p36, List.forall_mem_cons.mpr ⟨lw_p37, List.forall_mem_cons.mpr ⟨lw_p38, List.forall_mem_cons.mpr ⟨lw_p39, List.forall_mem_cons.mpr ⟨lw_p40, List.forall_mem_cons.mpr ⟨lw_p41, List.forall_mem_cons.mpr ⟨lw_p42, List.forall_mem_cons.mpr ⟨lw_p43, List.forall_mem_cons.mpr ⟨lw_p44, List.forall_mem_cons.mpr ⟨lw_p45, List.forall_mem_cons.mpr ⟨lw_p46, List.forall_mem_cons.mpr ⟨lw_p47, fun _ h => absurd h List.not_mem_nil⟩⟩⟩⟩⟩⟩⟩⟩⟩⟩⟩⟩⟩⟩⟩⟩
theorem lw_p48 : lw_okq (⟨"FogSheetsModel", "isSheet", "(I)Z"⟩, 24) := ⟨⟨by decide +kernel, by decide +kernel⟩, List.mem_of_getElem? (i := 828) (by decide +kernel), List.mem_of_getElem? (i := 1078) (by decide +kernel), List.mem_of_getElem? (i := 1079) (by decide +kernel)⟩
theorem lw_p49 : lw_okq (⟨"FogSheetsModel", "layThen", "()V"⟩, 24) := ⟨⟨by decide +kernel, by decide +kernel⟩, List.mem_of_getElem? (i := 828) (by decide +kernel), List.mem_of_getElem? (i := 1116) (by decide +kernel), List.mem_of_getElem? (i := 1117) (by decide +kernel)⟩
theorem lw_p50 : lw_okq (⟨"FogSheetsModel", "numberedBy", "(II)I"⟩, 24) := ⟨⟨by decide +kernel, by decide +kernel⟩, List.mem_of_getElem? (i := 828) (by decide +kernel), List.mem_of_getElem? (i := 1153) (by decide +kernel), List.mem_of_getElem? (i := 1154) (by decide +kernel)⟩
theorem lw_p51 : lw_okq (⟨"FogSheetsModel", "pailsOf", "(I)I"⟩, 24) := ⟨⟨by decide +kernel, by decide +kernel⟩, List.mem_of_getElem? (i := 828) (by decide +kernel), List.mem_of_getElem? (i := 1167) (by decide +kernel), List.mem_of_getElem? (i := 1168) (by decide +kernel)⟩
theorem lw_p52 : lw_okq (⟨"FogSheetsModel", "afterTurns", "(IIIII)I"⟩, 24) := ⟨⟨by decide +kernel, by decide +kernel⟩, List.mem_of_getElem? (i := 828) (by decide +kernel), List.mem_of_getElem? (i := 1176) (by decide +kernel), List.mem_of_getElem? (i := 1177) (by decide +kernel)⟩
theorem lw_p53 : lw_okq (⟨"FogSheetsModel", "rowFound", "(III)I"⟩, 24) := ⟨⟨by decide +kernel, by decide +kernel⟩, List.mem_of_getElem? (i := 828) (by decide +kernel), List.mem_of_getElem? (i := 1191) (by decide +kernel), List.mem_of_getElem? (i := 1192) (by decide +kernel)⟩
theorem lw_p54 : lw_okq (⟨"FogSheetsModel", "allSo", "(IIIII)I"⟩, 24) := ⟨⟨by decide +kernel, by decide +kernel⟩, List.mem_of_getElem? (i := 828) (by decide +kernel), List.mem_of_getElem? (i := 1195) (by decide +kernel), List.mem_of_getElem? (i := 1196) (by decide +kernel)⟩
theorem lw_p55 : lw_okq (⟨"FogSheetsModel", "sizeOf", "(I)I"⟩, 24) := ⟨⟨by decide +kernel, by decide +kernel⟩, List.mem_of_getElem? (i := 828) (by decide +kernel), List.mem_of_getElem? (i := 1241) (by decide +kernel), List.mem_of_getElem? (i := 1242) (by decide +kernel)⟩
theorem lw_p56 : lw_okq (⟨"FogSheetsModel", "haarSize", "(I)I"⟩, 24) := ⟨⟨by decide +kernel, by decide +kernel⟩, List.mem_of_getElem? (i := 828) (by decide +kernel), List.mem_of_getElem? (i := 1245) (by decide +kernel), List.mem_of_getElem? (i := 1246) (by decide +kernel)⟩
theorem lw_p57 : lw_okq (⟨"FogSheetsModel", "began", "(I)V"⟩, 24) := ⟨⟨by decide +kernel, by decide +kernel⟩, List.mem_of_getElem? (i := 828) (by decide +kernel), List.mem_of_getElem? (i := 1249) (by decide +kernel), List.mem_of_getElem? (i := 1250) (by decide +kernel)⟩
theorem lw_p58 : lw_okq (⟨"FogSheetsModel", "plainSize", "(I)I"⟩, 24) := ⟨⟨by decide +kernel, by decide +kernel⟩, List.mem_of_getElem? (i := 828) (by decide +kernel), List.mem_of_getElem? (i := 1253) (by decide +kernel), List.mem_of_getElem? (i := 1254) (by decide +kernel)⟩
theorem lw_p59 : lw_okq (⟨"FogSheetsModel", "markOf", "(I)I"⟩, 24) := ⟨⟨by decide +kernel, by decide +kernel⟩, List.mem_of_getElem? (i := 828) (by decide +kernel), List.mem_of_getElem? (i := 1257) (by decide +kernel), List.mem_of_getElem? (i := 1258) (by decide +kernel)⟩
def lw_privs_4 : List (MethodName × Nat) := [(⟨"FogSheetsModel", "isSheet", "(I)Z"⟩, 24), (⟨"FogSheetsModel", "layThen", "()V"⟩, 24), (⟨"FogSheetsModel", "numberedBy", "(II)I"⟩, 24), (⟨"FogSheetsModel", "pailsOf", "(I)I"⟩, 24), (⟨"FogSheetsModel", "afterTurns", "(IIIII)I"⟩, 24), (⟨"FogSheetsModel", "rowFound", "(III)I"⟩, 24), (⟨"FogSheetsModel", "allSo", "(IIIII)I"⟩, 24), (⟨"FogSheetsModel", "sizeOf", "(I)I"⟩, 24), (⟨"FogSheetsModel", "haarSize", "(I)I"⟩, 24), (⟨"FogSheetsModel", "began", "(I)V"⟩, 24), (⟨"FogSheetsModel", "plainSize", "(I)I"⟩, 24), (⟨"FogSheetsModel", "markOf", "(I)I"⟩, 24)]
theorem lw_r4 : ∀ q ∈ lw_privs_4, lw_okq q := List.forall_mem_cons.mpr ⟨lw_p48, List.forall_mem_cons.mpr ⟨lw_p49, List.forall_mem_cons.mpr ⟨lw_p50, List.forall_mem_cons.mpr ⟨lw_p51, List.forall_mem_cons.mpr ⟨lw_p52, List.forall_mem_cons.mpr ⟨lw_p53, List.forall_mem_cons.mpr ⟨lw_p54, List.forall_mem_cons.mpr ⟨lw_p55, List.forall_mem_cons.mpr ⟨lw_p56, List.forall_mem_cons.mpr ⟨lw_p57, List.forall_mem_cons.mpr ⟨lw_p58, List.forall_mem_cons.mpr ⟨lw_p59, fun _ h => absurd h List.not_mem_nil⟩⟩⟩⟩⟩⟩⟩⟩⟩⟩⟩⟩
def lw_privs : List (MethodName × Nat) := lw_privs_1 ++ (lw_privs_2 ++ (lw_privs_3 ++ (lw_privs_4)))
def lw_tbl : List Cond := k2_sels lw_privs ++ tables_1
theorem lw_privs_ok : ∀ q ∈ lw_privs, lw_okq q := by
  show ∀ q ∈ lw_privs_1 ++ (lw_privs_2 ++ (lw_privs_3 ++ (lw_privs_4))), lw_okq q
  exact List.forall_mem_append.mpr ⟨lw_r1, List.forall_mem_append.mpr ⟨lw_r2, List.forall_mem_append.mpr ⟨lw_r3, lw_r4⟩⟩⟩
-- ===== end of PART A; then your names; then what follows =====
end
section
/-! ===== BEGIN words of one list among another's, by their places ===== -/
theorem goodIn_r {big : List Cond} (ws : List Cond) (ps : List Nat) (hp : ws = ps.filterMap (fun i => big[i]?)) (h : ws.all goodWord = true) : GoodIn big ws := by
  intro w hw
  have h1 := List.all_eq_true.mp h w hw
  rw [hp] at hw
  obtain ⟨i, -, hi⟩ := List.mem_filterMap.mp hw
  have hm : w ∈ big := by first | exact List.mem_of_getElem? hi | exact List.getElem?_mem hi
  exact ⟨hm, good_of_word h1⟩
theorem goodIn_app {big a b : List Cond} (ha : GoodIn big a) (hb : GoodIn big b) : GoodIn big (a ++ b) := fun w h => (List.mem_append.mp h).elim (ha w) (hb w)
theorem goodIn_ca {big a b : List Cond} {c : Cond} (ha : GoodIn big (c :: a)) (hb : GoodIn big b) : GoodIn big (c :: (a ++ b)) := fun w h => (List.mem_cons.mp h).elim (fun e => ha w (List.mem_cons.mpr (Or.inl e))) (fun h => (List.mem_append.mp h).elim (fun h => ha w (List.mem_cons.mpr (Or.inr h))) (hb w))
theorem goodIn_sub {big ws : List Cond} (hm : ∀ w ∈ ws, w ∈ big) (h : ws.all goodWord = true) : GoodIn big ws := fun w hw => ⟨hm w hw, good_of_word (List.all_eq_true.mp h w hw)⟩
/-! ===== END ===== -/

def RX0 : String := "FogSheets$Acts"
def TX0 : u_T := fun k => match k with
  | 0 => ("FogSheets$Acts", "before", "[LFogSheets$Estuary;", true)
  | 1 => ("FogSheets$Acts", "next", "I", false)
  | _ => ("FogSheets$Acts", "kept", "I", false)
def tyX0 : Nat → FieldType := fun k => match k with
  | 0 => .array (.object "FogSheets$Estuary")
  | 1 => .int
  | _ => .int
abbrev wsX00 : List Cond := u_ws RX0 TX0 3
theorem nmX0 : ∀ a, a < 3 → ∀ b, b < 3 → a ≠ b → (TX0 a).2.1 ≠ (TX0 b).2.1 := by decide +kernel
theorem tyX0_ok : ∀ k, k < 3 → parseFieldDescriptor (TX0 k).2.2.1 = some (tyX0 k) := by decide +kernel
abbrev cX0_init : ByteArray := prog_2_method_1_code
def yX0_init : MethodName := ⟨RX0, "<init>", "()V"⟩
abbrev cX0_keep : ByteArray := prog_2_method_2_code
def yX0_keep : MethodName := ⟨RX0, "keep", "(LFogSheets$Estuary;)V"⟩
abbrev cX0_takeBack : ByteArray := prog_2_method_3_code
def yX0_takeBack : MethodName := ⟨RX0, "takeBack", "(LFogSheets$Estuary;)V"⟩
abbrev cX0_forget : ByteArray := prog_2_method_4_code
def yX0_forget : MethodName := ⟨RX0, "forget", "()V"⟩
def RX1 : String := "FogSheets$Asks"
def TX1 : u_T := fun k => match k with
  | 0 => ("FogSheets$Asks", "bodies", "[I", true)
  | _ => ("FogSheets$Asks", "begun", "I", false)
def tyX1 : Nat → FieldType := fun k => match k with
  | 0 => .array .int
  | _ => .int
abbrev wsX10 : List Cond := u_ws RX1 TX1 2
theorem nmX1 : ∀ a, a < 2 → ∀ b, b < 2 → a ≠ b → (TX1 a).2.1 ≠ (TX1 b).2.1 := by decide +kernel
theorem tyX1_ok : ∀ k, k < 2 → parseFieldDescriptor (TX1 k).2.2.1 = some (tyX1 k) := by decide +kernel
abbrev cX1_init : ByteArray := prog_3_method_1_code
def yX1_init : MethodName := ⟨RX1, "<init>", "()V"⟩
abbrev cX1_askOf : ByteArray := prog_3_method_2_code
def yX1_askOf : MethodName := ⟨RX1, "askOf", "(LFogSheets$Estuary;II)I"⟩
abbrev cX1_answer : ByteArray := prog_3_method_3_code
def yX1_answer : MethodName := ⟨RX1, "answer", "(LFogSheets$Estuary;III)I"⟩
abbrev cX1_nearestBody : ByteArray := prog_3_method_4_code
def yX1_nearestBody : MethodName := ⟨RX1, "nearestBody", "(II)I"⟩
abbrev cX1_begin : ByteArray := prog_3_method_5_code
def yX1_begin : MethodName := ⟨RX1, "begin", "(ILFogSheets$Estuary;II)I"⟩
abbrev cX1_leave : ByteArray := prog_3_method_6_code
def yX1_leave : MethodName := ⟨RX1, "leave", "(I)V"⟩
def RX2 : String := "FogSheets$Estuary"
def TX2 : u_T := fun k => match k with
  | 0 => ("FogSheets$Estuary", "winds", "[I", true)
  | 1 => ("FogSheets$Estuary", "kinds", "[I", true)
  | 2 => ("FogSheets$Estuary", "at", "[I", true)
  | 3 => ("FogSheets$Estuary", "wide", "[I", true)
  | 4 => ("FogSheets$Estuary", "thick", "[I", true)
  | 5 => ("FogSheets$Estuary", "number", "[I", true)
  | 6 => ("FogSheets$Estuary", "told", "Z", false)
  | 7 => ("FogSheets$Estuary", "cells", "I", false)
  | 8 => ("FogSheets$Estuary", "point", "I", false)
  | 9 => ("FogSheets$Estuary", "walker", "I", false)
  | 10 => ("FogSheets$Estuary", "awake", "I", false)
  | 11 => ("FogSheets$Estuary", "windCount", "I", false)
  | 12 => ("FogSheets$Estuary", "sheetCount", "I", false)
  | 13 => ("FogSheets$Estuary", "hour", "I", false)
  | 14 => ("FogSheets$Estuary", "in", "I", false)
  | _ => ("FogSheets$Estuary", "numbered", "I", false)
def tyX2 : Nat → FieldType := fun k => match k with
  | 0 => .array .int
  | 1 => .array .int
  | 2 => .array .int
  | 3 => .array .int
  | 4 => .array .int
  | 5 => .array .int
  | 6 => .boolean
  | 7 => .int
  | 8 => .int
  | 9 => .int
  | 10 => .int
  | 11 => .int
  | 12 => .int
  | 13 => .int
  | 14 => .int
  | _ => .int
abbrev wsX20 : List Cond := u_ws RX2 TX2 16
theorem nmX2 : ∀ a, a < 16 → ∀ b, b < 16 → a ≠ b → (TX2 a).2.1 ≠ (TX2 b).2.1 := by decide +kernel
theorem tyX2_ok : ∀ k, k < 16 → parseFieldDescriptor (TX2 k).2.2.1 = some (tyX2 k) := by decide +kernel
abbrev cX2_init : ByteArray := prog_4_method_1_code
def yX2_init : MethodName := ⟨RX2, "<init>", "()V"⟩
abbrev cX2_become : ByteArray := prog_4_method_2_code
def yX2_become : MethodName := ⟨RX2, "become", "(LFogSheets$Estuary;)V"⟩
abbrev cX2_clear : ByteArray := prog_4_method_3_code
def yX2_clear : MethodName := ⟨RX2, "clear", "()V"⟩
abbrev cX2_addWind : ByteArray := prog_4_method_4_code
def yX2_addWind : MethodName := ⟨RX2, "addWind", "(I)V"⟩
abbrev cX2_addSheet : ByteArray := prog_4_method_5_code
def yX2_addSheet : MethodName := ⟨RX2, "addSheet", "(IIII)V"⟩
abbrev cX2_admit : ByteArray := prog_4_method_6_code
def yX2_admit : MethodName := ⟨RX2, "admit", "(III)V"⟩
abbrev cX2_isSheet : ByteArray := prog_4_method_7_code
def yX2_isSheet : MethodName := ⟨RX2, "isSheet", "(I)Z"⟩
abbrev cX2_isWind : ByteArray := prog_4_method_8_code
def yX2_isWind : MethodName := ⟨RX2, "isWind", "(I)Z"⟩
abbrev cX2_isCell : ByteArray := prog_4_method_9_code
def yX2_isCell : MethodName := ⟨RX2, "isCell", "(I)Z"⟩
abbrev cX2_isIn : ByteArray := prog_4_method_10_code
def yX2_isIn : MethodName := ⟨RX2, "isIn", "(I)Z"⟩
abbrev cX2_windOfHour : ByteArray := prog_4_method_11_code
def yX2_windOfHour : MethodName := ⟨RX2, "windOfHour", "()I"⟩
abbrev cX2_gust : ByteArray := prog_4_method_12_code
def yX2_gust : MethodName := ⟨RX2, "gust", "()I"⟩
abbrev cX2_clerkIsAwake : ByteArray := prog_4_method_13_code
def yX2_clerkIsAwake : MethodName := ⟨RX2, "clerkIsAwake", "()Z"⟩
abbrev cX2_passHour : ByteArray := prog_4_method_14_code
def yX2_passHour : MethodName := ⟨RX2, "passHour", "()V"⟩
abbrev cX2_drift : ByteArray := prog_4_method_15_code
def yX2_drift : MethodName := ⟨RX2, "drift", "(II)V"⟩
abbrev cX2_cellsDrifted : ByteArray := prog_4_method_16_code
def yX2_cellsDrifted : MethodName := ⟨RX2, "cellsDrifted", "(II)I"⟩
abbrev cX2_thickened : ByteArray := prog_4_method_17_code
def yX2_thickened : MethodName := ⟨RX2, "thickened", "(IZ)I"⟩
abbrev cX2_giveNumbers : ByteArray := prog_4_method_18_code
def yX2_giveNumbers : MethodName := ⟨RX2, "giveNumbers", "()V"⟩
abbrev cX2_liesOn : ByteArray := prog_4_method_19_code
def yX2_liesOn : MethodName := ⟨RX2, "liesOn", "(II)Z"⟩
abbrev cX2_placeOf : ByteArray := prog_4_method_20_code
def yX2_placeOf : MethodName := ⟨RX2, "placeOf", "(I)I"⟩
abbrev cX2_thicknessOf : ByteArray := prog_4_method_21_code
def yX2_thicknessOf : MethodName := ⟨RX2, "thicknessOf", "(I)I"⟩
abbrev cX2_cellsUnder : ByteArray := prog_4_method_22_code
def yX2_cellsUnder : MethodName := ⟨RX2, "cellsUnder", "(I)I"⟩
abbrev cX2_sheetsOn : ByteArray := prog_4_method_23_code
def yX2_sheetsOn : MethodName := ⟨RX2, "sheetsOn", "(I)I"⟩
abbrev cX2_thicknessOver : ByteArray := prog_4_method_24_code
def yX2_thicknessOver : MethodName := ⟨RX2, "thicknessOver", "(I)I"⟩
abbrev cX2_withNumber : ByteArray := prog_4_method_25_code
def yX2_withNumber : MethodName := ⟨RX2, "withNumber", "()I"⟩
abbrev cX2_overlappingPair : ByteArray := prog_4_method_26_code
def yX2_overlappingPair : MethodName := ⟨RX2, "overlappingPair", "()I"⟩
abbrev cX2_setsAsThick : ByteArray := prog_4_method_27_code
def yX2_setsAsThick : MethodName := ⟨RX2, "setsAsThick", "(II)I"⟩
abbrev cX2_thicknessOfSet : ByteArray := prog_4_method_28_code
def yX2_thicknessOfSet : MethodName := ⟨RX2, "thicknessOfSet", "(I)I"⟩
abbrev cX2_pailsOf : ByteArray := prog_4_method_29_code
def yX2_pailsOf : MethodName := ⟨RX2, "pailsOf", "(II)I"⟩
def RX3 : String := "FogSheets$Foreteller"
def TX3 : u_T := fun k => match k with
  | 0 => ("FogSheets$Foreteller", "then", "LFogSheets$Estuary;", true)
  | 1 => ("FogSheets$Foreteller", "overThen", "[[I", true)
  | 2 => ("FogSheets$Foreteller", "leastFrom", "[[I", true)
  | 3 => ("FogSheets$Foreteller", "seen", "[I", true)
  | 4 => ("FogSheets$Foreteller", "told", "[I", true)
  | _ => ("FogSheets$Foreteller", "hoursTold", "I", false)
def tyX3 : Nat → FieldType := fun k => match k with
  | 0 => .object "FogSheets$Estuary"
  | 1 => .array (.array .int)
  | 2 => .array (.array .int)
  | 3 => .array .int
  | 4 => .array .int
  | _ => .int
abbrev wsX30 : List Cond := u_ws RX3 TX3 6
theorem nmX3 : ∀ a, a < 6 → ∀ b, b < 6 → a ≠ b → (TX3 a).2.1 ≠ (TX3 b).2.1 := by decide +kernel
theorem tyX3_ok : ∀ k, k < 6 → parseFieldDescriptor (TX3 k).2.2.1 = some (tyX3 k) := by decide +kernel
abbrev cX3_init : ByteArray := prog_5_method_1_code
def yX3_init : MethodName := ⟨RX3, "<init>", "()V"⟩
abbrev cX3_behind : ByteArray := prog_5_method_2_code
def yX3_behind : MethodName := ⟨RX3, "behind", "(LFogSheets$Estuary;I)LFogSheets$Estuary;"⟩
abbrev cX3_firstGone : ByteArray := prog_5_method_3_code
def yX3_firstGone : MethodName := ⟨RX3, "firstGone", "(LFogSheets$Estuary;I)I"⟩
abbrev cX3_firstNumbered : ByteArray := prog_5_method_4_code
def yX3_firstNumbered : MethodName := ⟨RX3, "firstNumbered", "(LFogSheets$Estuary;I)I"⟩
abbrev cX3_firstOverlap : ByteArray := prog_5_method_5_code
def yX3_firstOverlap : MethodName := ⟨RX3, "firstOverlap", "(LFogSheets$Estuary;I)I"⟩
abbrev cX3_leastSeen : ByteArray := prog_5_method_6_code
def yX3_leastSeen : MethodName := ⟨RX3, "leastSeen", "(LFogSheets$Estuary;I)I"⟩
abbrev cX3_leastSeenCell : ByteArray := prog_5_method_7_code
def yX3_leastSeenCell : MethodName := ⟨RX3, "leastSeenCell", "(LFogSheets$Estuary;II)I"⟩
abbrev cX3_weighWalks : ByteArray := prog_5_method_8_code
def yX3_weighWalks : MethodName := ⟨RX3, "weighWalks", "(LFogSheets$Estuary;I)V"⟩
abbrev cX3_noteOver : ByteArray := prog_5_method_9_code
def yX3_noteOver : MethodName := ⟨RX3, "noteOver", "([I)V"⟩
abbrev cX3_weightOf : ByteArray := prog_5_method_10_code
def yX3_weightOf : MethodName := ⟨RX3, "weightOf", "(II)I"⟩
abbrev cX3_bestNext : ByteArray := prog_5_method_11_code
def yX3_bestNext : MethodName := ⟨RX3, "bestNext", "(II)I"⟩
abbrev cX3_firstMeeting : ByteArray := prog_5_method_12_code
def yX3_firstMeeting : MethodName := ⟨RX3, "firstMeeting", "(LFogSheets$Estuary;I)I"⟩
abbrev cX3_bestStand : ByteArray := prog_5_method_13_code
def yX3_bestStand : MethodName := ⟨RX3, "bestStand", "(LFogSheets$Estuary;II)I"⟩
abbrev cX3_leastAwake : ByteArray := prog_5_method_14_code
def yX3_leastAwake : MethodName := ⟨RX3, "leastAwake", "(LFogSheets$Estuary;I)I"⟩
abbrev cX3_numberedBy : ByteArray := prog_5_method_15_code
def yX3_numberedBy : MethodName := ⟨RX3, "numberedBy", "(II)I"⟩
abbrev cX3_outcomeOfTurns : ByteArray := prog_5_method_16_code
def yX3_outcomeOfTurns : MethodName := ⟨RX3, "outcomeOfTurns", "(LFogSheets$Estuary;II)I"⟩
abbrev cX3_walkersTurn : ByteArray := prog_5_method_17_code
def yX3_walkersTurn : MethodName := ⟨RX3, "walkersTurn", "(III)I"⟩
abbrev cX3_courtsTurn : ByteArray := prog_5_method_18_code
def yX3_courtsTurn : MethodName := ⟨RX3, "courtsTurn", "(III)I"⟩
abbrev cX3_hear : ByteArray := prog_5_method_19_code
def yX3_hear : MethodName := ⟨RX3, "hear", "(LFogSheets$Row;II)V"⟩
abbrev cX3_fitting : ByteArray := prog_5_method_20_code
def yX3_fitting : MethodName := ⟨RX3, "fitting", "(LFogSheets$Estuary;II)I"⟩
abbrev cX3_mostOf : ByteArray := prog_5_method_21_code
def yX3_mostOf : MethodName := ⟨RX3, "mostOf", "(LFogSheets$Estuary;I)I"⟩
abbrev cX3_suppose : ByteArray := prog_5_method_22_code
def yX3_suppose : MethodName := ⟨RX3, "suppose", "(III)V"⟩
abbrev cX3_isAsTold : ByteArray := prog_5_method_23_code
def yX3_isAsTold : MethodName := ⟨RX3, "isAsTold", "()Z"⟩
abbrev cX3_drawYears : ByteArray := prog_5_method_24_code
def yX3_drawYears : MethodName := ⟨RX3, "drawYears", "(LFogSheets$Estuary;III)I"⟩
abbrev cX3_drawOne : ByteArray := prog_5_method_25_code
def yX3_drawOne : MethodName := ⟨RX3, "drawOne", "(I)V"⟩
def RX4 : String := "FogSheets$Reader"
def TX4 : u_T := fun k => match k with
  | 0 => ("FogSheets$Reader", "draft", "LFogSheets$Estuary;", true)
  | 1 => ("FogSheets$Reader", "bytes", "I", false)
  | 2 => ("FogSheets$Reader", "fault", "I", false)
  | 3 => ("FogSheets$Reader", "place", "I", false)
  | 4 => ("FogSheets$Reader", "tape", "[I", true)
  | 5 => ("FogSheets$Reader", "token", "I", false)
  | 6 => ("FogSheets$Reader", "value", "I", false)
  | _ => ("FogSheets$Reader", "behind", "I", false)
def tyX4 : Nat → FieldType := fun k => match k with
  | 0 => .object "FogSheets$Estuary"
  | 1 => .int
  | 2 => .int
  | 3 => .int
  | 4 => .array .int
  | 5 => .int
  | 6 => .int
  | _ => .int
abbrev wsX40 : List Cond := u_ws RX4 TX4 8
theorem nmX4 : ∀ a, a < 8 → ∀ b, b < 8 → a ≠ b → (TX4 a).2.1 ≠ (TX4 b).2.1 := by decide +kernel
theorem tyX4_ok : ∀ k, k < 8 → parseFieldDescriptor (TX4 k).2.2.1 = some (tyX4 k) := by decide +kernel
abbrev cX4_init : ByteArray := prog_6_method_1_code
def yX4_init : MethodName := ⟨RX4, "<init>", "()V"⟩
abbrev cX4_append : ByteArray := prog_6_method_2_code
def yX4_append : MethodName := ⟨RX4, "append", "(I)V"⟩
abbrev cX4_read : ByteArray := prog_6_method_3_code
def yX4_read : MethodName := ⟨RX4, "read", "()V"⟩
abbrev cX4_readLaw : ByteArray := prog_6_method_4_code
def yX4_readLaw : MethodName := ⟨RX4, "readLaw", "()V"⟩
abbrev cX4_readWinds : ByteArray := prog_6_method_5_code
def yX4_readWinds : MethodName := ⟨RX4, "readWinds", "()V"⟩
abbrev cX4_readWind : ByteArray := prog_6_method_6_code
def yX4_readWind : MethodName := ⟨RX4, "readWind", "()V"⟩
abbrev cX4_readSheets : ByteArray := prog_6_method_7_code
def yX4_readSheets : MethodName := ⟨RX4, "readSheets", "()V"⟩
abbrev cX4_readSheet : ByteArray := prog_6_method_8_code
def yX4_readSheet : MethodName := ⟨RX4, "readSheet", "()V"⟩
abbrev cX4_kindOfSort : ByteArray := prog_6_method_9_code
def yX4_kindOfSort : MethodName := ⟨RX4, "kindOfSort", "(I)I"⟩
abbrev cX4_fail : ByteArray := prog_6_method_10_code
def yX4_fail : MethodName := ⟨RX4, "fail", "(I)V"⟩
abbrev cX4_take : ByteArray := prog_6_method_11_code
def yX4_take : MethodName := ⟨RX4, "take", "(I)V"⟩
abbrev cX4_takeNumber : ByteArray := prog_6_method_12_code
def yX4_takeNumber : MethodName := ⟨RX4, "takeNumber", "(II)I"⟩
abbrev cX4_nextToken : ByteArray := prog_6_method_13_code
def yX4_nextToken : MethodName := ⟨RX4, "nextToken", "()V"⟩
abbrev cX4_readFigures : ByteArray := prog_6_method_14_code
def yX4_readFigures : MethodName := ⟨RX4, "readFigures", "()V"⟩
abbrev cX4_isFigure : ByteArray := prog_6_method_15_code
def yX4_isFigure : MethodName := ⟨RX4, "isFigure", "(I)Z"⟩
def RX5 : String := "FogSheets$Row"
def TX5 : u_T := fun k => match k with
  | 0 => ("FogSheets$Row", "items", "[I", true)
  | 1 => ("FogSheets$Row", "missing", "Z", false)
  | 2 => ("FogSheets$Row", "lane", "I", false)
  | _ => ("FogSheets$Row", "size", "I", false)
def tyX5 : Nat → FieldType := fun k => match k with
  | 0 => .array .int
  | 1 => .boolean
  | 2 => .int
  | _ => .int
abbrev wsX50 : List Cond := u_ws RX5 TX5 4
theorem nmX5 : ∀ a, a < 4 → ∀ b, b < 4 → a ≠ b → (TX5 a).2.1 ≠ (TX5 b).2.1 := by decide +kernel
theorem tyX5_ok : ∀ k, k < 4 → parseFieldDescriptor (TX5 k).2.2.1 = some (tyX5 k) := by decide +kernel
abbrev cX5_init : ByteArray := prog_7_method_1_code
def yX5_init : MethodName := ⟨RX5, "<init>", "()V"⟩
abbrev cX5_make : ByteArray := prog_7_method_2_code
def yX5_make : MethodName := ⟨RX5, "make", "(II)V"⟩
abbrev cX5_holds : ByteArray := prog_7_method_3_code
def yX5_holds : MethodName := ⟨RX5, "holds", "(II)Z"⟩
abbrev cX5_put : ByteArray := prog_7_method_4_code
def yX5_put : MethodName := ⟨RX5, "put", "(II)I"⟩
abbrev cX5_lowestBits : ByteArray := prog_7_method_5_code
def yX5_lowestBits : MethodName := ⟨RX5, "lowestBits", "(I)I"⟩
def RX6 : String := "FogSheets"
def TX6 : u_T := fun k => match k with
  | 0 => ("FogSheets", "rows", "[LFogSheets$Row;", true)
  | 1 => ("FogSheets", "reader", "LFogSheets$Reader;", true)
  | 2 => ("FogSheets", "now", "LFogSheets$Estuary;", true)
  | 3 => ("FogSheets", "acts", "LFogSheets$Acts;", true)
  | 4 => ("FogSheets", "images", "[LFogSheets$Estuary;", true)
  | 5 => ("FogSheets", "foreteller", "LFogSheets$Foreteller;", true)
  | 6 => ("FogSheets", "asks", "LFogSheets$Asks;", true)
  | 7 => ("FogSheets", "latestFault", "I", false)
  | _ => ("FogSheets", "latestFinding", "I", false)
def tyX6 : Nat → FieldType := fun k => match k with
  | 0 => .array (.object "FogSheets$Row")
  | 1 => .object "FogSheets$Reader"
  | 2 => .object "FogSheets$Estuary"
  | 3 => .object "FogSheets$Acts"
  | 4 => .array (.object "FogSheets$Estuary")
  | 5 => .object "FogSheets$Foreteller"
  | 6 => .object "FogSheets$Asks"
  | 7 => .int
  | _ => .int
abbrev wsX60 : List Cond := u_ws RX6 TX6 9
theorem nmX6 : ∀ a, a < 9 → ∀ b, b < 9 → a ≠ b → (TX6 a).2.1 ≠ (TX6 b).2.1 := by decide +kernel
theorem tyX6_ok : ∀ k, k < 9 → parseFieldDescriptor (TX6 k).2.2.1 = some (tyX6 k) := by decide +kernel
abbrev cX6_init : ByteArray := prog_1_method_1_code
def yX6_init : MethodName := ⟨RX6, "<init>", "()V"⟩
abbrev cX6_row : ByteArray := prog_1_method_2_code
def yX6_row : MethodName := ⟨RX6, "row", "(III)I"⟩
abbrev cX6_set : ByteArray := prog_1_method_3_code
def yX6_set : MethodName := ⟨RX6, "set", "(III)I"⟩
abbrev cX6_copy : ByteArray := prog_1_method_4_code
def yX6_copy : MethodName := ⟨RX6, "copy", "(IIIII)I"⟩
abbrev cX6_drop : ByteArray := prog_1_method_5_code
def yX6_drop : MethodName := ⟨RX6, "drop", "(I)I"⟩
abbrev cX6_feed : ByteArray := prog_1_method_6_code
def yX6_feed : MethodName := ⟨RX6, "feed", "(I)I"⟩
abbrev cX6_estuary : ByteArray := prog_1_method_7_code
def yX6_estuary : MethodName := ⟨RX6, "estuary", "()I"⟩
abbrev cX6_fault : ByteArray := prog_1_method_8_code
def yX6_fault : MethodName := ⟨RX6, "fault", "()I"⟩
abbrev cX6_undo : ByteArray := prog_1_method_9_code
def yX6_undo : MethodName := ⟨RX6, "undo", "()I"⟩
abbrev cX6_hours : ByteArray := prog_1_method_10_code
def yX6_hours : MethodName := ⟨RX6, "hours", "(I)I"⟩
abbrev cX6_step : ByteArray := prog_1_method_11_code
def yX6_step : MethodName := ⟨RX6, "step", "(I)I"⟩
abbrev cX6_wind : ByteArray := prog_1_method_12_code
def yX6_wind : MethodName := ⟨RX6, "wind", "(II)I"⟩
abbrev cX6_wake : ByteArray := prog_1_method_13_code
def yX6_wake : MethodName := ⟨RX6, "wake", "(I)I"⟩
abbrev cX6_let : ByteArray := prog_1_method_14_code
def yX6_let : MethodName := ⟨RX6, "let", "(III)I"⟩
abbrev cX6_sheet : ByteArray := prog_1_method_15_code
def yX6_sheet : MethodName := ⟨RX6, "sheet", "(II)I"⟩
abbrev cX6_cell : ByteArray := prog_1_method_16_code
def yX6_cell : MethodName := ⟨RX6, "cell", "(II)I"⟩
abbrev cX6_stand : ByteArray := prog_1_method_17_code
def yX6_stand : MethodName := ⟨RX6, "stand", "(I)I"⟩
abbrev cX6_ahead : ByteArray := prog_1_method_18_code
def yX6_ahead : MethodName := ⟨RX6, "ahead", "(III)I"⟩
abbrev cX6_over : ByteArray := prog_1_method_19_code
def yX6_over : MethodName := ⟨RX6, "over", "(II)I"⟩
abbrev cX6_when : ByteArray := prog_1_method_20_code
def yX6_when : MethodName := ⟨RX6, "when", "(II)I"⟩
abbrev cX6_overlap : ByteArray := prog_1_method_21_code
def yX6_overlap : MethodName := ⟨RX6, "overlap", "(I)I"⟩
abbrev cX6_walk : ByteArray := prog_1_method_22_code
def yX6_walk : MethodName := ⟨RX6, "walk", "(II)I"⟩
abbrev cX6_meet : ByteArray := prog_1_method_23_code
def yX6_meet : MethodName := ⟨RX6, "meet", "(I)I"⟩
abbrev cX6_site : ByteArray := prog_1_method_24_code
def yX6_site : MethodName := ⟨RX6, "site", "(II)I"⟩
abbrev cX6_waking : ByteArray := prog_1_method_25_code
def yX6_waking : MethodName := ⟨RX6, "waking", "(II)I"⟩
abbrev cX6_meant : ByteArray := prog_1_method_26_code
def yX6_meant : MethodName := ⟨RX6, "meant", "(II)I"⟩
abbrev cX6_share : ByteArray := prog_1_method_27_code
def yX6_share : MethodName := ⟨RX6, "share", "(II)I"⟩
abbrev cX6_byTurns : ByteArray := prog_1_method_28_code
def yX6_byTurns : MethodName := ⟨RX6, "byTurns", "(II)I"⟩
abbrev cX6_who : ByteArray := prog_1_method_29_code
def yX6_who : MethodName := ⟨RX6, "who", "(IIIII)I"⟩
abbrev cX6_gusts : ByteArray := prog_1_method_30_code
def yX6_gusts : MethodName := ⟨RX6, "gusts", "(IIII)I"⟩
abbrev cX6_lift : ByteArray := prog_1_method_31_code
def yX6_lift : MethodName := ⟨RX6, "lift", "(IIII)J"⟩
abbrev cX6_drawn : ByteArray := prog_1_method_32_code
def yX6_drawn : MethodName := ⟨RX6, "drawn", "(III)I"⟩
abbrev cX6_image : ByteArray := prog_1_method_33_code
def yX6_image : MethodName := ⟨RX6, "image", "(I)I"⟩
abbrev cX6_restore : ByteArray := prog_1_method_34_code
def yX6_restore : MethodName := ⟨RX6, "restore", "(I)I"⟩
abbrev cX6_kind : ByteArray := prog_1_method_35_code
def yX6_kind : MethodName := ⟨RX6, "kind", "(I)I"⟩
abbrev cX6_as : ByteArray := prog_1_method_36_code
def yX6_as : MethodName := ⟨RX6, "as", "(II)I"⟩
abbrev cX6_ask : ByteArray := prog_1_method_37_code
def yX6_ask : MethodName := ⟨RX6, "ask", "(II)I"⟩
abbrev cX6_trace : ByteArray := prog_1_method_38_code
def yX6_trace : MethodName := ⟨RX6, "trace", "(I)I"⟩
abbrev cX6_count : ByteArray := prog_1_method_39_code
def yX6_count : MethodName := ⟨RX6, "count", "(I)I"⟩
abbrev cX6_status : ByteArray := prog_1_method_40_code
def yX6_status : MethodName := ⟨RX6, "status", "()I"⟩
abbrev cX6_found : ByteArray := prog_1_method_41_code
def yX6_found : MethodName := ⟨RX6, "found", "(I)I"⟩
abbrev cX6_well : ByteArray := prog_1_method_42_code
def yX6_well : MethodName := ⟨RX6, "well", "(I)I"⟩
abbrev cX6_allThatFits : ByteArray := prog_1_method_43_code
def yX6_allThatFits : MethodName := ⟨RX6, "allThatFits", "(IIIII)I"⟩
abbrev cX6_rowsThere : ByteArray := prog_1_method_44_code
def yX6_rowsThere : MethodName := ⟨RX6, "rowsThere", "()I"⟩
abbrev cX6_isRow : ByteArray := prog_1_method_45_code
def yX6_isRow : MethodName := ⟨RX6, "isRow", "(I)Z"⟩
abbrev cX6_isFar : ByteArray := prog_1_method_46_code
def yX6_isFar : MethodName := ⟨RX6, "isFar", "(I)Z"⟩
abbrev cX6_isWithin : ByteArray := prog_1_method_47_code
def yX6_isWithin : MethodName := ⟨RX6, "isWithin", "(III)Z"⟩
abbrev cX6_isA : ByteArray := prog_1_method_48_code
def yX6_isA : MethodName := ⟨RX6, "isA", "(II)Z"⟩
abbrev cX6_widerKind : ByteArray := prog_1_method_49_code
def yX6_widerKind : MethodName := ⟨RX6, "widerKind", "(I)I"⟩
abbrev cX6_commonDivisor : ByteArray := prog_1_method_50_code
def yX6_commonDivisor : MethodName := ⟨RX6, "commonDivisor", "(II)I"⟩
abbrev cX6_power : ByteArray := prog_1_method_51_code
def yX6_power : MethodName := ⟨RX6, "power", "(II)J"⟩
def RX7 : String := "FogSheetsModel"
def TX7 : u_T := fun k => match k with
  | 0 => ("FogSheetsModel", "thrown", "I", false)
  | 1 => ("FogSheetsModel", "status", "I", false)
  | 2 => ("FogSheetsModel", "lane", "[I", true)
  | 3 => ("FogSheetsModel", "many", "[I", true)
  | 4 => ("FogSheetsModel", "item", "[I", true)
  | 5 => ("FogSheetsModel", "estuary", "[I", true)
  | 6 => ("FogSheetsModel", "fresh", "[I", true)
  | 7 => ("FogSheetsModel", "then", "[I", true)
  | 8 => ("FogSheetsModel", "was", "[I", true)
  | 9 => ("FogSheetsModel", "acts", "I", false)
  | 10 => ("FogSheetsModel", "tape", "[I", true)
  | 11 => ("FogSheetsModel", "taped", "I", false)
  | 12 => ("FogSheetsModel", "cursor", "I", false)
  | 13 => ("FogSheetsModel", "start", "I", false)
  | 14 => ("FogSheetsModel", "token", "I", false)
  | 15 => ("FogSheetsModel", "value", "I", false)
  | 16 => ("FogSheetsModel", "fault", "I", false)
  | 17 => ("FogSheetsModel", "faultAt", "I", false)
  | 18 => ("FogSheetsModel", "latest", "I", false)
  | 19 => ("FogSheetsModel", "overs", "[I", true)
  | 20 => ("FogSheetsModel", "isKept", "[Z", true)
  | 21 => ("FogSheetsModel", "kept", "[I", true)
  | 22 => ("FogSheetsModel", "trace", "[I", true)
  | _ => ("FogSheetsModel", "traced", "I", false)
def tyX7 : Nat → FieldType := fun k => match k with
  | 0 => .int
  | 1 => .int
  | 2 => .array .int
  | 3 => .array .int
  | 4 => .array .int
  | 5 => .array .int
  | 6 => .array .int
  | 7 => .array .int
  | 8 => .array .int
  | 9 => .int
  | 10 => .array .int
  | 11 => .int
  | 12 => .int
  | 13 => .int
  | 14 => .int
  | 15 => .int
  | 16 => .int
  | 17 => .int
  | 18 => .int
  | 19 => .array .int
  | 20 => .array .boolean
  | 21 => .array .int
  | 22 => .array .int
  | _ => .int
abbrev wsX70 : List Cond := u_ws RX7 TX7 24
theorem nmX7 : ∀ a, a < 24 → ∀ b, b < 24 → a ≠ b → (TX7 a).2.1 ≠ (TX7 b).2.1 := by decide +kernel
theorem tyX7_ok : ∀ k, k < 24 → parseFieldDescriptor (TX7 k).2.2.1 = some (tyX7 k) := by decide +kernel
abbrev cX7_init : ByteArray := prog_9_method_1_code
def yX7_init : MethodName := ⟨RX7, "<init>", "()V"⟩
abbrev cX7_in : ByteArray := prog_9_method_3_code
def yX7_in : MethodName := ⟨RX7, "in", "(JJJ)Z"⟩
abbrev cX7_finding : ByteArray := prog_9_method_4_code
def yX7_finding : MethodName := ⟨RX7, "finding", "(I)I"⟩
abbrev cX7_isRow : ByteArray := prog_9_method_5_code
def yX7_isRow : MethodName := ⟨RX7, "isRow", "(I)Z"⟩
abbrev cX7_row : ByteArray := prog_9_method_6_code
def yX7_row : MethodName := ⟨RX7, "row", "(III)I"⟩
abbrev cX7_set : ByteArray := prog_9_method_7_code
def yX7_set : MethodName := ⟨RX7, "set", "(III)I"⟩
abbrev cX7_copy : ByteArray := prog_9_method_8_code
def yX7_copy : MethodName := ⟨RX7, "copy", "(IIIII)I"⟩
abbrev cX7_drop : ByteArray := prog_9_method_9_code
def yX7_drop : MethodName := ⟨RX7, "drop", "(I)I"⟩
abbrev cX7_feed : ByteArray := prog_9_method_10_code
def yX7_feed : MethodName := ⟨RX7, "feed", "(I)I"⟩
abbrev cX7_bad : ByteArray := prog_9_method_11_code
def yX7_bad : MethodName := ⟨RX7, "bad", "(I)V"⟩
abbrev cX7_nextToken : ByteArray := prog_9_method_12_code
def yX7_nextToken : MethodName := ⟨RX7, "nextToken", "()V"⟩
abbrev cX7_must : ByteArray := prog_9_method_13_code
def yX7_must : MethodName := ⟨RX7, "must", "(Z)V"⟩
abbrev cX7_isLetter : ByteArray := prog_9_method_14_code
def yX7_isLetter : MethodName := ⟨RX7, "isLetter", "(I)Z"⟩
abbrev cX7_number : ByteArray := prog_9_method_15_code
def yX7_number : MethodName := ⟨RX7, "number", "(II)I"⟩
abbrev cX7_mustSign : ByteArray := prog_9_method_16_code
def yX7_mustSign : MethodName := ⟨RX7, "mustSign", "(I)V"⟩
abbrev cX7_begin : ByteArray := prog_9_method_17_code
def yX7_begin : MethodName := ⟨RX7, "begin", "()V"⟩
abbrev cX7_failed : ByteArray := prog_9_method_18_code
def yX7_failed : MethodName := ⟨RX7, "failed", "()Z"⟩
abbrev cX7_fault : ByteArray := prog_9_method_19_code
def yX7_fault : MethodName := ⟨RX7, "fault", "()I"⟩
abbrev cX7_kindBy : ByteArray := prog_9_method_20_code
def yX7_kindBy : MethodName := ⟨RX7, "kindBy", "(I)I"⟩
abbrev cX7_isSort : ByteArray := prog_9_method_21_code
def yX7_isSort : MethodName := ⟨RX7, "isSort", "()Z"⟩
abbrev cX7_readWind : ByteArray := prog_9_method_22_code
def yX7_readWind : MethodName := ⟨RX7, "readWind", "()V"⟩
abbrev cX7_readSheet : ByteArray := prog_9_method_23_code
def yX7_readSheet : MethodName := ⟨RX7, "readSheet", "()V"⟩
abbrev cX7_estuary : ByteArray := prog_9_method_24_code
def yX7_estuary : MethodName := ⟨RX7, "estuary", "()I"⟩
abbrev cX7_isThere : ByteArray := prog_9_method_25_code
def yX7_isThere : MethodName := ⟨RX7, "isThere", "()Z"⟩
abbrev cX7_isSheet : ByteArray := prog_9_method_26_code
def yX7_isSheet : MethodName := ⟨RX7, "isSheet", "(I)Z"⟩
abbrev cX7_isWind : ByteArray := prog_9_method_27_code
def yX7_isWind : MethodName := ⟨RX7, "isWind", "(I)Z"⟩
abbrev cX7_isCell : ByteArray := prog_9_method_28_code
def yX7_isCell : MethodName := ⟨RX7, "isCell", "(I)Z"⟩
abbrev cX7_bits : ByteArray := prog_9_method_29_code
def yX7_bits : MethodName := ⟨RX7, "bits", "(I)I"⟩
abbrev cX7_has : ByteArray := prog_9_method_30_code
def yX7_has : MethodName := ⟨RX7, "has", "(II)Z"⟩
abbrev cX7_of : ByteArray := prog_9_method_31_code
def yX7_of : MethodName := ⟨RX7, "of", "([III)I"⟩
abbrev cX7_be : ByteArray := prog_9_method_32_code
def yX7_be : MethodName := ⟨RX7, "be", "([IIII)V"⟩
abbrev cX7_isIn : ByteArray := prog_9_method_33_code
def yX7_isIn : MethodName := ⟨RX7, "isIn", "([II)Z"⟩
abbrev cX7_windOf : ByteArray := prog_9_method_34_code
def yX7_windOf : MethodName := ⟨RX7, "windOf", "([I)I"⟩
abbrev cX7_cellsOf : ByteArray := prog_9_method_35_code
def yX7_cellsOf : MethodName := ⟨RX7, "cellsOf", "([III)I"⟩
abbrev cX7_liesOn : ByteArray := prog_9_method_36_code
def yX7_liesOn : MethodName := ⟨RX7, "liesOn", "([II)I"⟩
abbrev cX7_drift : ByteArray := prog_9_method_37_code
def yX7_drift : MethodName := ⟨RX7, "drift", "([III)V"⟩
abbrev cX7_hourOf : ByteArray := prog_9_method_38_code
def yX7_hourOf : MethodName := ⟨RX7, "hourOf", "([I)V"⟩
abbrev cX7_hoursOf : ByteArray := prog_9_method_39_code
def yX7_hoursOf : MethodName := ⟨RX7, "hoursOf", "([II)V"⟩
abbrev cX7_overOf : ByteArray := prog_9_method_40_code
def yX7_overOf : MethodName := ⟨RX7, "overOf", "([II)I"⟩
abbrev cX7_ins : ByteArray := prog_9_method_41_code
def yX7_ins : MethodName := ⟨RX7, "ins", "([I)I"⟩
abbrev cX7_numbered : ByteArray := prog_9_method_42_code
def yX7_numbered : MethodName := ⟨RX7, "numbered", "([I)I"⟩
abbrev cX7_letIn : ByteArray := prog_9_method_43_code
def yX7_letIn : MethodName := ⟨RX7, "letIn", "([IIII)V"⟩
abbrev cX7_layThen : ByteArray := prog_9_method_44_code
def yX7_layThen : MethodName := ⟨RX7, "layThen", "()V"⟩
abbrev cX7_keep : ByteArray := prog_9_method_45_code
def yX7_keep : MethodName := ⟨RX7, "keep", "()V"⟩
abbrev cX7_hours : ByteArray := prog_9_method_46_code
def yX7_hours : MethodName := ⟨RX7, "hours", "(I)I"⟩
abbrev cX7_step : ByteArray := prog_9_method_47_code
def yX7_step : MethodName := ⟨RX7, "step", "(I)I"⟩
abbrev cX7_wind : ByteArray := prog_9_method_48_code
def yX7_wind : MethodName := ⟨RX7, "wind", "(II)I"⟩
abbrev cX7_wake : ByteArray := prog_9_method_49_code
def yX7_wake : MethodName := ⟨RX7, "wake", "(I)I"⟩
abbrev cX7_let : ByteArray := prog_9_method_50_code
def yX7_let : MethodName := ⟨RX7, "let", "(III)I"⟩
abbrev cX7_undo : ByteArray := prog_9_method_51_code
def yX7_undo : MethodName := ⟨RX7, "undo", "()I"⟩
abbrev cX7_told : ByteArray := prog_9_method_52_code
def yX7_told : MethodName := ⟨RX7, "told", "([III)I"⟩
abbrev cX7_sheet : ByteArray := prog_9_method_53_code
def yX7_sheet : MethodName := ⟨RX7, "sheet", "(II)I"⟩
abbrev cX7_cell : ByteArray := prog_9_method_54_code
def yX7_cell : MethodName := ⟨RX7, "cell", "(II)I"⟩
abbrev cX7_stand : ByteArray := prog_9_method_55_code
def yX7_stand : MethodName := ⟨RX7, "stand", "(I)I"⟩
abbrev cX7_ahead : ByteArray := prog_9_method_56_code
def yX7_ahead : MethodName := ⟨RX7, "ahead", "(III)I"⟩
abbrev cX7_over : ByteArray := prog_9_method_57_code
def yX7_over : MethodName := ⟨RX7, "over", "(II)I"⟩
abbrev cX7_when : ByteArray := prog_9_method_58_code
def yX7_when : MethodName := ⟨RX7, "when", "(II)I"⟩
abbrev cX7_overlap : ByteArray := prog_9_method_59_code
def yX7_overlap : MethodName := ⟨RX7, "overlap", "(I)I"⟩
abbrev cX7_walk : ByteArray := prog_9_method_60_code
def yX7_walk : MethodName := ⟨RX7, "walk", "(II)I"⟩
abbrev cX7_meet : ByteArray := prog_9_method_61_code
def yX7_meet : MethodName := ⟨RX7, "meet", "(I)I"⟩
abbrev cX7_site : ByteArray := prog_9_method_62_code
def yX7_site : MethodName := ⟨RX7, "site", "(II)I"⟩
abbrev cX7_numberedBy : ByteArray := prog_9_method_63_code
def yX7_numberedBy : MethodName := ⟨RX7, "numberedBy", "(II)I"⟩
abbrev cX7_waking : ByteArray := prog_9_method_64_code
def yX7_waking : MethodName := ⟨RX7, "waking", "(II)I"⟩
abbrev cX7_meant : ByteArray := prog_9_method_65_code
def yX7_meant : MethodName := ⟨RX7, "meant", "(II)I"⟩
abbrev cX7_pailsOf : ByteArray := prog_9_method_66_code
def yX7_pailsOf : MethodName := ⟨RX7, "pailsOf", "(I)I"⟩
abbrev cX7_share : ByteArray := prog_9_method_67_code
def yX7_share : MethodName := ⟨RX7, "share", "(II)I"⟩
abbrev cX7_turnWind : ByteArray := prog_9_method_68_code
def yX7_turnWind : MethodName := ⟨RX7, "turnWind", "([I)V"⟩
abbrev cX7_afterTurns : ByteArray := prog_9_method_69_code
def yX7_afterTurns : MethodName := ⟨RX7, "afterTurns", "(IIIII)I"⟩
abbrev cX7_byTurns : ByteArray := prog_9_method_70_code
def yX7_byTurns : MethodName := ⟨RX7, "byTurns", "(II)I"⟩
abbrev cX7_rowFound : ByteArray := prog_9_method_71_code
def yX7_rowFound : MethodName := ⟨RX7, "rowFound", "(III)I"⟩
abbrev cX7_isMany : ByteArray := prog_9_method_72_code
def yX7_isMany : MethodName := ⟨RX7, "isMany", "(II)Z"⟩
abbrev cX7_allSo : ByteArray := prog_9_method_73_code
def yX7_allSo : MethodName := ⟨RX7, "allSo", "(IIIII)I"⟩
abbrev cX7_who : ByteArray := prog_9_method_74_code
def yX7_who : MethodName := ⟨RX7, "who", "(IIIII)I"⟩
abbrev cX7_gusts : ByteArray := prog_9_method_75_code
def yX7_gusts : MethodName := ⟨RX7, "gusts", "(IIII)I"⟩
abbrev cX7_lift : ByteArray := prog_9_method_76_code
def yX7_lift : MethodName := ⟨RX7, "lift", "(IIII)J"⟩
abbrev cX7_drawn : ByteArray := prog_9_method_77_code
def yX7_drawn : MethodName := ⟨RX7, "drawn", "(III)I"⟩
abbrev cX7_image : ByteArray := prog_9_method_78_code
def yX7_image : MethodName := ⟨RX7, "image", "(I)I"⟩
abbrev cX7_restore : ByteArray := prog_9_method_79_code
def yX7_restore : MethodName := ⟨RX7, "restore", "(I)I"⟩
abbrev cX7_isOf : ByteArray := prog_9_method_80_code
def yX7_isOf : MethodName := ⟨RX7, "isOf", "(II)Z"⟩
abbrev cX7_kind : ByteArray := prog_9_method_81_code
def yX7_kind : MethodName := ⟨RX7, "kind", "(I)I"⟩
abbrev cX7_as : ByteArray := prog_9_method_82_code
def yX7_as : MethodName := ⟨RX7, "as", "(II)I"⟩
abbrev cX7_began : ByteArray := prog_9_method_83_code
def yX7_began : MethodName := ⟨RX7, "began", "(I)V"⟩
abbrev cX7_plainSize : ByteArray := prog_9_method_84_code
def yX7_plainSize : MethodName := ⟨RX7, "plainSize", "(I)I"⟩
abbrev cX7_haarSize : ByteArray := prog_9_method_85_code
def yX7_haarSize : MethodName := ⟨RX7, "haarSize", "(I)I"⟩
abbrev cX7_markOf : ByteArray := prog_9_method_86_code
def yX7_markOf : MethodName := ⟨RX7, "markOf", "(I)I"⟩
abbrev cX7_sizeOf : ByteArray := prog_9_method_87_code
def yX7_sizeOf : MethodName := ⟨RX7, "sizeOf", "(I)I"⟩
abbrev cX7_ask : ByteArray := prog_9_method_88_code
def yX7_ask : MethodName := ⟨RX7, "ask", "(II)I"⟩
abbrev cX7_trace : ByteArray := prog_9_method_89_code
def yX7_trace : MethodName := ⟨RX7, "trace", "(I)I"⟩
abbrev cX7_count : ByteArray := prog_9_method_90_code
def yX7_count : MethodName := ⟨RX7, "count", "(I)I"⟩
abbrev cX7_status : ByteArray := prog_9_method_91_code
def yX7_status : MethodName := ⟨RX7, "status", "()I"⟩
def RJ6 : String := "java/lang/Integer"
def TJ6 : u_T := fun k => match k with
  | _ => ("", "", "", false)
def tyJ6 : Nat → FieldType := fun k => match k with
  | _ => .int
abbrev wsJ60 : List Cond := u_ws RJ6 TJ6 0
theorem nmJ6 : ∀ a, a < 0 → ∀ b, b < 0 → a ≠ b → (TJ6 a).2.1 ≠ (TJ6 b).2.1 := by decide +kernel
theorem tyJ6_ok : ∀ k, k < 0 → parseFieldDescriptor (TJ6 k).2.2.1 = some (tyJ6 k) := by decide +kernel
abbrev cJ6_bitCount_0f7a4 : ByteArray := prog_10_method_49_code
def yJ6_bitCount_0f7a4 : MethodName := ⟨RJ6, "bitCount", "(I)I"⟩
def RJ9 : String := "java/lang/Math"
def TJ9 : u_T := fun k => match k with
  | _ => ("", "", "", false)
def tyJ9 : Nat → FieldType := fun k => match k with
  | _ => .int
abbrev wsJ90 : List Cond := u_ws RJ9 TJ9 0
theorem nmJ9 : ∀ a, a < 0 → ∀ b, b < 0 → a ≠ b → (TJ9 a).2.1 ≠ (TJ9 b).2.1 := by decide +kernel
theorem tyJ9_ok : ∀ k, k < 0 → parseFieldDescriptor (TJ9 k).2.2.1 = some (tyJ9 k) := by decide +kernel
abbrev cJ9_max_7cf53 : ByteArray := prog_11_method_65_code
def yJ9_max_7cf53 : MethodName := ⟨RJ9, "max", "(II)I"⟩
abbrev cJ9_min_7cf53 : ByteArray := prog_11_method_69_code
def yJ9_min_7cf53 : MethodName := ⟨RJ9, "min", "(II)I"⟩
def RJ10 : String := "java/lang/System"
def TJ10 : u_T := fun k => match k with
  | _ => ("", "", "", false)
def tyJ10 : Nat → FieldType := fun k => match k with
  | _ => .int
abbrev wsJ100 : List Cond := u_ws RJ10 TJ10 0
theorem nmJ10 : ∀ a, a < 0 → ∀ b, b < 0 → a ≠ b → (TJ10 a).2.1 ≠ (TJ10 b).2.1 := by decide +kernel
theorem tyJ10_ok : ∀ k, k < 0 → parseFieldDescriptor (TJ10 k).2.2.1 = some (tyJ10 k) := by decide +kernel
def RJ7 : String := "java/util/Arrays"
def TJ7 : u_T := fun k => match k with
  | _ => ("", "", "", false)
def tyJ7 : Nat → FieldType := fun k => match k with
  | _ => .int
abbrev wsJ70 : List Cond := u_ws RJ7 TJ7 0
theorem nmJ7 : ∀ a, a < 0 → ∀ b, b < 0 → a ≠ b → (TJ7 a).2.1 ≠ (TJ7 b).2.1 := by decide +kernel
theorem tyJ7_ok : ∀ k, k < 0 → parseFieldDescriptor (TJ7 k).2.2.1 = some (tyJ7 k) := by decide +kernel
abbrev cJ7_fill_53178 : ByteArray := prog_13_method_103_code
def yJ7_fill_53178 : MethodName := ⟨RJ7, "fill", "([II)V"⟩
def RL : String := "FogSheetsLaw"
abbrev cL_law : ByteArray := code
def yL_law : MethodName := ⟨RL, "law", "([I)Z"⟩
abbrev vwCl : List vw_C := [(RX0, TX0, 3), (RX1, TX1, 2), (RX2, TX2, 16), (RX3, TX3, 6), (RX4, TX4, 8), (RX5, TX5, 4), (RX6, TX6, 9), (RX7, TX7, 24)]
end
section
theorem dJ6_bitCount_0f7a4_0 : decode cJ6_bitCount_0f7a4 0 = .ok (.iload_n 0, 1) := by decide +kernel
theorem dJ6_bitCount_0f7a4_1 : decode cJ6_bitCount_0f7a4 1 = .ok (.iload_n 0, 1) := by decide +kernel
theorem dJ6_bitCount_0f7a4_2 : decode cJ6_bitCount_0f7a4 2 = .ok (.iconst 1, 1) := by decide +kernel
theorem dJ6_bitCount_0f7a4_3 : decode cJ6_bitCount_0f7a4 3 = .ok (.iushr, 1) := by decide +kernel
theorem dJ6_bitCount_0f7a4_4 : decode cJ6_bitCount_0f7a4 4 = .ok (.ldc_w 265, 3) := by decide +kernel
theorem dJ6_bitCount_0f7a4_7 : decode cJ6_bitCount_0f7a4 7 = .ok (.iand, 1) := by decide +kernel
theorem dJ6_bitCount_0f7a4_8 : decode cJ6_bitCount_0f7a4 8 = .ok (.isub, 1) := by decide +kernel
theorem dJ6_bitCount_0f7a4_9 : decode cJ6_bitCount_0f7a4 9 = .ok (.istore_n 0, 1) := by decide +kernel
theorem dJ6_bitCount_0f7a4_10 : decode cJ6_bitCount_0f7a4 10 = .ok (.iload_n 0, 1) := by decide +kernel
theorem dJ6_bitCount_0f7a4_11 : decode cJ6_bitCount_0f7a4 11 = .ok (.ldc_w 266, 3) := by decide +kernel
theorem dJ6_bitCount_0f7a4_14 : decode cJ6_bitCount_0f7a4 14 = .ok (.iand, 1) := by decide +kernel
theorem dJ6_bitCount_0f7a4_15 : decode cJ6_bitCount_0f7a4 15 = .ok (.iload_n 0, 1) := by decide +kernel
theorem dJ6_bitCount_0f7a4_16 : decode cJ6_bitCount_0f7a4 16 = .ok (.iconst 2, 1) := by decide +kernel
theorem dJ6_bitCount_0f7a4_17 : decode cJ6_bitCount_0f7a4 17 = .ok (.iushr, 1) := by decide +kernel
theorem dJ6_bitCount_0f7a4_18 : decode cJ6_bitCount_0f7a4 18 = .ok (.ldc_w 266, 3) := by decide +kernel
theorem dJ6_bitCount_0f7a4_21 : decode cJ6_bitCount_0f7a4 21 = .ok (.iand, 1) := by decide +kernel
theorem dJ6_bitCount_0f7a4_22 : decode cJ6_bitCount_0f7a4 22 = .ok (.iadd, 1) := by decide +kernel
theorem dJ6_bitCount_0f7a4_23 : decode cJ6_bitCount_0f7a4 23 = .ok (.istore_n 0, 1) := by decide +kernel
theorem dJ6_bitCount_0f7a4_24 : decode cJ6_bitCount_0f7a4 24 = .ok (.iload_n 0, 1) := by decide +kernel
theorem dJ6_bitCount_0f7a4_25 : decode cJ6_bitCount_0f7a4 25 = .ok (.iload_n 0, 1) := by decide +kernel
theorem dJ6_bitCount_0f7a4_26 : decode cJ6_bitCount_0f7a4 26 = .ok (.iconst 4, 1) := by decide +kernel
theorem dJ6_bitCount_0f7a4_27 : decode cJ6_bitCount_0f7a4 27 = .ok (.iushr, 1) := by decide +kernel
theorem dJ6_bitCount_0f7a4_28 : decode cJ6_bitCount_0f7a4 28 = .ok (.iadd, 1) := by decide +kernel
theorem dJ6_bitCount_0f7a4_29 : decode cJ6_bitCount_0f7a4 29 = .ok (.ldc_w 267, 3) := by decide +kernel
theorem dJ6_bitCount_0f7a4_32 : decode cJ6_bitCount_0f7a4 32 = .ok (.iand, 1) := by decide +kernel
theorem dJ6_bitCount_0f7a4_33 : decode cJ6_bitCount_0f7a4 33 = .ok (.istore_n 0, 1) := by decide +kernel
theorem dJ6_bitCount_0f7a4_34 : decode cJ6_bitCount_0f7a4 34 = .ok (.iload_n 0, 1) := by decide +kernel
theorem dJ6_bitCount_0f7a4_35 : decode cJ6_bitCount_0f7a4 35 = .ok (.iload_n 0, 1) := by decide +kernel
theorem dJ6_bitCount_0f7a4_36 : decode cJ6_bitCount_0f7a4 36 = .ok (.bipush 8, 2) := by decide +kernel
theorem dJ6_bitCount_0f7a4_38 : decode cJ6_bitCount_0f7a4 38 = .ok (.iushr, 1) := by decide +kernel
theorem dJ6_bitCount_0f7a4_39 : decode cJ6_bitCount_0f7a4 39 = .ok (.iadd, 1) := by decide +kernel
theorem dJ6_bitCount_0f7a4_40 : decode cJ6_bitCount_0f7a4 40 = .ok (.istore_n 0, 1) := by decide +kernel
theorem dJ6_bitCount_0f7a4_41 : decode cJ6_bitCount_0f7a4 41 = .ok (.iload_n 0, 1) := by decide +kernel
theorem dJ6_bitCount_0f7a4_42 : decode cJ6_bitCount_0f7a4 42 = .ok (.iload_n 0, 1) := by decide +kernel
theorem dJ6_bitCount_0f7a4_43 : decode cJ6_bitCount_0f7a4 43 = .ok (.bipush 16, 2) := by decide +kernel
theorem dJ6_bitCount_0f7a4_45 : decode cJ6_bitCount_0f7a4 45 = .ok (.iushr, 1) := by decide +kernel
theorem dJ6_bitCount_0f7a4_46 : decode cJ6_bitCount_0f7a4 46 = .ok (.iadd, 1) := by decide +kernel
theorem dJ6_bitCount_0f7a4_47 : decode cJ6_bitCount_0f7a4 47 = .ok (.istore_n 0, 1) := by decide +kernel
theorem dJ6_bitCount_0f7a4_48 : decode cJ6_bitCount_0f7a4 48 = .ok (.iload_n 0, 1) := by decide +kernel
theorem dJ6_bitCount_0f7a4_49 : decode cJ6_bitCount_0f7a4 49 = .ok (.bipush 63, 2) := by decide +kernel
theorem dJ6_bitCount_0f7a4_51 : decode cJ6_bitCount_0f7a4 51 = .ok (.iand, 1) := by decide +kernel
theorem dJ6_bitCount_0f7a4_52 : decode cJ6_bitCount_0f7a4 52 = .ok (.ireturn, 1) := by decide +kernel
theorem dJ7_fill_53178_0 : decode cJ7_fill_53178 0 = .ok (.iconst 0, 1) := by decide +kernel
theorem dJ7_fill_53178_1 : decode cJ7_fill_53178 1 = .ok (.istore_n 2, 1) := by decide +kernel
theorem dJ7_fill_53178_2 : decode cJ7_fill_53178 2 = .ok (.aload_n 0, 1) := by decide +kernel
theorem dJ7_fill_53178_3 : decode cJ7_fill_53178 3 = .ok (.arraylength, 1) := by decide +kernel
theorem dJ7_fill_53178_4 : decode cJ7_fill_53178 4 = .ok (.istore_n 3, 1) := by decide +kernel
theorem dJ7_fill_53178_5 : decode cJ7_fill_53178 5 = .ok (.iload_n 2, 1) := by decide +kernel
theorem dJ7_fill_53178_6 : decode cJ7_fill_53178 6 = .ok (.iload_n 3, 1) := by decide +kernel
theorem dJ7_fill_53178_7 : decode cJ7_fill_53178 7 = .ok (.if_icmp .ge 13, 3) := by decide +kernel
theorem dJ7_fill_53178_10 : decode cJ7_fill_53178 10 = .ok (.aload_n 0, 1) := by decide +kernel
theorem dJ7_fill_53178_11 : decode cJ7_fill_53178 11 = .ok (.iload_n 2, 1) := by decide +kernel
theorem dJ7_fill_53178_12 : decode cJ7_fill_53178 12 = .ok (.iload_n 1, 1) := by decide +kernel
theorem dJ7_fill_53178_13 : decode cJ7_fill_53178 13 = .ok (.iastore, 1) := by decide +kernel
theorem dJ7_fill_53178_14 : decode cJ7_fill_53178 14 = .ok (.iinc 2 1, 3) := by decide +kernel
theorem dJ7_fill_53178_17 : decode cJ7_fill_53178 17 = .ok (.goto (-12), 3) := by decide +kernel
theorem dJ7_fill_53178_20 : decode cJ7_fill_53178 20 = .ok (.return_, 1) := by decide +kernel
theorem dJ9_max_7cf53_0 : decode cJ9_max_7cf53 0 = .ok (.iload_n 0, 1) := by decide +kernel
theorem dJ9_max_7cf53_1 : decode cJ9_max_7cf53 1 = .ok (.iload_n 1, 1) := by decide +kernel
theorem dJ9_max_7cf53_2 : decode cJ9_max_7cf53 2 = .ok (.if_icmp .lt 7, 3) := by decide +kernel
theorem dJ9_max_7cf53_5 : decode cJ9_max_7cf53 5 = .ok (.iload_n 0, 1) := by decide +kernel
theorem dJ9_max_7cf53_6 : decode cJ9_max_7cf53 6 = .ok (.goto 4, 3) := by decide +kernel
theorem dJ9_max_7cf53_9 : decode cJ9_max_7cf53 9 = .ok (.iload_n 1, 1) := by decide +kernel
theorem dJ9_max_7cf53_10 : decode cJ9_max_7cf53 10 = .ok (.ireturn, 1) := by decide +kernel
theorem dJ9_min_7cf53_0 : decode cJ9_min_7cf53 0 = .ok (.iload_n 0, 1) := by decide +kernel
theorem dJ9_min_7cf53_1 : decode cJ9_min_7cf53 1 = .ok (.iload_n 1, 1) := by decide +kernel
theorem dJ9_min_7cf53_2 : decode cJ9_min_7cf53 2 = .ok (.if_icmp .gt 7, 3) := by decide +kernel
theorem dJ9_min_7cf53_5 : decode cJ9_min_7cf53 5 = .ok (.iload_n 0, 1) := by decide +kernel
theorem dJ9_min_7cf53_6 : decode cJ9_min_7cf53 6 = .ok (.goto 4, 3) := by decide +kernel
theorem dJ9_min_7cf53_9 : decode cJ9_min_7cf53 9 = .ok (.iload_n 1, 1) := by decide +kernel
theorem dJ9_min_7cf53_10 : decode cJ9_min_7cf53 10 = .ok (.ireturn, 1) := by decide +kernel
theorem dL_law_0 : decode cL_law 0 = .ok (.new 7, 3) := by decide +kernel
theorem dL_law_3 : decode cL_law 3 = .ok (.dup, 1) := by decide +kernel
theorem dL_law_4 : decode cL_law 4 = .ok (.invokespecial 9, 3) := by decide +kernel
theorem dL_law_7 : decode cL_law 7 = .ok (.astore_n 1, 1) := by decide +kernel
theorem dL_law_8 : decode cL_law 8 = .ok (.new 10, 3) := by decide +kernel
theorem dL_law_11 : decode cL_law 11 = .ok (.dup, 1) := by decide +kernel
theorem dL_law_12 : decode cL_law 12 = .ok (.invokespecial 12, 3) := by decide +kernel
theorem dL_law_15 : decode cL_law 15 = .ok (.astore_n 2, 1) := by decide +kernel
theorem dL_law_16 : decode cL_law 16 = .ok (.iconst 0, 1) := by decide +kernel
theorem dL_law_17 : decode cL_law 17 = .ok (.istore_n 3, 1) := by decide +kernel
theorem dL_law_18 : decode cL_law 18 = .ok (.iload_n 3, 1) := by decide +kernel
theorem dL_law_19 : decode cL_law 19 = .ok (.aload_n 0, 1) := by decide +kernel
theorem dL_law_20 : decode cL_law 20 = .ok (.arraylength, 1) := by decide +kernel
theorem dL_law_21 : decode cL_law 21 = .ok (.bipush 6, 2) := by decide +kernel
theorem dL_law_23 : decode cL_law 23 = .ok (.isub, 1) := by decide +kernel
theorem dL_law_24 : decode cL_law 24 = .ok (.if_icmp .gt 1414, 3) := by decide +kernel
theorem dL_law_27 : decode cL_law 27 = .ok (.aload_n 0, 1) := by decide +kernel
theorem dL_law_28 : decode cL_law 28 = .ok (.iload_n 3, 1) := by decide +kernel
theorem dL_law_29 : decode cL_law 29 = .ok (.iaload, 1) := by decide +kernel
theorem dL_law_30 : decode cL_law 30 = .ok (.bipush 63, 2) := by decide +kernel
theorem dL_law_32 : decode cL_law 32 = .ok (.iand, 1) := by decide +kernel
theorem dL_law_33 : decode cL_law 33 = .ok (.tableswitch 1399 0 38 #[171, 214, 257, 320, 343, 366, 379, 392, 405, 428, 451, 484, 507, 550, 583, 616, 639, 682, 715, 748, 771, 804, 827, 860, 893, 926, 959, 992, 1055, 1108, 1162, 1205, 1228, 1251, 1274, 1307, 1340, 1363, 1386], 171) := by decide +kernel
theorem dL_law_204 : decode cL_law 204 = .ok (.aload_n 1, 1) := by decide +kernel
theorem dL_law_205 : decode cL_law 205 = .ok (.aload_n 0, 1) := by decide +kernel
theorem dL_law_206 : decode cL_law 206 = .ok (.iload_n 3, 1) := by decide +kernel
theorem dL_law_207 : decode cL_law 207 = .ok (.iconst 1, 1) := by decide +kernel
theorem dL_law_208 : decode cL_law 208 = .ok (.iadd, 1) := by decide +kernel
theorem dL_law_209 : decode cL_law 209 = .ok (.iaload, 1) := by decide +kernel
theorem dL_law_210 : decode cL_law 210 = .ok (.aload_n 0, 1) := by decide +kernel
theorem dL_law_211 : decode cL_law 211 = .ok (.iload_n 3, 1) := by decide +kernel
theorem dL_law_212 : decode cL_law 212 = .ok (.iconst 2, 1) := by decide +kernel
theorem dL_law_213 : decode cL_law 213 = .ok (.iadd, 1) := by decide +kernel
theorem dL_law_214 : decode cL_law 214 = .ok (.iaload, 1) := by decide +kernel
theorem dL_law_215 : decode cL_law 215 = .ok (.aload_n 0, 1) := by decide +kernel
theorem dL_law_216 : decode cL_law 216 = .ok (.iload_n 3, 1) := by decide +kernel
theorem dL_law_217 : decode cL_law 217 = .ok (.iconst 3, 1) := by decide +kernel
theorem dL_law_218 : decode cL_law 218 = .ok (.iadd, 1) := by decide +kernel
theorem dL_law_219 : decode cL_law 219 = .ok (.iaload, 1) := by decide +kernel
theorem dL_law_220 : decode cL_law 220 = .ok (.invokevirtual 13, 3) := by decide +kernel
theorem dL_law_223 : decode cL_law 223 = .ok (.aload_n 2, 1) := by decide +kernel
theorem dL_law_224 : decode cL_law 224 = .ok (.aload_n 0, 1) := by decide +kernel
theorem dL_law_225 : decode cL_law 225 = .ok (.iload_n 3, 1) := by decide +kernel
theorem dL_law_226 : decode cL_law 226 = .ok (.iconst 1, 1) := by decide +kernel
theorem dL_law_227 : decode cL_law 227 = .ok (.iadd, 1) := by decide +kernel
theorem dL_law_228 : decode cL_law 228 = .ok (.iaload, 1) := by decide +kernel
theorem dL_law_229 : decode cL_law 229 = .ok (.aload_n 0, 1) := by decide +kernel
theorem dL_law_230 : decode cL_law 230 = .ok (.iload_n 3, 1) := by decide +kernel
theorem dL_law_231 : decode cL_law 231 = .ok (.iconst 2, 1) := by decide +kernel
theorem dL_law_232 : decode cL_law 232 = .ok (.iadd, 1) := by decide +kernel
theorem dL_law_233 : decode cL_law 233 = .ok (.iaload, 1) := by decide +kernel
theorem dL_law_234 : decode cL_law 234 = .ok (.aload_n 0, 1) := by decide +kernel
theorem dL_law_235 : decode cL_law 235 = .ok (.iload_n 3, 1) := by decide +kernel
theorem dL_law_236 : decode cL_law 236 = .ok (.iconst 3, 1) := by decide +kernel
theorem dL_law_237 : decode cL_law 237 = .ok (.iadd, 1) := by decide +kernel
theorem dL_law_238 : decode cL_law 238 = .ok (.iaload, 1) := by decide +kernel
theorem dL_law_239 : decode cL_law 239 = .ok (.invokevirtual 17, 3) := by decide +kernel
theorem dL_law_242 : decode cL_law 242 = .ok (.if_icmp .eq 1190, 3) := by decide +kernel
theorem dL_law_245 : decode cL_law 245 = .ok (.iconst 0, 1) := by decide +kernel
theorem dL_law_246 : decode cL_law 246 = .ok (.ireturn, 1) := by decide +kernel
theorem dL_law_247 : decode cL_law 247 = .ok (.aload_n 1, 1) := by decide +kernel
theorem dL_law_248 : decode cL_law 248 = .ok (.aload_n 0, 1) := by decide +kernel
theorem dL_law_249 : decode cL_law 249 = .ok (.iload_n 3, 1) := by decide +kernel
theorem dL_law_250 : decode cL_law 250 = .ok (.iconst 1, 1) := by decide +kernel
theorem dL_law_251 : decode cL_law 251 = .ok (.iadd, 1) := by decide +kernel
theorem dL_law_252 : decode cL_law 252 = .ok (.iaload, 1) := by decide +kernel
theorem dL_law_253 : decode cL_law 253 = .ok (.aload_n 0, 1) := by decide +kernel
theorem dL_law_254 : decode cL_law 254 = .ok (.iload_n 3, 1) := by decide +kernel
theorem dL_law_255 : decode cL_law 255 = .ok (.iconst 2, 1) := by decide +kernel
theorem dL_law_256 : decode cL_law 256 = .ok (.iadd, 1) := by decide +kernel
theorem dL_law_257 : decode cL_law 257 = .ok (.iaload, 1) := by decide +kernel
theorem dL_law_258 : decode cL_law 258 = .ok (.aload_n 0, 1) := by decide +kernel
theorem dL_law_259 : decode cL_law 259 = .ok (.iload_n 3, 1) := by decide +kernel
theorem dL_law_260 : decode cL_law 260 = .ok (.iconst 3, 1) := by decide +kernel
theorem dL_law_261 : decode cL_law 261 = .ok (.iadd, 1) := by decide +kernel
theorem dL_law_262 : decode cL_law 262 = .ok (.iaload, 1) := by decide +kernel
theorem dL_law_263 : decode cL_law 263 = .ok (.invokevirtual 18, 3) := by decide +kernel
theorem dL_law_266 : decode cL_law 266 = .ok (.aload_n 2, 1) := by decide +kernel
theorem dL_law_267 : decode cL_law 267 = .ok (.aload_n 0, 1) := by decide +kernel
theorem dL_law_268 : decode cL_law 268 = .ok (.iload_n 3, 1) := by decide +kernel
theorem dL_law_269 : decode cL_law 269 = .ok (.iconst 1, 1) := by decide +kernel
theorem dL_law_270 : decode cL_law 270 = .ok (.iadd, 1) := by decide +kernel
theorem dL_law_271 : decode cL_law 271 = .ok (.iaload, 1) := by decide +kernel
theorem dL_law_272 : decode cL_law 272 = .ok (.aload_n 0, 1) := by decide +kernel
theorem dL_law_273 : decode cL_law 273 = .ok (.iload_n 3, 1) := by decide +kernel
theorem dL_law_274 : decode cL_law 274 = .ok (.iconst 2, 1) := by decide +kernel
theorem dL_law_275 : decode cL_law 275 = .ok (.iadd, 1) := by decide +kernel
theorem dL_law_276 : decode cL_law 276 = .ok (.iaload, 1) := by decide +kernel
theorem dL_law_277 : decode cL_law 277 = .ok (.aload_n 0, 1) := by decide +kernel
theorem dL_law_278 : decode cL_law 278 = .ok (.iload_n 3, 1) := by decide +kernel
theorem dL_law_279 : decode cL_law 279 = .ok (.iconst 3, 1) := by decide +kernel
theorem dL_law_280 : decode cL_law 280 = .ok (.iadd, 1) := by decide +kernel
theorem dL_law_281 : decode cL_law 281 = .ok (.iaload, 1) := by decide +kernel
theorem dL_law_282 : decode cL_law 282 = .ok (.invokevirtual 21, 3) := by decide +kernel
theorem dL_law_285 : decode cL_law 285 = .ok (.if_icmp .eq 1147, 3) := by decide +kernel
theorem dL_law_288 : decode cL_law 288 = .ok (.iconst 0, 1) := by decide +kernel
theorem dL_law_289 : decode cL_law 289 = .ok (.ireturn, 1) := by decide +kernel
theorem dL_law_290 : decode cL_law 290 = .ok (.aload_n 1, 1) := by decide +kernel
theorem dL_law_291 : decode cL_law 291 = .ok (.aload_n 0, 1) := by decide +kernel
theorem dL_law_292 : decode cL_law 292 = .ok (.iload_n 3, 1) := by decide +kernel
theorem dL_law_293 : decode cL_law 293 = .ok (.iconst 1, 1) := by decide +kernel
theorem dL_law_294 : decode cL_law 294 = .ok (.iadd, 1) := by decide +kernel
theorem dL_law_295 : decode cL_law 295 = .ok (.iaload, 1) := by decide +kernel
theorem dL_law_296 : decode cL_law 296 = .ok (.aload_n 0, 1) := by decide +kernel
theorem dL_law_297 : decode cL_law 297 = .ok (.iload_n 3, 1) := by decide +kernel
theorem dL_law_298 : decode cL_law 298 = .ok (.iconst 2, 1) := by decide +kernel
theorem dL_law_299 : decode cL_law 299 = .ok (.iadd, 1) := by decide +kernel
theorem dL_law_300 : decode cL_law 300 = .ok (.iaload, 1) := by decide +kernel
theorem dL_law_301 : decode cL_law 301 = .ok (.aload_n 0, 1) := by decide +kernel
theorem dL_law_302 : decode cL_law 302 = .ok (.iload_n 3, 1) := by decide +kernel
theorem dL_law_303 : decode cL_law 303 = .ok (.iconst 3, 1) := by decide +kernel
theorem dL_law_304 : decode cL_law 304 = .ok (.iadd, 1) := by decide +kernel
theorem dL_law_305 : decode cL_law 305 = .ok (.iaload, 1) := by decide +kernel
theorem dL_law_306 : decode cL_law 306 = .ok (.aload_n 0, 1) := by decide +kernel
theorem dL_law_307 : decode cL_law 307 = .ok (.iload_n 3, 1) := by decide +kernel
theorem dL_law_308 : decode cL_law 308 = .ok (.iconst 4, 1) := by decide +kernel
theorem dL_law_309 : decode cL_law 309 = .ok (.iadd, 1) := by decide +kernel
theorem dL_law_310 : decode cL_law 310 = .ok (.iaload, 1) := by decide +kernel
theorem dL_law_311 : decode cL_law 311 = .ok (.aload_n 0, 1) := by decide +kernel
theorem dL_law_312 : decode cL_law 312 = .ok (.iload_n 3, 1) := by decide +kernel
theorem dL_law_313 : decode cL_law 313 = .ok (.iconst 5, 1) := by decide +kernel
theorem dL_law_314 : decode cL_law 314 = .ok (.iadd, 1) := by decide +kernel
theorem dL_law_315 : decode cL_law 315 = .ok (.iaload, 1) := by decide +kernel
theorem dL_law_316 : decode cL_law 316 = .ok (.invokevirtual 22, 3) := by decide +kernel
theorem dL_law_319 : decode cL_law 319 = .ok (.aload_n 2, 1) := by decide +kernel
theorem dL_law_320 : decode cL_law 320 = .ok (.aload_n 0, 1) := by decide +kernel
theorem dL_law_321 : decode cL_law 321 = .ok (.iload_n 3, 1) := by decide +kernel
theorem dL_law_322 : decode cL_law 322 = .ok (.iconst 1, 1) := by decide +kernel
theorem dL_law_323 : decode cL_law 323 = .ok (.iadd, 1) := by decide +kernel
theorem dL_law_324 : decode cL_law 324 = .ok (.iaload, 1) := by decide +kernel
theorem dL_law_325 : decode cL_law 325 = .ok (.aload_n 0, 1) := by decide +kernel
theorem dL_law_326 : decode cL_law 326 = .ok (.iload_n 3, 1) := by decide +kernel
theorem dL_law_327 : decode cL_law 327 = .ok (.iconst 2, 1) := by decide +kernel
theorem dL_law_328 : decode cL_law 328 = .ok (.iadd, 1) := by decide +kernel
theorem dL_law_329 : decode cL_law 329 = .ok (.iaload, 1) := by decide +kernel
theorem dL_law_330 : decode cL_law 330 = .ok (.aload_n 0, 1) := by decide +kernel
theorem dL_law_331 : decode cL_law 331 = .ok (.iload_n 3, 1) := by decide +kernel
theorem dL_law_332 : decode cL_law 332 = .ok (.iconst 3, 1) := by decide +kernel
theorem dL_law_333 : decode cL_law 333 = .ok (.iadd, 1) := by decide +kernel
theorem dL_law_334 : decode cL_law 334 = .ok (.iaload, 1) := by decide +kernel
theorem dL_law_335 : decode cL_law 335 = .ok (.aload_n 0, 1) := by decide +kernel
theorem dL_law_336 : decode cL_law 336 = .ok (.iload_n 3, 1) := by decide +kernel
theorem dL_law_337 : decode cL_law 337 = .ok (.iconst 4, 1) := by decide +kernel
theorem dL_law_338 : decode cL_law 338 = .ok (.iadd, 1) := by decide +kernel
theorem dL_law_339 : decode cL_law 339 = .ok (.iaload, 1) := by decide +kernel
theorem dL_law_340 : decode cL_law 340 = .ok (.aload_n 0, 1) := by decide +kernel
theorem dL_law_341 : decode cL_law 341 = .ok (.iload_n 3, 1) := by decide +kernel
theorem dL_law_342 : decode cL_law 342 = .ok (.iconst 5, 1) := by decide +kernel
theorem dL_law_343 : decode cL_law 343 = .ok (.iadd, 1) := by decide +kernel
theorem dL_law_344 : decode cL_law 344 = .ok (.iaload, 1) := by decide +kernel
theorem dL_law_345 : decode cL_law 345 = .ok (.invokevirtual 26, 3) := by decide +kernel
theorem dL_law_348 : decode cL_law 348 = .ok (.if_icmp .eq 1084, 3) := by decide +kernel
theorem dL_law_351 : decode cL_law 351 = .ok (.iconst 0, 1) := by decide +kernel
theorem dL_law_352 : decode cL_law 352 = .ok (.ireturn, 1) := by decide +kernel
theorem dL_law_353 : decode cL_law 353 = .ok (.aload_n 1, 1) := by decide +kernel
theorem dL_law_354 : decode cL_law 354 = .ok (.aload_n 0, 1) := by decide +kernel
theorem dL_law_355 : decode cL_law 355 = .ok (.iload_n 3, 1) := by decide +kernel
theorem dL_law_356 : decode cL_law 356 = .ok (.iconst 1, 1) := by decide +kernel
theorem dL_law_357 : decode cL_law 357 = .ok (.iadd, 1) := by decide +kernel
theorem dL_law_358 : decode cL_law 358 = .ok (.iaload, 1) := by decide +kernel
theorem dL_law_359 : decode cL_law 359 = .ok (.invokevirtual 27, 3) := by decide +kernel
theorem dL_law_362 : decode cL_law 362 = .ok (.aload_n 2, 1) := by decide +kernel
theorem dL_law_363 : decode cL_law 363 = .ok (.aload_n 0, 1) := by decide +kernel
theorem dL_law_364 : decode cL_law 364 = .ok (.iload_n 3, 1) := by decide +kernel
theorem dL_law_365 : decode cL_law 365 = .ok (.iconst 1, 1) := by decide +kernel
theorem dL_law_366 : decode cL_law 366 = .ok (.iadd, 1) := by decide +kernel
theorem dL_law_367 : decode cL_law 367 = .ok (.iaload, 1) := by decide +kernel
theorem dL_law_368 : decode cL_law 368 = .ok (.invokevirtual 31, 3) := by decide +kernel
theorem dL_law_371 : decode cL_law 371 = .ok (.if_icmp .eq 1061, 3) := by decide +kernel
theorem dL_law_374 : decode cL_law 374 = .ok (.iconst 0, 1) := by decide +kernel
theorem dL_law_375 : decode cL_law 375 = .ok (.ireturn, 1) := by decide +kernel
theorem dL_law_376 : decode cL_law 376 = .ok (.aload_n 1, 1) := by decide +kernel
theorem dL_law_377 : decode cL_law 377 = .ok (.aload_n 0, 1) := by decide +kernel
theorem dL_law_378 : decode cL_law 378 = .ok (.iload_n 3, 1) := by decide +kernel
theorem dL_law_379 : decode cL_law 379 = .ok (.iconst 1, 1) := by decide +kernel
theorem dL_law_380 : decode cL_law 380 = .ok (.iadd, 1) := by decide +kernel
theorem dL_law_381 : decode cL_law 381 = .ok (.iaload, 1) := by decide +kernel
theorem dL_law_382 : decode cL_law 382 = .ok (.invokevirtual 32, 3) := by decide +kernel
theorem dL_law_385 : decode cL_law 385 = .ok (.aload_n 2, 1) := by decide +kernel
theorem dL_law_386 : decode cL_law 386 = .ok (.aload_n 0, 1) := by decide +kernel
theorem dL_law_387 : decode cL_law 387 = .ok (.iload_n 3, 1) := by decide +kernel
theorem dL_law_388 : decode cL_law 388 = .ok (.iconst 1, 1) := by decide +kernel
theorem dL_law_389 : decode cL_law 389 = .ok (.iadd, 1) := by decide +kernel
theorem dL_law_390 : decode cL_law 390 = .ok (.iaload, 1) := by decide +kernel
theorem dL_law_391 : decode cL_law 391 = .ok (.invokevirtual 35, 3) := by decide +kernel
theorem dL_law_394 : decode cL_law 394 = .ok (.if_icmp .eq 1038, 3) := by decide +kernel
theorem dL_law_397 : decode cL_law 397 = .ok (.iconst 0, 1) := by decide +kernel
theorem dL_law_398 : decode cL_law 398 = .ok (.ireturn, 1) := by decide +kernel
theorem dL_law_399 : decode cL_law 399 = .ok (.aload_n 1, 1) := by decide +kernel
theorem dL_law_400 : decode cL_law 400 = .ok (.invokevirtual 36, 3) := by decide +kernel
theorem dL_law_403 : decode cL_law 403 = .ok (.aload_n 2, 1) := by decide +kernel
theorem dL_law_404 : decode cL_law 404 = .ok (.invokevirtual 40, 3) := by decide +kernel
theorem dL_law_407 : decode cL_law 407 = .ok (.if_icmp .eq 1025, 3) := by decide +kernel
theorem dL_law_410 : decode cL_law 410 = .ok (.iconst 0, 1) := by decide +kernel
theorem dL_law_411 : decode cL_law 411 = .ok (.ireturn, 1) := by decide +kernel
theorem dL_law_412 : decode cL_law 412 = .ok (.aload_n 1, 1) := by decide +kernel
theorem dL_law_413 : decode cL_law 413 = .ok (.invokevirtual 41, 3) := by decide +kernel
theorem dL_law_416 : decode cL_law 416 = .ok (.aload_n 2, 1) := by decide +kernel
theorem dL_law_417 : decode cL_law 417 = .ok (.invokevirtual 44, 3) := by decide +kernel
theorem dL_law_420 : decode cL_law 420 = .ok (.if_icmp .eq 1012, 3) := by decide +kernel
theorem dL_law_423 : decode cL_law 423 = .ok (.iconst 0, 1) := by decide +kernel
theorem dL_law_424 : decode cL_law 424 = .ok (.ireturn, 1) := by decide +kernel
theorem dL_law_425 : decode cL_law 425 = .ok (.aload_n 1, 1) := by decide +kernel
theorem dL_law_426 : decode cL_law 426 = .ok (.invokevirtual 45, 3) := by decide +kernel
theorem dL_law_429 : decode cL_law 429 = .ok (.aload_n 2, 1) := by decide +kernel
theorem dL_law_430 : decode cL_law 430 = .ok (.invokevirtual 48, 3) := by decide +kernel
theorem dL_law_433 : decode cL_law 433 = .ok (.if_icmp .eq 999, 3) := by decide +kernel
theorem dL_law_436 : decode cL_law 436 = .ok (.iconst 0, 1) := by decide +kernel
theorem dL_law_437 : decode cL_law 437 = .ok (.ireturn, 1) := by decide +kernel
theorem dL_law_438 : decode cL_law 438 = .ok (.aload_n 1, 1) := by decide +kernel
theorem dL_law_439 : decode cL_law 439 = .ok (.aload_n 0, 1) := by decide +kernel
theorem dL_law_440 : decode cL_law 440 = .ok (.iload_n 3, 1) := by decide +kernel
theorem dL_law_441 : decode cL_law 441 = .ok (.iconst 1, 1) := by decide +kernel
theorem dL_law_442 : decode cL_law 442 = .ok (.iadd, 1) := by decide +kernel
theorem dL_law_443 : decode cL_law 443 = .ok (.iaload, 1) := by decide +kernel
theorem dL_law_444 : decode cL_law 444 = .ok (.invokevirtual 49, 3) := by decide +kernel
theorem dL_law_447 : decode cL_law 447 = .ok (.aload_n 2, 1) := by decide +kernel
theorem dL_law_448 : decode cL_law 448 = .ok (.aload_n 0, 1) := by decide +kernel
theorem dL_law_449 : decode cL_law 449 = .ok (.iload_n 3, 1) := by decide +kernel
theorem dL_law_450 : decode cL_law 450 = .ok (.iconst 1, 1) := by decide +kernel
theorem dL_law_451 : decode cL_law 451 = .ok (.iadd, 1) := by decide +kernel
theorem dL_law_452 : decode cL_law 452 = .ok (.iaload, 1) := by decide +kernel
theorem dL_law_453 : decode cL_law 453 = .ok (.invokevirtual 52, 3) := by decide +kernel
theorem dL_law_456 : decode cL_law 456 = .ok (.if_icmp .eq 976, 3) := by decide +kernel
theorem dL_law_459 : decode cL_law 459 = .ok (.iconst 0, 1) := by decide +kernel
theorem dL_law_460 : decode cL_law 460 = .ok (.ireturn, 1) := by decide +kernel
theorem dL_law_461 : decode cL_law 461 = .ok (.aload_n 1, 1) := by decide +kernel
theorem dL_law_462 : decode cL_law 462 = .ok (.aload_n 0, 1) := by decide +kernel
theorem dL_law_463 : decode cL_law 463 = .ok (.iload_n 3, 1) := by decide +kernel
theorem dL_law_464 : decode cL_law 464 = .ok (.iconst 1, 1) := by decide +kernel
theorem dL_law_465 : decode cL_law 465 = .ok (.iadd, 1) := by decide +kernel
theorem dL_law_466 : decode cL_law 466 = .ok (.iaload, 1) := by decide +kernel
theorem dL_law_467 : decode cL_law 467 = .ok (.invokevirtual 53, 3) := by decide +kernel
theorem dL_law_470 : decode cL_law 470 = .ok (.aload_n 2, 1) := by decide +kernel
theorem dL_law_471 : decode cL_law 471 = .ok (.aload_n 0, 1) := by decide +kernel
theorem dL_law_472 : decode cL_law 472 = .ok (.iload_n 3, 1) := by decide +kernel
theorem dL_law_473 : decode cL_law 473 = .ok (.iconst 1, 1) := by decide +kernel
theorem dL_law_474 : decode cL_law 474 = .ok (.iadd, 1) := by decide +kernel
theorem dL_law_475 : decode cL_law 475 = .ok (.iaload, 1) := by decide +kernel
theorem dL_law_476 : decode cL_law 476 = .ok (.invokevirtual 56, 3) := by decide +kernel
theorem dL_law_479 : decode cL_law 479 = .ok (.if_icmp .eq 953, 3) := by decide +kernel
theorem dL_law_482 : decode cL_law 482 = .ok (.iconst 0, 1) := by decide +kernel
theorem dL_law_483 : decode cL_law 483 = .ok (.ireturn, 1) := by decide +kernel
theorem dL_law_484 : decode cL_law 484 = .ok (.aload_n 1, 1) := by decide +kernel
theorem dL_law_485 : decode cL_law 485 = .ok (.aload_n 0, 1) := by decide +kernel
theorem dL_law_486 : decode cL_law 486 = .ok (.iload_n 3, 1) := by decide +kernel
theorem dL_law_487 : decode cL_law 487 = .ok (.iconst 1, 1) := by decide +kernel
theorem dL_law_488 : decode cL_law 488 = .ok (.iadd, 1) := by decide +kernel
theorem dL_law_489 : decode cL_law 489 = .ok (.iaload, 1) := by decide +kernel
theorem dL_law_490 : decode cL_law 490 = .ok (.aload_n 0, 1) := by decide +kernel
theorem dL_law_491 : decode cL_law 491 = .ok (.iload_n 3, 1) := by decide +kernel
theorem dL_law_492 : decode cL_law 492 = .ok (.iconst 2, 1) := by decide +kernel
theorem dL_law_493 : decode cL_law 493 = .ok (.iadd, 1) := by decide +kernel
theorem dL_law_494 : decode cL_law 494 = .ok (.iaload, 1) := by decide +kernel
theorem dL_law_495 : decode cL_law 495 = .ok (.invokevirtual 57, 3) := by decide +kernel
theorem dL_law_498 : decode cL_law 498 = .ok (.aload_n 2, 1) := by decide +kernel
theorem dL_law_499 : decode cL_law 499 = .ok (.aload_n 0, 1) := by decide +kernel
theorem dL_law_500 : decode cL_law 500 = .ok (.iload_n 3, 1) := by decide +kernel
theorem dL_law_501 : decode cL_law 501 = .ok (.iconst 1, 1) := by decide +kernel
theorem dL_law_502 : decode cL_law 502 = .ok (.iadd, 1) := by decide +kernel
theorem dL_law_503 : decode cL_law 503 = .ok (.iaload, 1) := by decide +kernel
theorem dL_law_504 : decode cL_law 504 = .ok (.aload_n 0, 1) := by decide +kernel
theorem dL_law_505 : decode cL_law 505 = .ok (.iload_n 3, 1) := by decide +kernel
theorem dL_law_506 : decode cL_law 506 = .ok (.iconst 2, 1) := by decide +kernel
theorem dL_law_507 : decode cL_law 507 = .ok (.iadd, 1) := by decide +kernel
theorem dL_law_508 : decode cL_law 508 = .ok (.iaload, 1) := by decide +kernel
theorem dL_law_509 : decode cL_law 509 = .ok (.invokevirtual 61, 3) := by decide +kernel
theorem dL_law_512 : decode cL_law 512 = .ok (.if_icmp .eq 920, 3) := by decide +kernel
theorem dL_law_515 : decode cL_law 515 = .ok (.iconst 0, 1) := by decide +kernel
theorem dL_law_516 : decode cL_law 516 = .ok (.ireturn, 1) := by decide +kernel
theorem dL_law_517 : decode cL_law 517 = .ok (.aload_n 1, 1) := by decide +kernel
theorem dL_law_518 : decode cL_law 518 = .ok (.aload_n 0, 1) := by decide +kernel
theorem dL_law_519 : decode cL_law 519 = .ok (.iload_n 3, 1) := by decide +kernel
theorem dL_law_520 : decode cL_law 520 = .ok (.iconst 1, 1) := by decide +kernel
theorem dL_law_521 : decode cL_law 521 = .ok (.iadd, 1) := by decide +kernel
theorem dL_law_522 : decode cL_law 522 = .ok (.iaload, 1) := by decide +kernel
theorem dL_law_523 : decode cL_law 523 = .ok (.invokevirtual 62, 3) := by decide +kernel
theorem dL_law_526 : decode cL_law 526 = .ok (.aload_n 2, 1) := by decide +kernel
theorem dL_law_527 : decode cL_law 527 = .ok (.aload_n 0, 1) := by decide +kernel
theorem dL_law_528 : decode cL_law 528 = .ok (.iload_n 3, 1) := by decide +kernel
theorem dL_law_529 : decode cL_law 529 = .ok (.iconst 1, 1) := by decide +kernel
theorem dL_law_530 : decode cL_law 530 = .ok (.iadd, 1) := by decide +kernel
theorem dL_law_531 : decode cL_law 531 = .ok (.iaload, 1) := by decide +kernel
theorem dL_law_532 : decode cL_law 532 = .ok (.invokevirtual 65, 3) := by decide +kernel
theorem dL_law_535 : decode cL_law 535 = .ok (.if_icmp .eq 897, 3) := by decide +kernel
theorem dL_law_538 : decode cL_law 538 = .ok (.iconst 0, 1) := by decide +kernel
theorem dL_law_539 : decode cL_law 539 = .ok (.ireturn, 1) := by decide +kernel
theorem dL_law_540 : decode cL_law 540 = .ok (.aload_n 1, 1) := by decide +kernel
theorem dL_law_541 : decode cL_law 541 = .ok (.aload_n 0, 1) := by decide +kernel
theorem dL_law_542 : decode cL_law 542 = .ok (.iload_n 3, 1) := by decide +kernel
theorem dL_law_543 : decode cL_law 543 = .ok (.iconst 1, 1) := by decide +kernel
theorem dL_law_544 : decode cL_law 544 = .ok (.iadd, 1) := by decide +kernel
theorem dL_law_545 : decode cL_law 545 = .ok (.iaload, 1) := by decide +kernel
theorem dL_law_546 : decode cL_law 546 = .ok (.aload_n 0, 1) := by decide +kernel
theorem dL_law_547 : decode cL_law 547 = .ok (.iload_n 3, 1) := by decide +kernel
theorem dL_law_548 : decode cL_law 548 = .ok (.iconst 2, 1) := by decide +kernel
theorem dL_law_549 : decode cL_law 549 = .ok (.iadd, 1) := by decide +kernel
theorem dL_law_550 : decode cL_law 550 = .ok (.iaload, 1) := by decide +kernel
theorem dL_law_551 : decode cL_law 551 = .ok (.aload_n 0, 1) := by decide +kernel
theorem dL_law_552 : decode cL_law 552 = .ok (.iload_n 3, 1) := by decide +kernel
theorem dL_law_553 : decode cL_law 553 = .ok (.iconst 3, 1) := by decide +kernel
theorem dL_law_554 : decode cL_law 554 = .ok (.iadd, 1) := by decide +kernel
theorem dL_law_555 : decode cL_law 555 = .ok (.iaload, 1) := by decide +kernel
theorem dL_law_556 : decode cL_law 556 = .ok (.invokevirtual 66, 3) := by decide +kernel
theorem dL_law_559 : decode cL_law 559 = .ok (.aload_n 2, 1) := by decide +kernel
theorem dL_law_560 : decode cL_law 560 = .ok (.aload_n 0, 1) := by decide +kernel
theorem dL_law_561 : decode cL_law 561 = .ok (.iload_n 3, 1) := by decide +kernel
theorem dL_law_562 : decode cL_law 562 = .ok (.iconst 1, 1) := by decide +kernel
theorem dL_law_563 : decode cL_law 563 = .ok (.iadd, 1) := by decide +kernel
theorem dL_law_564 : decode cL_law 564 = .ok (.iaload, 1) := by decide +kernel
theorem dL_law_565 : decode cL_law 565 = .ok (.aload_n 0, 1) := by decide +kernel
theorem dL_law_566 : decode cL_law 566 = .ok (.iload_n 3, 1) := by decide +kernel
theorem dL_law_567 : decode cL_law 567 = .ok (.iconst 2, 1) := by decide +kernel
theorem dL_law_568 : decode cL_law 568 = .ok (.iadd, 1) := by decide +kernel
theorem dL_law_569 : decode cL_law 569 = .ok (.iaload, 1) := by decide +kernel
theorem dL_law_570 : decode cL_law 570 = .ok (.aload_n 0, 1) := by decide +kernel
theorem dL_law_571 : decode cL_law 571 = .ok (.iload_n 3, 1) := by decide +kernel
theorem dL_law_572 : decode cL_law 572 = .ok (.iconst 3, 1) := by decide +kernel
theorem dL_law_573 : decode cL_law 573 = .ok (.iadd, 1) := by decide +kernel
theorem dL_law_574 : decode cL_law 574 = .ok (.iaload, 1) := by decide +kernel
theorem dL_law_575 : decode cL_law 575 = .ok (.invokevirtual 69, 3) := by decide +kernel
theorem dL_law_578 : decode cL_law 578 = .ok (.if_icmp .eq 854, 3) := by decide +kernel
theorem dL_law_581 : decode cL_law 581 = .ok (.iconst 0, 1) := by decide +kernel
theorem dL_law_582 : decode cL_law 582 = .ok (.ireturn, 1) := by decide +kernel
theorem dL_law_583 : decode cL_law 583 = .ok (.aload_n 1, 1) := by decide +kernel
theorem dL_law_584 : decode cL_law 584 = .ok (.aload_n 0, 1) := by decide +kernel
theorem dL_law_585 : decode cL_law 585 = .ok (.iload_n 3, 1) := by decide +kernel
theorem dL_law_586 : decode cL_law 586 = .ok (.iconst 1, 1) := by decide +kernel
theorem dL_law_587 : decode cL_law 587 = .ok (.iadd, 1) := by decide +kernel
theorem dL_law_588 : decode cL_law 588 = .ok (.iaload, 1) := by decide +kernel
theorem dL_law_589 : decode cL_law 589 = .ok (.aload_n 0, 1) := by decide +kernel
theorem dL_law_590 : decode cL_law 590 = .ok (.iload_n 3, 1) := by decide +kernel
theorem dL_law_591 : decode cL_law 591 = .ok (.iconst 2, 1) := by decide +kernel
theorem dL_law_592 : decode cL_law 592 = .ok (.iadd, 1) := by decide +kernel
theorem dL_law_593 : decode cL_law 593 = .ok (.iaload, 1) := by decide +kernel
theorem dL_law_594 : decode cL_law 594 = .ok (.invokevirtual 70, 3) := by decide +kernel
theorem dL_law_597 : decode cL_law 597 = .ok (.aload_n 2, 1) := by decide +kernel
theorem dL_law_598 : decode cL_law 598 = .ok (.aload_n 0, 1) := by decide +kernel
theorem dL_law_599 : decode cL_law 599 = .ok (.iload_n 3, 1) := by decide +kernel
theorem dL_law_600 : decode cL_law 600 = .ok (.iconst 1, 1) := by decide +kernel
theorem dL_law_601 : decode cL_law 601 = .ok (.iadd, 1) := by decide +kernel
theorem dL_law_602 : decode cL_law 602 = .ok (.iaload, 1) := by decide +kernel
theorem dL_law_603 : decode cL_law 603 = .ok (.aload_n 0, 1) := by decide +kernel
theorem dL_law_604 : decode cL_law 604 = .ok (.iload_n 3, 1) := by decide +kernel
theorem dL_law_605 : decode cL_law 605 = .ok (.iconst 2, 1) := by decide +kernel
theorem dL_law_606 : decode cL_law 606 = .ok (.iadd, 1) := by decide +kernel
theorem dL_law_607 : decode cL_law 607 = .ok (.iaload, 1) := by decide +kernel
theorem dL_law_608 : decode cL_law 608 = .ok (.invokevirtual 73, 3) := by decide +kernel
theorem dL_law_611 : decode cL_law 611 = .ok (.if_icmp .eq 821, 3) := by decide +kernel
theorem dL_law_614 : decode cL_law 614 = .ok (.iconst 0, 1) := by decide +kernel
theorem dL_law_615 : decode cL_law 615 = .ok (.ireturn, 1) := by decide +kernel
theorem dL_law_616 : decode cL_law 616 = .ok (.aload_n 1, 1) := by decide +kernel
theorem dL_law_617 : decode cL_law 617 = .ok (.aload_n 0, 1) := by decide +kernel
theorem dL_law_618 : decode cL_law 618 = .ok (.iload_n 3, 1) := by decide +kernel
theorem dL_law_619 : decode cL_law 619 = .ok (.iconst 1, 1) := by decide +kernel
theorem dL_law_620 : decode cL_law 620 = .ok (.iadd, 1) := by decide +kernel
theorem dL_law_621 : decode cL_law 621 = .ok (.iaload, 1) := by decide +kernel
theorem dL_law_622 : decode cL_law 622 = .ok (.aload_n 0, 1) := by decide +kernel
theorem dL_law_623 : decode cL_law 623 = .ok (.iload_n 3, 1) := by decide +kernel
theorem dL_law_624 : decode cL_law 624 = .ok (.iconst 2, 1) := by decide +kernel
theorem dL_law_625 : decode cL_law 625 = .ok (.iadd, 1) := by decide +kernel
theorem dL_law_626 : decode cL_law 626 = .ok (.iaload, 1) := by decide +kernel
theorem dL_law_627 : decode cL_law 627 = .ok (.invokevirtual 74, 3) := by decide +kernel
theorem dL_law_630 : decode cL_law 630 = .ok (.aload_n 2, 1) := by decide +kernel
theorem dL_law_631 : decode cL_law 631 = .ok (.aload_n 0, 1) := by decide +kernel
theorem dL_law_632 : decode cL_law 632 = .ok (.iload_n 3, 1) := by decide +kernel
theorem dL_law_633 : decode cL_law 633 = .ok (.iconst 1, 1) := by decide +kernel
theorem dL_law_634 : decode cL_law 634 = .ok (.iadd, 1) := by decide +kernel
theorem dL_law_635 : decode cL_law 635 = .ok (.iaload, 1) := by decide +kernel
theorem dL_law_636 : decode cL_law 636 = .ok (.aload_n 0, 1) := by decide +kernel
theorem dL_law_637 : decode cL_law 637 = .ok (.iload_n 3, 1) := by decide +kernel
theorem dL_law_638 : decode cL_law 638 = .ok (.iconst 2, 1) := by decide +kernel
theorem dL_law_639 : decode cL_law 639 = .ok (.iadd, 1) := by decide +kernel
theorem dL_law_640 : decode cL_law 640 = .ok (.iaload, 1) := by decide +kernel
theorem dL_law_641 : decode cL_law 641 = .ok (.invokevirtual 77, 3) := by decide +kernel
theorem dL_law_644 : decode cL_law 644 = .ok (.if_icmp .eq 788, 3) := by decide +kernel
theorem dL_law_647 : decode cL_law 647 = .ok (.iconst 0, 1) := by decide +kernel
theorem dL_law_648 : decode cL_law 648 = .ok (.ireturn, 1) := by decide +kernel
theorem dL_law_649 : decode cL_law 649 = .ok (.aload_n 1, 1) := by decide +kernel
theorem dL_law_650 : decode cL_law 650 = .ok (.aload_n 0, 1) := by decide +kernel
theorem dL_law_651 : decode cL_law 651 = .ok (.iload_n 3, 1) := by decide +kernel
theorem dL_law_652 : decode cL_law 652 = .ok (.iconst 1, 1) := by decide +kernel
theorem dL_law_653 : decode cL_law 653 = .ok (.iadd, 1) := by decide +kernel
theorem dL_law_654 : decode cL_law 654 = .ok (.iaload, 1) := by decide +kernel
theorem dL_law_655 : decode cL_law 655 = .ok (.invokevirtual 78, 3) := by decide +kernel
theorem dL_law_658 : decode cL_law 658 = .ok (.aload_n 2, 1) := by decide +kernel
theorem dL_law_659 : decode cL_law 659 = .ok (.aload_n 0, 1) := by decide +kernel
theorem dL_law_660 : decode cL_law 660 = .ok (.iload_n 3, 1) := by decide +kernel
theorem dL_law_661 : decode cL_law 661 = .ok (.iconst 1, 1) := by decide +kernel
theorem dL_law_662 : decode cL_law 662 = .ok (.iadd, 1) := by decide +kernel
theorem dL_law_663 : decode cL_law 663 = .ok (.iaload, 1) := by decide +kernel
theorem dL_law_664 : decode cL_law 664 = .ok (.invokevirtual 81, 3) := by decide +kernel
theorem dL_law_667 : decode cL_law 667 = .ok (.if_icmp .eq 765, 3) := by decide +kernel
theorem dL_law_670 : decode cL_law 670 = .ok (.iconst 0, 1) := by decide +kernel
theorem dL_law_671 : decode cL_law 671 = .ok (.ireturn, 1) := by decide +kernel
theorem dL_law_672 : decode cL_law 672 = .ok (.aload_n 1, 1) := by decide +kernel
theorem dL_law_673 : decode cL_law 673 = .ok (.aload_n 0, 1) := by decide +kernel
theorem dL_law_674 : decode cL_law 674 = .ok (.iload_n 3, 1) := by decide +kernel
theorem dL_law_675 : decode cL_law 675 = .ok (.iconst 1, 1) := by decide +kernel
theorem dL_law_676 : decode cL_law 676 = .ok (.iadd, 1) := by decide +kernel
theorem dL_law_677 : decode cL_law 677 = .ok (.iaload, 1) := by decide +kernel
theorem dL_law_678 : decode cL_law 678 = .ok (.aload_n 0, 1) := by decide +kernel
theorem dL_law_679 : decode cL_law 679 = .ok (.iload_n 3, 1) := by decide +kernel
theorem dL_law_680 : decode cL_law 680 = .ok (.iconst 2, 1) := by decide +kernel
theorem dL_law_681 : decode cL_law 681 = .ok (.iadd, 1) := by decide +kernel
theorem dL_law_682 : decode cL_law 682 = .ok (.iaload, 1) := by decide +kernel
theorem dL_law_683 : decode cL_law 683 = .ok (.aload_n 0, 1) := by decide +kernel
theorem dL_law_684 : decode cL_law 684 = .ok (.iload_n 3, 1) := by decide +kernel
theorem dL_law_685 : decode cL_law 685 = .ok (.iconst 3, 1) := by decide +kernel
theorem dL_law_686 : decode cL_law 686 = .ok (.iadd, 1) := by decide +kernel
theorem dL_law_687 : decode cL_law 687 = .ok (.iaload, 1) := by decide +kernel
theorem dL_law_688 : decode cL_law 688 = .ok (.invokevirtual 82, 3) := by decide +kernel
theorem dL_law_691 : decode cL_law 691 = .ok (.aload_n 2, 1) := by decide +kernel
theorem dL_law_692 : decode cL_law 692 = .ok (.aload_n 0, 1) := by decide +kernel
theorem dL_law_693 : decode cL_law 693 = .ok (.iload_n 3, 1) := by decide +kernel
theorem dL_law_694 : decode cL_law 694 = .ok (.iconst 1, 1) := by decide +kernel
theorem dL_law_695 : decode cL_law 695 = .ok (.iadd, 1) := by decide +kernel
theorem dL_law_696 : decode cL_law 696 = .ok (.iaload, 1) := by decide +kernel
theorem dL_law_697 : decode cL_law 697 = .ok (.aload_n 0, 1) := by decide +kernel
theorem dL_law_698 : decode cL_law 698 = .ok (.iload_n 3, 1) := by decide +kernel
theorem dL_law_699 : decode cL_law 699 = .ok (.iconst 2, 1) := by decide +kernel
theorem dL_law_700 : decode cL_law 700 = .ok (.iadd, 1) := by decide +kernel
theorem dL_law_701 : decode cL_law 701 = .ok (.iaload, 1) := by decide +kernel
theorem dL_law_702 : decode cL_law 702 = .ok (.aload_n 0, 1) := by decide +kernel
theorem dL_law_703 : decode cL_law 703 = .ok (.iload_n 3, 1) := by decide +kernel
theorem dL_law_704 : decode cL_law 704 = .ok (.iconst 3, 1) := by decide +kernel
theorem dL_law_705 : decode cL_law 705 = .ok (.iadd, 1) := by decide +kernel
theorem dL_law_706 : decode cL_law 706 = .ok (.iaload, 1) := by decide +kernel
theorem dL_law_707 : decode cL_law 707 = .ok (.invokevirtual 85, 3) := by decide +kernel
theorem dL_law_710 : decode cL_law 710 = .ok (.if_icmp .eq 722, 3) := by decide +kernel
theorem dL_law_713 : decode cL_law 713 = .ok (.iconst 0, 1) := by decide +kernel
theorem dL_law_714 : decode cL_law 714 = .ok (.ireturn, 1) := by decide +kernel
theorem dL_law_715 : decode cL_law 715 = .ok (.aload_n 1, 1) := by decide +kernel
theorem dL_law_716 : decode cL_law 716 = .ok (.aload_n 0, 1) := by decide +kernel
theorem dL_law_717 : decode cL_law 717 = .ok (.iload_n 3, 1) := by decide +kernel
theorem dL_law_718 : decode cL_law 718 = .ok (.iconst 1, 1) := by decide +kernel
theorem dL_law_719 : decode cL_law 719 = .ok (.iadd, 1) := by decide +kernel
theorem dL_law_720 : decode cL_law 720 = .ok (.iaload, 1) := by decide +kernel
theorem dL_law_721 : decode cL_law 721 = .ok (.aload_n 0, 1) := by decide +kernel
theorem dL_law_722 : decode cL_law 722 = .ok (.iload_n 3, 1) := by decide +kernel
theorem dL_law_723 : decode cL_law 723 = .ok (.iconst 2, 1) := by decide +kernel
theorem dL_law_724 : decode cL_law 724 = .ok (.iadd, 1) := by decide +kernel
theorem dL_law_725 : decode cL_law 725 = .ok (.iaload, 1) := by decide +kernel
theorem dL_law_726 : decode cL_law 726 = .ok (.invokevirtual 86, 3) := by decide +kernel
theorem dL_law_729 : decode cL_law 729 = .ok (.aload_n 2, 1) := by decide +kernel
theorem dL_law_730 : decode cL_law 730 = .ok (.aload_n 0, 1) := by decide +kernel
theorem dL_law_731 : decode cL_law 731 = .ok (.iload_n 3, 1) := by decide +kernel
theorem dL_law_732 : decode cL_law 732 = .ok (.iconst 1, 1) := by decide +kernel
theorem dL_law_733 : decode cL_law 733 = .ok (.iadd, 1) := by decide +kernel
theorem dL_law_734 : decode cL_law 734 = .ok (.iaload, 1) := by decide +kernel
theorem dL_law_735 : decode cL_law 735 = .ok (.aload_n 0, 1) := by decide +kernel
theorem dL_law_736 : decode cL_law 736 = .ok (.iload_n 3, 1) := by decide +kernel
theorem dL_law_737 : decode cL_law 737 = .ok (.iconst 2, 1) := by decide +kernel
theorem dL_law_738 : decode cL_law 738 = .ok (.iadd, 1) := by decide +kernel
theorem dL_law_739 : decode cL_law 739 = .ok (.iaload, 1) := by decide +kernel
theorem dL_law_740 : decode cL_law 740 = .ok (.invokevirtual 89, 3) := by decide +kernel
theorem dL_law_743 : decode cL_law 743 = .ok (.if_icmp .eq 689, 3) := by decide +kernel
theorem dL_law_746 : decode cL_law 746 = .ok (.iconst 0, 1) := by decide +kernel
theorem dL_law_747 : decode cL_law 747 = .ok (.ireturn, 1) := by decide +kernel
theorem dL_law_748 : decode cL_law 748 = .ok (.aload_n 1, 1) := by decide +kernel
theorem dL_law_749 : decode cL_law 749 = .ok (.aload_n 0, 1) := by decide +kernel
theorem dL_law_750 : decode cL_law 750 = .ok (.iload_n 3, 1) := by decide +kernel
theorem dL_law_751 : decode cL_law 751 = .ok (.iconst 1, 1) := by decide +kernel
theorem dL_law_752 : decode cL_law 752 = .ok (.iadd, 1) := by decide +kernel
theorem dL_law_753 : decode cL_law 753 = .ok (.iaload, 1) := by decide +kernel
theorem dL_law_754 : decode cL_law 754 = .ok (.aload_n 0, 1) := by decide +kernel
theorem dL_law_755 : decode cL_law 755 = .ok (.iload_n 3, 1) := by decide +kernel
theorem dL_law_756 : decode cL_law 756 = .ok (.iconst 2, 1) := by decide +kernel
theorem dL_law_757 : decode cL_law 757 = .ok (.iadd, 1) := by decide +kernel
theorem dL_law_758 : decode cL_law 758 = .ok (.iaload, 1) := by decide +kernel
theorem dL_law_759 : decode cL_law 759 = .ok (.invokevirtual 90, 3) := by decide +kernel
theorem dL_law_762 : decode cL_law 762 = .ok (.aload_n 2, 1) := by decide +kernel
theorem dL_law_763 : decode cL_law 763 = .ok (.aload_n 0, 1) := by decide +kernel
theorem dL_law_764 : decode cL_law 764 = .ok (.iload_n 3, 1) := by decide +kernel
theorem dL_law_765 : decode cL_law 765 = .ok (.iconst 1, 1) := by decide +kernel
theorem dL_law_766 : decode cL_law 766 = .ok (.iadd, 1) := by decide +kernel
theorem dL_law_767 : decode cL_law 767 = .ok (.iaload, 1) := by decide +kernel
theorem dL_law_768 : decode cL_law 768 = .ok (.aload_n 0, 1) := by decide +kernel
theorem dL_law_769 : decode cL_law 769 = .ok (.iload_n 3, 1) := by decide +kernel
theorem dL_law_770 : decode cL_law 770 = .ok (.iconst 2, 1) := by decide +kernel
theorem dL_law_771 : decode cL_law 771 = .ok (.iadd, 1) := by decide +kernel
theorem dL_law_772 : decode cL_law 772 = .ok (.iaload, 1) := by decide +kernel
theorem dL_law_773 : decode cL_law 773 = .ok (.invokevirtual 93, 3) := by decide +kernel
theorem dL_law_776 : decode cL_law 776 = .ok (.if_icmp .eq 656, 3) := by decide +kernel
theorem dL_law_779 : decode cL_law 779 = .ok (.iconst 0, 1) := by decide +kernel
theorem dL_law_780 : decode cL_law 780 = .ok (.ireturn, 1) := by decide +kernel
theorem dL_law_781 : decode cL_law 781 = .ok (.aload_n 1, 1) := by decide +kernel
theorem dL_law_782 : decode cL_law 782 = .ok (.aload_n 0, 1) := by decide +kernel
theorem dL_law_783 : decode cL_law 783 = .ok (.iload_n 3, 1) := by decide +kernel
theorem dL_law_784 : decode cL_law 784 = .ok (.iconst 1, 1) := by decide +kernel
theorem dL_law_785 : decode cL_law 785 = .ok (.iadd, 1) := by decide +kernel
theorem dL_law_786 : decode cL_law 786 = .ok (.iaload, 1) := by decide +kernel
theorem dL_law_787 : decode cL_law 787 = .ok (.invokevirtual 94, 3) := by decide +kernel
theorem dL_law_790 : decode cL_law 790 = .ok (.aload_n 2, 1) := by decide +kernel
theorem dL_law_791 : decode cL_law 791 = .ok (.aload_n 0, 1) := by decide +kernel
theorem dL_law_792 : decode cL_law 792 = .ok (.iload_n 3, 1) := by decide +kernel
theorem dL_law_793 : decode cL_law 793 = .ok (.iconst 1, 1) := by decide +kernel
theorem dL_law_794 : decode cL_law 794 = .ok (.iadd, 1) := by decide +kernel
theorem dL_law_795 : decode cL_law 795 = .ok (.iaload, 1) := by decide +kernel
theorem dL_law_796 : decode cL_law 796 = .ok (.invokevirtual 97, 3) := by decide +kernel
theorem dL_law_799 : decode cL_law 799 = .ok (.if_icmp .eq 633, 3) := by decide +kernel
theorem dL_law_802 : decode cL_law 802 = .ok (.iconst 0, 1) := by decide +kernel
theorem dL_law_803 : decode cL_law 803 = .ok (.ireturn, 1) := by decide +kernel
theorem dL_law_804 : decode cL_law 804 = .ok (.aload_n 1, 1) := by decide +kernel
theorem dL_law_805 : decode cL_law 805 = .ok (.aload_n 0, 1) := by decide +kernel
theorem dL_law_806 : decode cL_law 806 = .ok (.iload_n 3, 1) := by decide +kernel
theorem dL_law_807 : decode cL_law 807 = .ok (.iconst 1, 1) := by decide +kernel
theorem dL_law_808 : decode cL_law 808 = .ok (.iadd, 1) := by decide +kernel
theorem dL_law_809 : decode cL_law 809 = .ok (.iaload, 1) := by decide +kernel
theorem dL_law_810 : decode cL_law 810 = .ok (.aload_n 0, 1) := by decide +kernel
theorem dL_law_811 : decode cL_law 811 = .ok (.iload_n 3, 1) := by decide +kernel
theorem dL_law_812 : decode cL_law 812 = .ok (.iconst 2, 1) := by decide +kernel
theorem dL_law_813 : decode cL_law 813 = .ok (.iadd, 1) := by decide +kernel
theorem dL_law_814 : decode cL_law 814 = .ok (.iaload, 1) := by decide +kernel
theorem dL_law_815 : decode cL_law 815 = .ok (.invokevirtual 98, 3) := by decide +kernel
theorem dL_law_818 : decode cL_law 818 = .ok (.aload_n 2, 1) := by decide +kernel
theorem dL_law_819 : decode cL_law 819 = .ok (.aload_n 0, 1) := by decide +kernel
theorem dL_law_820 : decode cL_law 820 = .ok (.iload_n 3, 1) := by decide +kernel
theorem dL_law_821 : decode cL_law 821 = .ok (.iconst 1, 1) := by decide +kernel
theorem dL_law_822 : decode cL_law 822 = .ok (.iadd, 1) := by decide +kernel
theorem dL_law_823 : decode cL_law 823 = .ok (.iaload, 1) := by decide +kernel
theorem dL_law_824 : decode cL_law 824 = .ok (.aload_n 0, 1) := by decide +kernel
theorem dL_law_825 : decode cL_law 825 = .ok (.iload_n 3, 1) := by decide +kernel
theorem dL_law_826 : decode cL_law 826 = .ok (.iconst 2, 1) := by decide +kernel
theorem dL_law_827 : decode cL_law 827 = .ok (.iadd, 1) := by decide +kernel
theorem dL_law_828 : decode cL_law 828 = .ok (.iaload, 1) := by decide +kernel
theorem dL_law_829 : decode cL_law 829 = .ok (.invokevirtual 101, 3) := by decide +kernel
theorem dL_law_832 : decode cL_law 832 = .ok (.if_icmp .eq 600, 3) := by decide +kernel
theorem dL_law_835 : decode cL_law 835 = .ok (.iconst 0, 1) := by decide +kernel
theorem dL_law_836 : decode cL_law 836 = .ok (.ireturn, 1) := by decide +kernel
theorem dL_law_837 : decode cL_law 837 = .ok (.aload_n 1, 1) := by decide +kernel
theorem dL_law_838 : decode cL_law 838 = .ok (.aload_n 0, 1) := by decide +kernel
theorem dL_law_839 : decode cL_law 839 = .ok (.iload_n 3, 1) := by decide +kernel
theorem dL_law_840 : decode cL_law 840 = .ok (.iconst 1, 1) := by decide +kernel
theorem dL_law_841 : decode cL_law 841 = .ok (.iadd, 1) := by decide +kernel
theorem dL_law_842 : decode cL_law 842 = .ok (.iaload, 1) := by decide +kernel
theorem dL_law_843 : decode cL_law 843 = .ok (.invokevirtual 102, 3) := by decide +kernel
theorem dL_law_846 : decode cL_law 846 = .ok (.aload_n 2, 1) := by decide +kernel
theorem dL_law_847 : decode cL_law 847 = .ok (.aload_n 0, 1) := by decide +kernel
theorem dL_law_848 : decode cL_law 848 = .ok (.iload_n 3, 1) := by decide +kernel
theorem dL_law_849 : decode cL_law 849 = .ok (.iconst 1, 1) := by decide +kernel
theorem dL_law_850 : decode cL_law 850 = .ok (.iadd, 1) := by decide +kernel
theorem dL_law_851 : decode cL_law 851 = .ok (.iaload, 1) := by decide +kernel
theorem dL_law_852 : decode cL_law 852 = .ok (.invokevirtual 105, 3) := by decide +kernel
theorem dL_law_855 : decode cL_law 855 = .ok (.if_icmp .eq 577, 3) := by decide +kernel
theorem dL_law_858 : decode cL_law 858 = .ok (.iconst 0, 1) := by decide +kernel
theorem dL_law_859 : decode cL_law 859 = .ok (.ireturn, 1) := by decide +kernel
theorem dL_law_860 : decode cL_law 860 = .ok (.aload_n 1, 1) := by decide +kernel
theorem dL_law_861 : decode cL_law 861 = .ok (.aload_n 0, 1) := by decide +kernel
theorem dL_law_862 : decode cL_law 862 = .ok (.iload_n 3, 1) := by decide +kernel
theorem dL_law_863 : decode cL_law 863 = .ok (.iconst 1, 1) := by decide +kernel
theorem dL_law_864 : decode cL_law 864 = .ok (.iadd, 1) := by decide +kernel
theorem dL_law_865 : decode cL_law 865 = .ok (.iaload, 1) := by decide +kernel
theorem dL_law_866 : decode cL_law 866 = .ok (.aload_n 0, 1) := by decide +kernel
theorem dL_law_867 : decode cL_law 867 = .ok (.iload_n 3, 1) := by decide +kernel
theorem dL_law_868 : decode cL_law 868 = .ok (.iconst 2, 1) := by decide +kernel
theorem dL_law_869 : decode cL_law 869 = .ok (.iadd, 1) := by decide +kernel
theorem dL_law_870 : decode cL_law 870 = .ok (.iaload, 1) := by decide +kernel
theorem dL_law_871 : decode cL_law 871 = .ok (.invokevirtual 106, 3) := by decide +kernel
theorem dL_law_874 : decode cL_law 874 = .ok (.aload_n 2, 1) := by decide +kernel
theorem dL_law_875 : decode cL_law 875 = .ok (.aload_n 0, 1) := by decide +kernel
theorem dL_law_876 : decode cL_law 876 = .ok (.iload_n 3, 1) := by decide +kernel
theorem dL_law_877 : decode cL_law 877 = .ok (.iconst 1, 1) := by decide +kernel
theorem dL_law_878 : decode cL_law 878 = .ok (.iadd, 1) := by decide +kernel
theorem dL_law_879 : decode cL_law 879 = .ok (.iaload, 1) := by decide +kernel
theorem dL_law_880 : decode cL_law 880 = .ok (.aload_n 0, 1) := by decide +kernel
theorem dL_law_881 : decode cL_law 881 = .ok (.iload_n 3, 1) := by decide +kernel
theorem dL_law_882 : decode cL_law 882 = .ok (.iconst 2, 1) := by decide +kernel
theorem dL_law_883 : decode cL_law 883 = .ok (.iadd, 1) := by decide +kernel
theorem dL_law_884 : decode cL_law 884 = .ok (.iaload, 1) := by decide +kernel
theorem dL_law_885 : decode cL_law 885 = .ok (.invokevirtual 109, 3) := by decide +kernel
theorem dL_law_888 : decode cL_law 888 = .ok (.if_icmp .eq 544, 3) := by decide +kernel
theorem dL_law_891 : decode cL_law 891 = .ok (.iconst 0, 1) := by decide +kernel
theorem dL_law_892 : decode cL_law 892 = .ok (.ireturn, 1) := by decide +kernel
theorem dL_law_893 : decode cL_law 893 = .ok (.aload_n 1, 1) := by decide +kernel
theorem dL_law_894 : decode cL_law 894 = .ok (.aload_n 0, 1) := by decide +kernel
theorem dL_law_895 : decode cL_law 895 = .ok (.iload_n 3, 1) := by decide +kernel
theorem dL_law_896 : decode cL_law 896 = .ok (.iconst 1, 1) := by decide +kernel
theorem dL_law_897 : decode cL_law 897 = .ok (.iadd, 1) := by decide +kernel
theorem dL_law_898 : decode cL_law 898 = .ok (.iaload, 1) := by decide +kernel
theorem dL_law_899 : decode cL_law 899 = .ok (.aload_n 0, 1) := by decide +kernel
theorem dL_law_900 : decode cL_law 900 = .ok (.iload_n 3, 1) := by decide +kernel
theorem dL_law_901 : decode cL_law 901 = .ok (.iconst 2, 1) := by decide +kernel
theorem dL_law_902 : decode cL_law 902 = .ok (.iadd, 1) := by decide +kernel
theorem dL_law_903 : decode cL_law 903 = .ok (.iaload, 1) := by decide +kernel
theorem dL_law_904 : decode cL_law 904 = .ok (.invokevirtual 110, 3) := by decide +kernel
theorem dL_law_907 : decode cL_law 907 = .ok (.aload_n 2, 1) := by decide +kernel
theorem dL_law_908 : decode cL_law 908 = .ok (.aload_n 0, 1) := by decide +kernel
theorem dL_law_909 : decode cL_law 909 = .ok (.iload_n 3, 1) := by decide +kernel
theorem dL_law_910 : decode cL_law 910 = .ok (.iconst 1, 1) := by decide +kernel
theorem dL_law_911 : decode cL_law 911 = .ok (.iadd, 1) := by decide +kernel
theorem dL_law_912 : decode cL_law 912 = .ok (.iaload, 1) := by decide +kernel
theorem dL_law_913 : decode cL_law 913 = .ok (.aload_n 0, 1) := by decide +kernel
theorem dL_law_914 : decode cL_law 914 = .ok (.iload_n 3, 1) := by decide +kernel
theorem dL_law_915 : decode cL_law 915 = .ok (.iconst 2, 1) := by decide +kernel
theorem dL_law_916 : decode cL_law 916 = .ok (.iadd, 1) := by decide +kernel
theorem dL_law_917 : decode cL_law 917 = .ok (.iaload, 1) := by decide +kernel
theorem dL_law_918 : decode cL_law 918 = .ok (.invokevirtual 113, 3) := by decide +kernel
theorem dL_law_921 : decode cL_law 921 = .ok (.if_icmp .eq 511, 3) := by decide +kernel
theorem dL_law_924 : decode cL_law 924 = .ok (.iconst 0, 1) := by decide +kernel
theorem dL_law_925 : decode cL_law 925 = .ok (.ireturn, 1) := by decide +kernel
theorem dL_law_926 : decode cL_law 926 = .ok (.aload_n 1, 1) := by decide +kernel
theorem dL_law_927 : decode cL_law 927 = .ok (.aload_n 0, 1) := by decide +kernel
theorem dL_law_928 : decode cL_law 928 = .ok (.iload_n 3, 1) := by decide +kernel
theorem dL_law_929 : decode cL_law 929 = .ok (.iconst 1, 1) := by decide +kernel
theorem dL_law_930 : decode cL_law 930 = .ok (.iadd, 1) := by decide +kernel
theorem dL_law_931 : decode cL_law 931 = .ok (.iaload, 1) := by decide +kernel
theorem dL_law_932 : decode cL_law 932 = .ok (.aload_n 0, 1) := by decide +kernel
theorem dL_law_933 : decode cL_law 933 = .ok (.iload_n 3, 1) := by decide +kernel
theorem dL_law_934 : decode cL_law 934 = .ok (.iconst 2, 1) := by decide +kernel
theorem dL_law_935 : decode cL_law 935 = .ok (.iadd, 1) := by decide +kernel
theorem dL_law_936 : decode cL_law 936 = .ok (.iaload, 1) := by decide +kernel
theorem dL_law_937 : decode cL_law 937 = .ok (.invokevirtual 114, 3) := by decide +kernel
theorem dL_law_940 : decode cL_law 940 = .ok (.aload_n 2, 1) := by decide +kernel
theorem dL_law_941 : decode cL_law 941 = .ok (.aload_n 0, 1) := by decide +kernel
theorem dL_law_942 : decode cL_law 942 = .ok (.iload_n 3, 1) := by decide +kernel
theorem dL_law_943 : decode cL_law 943 = .ok (.iconst 1, 1) := by decide +kernel
theorem dL_law_944 : decode cL_law 944 = .ok (.iadd, 1) := by decide +kernel
theorem dL_law_945 : decode cL_law 945 = .ok (.iaload, 1) := by decide +kernel
theorem dL_law_946 : decode cL_law 946 = .ok (.aload_n 0, 1) := by decide +kernel
theorem dL_law_947 : decode cL_law 947 = .ok (.iload_n 3, 1) := by decide +kernel
theorem dL_law_948 : decode cL_law 948 = .ok (.iconst 2, 1) := by decide +kernel
theorem dL_law_949 : decode cL_law 949 = .ok (.iadd, 1) := by decide +kernel
theorem dL_law_950 : decode cL_law 950 = .ok (.iaload, 1) := by decide +kernel
theorem dL_law_951 : decode cL_law 951 = .ok (.invokevirtual 117, 3) := by decide +kernel
theorem dL_law_954 : decode cL_law 954 = .ok (.if_icmp .eq 478, 3) := by decide +kernel
theorem dL_law_957 : decode cL_law 957 = .ok (.iconst 0, 1) := by decide +kernel
theorem dL_law_958 : decode cL_law 958 = .ok (.ireturn, 1) := by decide +kernel
theorem dL_law_959 : decode cL_law 959 = .ok (.aload_n 1, 1) := by decide +kernel
theorem dL_law_960 : decode cL_law 960 = .ok (.aload_n 0, 1) := by decide +kernel
theorem dL_law_961 : decode cL_law 961 = .ok (.iload_n 3, 1) := by decide +kernel
theorem dL_law_962 : decode cL_law 962 = .ok (.iconst 1, 1) := by decide +kernel
theorem dL_law_963 : decode cL_law 963 = .ok (.iadd, 1) := by decide +kernel
theorem dL_law_964 : decode cL_law 964 = .ok (.iaload, 1) := by decide +kernel
theorem dL_law_965 : decode cL_law 965 = .ok (.aload_n 0, 1) := by decide +kernel
theorem dL_law_966 : decode cL_law 966 = .ok (.iload_n 3, 1) := by decide +kernel
theorem dL_law_967 : decode cL_law 967 = .ok (.iconst 2, 1) := by decide +kernel
theorem dL_law_968 : decode cL_law 968 = .ok (.iadd, 1) := by decide +kernel
theorem dL_law_969 : decode cL_law 969 = .ok (.iaload, 1) := by decide +kernel
theorem dL_law_970 : decode cL_law 970 = .ok (.invokevirtual 118, 3) := by decide +kernel
theorem dL_law_973 : decode cL_law 973 = .ok (.aload_n 2, 1) := by decide +kernel
theorem dL_law_974 : decode cL_law 974 = .ok (.aload_n 0, 1) := by decide +kernel
theorem dL_law_975 : decode cL_law 975 = .ok (.iload_n 3, 1) := by decide +kernel
theorem dL_law_976 : decode cL_law 976 = .ok (.iconst 1, 1) := by decide +kernel
theorem dL_law_977 : decode cL_law 977 = .ok (.iadd, 1) := by decide +kernel
theorem dL_law_978 : decode cL_law 978 = .ok (.iaload, 1) := by decide +kernel
theorem dL_law_979 : decode cL_law 979 = .ok (.aload_n 0, 1) := by decide +kernel
theorem dL_law_980 : decode cL_law 980 = .ok (.iload_n 3, 1) := by decide +kernel
theorem dL_law_981 : decode cL_law 981 = .ok (.iconst 2, 1) := by decide +kernel
theorem dL_law_982 : decode cL_law 982 = .ok (.iadd, 1) := by decide +kernel
theorem dL_law_983 : decode cL_law 983 = .ok (.iaload, 1) := by decide +kernel
theorem dL_law_984 : decode cL_law 984 = .ok (.invokevirtual 121, 3) := by decide +kernel
theorem dL_law_987 : decode cL_law 987 = .ok (.if_icmp .eq 445, 3) := by decide +kernel
theorem dL_law_990 : decode cL_law 990 = .ok (.iconst 0, 1) := by decide +kernel
theorem dL_law_991 : decode cL_law 991 = .ok (.ireturn, 1) := by decide +kernel
theorem dL_law_992 : decode cL_law 992 = .ok (.aload_n 1, 1) := by decide +kernel
theorem dL_law_993 : decode cL_law 993 = .ok (.aload_n 0, 1) := by decide +kernel
theorem dL_law_994 : decode cL_law 994 = .ok (.iload_n 3, 1) := by decide +kernel
theorem dL_law_995 : decode cL_law 995 = .ok (.iconst 1, 1) := by decide +kernel
theorem dL_law_996 : decode cL_law 996 = .ok (.iadd, 1) := by decide +kernel
theorem dL_law_997 : decode cL_law 997 = .ok (.iaload, 1) := by decide +kernel
theorem dL_law_998 : decode cL_law 998 = .ok (.aload_n 0, 1) := by decide +kernel
theorem dL_law_999 : decode cL_law 999 = .ok (.iload_n 3, 1) := by decide +kernel
theorem dL_law_1000 : decode cL_law 1000 = .ok (.iconst 2, 1) := by decide +kernel
theorem dL_law_1001 : decode cL_law 1001 = .ok (.iadd, 1) := by decide +kernel
theorem dL_law_1002 : decode cL_law 1002 = .ok (.iaload, 1) := by decide +kernel
theorem dL_law_1003 : decode cL_law 1003 = .ok (.invokevirtual 122, 3) := by decide +kernel
theorem dL_law_1006 : decode cL_law 1006 = .ok (.aload_n 2, 1) := by decide +kernel
theorem dL_law_1007 : decode cL_law 1007 = .ok (.aload_n 0, 1) := by decide +kernel
theorem dL_law_1008 : decode cL_law 1008 = .ok (.iload_n 3, 1) := by decide +kernel
theorem dL_law_1009 : decode cL_law 1009 = .ok (.iconst 1, 1) := by decide +kernel
theorem dL_law_1010 : decode cL_law 1010 = .ok (.iadd, 1) := by decide +kernel
theorem dL_law_1011 : decode cL_law 1011 = .ok (.iaload, 1) := by decide +kernel
theorem dL_law_1012 : decode cL_law 1012 = .ok (.aload_n 0, 1) := by decide +kernel
theorem dL_law_1013 : decode cL_law 1013 = .ok (.iload_n 3, 1) := by decide +kernel
theorem dL_law_1014 : decode cL_law 1014 = .ok (.iconst 2, 1) := by decide +kernel
theorem dL_law_1015 : decode cL_law 1015 = .ok (.iadd, 1) := by decide +kernel
theorem dL_law_1016 : decode cL_law 1016 = .ok (.iaload, 1) := by decide +kernel
theorem dL_law_1017 : decode cL_law 1017 = .ok (.invokevirtual 125, 3) := by decide +kernel
theorem dL_law_1020 : decode cL_law 1020 = .ok (.if_icmp .eq 412, 3) := by decide +kernel
theorem dL_law_1023 : decode cL_law 1023 = .ok (.iconst 0, 1) := by decide +kernel
theorem dL_law_1024 : decode cL_law 1024 = .ok (.ireturn, 1) := by decide +kernel
theorem dL_law_1025 : decode cL_law 1025 = .ok (.aload_n 1, 1) := by decide +kernel
theorem dL_law_1026 : decode cL_law 1026 = .ok (.aload_n 0, 1) := by decide +kernel
theorem dL_law_1027 : decode cL_law 1027 = .ok (.iload_n 3, 1) := by decide +kernel
theorem dL_law_1028 : decode cL_law 1028 = .ok (.iconst 1, 1) := by decide +kernel
theorem dL_law_1029 : decode cL_law 1029 = .ok (.iadd, 1) := by decide +kernel
theorem dL_law_1030 : decode cL_law 1030 = .ok (.iaload, 1) := by decide +kernel
theorem dL_law_1031 : decode cL_law 1031 = .ok (.aload_n 0, 1) := by decide +kernel
theorem dL_law_1032 : decode cL_law 1032 = .ok (.iload_n 3, 1) := by decide +kernel
theorem dL_law_1033 : decode cL_law 1033 = .ok (.iconst 2, 1) := by decide +kernel
theorem dL_law_1034 : decode cL_law 1034 = .ok (.iadd, 1) := by decide +kernel
theorem dL_law_1035 : decode cL_law 1035 = .ok (.iaload, 1) := by decide +kernel
theorem dL_law_1036 : decode cL_law 1036 = .ok (.aload_n 0, 1) := by decide +kernel
theorem dL_law_1037 : decode cL_law 1037 = .ok (.iload_n 3, 1) := by decide +kernel
theorem dL_law_1038 : decode cL_law 1038 = .ok (.iconst 3, 1) := by decide +kernel
theorem dL_law_1039 : decode cL_law 1039 = .ok (.iadd, 1) := by decide +kernel
theorem dL_law_1040 : decode cL_law 1040 = .ok (.iaload, 1) := by decide +kernel
theorem dL_law_1041 : decode cL_law 1041 = .ok (.aload_n 0, 1) := by decide +kernel
theorem dL_law_1042 : decode cL_law 1042 = .ok (.iload_n 3, 1) := by decide +kernel
theorem dL_law_1043 : decode cL_law 1043 = .ok (.iconst 4, 1) := by decide +kernel
theorem dL_law_1044 : decode cL_law 1044 = .ok (.iadd, 1) := by decide +kernel
theorem dL_law_1045 : decode cL_law 1045 = .ok (.iaload, 1) := by decide +kernel
theorem dL_law_1046 : decode cL_law 1046 = .ok (.aload_n 0, 1) := by decide +kernel
theorem dL_law_1047 : decode cL_law 1047 = .ok (.iload_n 3, 1) := by decide +kernel
theorem dL_law_1048 : decode cL_law 1048 = .ok (.iconst 5, 1) := by decide +kernel
theorem dL_law_1049 : decode cL_law 1049 = .ok (.iadd, 1) := by decide +kernel
theorem dL_law_1050 : decode cL_law 1050 = .ok (.iaload, 1) := by decide +kernel
theorem dL_law_1051 : decode cL_law 1051 = .ok (.invokevirtual 126, 3) := by decide +kernel
theorem dL_law_1054 : decode cL_law 1054 = .ok (.aload_n 2, 1) := by decide +kernel
theorem dL_law_1055 : decode cL_law 1055 = .ok (.aload_n 0, 1) := by decide +kernel
theorem dL_law_1056 : decode cL_law 1056 = .ok (.iload_n 3, 1) := by decide +kernel
theorem dL_law_1057 : decode cL_law 1057 = .ok (.iconst 1, 1) := by decide +kernel
theorem dL_law_1058 : decode cL_law 1058 = .ok (.iadd, 1) := by decide +kernel
theorem dL_law_1059 : decode cL_law 1059 = .ok (.iaload, 1) := by decide +kernel
theorem dL_law_1060 : decode cL_law 1060 = .ok (.aload_n 0, 1) := by decide +kernel
theorem dL_law_1061 : decode cL_law 1061 = .ok (.iload_n 3, 1) := by decide +kernel
theorem dL_law_1062 : decode cL_law 1062 = .ok (.iconst 2, 1) := by decide +kernel
theorem dL_law_1063 : decode cL_law 1063 = .ok (.iadd, 1) := by decide +kernel
theorem dL_law_1064 : decode cL_law 1064 = .ok (.iaload, 1) := by decide +kernel
theorem dL_law_1065 : decode cL_law 1065 = .ok (.aload_n 0, 1) := by decide +kernel
theorem dL_law_1066 : decode cL_law 1066 = .ok (.iload_n 3, 1) := by decide +kernel
theorem dL_law_1067 : decode cL_law 1067 = .ok (.iconst 3, 1) := by decide +kernel
theorem dL_law_1068 : decode cL_law 1068 = .ok (.iadd, 1) := by decide +kernel
theorem dL_law_1069 : decode cL_law 1069 = .ok (.iaload, 1) := by decide +kernel
theorem dL_law_1070 : decode cL_law 1070 = .ok (.aload_n 0, 1) := by decide +kernel
theorem dL_law_1071 : decode cL_law 1071 = .ok (.iload_n 3, 1) := by decide +kernel
theorem dL_law_1072 : decode cL_law 1072 = .ok (.iconst 4, 1) := by decide +kernel
theorem dL_law_1073 : decode cL_law 1073 = .ok (.iadd, 1) := by decide +kernel
theorem dL_law_1074 : decode cL_law 1074 = .ok (.iaload, 1) := by decide +kernel
theorem dL_law_1075 : decode cL_law 1075 = .ok (.aload_n 0, 1) := by decide +kernel
theorem dL_law_1076 : decode cL_law 1076 = .ok (.iload_n 3, 1) := by decide +kernel
theorem dL_law_1077 : decode cL_law 1077 = .ok (.iconst 5, 1) := by decide +kernel
theorem dL_law_1078 : decode cL_law 1078 = .ok (.iadd, 1) := by decide +kernel
theorem dL_law_1079 : decode cL_law 1079 = .ok (.iaload, 1) := by decide +kernel
theorem dL_law_1080 : decode cL_law 1080 = .ok (.invokevirtual 129, 3) := by decide +kernel
theorem dL_law_1083 : decode cL_law 1083 = .ok (.if_icmp .eq 349, 3) := by decide +kernel
theorem dL_law_1086 : decode cL_law 1086 = .ok (.iconst 0, 1) := by decide +kernel
theorem dL_law_1087 : decode cL_law 1087 = .ok (.ireturn, 1) := by decide +kernel
theorem dL_law_1088 : decode cL_law 1088 = .ok (.aload_n 1, 1) := by decide +kernel
theorem dL_law_1089 : decode cL_law 1089 = .ok (.aload_n 0, 1) := by decide +kernel
theorem dL_law_1090 : decode cL_law 1090 = .ok (.iload_n 3, 1) := by decide +kernel
theorem dL_law_1091 : decode cL_law 1091 = .ok (.iconst 1, 1) := by decide +kernel
theorem dL_law_1092 : decode cL_law 1092 = .ok (.iadd, 1) := by decide +kernel
theorem dL_law_1093 : decode cL_law 1093 = .ok (.iaload, 1) := by decide +kernel
theorem dL_law_1094 : decode cL_law 1094 = .ok (.aload_n 0, 1) := by decide +kernel
theorem dL_law_1095 : decode cL_law 1095 = .ok (.iload_n 3, 1) := by decide +kernel
theorem dL_law_1096 : decode cL_law 1096 = .ok (.iconst 2, 1) := by decide +kernel
theorem dL_law_1097 : decode cL_law 1097 = .ok (.iadd, 1) := by decide +kernel
theorem dL_law_1098 : decode cL_law 1098 = .ok (.iaload, 1) := by decide +kernel
theorem dL_law_1099 : decode cL_law 1099 = .ok (.aload_n 0, 1) := by decide +kernel
theorem dL_law_1100 : decode cL_law 1100 = .ok (.iload_n 3, 1) := by decide +kernel
theorem dL_law_1101 : decode cL_law 1101 = .ok (.iconst 3, 1) := by decide +kernel
theorem dL_law_1102 : decode cL_law 1102 = .ok (.iadd, 1) := by decide +kernel
theorem dL_law_1103 : decode cL_law 1103 = .ok (.iaload, 1) := by decide +kernel
theorem dL_law_1104 : decode cL_law 1104 = .ok (.aload_n 0, 1) := by decide +kernel
theorem dL_law_1105 : decode cL_law 1105 = .ok (.iload_n 3, 1) := by decide +kernel
theorem dL_law_1106 : decode cL_law 1106 = .ok (.iconst 4, 1) := by decide +kernel
theorem dL_law_1107 : decode cL_law 1107 = .ok (.iadd, 1) := by decide +kernel
theorem dL_law_1108 : decode cL_law 1108 = .ok (.iaload, 1) := by decide +kernel
theorem dL_law_1109 : decode cL_law 1109 = .ok (.invokevirtual 130, 3) := by decide +kernel
theorem dL_law_1112 : decode cL_law 1112 = .ok (.aload_n 2, 1) := by decide +kernel
theorem dL_law_1113 : decode cL_law 1113 = .ok (.aload_n 0, 1) := by decide +kernel
theorem dL_law_1114 : decode cL_law 1114 = .ok (.iload_n 3, 1) := by decide +kernel
theorem dL_law_1115 : decode cL_law 1115 = .ok (.iconst 1, 1) := by decide +kernel
theorem dL_law_1116 : decode cL_law 1116 = .ok (.iadd, 1) := by decide +kernel
theorem dL_law_1117 : decode cL_law 1117 = .ok (.iaload, 1) := by decide +kernel
theorem dL_law_1118 : decode cL_law 1118 = .ok (.aload_n 0, 1) := by decide +kernel
theorem dL_law_1119 : decode cL_law 1119 = .ok (.iload_n 3, 1) := by decide +kernel
theorem dL_law_1120 : decode cL_law 1120 = .ok (.iconst 2, 1) := by decide +kernel
theorem dL_law_1121 : decode cL_law 1121 = .ok (.iadd, 1) := by decide +kernel
theorem dL_law_1122 : decode cL_law 1122 = .ok (.iaload, 1) := by decide +kernel
theorem dL_law_1123 : decode cL_law 1123 = .ok (.aload_n 0, 1) := by decide +kernel
theorem dL_law_1124 : decode cL_law 1124 = .ok (.iload_n 3, 1) := by decide +kernel
theorem dL_law_1125 : decode cL_law 1125 = .ok (.iconst 3, 1) := by decide +kernel
theorem dL_law_1126 : decode cL_law 1126 = .ok (.iadd, 1) := by decide +kernel
theorem dL_law_1127 : decode cL_law 1127 = .ok (.iaload, 1) := by decide +kernel
theorem dL_law_1128 : decode cL_law 1128 = .ok (.aload_n 0, 1) := by decide +kernel
theorem dL_law_1129 : decode cL_law 1129 = .ok (.iload_n 3, 1) := by decide +kernel
theorem dL_law_1130 : decode cL_law 1130 = .ok (.iconst 4, 1) := by decide +kernel
theorem dL_law_1131 : decode cL_law 1131 = .ok (.iadd, 1) := by decide +kernel
theorem dL_law_1132 : decode cL_law 1132 = .ok (.iaload, 1) := by decide +kernel
theorem dL_law_1133 : decode cL_law 1133 = .ok (.invokevirtual 134, 3) := by decide +kernel
theorem dL_law_1136 : decode cL_law 1136 = .ok (.if_icmp .eq 296, 3) := by decide +kernel
theorem dL_law_1139 : decode cL_law 1139 = .ok (.iconst 0, 1) := by decide +kernel
theorem dL_law_1140 : decode cL_law 1140 = .ok (.ireturn, 1) := by decide +kernel
theorem dL_law_1141 : decode cL_law 1141 = .ok (.aload_n 1, 1) := by decide +kernel
theorem dL_law_1142 : decode cL_law 1142 = .ok (.aload_n 0, 1) := by decide +kernel
theorem dL_law_1143 : decode cL_law 1143 = .ok (.iload_n 3, 1) := by decide +kernel
theorem dL_law_1144 : decode cL_law 1144 = .ok (.iconst 1, 1) := by decide +kernel
theorem dL_law_1145 : decode cL_law 1145 = .ok (.iadd, 1) := by decide +kernel
theorem dL_law_1146 : decode cL_law 1146 = .ok (.iaload, 1) := by decide +kernel
theorem dL_law_1147 : decode cL_law 1147 = .ok (.aload_n 0, 1) := by decide +kernel
theorem dL_law_1148 : decode cL_law 1148 = .ok (.iload_n 3, 1) := by decide +kernel
theorem dL_law_1149 : decode cL_law 1149 = .ok (.iconst 2, 1) := by decide +kernel
theorem dL_law_1150 : decode cL_law 1150 = .ok (.iadd, 1) := by decide +kernel
theorem dL_law_1151 : decode cL_law 1151 = .ok (.iaload, 1) := by decide +kernel
theorem dL_law_1152 : decode cL_law 1152 = .ok (.aload_n 0, 1) := by decide +kernel
theorem dL_law_1153 : decode cL_law 1153 = .ok (.iload_n 3, 1) := by decide +kernel
theorem dL_law_1154 : decode cL_law 1154 = .ok (.iconst 3, 1) := by decide +kernel
theorem dL_law_1155 : decode cL_law 1155 = .ok (.iadd, 1) := by decide +kernel
theorem dL_law_1156 : decode cL_law 1156 = .ok (.iaload, 1) := by decide +kernel
theorem dL_law_1157 : decode cL_law 1157 = .ok (.aload_n 0, 1) := by decide +kernel
theorem dL_law_1158 : decode cL_law 1158 = .ok (.iload_n 3, 1) := by decide +kernel
theorem dL_law_1159 : decode cL_law 1159 = .ok (.iconst 4, 1) := by decide +kernel
theorem dL_law_1160 : decode cL_law 1160 = .ok (.iadd, 1) := by decide +kernel
theorem dL_law_1161 : decode cL_law 1161 = .ok (.iaload, 1) := by decide +kernel
theorem dL_law_1162 : decode cL_law 1162 = .ok (.invokevirtual 135, 3) := by decide +kernel
theorem dL_law_1165 : decode cL_law 1165 = .ok (.aload_n 2, 1) := by decide +kernel
theorem dL_law_1166 : decode cL_law 1166 = .ok (.aload_n 0, 1) := by decide +kernel
theorem dL_law_1167 : decode cL_law 1167 = .ok (.iload_n 3, 1) := by decide +kernel
theorem dL_law_1168 : decode cL_law 1168 = .ok (.iconst 1, 1) := by decide +kernel
theorem dL_law_1169 : decode cL_law 1169 = .ok (.iadd, 1) := by decide +kernel
theorem dL_law_1170 : decode cL_law 1170 = .ok (.iaload, 1) := by decide +kernel
theorem dL_law_1171 : decode cL_law 1171 = .ok (.aload_n 0, 1) := by decide +kernel
theorem dL_law_1172 : decode cL_law 1172 = .ok (.iload_n 3, 1) := by decide +kernel
theorem dL_law_1173 : decode cL_law 1173 = .ok (.iconst 2, 1) := by decide +kernel
theorem dL_law_1174 : decode cL_law 1174 = .ok (.iadd, 1) := by decide +kernel
theorem dL_law_1175 : decode cL_law 1175 = .ok (.iaload, 1) := by decide +kernel
theorem dL_law_1176 : decode cL_law 1176 = .ok (.aload_n 0, 1) := by decide +kernel
theorem dL_law_1177 : decode cL_law 1177 = .ok (.iload_n 3, 1) := by decide +kernel
theorem dL_law_1178 : decode cL_law 1178 = .ok (.iconst 3, 1) := by decide +kernel
theorem dL_law_1179 : decode cL_law 1179 = .ok (.iadd, 1) := by decide +kernel
theorem dL_law_1180 : decode cL_law 1180 = .ok (.iaload, 1) := by decide +kernel
theorem dL_law_1181 : decode cL_law 1181 = .ok (.aload_n 0, 1) := by decide +kernel
theorem dL_law_1182 : decode cL_law 1182 = .ok (.iload_n 3, 1) := by decide +kernel
theorem dL_law_1183 : decode cL_law 1183 = .ok (.iconst 4, 1) := by decide +kernel
theorem dL_law_1184 : decode cL_law 1184 = .ok (.iadd, 1) := by decide +kernel
theorem dL_law_1185 : decode cL_law 1185 = .ok (.iaload, 1) := by decide +kernel
theorem dL_law_1186 : decode cL_law 1186 = .ok (.invokevirtual 139, 3) := by decide +kernel
theorem dL_law_1189 : decode cL_law 1189 = .ok (.lcmp, 1) := by decide +kernel
theorem dL_law_1190 : decode cL_law 1190 = .ok (.ifCond .eq 242, 3) := by decide +kernel
theorem dL_law_1193 : decode cL_law 1193 = .ok (.iconst 0, 1) := by decide +kernel
theorem dL_law_1194 : decode cL_law 1194 = .ok (.ireturn, 1) := by decide +kernel
theorem dL_law_1195 : decode cL_law 1195 = .ok (.aload_n 1, 1) := by decide +kernel
theorem dL_law_1196 : decode cL_law 1196 = .ok (.aload_n 0, 1) := by decide +kernel
theorem dL_law_1197 : decode cL_law 1197 = .ok (.iload_n 3, 1) := by decide +kernel
theorem dL_law_1198 : decode cL_law 1198 = .ok (.iconst 1, 1) := by decide +kernel
theorem dL_law_1199 : decode cL_law 1199 = .ok (.iadd, 1) := by decide +kernel
theorem dL_law_1200 : decode cL_law 1200 = .ok (.iaload, 1) := by decide +kernel
theorem dL_law_1201 : decode cL_law 1201 = .ok (.aload_n 0, 1) := by decide +kernel
theorem dL_law_1202 : decode cL_law 1202 = .ok (.iload_n 3, 1) := by decide +kernel
theorem dL_law_1203 : decode cL_law 1203 = .ok (.iconst 2, 1) := by decide +kernel
theorem dL_law_1204 : decode cL_law 1204 = .ok (.iadd, 1) := by decide +kernel
theorem dL_law_1205 : decode cL_law 1205 = .ok (.iaload, 1) := by decide +kernel
theorem dL_law_1206 : decode cL_law 1206 = .ok (.aload_n 0, 1) := by decide +kernel
theorem dL_law_1207 : decode cL_law 1207 = .ok (.iload_n 3, 1) := by decide +kernel
theorem dL_law_1208 : decode cL_law 1208 = .ok (.iconst 3, 1) := by decide +kernel
theorem dL_law_1209 : decode cL_law 1209 = .ok (.iadd, 1) := by decide +kernel
theorem dL_law_1210 : decode cL_law 1210 = .ok (.iaload, 1) := by decide +kernel
theorem dL_law_1211 : decode cL_law 1211 = .ok (.invokevirtual 140, 3) := by decide +kernel
theorem dL_law_1214 : decode cL_law 1214 = .ok (.aload_n 2, 1) := by decide +kernel
theorem dL_law_1215 : decode cL_law 1215 = .ok (.aload_n 0, 1) := by decide +kernel
theorem dL_law_1216 : decode cL_law 1216 = .ok (.iload_n 3, 1) := by decide +kernel
theorem dL_law_1217 : decode cL_law 1217 = .ok (.iconst 1, 1) := by decide +kernel
theorem dL_law_1218 : decode cL_law 1218 = .ok (.iadd, 1) := by decide +kernel
theorem dL_law_1219 : decode cL_law 1219 = .ok (.iaload, 1) := by decide +kernel
theorem dL_law_1220 : decode cL_law 1220 = .ok (.aload_n 0, 1) := by decide +kernel
theorem dL_law_1221 : decode cL_law 1221 = .ok (.iload_n 3, 1) := by decide +kernel
theorem dL_law_1222 : decode cL_law 1222 = .ok (.iconst 2, 1) := by decide +kernel
theorem dL_law_1223 : decode cL_law 1223 = .ok (.iadd, 1) := by decide +kernel
theorem dL_law_1224 : decode cL_law 1224 = .ok (.iaload, 1) := by decide +kernel
theorem dL_law_1225 : decode cL_law 1225 = .ok (.aload_n 0, 1) := by decide +kernel
theorem dL_law_1226 : decode cL_law 1226 = .ok (.iload_n 3, 1) := by decide +kernel
theorem dL_law_1227 : decode cL_law 1227 = .ok (.iconst 3, 1) := by decide +kernel
theorem dL_law_1228 : decode cL_law 1228 = .ok (.iadd, 1) := by decide +kernel
theorem dL_law_1229 : decode cL_law 1229 = .ok (.iaload, 1) := by decide +kernel
theorem dL_law_1230 : decode cL_law 1230 = .ok (.invokevirtual 143, 3) := by decide +kernel
theorem dL_law_1233 : decode cL_law 1233 = .ok (.if_icmp .eq 199, 3) := by decide +kernel
theorem dL_law_1236 : decode cL_law 1236 = .ok (.iconst 0, 1) := by decide +kernel
theorem dL_law_1237 : decode cL_law 1237 = .ok (.ireturn, 1) := by decide +kernel
theorem dL_law_1238 : decode cL_law 1238 = .ok (.aload_n 1, 1) := by decide +kernel
theorem dL_law_1239 : decode cL_law 1239 = .ok (.aload_n 0, 1) := by decide +kernel
theorem dL_law_1240 : decode cL_law 1240 = .ok (.iload_n 3, 1) := by decide +kernel
theorem dL_law_1241 : decode cL_law 1241 = .ok (.iconst 1, 1) := by decide +kernel
theorem dL_law_1242 : decode cL_law 1242 = .ok (.iadd, 1) := by decide +kernel
theorem dL_law_1243 : decode cL_law 1243 = .ok (.iaload, 1) := by decide +kernel
theorem dL_law_1244 : decode cL_law 1244 = .ok (.invokevirtual 144, 3) := by decide +kernel
theorem dL_law_1247 : decode cL_law 1247 = .ok (.aload_n 2, 1) := by decide +kernel
theorem dL_law_1248 : decode cL_law 1248 = .ok (.aload_n 0, 1) := by decide +kernel
theorem dL_law_1249 : decode cL_law 1249 = .ok (.iload_n 3, 1) := by decide +kernel
theorem dL_law_1250 : decode cL_law 1250 = .ok (.iconst 1, 1) := by decide +kernel
theorem dL_law_1251 : decode cL_law 1251 = .ok (.iadd, 1) := by decide +kernel
theorem dL_law_1252 : decode cL_law 1252 = .ok (.iaload, 1) := by decide +kernel
theorem dL_law_1253 : decode cL_law 1253 = .ok (.invokevirtual 147, 3) := by decide +kernel
theorem dL_law_1256 : decode cL_law 1256 = .ok (.if_icmp .eq 176, 3) := by decide +kernel
theorem dL_law_1259 : decode cL_law 1259 = .ok (.iconst 0, 1) := by decide +kernel
theorem dL_law_1260 : decode cL_law 1260 = .ok (.ireturn, 1) := by decide +kernel
theorem dL_law_1261 : decode cL_law 1261 = .ok (.aload_n 1, 1) := by decide +kernel
theorem dL_law_1262 : decode cL_law 1262 = .ok (.aload_n 0, 1) := by decide +kernel
theorem dL_law_1263 : decode cL_law 1263 = .ok (.iload_n 3, 1) := by decide +kernel
theorem dL_law_1264 : decode cL_law 1264 = .ok (.iconst 1, 1) := by decide +kernel
theorem dL_law_1265 : decode cL_law 1265 = .ok (.iadd, 1) := by decide +kernel
theorem dL_law_1266 : decode cL_law 1266 = .ok (.iaload, 1) := by decide +kernel
theorem dL_law_1267 : decode cL_law 1267 = .ok (.invokevirtual 148, 3) := by decide +kernel
theorem dL_law_1270 : decode cL_law 1270 = .ok (.aload_n 2, 1) := by decide +kernel
theorem dL_law_1271 : decode cL_law 1271 = .ok (.aload_n 0, 1) := by decide +kernel
theorem dL_law_1272 : decode cL_law 1272 = .ok (.iload_n 3, 1) := by decide +kernel
theorem dL_law_1273 : decode cL_law 1273 = .ok (.iconst 1, 1) := by decide +kernel
theorem dL_law_1274 : decode cL_law 1274 = .ok (.iadd, 1) := by decide +kernel
theorem dL_law_1275 : decode cL_law 1275 = .ok (.iaload, 1) := by decide +kernel
theorem dL_law_1276 : decode cL_law 1276 = .ok (.invokevirtual 151, 3) := by decide +kernel
theorem dL_law_1279 : decode cL_law 1279 = .ok (.if_icmp .eq 153, 3) := by decide +kernel
theorem dL_law_1282 : decode cL_law 1282 = .ok (.iconst 0, 1) := by decide +kernel
theorem dL_law_1283 : decode cL_law 1283 = .ok (.ireturn, 1) := by decide +kernel
theorem dL_law_1284 : decode cL_law 1284 = .ok (.aload_n 1, 1) := by decide +kernel
theorem dL_law_1285 : decode cL_law 1285 = .ok (.aload_n 0, 1) := by decide +kernel
theorem dL_law_1286 : decode cL_law 1286 = .ok (.iload_n 3, 1) := by decide +kernel
theorem dL_law_1287 : decode cL_law 1287 = .ok (.iconst 1, 1) := by decide +kernel
theorem dL_law_1288 : decode cL_law 1288 = .ok (.iadd, 1) := by decide +kernel
theorem dL_law_1289 : decode cL_law 1289 = .ok (.iaload, 1) := by decide +kernel
theorem dL_law_1290 : decode cL_law 1290 = .ok (.invokevirtual 152, 3) := by decide +kernel
theorem dL_law_1293 : decode cL_law 1293 = .ok (.aload_n 2, 1) := by decide +kernel
theorem dL_law_1294 : decode cL_law 1294 = .ok (.aload_n 0, 1) := by decide +kernel
theorem dL_law_1295 : decode cL_law 1295 = .ok (.iload_n 3, 1) := by decide +kernel
theorem dL_law_1296 : decode cL_law 1296 = .ok (.iconst 1, 1) := by decide +kernel
theorem dL_law_1297 : decode cL_law 1297 = .ok (.iadd, 1) := by decide +kernel
theorem dL_law_1298 : decode cL_law 1298 = .ok (.iaload, 1) := by decide +kernel
theorem dL_law_1299 : decode cL_law 1299 = .ok (.invokevirtual 155, 3) := by decide +kernel
theorem dL_law_1302 : decode cL_law 1302 = .ok (.if_icmp .eq 130, 3) := by decide +kernel
theorem dL_law_1305 : decode cL_law 1305 = .ok (.iconst 0, 1) := by decide +kernel
theorem dL_law_1306 : decode cL_law 1306 = .ok (.ireturn, 1) := by decide +kernel
theorem dL_law_1307 : decode cL_law 1307 = .ok (.aload_n 1, 1) := by decide +kernel
theorem dL_law_1308 : decode cL_law 1308 = .ok (.aload_n 0, 1) := by decide +kernel
theorem dL_law_1309 : decode cL_law 1309 = .ok (.iload_n 3, 1) := by decide +kernel
theorem dL_law_1310 : decode cL_law 1310 = .ok (.iconst 1, 1) := by decide +kernel
theorem dL_law_1311 : decode cL_law 1311 = .ok (.iadd, 1) := by decide +kernel
theorem dL_law_1312 : decode cL_law 1312 = .ok (.iaload, 1) := by decide +kernel
theorem dL_law_1313 : decode cL_law 1313 = .ok (.aload_n 0, 1) := by decide +kernel
theorem dL_law_1314 : decode cL_law 1314 = .ok (.iload_n 3, 1) := by decide +kernel
theorem dL_law_1315 : decode cL_law 1315 = .ok (.iconst 2, 1) := by decide +kernel
theorem dL_law_1316 : decode cL_law 1316 = .ok (.iadd, 1) := by decide +kernel
theorem dL_law_1317 : decode cL_law 1317 = .ok (.iaload, 1) := by decide +kernel
theorem dL_law_1318 : decode cL_law 1318 = .ok (.invokevirtual 156, 3) := by decide +kernel
theorem dL_law_1321 : decode cL_law 1321 = .ok (.aload_n 2, 1) := by decide +kernel
theorem dL_law_1322 : decode cL_law 1322 = .ok (.aload_n 0, 1) := by decide +kernel
theorem dL_law_1323 : decode cL_law 1323 = .ok (.iload_n 3, 1) := by decide +kernel
theorem dL_law_1324 : decode cL_law 1324 = .ok (.iconst 1, 1) := by decide +kernel
theorem dL_law_1325 : decode cL_law 1325 = .ok (.iadd, 1) := by decide +kernel
theorem dL_law_1326 : decode cL_law 1326 = .ok (.iaload, 1) := by decide +kernel
theorem dL_law_1327 : decode cL_law 1327 = .ok (.aload_n 0, 1) := by decide +kernel
theorem dL_law_1328 : decode cL_law 1328 = .ok (.iload_n 3, 1) := by decide +kernel
theorem dL_law_1329 : decode cL_law 1329 = .ok (.iconst 2, 1) := by decide +kernel
theorem dL_law_1330 : decode cL_law 1330 = .ok (.iadd, 1) := by decide +kernel
theorem dL_law_1331 : decode cL_law 1331 = .ok (.iaload, 1) := by decide +kernel
theorem dL_law_1332 : decode cL_law 1332 = .ok (.invokevirtual 159, 3) := by decide +kernel
theorem dL_law_1335 : decode cL_law 1335 = .ok (.if_icmp .eq 97, 3) := by decide +kernel
theorem dL_law_1338 : decode cL_law 1338 = .ok (.iconst 0, 1) := by decide +kernel
theorem dL_law_1339 : decode cL_law 1339 = .ok (.ireturn, 1) := by decide +kernel
theorem dL_law_1340 : decode cL_law 1340 = .ok (.aload_n 1, 1) := by decide +kernel
theorem dL_law_1341 : decode cL_law 1341 = .ok (.aload_n 0, 1) := by decide +kernel
theorem dL_law_1342 : decode cL_law 1342 = .ok (.iload_n 3, 1) := by decide +kernel
theorem dL_law_1343 : decode cL_law 1343 = .ok (.iconst 1, 1) := by decide +kernel
theorem dL_law_1344 : decode cL_law 1344 = .ok (.iadd, 1) := by decide +kernel
theorem dL_law_1345 : decode cL_law 1345 = .ok (.iaload, 1) := by decide +kernel
theorem dL_law_1346 : decode cL_law 1346 = .ok (.aload_n 0, 1) := by decide +kernel
theorem dL_law_1347 : decode cL_law 1347 = .ok (.iload_n 3, 1) := by decide +kernel
theorem dL_law_1348 : decode cL_law 1348 = .ok (.iconst 2, 1) := by decide +kernel
theorem dL_law_1349 : decode cL_law 1349 = .ok (.iadd, 1) := by decide +kernel
theorem dL_law_1350 : decode cL_law 1350 = .ok (.iaload, 1) := by decide +kernel
theorem dL_law_1351 : decode cL_law 1351 = .ok (.invokevirtual 160, 3) := by decide +kernel
theorem dL_law_1354 : decode cL_law 1354 = .ok (.aload_n 2, 1) := by decide +kernel
theorem dL_law_1355 : decode cL_law 1355 = .ok (.aload_n 0, 1) := by decide +kernel
theorem dL_law_1356 : decode cL_law 1356 = .ok (.iload_n 3, 1) := by decide +kernel
theorem dL_law_1357 : decode cL_law 1357 = .ok (.iconst 1, 1) := by decide +kernel
theorem dL_law_1358 : decode cL_law 1358 = .ok (.iadd, 1) := by decide +kernel
theorem dL_law_1359 : decode cL_law 1359 = .ok (.iaload, 1) := by decide +kernel
theorem dL_law_1360 : decode cL_law 1360 = .ok (.aload_n 0, 1) := by decide +kernel
theorem dL_law_1361 : decode cL_law 1361 = .ok (.iload_n 3, 1) := by decide +kernel
theorem dL_law_1362 : decode cL_law 1362 = .ok (.iconst 2, 1) := by decide +kernel
theorem dL_law_1363 : decode cL_law 1363 = .ok (.iadd, 1) := by decide +kernel
theorem dL_law_1364 : decode cL_law 1364 = .ok (.iaload, 1) := by decide +kernel
theorem dL_law_1365 : decode cL_law 1365 = .ok (.invokevirtual 163, 3) := by decide +kernel
theorem dL_law_1368 : decode cL_law 1368 = .ok (.if_icmp .eq 64, 3) := by decide +kernel
theorem dL_law_1371 : decode cL_law 1371 = .ok (.iconst 0, 1) := by decide +kernel
theorem dL_law_1372 : decode cL_law 1372 = .ok (.ireturn, 1) := by decide +kernel
theorem dL_law_1373 : decode cL_law 1373 = .ok (.aload_n 1, 1) := by decide +kernel
theorem dL_law_1374 : decode cL_law 1374 = .ok (.aload_n 0, 1) := by decide +kernel
theorem dL_law_1375 : decode cL_law 1375 = .ok (.iload_n 3, 1) := by decide +kernel
theorem dL_law_1376 : decode cL_law 1376 = .ok (.iconst 1, 1) := by decide +kernel
theorem dL_law_1377 : decode cL_law 1377 = .ok (.iadd, 1) := by decide +kernel
theorem dL_law_1378 : decode cL_law 1378 = .ok (.iaload, 1) := by decide +kernel
theorem dL_law_1379 : decode cL_law 1379 = .ok (.invokevirtual 164, 3) := by decide +kernel
theorem dL_law_1382 : decode cL_law 1382 = .ok (.aload_n 2, 1) := by decide +kernel
theorem dL_law_1383 : decode cL_law 1383 = .ok (.aload_n 0, 1) := by decide +kernel
theorem dL_law_1384 : decode cL_law 1384 = .ok (.iload_n 3, 1) := by decide +kernel
theorem dL_law_1385 : decode cL_law 1385 = .ok (.iconst 1, 1) := by decide +kernel
theorem dL_law_1386 : decode cL_law 1386 = .ok (.iadd, 1) := by decide +kernel
theorem dL_law_1387 : decode cL_law 1387 = .ok (.iaload, 1) := by decide +kernel
theorem dL_law_1388 : decode cL_law 1388 = .ok (.invokevirtual 167, 3) := by decide +kernel
theorem dL_law_1391 : decode cL_law 1391 = .ok (.if_icmp .eq 41, 3) := by decide +kernel
theorem dL_law_1394 : decode cL_law 1394 = .ok (.iconst 0, 1) := by decide +kernel
theorem dL_law_1395 : decode cL_law 1395 = .ok (.ireturn, 1) := by decide +kernel
theorem dL_law_1396 : decode cL_law 1396 = .ok (.aload_n 1, 1) := by decide +kernel
theorem dL_law_1397 : decode cL_law 1397 = .ok (.aload_n 0, 1) := by decide +kernel
theorem dL_law_1398 : decode cL_law 1398 = .ok (.iload_n 3, 1) := by decide +kernel
theorem dL_law_1399 : decode cL_law 1399 = .ok (.iconst 1, 1) := by decide +kernel
theorem dL_law_1400 : decode cL_law 1400 = .ok (.iadd, 1) := by decide +kernel
theorem dL_law_1401 : decode cL_law 1401 = .ok (.iaload, 1) := by decide +kernel
theorem dL_law_1402 : decode cL_law 1402 = .ok (.invokevirtual 168, 3) := by decide +kernel
theorem dL_law_1405 : decode cL_law 1405 = .ok (.aload_n 2, 1) := by decide +kernel
theorem dL_law_1406 : decode cL_law 1406 = .ok (.aload_n 0, 1) := by decide +kernel
theorem dL_law_1407 : decode cL_law 1407 = .ok (.iload_n 3, 1) := by decide +kernel
theorem dL_law_1408 : decode cL_law 1408 = .ok (.iconst 1, 1) := by decide +kernel
theorem dL_law_1409 : decode cL_law 1409 = .ok (.iadd, 1) := by decide +kernel
theorem dL_law_1410 : decode cL_law 1410 = .ok (.iaload, 1) := by decide +kernel
theorem dL_law_1411 : decode cL_law 1411 = .ok (.invokevirtual 171, 3) := by decide +kernel
theorem dL_law_1414 : decode cL_law 1414 = .ok (.if_icmp .eq 18, 3) := by decide +kernel
theorem dL_law_1417 : decode cL_law 1417 = .ok (.iconst 0, 1) := by decide +kernel
theorem dL_law_1418 : decode cL_law 1418 = .ok (.ireturn, 1) := by decide +kernel
theorem dL_law_1419 : decode cL_law 1419 = .ok (.aload_n 1, 1) := by decide +kernel
theorem dL_law_1420 : decode cL_law 1420 = .ok (.invokevirtual 172, 3) := by decide +kernel
theorem dL_law_1423 : decode cL_law 1423 = .ok (.aload_n 2, 1) := by decide +kernel
theorem dL_law_1424 : decode cL_law 1424 = .ok (.invokevirtual 175, 3) := by decide +kernel
theorem dL_law_1427 : decode cL_law 1427 = .ok (.if_icmp .eq 5, 3) := by decide +kernel
theorem dL_law_1430 : decode cL_law 1430 = .ok (.iconst 0, 1) := by decide +kernel
theorem dL_law_1431 : decode cL_law 1431 = .ok (.ireturn, 1) := by decide +kernel
theorem dL_law_1432 : decode cL_law 1432 = .ok (.iinc 3 6, 3) := by decide +kernel
theorem dL_law_1435 : decode cL_law 1435 = .ok (.goto (-1417), 3) := by decide +kernel
theorem dL_law_1438 : decode cL_law 1438 = .ok (.iconst 1, 1) := by decide +kernel
theorem dL_law_1439 : decode cL_law 1439 = .ok (.ireturn, 1) := by decide +kernel
theorem dX0_init_0 : decode cX0_init 0 = .ok (.aload_n 0, 1) := by decide +kernel
theorem dX0_init_1 : decode cX0_init 1 = .ok (.invokespecial 3, 3) := by decide +kernel
theorem dX0_init_4 : decode cX0_init 4 = .ok (.aload_n 0, 1) := by decide +kernel
theorem dX0_init_5 : decode cX0_init 5 = .ok (.bipush 24, 2) := by decide +kernel
theorem dX0_init_7 : decode cX0_init 7 = .ok (.anewarray 9, 3) := by decide +kernel
theorem dX0_init_10 : decode cX0_init 10 = .ok (.putfield 11, 3) := by decide +kernel
theorem dX0_init_13 : decode cX0_init 13 = .ok (.iconst 0, 1) := by decide +kernel
theorem dX0_init_14 : decode cX0_init 14 = .ok (.istore_n 1, 1) := by decide +kernel
theorem dX0_init_15 : decode cX0_init 15 = .ok (.iload_n 1, 1) := by decide +kernel
theorem dX0_init_16 : decode cX0_init 16 = .ok (.bipush 24, 2) := by decide +kernel
theorem dX0_init_18 : decode cX0_init 18 = .ok (.if_icmp .ge 22, 3) := by decide +kernel
theorem dX0_init_21 : decode cX0_init 21 = .ok (.aload_n 0, 1) := by decide +kernel
theorem dX0_init_22 : decode cX0_init 22 = .ok (.getfield 11, 3) := by decide +kernel
theorem dX0_init_25 : decode cX0_init 25 = .ok (.iload_n 1, 1) := by decide +kernel
theorem dX0_init_26 : decode cX0_init 26 = .ok (.new 9, 3) := by decide +kernel
theorem dX0_init_29 : decode cX0_init 29 = .ok (.dup, 1) := by decide +kernel
theorem dX0_init_30 : decode cX0_init 30 = .ok (.invokespecial 17, 3) := by decide +kernel
theorem dX0_init_33 : decode cX0_init 33 = .ok (.aastore, 1) := by decide +kernel
theorem dX0_init_34 : decode cX0_init 34 = .ok (.iinc 1 1, 3) := by decide +kernel
theorem dX0_init_37 : decode cX0_init 37 = .ok (.goto (-22), 3) := by decide +kernel
theorem dX0_init_40 : decode cX0_init 40 = .ok (.return_, 1) := by decide +kernel
theorem dX0_keep_0 : decode cX0_keep 0 = .ok (.aload_n 0, 1) := by decide +kernel
theorem dX0_keep_1 : decode cX0_keep 1 = .ok (.getfield 11, 3) := by decide +kernel
theorem dX0_keep_4 : decode cX0_keep 4 = .ok (.aload_n 0, 1) := by decide +kernel
theorem dX0_keep_5 : decode cX0_keep 5 = .ok (.getfield 18, 3) := by decide +kernel
theorem dX0_keep_8 : decode cX0_keep 8 = .ok (.aaload, 1) := by decide +kernel
theorem dX0_keep_9 : decode cX0_keep 9 = .ok (.aload_n 1, 1) := by decide +kernel
theorem dX0_keep_10 : decode cX0_keep 10 = .ok (.invokevirtual 22, 3) := by decide +kernel
theorem dX0_keep_13 : decode cX0_keep 13 = .ok (.aload_n 0, 1) := by decide +kernel
theorem dX0_keep_14 : decode cX0_keep 14 = .ok (.aload_n 0, 1) := by decide +kernel
theorem dX0_keep_15 : decode cX0_keep 15 = .ok (.getfield 18, 3) := by decide +kernel
theorem dX0_keep_18 : decode cX0_keep 18 = .ok (.iconst 1, 1) := by decide +kernel
theorem dX0_keep_19 : decode cX0_keep 19 = .ok (.iadd, 1) := by decide +kernel
theorem dX0_keep_20 : decode cX0_keep 20 = .ok (.bipush 24, 2) := by decide +kernel
theorem dX0_keep_22 : decode cX0_keep 22 = .ok (.irem, 1) := by decide +kernel
theorem dX0_keep_23 : decode cX0_keep 23 = .ok (.putfield 18, 3) := by decide +kernel
theorem dX0_keep_26 : decode cX0_keep 26 = .ok (.aload_n 0, 1) := by decide +kernel
theorem dX0_keep_27 : decode cX0_keep 27 = .ok (.aload_n 0, 1) := by decide +kernel
theorem dX0_keep_28 : decode cX0_keep 28 = .ok (.getfield 26, 3) := by decide +kernel
theorem dX0_keep_31 : decode cX0_keep 31 = .ok (.iconst 1, 1) := by decide +kernel
theorem dX0_keep_32 : decode cX0_keep 32 = .ok (.iadd, 1) := by decide +kernel
theorem dX0_keep_33 : decode cX0_keep 33 = .ok (.bipush 24, 2) := by decide +kernel
theorem dX0_keep_35 : decode cX0_keep 35 = .ok (.invokestatic 29, 3) := by decide +kernel
theorem dX0_keep_38 : decode cX0_keep 38 = .ok (.putfield 26, 3) := by decide +kernel
theorem dX0_keep_41 : decode cX0_keep 41 = .ok (.return_, 1) := by decide +kernel
theorem dX0_takeBack_0 : decode cX0_takeBack 0 = .ok (.aload_n 0, 1) := by decide +kernel
theorem dX0_takeBack_1 : decode cX0_takeBack 1 = .ok (.aload_n 0, 1) := by decide +kernel
theorem dX0_takeBack_2 : decode cX0_takeBack 2 = .ok (.getfield 18, 3) := by decide +kernel
theorem dX0_takeBack_5 : decode cX0_takeBack 5 = .ok (.bipush 24, 2) := by decide +kernel
theorem dX0_takeBack_7 : decode cX0_takeBack 7 = .ok (.iadd, 1) := by decide +kernel
theorem dX0_takeBack_8 : decode cX0_takeBack 8 = .ok (.iconst 1, 1) := by decide +kernel
theorem dX0_takeBack_9 : decode cX0_takeBack 9 = .ok (.isub, 1) := by decide +kernel
theorem dX0_takeBack_10 : decode cX0_takeBack 10 = .ok (.bipush 24, 2) := by decide +kernel
theorem dX0_takeBack_12 : decode cX0_takeBack 12 = .ok (.irem, 1) := by decide +kernel
theorem dX0_takeBack_13 : decode cX0_takeBack 13 = .ok (.putfield 18, 3) := by decide +kernel
theorem dX0_takeBack_16 : decode cX0_takeBack 16 = .ok (.aload_n 0, 1) := by decide +kernel
theorem dX0_takeBack_17 : decode cX0_takeBack 17 = .ok (.dup, 1) := by decide +kernel
theorem dX0_takeBack_18 : decode cX0_takeBack 18 = .ok (.getfield 26, 3) := by decide +kernel
theorem dX0_takeBack_21 : decode cX0_takeBack 21 = .ok (.iconst 1, 1) := by decide +kernel
theorem dX0_takeBack_22 : decode cX0_takeBack 22 = .ok (.isub, 1) := by decide +kernel
theorem dX0_takeBack_23 : decode cX0_takeBack 23 = .ok (.putfield 26, 3) := by decide +kernel
theorem dX0_takeBack_26 : decode cX0_takeBack 26 = .ok (.aload_n 1, 1) := by decide +kernel
theorem dX0_takeBack_27 : decode cX0_takeBack 27 = .ok (.aload_n 0, 1) := by decide +kernel
theorem dX0_takeBack_28 : decode cX0_takeBack 28 = .ok (.getfield 11, 3) := by decide +kernel
theorem dX0_takeBack_31 : decode cX0_takeBack 31 = .ok (.aload_n 0, 1) := by decide +kernel
theorem dX0_takeBack_32 : decode cX0_takeBack 32 = .ok (.getfield 18, 3) := by decide +kernel
theorem dX0_takeBack_35 : decode cX0_takeBack 35 = .ok (.aaload, 1) := by decide +kernel
theorem dX0_takeBack_36 : decode cX0_takeBack 36 = .ok (.invokevirtual 22, 3) := by decide +kernel
theorem dX0_takeBack_39 : decode cX0_takeBack 39 = .ok (.return_, 1) := by decide +kernel
theorem dX0_forget_0 : decode cX0_forget 0 = .ok (.aload_n 0, 1) := by decide +kernel
theorem dX0_forget_1 : decode cX0_forget 1 = .ok (.iconst 0, 1) := by decide +kernel
theorem dX0_forget_2 : decode cX0_forget 2 = .ok (.putfield 26, 3) := by decide +kernel
theorem dX0_forget_5 : decode cX0_forget 5 = .ok (.return_, 1) := by decide +kernel
theorem dX1_init_0 : decode cX1_init 0 = .ok (.aload_n 0, 1) := by decide +kernel
theorem dX1_init_1 : decode cX1_init 1 = .ok (.invokespecial 1, 3) := by decide +kernel
theorem dX1_init_4 : decode cX1_init 4 = .ok (.aload_n 0, 1) := by decide +kernel
theorem dX1_init_5 : decode cX1_init 5 = .ok (.bipush 16, 2) := by decide +kernel
theorem dX1_init_7 : decode cX1_init 7 = .ok (.newarray .int, 2) := by decide +kernel
theorem dX1_init_9 : decode cX1_init 9 = .ok (.putfield 7, 3) := by decide +kernel
theorem dX1_init_12 : decode cX1_init 12 = .ok (.return_, 1) := by decide +kernel
theorem dX1_askOf_0 : decode cX1_askOf 0 = .ok (.aload_n 0, 1) := by decide +kernel
theorem dX1_askOf_1 : decode cX1_askOf 1 = .ok (.iconst 0, 1) := by decide +kernel
theorem dX1_askOf_2 : decode cX1_askOf 2 = .ok (.putfield 13, 3) := by decide +kernel
theorem dX1_askOf_5 : decode cX1_askOf 5 = .ok (.aload_n 0, 1) := by decide +kernel
theorem dX1_askOf_6 : decode cX1_askOf 6 = .ok (.aload_n 1, 1) := by decide +kernel
theorem dX1_askOf_7 : decode cX1_askOf 7 = .ok (.iload_n 2, 1) := by decide +kernel
theorem dX1_askOf_8 : decode cX1_askOf 8 = .ok (.iload_n 3, 1) := by decide +kernel
theorem dX1_askOf_9 : decode cX1_askOf 9 = .ok (.iconst 0, 1) := by decide +kernel
theorem dX1_askOf_10 : decode cX1_askOf 10 = .ok (.invokevirtual 17, 3) := by decide +kernel
theorem dX1_askOf_13 : decode cX1_askOf 13 = .ok (.ireturn, 1) := by decide +kernel
theorem dX1_answer_0 : decode cX1_answer 0 = .ok (.aload_n 0, 1) := by decide +kernel
theorem dX1_answer_1 : decode cX1_answer 1 = .ok (.aload_n 1, 1) := by decide +kernel
theorem dX1_answer_2 : decode cX1_answer 2 = .ok (.getfield 21, 3) := by decide +kernel
theorem dX1_answer_5 : decode cX1_answer 5 = .ok (.iload_n 2, 1) := by decide +kernel
theorem dX1_answer_6 : decode cX1_answer 6 = .ok (.iaload, 1) := by decide +kernel
theorem dX1_answer_7 : decode cX1_answer 7 = .ok (.iload_n 3, 1) := by decide +kernel
theorem dX1_answer_8 : decode cX1_answer 8 = .ok (.invokestatic 26, 3) := by decide +kernel
theorem dX1_answer_11 : decode cX1_answer 11 = .ok (.aload_n 1, 1) := by decide +kernel
theorem dX1_answer_12 : decode cX1_answer 12 = .ok (.iload_n 2, 1) := by decide +kernel
theorem dX1_answer_13 : decode cX1_answer 13 = .ok (.iload 4, 2) := by decide +kernel
theorem dX1_answer_15 : decode cX1_answer 15 = .ok (.iconst 1, 1) := by decide +kernel
theorem dX1_answer_16 : decode cX1_answer 16 = .ok (.iadd, 1) := by decide +kernel
theorem dX1_answer_17 : decode cX1_answer 17 = .ok (.invokevirtual 30, 3) := by decide +kernel
theorem dX1_answer_20 : decode cX1_answer 20 = .ok (.ireturn, 1) := by decide +kernel
theorem dX1_nearestBody_0 : decode cX1_nearestBody 0 = .ok (.iload_n 1, 1) := by decide +kernel
theorem dX1_nearestBody_1 : decode cX1_nearestBody 1 = .ok (.ifCond .ne 9, 3) := by decide +kernel
theorem dX1_nearestBody_4 : decode cX1_nearestBody 4 = .ok (.getstatic 34, 3) := by decide +kernel
theorem dX1_nearestBody_7 : decode cX1_nearestBody 7 = .ok (.goto 6, 3) := by decide +kernel
theorem dX1_nearestBody_10 : decode cX1_nearestBody 10 = .ok (.getstatic 37, 3) := by decide +kernel
theorem dX1_nearestBody_13 : decode cX1_nearestBody 13 = .ok (.astore_n 2, 1) := by decide +kernel
theorem dX1_nearestBody_14 : decode cX1_nearestBody 14 = .ok (.aload_n 2, 1) := by decide +kernel
theorem dX1_nearestBody_15 : decode cX1_nearestBody 15 = .ok (.iload_n 0, 1) := by decide +kernel
theorem dX1_nearestBody_16 : decode cX1_nearestBody 16 = .ok (.iaload, 1) := by decide +kernel
theorem dX1_nearestBody_17 : decode cX1_nearestBody 17 = .ok (.ifCond .eq 9, 3) := by decide +kernel
theorem dX1_nearestBody_20 : decode cX1_nearestBody 20 = .ok (.aload_n 2, 1) := by decide +kernel
theorem dX1_nearestBody_21 : decode cX1_nearestBody 21 = .ok (.iload_n 0, 1) := by decide +kernel
theorem dX1_nearestBody_22 : decode cX1_nearestBody 22 = .ok (.iaload, 1) := by decide +kernel
theorem dX1_nearestBody_23 : decode cX1_nearestBody 23 = .ok (.goto 9, 3) := by decide +kernel
theorem dX1_nearestBody_26 : decode cX1_nearestBody 26 = .ok (.aload_n 2, 1) := by decide +kernel
theorem dX1_nearestBody_27 : decode cX1_nearestBody 27 = .ok (.iload_n 0, 1) := by decide +kernel
theorem dX1_nearestBody_28 : decode cX1_nearestBody 28 = .ok (.invokestatic 40, 3) := by decide +kernel
theorem dX1_nearestBody_31 : decode cX1_nearestBody 31 = .ok (.iaload, 1) := by decide +kernel
theorem dX1_nearestBody_32 : decode cX1_nearestBody 32 = .ok (.ireturn, 1) := by decide +kernel
theorem dX1_begin_0 : decode cX1_begin 0 = .ok (.iload 4, 2) := by decide +kernel
theorem dX1_begin_2 : decode cX1_begin 2 = .ok (.bipush 16, 2) := by decide +kernel
theorem dX1_begin_4 : decode cX1_begin 4 = .ok (.if_icmp .le 5, 3) := by decide +kernel
theorem dX1_begin_7 : decode cX1_begin 7 = .ok (.iconst 0, 1) := by decide +kernel
theorem dX1_begin_8 : decode cX1_begin 8 = .ok (.ireturn, 1) := by decide +kernel
theorem dX1_begin_9 : decode cX1_begin 9 = .ok (.aload_n 0, 1) := by decide +kernel
theorem dX1_begin_10 : decode cX1_begin 10 = .ok (.iload_n 1, 1) := by decide +kernel
theorem dX1_begin_11 : decode cX1_begin 11 = .ok (.invokevirtual 46, 3) := by decide +kernel
theorem dX1_begin_14 : decode cX1_begin 14 = .ok (.iload 4, 2) := by decide +kernel
theorem dX1_begin_16 : decode cX1_begin 16 = .ok (.iconst 1, 1) := by decide +kernel
theorem dX1_begin_17 : decode cX1_begin 17 = .ok (.iadd, 1) := by decide +kernel
theorem dX1_begin_18 : decode cX1_begin 18 = .ok (.istore 5, 2) := by decide +kernel
theorem dX1_begin_20 : decode cX1_begin 20 = .ok (.iload_n 1, 1) := by decide +kernel
theorem dX1_begin_21 : decode cX1_begin 21 = .ok (.tableswitch 211 10 24 #[75, 82, 103, 115, 129, 211, 211, 211, 211, 211, 142, 144, 162, 177, 198], 75) := by decide +kernel
theorem dX1_begin_96 : decode cX1_begin 96 = .ok (.aload_n 2, 1) := by decide +kernel
theorem dX1_begin_97 : decode cX1_begin 97 = .ok (.getfield 50, 3) := by decide +kernel
theorem dX1_begin_100 : decode cX1_begin 100 = .ok (.iload_n 3, 1) := by decide +kernel
theorem dX1_begin_101 : decode cX1_begin 101 = .ok (.iaload, 1) := by decide +kernel
theorem dX1_begin_102 : decode cX1_begin 102 = .ok (.ireturn, 1) := by decide +kernel
theorem dX1_begin_103 : decode cX1_begin 103 = .ok (.aload_n 0, 1) := by decide +kernel
theorem dX1_begin_104 : decode cX1_begin 104 = .ok (.bipush 10, 2) := by decide +kernel
theorem dX1_begin_106 : decode cX1_begin 106 = .ok (.aload_n 2, 1) := by decide +kernel
theorem dX1_begin_107 : decode cX1_begin 107 = .ok (.iload_n 3, 1) := by decide +kernel
theorem dX1_begin_108 : decode cX1_begin 108 = .ok (.iload 5, 2) := by decide +kernel
theorem dX1_begin_110 : decode cX1_begin 110 = .ok (.invokevirtual 30, 3) := by decide +kernel
theorem dX1_begin_113 : decode cX1_begin 113 = .ok (.aload_n 0, 1) := by decide +kernel
theorem dX1_begin_114 : decode cX1_begin 114 = .ok (.aload_n 2, 1) := by decide +kernel
theorem dX1_begin_115 : decode cX1_begin 115 = .ok (.iload_n 3, 1) := by decide +kernel
theorem dX1_begin_116 : decode cX1_begin 116 = .ok (.iconst 1, 1) := by decide +kernel
theorem dX1_begin_117 : decode cX1_begin 117 = .ok (.iload 5, 2) := by decide +kernel
theorem dX1_begin_119 : decode cX1_begin 119 = .ok (.invokevirtual 17, 3) := by decide +kernel
theorem dX1_begin_122 : decode cX1_begin 122 = .ok (.iadd, 1) := by decide +kernel
theorem dX1_begin_123 : decode cX1_begin 123 = .ok (.ireturn, 1) := by decide +kernel
theorem dX1_begin_124 : decode cX1_begin 124 = .ok (.aload_n 0, 1) := by decide +kernel
theorem dX1_begin_125 : decode cX1_begin 125 = .ok (.bipush 11, 2) := by decide +kernel
theorem dX1_begin_127 : decode cX1_begin 127 = .ok (.aload_n 2, 1) := by decide +kernel
theorem dX1_begin_128 : decode cX1_begin 128 = .ok (.iload_n 3, 1) := by decide +kernel
theorem dX1_begin_129 : decode cX1_begin 129 = .ok (.iload 5, 2) := by decide +kernel
theorem dX1_begin_131 : decode cX1_begin 131 = .ok (.invokevirtual 30, 3) := by decide +kernel
theorem dX1_begin_134 : decode cX1_begin 134 = .ok (.ineg, 1) := by decide +kernel
theorem dX1_begin_135 : decode cX1_begin 135 = .ok (.ireturn, 1) := by decide +kernel
theorem dX1_begin_136 : decode cX1_begin 136 = .ok (.aload_n 0, 1) := by decide +kernel
theorem dX1_begin_137 : decode cX1_begin 137 = .ok (.bipush 10, 2) := by decide +kernel
theorem dX1_begin_139 : decode cX1_begin 139 = .ok (.aload_n 2, 1) := by decide +kernel
theorem dX1_begin_140 : decode cX1_begin 140 = .ok (.iload_n 3, 1) := by decide +kernel
theorem dX1_begin_141 : decode cX1_begin 141 = .ok (.iload 5, 2) := by decide +kernel
theorem dX1_begin_143 : decode cX1_begin 143 = .ok (.invokevirtual 30, 3) := by decide +kernel
theorem dX1_begin_146 : decode cX1_begin 146 = .ok (.bipush 100, 2) := by decide +kernel
theorem dX1_begin_148 : decode cX1_begin 148 = .ok (.isub, 1) := by decide +kernel
theorem dX1_begin_149 : decode cX1_begin 149 = .ok (.ireturn, 1) := by decide +kernel
theorem dX1_begin_150 : decode cX1_begin 150 = .ok (.iconst 2, 1) := by decide +kernel
theorem dX1_begin_151 : decode cX1_begin 151 = .ok (.aload_n 0, 1) := by decide +kernel
theorem dX1_begin_152 : decode cX1_begin 152 = .ok (.bipush 13, 2) := by decide +kernel
theorem dX1_begin_154 : decode cX1_begin 154 = .ok (.aload_n 2, 1) := by decide +kernel
theorem dX1_begin_155 : decode cX1_begin 155 = .ok (.iload_n 3, 1) := by decide +kernel
theorem dX1_begin_156 : decode cX1_begin 156 = .ok (.iload 5, 2) := by decide +kernel
theorem dX1_begin_158 : decode cX1_begin 158 = .ok (.invokevirtual 30, 3) := by decide +kernel
theorem dX1_begin_161 : decode cX1_begin 161 = .ok (.imul, 1) := by decide +kernel
theorem dX1_begin_162 : decode cX1_begin 162 = .ok (.ireturn, 1) := by decide +kernel
theorem dX1_begin_163 : decode cX1_begin 163 = .ok (.iload_n 3, 1) := by decide +kernel
theorem dX1_begin_164 : decode cX1_begin 164 = .ok (.ireturn, 1) := by decide +kernel
theorem dX1_begin_165 : decode cX1_begin 165 = .ok (.aload_n 0, 1) := by decide +kernel
theorem dX1_begin_166 : decode cX1_begin 166 = .ok (.bipush 20, 2) := by decide +kernel
theorem dX1_begin_168 : decode cX1_begin 168 = .ok (.aload_n 2, 1) := by decide +kernel
theorem dX1_begin_169 : decode cX1_begin 169 = .ok (.iload_n 3, 1) := by decide +kernel
theorem dX1_begin_170 : decode cX1_begin 170 = .ok (.iload 5, 2) := by decide +kernel
theorem dX1_begin_172 : decode cX1_begin 172 = .ok (.invokevirtual 30, 3) := by decide +kernel
theorem dX1_begin_175 : decode cX1_begin 175 = .ok (.aload_n 2, 1) := by decide +kernel
theorem dX1_begin_176 : decode cX1_begin 176 = .ok (.getfield 53, 3) := by decide +kernel
theorem dX1_begin_179 : decode cX1_begin 179 = .ok (.iload_n 3, 1) := by decide +kernel
theorem dX1_begin_180 : decode cX1_begin 180 = .ok (.iaload, 1) := by decide +kernel
theorem dX1_begin_181 : decode cX1_begin 181 = .ok (.iadd, 1) := by decide +kernel
theorem dX1_begin_182 : decode cX1_begin 182 = .ok (.ireturn, 1) := by decide +kernel
theorem dX1_begin_183 : decode cX1_begin 183 = .ok (.aload_n 0, 1) := by decide +kernel
theorem dX1_begin_184 : decode cX1_begin 184 = .ok (.bipush 21, 2) := by decide +kernel
theorem dX1_begin_186 : decode cX1_begin 186 = .ok (.aload_n 2, 1) := by decide +kernel
theorem dX1_begin_187 : decode cX1_begin 187 = .ok (.iload_n 3, 1) := by decide +kernel
theorem dX1_begin_188 : decode cX1_begin 188 = .ok (.iload 5, 2) := by decide +kernel
theorem dX1_begin_190 : decode cX1_begin 190 = .ok (.invokevirtual 30, 3) := by decide +kernel
theorem dX1_begin_193 : decode cX1_begin 193 = .ok (.sipush 1000, 3) := by decide +kernel
theorem dX1_begin_196 : decode cX1_begin 196 = .ok (.isub, 1) := by decide +kernel
theorem dX1_begin_197 : decode cX1_begin 197 = .ok (.ireturn, 1) := by decide +kernel
theorem dX1_begin_198 : decode cX1_begin 198 = .ok (.aload_n 0, 1) := by decide +kernel
theorem dX1_begin_199 : decode cX1_begin 199 = .ok (.bipush 20, 2) := by decide +kernel
theorem dX1_begin_201 : decode cX1_begin 201 = .ok (.aload_n 2, 1) := by decide +kernel
theorem dX1_begin_202 : decode cX1_begin 202 = .ok (.iload_n 3, 1) := by decide +kernel
theorem dX1_begin_203 : decode cX1_begin 203 = .ok (.iload 5, 2) := by decide +kernel
theorem dX1_begin_205 : decode cX1_begin 205 = .ok (.invokevirtual 30, 3) := by decide +kernel
theorem dX1_begin_208 : decode cX1_begin 208 = .ok (.aload_n 0, 1) := by decide +kernel
theorem dX1_begin_209 : decode cX1_begin 209 = .ok (.aload_n 2, 1) := by decide +kernel
theorem dX1_begin_210 : decode cX1_begin 210 = .ok (.iload_n 3, 1) := by decide +kernel
theorem dX1_begin_211 : decode cX1_begin 211 = .ok (.iconst 0, 1) := by decide +kernel
theorem dX1_begin_212 : decode cX1_begin 212 = .ok (.iload 5, 2) := by decide +kernel
theorem dX1_begin_214 : decode cX1_begin 214 = .ok (.invokevirtual 17, 3) := by decide +kernel
theorem dX1_begin_217 : decode cX1_begin 217 = .ok (.isub, 1) := by decide +kernel
theorem dX1_begin_218 : decode cX1_begin 218 = .ok (.ireturn, 1) := by decide +kernel
theorem dX1_begin_219 : decode cX1_begin 219 = .ok (.iconst 2, 1) := by decide +kernel
theorem dX1_begin_220 : decode cX1_begin 220 = .ok (.aload_n 0, 1) := by decide +kernel
theorem dX1_begin_221 : decode cX1_begin 221 = .ok (.bipush 21, 2) := by decide +kernel
theorem dX1_begin_223 : decode cX1_begin 223 = .ok (.aload_n 2, 1) := by decide +kernel
theorem dX1_begin_224 : decode cX1_begin 224 = .ok (.iload_n 3, 1) := by decide +kernel
theorem dX1_begin_225 : decode cX1_begin 225 = .ok (.iload 5, 2) := by decide +kernel
theorem dX1_begin_227 : decode cX1_begin 227 = .ok (.invokevirtual 30, 3) := by decide +kernel
theorem dX1_begin_230 : decode cX1_begin 230 = .ok (.imul, 1) := by decide +kernel
theorem dX1_begin_231 : decode cX1_begin 231 = .ok (.ireturn, 1) := by decide +kernel
theorem dX1_begin_232 : decode cX1_begin 232 = .ok (.iconst 0, 1) := by decide +kernel
theorem dX1_begin_233 : decode cX1_begin 233 = .ok (.ireturn, 1) := by decide +kernel
theorem dX1_leave_0 : decode cX1_leave 0 = .ok (.aload_n 0, 1) := by decide +kernel
theorem dX1_leave_1 : decode cX1_leave 1 = .ok (.getfield 13, 3) := by decide +kernel
theorem dX1_leave_4 : decode cX1_leave 4 = .ok (.aload_n 0, 1) := by decide +kernel
theorem dX1_leave_5 : decode cX1_leave 5 = .ok (.getfield 7, 3) := by decide +kernel
theorem dX1_leave_8 : decode cX1_leave 8 = .ok (.arraylength, 1) := by decide +kernel
theorem dX1_leave_9 : decode cX1_leave 9 = .ok (.if_icmp .ge 23, 3) := by decide +kernel
theorem dX1_leave_12 : decode cX1_leave 12 = .ok (.aload_n 0, 1) := by decide +kernel
theorem dX1_leave_13 : decode cX1_leave 13 = .ok (.getfield 7, 3) := by decide +kernel
theorem dX1_leave_16 : decode cX1_leave 16 = .ok (.aload_n 0, 1) := by decide +kernel
theorem dX1_leave_17 : decode cX1_leave 17 = .ok (.getfield 13, 3) := by decide +kernel
theorem dX1_leave_20 : decode cX1_leave 20 = .ok (.iload_n 1, 1) := by decide +kernel
theorem dX1_leave_21 : decode cX1_leave 21 = .ok (.iastore, 1) := by decide +kernel
theorem dX1_leave_22 : decode cX1_leave 22 = .ok (.aload_n 0, 1) := by decide +kernel
theorem dX1_leave_23 : decode cX1_leave 23 = .ok (.dup, 1) := by decide +kernel
theorem dX1_leave_24 : decode cX1_leave 24 = .ok (.getfield 13, 3) := by decide +kernel
theorem dX1_leave_27 : decode cX1_leave 27 = .ok (.iconst 1, 1) := by decide +kernel
theorem dX1_leave_28 : decode cX1_leave 28 = .ok (.iadd, 1) := by decide +kernel
theorem dX1_leave_29 : decode cX1_leave 29 = .ok (.putfield 13, 3) := by decide +kernel
theorem dX1_leave_32 : decode cX1_leave 32 = .ok (.return_, 1) := by decide +kernel
theorem dX2_init_0 : decode cX2_init 0 = .ok (.aload_n 0, 1) := by decide +kernel
theorem dX2_init_1 : decode cX2_init 1 = .ok (.invokespecial 3, 3) := by decide +kernel
theorem dX2_init_4 : decode cX2_init 4 = .ok (.aload_n 0, 1) := by decide +kernel
theorem dX2_init_5 : decode cX2_init 5 = .ok (.bipush 6, 2) := by decide +kernel
theorem dX2_init_7 : decode cX2_init 7 = .ok (.newarray .int, 2) := by decide +kernel
theorem dX2_init_9 : decode cX2_init 9 = .ok (.putfield 9, 3) := by decide +kernel
theorem dX2_init_12 : decode cX2_init 12 = .ok (.aload_n 0, 1) := by decide +kernel
theorem dX2_init_13 : decode cX2_init 13 = .ok (.bipush 6, 2) := by decide +kernel
theorem dX2_init_15 : decode cX2_init 15 = .ok (.newarray .int, 2) := by decide +kernel
theorem dX2_init_17 : decode cX2_init 17 = .ok (.putfield 15, 3) := by decide +kernel
theorem dX2_init_20 : decode cX2_init 20 = .ok (.aload_n 0, 1) := by decide +kernel
theorem dX2_init_21 : decode cX2_init 21 = .ok (.bipush 6, 2) := by decide +kernel
theorem dX2_init_23 : decode cX2_init 23 = .ok (.newarray .int, 2) := by decide +kernel
theorem dX2_init_25 : decode cX2_init 25 = .ok (.putfield 18, 3) := by decide +kernel
theorem dX2_init_28 : decode cX2_init 28 = .ok (.aload_n 0, 1) := by decide +kernel
theorem dX2_init_29 : decode cX2_init 29 = .ok (.bipush 6, 2) := by decide +kernel
theorem dX2_init_31 : decode cX2_init 31 = .ok (.newarray .int, 2) := by decide +kernel
theorem dX2_init_33 : decode cX2_init 33 = .ok (.putfield 21, 3) := by decide +kernel
theorem dX2_init_36 : decode cX2_init 36 = .ok (.aload_n 0, 1) := by decide +kernel
theorem dX2_init_37 : decode cX2_init 37 = .ok (.bipush 6, 2) := by decide +kernel
theorem dX2_init_39 : decode cX2_init 39 = .ok (.newarray .int, 2) := by decide +kernel
theorem dX2_init_41 : decode cX2_init 41 = .ok (.putfield 24, 3) := by decide +kernel
theorem dX2_init_44 : decode cX2_init 44 = .ok (.aload_n 0, 1) := by decide +kernel
theorem dX2_init_45 : decode cX2_init 45 = .ok (.bipush 6, 2) := by decide +kernel
theorem dX2_init_47 : decode cX2_init 47 = .ok (.newarray .int, 2) := by decide +kernel
theorem dX2_init_49 : decode cX2_init 49 = .ok (.putfield 27, 3) := by decide +kernel
theorem dX2_init_52 : decode cX2_init 52 = .ok (.return_, 1) := by decide +kernel
theorem dX2_become_0 : decode cX2_become 0 = .ok (.aload_n 1, 1) := by decide +kernel
theorem dX2_become_1 : decode cX2_become 1 = .ok (.getfield 9, 3) := by decide +kernel
theorem dX2_become_4 : decode cX2_become 4 = .ok (.iconst 0, 1) := by decide +kernel
theorem dX2_become_5 : decode cX2_become 5 = .ok (.aload_n 0, 1) := by decide +kernel
theorem dX2_become_6 : decode cX2_become 6 = .ok (.getfield 9, 3) := by decide +kernel
theorem dX2_become_9 : decode cX2_become 9 = .ok (.iconst 0, 1) := by decide +kernel
theorem dX2_become_10 : decode cX2_become 10 = .ok (.bipush 6, 2) := by decide +kernel
theorem dX2_become_12 : decode cX2_become 12 = .ok (.invokestatic 30, 3) := by decide +kernel
theorem dX2_become_15 : decode cX2_become 15 = .ok (.aload_n 1, 1) := by decide +kernel
theorem dX2_become_16 : decode cX2_become 16 = .ok (.getfield 15, 3) := by decide +kernel
theorem dX2_become_19 : decode cX2_become 19 = .ok (.iconst 0, 1) := by decide +kernel
theorem dX2_become_20 : decode cX2_become 20 = .ok (.aload_n 0, 1) := by decide +kernel
theorem dX2_become_21 : decode cX2_become 21 = .ok (.getfield 15, 3) := by decide +kernel
theorem dX2_become_24 : decode cX2_become 24 = .ok (.iconst 0, 1) := by decide +kernel
theorem dX2_become_25 : decode cX2_become 25 = .ok (.bipush 6, 2) := by decide +kernel
theorem dX2_become_27 : decode cX2_become 27 = .ok (.invokestatic 30, 3) := by decide +kernel
theorem dX2_become_30 : decode cX2_become 30 = .ok (.aload_n 1, 1) := by decide +kernel
theorem dX2_become_31 : decode cX2_become 31 = .ok (.getfield 18, 3) := by decide +kernel
theorem dX2_become_34 : decode cX2_become 34 = .ok (.iconst 0, 1) := by decide +kernel
theorem dX2_become_35 : decode cX2_become 35 = .ok (.aload_n 0, 1) := by decide +kernel
theorem dX2_become_36 : decode cX2_become 36 = .ok (.getfield 18, 3) := by decide +kernel
theorem dX2_become_39 : decode cX2_become 39 = .ok (.iconst 0, 1) := by decide +kernel
theorem dX2_become_40 : decode cX2_become 40 = .ok (.bipush 6, 2) := by decide +kernel
theorem dX2_become_42 : decode cX2_become 42 = .ok (.invokestatic 30, 3) := by decide +kernel
theorem dX2_become_45 : decode cX2_become 45 = .ok (.aload_n 1, 1) := by decide +kernel
theorem dX2_become_46 : decode cX2_become 46 = .ok (.getfield 21, 3) := by decide +kernel
theorem dX2_become_49 : decode cX2_become 49 = .ok (.iconst 0, 1) := by decide +kernel
theorem dX2_become_50 : decode cX2_become 50 = .ok (.aload_n 0, 1) := by decide +kernel
theorem dX2_become_51 : decode cX2_become 51 = .ok (.getfield 21, 3) := by decide +kernel
theorem dX2_become_54 : decode cX2_become 54 = .ok (.iconst 0, 1) := by decide +kernel
theorem dX2_become_55 : decode cX2_become 55 = .ok (.bipush 6, 2) := by decide +kernel
theorem dX2_become_57 : decode cX2_become 57 = .ok (.invokestatic 30, 3) := by decide +kernel
theorem dX2_become_60 : decode cX2_become 60 = .ok (.aload_n 1, 1) := by decide +kernel
theorem dX2_become_61 : decode cX2_become 61 = .ok (.getfield 24, 3) := by decide +kernel
theorem dX2_become_64 : decode cX2_become 64 = .ok (.iconst 0, 1) := by decide +kernel
theorem dX2_become_65 : decode cX2_become 65 = .ok (.aload_n 0, 1) := by decide +kernel
theorem dX2_become_66 : decode cX2_become 66 = .ok (.getfield 24, 3) := by decide +kernel
theorem dX2_become_69 : decode cX2_become 69 = .ok (.iconst 0, 1) := by decide +kernel
theorem dX2_become_70 : decode cX2_become 70 = .ok (.bipush 6, 2) := by decide +kernel
theorem dX2_become_72 : decode cX2_become 72 = .ok (.invokestatic 30, 3) := by decide +kernel
theorem dX2_become_75 : decode cX2_become 75 = .ok (.aload_n 1, 1) := by decide +kernel
theorem dX2_become_76 : decode cX2_become 76 = .ok (.getfield 27, 3) := by decide +kernel
theorem dX2_become_79 : decode cX2_become 79 = .ok (.iconst 0, 1) := by decide +kernel
theorem dX2_become_80 : decode cX2_become 80 = .ok (.aload_n 0, 1) := by decide +kernel
theorem dX2_become_81 : decode cX2_become 81 = .ok (.getfield 27, 3) := by decide +kernel
theorem dX2_become_84 : decode cX2_become 84 = .ok (.iconst 0, 1) := by decide +kernel
theorem dX2_become_85 : decode cX2_become 85 = .ok (.bipush 6, 2) := by decide +kernel
theorem dX2_become_87 : decode cX2_become 87 = .ok (.invokestatic 30, 3) := by decide +kernel
theorem dX2_become_90 : decode cX2_become 90 = .ok (.aload_n 0, 1) := by decide +kernel
theorem dX2_become_91 : decode cX2_become 91 = .ok (.aload_n 1, 1) := by decide +kernel
theorem dX2_become_92 : decode cX2_become 92 = .ok (.getfield 36, 3) := by decide +kernel
theorem dX2_become_95 : decode cX2_become 95 = .ok (.putfield 36, 3) := by decide +kernel
theorem dX2_become_98 : decode cX2_become 98 = .ok (.aload_n 0, 1) := by decide +kernel
theorem dX2_become_99 : decode cX2_become 99 = .ok (.aload_n 1, 1) := by decide +kernel
theorem dX2_become_100 : decode cX2_become 100 = .ok (.getfield 40, 3) := by decide +kernel
theorem dX2_become_103 : decode cX2_become 103 = .ok (.putfield 40, 3) := by decide +kernel
theorem dX2_become_106 : decode cX2_become 106 = .ok (.aload_n 0, 1) := by decide +kernel
theorem dX2_become_107 : decode cX2_become 107 = .ok (.aload_n 1, 1) := by decide +kernel
theorem dX2_become_108 : decode cX2_become 108 = .ok (.getfield 44, 3) := by decide +kernel
theorem dX2_become_111 : decode cX2_become 111 = .ok (.putfield 44, 3) := by decide +kernel
theorem dX2_become_114 : decode cX2_become 114 = .ok (.aload_n 0, 1) := by decide +kernel
theorem dX2_become_115 : decode cX2_become 115 = .ok (.aload_n 1, 1) := by decide +kernel
theorem dX2_become_116 : decode cX2_become 116 = .ok (.getfield 47, 3) := by decide +kernel
theorem dX2_become_119 : decode cX2_become 119 = .ok (.putfield 47, 3) := by decide +kernel
theorem dX2_become_122 : decode cX2_become 122 = .ok (.aload_n 0, 1) := by decide +kernel
theorem dX2_become_123 : decode cX2_become 123 = .ok (.aload_n 1, 1) := by decide +kernel
theorem dX2_become_124 : decode cX2_become 124 = .ok (.getfield 50, 3) := by decide +kernel
theorem dX2_become_127 : decode cX2_become 127 = .ok (.putfield 50, 3) := by decide +kernel
theorem dX2_become_130 : decode cX2_become 130 = .ok (.aload_n 0, 1) := by decide +kernel
theorem dX2_become_131 : decode cX2_become 131 = .ok (.aload_n 1, 1) := by decide +kernel
theorem dX2_become_132 : decode cX2_become 132 = .ok (.getfield 53, 3) := by decide +kernel
theorem dX2_become_135 : decode cX2_become 135 = .ok (.putfield 53, 3) := by decide +kernel
theorem dX2_become_138 : decode cX2_become 138 = .ok (.aload_n 0, 1) := by decide +kernel
theorem dX2_become_139 : decode cX2_become 139 = .ok (.aload_n 1, 1) := by decide +kernel
theorem dX2_become_140 : decode cX2_become 140 = .ok (.getfield 56, 3) := by decide +kernel
theorem dX2_become_143 : decode cX2_become 143 = .ok (.putfield 56, 3) := by decide +kernel
theorem dX2_become_146 : decode cX2_become 146 = .ok (.aload_n 0, 1) := by decide +kernel
theorem dX2_become_147 : decode cX2_become 147 = .ok (.aload_n 1, 1) := by decide +kernel
theorem dX2_become_148 : decode cX2_become 148 = .ok (.getfield 59, 3) := by decide +kernel
theorem dX2_become_151 : decode cX2_become 151 = .ok (.putfield 59, 3) := by decide +kernel
theorem dX2_become_154 : decode cX2_become 154 = .ok (.aload_n 0, 1) := by decide +kernel
theorem dX2_become_155 : decode cX2_become 155 = .ok (.aload_n 1, 1) := by decide +kernel
theorem dX2_become_156 : decode cX2_become 156 = .ok (.getfield 62, 3) := by decide +kernel
theorem dX2_become_159 : decode cX2_become 159 = .ok (.putfield 62, 3) := by decide +kernel
theorem dX2_become_162 : decode cX2_become 162 = .ok (.aload_n 0, 1) := by decide +kernel
theorem dX2_become_163 : decode cX2_become 163 = .ok (.aload_n 1, 1) := by decide +kernel
theorem dX2_become_164 : decode cX2_become 164 = .ok (.getfield 65, 3) := by decide +kernel
theorem dX2_become_167 : decode cX2_become 167 = .ok (.putfield 65, 3) := by decide +kernel
theorem dX2_become_170 : decode cX2_become 170 = .ok (.return_, 1) := by decide +kernel
theorem dX2_clear_0 : decode cX2_clear 0 = .ok (.aload_n 0, 1) := by decide +kernel
theorem dX2_clear_1 : decode cX2_clear 1 = .ok (.getfield 27, 3) := by decide +kernel
theorem dX2_clear_4 : decode cX2_clear 4 = .ok (.iconst 0, 1) := by decide +kernel
theorem dX2_clear_5 : decode cX2_clear 5 = .ok (.invokestatic 68, 3) := by decide +kernel
theorem dX2_clear_8 : decode cX2_clear 8 = .ok (.aload_n 0, 1) := by decide +kernel
theorem dX2_clear_9 : decode cX2_clear 9 = .ok (.iconst 0, 1) := by decide +kernel
theorem dX2_clear_10 : decode cX2_clear 10 = .ok (.putfield 36, 3) := by decide +kernel
theorem dX2_clear_13 : decode cX2_clear 13 = .ok (.aload_n 0, 1) := by decide +kernel
theorem dX2_clear_14 : decode cX2_clear 14 = .ok (.iconst 0, 1) := by decide +kernel
theorem dX2_clear_15 : decode cX2_clear 15 = .ok (.putfield 40, 3) := by decide +kernel
theorem dX2_clear_18 : decode cX2_clear 18 = .ok (.aload_n 0, 1) := by decide +kernel
theorem dX2_clear_19 : decode cX2_clear 19 = .ok (.iconst 0, 1) := by decide +kernel
theorem dX2_clear_20 : decode cX2_clear 20 = .ok (.putfield 53, 3) := by decide +kernel
theorem dX2_clear_23 : decode cX2_clear 23 = .ok (.aload_n 0, 1) := by decide +kernel
theorem dX2_clear_24 : decode cX2_clear 24 = .ok (.iconst 0, 1) := by decide +kernel
theorem dX2_clear_25 : decode cX2_clear 25 = .ok (.putfield 56, 3) := by decide +kernel
theorem dX2_clear_28 : decode cX2_clear 28 = .ok (.aload_n 0, 1) := by decide +kernel
theorem dX2_clear_29 : decode cX2_clear 29 = .ok (.iconst 0, 1) := by decide +kernel
theorem dX2_clear_30 : decode cX2_clear 30 = .ok (.putfield 59, 3) := by decide +kernel
theorem dX2_clear_33 : decode cX2_clear 33 = .ok (.aload_n 0, 1) := by decide +kernel
theorem dX2_clear_34 : decode cX2_clear 34 = .ok (.iconst 0, 1) := by decide +kernel
theorem dX2_clear_35 : decode cX2_clear 35 = .ok (.putfield 62, 3) := by decide +kernel
theorem dX2_clear_38 : decode cX2_clear 38 = .ok (.aload_n 0, 1) := by decide +kernel
theorem dX2_clear_39 : decode cX2_clear 39 = .ok (.iconst 0, 1) := by decide +kernel
theorem dX2_clear_40 : decode cX2_clear 40 = .ok (.putfield 65, 3) := by decide +kernel
theorem dX2_clear_43 : decode cX2_clear 43 = .ok (.return_, 1) := by decide +kernel
theorem dX2_addWind_0 : decode cX2_addWind 0 = .ok (.aload_n 0, 1) := by decide +kernel
theorem dX2_addWind_1 : decode cX2_addWind 1 = .ok (.getfield 53, 3) := by decide +kernel
theorem dX2_addWind_4 : decode cX2_addWind 4 = .ok (.bipush 6, 2) := by decide +kernel
theorem dX2_addWind_6 : decode cX2_addWind 6 = .ok (.if_icmp .ge 23, 3) := by decide +kernel
theorem dX2_addWind_9 : decode cX2_addWind 9 = .ok (.aload_n 0, 1) := by decide +kernel
theorem dX2_addWind_10 : decode cX2_addWind 10 = .ok (.getfield 9, 3) := by decide +kernel
theorem dX2_addWind_13 : decode cX2_addWind 13 = .ok (.aload_n 0, 1) := by decide +kernel
theorem dX2_addWind_14 : decode cX2_addWind 14 = .ok (.getfield 53, 3) := by decide +kernel
theorem dX2_addWind_17 : decode cX2_addWind 17 = .ok (.iload_n 1, 1) := by decide +kernel
theorem dX2_addWind_18 : decode cX2_addWind 18 = .ok (.iastore, 1) := by decide +kernel
theorem dX2_addWind_19 : decode cX2_addWind 19 = .ok (.aload_n 0, 1) := by decide +kernel
theorem dX2_addWind_20 : decode cX2_addWind 20 = .ok (.dup, 1) := by decide +kernel
theorem dX2_addWind_21 : decode cX2_addWind 21 = .ok (.getfield 53, 3) := by decide +kernel
theorem dX2_addWind_24 : decode cX2_addWind 24 = .ok (.iconst 1, 1) := by decide +kernel
theorem dX2_addWind_25 : decode cX2_addWind 25 = .ok (.iadd, 1) := by decide +kernel
theorem dX2_addWind_26 : decode cX2_addWind 26 = .ok (.putfield 53, 3) := by decide +kernel
theorem dX2_addWind_29 : decode cX2_addWind 29 = .ok (.return_, 1) := by decide +kernel
theorem dX2_addSheet_0 : decode cX2_addSheet 0 = .ok (.aload_n 0, 1) := by decide +kernel
end
section
theorem dX2_addSheet_1 : decode cX2_addSheet 1 = .ok (.getfield 56, 3) := by decide +kernel
theorem dX2_addSheet_4 : decode cX2_addSheet 4 = .ok (.bipush 6, 2) := by decide +kernel
theorem dX2_addSheet_6 : decode cX2_addSheet 6 = .ok (.if_icmp .ge 44, 3) := by decide +kernel
theorem dX2_addSheet_9 : decode cX2_addSheet 9 = .ok (.aload_n 0, 1) := by decide +kernel
theorem dX2_addSheet_10 : decode cX2_addSheet 10 = .ok (.getfield 15, 3) := by decide +kernel
theorem dX2_addSheet_13 : decode cX2_addSheet 13 = .ok (.aload_n 0, 1) := by decide +kernel
theorem dX2_addSheet_14 : decode cX2_addSheet 14 = .ok (.getfield 56, 3) := by decide +kernel
theorem dX2_addSheet_17 : decode cX2_addSheet 17 = .ok (.iload_n 1, 1) := by decide +kernel
theorem dX2_addSheet_18 : decode cX2_addSheet 18 = .ok (.iastore, 1) := by decide +kernel
theorem dX2_addSheet_19 : decode cX2_addSheet 19 = .ok (.aload_n 0, 1) := by decide +kernel
theorem dX2_addSheet_20 : decode cX2_addSheet 20 = .ok (.getfield 21, 3) := by decide +kernel
theorem dX2_addSheet_23 : decode cX2_addSheet 23 = .ok (.aload_n 0, 1) := by decide +kernel
theorem dX2_addSheet_24 : decode cX2_addSheet 24 = .ok (.getfield 56, 3) := by decide +kernel
theorem dX2_addSheet_27 : decode cX2_addSheet 27 = .ok (.iload_n 3, 1) := by decide +kernel
theorem dX2_addSheet_28 : decode cX2_addSheet 28 = .ok (.iastore, 1) := by decide +kernel
theorem dX2_addSheet_29 : decode cX2_addSheet 29 = .ok (.aload_n 0, 1) := by decide +kernel
theorem dX2_addSheet_30 : decode cX2_addSheet 30 = .ok (.aload_n 0, 1) := by decide +kernel
theorem dX2_addSheet_31 : decode cX2_addSheet 31 = .ok (.getfield 56, 3) := by decide +kernel
theorem dX2_addSheet_34 : decode cX2_addSheet 34 = .ok (.iload_n 2, 1) := by decide +kernel
theorem dX2_addSheet_35 : decode cX2_addSheet 35 = .ok (.iload 4, 2) := by decide +kernel
theorem dX2_addSheet_37 : decode cX2_addSheet 37 = .ok (.invokevirtual 74, 3) := by decide +kernel
theorem dX2_addSheet_40 : decode cX2_addSheet 40 = .ok (.aload_n 0, 1) := by decide +kernel
theorem dX2_addSheet_41 : decode cX2_addSheet 41 = .ok (.dup, 1) := by decide +kernel
theorem dX2_addSheet_42 : decode cX2_addSheet 42 = .ok (.getfield 56, 3) := by decide +kernel
theorem dX2_addSheet_45 : decode cX2_addSheet 45 = .ok (.iconst 1, 1) := by decide +kernel
theorem dX2_addSheet_46 : decode cX2_addSheet 46 = .ok (.iadd, 1) := by decide +kernel
theorem dX2_addSheet_47 : decode cX2_addSheet 47 = .ok (.putfield 56, 3) := by decide +kernel
theorem dX2_addSheet_50 : decode cX2_addSheet 50 = .ok (.return_, 1) := by decide +kernel
theorem dX2_admit_0 : decode cX2_admit 0 = .ok (.aload_n 0, 1) := by decide +kernel
theorem dX2_admit_1 : decode cX2_admit 1 = .ok (.dup, 1) := by decide +kernel
theorem dX2_admit_2 : decode cX2_admit 2 = .ok (.getfield 62, 3) := by decide +kernel
theorem dX2_admit_5 : decode cX2_admit 5 = .ok (.iconst 1, 1) := by decide +kernel
theorem dX2_admit_6 : decode cX2_admit 6 = .ok (.iload_n 1, 1) := by decide +kernel
theorem dX2_admit_7 : decode cX2_admit 7 = .ok (.ishl, 1) := by decide +kernel
theorem dX2_admit_8 : decode cX2_admit 8 = .ok (.ior, 1) := by decide +kernel
theorem dX2_admit_9 : decode cX2_admit 9 = .ok (.putfield 62, 3) := by decide +kernel
theorem dX2_admit_12 : decode cX2_admit 12 = .ok (.aload_n 0, 1) := by decide +kernel
theorem dX2_admit_13 : decode cX2_admit 13 = .ok (.getfield 18, 3) := by decide +kernel
theorem dX2_admit_16 : decode cX2_admit 16 = .ok (.iload_n 1, 1) := by decide +kernel
theorem dX2_admit_17 : decode cX2_admit 17 = .ok (.iload_n 2, 1) := by decide +kernel
theorem dX2_admit_18 : decode cX2_admit 18 = .ok (.iastore, 1) := by decide +kernel
theorem dX2_admit_19 : decode cX2_admit 19 = .ok (.aload_n 0, 1) := by decide +kernel
theorem dX2_admit_20 : decode cX2_admit 20 = .ok (.getfield 24, 3) := by decide +kernel
theorem dX2_admit_23 : decode cX2_admit 23 = .ok (.iload_n 1, 1) := by decide +kernel
theorem dX2_admit_24 : decode cX2_admit 24 = .ok (.iload_n 3, 1) := by decide +kernel
theorem dX2_admit_25 : decode cX2_admit 25 = .ok (.iastore, 1) := by decide +kernel
theorem dX2_admit_26 : decode cX2_admit 26 = .ok (.return_, 1) := by decide +kernel
theorem dX2_isSheet_0 : decode cX2_isSheet 0 = .ok (.iload_n 1, 1) := by decide +kernel
theorem dX2_isSheet_1 : decode cX2_isSheet 1 = .ok (.ifCond .lt 15, 3) := by decide +kernel
theorem dX2_isSheet_4 : decode cX2_isSheet 4 = .ok (.iload_n 1, 1) := by decide +kernel
theorem dX2_isSheet_5 : decode cX2_isSheet 5 = .ok (.aload_n 0, 1) := by decide +kernel
theorem dX2_isSheet_6 : decode cX2_isSheet 6 = .ok (.getfield 56, 3) := by decide +kernel
theorem dX2_isSheet_9 : decode cX2_isSheet 9 = .ok (.if_icmp .ge 7, 3) := by decide +kernel
theorem dX2_isSheet_12 : decode cX2_isSheet 12 = .ok (.iconst 1, 1) := by decide +kernel
theorem dX2_isSheet_13 : decode cX2_isSheet 13 = .ok (.goto 4, 3) := by decide +kernel
theorem dX2_isSheet_16 : decode cX2_isSheet 16 = .ok (.iconst 0, 1) := by decide +kernel
theorem dX2_isSheet_17 : decode cX2_isSheet 17 = .ok (.ireturn, 1) := by decide +kernel
theorem dX2_isWind_0 : decode cX2_isWind 0 = .ok (.iload_n 1, 1) := by decide +kernel
theorem dX2_isWind_1 : decode cX2_isWind 1 = .ok (.ifCond .lt 15, 3) := by decide +kernel
theorem dX2_isWind_4 : decode cX2_isWind 4 = .ok (.iload_n 1, 1) := by decide +kernel
theorem dX2_isWind_5 : decode cX2_isWind 5 = .ok (.aload_n 0, 1) := by decide +kernel
theorem dX2_isWind_6 : decode cX2_isWind 6 = .ok (.getfield 53, 3) := by decide +kernel
theorem dX2_isWind_9 : decode cX2_isWind 9 = .ok (.if_icmp .ge 7, 3) := by decide +kernel
theorem dX2_isWind_12 : decode cX2_isWind 12 = .ok (.iconst 1, 1) := by decide +kernel
theorem dX2_isWind_13 : decode cX2_isWind 13 = .ok (.goto 4, 3) := by decide +kernel
theorem dX2_isWind_16 : decode cX2_isWind 16 = .ok (.iconst 0, 1) := by decide +kernel
theorem dX2_isWind_17 : decode cX2_isWind 17 = .ok (.ireturn, 1) := by decide +kernel
theorem dX2_isCell_0 : decode cX2_isCell 0 = .ok (.iload_n 1, 1) := by decide +kernel
theorem dX2_isCell_1 : decode cX2_isCell 1 = .ok (.ifCond .lt 15, 3) := by decide +kernel
theorem dX2_isCell_4 : decode cX2_isCell 4 = .ok (.iload_n 1, 1) := by decide +kernel
theorem dX2_isCell_5 : decode cX2_isCell 5 = .ok (.aload_n 0, 1) := by decide +kernel
theorem dX2_isCell_6 : decode cX2_isCell 6 = .ok (.getfield 40, 3) := by decide +kernel
theorem dX2_isCell_9 : decode cX2_isCell 9 = .ok (.if_icmp .ge 7, 3) := by decide +kernel
theorem dX2_isCell_12 : decode cX2_isCell 12 = .ok (.iconst 1, 1) := by decide +kernel
theorem dX2_isCell_13 : decode cX2_isCell 13 = .ok (.goto 4, 3) := by decide +kernel
theorem dX2_isCell_16 : decode cX2_isCell 16 = .ok (.iconst 0, 1) := by decide +kernel
theorem dX2_isCell_17 : decode cX2_isCell 17 = .ok (.ireturn, 1) := by decide +kernel
theorem dX2_isIn_0 : decode cX2_isIn 0 = .ok (.aload_n 0, 1) := by decide +kernel
theorem dX2_isIn_1 : decode cX2_isIn 1 = .ok (.getfield 62, 3) := by decide +kernel
theorem dX2_isIn_4 : decode cX2_isIn 4 = .ok (.iload_n 1, 1) := by decide +kernel
theorem dX2_isIn_5 : decode cX2_isIn 5 = .ok (.ishr, 1) := by decide +kernel
theorem dX2_isIn_6 : decode cX2_isIn 6 = .ok (.iconst 1, 1) := by decide +kernel
theorem dX2_isIn_7 : decode cX2_isIn 7 = .ok (.iand, 1) := by decide +kernel
theorem dX2_isIn_8 : decode cX2_isIn 8 = .ok (.ifCond .eq 7, 3) := by decide +kernel
theorem dX2_isIn_11 : decode cX2_isIn 11 = .ok (.iconst 1, 1) := by decide +kernel
theorem dX2_isIn_12 : decode cX2_isIn 12 = .ok (.goto 4, 3) := by decide +kernel
theorem dX2_isIn_15 : decode cX2_isIn 15 = .ok (.iconst 0, 1) := by decide +kernel
theorem dX2_isIn_16 : decode cX2_isIn 16 = .ok (.ireturn, 1) := by decide +kernel
theorem dX2_windOfHour_0 : decode cX2_windOfHour 0 = .ok (.aload_n 0, 1) := by decide +kernel
theorem dX2_windOfHour_1 : decode cX2_windOfHour 1 = .ok (.getfield 53, 3) := by decide +kernel
theorem dX2_windOfHour_4 : decode cX2_windOfHour 4 = .ok (.ifCond .ne 7, 3) := by decide +kernel
theorem dX2_windOfHour_7 : decode cX2_windOfHour 7 = .ok (.iconst 0, 1) := by decide +kernel
theorem dX2_windOfHour_8 : decode cX2_windOfHour 8 = .ok (.goto 12, 3) := by decide +kernel
theorem dX2_windOfHour_11 : decode cX2_windOfHour 11 = .ok (.aload_n 0, 1) := by decide +kernel
theorem dX2_windOfHour_12 : decode cX2_windOfHour 12 = .ok (.getfield 59, 3) := by decide +kernel
theorem dX2_windOfHour_15 : decode cX2_windOfHour 15 = .ok (.aload_n 0, 1) := by decide +kernel
theorem dX2_windOfHour_16 : decode cX2_windOfHour 16 = .ok (.getfield 53, 3) := by decide +kernel
theorem dX2_windOfHour_19 : decode cX2_windOfHour 19 = .ok (.irem, 1) := by decide +kernel
theorem dX2_windOfHour_20 : decode cX2_windOfHour 20 = .ok (.ireturn, 1) := by decide +kernel
theorem dX2_gust_0 : decode cX2_gust 0 = .ok (.aload_n 0, 1) := by decide +kernel
theorem dX2_gust_1 : decode cX2_gust 1 = .ok (.getfield 9, 3) := by decide +kernel
theorem dX2_gust_4 : decode cX2_gust 4 = .ok (.aload_n 0, 1) := by decide +kernel
theorem dX2_gust_5 : decode cX2_gust 5 = .ok (.invokevirtual 78, 3) := by decide +kernel
theorem dX2_gust_8 : decode cX2_gust 8 = .ok (.iaload, 1) := by decide +kernel
theorem dX2_gust_9 : decode cX2_gust 9 = .ok (.ireturn, 1) := by decide +kernel
theorem dX2_clerkIsAwake_0 : decode cX2_clerkIsAwake 0 = .ok (.aload_n 0, 1) := by decide +kernel
theorem dX2_clerkIsAwake_1 : decode cX2_clerkIsAwake 1 = .ok (.getfield 50, 3) := by decide +kernel
theorem dX2_clerkIsAwake_4 : decode cX2_clerkIsAwake 4 = .ok (.aload_n 0, 1) := by decide +kernel
theorem dX2_clerkIsAwake_5 : decode cX2_clerkIsAwake 5 = .ok (.getfield 59, 3) := by decide +kernel
theorem dX2_clerkIsAwake_8 : decode cX2_clerkIsAwake 8 = .ok (.iconst 3, 1) := by decide +kernel
theorem dX2_clerkIsAwake_9 : decode cX2_clerkIsAwake 9 = .ok (.iand, 1) := by decide +kernel
theorem dX2_clerkIsAwake_10 : decode cX2_clerkIsAwake 10 = .ok (.ishr, 1) := by decide +kernel
theorem dX2_clerkIsAwake_11 : decode cX2_clerkIsAwake 11 = .ok (.iconst 1, 1) := by decide +kernel
theorem dX2_clerkIsAwake_12 : decode cX2_clerkIsAwake 12 = .ok (.iand, 1) := by decide +kernel
theorem dX2_clerkIsAwake_13 : decode cX2_clerkIsAwake 13 = .ok (.ifCond .eq 7, 3) := by decide +kernel
theorem dX2_clerkIsAwake_16 : decode cX2_clerkIsAwake 16 = .ok (.iconst 1, 1) := by decide +kernel
theorem dX2_clerkIsAwake_17 : decode cX2_clerkIsAwake 17 = .ok (.goto 4, 3) := by decide +kernel
theorem dX2_clerkIsAwake_20 : decode cX2_clerkIsAwake 20 = .ok (.iconst 0, 1) := by decide +kernel
theorem dX2_clerkIsAwake_21 : decode cX2_clerkIsAwake 21 = .ok (.ireturn, 1) := by decide +kernel
theorem dX2_passHour_0 : decode cX2_passHour 0 = .ok (.aload_n 0, 1) := by decide +kernel
theorem dX2_passHour_1 : decode cX2_passHour 1 = .ok (.invokevirtual 82, 3) := by decide +kernel
theorem dX2_passHour_4 : decode cX2_passHour 4 = .ok (.istore_n 1, 1) := by decide +kernel
theorem dX2_passHour_5 : decode cX2_passHour 5 = .ok (.iconst 0, 1) := by decide +kernel
theorem dX2_passHour_6 : decode cX2_passHour 6 = .ok (.istore_n 2, 1) := by decide +kernel
theorem dX2_passHour_7 : decode cX2_passHour 7 = .ok (.iload_n 2, 1) := by decide +kernel
theorem dX2_passHour_8 : decode cX2_passHour 8 = .ok (.aload_n 0, 1) := by decide +kernel
theorem dX2_passHour_9 : decode cX2_passHour 9 = .ok (.getfield 56, 3) := by decide +kernel
theorem dX2_passHour_12 : decode cX2_passHour 12 = .ok (.if_icmp .ge 23, 3) := by decide +kernel
theorem dX2_passHour_15 : decode cX2_passHour 15 = .ok (.aload_n 0, 1) := by decide +kernel
theorem dX2_passHour_16 : decode cX2_passHour 16 = .ok (.iload_n 2, 1) := by decide +kernel
theorem dX2_passHour_17 : decode cX2_passHour 17 = .ok (.invokevirtual 85, 3) := by decide +kernel
theorem dX2_passHour_20 : decode cX2_passHour 20 = .ok (.ifCond .eq 9, 3) := by decide +kernel
theorem dX2_passHour_23 : decode cX2_passHour 23 = .ok (.aload_n 0, 1) := by decide +kernel
theorem dX2_passHour_24 : decode cX2_passHour 24 = .ok (.iload_n 2, 1) := by decide +kernel
theorem dX2_passHour_25 : decode cX2_passHour 25 = .ok (.iload_n 1, 1) := by decide +kernel
theorem dX2_passHour_26 : decode cX2_passHour 26 = .ok (.invokevirtual 89, 3) := by decide +kernel
theorem dX2_passHour_29 : decode cX2_passHour 29 = .ok (.iinc 2 1, 3) := by decide +kernel
theorem dX2_passHour_32 : decode cX2_passHour 32 = .ok (.goto (-25), 3) := by decide +kernel
theorem dX2_passHour_35 : decode cX2_passHour 35 = .ok (.aload_n 0, 1) := by decide +kernel
theorem dX2_passHour_36 : decode cX2_passHour 36 = .ok (.invokevirtual 93, 3) := by decide +kernel
theorem dX2_passHour_39 : decode cX2_passHour 39 = .ok (.ifCond .eq 7, 3) := by decide +kernel
theorem dX2_passHour_42 : decode cX2_passHour 42 = .ok (.aload_n 0, 1) := by decide +kernel
theorem dX2_passHour_43 : decode cX2_passHour 43 = .ok (.invokevirtual 97, 3) := by decide +kernel
theorem dX2_passHour_46 : decode cX2_passHour 46 = .ok (.aload_n 0, 1) := by decide +kernel
theorem dX2_passHour_47 : decode cX2_passHour 47 = .ok (.dup, 1) := by decide +kernel
theorem dX2_passHour_48 : decode cX2_passHour 48 = .ok (.getfield 59, 3) := by decide +kernel
theorem dX2_passHour_51 : decode cX2_passHour 51 = .ok (.iconst 1, 1) := by decide +kernel
theorem dX2_passHour_52 : decode cX2_passHour 52 = .ok (.iadd, 1) := by decide +kernel
theorem dX2_passHour_53 : decode cX2_passHour 53 = .ok (.putfield 59, 3) := by decide +kernel
theorem dX2_passHour_56 : decode cX2_passHour 56 = .ok (.return_, 1) := by decide +kernel
theorem dX2_drift_0 : decode cX2_drift 0 = .ok (.aload_n 0, 1) := by decide +kernel
theorem dX2_drift_1 : decode cX2_drift 1 = .ok (.getfield 18, 3) := by decide +kernel
theorem dX2_drift_4 : decode cX2_drift 4 = .ok (.iload_n 1, 1) := by decide +kernel
theorem dX2_drift_5 : decode cX2_drift 5 = .ok (.iaload, 1) := by decide +kernel
theorem dX2_drift_6 : decode cX2_drift 6 = .ok (.aload_n 0, 1) := by decide +kernel
theorem dX2_drift_7 : decode cX2_drift 7 = .ok (.getfield 15, 3) := by decide +kernel
theorem dX2_drift_10 : decode cX2_drift 10 = .ok (.iload_n 1, 1) := by decide +kernel
theorem dX2_drift_11 : decode cX2_drift 11 = .ok (.iaload, 1) := by decide +kernel
theorem dX2_drift_12 : decode cX2_drift 12 = .ok (.iload_n 2, 1) := by decide +kernel
theorem dX2_drift_13 : decode cX2_drift 13 = .ok (.iconst 2, 1) := by decide +kernel
theorem dX2_drift_14 : decode cX2_drift 14 = .ok (.isub, 1) := by decide +kernel
theorem dX2_drift_15 : decode cX2_drift 15 = .ok (.invokestatic 100, 3) := by decide +kernel
theorem dX2_drift_18 : decode cX2_drift 18 = .ok (.iadd, 1) := by decide +kernel
theorem dX2_drift_19 : decode cX2_drift 19 = .ok (.istore_n 3, 1) := by decide +kernel
theorem dX2_drift_20 : decode cX2_drift 20 = .ok (.aload_n 0, 1) := by decide +kernel
theorem dX2_drift_21 : decode cX2_drift 21 = .ok (.getfield 24, 3) := by decide +kernel
theorem dX2_drift_24 : decode cX2_drift 24 = .ok (.iload_n 1, 1) := by decide +kernel
theorem dX2_drift_25 : decode cX2_drift 25 = .ok (.iaload, 1) := by decide +kernel
theorem dX2_drift_26 : decode cX2_drift 26 = .ok (.aload_n 0, 1) := by decide +kernel
theorem dX2_drift_27 : decode cX2_drift 27 = .ok (.aload_n 0, 1) := by decide +kernel
theorem dX2_drift_28 : decode cX2_drift 28 = .ok (.getfield 15, 3) := by decide +kernel
theorem dX2_drift_31 : decode cX2_drift 31 = .ok (.iload_n 1, 1) := by decide +kernel
theorem dX2_drift_32 : decode cX2_drift 32 = .ok (.iaload, 1) := by decide +kernel
theorem dX2_drift_33 : decode cX2_drift 33 = .ok (.iload_n 2, 1) := by decide +kernel
theorem dX2_drift_34 : decode cX2_drift 34 = .ok (.iconst 2, 1) := by decide +kernel
theorem dX2_drift_35 : decode cX2_drift 35 = .ok (.if_icmp .ne 7, 3) := by decide +kernel
theorem dX2_drift_38 : decode cX2_drift 38 = .ok (.iconst 1, 1) := by decide +kernel
theorem dX2_drift_39 : decode cX2_drift 39 = .ok (.goto 4, 3) := by decide +kernel
theorem dX2_drift_42 : decode cX2_drift 42 = .ok (.iconst 0, 1) := by decide +kernel
theorem dX2_drift_43 : decode cX2_drift 43 = .ok (.invokevirtual 104, 3) := by decide +kernel
theorem dX2_drift_46 : decode cX2_drift 46 = .ok (.iadd, 1) := by decide +kernel
theorem dX2_drift_47 : decode cX2_drift 47 = .ok (.istore 4, 2) := by decide +kernel
theorem dX2_drift_49 : decode cX2_drift 49 = .ok (.iload 4, 2) := by decide +kernel
theorem dX2_drift_51 : decode cX2_drift 51 = .ok (.ifCond .le 22, 3) := by decide +kernel
theorem dX2_drift_54 : decode cX2_drift 54 = .ok (.iload_n 3, 1) := by decide +kernel
theorem dX2_drift_55 : decode cX2_drift 55 = .ok (.aload_n 0, 1) := by decide +kernel
theorem dX2_drift_56 : decode cX2_drift 56 = .ok (.getfield 40, 3) := by decide +kernel
theorem dX2_drift_59 : decode cX2_drift 59 = .ok (.if_icmp .ge 14, 3) := by decide +kernel
theorem dX2_drift_62 : decode cX2_drift 62 = .ok (.iload_n 3, 1) := by decide +kernel
theorem dX2_drift_63 : decode cX2_drift 63 = .ok (.aload_n 0, 1) := by decide +kernel
theorem dX2_drift_64 : decode cX2_drift 64 = .ok (.getfield 21, 3) := by decide +kernel
theorem dX2_drift_67 : decode cX2_drift 67 = .ok (.iload_n 1, 1) := by decide +kernel
theorem dX2_drift_68 : decode cX2_drift 68 = .ok (.iaload, 1) := by decide +kernel
theorem dX2_drift_69 : decode cX2_drift 69 = .ok (.iadd, 1) := by decide +kernel
theorem dX2_drift_70 : decode cX2_drift 70 = .ok (.ifCond .gt 18, 3) := by decide +kernel
theorem dX2_drift_73 : decode cX2_drift 73 = .ok (.aload_n 0, 1) := by decide +kernel
theorem dX2_drift_74 : decode cX2_drift 74 = .ok (.dup, 1) := by decide +kernel
theorem dX2_drift_75 : decode cX2_drift 75 = .ok (.getfield 62, 3) := by decide +kernel
theorem dX2_drift_78 : decode cX2_drift 78 = .ok (.iconst 1, 1) := by decide +kernel
theorem dX2_drift_79 : decode cX2_drift 79 = .ok (.iload_n 1, 1) := by decide +kernel
theorem dX2_drift_80 : decode cX2_drift 80 = .ok (.ishl, 1) := by decide +kernel
theorem dX2_drift_81 : decode cX2_drift 81 = .ok (.iconst (-1), 1) := by decide +kernel
theorem dX2_drift_82 : decode cX2_drift 82 = .ok (.ixor, 1) := by decide +kernel
theorem dX2_drift_83 : decode cX2_drift 83 = .ok (.iand, 1) := by decide +kernel
theorem dX2_drift_84 : decode cX2_drift 84 = .ok (.putfield 62, 3) := by decide +kernel
theorem dX2_drift_87 : decode cX2_drift 87 = .ok (.return_, 1) := by decide +kernel
theorem dX2_drift_88 : decode cX2_drift 88 = .ok (.aload_n 0, 1) := by decide +kernel
theorem dX2_drift_89 : decode cX2_drift 89 = .ok (.getfield 18, 3) := by decide +kernel
theorem dX2_drift_92 : decode cX2_drift 92 = .ok (.iload_n 1, 1) := by decide +kernel
theorem dX2_drift_93 : decode cX2_drift 93 = .ok (.iload_n 3, 1) := by decide +kernel
theorem dX2_drift_94 : decode cX2_drift 94 = .ok (.iastore, 1) := by decide +kernel
theorem dX2_drift_95 : decode cX2_drift 95 = .ok (.aload_n 0, 1) := by decide +kernel
theorem dX2_drift_96 : decode cX2_drift 96 = .ok (.getfield 24, 3) := by decide +kernel
theorem dX2_drift_99 : decode cX2_drift 99 = .ok (.iload_n 1, 1) := by decide +kernel
theorem dX2_drift_100 : decode cX2_drift 100 = .ok (.iload 4, 2) := by decide +kernel
theorem dX2_drift_102 : decode cX2_drift 102 = .ok (.bipush 9, 2) := by decide +kernel
theorem dX2_drift_104 : decode cX2_drift 104 = .ok (.invokestatic 108, 3) := by decide +kernel
theorem dX2_drift_107 : decode cX2_drift 107 = .ok (.iastore, 1) := by decide +kernel
theorem dX2_drift_108 : decode cX2_drift 108 = .ok (.return_, 1) := by decide +kernel
theorem dX2_cellsDrifted_0 : decode cX2_cellsDrifted 0 = .ok (.iload_n 0, 1) := by decide +kernel
theorem dX2_cellsDrifted_1 : decode cX2_cellsDrifted 1 = .ok (.tableswitch 43 2 5 #[31, 35, 39, 41], 31) := by decide +kernel
theorem dX2_cellsDrifted_32 : decode cX2_cellsDrifted 32 = .ok (.iload_n 1, 1) := by decide +kernel
theorem dX2_cellsDrifted_33 : decode cX2_cellsDrifted 33 = .ok (.iconst 2, 1) := by decide +kernel
theorem dX2_cellsDrifted_34 : decode cX2_cellsDrifted 34 = .ok (.idiv, 1) := by decide +kernel
theorem dX2_cellsDrifted_35 : decode cX2_cellsDrifted 35 = .ok (.ireturn, 1) := by decide +kernel
theorem dX2_cellsDrifted_36 : decode cX2_cellsDrifted 36 = .ok (.iload_n 1, 1) := by decide +kernel
theorem dX2_cellsDrifted_37 : decode cX2_cellsDrifted 37 = .ok (.iconst 2, 1) := by decide +kernel
theorem dX2_cellsDrifted_38 : decode cX2_cellsDrifted 38 = .ok (.imul, 1) := by decide +kernel
theorem dX2_cellsDrifted_39 : decode cX2_cellsDrifted 39 = .ok (.ireturn, 1) := by decide +kernel
theorem dX2_cellsDrifted_40 : decode cX2_cellsDrifted 40 = .ok (.iconst (-1), 1) := by decide +kernel
theorem dX2_cellsDrifted_41 : decode cX2_cellsDrifted 41 = .ok (.ireturn, 1) := by decide +kernel
theorem dX2_cellsDrifted_42 : decode cX2_cellsDrifted 42 = .ok (.iconst 0, 1) := by decide +kernel
theorem dX2_cellsDrifted_43 : decode cX2_cellsDrifted 43 = .ok (.ireturn, 1) := by decide +kernel
theorem dX2_cellsDrifted_44 : decode cX2_cellsDrifted 44 = .ok (.iload_n 1, 1) := by decide +kernel
theorem dX2_cellsDrifted_45 : decode cX2_cellsDrifted 45 = .ok (.ireturn, 1) := by decide +kernel
theorem dX2_thickened_0 : decode cX2_thickened 0 = .ok (.aload_n 0, 1) := by decide +kernel
theorem dX2_thickened_1 : decode cX2_thickened 1 = .ok (.getfield 59, 3) := by decide +kernel
theorem dX2_thickened_4 : decode cX2_thickened 4 = .ok (.iconst 2, 1) := by decide +kernel
theorem dX2_thickened_5 : decode cX2_thickened 5 = .ok (.irem, 1) := by decide +kernel
theorem dX2_thickened_6 : decode cX2_thickened 6 = .ok (.ifCond .ne 7, 3) := by decide +kernel
theorem dX2_thickened_9 : decode cX2_thickened 9 = .ok (.iconst 0, 1) := by decide +kernel
theorem dX2_thickened_10 : decode cX2_thickened 10 = .ok (.goto 4, 3) := by decide +kernel
theorem dX2_thickened_13 : decode cX2_thickened 13 = .ok (.iconst (-1), 1) := by decide +kernel
theorem dX2_thickened_14 : decode cX2_thickened 14 = .ok (.istore_n 3, 1) := by decide +kernel
theorem dX2_thickened_15 : decode cX2_thickened 15 = .ok (.iload_n 1, 1) := by decide +kernel
theorem dX2_thickened_16 : decode cX2_thickened 16 = .ok (.tableswitch 52 3 5 #[28, 32, 42], 28) := by decide +kernel
theorem dX2_thickened_44 : decode cX2_thickened 44 = .ok (.iload_n 3, 1) := by decide +kernel
theorem dX2_thickened_45 : decode cX2_thickened 45 = .ok (.iconst 1, 1) := by decide +kernel
theorem dX2_thickened_46 : decode cX2_thickened 46 = .ok (.isub, 1) := by decide +kernel
theorem dX2_thickened_47 : decode cX2_thickened 47 = .ok (.ireturn, 1) := by decide +kernel
theorem dX2_thickened_48 : decode cX2_thickened 48 = .ok (.iload_n 2, 1) := by decide +kernel
theorem dX2_thickened_49 : decode cX2_thickened 49 = .ok (.ifCond .eq 7, 3) := by decide +kernel
theorem dX2_thickened_52 : decode cX2_thickened 52 = .ok (.iconst 0, 1) := by decide +kernel
theorem dX2_thickened_53 : decode cX2_thickened 53 = .ok (.goto 4, 3) := by decide +kernel
theorem dX2_thickened_56 : decode cX2_thickened 56 = .ok (.iconst (-1), 1) := by decide +kernel
theorem dX2_thickened_57 : decode cX2_thickened 57 = .ok (.ireturn, 1) := by decide +kernel
theorem dX2_thickened_58 : decode cX2_thickened 58 = .ok (.iload_n 2, 1) := by decide +kernel
theorem dX2_thickened_59 : decode cX2_thickened 59 = .ok (.ifCond .eq 7, 3) := by decide +kernel
theorem dX2_thickened_62 : decode cX2_thickened 62 = .ok (.iconst 1, 1) := by decide +kernel
theorem dX2_thickened_63 : decode cX2_thickened 63 = .ok (.goto 4, 3) := by decide +kernel
theorem dX2_thickened_66 : decode cX2_thickened 66 = .ok (.iconst (-1), 1) := by decide +kernel
theorem dX2_thickened_67 : decode cX2_thickened 67 = .ok (.ireturn, 1) := by decide +kernel
theorem dX2_thickened_68 : decode cX2_thickened 68 = .ok (.iload_n 3, 1) := by decide +kernel
theorem dX2_thickened_69 : decode cX2_thickened 69 = .ok (.ireturn, 1) := by decide +kernel
theorem dX2_giveNumbers_0 : decode cX2_giveNumbers 0 = .ok (.iconst 0, 1) := by decide +kernel
theorem dX2_giveNumbers_1 : decode cX2_giveNumbers 1 = .ok (.istore_n 1, 1) := by decide +kernel
theorem dX2_giveNumbers_2 : decode cX2_giveNumbers 2 = .ok (.iload_n 1, 1) := by decide +kernel
theorem dX2_giveNumbers_3 : decode cX2_giveNumbers 3 = .ok (.aload_n 0, 1) := by decide +kernel
theorem dX2_giveNumbers_4 : decode cX2_giveNumbers 4 = .ok (.getfield 56, 3) := by decide +kernel
theorem dX2_giveNumbers_7 : decode cX2_giveNumbers 7 = .ok (.if_icmp .ge 50, 3) := by decide +kernel
theorem dX2_giveNumbers_10 : decode cX2_giveNumbers 10 = .ok (.aload_n 0, 1) := by decide +kernel
theorem dX2_giveNumbers_11 : decode cX2_giveNumbers 11 = .ok (.getfield 27, 3) := by decide +kernel
theorem dX2_giveNumbers_14 : decode cX2_giveNumbers 14 = .ok (.iload_n 1, 1) := by decide +kernel
theorem dX2_giveNumbers_15 : decode cX2_giveNumbers 15 = .ok (.iaload, 1) := by decide +kernel
theorem dX2_giveNumbers_16 : decode cX2_giveNumbers 16 = .ok (.ifCond .ne 35, 3) := by decide +kernel
theorem dX2_giveNumbers_19 : decode cX2_giveNumbers 19 = .ok (.aload_n 0, 1) := by decide +kernel
theorem dX2_giveNumbers_20 : decode cX2_giveNumbers 20 = .ok (.iload_n 1, 1) := by decide +kernel
theorem dX2_giveNumbers_21 : decode cX2_giveNumbers 21 = .ok (.aload_n 0, 1) := by decide +kernel
theorem dX2_giveNumbers_22 : decode cX2_giveNumbers 22 = .ok (.getfield 44, 3) := by decide +kernel
theorem dX2_giveNumbers_25 : decode cX2_giveNumbers 25 = .ok (.invokevirtual 113, 3) := by decide +kernel
theorem dX2_giveNumbers_28 : decode cX2_giveNumbers 28 = .ok (.ifCond .eq 23, 3) := by decide +kernel
theorem dX2_giveNumbers_31 : decode cX2_giveNumbers 31 = .ok (.aload_n 0, 1) := by decide +kernel
theorem dX2_giveNumbers_32 : decode cX2_giveNumbers 32 = .ok (.dup, 1) := by decide +kernel
theorem dX2_giveNumbers_33 : decode cX2_giveNumbers 33 = .ok (.getfield 65, 3) := by decide +kernel
theorem dX2_giveNumbers_36 : decode cX2_giveNumbers 36 = .ok (.iconst 1, 1) := by decide +kernel
theorem dX2_giveNumbers_37 : decode cX2_giveNumbers 37 = .ok (.iadd, 1) := by decide +kernel
theorem dX2_giveNumbers_38 : decode cX2_giveNumbers 38 = .ok (.putfield 65, 3) := by decide +kernel
theorem dX2_giveNumbers_41 : decode cX2_giveNumbers 41 = .ok (.aload_n 0, 1) := by decide +kernel
theorem dX2_giveNumbers_42 : decode cX2_giveNumbers 42 = .ok (.getfield 27, 3) := by decide +kernel
theorem dX2_giveNumbers_45 : decode cX2_giveNumbers 45 = .ok (.iload_n 1, 1) := by decide +kernel
theorem dX2_giveNumbers_46 : decode cX2_giveNumbers 46 = .ok (.aload_n 0, 1) := by decide +kernel
theorem dX2_giveNumbers_47 : decode cX2_giveNumbers 47 = .ok (.getfield 65, 3) := by decide +kernel
theorem dX2_giveNumbers_50 : decode cX2_giveNumbers 50 = .ok (.iastore, 1) := by decide +kernel
theorem dX2_giveNumbers_51 : decode cX2_giveNumbers 51 = .ok (.iinc 1 1, 3) := by decide +kernel
theorem dX2_giveNumbers_54 : decode cX2_giveNumbers 54 = .ok (.goto (-52), 3) := by decide +kernel
theorem dX2_giveNumbers_57 : decode cX2_giveNumbers 57 = .ok (.return_, 1) := by decide +kernel
theorem dX2_liesOn_0 : decode cX2_liesOn 0 = .ok (.aload_n 0, 1) := by decide +kernel
theorem dX2_liesOn_1 : decode cX2_liesOn 1 = .ok (.iload_n 1, 1) := by decide +kernel
theorem dX2_liesOn_2 : decode cX2_liesOn 2 = .ok (.invokevirtual 85, 3) := by decide +kernel
theorem dX2_liesOn_5 : decode cX2_liesOn 5 = .ok (.ifCond .eq 34, 3) := by decide +kernel
theorem dX2_liesOn_8 : decode cX2_liesOn 8 = .ok (.aload_n 0, 1) := by decide +kernel
theorem dX2_liesOn_9 : decode cX2_liesOn 9 = .ok (.getfield 18, 3) := by decide +kernel
theorem dX2_liesOn_12 : decode cX2_liesOn 12 = .ok (.iload_n 1, 1) := by decide +kernel
theorem dX2_liesOn_13 : decode cX2_liesOn 13 = .ok (.iaload, 1) := by decide +kernel
theorem dX2_liesOn_14 : decode cX2_liesOn 14 = .ok (.iload_n 2, 1) := by decide +kernel
theorem dX2_liesOn_15 : decode cX2_liesOn 15 = .ok (.if_icmp .gt 24, 3) := by decide +kernel
theorem dX2_liesOn_18 : decode cX2_liesOn 18 = .ok (.iload_n 2, 1) := by decide +kernel
theorem dX2_liesOn_19 : decode cX2_liesOn 19 = .ok (.aload_n 0, 1) := by decide +kernel
theorem dX2_liesOn_20 : decode cX2_liesOn 20 = .ok (.getfield 18, 3) := by decide +kernel
theorem dX2_liesOn_23 : decode cX2_liesOn 23 = .ok (.iload_n 1, 1) := by decide +kernel
theorem dX2_liesOn_24 : decode cX2_liesOn 24 = .ok (.iaload, 1) := by decide +kernel
theorem dX2_liesOn_25 : decode cX2_liesOn 25 = .ok (.aload_n 0, 1) := by decide +kernel
theorem dX2_liesOn_26 : decode cX2_liesOn 26 = .ok (.getfield 21, 3) := by decide +kernel
theorem dX2_liesOn_29 : decode cX2_liesOn 29 = .ok (.iload_n 1, 1) := by decide +kernel
theorem dX2_liesOn_30 : decode cX2_liesOn 30 = .ok (.iaload, 1) := by decide +kernel
theorem dX2_liesOn_31 : decode cX2_liesOn 31 = .ok (.iadd, 1) := by decide +kernel
theorem dX2_liesOn_32 : decode cX2_liesOn 32 = .ok (.if_icmp .ge 7, 3) := by decide +kernel
theorem dX2_liesOn_35 : decode cX2_liesOn 35 = .ok (.iconst 1, 1) := by decide +kernel
theorem dX2_liesOn_36 : decode cX2_liesOn 36 = .ok (.goto 4, 3) := by decide +kernel
theorem dX2_liesOn_39 : decode cX2_liesOn 39 = .ok (.iconst 0, 1) := by decide +kernel
theorem dX2_liesOn_40 : decode cX2_liesOn 40 = .ok (.ireturn, 1) := by decide +kernel
theorem dX2_placeOf_0 : decode cX2_placeOf 0 = .ok (.aload_n 0, 1) := by decide +kernel
theorem dX2_placeOf_1 : decode cX2_placeOf 1 = .ok (.iload_n 1, 1) := by decide +kernel
theorem dX2_placeOf_2 : decode cX2_placeOf 2 = .ok (.invokevirtual 85, 3) := by decide +kernel
theorem dX2_placeOf_5 : decode cX2_placeOf 5 = .ok (.ifCond .eq 12, 3) := by decide +kernel
theorem dX2_placeOf_8 : decode cX2_placeOf 8 = .ok (.aload_n 0, 1) := by decide +kernel
theorem dX2_placeOf_9 : decode cX2_placeOf 9 = .ok (.getfield 18, 3) := by decide +kernel
theorem dX2_placeOf_12 : decode cX2_placeOf 12 = .ok (.iload_n 1, 1) := by decide +kernel
theorem dX2_placeOf_13 : decode cX2_placeOf 13 = .ok (.iaload, 1) := by decide +kernel
theorem dX2_placeOf_14 : decode cX2_placeOf 14 = .ok (.goto 5, 3) := by decide +kernel
theorem dX2_placeOf_17 : decode cX2_placeOf 17 = .ok (.ldc 117, 2) := by decide +kernel
theorem dX2_placeOf_19 : decode cX2_placeOf 19 = .ok (.ireturn, 1) := by decide +kernel
theorem dX2_thicknessOf_0 : decode cX2_thicknessOf 0 = .ok (.aload_n 0, 1) := by decide +kernel
theorem dX2_thicknessOf_1 : decode cX2_thicknessOf 1 = .ok (.iload_n 1, 1) := by decide +kernel
theorem dX2_thicknessOf_2 : decode cX2_thicknessOf 2 = .ok (.invokevirtual 85, 3) := by decide +kernel
theorem dX2_thicknessOf_5 : decode cX2_thicknessOf 5 = .ok (.ifCond .eq 12, 3) := by decide +kernel
theorem dX2_thicknessOf_8 : decode cX2_thicknessOf 8 = .ok (.aload_n 0, 1) := by decide +kernel
theorem dX2_thicknessOf_9 : decode cX2_thicknessOf 9 = .ok (.getfield 24, 3) := by decide +kernel
theorem dX2_thicknessOf_12 : decode cX2_thicknessOf 12 = .ok (.iload_n 1, 1) := by decide +kernel
theorem dX2_thicknessOf_13 : decode cX2_thicknessOf 13 = .ok (.iaload, 1) := by decide +kernel
theorem dX2_thicknessOf_14 : decode cX2_thicknessOf 14 = .ok (.goto 4, 3) := by decide +kernel
theorem dX2_thicknessOf_17 : decode cX2_thicknessOf 17 = .ok (.iconst 0, 1) := by decide +kernel
theorem dX2_thicknessOf_18 : decode cX2_thicknessOf 18 = .ok (.ireturn, 1) := by decide +kernel
theorem dX2_cellsUnder_0 : decode cX2_cellsUnder 0 = .ok (.iconst 0, 1) := by decide +kernel
theorem dX2_cellsUnder_1 : decode cX2_cellsUnder 1 = .ok (.istore_n 2, 1) := by decide +kernel
theorem dX2_cellsUnder_2 : decode cX2_cellsUnder 2 = .ok (.iconst 0, 1) := by decide +kernel
theorem dX2_cellsUnder_3 : decode cX2_cellsUnder 3 = .ok (.istore_n 3, 1) := by decide +kernel
theorem dX2_cellsUnder_4 : decode cX2_cellsUnder 4 = .ok (.iload_n 3, 1) := by decide +kernel
theorem dX2_cellsUnder_5 : decode cX2_cellsUnder 5 = .ok (.aload_n 0, 1) := by decide +kernel
theorem dX2_cellsUnder_6 : decode cX2_cellsUnder 6 = .ok (.getfield 40, 3) := by decide +kernel
theorem dX2_cellsUnder_9 : decode cX2_cellsUnder 9 = .ok (.if_icmp .ge 28, 3) := by decide +kernel
theorem dX2_cellsUnder_12 : decode cX2_cellsUnder 12 = .ok (.iload_n 2, 1) := by decide +kernel
theorem dX2_cellsUnder_13 : decode cX2_cellsUnder 13 = .ok (.aload_n 0, 1) := by decide +kernel
theorem dX2_cellsUnder_14 : decode cX2_cellsUnder 14 = .ok (.iload_n 1, 1) := by decide +kernel
theorem dX2_cellsUnder_15 : decode cX2_cellsUnder 15 = .ok (.iload_n 3, 1) := by decide +kernel
theorem dX2_cellsUnder_16 : decode cX2_cellsUnder 16 = .ok (.invokevirtual 113, 3) := by decide +kernel
theorem dX2_cellsUnder_19 : decode cX2_cellsUnder 19 = .ok (.ifCond .eq 9, 3) := by decide +kernel
theorem dX2_cellsUnder_22 : decode cX2_cellsUnder 22 = .ok (.iconst 1, 1) := by decide +kernel
theorem dX2_cellsUnder_23 : decode cX2_cellsUnder 23 = .ok (.iload_n 3, 1) := by decide +kernel
theorem dX2_cellsUnder_24 : decode cX2_cellsUnder 24 = .ok (.ishl, 1) := by decide +kernel
theorem dX2_cellsUnder_25 : decode cX2_cellsUnder 25 = .ok (.goto 4, 3) := by decide +kernel
theorem dX2_cellsUnder_28 : decode cX2_cellsUnder 28 = .ok (.iconst 0, 1) := by decide +kernel
theorem dX2_cellsUnder_29 : decode cX2_cellsUnder 29 = .ok (.ior, 1) := by decide +kernel
theorem dX2_cellsUnder_30 : decode cX2_cellsUnder 30 = .ok (.istore_n 2, 1) := by decide +kernel
theorem dX2_cellsUnder_31 : decode cX2_cellsUnder 31 = .ok (.iinc 3 1, 3) := by decide +kernel
theorem dX2_cellsUnder_34 : decode cX2_cellsUnder 34 = .ok (.goto (-30), 3) := by decide +kernel
theorem dX2_cellsUnder_37 : decode cX2_cellsUnder 37 = .ok (.iload_n 2, 1) := by decide +kernel
theorem dX2_cellsUnder_38 : decode cX2_cellsUnder 38 = .ok (.ireturn, 1) := by decide +kernel
theorem dX2_sheetsOn_0 : decode cX2_sheetsOn 0 = .ok (.iconst 0, 1) := by decide +kernel
theorem dX2_sheetsOn_1 : decode cX2_sheetsOn 1 = .ok (.istore_n 2, 1) := by decide +kernel
theorem dX2_sheetsOn_2 : decode cX2_sheetsOn 2 = .ok (.iconst 0, 1) := by decide +kernel
theorem dX2_sheetsOn_3 : decode cX2_sheetsOn 3 = .ok (.istore_n 3, 1) := by decide +kernel
theorem dX2_sheetsOn_4 : decode cX2_sheetsOn 4 = .ok (.iload_n 3, 1) := by decide +kernel
theorem dX2_sheetsOn_5 : decode cX2_sheetsOn 5 = .ok (.aload_n 0, 1) := by decide +kernel
theorem dX2_sheetsOn_6 : decode cX2_sheetsOn 6 = .ok (.getfield 56, 3) := by decide +kernel
theorem dX2_sheetsOn_9 : decode cX2_sheetsOn 9 = .ok (.if_icmp .ge 28, 3) := by decide +kernel
theorem dX2_sheetsOn_12 : decode cX2_sheetsOn 12 = .ok (.iload_n 2, 1) := by decide +kernel
theorem dX2_sheetsOn_13 : decode cX2_sheetsOn 13 = .ok (.aload_n 0, 1) := by decide +kernel
theorem dX2_sheetsOn_14 : decode cX2_sheetsOn 14 = .ok (.iload_n 3, 1) := by decide +kernel
theorem dX2_sheetsOn_15 : decode cX2_sheetsOn 15 = .ok (.iload_n 1, 1) := by decide +kernel
theorem dX2_sheetsOn_16 : decode cX2_sheetsOn 16 = .ok (.invokevirtual 113, 3) := by decide +kernel
theorem dX2_sheetsOn_19 : decode cX2_sheetsOn 19 = .ok (.ifCond .eq 9, 3) := by decide +kernel
theorem dX2_sheetsOn_22 : decode cX2_sheetsOn 22 = .ok (.iconst 1, 1) := by decide +kernel
theorem dX2_sheetsOn_23 : decode cX2_sheetsOn 23 = .ok (.iload_n 3, 1) := by decide +kernel
theorem dX2_sheetsOn_24 : decode cX2_sheetsOn 24 = .ok (.ishl, 1) := by decide +kernel
theorem dX2_sheetsOn_25 : decode cX2_sheetsOn 25 = .ok (.goto 4, 3) := by decide +kernel
theorem dX2_sheetsOn_28 : decode cX2_sheetsOn 28 = .ok (.iconst 0, 1) := by decide +kernel
theorem dX2_sheetsOn_29 : decode cX2_sheetsOn 29 = .ok (.ior, 1) := by decide +kernel
theorem dX2_sheetsOn_30 : decode cX2_sheetsOn 30 = .ok (.istore_n 2, 1) := by decide +kernel
theorem dX2_sheetsOn_31 : decode cX2_sheetsOn 31 = .ok (.iinc 3 1, 3) := by decide +kernel
theorem dX2_sheetsOn_34 : decode cX2_sheetsOn 34 = .ok (.goto (-30), 3) := by decide +kernel
theorem dX2_sheetsOn_37 : decode cX2_sheetsOn 37 = .ok (.iload_n 2, 1) := by decide +kernel
theorem dX2_sheetsOn_38 : decode cX2_sheetsOn 38 = .ok (.ireturn, 1) := by decide +kernel
theorem dX2_thicknessOver_0 : decode cX2_thicknessOver 0 = .ok (.iconst 0, 1) := by decide +kernel
theorem dX2_thicknessOver_1 : decode cX2_thicknessOver 1 = .ok (.istore_n 2, 1) := by decide +kernel
theorem dX2_thicknessOver_2 : decode cX2_thicknessOver 2 = .ok (.iconst 0, 1) := by decide +kernel
theorem dX2_thicknessOver_3 : decode cX2_thicknessOver 3 = .ok (.istore_n 3, 1) := by decide +kernel
theorem dX2_thicknessOver_4 : decode cX2_thicknessOver 4 = .ok (.iload_n 3, 1) := by decide +kernel
theorem dX2_thicknessOver_5 : decode cX2_thicknessOver 5 = .ok (.aload_n 0, 1) := by decide +kernel
theorem dX2_thicknessOver_6 : decode cX2_thicknessOver 6 = .ok (.getfield 56, 3) := by decide +kernel
theorem dX2_thicknessOver_9 : decode cX2_thicknessOver 9 = .ok (.if_icmp .ge 31, 3) := by decide +kernel
theorem dX2_thicknessOver_12 : decode cX2_thicknessOver 12 = .ok (.iload_n 2, 1) := by decide +kernel
theorem dX2_thicknessOver_13 : decode cX2_thicknessOver 13 = .ok (.aload_n 0, 1) := by decide +kernel
theorem dX2_thicknessOver_14 : decode cX2_thicknessOver 14 = .ok (.iload_n 3, 1) := by decide +kernel
theorem dX2_thicknessOver_15 : decode cX2_thicknessOver 15 = .ok (.iload_n 1, 1) := by decide +kernel
theorem dX2_thicknessOver_16 : decode cX2_thicknessOver 16 = .ok (.invokevirtual 113, 3) := by decide +kernel
theorem dX2_thicknessOver_19 : decode cX2_thicknessOver 19 = .ok (.ifCond .eq 12, 3) := by decide +kernel
theorem dX2_thicknessOver_22 : decode cX2_thicknessOver 22 = .ok (.aload_n 0, 1) := by decide +kernel
theorem dX2_thicknessOver_23 : decode cX2_thicknessOver 23 = .ok (.getfield 24, 3) := by decide +kernel
theorem dX2_thicknessOver_26 : decode cX2_thicknessOver 26 = .ok (.iload_n 3, 1) := by decide +kernel
theorem dX2_thicknessOver_27 : decode cX2_thicknessOver 27 = .ok (.iaload, 1) := by decide +kernel
theorem dX2_thicknessOver_28 : decode cX2_thicknessOver 28 = .ok (.goto 4, 3) := by decide +kernel
theorem dX2_thicknessOver_31 : decode cX2_thicknessOver 31 = .ok (.iconst 0, 1) := by decide +kernel
theorem dX2_thicknessOver_32 : decode cX2_thicknessOver 32 = .ok (.iadd, 1) := by decide +kernel
theorem dX2_thicknessOver_33 : decode cX2_thicknessOver 33 = .ok (.istore_n 2, 1) := by decide +kernel
theorem dX2_thicknessOver_34 : decode cX2_thicknessOver 34 = .ok (.iinc 3 1, 3) := by decide +kernel
theorem dX2_thicknessOver_37 : decode cX2_thicknessOver 37 = .ok (.goto (-33), 3) := by decide +kernel
theorem dX2_thicknessOver_40 : decode cX2_thicknessOver 40 = .ok (.iload_n 2, 1) := by decide +kernel
theorem dX2_thicknessOver_41 : decode cX2_thicknessOver 41 = .ok (.ireturn, 1) := by decide +kernel
theorem dX2_withNumber_0 : decode cX2_withNumber 0 = .ok (.iconst 0, 1) := by decide +kernel
theorem dX2_withNumber_1 : decode cX2_withNumber 1 = .ok (.istore_n 1, 1) := by decide +kernel
theorem dX2_withNumber_2 : decode cX2_withNumber 2 = .ok (.iconst 0, 1) := by decide +kernel
theorem dX2_withNumber_3 : decode cX2_withNumber 3 = .ok (.istore_n 2, 1) := by decide +kernel
theorem dX2_withNumber_4 : decode cX2_withNumber 4 = .ok (.iload_n 2, 1) := by decide +kernel
theorem dX2_withNumber_5 : decode cX2_withNumber 5 = .ok (.aload_n 0, 1) := by decide +kernel
theorem dX2_withNumber_6 : decode cX2_withNumber 6 = .ok (.getfield 56, 3) := by decide +kernel
theorem dX2_withNumber_9 : decode cX2_withNumber 9 = .ok (.if_icmp .ge 28, 3) := by decide +kernel
theorem dX2_withNumber_12 : decode cX2_withNumber 12 = .ok (.iload_n 1, 1) := by decide +kernel
theorem dX2_withNumber_13 : decode cX2_withNumber 13 = .ok (.aload_n 0, 1) := by decide +kernel
theorem dX2_withNumber_14 : decode cX2_withNumber 14 = .ok (.getfield 27, 3) := by decide +kernel
theorem dX2_withNumber_17 : decode cX2_withNumber 17 = .ok (.iload_n 2, 1) := by decide +kernel
theorem dX2_withNumber_18 : decode cX2_withNumber 18 = .ok (.iaload, 1) := by decide +kernel
theorem dX2_withNumber_19 : decode cX2_withNumber 19 = .ok (.ifCond .eq 9, 3) := by decide +kernel
theorem dX2_withNumber_22 : decode cX2_withNumber 22 = .ok (.iconst 1, 1) := by decide +kernel
theorem dX2_withNumber_23 : decode cX2_withNumber 23 = .ok (.iload_n 2, 1) := by decide +kernel
theorem dX2_withNumber_24 : decode cX2_withNumber 24 = .ok (.ishl, 1) := by decide +kernel
theorem dX2_withNumber_25 : decode cX2_withNumber 25 = .ok (.goto 4, 3) := by decide +kernel
theorem dX2_withNumber_28 : decode cX2_withNumber 28 = .ok (.iconst 0, 1) := by decide +kernel
theorem dX2_withNumber_29 : decode cX2_withNumber 29 = .ok (.ior, 1) := by decide +kernel
theorem dX2_withNumber_30 : decode cX2_withNumber 30 = .ok (.istore_n 1, 1) := by decide +kernel
theorem dX2_withNumber_31 : decode cX2_withNumber 31 = .ok (.iinc 2 1, 3) := by decide +kernel
theorem dX2_withNumber_34 : decode cX2_withNumber 34 = .ok (.goto (-30), 3) := by decide +kernel
theorem dX2_withNumber_37 : decode cX2_withNumber 37 = .ok (.iload_n 1, 1) := by decide +kernel
theorem dX2_withNumber_38 : decode cX2_withNumber 38 = .ok (.ireturn, 1) := by decide +kernel
theorem dX2_overlappingPair_0 : decode cX2_overlappingPair 0 = .ok (.iconst 0, 1) := by decide +kernel
theorem dX2_overlappingPair_1 : decode cX2_overlappingPair 1 = .ok (.istore_n 1, 1) := by decide +kernel
theorem dX2_overlappingPair_2 : decode cX2_overlappingPair 2 = .ok (.iload_n 1, 1) := by decide +kernel
theorem dX2_overlappingPair_3 : decode cX2_overlappingPair 3 = .ok (.aload_n 0, 1) := by decide +kernel
theorem dX2_overlappingPair_4 : decode cX2_overlappingPair 4 = .ok (.getfield 56, 3) := by decide +kernel
theorem dX2_overlappingPair_7 : decode cX2_overlappingPair 7 = .ok (.if_icmp .ge 50, 3) := by decide +kernel
theorem dX2_overlappingPair_10 : decode cX2_overlappingPair 10 = .ok (.aload_n 0, 1) := by decide +kernel
theorem dX2_overlappingPair_11 : decode cX2_overlappingPair 11 = .ok (.iload_n 1, 1) := by decide +kernel
theorem dX2_overlappingPair_12 : decode cX2_overlappingPair 12 = .ok (.invokevirtual 118, 3) := by decide +kernel
theorem dX2_overlappingPair_15 : decode cX2_overlappingPair 15 = .ok (.istore_n 2, 1) := by decide +kernel
theorem dX2_overlappingPair_16 : decode cX2_overlappingPair 16 = .ok (.iload_n 1, 1) := by decide +kernel
theorem dX2_overlappingPair_17 : decode cX2_overlappingPair 17 = .ok (.iconst 1, 1) := by decide +kernel
theorem dX2_overlappingPair_18 : decode cX2_overlappingPair 18 = .ok (.iadd, 1) := by decide +kernel
theorem dX2_overlappingPair_19 : decode cX2_overlappingPair 19 = .ok (.istore_n 3, 1) := by decide +kernel
theorem dX2_overlappingPair_20 : decode cX2_overlappingPair 20 = .ok (.iload_n 3, 1) := by decide +kernel
theorem dX2_overlappingPair_21 : decode cX2_overlappingPair 21 = .ok (.aload_n 0, 1) := by decide +kernel
theorem dX2_overlappingPair_22 : decode cX2_overlappingPair 22 = .ok (.getfield 56, 3) := by decide +kernel
theorem dX2_overlappingPair_25 : decode cX2_overlappingPair 25 = .ok (.if_icmp .ge 26, 3) := by decide +kernel
theorem dX2_overlappingPair_28 : decode cX2_overlappingPair 28 = .ok (.iload_n 2, 1) := by decide +kernel
theorem dX2_overlappingPair_29 : decode cX2_overlappingPair 29 = .ok (.aload_n 0, 1) := by decide +kernel
theorem dX2_overlappingPair_30 : decode cX2_overlappingPair 30 = .ok (.iload_n 3, 1) := by decide +kernel
theorem dX2_overlappingPair_31 : decode cX2_overlappingPair 31 = .ok (.invokevirtual 118, 3) := by decide +kernel
theorem dX2_overlappingPair_34 : decode cX2_overlappingPair 34 = .ok (.iand, 1) := by decide +kernel
theorem dX2_overlappingPair_35 : decode cX2_overlappingPair 35 = .ok (.ifCond .eq 10, 3) := by decide +kernel
theorem dX2_overlappingPair_38 : decode cX2_overlappingPair 38 = .ok (.bipush 10, 2) := by decide +kernel
theorem dX2_overlappingPair_40 : decode cX2_overlappingPair 40 = .ok (.iload_n 1, 1) := by decide +kernel
theorem dX2_overlappingPair_41 : decode cX2_overlappingPair 41 = .ok (.imul, 1) := by decide +kernel
theorem dX2_overlappingPair_42 : decode cX2_overlappingPair 42 = .ok (.iload_n 3, 1) := by decide +kernel
theorem dX2_overlappingPair_43 : decode cX2_overlappingPair 43 = .ok (.iadd, 1) := by decide +kernel
theorem dX2_overlappingPair_44 : decode cX2_overlappingPair 44 = .ok (.ireturn, 1) := by decide +kernel
theorem dX2_overlappingPair_45 : decode cX2_overlappingPair 45 = .ok (.iinc 3 1, 3) := by decide +kernel
theorem dX2_overlappingPair_48 : decode cX2_overlappingPair 48 = .ok (.goto (-28), 3) := by decide +kernel
theorem dX2_overlappingPair_51 : decode cX2_overlappingPair 51 = .ok (.iinc 1 1, 3) := by decide +kernel
theorem dX2_overlappingPair_54 : decode cX2_overlappingPair 54 = .ok (.goto (-52), 3) := by decide +kernel
theorem dX2_overlappingPair_57 : decode cX2_overlappingPair 57 = .ok (.ldc 117, 2) := by decide +kernel
theorem dX2_overlappingPair_59 : decode cX2_overlappingPair 59 = .ok (.ireturn, 1) := by decide +kernel
theorem dX2_setsAsThick_0 : decode cX2_setsAsThick 0 = .ok (.iconst 0, 1) := by decide +kernel
theorem dX2_setsAsThick_1 : decode cX2_setsAsThick 1 = .ok (.istore_n 3, 1) := by decide +kernel
theorem dX2_setsAsThick_2 : decode cX2_setsAsThick 2 = .ok (.aload_n 0, 1) := by decide +kernel
theorem dX2_setsAsThick_3 : decode cX2_setsAsThick 3 = .ok (.getfield 62, 3) := by decide +kernel
theorem dX2_setsAsThick_6 : decode cX2_setsAsThick 6 = .ok (.istore 4, 2) := by decide +kernel
theorem dX2_setsAsThick_8 : decode cX2_setsAsThick 8 = .ok (.iconst 0, 1) := by decide +kernel
theorem dX2_setsAsThick_9 : decode cX2_setsAsThick 9 = .ok (.istore 5, 2) := by decide +kernel
theorem dX2_setsAsThick_11 : decode cX2_setsAsThick 11 = .ok (.iconst 0, 1) := by decide +kernel
theorem dX2_setsAsThick_12 : decode cX2_setsAsThick 12 = .ok (.istore 6, 2) := by decide +kernel
theorem dX2_setsAsThick_14 : decode cX2_setsAsThick 14 = .ok (.iload 6, 2) := by decide +kernel
theorem dX2_setsAsThick_16 : decode cX2_setsAsThick 16 = .ok (.iconst 1, 1) := by decide +kernel
theorem dX2_setsAsThick_17 : decode cX2_setsAsThick 17 = .ok (.aload_n 0, 1) := by decide +kernel
theorem dX2_setsAsThick_18 : decode cX2_setsAsThick 18 = .ok (.getfield 56, 3) := by decide +kernel
theorem dX2_setsAsThick_21 : decode cX2_setsAsThick 21 = .ok (.ishl, 1) := by decide +kernel
theorem dX2_setsAsThick_22 : decode cX2_setsAsThick 22 = .ok (.if_icmp .ge 48, 3) := by decide +kernel
theorem dX2_setsAsThick_25 : decode cX2_setsAsThick 25 = .ok (.iload 6, 2) := by decide +kernel
theorem dX2_setsAsThick_27 : decode cX2_setsAsThick 27 = .ok (.aload_n 0, 1) := by decide +kernel
theorem dX2_setsAsThick_28 : decode cX2_setsAsThick 28 = .ok (.getfield 62, 3) := by decide +kernel
theorem dX2_setsAsThick_31 : decode cX2_setsAsThick 31 = .ok (.iconst (-1), 1) := by decide +kernel
theorem dX2_setsAsThick_32 : decode cX2_setsAsThick 32 = .ok (.ixor, 1) := by decide +kernel
theorem dX2_setsAsThick_33 : decode cX2_setsAsThick 33 = .ok (.iand, 1) := by decide +kernel
theorem dX2_setsAsThick_34 : decode cX2_setsAsThick 34 = .ok (.ifCond .ne 30, 3) := by decide +kernel
theorem dX2_setsAsThick_37 : decode cX2_setsAsThick 37 = .ok (.aload_n 0, 1) := by decide +kernel
theorem dX2_setsAsThick_38 : decode cX2_setsAsThick 38 = .ok (.iload 6, 2) := by decide +kernel
theorem dX2_setsAsThick_40 : decode cX2_setsAsThick 40 = .ok (.invokevirtual 122, 3) := by decide +kernel
theorem dX2_setsAsThick_43 : decode cX2_setsAsThick 43 = .ok (.iload_n 1, 1) := by decide +kernel
theorem dX2_setsAsThick_44 : decode cX2_setsAsThick 44 = .ok (.if_icmp .ne 20, 3) := by decide +kernel
theorem dX2_setsAsThick_47 : decode cX2_setsAsThick 47 = .ok (.iinc 3 1, 3) := by decide +kernel
theorem dX2_setsAsThick_50 : decode cX2_setsAsThick 50 = .ok (.iload 4, 2) := by decide +kernel
theorem dX2_setsAsThick_52 : decode cX2_setsAsThick 52 = .ok (.iload 6, 2) := by decide +kernel
theorem dX2_setsAsThick_54 : decode cX2_setsAsThick 54 = .ok (.iand, 1) := by decide +kernel
theorem dX2_setsAsThick_55 : decode cX2_setsAsThick 55 = .ok (.istore 4, 2) := by decide +kernel
theorem dX2_setsAsThick_57 : decode cX2_setsAsThick 57 = .ok (.iload 5, 2) := by decide +kernel
theorem dX2_setsAsThick_59 : decode cX2_setsAsThick 59 = .ok (.iload 6, 2) := by decide +kernel
theorem dX2_setsAsThick_61 : decode cX2_setsAsThick 61 = .ok (.ior, 1) := by decide +kernel
theorem dX2_setsAsThick_62 : decode cX2_setsAsThick 62 = .ok (.istore 5, 2) := by decide +kernel
theorem dX2_setsAsThick_64 : decode cX2_setsAsThick 64 = .ok (.iinc 6 1, 3) := by decide +kernel
theorem dX2_setsAsThick_67 : decode cX2_setsAsThick 67 = .ok (.goto (-53), 3) := by decide +kernel
theorem dX2_setsAsThick_70 : decode cX2_setsAsThick 70 = .ok (.iload_n 2, 1) := by decide +kernel
theorem dX2_setsAsThick_71 : decode cX2_setsAsThick 71 = .ok (.ifCond .ne 5, 3) := by decide +kernel
theorem dX2_setsAsThick_74 : decode cX2_setsAsThick 74 = .ok (.iload_n 3, 1) := by decide +kernel
theorem dX2_setsAsThick_75 : decode cX2_setsAsThick 75 = .ok (.ireturn, 1) := by decide +kernel
theorem dX2_setsAsThick_76 : decode cX2_setsAsThick 76 = .ok (.iload_n 2, 1) := by decide +kernel
theorem dX2_setsAsThick_77 : decode cX2_setsAsThick 77 = .ok (.iconst 2, 1) := by decide +kernel
theorem dX2_setsAsThick_78 : decode cX2_setsAsThick 78 = .ok (.if_icmp .ne 6, 3) := by decide +kernel
theorem dX2_setsAsThick_81 : decode cX2_setsAsThick 81 = .ok (.iload 5, 2) := by decide +kernel
theorem dX2_setsAsThick_83 : decode cX2_setsAsThick 83 = .ok (.ireturn, 1) := by decide +kernel
theorem dX2_setsAsThick_84 : decode cX2_setsAsThick 84 = .ok (.iload_n 3, 1) := by decide +kernel
theorem dX2_setsAsThick_85 : decode cX2_setsAsThick 85 = .ok (.ifCond .ne 7, 3) := by decide +kernel
theorem dX2_setsAsThick_88 : decode cX2_setsAsThick 88 = .ok (.iconst 0, 1) := by decide +kernel
theorem dX2_setsAsThick_89 : decode cX2_setsAsThick 89 = .ok (.goto 5, 3) := by decide +kernel
theorem dX2_setsAsThick_92 : decode cX2_setsAsThick 92 = .ok (.iload 4, 2) := by decide +kernel
theorem dX2_setsAsThick_94 : decode cX2_setsAsThick 94 = .ok (.ireturn, 1) := by decide +kernel
theorem dX2_thicknessOfSet_0 : decode cX2_thicknessOfSet 0 = .ok (.iconst 0, 1) := by decide +kernel
theorem dX2_thicknessOfSet_1 : decode cX2_thicknessOfSet 1 = .ok (.istore_n 2, 1) := by decide +kernel
theorem dX2_thicknessOfSet_2 : decode cX2_thicknessOfSet 2 = .ok (.iconst 0, 1) := by decide +kernel
theorem dX2_thicknessOfSet_3 : decode cX2_thicknessOfSet 3 = .ok (.istore_n 3, 1) := by decide +kernel
theorem dX2_thicknessOfSet_4 : decode cX2_thicknessOfSet 4 = .ok (.iload_n 3, 1) := by decide +kernel
theorem dX2_thicknessOfSet_5 : decode cX2_thicknessOfSet 5 = .ok (.aload_n 0, 1) := by decide +kernel
theorem dX2_thicknessOfSet_6 : decode cX2_thicknessOfSet 6 = .ok (.getfield 56, 3) := by decide +kernel
theorem dX2_thicknessOfSet_9 : decode cX2_thicknessOfSet 9 = .ok (.if_icmp .ge 30, 3) := by decide +kernel
theorem dX2_thicknessOfSet_12 : decode cX2_thicknessOfSet 12 = .ok (.iload_n 2, 1) := by decide +kernel
theorem dX2_thicknessOfSet_13 : decode cX2_thicknessOfSet 13 = .ok (.iload_n 1, 1) := by decide +kernel
theorem dX2_thicknessOfSet_14 : decode cX2_thicknessOfSet 14 = .ok (.iload_n 3, 1) := by decide +kernel
theorem dX2_thicknessOfSet_15 : decode cX2_thicknessOfSet 15 = .ok (.ishr, 1) := by decide +kernel
theorem dX2_thicknessOfSet_16 : decode cX2_thicknessOfSet 16 = .ok (.iconst 1, 1) := by decide +kernel
theorem dX2_thicknessOfSet_17 : decode cX2_thicknessOfSet 17 = .ok (.iand, 1) := by decide +kernel
theorem dX2_thicknessOfSet_18 : decode cX2_thicknessOfSet 18 = .ok (.ifCond .eq 12, 3) := by decide +kernel
theorem dX2_thicknessOfSet_21 : decode cX2_thicknessOfSet 21 = .ok (.aload_n 0, 1) := by decide +kernel
theorem dX2_thicknessOfSet_22 : decode cX2_thicknessOfSet 22 = .ok (.getfield 24, 3) := by decide +kernel
theorem dX2_thicknessOfSet_25 : decode cX2_thicknessOfSet 25 = .ok (.iload_n 3, 1) := by decide +kernel
theorem dX2_thicknessOfSet_26 : decode cX2_thicknessOfSet 26 = .ok (.iaload, 1) := by decide +kernel
theorem dX2_thicknessOfSet_27 : decode cX2_thicknessOfSet 27 = .ok (.goto 4, 3) := by decide +kernel
theorem dX2_thicknessOfSet_30 : decode cX2_thicknessOfSet 30 = .ok (.iconst 0, 1) := by decide +kernel
theorem dX2_thicknessOfSet_31 : decode cX2_thicknessOfSet 31 = .ok (.iadd, 1) := by decide +kernel
theorem dX2_thicknessOfSet_32 : decode cX2_thicknessOfSet 32 = .ok (.istore_n 2, 1) := by decide +kernel
theorem dX2_thicknessOfSet_33 : decode cX2_thicknessOfSet 33 = .ok (.iinc 3 1, 3) := by decide +kernel
theorem dX2_thicknessOfSet_36 : decode cX2_thicknessOfSet 36 = .ok (.goto (-32), 3) := by decide +kernel
theorem dX2_thicknessOfSet_39 : decode cX2_thicknessOfSet 39 = .ok (.iload_n 2, 1) := by decide +kernel
theorem dX2_thicknessOfSet_40 : decode cX2_thicknessOfSet 40 = .ok (.ireturn, 1) := by decide +kernel
theorem dX2_pailsOf_0 : decode cX2_pailsOf 0 = .ok (.iconst 0, 1) := by decide +kernel
theorem dX2_pailsOf_1 : decode cX2_pailsOf 1 = .ok (.istore_n 3, 1) := by decide +kernel
theorem dX2_pailsOf_2 : decode cX2_pailsOf 2 = .ok (.iconst 0, 1) := by decide +kernel
theorem dX2_pailsOf_3 : decode cX2_pailsOf 3 = .ok (.istore 4, 2) := by decide +kernel
theorem dX2_pailsOf_5 : decode cX2_pailsOf 5 = .ok (.iload 4, 2) := by decide +kernel
theorem dX2_pailsOf_7 : decode cX2_pailsOf 7 = .ok (.aload_n 0, 1) := by decide +kernel
theorem dX2_pailsOf_8 : decode cX2_pailsOf 8 = .ok (.getfield 56, 3) := by decide +kernel
theorem dX2_pailsOf_11 : decode cX2_pailsOf 11 = .ok (.if_icmp .ge 26, 3) := by decide +kernel
theorem dX2_pailsOf_14 : decode cX2_pailsOf 14 = .ok (.iload_n 3, 1) := by decide +kernel
theorem dX2_pailsOf_15 : decode cX2_pailsOf 15 = .ok (.aload_n 0, 1) := by decide +kernel
theorem dX2_pailsOf_16 : decode cX2_pailsOf 16 = .ok (.getfield 21, 3) := by decide +kernel
theorem dX2_pailsOf_19 : decode cX2_pailsOf 19 = .ok (.iload 4, 2) := by decide +kernel
theorem dX2_pailsOf_21 : decode cX2_pailsOf 21 = .ok (.iaload, 1) := by decide +kernel
theorem dX2_pailsOf_22 : decode cX2_pailsOf 22 = .ok (.aload_n 0, 1) := by decide +kernel
theorem dX2_pailsOf_23 : decode cX2_pailsOf 23 = .ok (.iload 4, 2) := by decide +kernel
theorem dX2_pailsOf_25 : decode cX2_pailsOf 25 = .ok (.invokevirtual 125, 3) := by decide +kernel
theorem dX2_pailsOf_28 : decode cX2_pailsOf 28 = .ok (.imul, 1) := by decide +kernel
theorem dX2_pailsOf_29 : decode cX2_pailsOf 29 = .ok (.iadd, 1) := by decide +kernel
theorem dX2_pailsOf_30 : decode cX2_pailsOf 30 = .ok (.istore_n 3, 1) := by decide +kernel
theorem dX2_pailsOf_31 : decode cX2_pailsOf 31 = .ok (.iinc 4 1, 3) := by decide +kernel
theorem dX2_pailsOf_34 : decode cX2_pailsOf 34 = .ok (.goto (-29), 3) := by decide +kernel
theorem dX2_pailsOf_37 : decode cX2_pailsOf 37 = .ok (.aload_n 0, 1) := by decide +kernel
theorem dX2_pailsOf_38 : decode cX2_pailsOf 38 = .ok (.iload_n 1, 1) := by decide +kernel
theorem dX2_pailsOf_39 : decode cX2_pailsOf 39 = .ok (.invokevirtual 85, 3) := by decide +kernel
theorem dX2_pailsOf_42 : decode cX2_pailsOf 42 = .ok (.ifCond .eq 7, 3) := by decide +kernel
theorem dX2_pailsOf_45 : decode cX2_pailsOf 45 = .ok (.iload_n 3, 1) := by decide +kernel
theorem dX2_pailsOf_46 : decode cX2_pailsOf 46 = .ok (.ifCond .gt 5, 3) := by decide +kernel
theorem dX2_pailsOf_49 : decode cX2_pailsOf 49 = .ok (.iconst 0, 1) := by decide +kernel
theorem dX2_pailsOf_50 : decode cX2_pailsOf 50 = .ok (.ireturn, 1) := by decide +kernel
theorem dX2_pailsOf_51 : decode cX2_pailsOf 51 = .ok (.iload_n 2, 1) := by decide +kernel
theorem dX2_pailsOf_52 : decode cX2_pailsOf 52 = .ok (.istore 4, 2) := by decide +kernel
theorem dX2_pailsOf_54 : decode cX2_pailsOf 54 = .ok (.iconst 0, 1) := by decide +kernel
theorem dX2_pailsOf_55 : decode cX2_pailsOf 55 = .ok (.istore 5, 2) := by decide +kernel
theorem dX2_pailsOf_57 : decode cX2_pailsOf 57 = .ok (.iconst 0, 1) := by decide +kernel
theorem dX2_pailsOf_58 : decode cX2_pailsOf 58 = .ok (.istore 6, 2) := by decide +kernel
theorem dX2_pailsOf_60 : decode cX2_pailsOf 60 = .ok (.iload 6, 2) := by decide +kernel
theorem dX2_pailsOf_62 : decode cX2_pailsOf 62 = .ok (.aload_n 0, 1) := by decide +kernel
theorem dX2_pailsOf_63 : decode cX2_pailsOf 63 = .ok (.getfield 56, 3) := by decide +kernel
theorem dX2_pailsOf_66 : decode cX2_pailsOf 66 = .ok (.if_icmp .ge 57, 3) := by decide +kernel
theorem dX2_pailsOf_69 : decode cX2_pailsOf 69 = .ok (.iload 4, 2) := by decide +kernel
theorem dX2_pailsOf_71 : decode cX2_pailsOf 71 = .ok (.iload_n 2, 1) := by decide +kernel
theorem dX2_pailsOf_72 : decode cX2_pailsOf 72 = .ok (.aload_n 0, 1) := by decide +kernel
theorem dX2_pailsOf_73 : decode cX2_pailsOf 73 = .ok (.getfield 21, 3) := by decide +kernel
theorem dX2_pailsOf_76 : decode cX2_pailsOf 76 = .ok (.iload 6, 2) := by decide +kernel
theorem dX2_pailsOf_78 : decode cX2_pailsOf 78 = .ok (.iaload, 1) := by decide +kernel
theorem dX2_pailsOf_79 : decode cX2_pailsOf 79 = .ok (.imul, 1) := by decide +kernel
theorem dX2_pailsOf_80 : decode cX2_pailsOf 80 = .ok (.aload_n 0, 1) := by decide +kernel
theorem dX2_pailsOf_81 : decode cX2_pailsOf 81 = .ok (.iload 6, 2) := by decide +kernel
theorem dX2_pailsOf_83 : decode cX2_pailsOf 83 = .ok (.invokevirtual 125, 3) := by decide +kernel
theorem dX2_pailsOf_86 : decode cX2_pailsOf 86 = .ok (.imul, 1) := by decide +kernel
theorem dX2_pailsOf_87 : decode cX2_pailsOf 87 = .ok (.iload_n 3, 1) := by decide +kernel
theorem dX2_pailsOf_88 : decode cX2_pailsOf 88 = .ok (.idiv, 1) := by decide +kernel
theorem dX2_pailsOf_89 : decode cX2_pailsOf 89 = .ok (.isub, 1) := by decide +kernel
theorem dX2_pailsOf_90 : decode cX2_pailsOf 90 = .ok (.istore 4, 2) := by decide +kernel
theorem dX2_pailsOf_92 : decode cX2_pailsOf 92 = .ok (.iload 5, 2) := by decide +kernel
theorem dX2_pailsOf_94 : decode cX2_pailsOf 94 = .ok (.iload 6, 2) := by decide +kernel
theorem dX2_pailsOf_96 : decode cX2_pailsOf 96 = .ok (.iload_n 1, 1) := by decide +kernel
theorem dX2_pailsOf_97 : decode cX2_pailsOf 97 = .ok (.if_icmp .ge 16, 3) := by decide +kernel
theorem dX2_pailsOf_100 : decode cX2_pailsOf 100 = .ok (.aload_n 0, 1) := by decide +kernel
theorem dX2_pailsOf_101 : decode cX2_pailsOf 101 = .ok (.iload 6, 2) := by decide +kernel
theorem dX2_pailsOf_103 : decode cX2_pailsOf 103 = .ok (.invokevirtual 85, 3) := by decide +kernel
theorem dX2_pailsOf_106 : decode cX2_pailsOf 106 = .ok (.ifCond .eq 7, 3) := by decide +kernel
theorem dX2_pailsOf_109 : decode cX2_pailsOf 109 = .ok (.iconst 1, 1) := by decide +kernel
theorem dX2_pailsOf_110 : decode cX2_pailsOf 110 = .ok (.goto 4, 3) := by decide +kernel
theorem dX2_pailsOf_113 : decode cX2_pailsOf 113 = .ok (.iconst 0, 1) := by decide +kernel
theorem dX2_pailsOf_114 : decode cX2_pailsOf 114 = .ok (.iadd, 1) := by decide +kernel
theorem dX2_pailsOf_115 : decode cX2_pailsOf 115 = .ok (.istore 5, 2) := by decide +kernel
theorem dX2_pailsOf_117 : decode cX2_pailsOf 117 = .ok (.iinc 6 1, 3) := by decide +kernel
theorem dX2_pailsOf_120 : decode cX2_pailsOf 120 = .ok (.goto (-60), 3) := by decide +kernel
theorem dX2_pailsOf_123 : decode cX2_pailsOf 123 = .ok (.iload_n 2, 1) := by decide +kernel
theorem dX2_pailsOf_124 : decode cX2_pailsOf 124 = .ok (.aload_n 0, 1) := by decide +kernel
theorem dX2_pailsOf_125 : decode cX2_pailsOf 125 = .ok (.getfield 21, 3) := by decide +kernel
theorem dX2_pailsOf_128 : decode cX2_pailsOf 128 = .ok (.iload_n 1, 1) := by decide +kernel
theorem dX2_pailsOf_129 : decode cX2_pailsOf 129 = .ok (.iaload, 1) := by decide +kernel
theorem dX2_pailsOf_130 : decode cX2_pailsOf 130 = .ok (.imul, 1) := by decide +kernel
theorem dX2_pailsOf_131 : decode cX2_pailsOf 131 = .ok (.aload_n 0, 1) := by decide +kernel
theorem dX2_pailsOf_132 : decode cX2_pailsOf 132 = .ok (.getfield 24, 3) := by decide +kernel
theorem dX2_pailsOf_135 : decode cX2_pailsOf 135 = .ok (.iload_n 1, 1) := by decide +kernel
theorem dX2_pailsOf_136 : decode cX2_pailsOf 136 = .ok (.iaload, 1) := by decide +kernel
theorem dX2_pailsOf_137 : decode cX2_pailsOf 137 = .ok (.imul, 1) := by decide +kernel
theorem dX2_pailsOf_138 : decode cX2_pailsOf 138 = .ok (.iload_n 3, 1) := by decide +kernel
theorem dX2_pailsOf_139 : decode cX2_pailsOf 139 = .ok (.idiv, 1) := by decide +kernel
theorem dX2_pailsOf_140 : decode cX2_pailsOf 140 = .ok (.iload 5, 2) := by decide +kernel
theorem dX2_pailsOf_142 : decode cX2_pailsOf 142 = .ok (.iload 4, 2) := by decide +kernel
theorem dX2_pailsOf_144 : decode cX2_pailsOf 144 = .ok (.if_icmp .ge 7, 3) := by decide +kernel
theorem dX2_pailsOf_147 : decode cX2_pailsOf 147 = .ok (.iconst 1, 1) := by decide +kernel
theorem dX2_pailsOf_148 : decode cX2_pailsOf 148 = .ok (.goto 4, 3) := by decide +kernel
theorem dX2_pailsOf_151 : decode cX2_pailsOf 151 = .ok (.iconst 0, 1) := by decide +kernel
theorem dX2_pailsOf_152 : decode cX2_pailsOf 152 = .ok (.iadd, 1) := by decide +kernel
theorem dX2_pailsOf_153 : decode cX2_pailsOf 153 = .ok (.ireturn, 1) := by decide +kernel
theorem dX3_init_0 : decode cX3_init 0 = .ok (.aload_n 0, 1) := by decide +kernel
theorem dX3_init_1 : decode cX3_init 1 = .ok (.invokespecial 3, 3) := by decide +kernel
theorem dX3_init_4 : decode cX3_init 4 = .ok (.aload_n 0, 1) := by decide +kernel
theorem dX3_init_5 : decode cX3_init 5 = .ok (.new 9, 3) := by decide +kernel
theorem dX3_init_8 : decode cX3_init 8 = .ok (.dup, 1) := by decide +kernel
theorem dX3_init_9 : decode cX3_init 9 = .ok (.invokespecial 11, 3) := by decide +kernel
theorem dX3_init_12 : decode cX3_init 12 = .ok (.putfield 12, 3) := by decide +kernel
theorem dX3_init_15 : decode cX3_init 15 = .ok (.aload_n 0, 1) := by decide +kernel
theorem dX3_init_16 : decode cX3_init 16 = .ok (.bipush 6, 2) := by decide +kernel
theorem dX3_init_18 : decode cX3_init 18 = .ok (.bipush 16, 2) := by decide +kernel
theorem dX3_init_20 : decode cX3_init 20 = .ok (.multianewarray 18 2, 4) := by decide +kernel
theorem dX3_init_24 : decode cX3_init 24 = .ok (.putfield 20, 3) := by decide +kernel
theorem dX3_init_27 : decode cX3_init 27 = .ok (.aload_n 0, 1) := by decide +kernel
theorem dX3_init_28 : decode cX3_init 28 = .ok (.bipush 7, 2) := by decide +kernel
theorem dX3_init_30 : decode cX3_init 30 = .ok (.bipush 16, 2) := by decide +kernel
theorem dX3_init_32 : decode cX3_init 32 = .ok (.multianewarray 18 2, 4) := by decide +kernel
theorem dX3_init_36 : decode cX3_init 36 = .ok (.putfield 23, 3) := by decide +kernel
theorem dX3_init_39 : decode cX3_init 39 = .ok (.aload_n 0, 1) := by decide +kernel
theorem dX3_init_40 : decode cX3_init 40 = .ok (.bipush 16, 2) := by decide +kernel
theorem dX3_init_42 : decode cX3_init 42 = .ok (.newarray .int, 2) := by decide +kernel
theorem dX3_init_44 : decode cX3_init 44 = .ok (.putfield 26, 3) := by decide +kernel
theorem dX3_init_47 : decode cX3_init 47 = .ok (.aload_n 0, 1) := by decide +kernel
theorem dX3_init_48 : decode cX3_init 48 = .ok (.bipush 12, 2) := by decide +kernel
theorem dX3_init_50 : decode cX3_init 50 = .ok (.newarray .int, 2) := by decide +kernel
theorem dX3_init_52 : decode cX3_init 52 = .ok (.putfield 30, 3) := by decide +kernel
theorem dX3_init_55 : decode cX3_init 55 = .ok (.return_, 1) := by decide +kernel
theorem dX3_behind_0 : decode cX3_behind 0 = .ok (.aload_n 0, 1) := by decide +kernel
theorem dX3_behind_1 : decode cX3_behind 1 = .ok (.getfield 12, 3) := by decide +kernel
theorem dX3_behind_4 : decode cX3_behind 4 = .ok (.aload_n 1, 1) := by decide +kernel
theorem dX3_behind_5 : decode cX3_behind 5 = .ok (.invokevirtual 33, 3) := by decide +kernel
theorem dX3_behind_8 : decode cX3_behind 8 = .ok (.iconst 0, 1) := by decide +kernel
theorem dX3_behind_9 : decode cX3_behind 9 = .ok (.istore_n 3, 1) := by decide +kernel
theorem dX3_behind_10 : decode cX3_behind 10 = .ok (.iload_n 3, 1) := by decide +kernel
theorem dX3_behind_11 : decode cX3_behind 11 = .ok (.iload_n 2, 1) := by decide +kernel
theorem dX3_behind_12 : decode cX3_behind 12 = .ok (.if_icmp .ge 16, 3) := by decide +kernel
theorem dX3_behind_15 : decode cX3_behind 15 = .ok (.aload_n 0, 1) := by decide +kernel
theorem dX3_behind_16 : decode cX3_behind 16 = .ok (.getfield 12, 3) := by decide +kernel
theorem dX3_behind_19 : decode cX3_behind 19 = .ok (.invokevirtual 37, 3) := by decide +kernel
theorem dX3_behind_22 : decode cX3_behind 22 = .ok (.iinc 3 1, 3) := by decide +kernel
theorem dX3_behind_25 : decode cX3_behind 25 = .ok (.goto (-15), 3) := by decide +kernel
theorem dX3_behind_28 : decode cX3_behind 28 = .ok (.aload_n 0, 1) := by decide +kernel
theorem dX3_behind_29 : decode cX3_behind 29 = .ok (.getfield 12, 3) := by decide +kernel
theorem dX3_behind_32 : decode cX3_behind 32 = .ok (.areturn, 1) := by decide +kernel
theorem dX3_firstGone_0 : decode cX3_firstGone 0 = .ok (.aload_n 0, 1) := by decide +kernel
theorem dX3_firstGone_1 : decode cX3_firstGone 1 = .ok (.getfield 12, 3) := by decide +kernel
theorem dX3_firstGone_4 : decode cX3_firstGone 4 = .ok (.aload_n 1, 1) := by decide +kernel
theorem dX3_firstGone_5 : decode cX3_firstGone 5 = .ok (.invokevirtual 33, 3) := by decide +kernel
theorem dX3_firstGone_8 : decode cX3_firstGone 8 = .ok (.iconst 0, 1) := by decide +kernel
theorem dX3_firstGone_9 : decode cX3_firstGone 9 = .ok (.istore_n 3, 1) := by decide +kernel
theorem dX3_firstGone_10 : decode cX3_firstGone 10 = .ok (.iload_n 3, 1) := by decide +kernel
theorem dX3_firstGone_11 : decode cX3_firstGone 11 = .ok (.bipush 60, 2) := by decide +kernel
theorem dX3_firstGone_13 : decode cX3_firstGone 13 = .ok (.if_icmp .gt 29, 3) := by decide +kernel
theorem dX3_firstGone_16 : decode cX3_firstGone 16 = .ok (.aload_n 0, 1) := by decide +kernel
theorem dX3_firstGone_17 : decode cX3_firstGone 17 = .ok (.getfield 12, 3) := by decide +kernel
theorem dX3_firstGone_20 : decode cX3_firstGone 20 = .ok (.iload_n 2, 1) := by decide +kernel
theorem dX3_firstGone_21 : decode cX3_firstGone 21 = .ok (.invokevirtual 40, 3) := by decide +kernel
theorem dX3_firstGone_24 : decode cX3_firstGone 24 = .ok (.ifCond .ne 5, 3) := by decide +kernel
theorem dX3_firstGone_27 : decode cX3_firstGone 27 = .ok (.iload_n 3, 1) := by decide +kernel
theorem dX3_firstGone_28 : decode cX3_firstGone 28 = .ok (.ireturn, 1) := by decide +kernel
theorem dX3_firstGone_29 : decode cX3_firstGone 29 = .ok (.aload_n 0, 1) := by decide +kernel
theorem dX3_firstGone_30 : decode cX3_firstGone 30 = .ok (.getfield 12, 3) := by decide +kernel
theorem dX3_firstGone_33 : decode cX3_firstGone 33 = .ok (.invokevirtual 37, 3) := by decide +kernel
theorem dX3_firstGone_36 : decode cX3_firstGone 36 = .ok (.iinc 3 1, 3) := by decide +kernel
theorem dX3_firstGone_39 : decode cX3_firstGone 39 = .ok (.goto (-29), 3) := by decide +kernel
theorem dX3_firstGone_42 : decode cX3_firstGone 42 = .ok (.ldc 44, 2) := by decide +kernel
theorem dX3_firstGone_44 : decode cX3_firstGone 44 = .ok (.ireturn, 1) := by decide +kernel
theorem dX3_firstNumbered_0 : decode cX3_firstNumbered 0 = .ok (.aload_n 0, 1) := by decide +kernel
theorem dX3_firstNumbered_1 : decode cX3_firstNumbered 1 = .ok (.getfield 12, 3) := by decide +kernel
theorem dX3_firstNumbered_4 : decode cX3_firstNumbered 4 = .ok (.aload_n 1, 1) := by decide +kernel
theorem dX3_firstNumbered_5 : decode cX3_firstNumbered 5 = .ok (.invokevirtual 33, 3) := by decide +kernel
theorem dX3_firstNumbered_8 : decode cX3_firstNumbered 8 = .ok (.iconst 0, 1) := by decide +kernel
theorem dX3_firstNumbered_9 : decode cX3_firstNumbered 9 = .ok (.istore_n 3, 1) := by decide +kernel
theorem dX3_firstNumbered_10 : decode cX3_firstNumbered 10 = .ok (.iload_n 3, 1) := by decide +kernel
theorem dX3_firstNumbered_11 : decode cX3_firstNumbered 11 = .ok (.bipush 60, 2) := by decide +kernel
theorem dX3_firstNumbered_13 : decode cX3_firstNumbered 13 = .ok (.if_icmp .gt 30, 3) := by decide +kernel
theorem dX3_firstNumbered_16 : decode cX3_firstNumbered 16 = .ok (.aload_n 0, 1) := by decide +kernel
theorem dX3_firstNumbered_17 : decode cX3_firstNumbered 17 = .ok (.getfield 12, 3) := by decide +kernel
theorem dX3_firstNumbered_20 : decode cX3_firstNumbered 20 = .ok (.getfield 45, 3) := by decide +kernel
theorem dX3_firstNumbered_23 : decode cX3_firstNumbered 23 = .ok (.iload_n 2, 1) := by decide +kernel
theorem dX3_firstNumbered_24 : decode cX3_firstNumbered 24 = .ok (.iaload, 1) := by decide +kernel
theorem dX3_firstNumbered_25 : decode cX3_firstNumbered 25 = .ok (.ifCond .eq 5, 3) := by decide +kernel
theorem dX3_firstNumbered_28 : decode cX3_firstNumbered 28 = .ok (.iload_n 3, 1) := by decide +kernel
theorem dX3_firstNumbered_29 : decode cX3_firstNumbered 29 = .ok (.ireturn, 1) := by decide +kernel
theorem dX3_firstNumbered_30 : decode cX3_firstNumbered 30 = .ok (.aload_n 0, 1) := by decide +kernel
theorem dX3_firstNumbered_31 : decode cX3_firstNumbered 31 = .ok (.getfield 12, 3) := by decide +kernel
theorem dX3_firstNumbered_34 : decode cX3_firstNumbered 34 = .ok (.invokevirtual 37, 3) := by decide +kernel
theorem dX3_firstNumbered_37 : decode cX3_firstNumbered 37 = .ok (.iinc 3 1, 3) := by decide +kernel
theorem dX3_firstNumbered_40 : decode cX3_firstNumbered 40 = .ok (.goto (-30), 3) := by decide +kernel
theorem dX3_firstNumbered_43 : decode cX3_firstNumbered 43 = .ok (.ldc 44, 2) := by decide +kernel
theorem dX3_firstNumbered_45 : decode cX3_firstNumbered 45 = .ok (.ireturn, 1) := by decide +kernel
theorem dX3_firstOverlap_0 : decode cX3_firstOverlap 0 = .ok (.aload_n 0, 1) := by decide +kernel
theorem dX3_firstOverlap_1 : decode cX3_firstOverlap 1 = .ok (.getfield 12, 3) := by decide +kernel
theorem dX3_firstOverlap_4 : decode cX3_firstOverlap 4 = .ok (.aload_n 1, 1) := by decide +kernel
theorem dX3_firstOverlap_5 : decode cX3_firstOverlap 5 = .ok (.invokevirtual 33, 3) := by decide +kernel
theorem dX3_firstOverlap_8 : decode cX3_firstOverlap 8 = .ok (.iconst 0, 1) := by decide +kernel
theorem dX3_firstOverlap_9 : decode cX3_firstOverlap 9 = .ok (.istore_n 3, 1) := by decide +kernel
theorem dX3_firstOverlap_10 : decode cX3_firstOverlap 10 = .ok (.iload_n 3, 1) := by decide +kernel
theorem dX3_firstOverlap_11 : decode cX3_firstOverlap 11 = .ok (.bipush 60, 2) := by decide +kernel
theorem dX3_firstOverlap_13 : decode cX3_firstOverlap 13 = .ok (.if_icmp .gt 43, 3) := by decide +kernel
theorem dX3_firstOverlap_16 : decode cX3_firstOverlap 16 = .ok (.aload_n 0, 1) := by decide +kernel
theorem dX3_firstOverlap_17 : decode cX3_firstOverlap 17 = .ok (.getfield 12, 3) := by decide +kernel
theorem dX3_firstOverlap_20 : decode cX3_firstOverlap 20 = .ok (.invokevirtual 48, 3) := by decide +kernel
theorem dX3_firstOverlap_23 : decode cX3_firstOverlap 23 = .ok (.istore 4, 2) := by decide +kernel
theorem dX3_firstOverlap_25 : decode cX3_firstOverlap 25 = .ok (.iload 4, 2) := by decide +kernel
theorem dX3_firstOverlap_27 : decode cX3_firstOverlap 27 = .ok (.ldc 44, 2) := by decide +kernel
theorem dX3_firstOverlap_29 : decode cX3_firstOverlap 29 = .ok (.if_icmp .eq 14, 3) := by decide +kernel
theorem dX3_firstOverlap_32 : decode cX3_firstOverlap 32 = .ok (.iload_n 2, 1) := by decide +kernel
theorem dX3_firstOverlap_33 : decode cX3_firstOverlap 33 = .ok (.ifCond .ne 7, 3) := by decide +kernel
theorem dX3_firstOverlap_36 : decode cX3_firstOverlap 36 = .ok (.iload_n 3, 1) := by decide +kernel
theorem dX3_firstOverlap_37 : decode cX3_firstOverlap 37 = .ok (.goto 5, 3) := by decide +kernel
theorem dX3_firstOverlap_40 : decode cX3_firstOverlap 40 = .ok (.iload 4, 2) := by decide +kernel
theorem dX3_firstOverlap_42 : decode cX3_firstOverlap 42 = .ok (.ireturn, 1) := by decide +kernel
theorem dX3_firstOverlap_43 : decode cX3_firstOverlap 43 = .ok (.aload_n 0, 1) := by decide +kernel
theorem dX3_firstOverlap_44 : decode cX3_firstOverlap 44 = .ok (.getfield 12, 3) := by decide +kernel
theorem dX3_firstOverlap_47 : decode cX3_firstOverlap 47 = .ok (.invokevirtual 37, 3) := by decide +kernel
theorem dX3_firstOverlap_50 : decode cX3_firstOverlap 50 = .ok (.iinc 3 1, 3) := by decide +kernel
theorem dX3_firstOverlap_53 : decode cX3_firstOverlap 53 = .ok (.goto (-43), 3) := by decide +kernel
theorem dX3_firstOverlap_56 : decode cX3_firstOverlap 56 = .ok (.ldc 44, 2) := by decide +kernel
theorem dX3_firstOverlap_58 : decode cX3_firstOverlap 58 = .ok (.ireturn, 1) := by decide +kernel
theorem dX3_leastSeen_0 : decode cX3_leastSeen 0 = .ok (.aload_n 0, 1) := by decide +kernel
theorem dX3_leastSeen_1 : decode cX3_leastSeen 1 = .ok (.aload_n 1, 1) := by decide +kernel
theorem dX3_leastSeen_2 : decode cX3_leastSeen 2 = .ok (.iload_n 2, 1) := by decide +kernel
theorem dX3_leastSeen_3 : decode cX3_leastSeen 3 = .ok (.invokevirtual 52, 3) := by decide +kernel
theorem dX3_leastSeen_6 : decode cX3_leastSeen 6 = .ok (.aload_n 0, 1) := by decide +kernel
theorem dX3_leastSeen_7 : decode cX3_leastSeen 7 = .ok (.getfield 23, 3) := by decide +kernel
theorem dX3_leastSeen_10 : decode cX3_leastSeen 10 = .ok (.iconst 0, 1) := by decide +kernel
theorem dX3_leastSeen_11 : decode cX3_leastSeen 11 = .ok (.aaload, 1) := by decide +kernel
theorem dX3_leastSeen_12 : decode cX3_leastSeen 12 = .ok (.aload_n 1, 1) := by decide +kernel
theorem dX3_leastSeen_13 : decode cX3_leastSeen 13 = .ok (.getfield 56, 3) := by decide +kernel
theorem dX3_leastSeen_16 : decode cX3_leastSeen 16 = .ok (.iaload, 1) := by decide +kernel
theorem dX3_leastSeen_17 : decode cX3_leastSeen 17 = .ok (.ireturn, 1) := by decide +kernel
theorem dX3_leastSeenCell_0 : decode cX3_leastSeenCell 0 = .ok (.aload_n 0, 1) := by decide +kernel
theorem dX3_leastSeenCell_1 : decode cX3_leastSeenCell 1 = .ok (.aload_n 1, 1) := by decide +kernel
theorem dX3_leastSeenCell_2 : decode cX3_leastSeenCell 2 = .ok (.iload_n 2, 1) := by decide +kernel
theorem dX3_leastSeenCell_3 : decode cX3_leastSeenCell 3 = .ok (.invokevirtual 52, 3) := by decide +kernel
theorem dX3_leastSeenCell_6 : decode cX3_leastSeenCell 6 = .ok (.aload_n 1, 1) := by decide +kernel
theorem dX3_leastSeenCell_7 : decode cX3_leastSeenCell 7 = .ok (.getfield 56, 3) := by decide +kernel
theorem dX3_leastSeenCell_10 : decode cX3_leastSeenCell 10 = .ok (.istore 4, 2) := by decide +kernel
theorem dX3_leastSeenCell_12 : decode cX3_leastSeenCell 12 = .ok (.iconst 0, 1) := by decide +kernel
theorem dX3_leastSeenCell_13 : decode cX3_leastSeenCell 13 = .ok (.istore 5, 2) := by decide +kernel
theorem dX3_leastSeenCell_15 : decode cX3_leastSeenCell 15 = .ok (.iload 5, 2) := by decide +kernel
theorem dX3_leastSeenCell_17 : decode cX3_leastSeenCell 17 = .ok (.iload_n 3, 1) := by decide +kernel
theorem dX3_leastSeenCell_18 : decode cX3_leastSeenCell 18 = .ok (.if_icmp .gt 19, 3) := by decide +kernel
theorem dX3_leastSeenCell_21 : decode cX3_leastSeenCell 21 = .ok (.aload_n 0, 1) := by decide +kernel
theorem dX3_leastSeenCell_22 : decode cX3_leastSeenCell 22 = .ok (.iload 5, 2) := by decide +kernel
theorem dX3_leastSeenCell_24 : decode cX3_leastSeenCell 24 = .ok (.iload 4, 2) := by decide +kernel
theorem dX3_leastSeenCell_26 : decode cX3_leastSeenCell 26 = .ok (.invokevirtual 60, 3) := by decide +kernel
theorem dX3_leastSeenCell_29 : decode cX3_leastSeenCell 29 = .ok (.istore 4, 2) := by decide +kernel
theorem dX3_leastSeenCell_31 : decode cX3_leastSeenCell 31 = .ok (.iinc 5 1, 3) := by decide +kernel
theorem dX3_leastSeenCell_34 : decode cX3_leastSeenCell 34 = .ok (.goto (-19), 3) := by decide +kernel
theorem dX3_leastSeenCell_37 : decode cX3_leastSeenCell 37 = .ok (.iload 4, 2) := by decide +kernel
theorem dX3_leastSeenCell_39 : decode cX3_leastSeenCell 39 = .ok (.ireturn, 1) := by decide +kernel
theorem dX3_weighWalks_0 : decode cX3_weighWalks 0 = .ok (.aload_n 0, 1) := by decide +kernel
theorem dX3_weighWalks_1 : decode cX3_weighWalks 1 = .ok (.getfield 12, 3) := by decide +kernel
theorem dX3_weighWalks_4 : decode cX3_weighWalks 4 = .ok (.aload_n 1, 1) := by decide +kernel
theorem dX3_weighWalks_5 : decode cX3_weighWalks 5 = .ok (.invokevirtual 33, 3) := by decide +kernel
theorem dX3_weighWalks_8 : decode cX3_weighWalks 8 = .ok (.iconst 0, 1) := by decide +kernel
theorem dX3_weighWalks_9 : decode cX3_weighWalks 9 = .ok (.istore_n 3, 1) := by decide +kernel
theorem dX3_weighWalks_10 : decode cX3_weighWalks 10 = .ok (.iload_n 3, 1) := by decide +kernel
theorem dX3_weighWalks_11 : decode cX3_weighWalks 11 = .ok (.iload_n 2, 1) := by decide +kernel
theorem dX3_weighWalks_12 : decode cX3_weighWalks 12 = .ok (.if_icmp .ge 26, 3) := by decide +kernel
theorem dX3_weighWalks_15 : decode cX3_weighWalks 15 = .ok (.aload_n 0, 1) := by decide +kernel
theorem dX3_weighWalks_16 : decode cX3_weighWalks 16 = .ok (.getfield 12, 3) := by decide +kernel
theorem dX3_weighWalks_19 : decode cX3_weighWalks 19 = .ok (.invokevirtual 37, 3) := by decide +kernel
theorem dX3_weighWalks_22 : decode cX3_weighWalks 22 = .ok (.aload_n 0, 1) := by decide +kernel
theorem dX3_weighWalks_23 : decode cX3_weighWalks 23 = .ok (.aload_n 0, 1) := by decide +kernel
theorem dX3_weighWalks_24 : decode cX3_weighWalks 24 = .ok (.getfield 20, 3) := by decide +kernel
theorem dX3_weighWalks_27 : decode cX3_weighWalks 27 = .ok (.iload_n 3, 1) := by decide +kernel
theorem dX3_weighWalks_28 : decode cX3_weighWalks 28 = .ok (.aaload, 1) := by decide +kernel
theorem dX3_weighWalks_29 : decode cX3_weighWalks 29 = .ok (.invokevirtual 64, 3) := by decide +kernel
theorem dX3_weighWalks_32 : decode cX3_weighWalks 32 = .ok (.iinc 3 1, 3) := by decide +kernel
theorem dX3_weighWalks_35 : decode cX3_weighWalks 35 = .ok (.goto (-25), 3) := by decide +kernel
theorem dX3_weighWalks_38 : decode cX3_weighWalks 38 = .ok (.aload_n 0, 1) := by decide +kernel
theorem dX3_weighWalks_39 : decode cX3_weighWalks 39 = .ok (.getfield 23, 3) := by decide +kernel
theorem dX3_weighWalks_42 : decode cX3_weighWalks 42 = .ok (.iload_n 2, 1) := by decide +kernel
theorem dX3_weighWalks_43 : decode cX3_weighWalks 43 = .ok (.aaload, 1) := by decide +kernel
theorem dX3_weighWalks_44 : decode cX3_weighWalks 44 = .ok (.iconst 0, 1) := by decide +kernel
theorem dX3_weighWalks_45 : decode cX3_weighWalks 45 = .ok (.invokestatic 68, 3) := by decide +kernel
theorem dX3_weighWalks_48 : decode cX3_weighWalks 48 = .ok (.iload_n 2, 1) := by decide +kernel
theorem dX3_weighWalks_49 : decode cX3_weighWalks 49 = .ok (.iconst 1, 1) := by decide +kernel
theorem dX3_weighWalks_50 : decode cX3_weighWalks 50 = .ok (.isub, 1) := by decide +kernel
theorem dX3_weighWalks_51 : decode cX3_weighWalks 51 = .ok (.istore_n 3, 1) := by decide +kernel
theorem dX3_weighWalks_52 : decode cX3_weighWalks 52 = .ok (.iload_n 3, 1) := by decide +kernel
theorem dX3_weighWalks_53 : decode cX3_weighWalks 53 = .ok (.ifCond .lt 48, 3) := by decide +kernel
theorem dX3_weighWalks_56 : decode cX3_weighWalks 56 = .ok (.iconst 0, 1) := by decide +kernel
theorem dX3_weighWalks_57 : decode cX3_weighWalks 57 = .ok (.istore 4, 2) := by decide +kernel
theorem dX3_weighWalks_59 : decode cX3_weighWalks 59 = .ok (.iload 4, 2) := by decide +kernel
theorem dX3_weighWalks_61 : decode cX3_weighWalks 61 = .ok (.aload_n 1, 1) := by decide +kernel
theorem dX3_weighWalks_62 : decode cX3_weighWalks 62 = .ok (.getfield 74, 3) := by decide +kernel
theorem dX3_weighWalks_65 : decode cX3_weighWalks 65 = .ok (.if_icmp .ge 30, 3) := by decide +kernel
theorem dX3_weighWalks_68 : decode cX3_weighWalks 68 = .ok (.aload_n 0, 1) := by decide +kernel
theorem dX3_weighWalks_69 : decode cX3_weighWalks 69 = .ok (.getfield 23, 3) := by decide +kernel
theorem dX3_weighWalks_72 : decode cX3_weighWalks 72 = .ok (.iload_n 3, 1) := by decide +kernel
theorem dX3_weighWalks_73 : decode cX3_weighWalks 73 = .ok (.aaload, 1) := by decide +kernel
theorem dX3_weighWalks_74 : decode cX3_weighWalks 74 = .ok (.iload 4, 2) := by decide +kernel
theorem dX3_weighWalks_76 : decode cX3_weighWalks 76 = .ok (.aload_n 0, 1) := by decide +kernel
theorem dX3_weighWalks_77 : decode cX3_weighWalks 77 = .ok (.iload_n 3, 1) := by decide +kernel
theorem dX3_weighWalks_78 : decode cX3_weighWalks 78 = .ok (.aload_n 0, 1) := by decide +kernel
theorem dX3_weighWalks_79 : decode cX3_weighWalks 79 = .ok (.iload_n 3, 1) := by decide +kernel
theorem dX3_weighWalks_80 : decode cX3_weighWalks 80 = .ok (.iload 4, 2) := by decide +kernel
theorem dX3_weighWalks_82 : decode cX3_weighWalks 82 = .ok (.invokevirtual 60, 3) := by decide +kernel
theorem dX3_weighWalks_85 : decode cX3_weighWalks 85 = .ok (.invokevirtual 77, 3) := by decide +kernel
theorem dX3_weighWalks_88 : decode cX3_weighWalks 88 = .ok (.iastore, 1) := by decide +kernel
theorem dX3_weighWalks_89 : decode cX3_weighWalks 89 = .ok (.iinc 4 1, 3) := by decide +kernel
theorem dX3_weighWalks_92 : decode cX3_weighWalks 92 = .ok (.goto (-33), 3) := by decide +kernel
theorem dX3_weighWalks_95 : decode cX3_weighWalks 95 = .ok (.iinc 3 (-1), 3) := by decide +kernel
theorem dX3_weighWalks_98 : decode cX3_weighWalks 98 = .ok (.goto (-46), 3) := by decide +kernel
theorem dX3_weighWalks_101 : decode cX3_weighWalks 101 = .ok (.return_, 1) := by decide +kernel
theorem dX3_noteOver_0 : decode cX3_noteOver 0 = .ok (.iconst 0, 1) := by decide +kernel
theorem dX3_noteOver_1 : decode cX3_noteOver 1 = .ok (.istore_n 2, 1) := by decide +kernel
theorem dX3_noteOver_2 : decode cX3_noteOver 2 = .ok (.iload_n 2, 1) := by decide +kernel
theorem dX3_noteOver_3 : decode cX3_noteOver 3 = .ok (.aload_n 0, 1) := by decide +kernel
theorem dX3_noteOver_4 : decode cX3_noteOver 4 = .ok (.getfield 12, 3) := by decide +kernel
theorem dX3_noteOver_7 : decode cX3_noteOver 7 = .ok (.getfield 74, 3) := by decide +kernel
theorem dX3_noteOver_10 : decode cX3_noteOver 10 = .ok (.if_icmp .ge 20, 3) := by decide +kernel
theorem dX3_noteOver_13 : decode cX3_noteOver 13 = .ok (.aload_n 1, 1) := by decide +kernel
theorem dX3_noteOver_14 : decode cX3_noteOver 14 = .ok (.iload_n 2, 1) := by decide +kernel
theorem dX3_noteOver_15 : decode cX3_noteOver 15 = .ok (.aload_n 0, 1) := by decide +kernel
theorem dX3_noteOver_16 : decode cX3_noteOver 16 = .ok (.getfield 12, 3) := by decide +kernel
theorem dX3_noteOver_19 : decode cX3_noteOver 19 = .ok (.iload_n 2, 1) := by decide +kernel
theorem dX3_noteOver_20 : decode cX3_noteOver 20 = .ok (.invokevirtual 80, 3) := by decide +kernel
theorem dX3_noteOver_23 : decode cX3_noteOver 23 = .ok (.iastore, 1) := by decide +kernel
theorem dX3_noteOver_24 : decode cX3_noteOver 24 = .ok (.iinc 2 1, 3) := by decide +kernel
theorem dX3_noteOver_27 : decode cX3_noteOver 27 = .ok (.goto (-25), 3) := by decide +kernel
theorem dX3_noteOver_30 : decode cX3_noteOver 30 = .ok (.return_, 1) := by decide +kernel
theorem dX3_weightOf_0 : decode cX3_weightOf 0 = .ok (.aload_n 0, 1) := by decide +kernel
theorem dX3_weightOf_1 : decode cX3_weightOf 1 = .ok (.getfield 20, 3) := by decide +kernel
theorem dX3_weightOf_4 : decode cX3_weightOf 4 = .ok (.iload_n 1, 1) := by decide +kernel
theorem dX3_weightOf_5 : decode cX3_weightOf 5 = .ok (.aaload, 1) := by decide +kernel
theorem dX3_weightOf_6 : decode cX3_weightOf 6 = .ok (.iload_n 2, 1) := by decide +kernel
theorem dX3_weightOf_7 : decode cX3_weightOf 7 = .ok (.iaload, 1) := by decide +kernel
theorem dX3_weightOf_8 : decode cX3_weightOf 8 = .ok (.aload_n 0, 1) := by decide +kernel
theorem dX3_weightOf_9 : decode cX3_weightOf 9 = .ok (.getfield 23, 3) := by decide +kernel
theorem dX3_weightOf_12 : decode cX3_weightOf 12 = .ok (.iload_n 1, 1) := by decide +kernel
theorem dX3_weightOf_13 : decode cX3_weightOf 13 = .ok (.iconst 1, 1) := by decide +kernel
theorem dX3_weightOf_14 : decode cX3_weightOf 14 = .ok (.iadd, 1) := by decide +kernel
theorem dX3_weightOf_15 : decode cX3_weightOf 15 = .ok (.aaload, 1) := by decide +kernel
theorem dX3_weightOf_16 : decode cX3_weightOf 16 = .ok (.iload_n 2, 1) := by decide +kernel
theorem dX3_weightOf_17 : decode cX3_weightOf 17 = .ok (.iaload, 1) := by decide +kernel
theorem dX3_weightOf_18 : decode cX3_weightOf 18 = .ok (.iadd, 1) := by decide +kernel
theorem dX3_weightOf_19 : decode cX3_weightOf 19 = .ok (.ireturn, 1) := by decide +kernel
theorem dX3_bestNext_0 : decode cX3_bestNext 0 = .ok (.iload_n 2, 1) := by decide +kernel
theorem dX3_bestNext_1 : decode cX3_bestNext 1 = .ok (.iconst 1, 1) := by decide +kernel
theorem dX3_bestNext_2 : decode cX3_bestNext 2 = .ok (.isub, 1) := by decide +kernel
theorem dX3_bestNext_3 : decode cX3_bestNext 3 = .ok (.iconst 0, 1) := by decide +kernel
theorem dX3_bestNext_4 : decode cX3_bestNext 4 = .ok (.invokestatic 84, 3) := by decide +kernel
theorem dX3_bestNext_7 : decode cX3_bestNext 7 = .ok (.istore_n 3, 1) := by decide +kernel
theorem dX3_bestNext_8 : decode cX3_bestNext 8 = .ok (.iload_n 2, 1) := by decide +kernel
theorem dX3_bestNext_9 : decode cX3_bestNext 9 = .ok (.iconst 1, 1) := by decide +kernel
theorem dX3_bestNext_10 : decode cX3_bestNext 10 = .ok (.iadd, 1) := by decide +kernel
theorem dX3_bestNext_11 : decode cX3_bestNext 11 = .ok (.aload_n 0, 1) := by decide +kernel
theorem dX3_bestNext_12 : decode cX3_bestNext 12 = .ok (.getfield 12, 3) := by decide +kernel
theorem dX3_bestNext_15 : decode cX3_bestNext 15 = .ok (.getfield 74, 3) := by decide +kernel
theorem dX3_bestNext_18 : decode cX3_bestNext 18 = .ok (.iconst 1, 1) := by decide +kernel
theorem dX3_bestNext_19 : decode cX3_bestNext 19 = .ok (.isub, 1) := by decide +kernel
theorem dX3_bestNext_20 : decode cX3_bestNext 20 = .ok (.invokestatic 89, 3) := by decide +kernel
theorem dX3_bestNext_23 : decode cX3_bestNext 23 = .ok (.istore 4, 2) := by decide +kernel
theorem dX3_bestNext_25 : decode cX3_bestNext 25 = .ok (.iload_n 3, 1) := by decide +kernel
theorem dX3_bestNext_26 : decode cX3_bestNext 26 = .ok (.iconst 1, 1) := by decide +kernel
theorem dX3_bestNext_27 : decode cX3_bestNext 27 = .ok (.iadd, 1) := by decide +kernel
theorem dX3_bestNext_28 : decode cX3_bestNext 28 = .ok (.istore 5, 2) := by decide +kernel
theorem dX3_bestNext_30 : decode cX3_bestNext 30 = .ok (.iload 5, 2) := by decide +kernel
theorem dX3_bestNext_32 : decode cX3_bestNext 32 = .ok (.iload 4, 2) := by decide +kernel
theorem dX3_bestNext_34 : decode cX3_bestNext 34 = .ok (.if_icmp .gt 28, 3) := by decide +kernel
theorem dX3_bestNext_37 : decode cX3_bestNext 37 = .ok (.aload_n 0, 1) := by decide +kernel
theorem dX3_bestNext_38 : decode cX3_bestNext 38 = .ok (.iload_n 1, 1) := by decide +kernel
theorem dX3_bestNext_39 : decode cX3_bestNext 39 = .ok (.iload 5, 2) := by decide +kernel
theorem dX3_bestNext_41 : decode cX3_bestNext 41 = .ok (.invokevirtual 77, 3) := by decide +kernel
theorem dX3_bestNext_44 : decode cX3_bestNext 44 = .ok (.aload_n 0, 1) := by decide +kernel
theorem dX3_bestNext_45 : decode cX3_bestNext 45 = .ok (.iload_n 1, 1) := by decide +kernel
theorem dX3_bestNext_46 : decode cX3_bestNext 46 = .ok (.iload_n 3, 1) := by decide +kernel
theorem dX3_bestNext_47 : decode cX3_bestNext 47 = .ok (.invokevirtual 77, 3) := by decide +kernel
theorem dX3_bestNext_50 : decode cX3_bestNext 50 = .ok (.if_icmp .ge 6, 3) := by decide +kernel
theorem dX3_bestNext_53 : decode cX3_bestNext 53 = .ok (.iload 5, 2) := by decide +kernel
theorem dX3_bestNext_55 : decode cX3_bestNext 55 = .ok (.istore_n 3, 1) := by decide +kernel
theorem dX3_bestNext_56 : decode cX3_bestNext 56 = .ok (.iinc 5 1, 3) := by decide +kernel
theorem dX3_bestNext_59 : decode cX3_bestNext 59 = .ok (.goto (-29), 3) := by decide +kernel
theorem dX3_bestNext_62 : decode cX3_bestNext 62 = .ok (.iload_n 3, 1) := by decide +kernel
theorem dX3_bestNext_63 : decode cX3_bestNext 63 = .ok (.ireturn, 1) := by decide +kernel
theorem dX3_firstMeeting_0 : decode cX3_firstMeeting 0 = .ok (.aload_n 0, 1) := by decide +kernel
theorem dX3_firstMeeting_1 : decode cX3_firstMeeting 1 = .ok (.getfield 12, 3) := by decide +kernel
theorem dX3_firstMeeting_4 : decode cX3_firstMeeting 4 = .ok (.aload_n 1, 1) := by decide +kernel
theorem dX3_firstMeeting_5 : decode cX3_firstMeeting 5 = .ok (.invokevirtual 33, 3) := by decide +kernel
theorem dX3_firstMeeting_8 : decode cX3_firstMeeting 8 = .ok (.iconst 1, 1) := by decide +kernel
theorem dX3_firstMeeting_9 : decode cX3_firstMeeting 9 = .ok (.aload_n 1, 1) := by decide +kernel
theorem dX3_firstMeeting_10 : decode cX3_firstMeeting 10 = .ok (.getfield 56, 3) := by decide +kernel
theorem dX3_firstMeeting_13 : decode cX3_firstMeeting 13 = .ok (.ishl, 1) := by decide +kernel
theorem dX3_firstMeeting_14 : decode cX3_firstMeeting 14 = .ok (.istore_n 3, 1) := by decide +kernel
theorem dX3_firstMeeting_15 : decode cX3_firstMeeting 15 = .ok (.iconst 0, 1) := by decide +kernel
theorem dX3_firstMeeting_16 : decode cX3_firstMeeting 16 = .ok (.istore 4, 2) := by decide +kernel
theorem dX3_firstMeeting_18 : decode cX3_firstMeeting 18 = .ok (.iload 4, 2) := by decide +kernel
theorem dX3_firstMeeting_20 : decode cX3_firstMeeting 20 = .ok (.bipush 20, 2) := by decide +kernel
theorem dX3_firstMeeting_22 : decode cX3_firstMeeting 22 = .ok (.if_icmp .gt 53, 3) := by decide +kernel
theorem dX3_firstMeeting_25 : decode cX3_firstMeeting 25 = .ok (.aload_n 0, 1) := by decide +kernel
theorem dX3_firstMeeting_26 : decode cX3_firstMeeting 26 = .ok (.getfield 12, 3) := by decide +kernel
theorem dX3_firstMeeting_29 : decode cX3_firstMeeting 29 = .ok (.iload_n 2, 1) := by decide +kernel
theorem dX3_firstMeeting_30 : decode cX3_firstMeeting 30 = .ok (.invokevirtual 92, 3) := by decide +kernel
theorem dX3_firstMeeting_33 : decode cX3_firstMeeting 33 = .ok (.iload_n 3, 1) := by decide +kernel
theorem dX3_firstMeeting_34 : decode cX3_firstMeeting 34 = .ok (.iand, 1) := by decide +kernel
theorem dX3_firstMeeting_35 : decode cX3_firstMeeting 35 = .ok (.ifCond .eq 6, 3) := by decide +kernel
theorem dX3_firstMeeting_38 : decode cX3_firstMeeting 38 = .ok (.iload 4, 2) := by decide +kernel
theorem dX3_firstMeeting_40 : decode cX3_firstMeeting 40 = .ok (.ireturn, 1) := by decide +kernel
theorem dX3_firstMeeting_41 : decode cX3_firstMeeting 41 = .ok (.iload_n 3, 1) := by decide +kernel
theorem dX3_firstMeeting_42 : decode cX3_firstMeeting 42 = .ok (.iload_n 3, 1) := by decide +kernel
theorem dX3_firstMeeting_43 : decode cX3_firstMeeting 43 = .ok (.iconst 1, 1) := by decide +kernel
theorem dX3_firstMeeting_44 : decode cX3_firstMeeting 44 = .ok (.ishl, 1) := by decide +kernel
theorem dX3_firstMeeting_45 : decode cX3_firstMeeting 45 = .ok (.iload_n 3, 1) := by decide +kernel
theorem dX3_firstMeeting_46 : decode cX3_firstMeeting 46 = .ok (.iconst 1, 1) := by decide +kernel
theorem dX3_firstMeeting_47 : decode cX3_firstMeeting 47 = .ok (.ishr, 1) := by decide +kernel
theorem dX3_firstMeeting_48 : decode cX3_firstMeeting 48 = .ok (.ior, 1) := by decide +kernel
theorem dX3_firstMeeting_49 : decode cX3_firstMeeting 49 = .ok (.ior, 1) := by decide +kernel
theorem dX3_firstMeeting_50 : decode cX3_firstMeeting 50 = .ok (.istore_n 3, 1) := by decide +kernel
theorem dX3_firstMeeting_51 : decode cX3_firstMeeting 51 = .ok (.iload_n 3, 1) := by decide +kernel
theorem dX3_firstMeeting_52 : decode cX3_firstMeeting 52 = .ok (.iconst 1, 1) := by decide +kernel
theorem dX3_firstMeeting_53 : decode cX3_firstMeeting 53 = .ok (.aload_n 1, 1) := by decide +kernel
theorem dX3_firstMeeting_54 : decode cX3_firstMeeting 54 = .ok (.getfield 74, 3) := by decide +kernel
theorem dX3_firstMeeting_57 : decode cX3_firstMeeting 57 = .ok (.ishl, 1) := by decide +kernel
theorem dX3_firstMeeting_58 : decode cX3_firstMeeting 58 = .ok (.iconst 1, 1) := by decide +kernel
theorem dX3_firstMeeting_59 : decode cX3_firstMeeting 59 = .ok (.isub, 1) := by decide +kernel
theorem dX3_firstMeeting_60 : decode cX3_firstMeeting 60 = .ok (.iand, 1) := by decide +kernel
theorem dX3_firstMeeting_61 : decode cX3_firstMeeting 61 = .ok (.istore_n 3, 1) := by decide +kernel
theorem dX3_firstMeeting_62 : decode cX3_firstMeeting 62 = .ok (.aload_n 0, 1) := by decide +kernel
theorem dX3_firstMeeting_63 : decode cX3_firstMeeting 63 = .ok (.getfield 12, 3) := by decide +kernel
theorem dX3_firstMeeting_66 : decode cX3_firstMeeting 66 = .ok (.invokevirtual 37, 3) := by decide +kernel
theorem dX3_firstMeeting_69 : decode cX3_firstMeeting 69 = .ok (.iinc 4 1, 3) := by decide +kernel
theorem dX3_firstMeeting_72 : decode cX3_firstMeeting 72 = .ok (.goto (-54), 3) := by decide +kernel
theorem dX3_firstMeeting_75 : decode cX3_firstMeeting 75 = .ok (.ldc 44, 2) := by decide +kernel
theorem dX3_firstMeeting_77 : decode cX3_firstMeeting 77 = .ok (.ireturn, 1) := by decide +kernel
theorem dX3_bestStand_0 : decode cX3_bestStand 0 = .ok (.aload_n 0, 1) := by decide +kernel
theorem dX3_bestStand_1 : decode cX3_bestStand 1 = .ok (.getfield 12, 3) := by decide +kernel
theorem dX3_bestStand_4 : decode cX3_bestStand 4 = .ok (.aload_n 1, 1) := by decide +kernel
theorem dX3_bestStand_5 : decode cX3_bestStand 5 = .ok (.invokevirtual 33, 3) := by decide +kernel
theorem dX3_bestStand_8 : decode cX3_bestStand 8 = .ok (.aload_n 0, 1) := by decide +kernel
theorem dX3_bestStand_9 : decode cX3_bestStand 9 = .ok (.getfield 26, 3) := by decide +kernel
theorem dX3_bestStand_12 : decode cX3_bestStand 12 = .ok (.aload_n 1, 1) := by decide +kernel
theorem dX3_bestStand_13 : decode cX3_bestStand 13 = .ok (.invokevirtual 95, 3) := by decide +kernel
theorem dX3_bestStand_16 : decode cX3_bestStand 16 = .ok (.invokestatic 68, 3) := by decide +kernel
theorem dX3_bestStand_19 : decode cX3_bestStand 19 = .ok (.iconst 0, 1) := by decide +kernel
theorem dX3_bestStand_20 : decode cX3_bestStand 20 = .ok (.istore 4, 2) := by decide +kernel
theorem dX3_bestStand_22 : decode cX3_bestStand 22 = .ok (.iload 4, 2) := by decide +kernel
theorem dX3_bestStand_24 : decode cX3_bestStand 24 = .ok (.iload_n 2, 1) := by decide +kernel
theorem dX3_bestStand_25 : decode cX3_bestStand 25 = .ok (.if_icmp .ge 67, 3) := by decide +kernel
theorem dX3_bestStand_28 : decode cX3_bestStand 28 = .ok (.aload_n 0, 1) := by decide +kernel
theorem dX3_bestStand_29 : decode cX3_bestStand 29 = .ok (.getfield 12, 3) := by decide +kernel
theorem dX3_bestStand_32 : decode cX3_bestStand 32 = .ok (.invokevirtual 98, 3) := by decide +kernel
theorem dX3_bestStand_35 : decode cX3_bestStand 35 = .ok (.istore 5, 2) := by decide +kernel
theorem dX3_bestStand_37 : decode cX3_bestStand 37 = .ok (.aload_n 0, 1) := by decide +kernel
theorem dX3_bestStand_38 : decode cX3_bestStand 38 = .ok (.getfield 12, 3) := by decide +kernel
theorem dX3_bestStand_41 : decode cX3_bestStand 41 = .ok (.invokevirtual 37, 3) := by decide +kernel
theorem dX3_bestStand_44 : decode cX3_bestStand 44 = .ok (.iconst 0, 1) := by decide +kernel
theorem dX3_bestStand_45 : decode cX3_bestStand 45 = .ok (.istore 6, 2) := by decide +kernel
theorem dX3_bestStand_47 : decode cX3_bestStand 47 = .ok (.iload 5, 2) := by decide +kernel
theorem dX3_bestStand_49 : decode cX3_bestStand 49 = .ok (.ifCond .eq 37, 3) := by decide +kernel
theorem dX3_bestStand_52 : decode cX3_bestStand 52 = .ok (.iload 6, 2) := by decide +kernel
theorem dX3_bestStand_54 : decode cX3_bestStand 54 = .ok (.aload_n 1, 1) := by decide +kernel
theorem dX3_bestStand_55 : decode cX3_bestStand 55 = .ok (.getfield 74, 3) := by decide +kernel
theorem dX3_bestStand_58 : decode cX3_bestStand 58 = .ok (.if_icmp .ge 28, 3) := by decide +kernel
theorem dX3_bestStand_61 : decode cX3_bestStand 61 = .ok (.aload_n 0, 1) := by decide +kernel
theorem dX3_bestStand_62 : decode cX3_bestStand 62 = .ok (.getfield 26, 3) := by decide +kernel
theorem dX3_bestStand_65 : decode cX3_bestStand 65 = .ok (.iload 6, 2) := by decide +kernel
theorem dX3_bestStand_67 : decode cX3_bestStand 67 = .ok (.dup2, 1) := by decide +kernel
theorem dX3_bestStand_68 : decode cX3_bestStand 68 = .ok (.iaload, 1) := by decide +kernel
theorem dX3_bestStand_69 : decode cX3_bestStand 69 = .ok (.aload_n 0, 1) := by decide +kernel
theorem dX3_bestStand_70 : decode cX3_bestStand 70 = .ok (.getfield 12, 3) := by decide +kernel
theorem dX3_bestStand_73 : decode cX3_bestStand 73 = .ok (.iload 6, 2) := by decide +kernel
theorem dX3_bestStand_75 : decode cX3_bestStand 75 = .ok (.invokevirtual 102, 3) := by decide +kernel
theorem dX3_bestStand_78 : decode cX3_bestStand 78 = .ok (.ior, 1) := by decide +kernel
theorem dX3_bestStand_79 : decode cX3_bestStand 79 = .ok (.iastore, 1) := by decide +kernel
theorem dX3_bestStand_80 : decode cX3_bestStand 80 = .ok (.iinc 6 1, 3) := by decide +kernel
theorem dX3_bestStand_83 : decode cX3_bestStand 83 = .ok (.goto (-36), 3) := by decide +kernel
theorem dX3_bestStand_86 : decode cX3_bestStand 86 = .ok (.iinc 4 1, 3) := by decide +kernel
theorem dX3_bestStand_89 : decode cX3_bestStand 89 = .ok (.goto (-67), 3) := by decide +kernel
theorem dX3_bestStand_92 : decode cX3_bestStand 92 = .ok (.iconst 0, 1) := by decide +kernel
theorem dX3_bestStand_93 : decode cX3_bestStand 93 = .ok (.istore 4, 2) := by decide +kernel
theorem dX3_bestStand_95 : decode cX3_bestStand 95 = .ok (.iconst 1, 1) := by decide +kernel
theorem dX3_bestStand_96 : decode cX3_bestStand 96 = .ok (.istore 5, 2) := by decide +kernel
theorem dX3_bestStand_98 : decode cX3_bestStand 98 = .ok (.iload 5, 2) := by decide +kernel
theorem dX3_bestStand_100 : decode cX3_bestStand 100 = .ok (.aload_n 1, 1) := by decide +kernel
theorem dX3_bestStand_101 : decode cX3_bestStand 101 = .ok (.getfield 74, 3) := by decide +kernel
theorem dX3_bestStand_104 : decode cX3_bestStand 104 = .ok (.if_icmp .ge 36, 3) := by decide +kernel
theorem dX3_bestStand_107 : decode cX3_bestStand 107 = .ok (.aload_n 0, 1) := by decide +kernel
theorem dX3_bestStand_108 : decode cX3_bestStand 108 = .ok (.getfield 26, 3) := by decide +kernel
theorem dX3_bestStand_111 : decode cX3_bestStand 111 = .ok (.iload 5, 2) := by decide +kernel
theorem dX3_bestStand_113 : decode cX3_bestStand 113 = .ok (.iaload, 1) := by decide +kernel
theorem dX3_bestStand_114 : decode cX3_bestStand 114 = .ok (.invokestatic 105, 3) := by decide +kernel
theorem dX3_bestStand_117 : decode cX3_bestStand 117 = .ok (.aload_n 0, 1) := by decide +kernel
theorem dX3_bestStand_118 : decode cX3_bestStand 118 = .ok (.getfield 26, 3) := by decide +kernel
theorem dX3_bestStand_121 : decode cX3_bestStand 121 = .ok (.iload 4, 2) := by decide +kernel
theorem dX3_bestStand_123 : decode cX3_bestStand 123 = .ok (.iaload, 1) := by decide +kernel
theorem dX3_bestStand_124 : decode cX3_bestStand 124 = .ok (.invokestatic 105, 3) := by decide +kernel
theorem dX3_bestStand_127 : decode cX3_bestStand 127 = .ok (.if_icmp .le 7, 3) := by decide +kernel
theorem dX3_bestStand_130 : decode cX3_bestStand 130 = .ok (.iload 5, 2) := by decide +kernel
theorem dX3_bestStand_132 : decode cX3_bestStand 132 = .ok (.istore 4, 2) := by decide +kernel
theorem dX3_bestStand_134 : decode cX3_bestStand 134 = .ok (.iinc 5 1, 3) := by decide +kernel
theorem dX3_bestStand_137 : decode cX3_bestStand 137 = .ok (.goto (-39), 3) := by decide +kernel
theorem dX3_bestStand_140 : decode cX3_bestStand 140 = .ok (.iload_n 3, 1) := by decide +kernel
theorem dX3_bestStand_141 : decode cX3_bestStand 141 = .ok (.ifCond .ne 8, 3) := by decide +kernel
theorem dX3_bestStand_144 : decode cX3_bestStand 144 = .ok (.iload 4, 2) := by decide +kernel
theorem dX3_bestStand_146 : decode cX3_bestStand 146 = .ok (.goto 13, 3) := by decide +kernel
theorem dX3_bestStand_149 : decode cX3_bestStand 149 = .ok (.aload_n 0, 1) := by decide +kernel
theorem dX3_bestStand_150 : decode cX3_bestStand 150 = .ok (.getfield 26, 3) := by decide +kernel
theorem dX3_bestStand_153 : decode cX3_bestStand 153 = .ok (.iload 4, 2) := by decide +kernel
theorem dX3_bestStand_155 : decode cX3_bestStand 155 = .ok (.iaload, 1) := by decide +kernel
theorem dX3_bestStand_156 : decode cX3_bestStand 156 = .ok (.invokestatic 105, 3) := by decide +kernel
theorem dX3_bestStand_159 : decode cX3_bestStand 159 = .ok (.ireturn, 1) := by decide +kernel
theorem dX3_leastAwake_0 : decode cX3_leastAwake 0 = .ok (.aload_n 0, 1) := by decide +kernel
theorem dX3_leastAwake_1 : decode cX3_leastAwake 1 = .ok (.getfield 12, 3) := by decide +kernel
theorem dX3_leastAwake_4 : decode cX3_leastAwake 4 = .ok (.aload_n 1, 1) := by decide +kernel
theorem dX3_leastAwake_5 : decode cX3_leastAwake 5 = .ok (.invokevirtual 33, 3) := by decide +kernel
theorem dX3_leastAwake_8 : decode cX3_leastAwake 8 = .ok (.aload_n 0, 1) := by decide +kernel
theorem dX3_leastAwake_9 : decode cX3_leastAwake 9 = .ok (.getfield 26, 3) := by decide +kernel
theorem dX3_leastAwake_12 : decode cX3_leastAwake 12 = .ok (.iconst 0, 1) := by decide +kernel
theorem dX3_leastAwake_13 : decode cX3_leastAwake 13 = .ok (.invokestatic 68, 3) := by decide +kernel
theorem dX3_leastAwake_16 : decode cX3_leastAwake 16 = .ok (.iconst 0, 1) := by decide +kernel
theorem dX3_leastAwake_17 : decode cX3_leastAwake 17 = .ok (.istore_n 3, 1) := by decide +kernel
theorem dX3_leastAwake_18 : decode cX3_leastAwake 18 = .ok (.iload_n 3, 1) := by decide +kernel
theorem dX3_leastAwake_19 : decode cX3_leastAwake 19 = .ok (.iload_n 2, 1) := by decide +kernel
theorem dX3_leastAwake_20 : decode cX3_leastAwake 20 = .ok (.if_icmp .ge 48, 3) := by decide +kernel
theorem dX3_leastAwake_23 : decode cX3_leastAwake 23 = .ok (.aload_n 0, 1) := by decide +kernel
theorem dX3_leastAwake_24 : decode cX3_leastAwake 24 = .ok (.getfield 12, 3) := by decide +kernel
theorem dX3_leastAwake_27 : decode cX3_leastAwake 27 = .ok (.getfield 110, 3) := by decide +kernel
theorem dX3_leastAwake_30 : decode cX3_leastAwake 30 = .ok (.iconst 3, 1) := by decide +kernel
theorem dX3_leastAwake_31 : decode cX3_leastAwake 31 = .ok (.iand, 1) := by decide +kernel
theorem dX3_leastAwake_32 : decode cX3_leastAwake 32 = .ok (.istore 4, 2) := by decide +kernel
theorem dX3_leastAwake_34 : decode cX3_leastAwake 34 = .ok (.aload_n 0, 1) := by decide +kernel
theorem dX3_leastAwake_35 : decode cX3_leastAwake 35 = .ok (.getfield 12, 3) := by decide +kernel
theorem dX3_leastAwake_38 : decode cX3_leastAwake 38 = .ok (.invokevirtual 37, 3) := by decide +kernel
theorem dX3_leastAwake_41 : decode cX3_leastAwake 41 = .ok (.aload_n 0, 1) := by decide +kernel
theorem dX3_leastAwake_42 : decode cX3_leastAwake 42 = .ok (.getfield 26, 3) := by decide +kernel
theorem dX3_leastAwake_45 : decode cX3_leastAwake 45 = .ok (.iload 4, 2) := by decide +kernel
theorem dX3_leastAwake_47 : decode cX3_leastAwake 47 = .ok (.dup2, 1) := by decide +kernel
theorem dX3_leastAwake_48 : decode cX3_leastAwake 48 = .ok (.iaload, 1) := by decide +kernel
theorem dX3_leastAwake_49 : decode cX3_leastAwake 49 = .ok (.aload_n 0, 1) := by decide +kernel
theorem dX3_leastAwake_50 : decode cX3_leastAwake 50 = .ok (.getfield 12, 3) := by decide +kernel
theorem dX3_leastAwake_53 : decode cX3_leastAwake 53 = .ok (.aload_n 1, 1) := by decide +kernel
theorem dX3_leastAwake_54 : decode cX3_leastAwake 54 = .ok (.getfield 113, 3) := by decide +kernel
theorem dX3_leastAwake_57 : decode cX3_leastAwake 57 = .ok (.invokevirtual 102, 3) := by decide +kernel
theorem dX3_leastAwake_60 : decode cX3_leastAwake 60 = .ok (.ior, 1) := by decide +kernel
theorem dX3_leastAwake_61 : decode cX3_leastAwake 61 = .ok (.iastore, 1) := by decide +kernel
theorem dX3_leastAwake_62 : decode cX3_leastAwake 62 = .ok (.iinc 3 1, 3) := by decide +kernel
theorem dX3_leastAwake_65 : decode cX3_leastAwake 65 = .ok (.goto (-47), 3) := by decide +kernel
theorem dX3_leastAwake_68 : decode cX3_leastAwake 68 = .ok (.aload_n 1, 1) := by decide +kernel
theorem dX3_leastAwake_69 : decode cX3_leastAwake 69 = .ok (.invokevirtual 95, 3) := by decide +kernel
theorem dX3_leastAwake_72 : decode cX3_leastAwake 72 = .ok (.istore_n 3, 1) := by decide +kernel
theorem dX3_leastAwake_73 : decode cX3_leastAwake 73 = .ok (.aload_n 0, 1) := by decide +kernel
theorem dX3_leastAwake_74 : decode cX3_leastAwake 74 = .ok (.bipush 15, 2) := by decide +kernel
theorem dX3_leastAwake_76 : decode cX3_leastAwake 76 = .ok (.iload_n 3, 1) := by decide +kernel
theorem dX3_leastAwake_77 : decode cX3_leastAwake 77 = .ok (.invokevirtual 116, 3) := by decide +kernel
theorem dX3_leastAwake_80 : decode cX3_leastAwake 80 = .ok (.istore 4, 2) := by decide +kernel
theorem dX3_leastAwake_82 : decode cX3_leastAwake 82 = .ok (.bipush 15, 2) := by decide +kernel
theorem dX3_leastAwake_84 : decode cX3_leastAwake 84 = .ok (.istore 5, 2) := by decide +kernel
theorem dX3_leastAwake_86 : decode cX3_leastAwake 86 = .ok (.bipush 14, 2) := by decide +kernel
theorem dX3_leastAwake_88 : decode cX3_leastAwake 88 = .ok (.istore 6, 2) := by decide +kernel
theorem dX3_leastAwake_90 : decode cX3_leastAwake 90 = .ok (.iload 6, 2) := by decide +kernel
theorem dX3_leastAwake_92 : decode cX3_leastAwake 92 = .ok (.ifCond .lt 38, 3) := by decide +kernel
theorem dX3_leastAwake_95 : decode cX3_leastAwake 95 = .ok (.aload_n 0, 1) := by decide +kernel
theorem dX3_leastAwake_96 : decode cX3_leastAwake 96 = .ok (.iload 6, 2) := by decide +kernel
theorem dX3_leastAwake_98 : decode cX3_leastAwake 98 = .ok (.iload_n 3, 1) := by decide +kernel
theorem dX3_leastAwake_99 : decode cX3_leastAwake 99 = .ok (.invokevirtual 116, 3) := by decide +kernel
theorem dX3_leastAwake_102 : decode cX3_leastAwake 102 = .ok (.iload 4, 2) := by decide +kernel
theorem dX3_leastAwake_104 : decode cX3_leastAwake 104 = .ok (.if_icmp .ne 20, 3) := by decide +kernel
theorem dX3_leastAwake_107 : decode cX3_leastAwake 107 = .ok (.iload 6, 2) := by decide +kernel
theorem dX3_leastAwake_109 : decode cX3_leastAwake 109 = .ok (.invokestatic 105, 3) := by decide +kernel
theorem dX3_leastAwake_112 : decode cX3_leastAwake 112 = .ok (.iload 5, 2) := by decide +kernel
theorem dX3_leastAwake_114 : decode cX3_leastAwake 114 = .ok (.invokestatic 105, 3) := by decide +kernel
theorem dX3_leastAwake_117 : decode cX3_leastAwake 117 = .ok (.if_icmp .gt 7, 3) := by decide +kernel
theorem dX3_leastAwake_120 : decode cX3_leastAwake 120 = .ok (.iload 6, 2) := by decide +kernel
theorem dX3_leastAwake_122 : decode cX3_leastAwake 122 = .ok (.istore 5, 2) := by decide +kernel
theorem dX3_leastAwake_124 : decode cX3_leastAwake 124 = .ok (.iinc 6 (-1), 3) := by decide +kernel
theorem dX3_leastAwake_127 : decode cX3_leastAwake 127 = .ok (.goto (-37), 3) := by decide +kernel
theorem dX3_leastAwake_130 : decode cX3_leastAwake 130 = .ok (.iload 5, 2) := by decide +kernel
theorem dX3_leastAwake_132 : decode cX3_leastAwake 132 = .ok (.ireturn, 1) := by decide +kernel
theorem dX3_numberedBy_0 : decode cX3_numberedBy 0 = .ok (.iload_n 2, 1) := by decide +kernel
theorem dX3_numberedBy_1 : decode cX3_numberedBy 1 = .ok (.istore_n 3, 1) := by decide +kernel
theorem dX3_numberedBy_2 : decode cX3_numberedBy 2 = .ok (.iconst 0, 1) := by decide +kernel
theorem dX3_numberedBy_3 : decode cX3_numberedBy 3 = .ok (.istore 4, 2) := by decide +kernel
theorem dX3_numberedBy_5 : decode cX3_numberedBy 5 = .ok (.iload 4, 2) := by decide +kernel
theorem dX3_numberedBy_7 : decode cX3_numberedBy 7 = .ok (.iconst 4, 1) := by decide +kernel
theorem dX3_numberedBy_8 : decode cX3_numberedBy 8 = .ok (.if_icmp .ge 32, 3) := by decide +kernel
theorem dX3_numberedBy_11 : decode cX3_numberedBy 11 = .ok (.iload_n 3, 1) := by decide +kernel
theorem dX3_numberedBy_12 : decode cX3_numberedBy 12 = .ok (.iload_n 1, 1) := by decide +kernel
theorem dX3_numberedBy_13 : decode cX3_numberedBy 13 = .ok (.iload 4, 2) := by decide +kernel
theorem dX3_numberedBy_15 : decode cX3_numberedBy 15 = .ok (.ishr, 1) := by decide +kernel
theorem dX3_numberedBy_16 : decode cX3_numberedBy 16 = .ok (.iconst 1, 1) := by decide +kernel
theorem dX3_numberedBy_17 : decode cX3_numberedBy 17 = .ok (.iand, 1) := by decide +kernel
theorem dX3_numberedBy_18 : decode cX3_numberedBy 18 = .ok (.ifCond .eq 13, 3) := by decide +kernel
theorem dX3_numberedBy_21 : decode cX3_numberedBy 21 = .ok (.aload_n 0, 1) := by decide +kernel
theorem dX3_numberedBy_22 : decode cX3_numberedBy 22 = .ok (.getfield 26, 3) := by decide +kernel
theorem dX3_numberedBy_25 : decode cX3_numberedBy 25 = .ok (.iload 4, 2) := by decide +kernel
theorem dX3_numberedBy_27 : decode cX3_numberedBy 27 = .ok (.iaload, 1) := by decide +kernel
theorem dX3_numberedBy_28 : decode cX3_numberedBy 28 = .ok (.goto 4, 3) := by decide +kernel
theorem dX3_numberedBy_31 : decode cX3_numberedBy 31 = .ok (.iconst 0, 1) := by decide +kernel
theorem dX3_numberedBy_32 : decode cX3_numberedBy 32 = .ok (.ior, 1) := by decide +kernel
theorem dX3_numberedBy_33 : decode cX3_numberedBy 33 = .ok (.istore_n 3, 1) := by decide +kernel
theorem dX3_numberedBy_34 : decode cX3_numberedBy 34 = .ok (.iinc 4 1, 3) := by decide +kernel
theorem dX3_numberedBy_37 : decode cX3_numberedBy 37 = .ok (.goto (-32), 3) := by decide +kernel
theorem dX3_numberedBy_40 : decode cX3_numberedBy 40 = .ok (.iload_n 3, 1) := by decide +kernel
theorem dX3_numberedBy_41 : decode cX3_numberedBy 41 = .ok (.invokestatic 105, 3) := by decide +kernel
theorem dX3_numberedBy_44 : decode cX3_numberedBy 44 = .ok (.ireturn, 1) := by decide +kernel
theorem dX3_outcomeOfTurns_0 : decode cX3_outcomeOfTurns 0 = .ok (.aload_n 0, 1) := by decide +kernel
theorem dX3_outcomeOfTurns_1 : decode cX3_outcomeOfTurns 1 = .ok (.aload_n 1, 1) := by decide +kernel
theorem dX3_outcomeOfTurns_2 : decode cX3_outcomeOfTurns 2 = .ok (.iload_n 3, 1) := by decide +kernel
theorem dX3_outcomeOfTurns_3 : decode cX3_outcomeOfTurns 3 = .ok (.invokevirtual 119, 3) := by decide +kernel
theorem dX3_outcomeOfTurns_6 : decode cX3_outcomeOfTurns 6 = .ok (.pop, 1) := by decide +kernel
theorem dX3_outcomeOfTurns_7 : decode cX3_outcomeOfTurns 7 = .ok (.aload_n 0, 1) := by decide +kernel
theorem dX3_outcomeOfTurns_8 : decode cX3_outcomeOfTurns 8 = .ok (.aload_n 0, 1) := by decide +kernel
theorem dX3_outcomeOfTurns_9 : decode cX3_outcomeOfTurns 9 = .ok (.getfield 20, 3) := by decide +kernel
theorem dX3_outcomeOfTurns_12 : decode cX3_outcomeOfTurns 12 = .ok (.iconst 0, 1) := by decide +kernel
theorem dX3_outcomeOfTurns_13 : decode cX3_outcomeOfTurns 13 = .ok (.aaload, 1) := by decide +kernel
theorem dX3_outcomeOfTurns_14 : decode cX3_outcomeOfTurns 14 = .ok (.invokevirtual 64, 3) := by decide +kernel
theorem dX3_outcomeOfTurns_17 : decode cX3_outcomeOfTurns 17 = .ok (.aload_n 0, 1) := by decide +kernel
theorem dX3_outcomeOfTurns_18 : decode cX3_outcomeOfTurns 18 = .ok (.getfield 12, 3) := by decide +kernel
theorem dX3_outcomeOfTurns_21 : decode cX3_outcomeOfTurns 21 = .ok (.aload_n 1, 1) := by decide +kernel
theorem dX3_outcomeOfTurns_22 : decode cX3_outcomeOfTurns 22 = .ok (.invokevirtual 33, 3) := by decide +kernel
theorem dX3_outcomeOfTurns_25 : decode cX3_outcomeOfTurns 25 = .ok (.aload_n 1, 1) := by decide +kernel
theorem dX3_outcomeOfTurns_26 : decode cX3_outcomeOfTurns 26 = .ok (.invokevirtual 123, 3) := by decide +kernel
theorem dX3_outcomeOfTurns_29 : decode cX3_outcomeOfTurns 29 = .ok (.istore 4, 2) := by decide +kernel
theorem dX3_outcomeOfTurns_31 : decode cX3_outcomeOfTurns 31 = .ok (.aload_n 0, 1) := by decide +kernel
theorem dX3_outcomeOfTurns_32 : decode cX3_outcomeOfTurns 32 = .ok (.getfield 12, 3) := by decide +kernel
theorem dX3_outcomeOfTurns_35 : decode cX3_outcomeOfTurns 35 = .ok (.getfield 126, 3) := by decide +kernel
theorem dX3_outcomeOfTurns_38 : decode cX3_outcomeOfTurns 38 = .ok (.iload 4, 2) := by decide +kernel
theorem dX3_outcomeOfTurns_40 : decode cX3_outcomeOfTurns 40 = .ok (.iconst 4, 1) := by decide +kernel
theorem dX3_outcomeOfTurns_41 : decode cX3_outcomeOfTurns 41 = .ok (.aload_n 1, 1) := by decide +kernel
theorem dX3_outcomeOfTurns_42 : decode cX3_outcomeOfTurns 42 = .ok (.getfield 126, 3) := by decide +kernel
theorem dX3_outcomeOfTurns_45 : decode cX3_outcomeOfTurns 45 = .ok (.iload 4, 2) := by decide +kernel
theorem dX3_outcomeOfTurns_47 : decode cX3_outcomeOfTurns 47 = .ok (.iaload, 1) := by decide +kernel
theorem dX3_outcomeOfTurns_48 : decode cX3_outcomeOfTurns 48 = .ok (.isub, 1) := by decide +kernel
theorem dX3_outcomeOfTurns_49 : decode cX3_outcomeOfTurns 49 = .ok (.iastore, 1) := by decide +kernel
theorem dX3_outcomeOfTurns_50 : decode cX3_outcomeOfTurns 50 = .ok (.iconst 0, 1) := by decide +kernel
theorem dX3_outcomeOfTurns_51 : decode cX3_outcomeOfTurns 51 = .ok (.istore 5, 2) := by decide +kernel
theorem dX3_outcomeOfTurns_53 : decode cX3_outcomeOfTurns 53 = .ok (.iload 5, 2) := by decide +kernel
theorem dX3_outcomeOfTurns_55 : decode cX3_outcomeOfTurns 55 = .ok (.iload_n 3, 1) := by decide +kernel
theorem dX3_outcomeOfTurns_56 : decode cX3_outcomeOfTurns 56 = .ok (.if_icmp .ge 16, 3) := by decide +kernel
theorem dX3_outcomeOfTurns_59 : decode cX3_outcomeOfTurns 59 = .ok (.aload_n 0, 1) := by decide +kernel
theorem dX3_outcomeOfTurns_60 : decode cX3_outcomeOfTurns 60 = .ok (.getfield 12, 3) := by decide +kernel
theorem dX3_outcomeOfTurns_63 : decode cX3_outcomeOfTurns 63 = .ok (.invokevirtual 37, 3) := by decide +kernel
theorem dX3_outcomeOfTurns_66 : decode cX3_outcomeOfTurns 66 = .ok (.iinc 5 1, 3) := by decide +kernel
theorem dX3_outcomeOfTurns_69 : decode cX3_outcomeOfTurns 69 = .ok (.goto (-16), 3) := by decide +kernel
theorem dX3_outcomeOfTurns_72 : decode cX3_outcomeOfTurns 72 = .ok (.aload_n 0, 1) := by decide +kernel
theorem dX3_outcomeOfTurns_73 : decode cX3_outcomeOfTurns 73 = .ok (.aload_n 0, 1) := by decide +kernel
theorem dX3_outcomeOfTurns_74 : decode cX3_outcomeOfTurns 74 = .ok (.getfield 20, 3) := by decide +kernel
theorem dX3_outcomeOfTurns_77 : decode cX3_outcomeOfTurns 77 = .ok (.iconst 1, 1) := by decide +kernel
theorem dX3_outcomeOfTurns_78 : decode cX3_outcomeOfTurns 78 = .ok (.aaload, 1) := by decide +kernel
theorem dX3_outcomeOfTurns_79 : decode cX3_outcomeOfTurns 79 = .ok (.invokevirtual 64, 3) := by decide +kernel
theorem dX3_outcomeOfTurns_82 : decode cX3_outcomeOfTurns 82 = .ok (.aload_n 0, 1) := by decide +kernel
theorem dX3_outcomeOfTurns_83 : decode cX3_outcomeOfTurns 83 = .ok (.iload_n 2, 1) := by decide +kernel
theorem dX3_outcomeOfTurns_84 : decode cX3_outcomeOfTurns 84 = .ok (.aload_n 1, 1) := by decide +kernel
theorem dX3_outcomeOfTurns_85 : decode cX3_outcomeOfTurns 85 = .ok (.getfield 56, 3) := by decide +kernel
theorem dX3_outcomeOfTurns_88 : decode cX3_outcomeOfTurns 88 = .ok (.iconst 0, 1) := by decide +kernel
theorem dX3_outcomeOfTurns_89 : decode cX3_outcomeOfTurns 89 = .ok (.invokevirtual 129, 3) := by decide +kernel
theorem dX3_outcomeOfTurns_92 : decode cX3_outcomeOfTurns 92 = .ok (.ireturn, 1) := by decide +kernel
theorem dX3_walkersTurn_0 : decode cX3_walkersTurn 0 = .ok (.iload_n 1, 1) := by decide +kernel
theorem dX3_walkersTurn_1 : decode cX3_walkersTurn 1 = .ok (.ifCond .gt 12, 3) := by decide +kernel
theorem dX3_walkersTurn_4 : decode cX3_walkersTurn 4 = .ok (.aload_n 0, 1) := by decide +kernel
theorem dX3_walkersTurn_5 : decode cX3_walkersTurn 5 = .ok (.getfield 20, 3) := by decide +kernel
theorem dX3_walkersTurn_8 : decode cX3_walkersTurn 8 = .ok (.iload_n 3, 1) := by decide +kernel
theorem dX3_walkersTurn_9 : decode cX3_walkersTurn 9 = .ok (.aaload, 1) := by decide +kernel
theorem dX3_walkersTurn_10 : decode cX3_walkersTurn 10 = .ok (.iload_n 2, 1) := by decide +kernel
theorem dX3_walkersTurn_11 : decode cX3_walkersTurn 11 = .ok (.iaload, 1) := by decide +kernel
theorem dX3_walkersTurn_12 : decode cX3_walkersTurn 12 = .ok (.ireturn, 1) := by decide +kernel
theorem dX3_walkersTurn_13 : decode cX3_walkersTurn 13 = .ok (.aload_n 0, 1) := by decide +kernel
theorem dX3_walkersTurn_14 : decode cX3_walkersTurn 14 = .ok (.iload_n 1, 1) := by decide +kernel
theorem dX3_walkersTurn_15 : decode cX3_walkersTurn 15 = .ok (.iconst 1, 1) := by decide +kernel
theorem dX3_walkersTurn_16 : decode cX3_walkersTurn 16 = .ok (.isub, 1) := by decide +kernel
theorem dX3_walkersTurn_17 : decode cX3_walkersTurn 17 = .ok (.iload_n 2, 1) := by decide +kernel
theorem dX3_walkersTurn_18 : decode cX3_walkersTurn 18 = .ok (.iload_n 3, 1) := by decide +kernel
theorem dX3_walkersTurn_19 : decode cX3_walkersTurn 19 = .ok (.invokevirtual 133, 3) := by decide +kernel
theorem dX3_walkersTurn_22 : decode cX3_walkersTurn 22 = .ok (.istore 4, 2) := by decide +kernel
theorem dX3_walkersTurn_24 : decode cX3_walkersTurn 24 = .ok (.iload_n 2, 1) := by decide +kernel
theorem dX3_walkersTurn_25 : decode cX3_walkersTurn 25 = .ok (.ifCond .le 21, 3) := by decide +kernel
theorem dX3_walkersTurn_28 : decode cX3_walkersTurn 28 = .ok (.iload 4, 2) := by decide +kernel
theorem dX3_walkersTurn_30 : decode cX3_walkersTurn 30 = .ok (.aload_n 0, 1) := by decide +kernel
theorem dX3_walkersTurn_31 : decode cX3_walkersTurn 31 = .ok (.iload_n 1, 1) := by decide +kernel
theorem dX3_walkersTurn_32 : decode cX3_walkersTurn 32 = .ok (.iconst 1, 1) := by decide +kernel
theorem dX3_walkersTurn_33 : decode cX3_walkersTurn 33 = .ok (.isub, 1) := by decide +kernel
theorem dX3_walkersTurn_34 : decode cX3_walkersTurn 34 = .ok (.iload_n 2, 1) := by decide +kernel
theorem dX3_walkersTurn_35 : decode cX3_walkersTurn 35 = .ok (.iconst 1, 1) := by decide +kernel
theorem dX3_walkersTurn_36 : decode cX3_walkersTurn 36 = .ok (.isub, 1) := by decide +kernel
theorem dX3_walkersTurn_37 : decode cX3_walkersTurn 37 = .ok (.iload_n 3, 1) := by decide +kernel
theorem dX3_walkersTurn_38 : decode cX3_walkersTurn 38 = .ok (.invokevirtual 133, 3) := by decide +kernel
theorem dX3_walkersTurn_41 : decode cX3_walkersTurn 41 = .ok (.invokestatic 89, 3) := by decide +kernel
theorem dX3_walkersTurn_44 : decode cX3_walkersTurn 44 = .ok (.istore 4, 2) := by decide +kernel
theorem dX3_walkersTurn_46 : decode cX3_walkersTurn 46 = .ok (.iload_n 2, 1) := by decide +kernel
theorem dX3_walkersTurn_47 : decode cX3_walkersTurn 47 = .ok (.aload_n 0, 1) := by decide +kernel
theorem dX3_walkersTurn_48 : decode cX3_walkersTurn 48 = .ok (.getfield 12, 3) := by decide +kernel
theorem dX3_walkersTurn_51 : decode cX3_walkersTurn 51 = .ok (.getfield 74, 3) := by decide +kernel
theorem dX3_walkersTurn_54 : decode cX3_walkersTurn 54 = .ok (.iconst 1, 1) := by decide +kernel
theorem dX3_walkersTurn_55 : decode cX3_walkersTurn 55 = .ok (.isub, 1) := by decide +kernel
theorem dX3_walkersTurn_56 : decode cX3_walkersTurn 56 = .ok (.if_icmp .ge 21, 3) := by decide +kernel
theorem dX3_walkersTurn_59 : decode cX3_walkersTurn 59 = .ok (.iload 4, 2) := by decide +kernel
theorem dX3_walkersTurn_61 : decode cX3_walkersTurn 61 = .ok (.aload_n 0, 1) := by decide +kernel
theorem dX3_walkersTurn_62 : decode cX3_walkersTurn 62 = .ok (.iload_n 1, 1) := by decide +kernel
theorem dX3_walkersTurn_63 : decode cX3_walkersTurn 63 = .ok (.iconst 1, 1) := by decide +kernel
theorem dX3_walkersTurn_64 : decode cX3_walkersTurn 64 = .ok (.isub, 1) := by decide +kernel
theorem dX3_walkersTurn_65 : decode cX3_walkersTurn 65 = .ok (.iload_n 2, 1) := by decide +kernel
theorem dX3_walkersTurn_66 : decode cX3_walkersTurn 66 = .ok (.iconst 1, 1) := by decide +kernel
theorem dX3_walkersTurn_67 : decode cX3_walkersTurn 67 = .ok (.iadd, 1) := by decide +kernel
theorem dX3_walkersTurn_68 : decode cX3_walkersTurn 68 = .ok (.iload_n 3, 1) := by decide +kernel
theorem dX3_walkersTurn_69 : decode cX3_walkersTurn 69 = .ok (.invokevirtual 133, 3) := by decide +kernel
theorem dX3_walkersTurn_72 : decode cX3_walkersTurn 72 = .ok (.invokestatic 89, 3) := by decide +kernel
theorem dX3_walkersTurn_75 : decode cX3_walkersTurn 75 = .ok (.istore 4, 2) := by decide +kernel
theorem dX3_walkersTurn_77 : decode cX3_walkersTurn 77 = .ok (.iload 4, 2) := by decide +kernel
theorem dX3_walkersTurn_79 : decode cX3_walkersTurn 79 = .ok (.ireturn, 1) := by decide +kernel
theorem dX3_courtsTurn_0 : decode cX3_courtsTurn 0 = .ok (.iload_n 1, 1) := by decide +kernel
theorem dX3_courtsTurn_1 : decode cX3_courtsTurn 1 = .ok (.ifCond .gt 12, 3) := by decide +kernel
theorem dX3_courtsTurn_4 : decode cX3_courtsTurn 4 = .ok (.aload_n 0, 1) := by decide +kernel
theorem dX3_courtsTurn_5 : decode cX3_courtsTurn 5 = .ok (.getfield 20, 3) := by decide +kernel
theorem dX3_courtsTurn_8 : decode cX3_courtsTurn 8 = .ok (.iload_n 3, 1) := by decide +kernel
theorem dX3_courtsTurn_9 : decode cX3_courtsTurn 9 = .ok (.aaload, 1) := by decide +kernel
theorem dX3_courtsTurn_10 : decode cX3_courtsTurn 10 = .ok (.iload_n 2, 1) := by decide +kernel
theorem dX3_courtsTurn_11 : decode cX3_courtsTurn 11 = .ok (.iaload, 1) := by decide +kernel
theorem dX3_courtsTurn_12 : decode cX3_courtsTurn 12 = .ok (.ireturn, 1) := by decide +kernel
theorem dX3_courtsTurn_13 : decode cX3_courtsTurn 13 = .ok (.aload_n 0, 1) := by decide +kernel
theorem dX3_courtsTurn_14 : decode cX3_courtsTurn 14 = .ok (.iload_n 1, 1) := by decide +kernel
theorem dX3_courtsTurn_15 : decode cX3_courtsTurn 15 = .ok (.iconst 1, 1) := by decide +kernel
theorem dX3_courtsTurn_16 : decode cX3_courtsTurn 16 = .ok (.isub, 1) := by decide +kernel
theorem dX3_courtsTurn_17 : decode cX3_courtsTurn 17 = .ok (.iload_n 2, 1) := by decide +kernel
theorem dX3_courtsTurn_18 : decode cX3_courtsTurn 18 = .ok (.iload_n 3, 1) := by decide +kernel
theorem dX3_courtsTurn_19 : decode cX3_courtsTurn 19 = .ok (.invokevirtual 129, 3) := by decide +kernel
theorem dX3_courtsTurn_22 : decode cX3_courtsTurn 22 = .ok (.aload_n 0, 1) := by decide +kernel
theorem dX3_courtsTurn_23 : decode cX3_courtsTurn 23 = .ok (.iload_n 1, 1) := by decide +kernel
theorem dX3_courtsTurn_24 : decode cX3_courtsTurn 24 = .ok (.iconst 1, 1) := by decide +kernel
theorem dX3_courtsTurn_25 : decode cX3_courtsTurn 25 = .ok (.isub, 1) := by decide +kernel
theorem dX3_courtsTurn_26 : decode cX3_courtsTurn 26 = .ok (.iload_n 2, 1) := by decide +kernel
theorem dX3_courtsTurn_27 : decode cX3_courtsTurn 27 = .ok (.iconst 1, 1) := by decide +kernel
theorem dX3_courtsTurn_28 : decode cX3_courtsTurn 28 = .ok (.iload_n 3, 1) := by decide +kernel
theorem dX3_courtsTurn_29 : decode cX3_courtsTurn 29 = .ok (.isub, 1) := by decide +kernel
theorem dX3_courtsTurn_30 : decode cX3_courtsTurn 30 = .ok (.invokevirtual 129, 3) := by decide +kernel
theorem dX3_courtsTurn_33 : decode cX3_courtsTurn 33 = .ok (.invokestatic 84, 3) := by decide +kernel
theorem dX3_courtsTurn_36 : decode cX3_courtsTurn 36 = .ok (.ireturn, 1) := by decide +kernel
theorem dX3_hear_0 : decode cX3_hear 0 = .ok (.aload_n 0, 1) := by decide +kernel
theorem dX3_hear_1 : decode cX3_hear 1 = .ok (.iload_n 3, 1) := by decide +kernel
theorem dX3_hear_2 : decode cX3_hear 2 = .ok (.bipush 12, 2) := by decide +kernel
theorem dX3_hear_4 : decode cX3_hear 4 = .ok (.invokestatic 89, 3) := by decide +kernel
theorem dX3_hear_7 : decode cX3_hear 7 = .ok (.putfield 136, 3) := by decide +kernel
theorem dX3_hear_10 : decode cX3_hear 10 = .ok (.aload_n 1, 1) := by decide +kernel
theorem dX3_hear_11 : decode cX3_hear 11 = .ok (.getfield 139, 3) := by decide +kernel
theorem dX3_hear_14 : decode cX3_hear 14 = .ok (.iload_n 2, 1) := by decide +kernel
theorem dX3_hear_15 : decode cX3_hear 15 = .ok (.aload_n 0, 1) := by decide +kernel
theorem dX3_hear_16 : decode cX3_hear 16 = .ok (.getfield 30, 3) := by decide +kernel
theorem dX3_hear_19 : decode cX3_hear 19 = .ok (.iconst 0, 1) := by decide +kernel
theorem dX3_hear_20 : decode cX3_hear 20 = .ok (.aload_n 0, 1) := by decide +kernel
theorem dX3_hear_21 : decode cX3_hear 21 = .ok (.getfield 136, 3) := by decide +kernel
theorem dX3_hear_24 : decode cX3_hear 24 = .ok (.invokestatic 144, 3) := by decide +kernel
theorem dX3_hear_27 : decode cX3_hear 27 = .ok (.return_, 1) := by decide +kernel
theorem dX3_fitting_0 : decode cX3_fitting 0 = .ok (.iload_n 2, 1) := by decide +kernel
theorem dX3_fitting_1 : decode cX3_fitting 1 = .ok (.iconst 1, 1) := by decide +kernel
theorem dX3_fitting_2 : decode cX3_fitting 2 = .ok (.if_icmp .eq 8, 3) := by decide +kernel
theorem dX3_fitting_5 : decode cX3_fitting 5 = .ok (.iload_n 2, 1) := by decide +kernel
theorem dX3_fitting_6 : decode cX3_fitting 6 = .ok (.iconst 3, 1) := by decide +kernel
theorem dX3_fitting_7 : decode cX3_fitting 7 = .ok (.if_icmp .ne 7, 3) := by decide +kernel
theorem dX3_fitting_10 : decode cX3_fitting 10 = .ok (.iconst 0, 1) := by decide +kernel
theorem dX3_fitting_11 : decode cX3_fitting 11 = .ok (.goto 4, 3) := by decide +kernel
theorem dX3_fitting_14 : decode cX3_fitting 14 = .ok (.iconst 1, 1) := by decide +kernel
theorem dX3_fitting_15 : decode cX3_fitting 15 = .ok (.istore 4, 2) := by decide +kernel
theorem dX3_fitting_17 : decode cX3_fitting 17 = .ok (.aload_n 1, 1) := by decide +kernel
theorem dX3_fitting_18 : decode cX3_fitting 18 = .ok (.iload_n 2, 1) := by decide +kernel
theorem dX3_fitting_19 : decode cX3_fitting 19 = .ok (.invokestatic 150, 3) := by decide +kernel
theorem dX3_fitting_22 : decode cX3_fitting 22 = .ok (.istore 5, 2) := by decide +kernel
theorem dX3_fitting_24 : decode cX3_fitting 24 = .ok (.iconst 0, 1) := by decide +kernel
theorem dX3_fitting_25 : decode cX3_fitting 25 = .ok (.istore 6, 2) := by decide +kernel
theorem dX3_fitting_27 : decode cX3_fitting 27 = .ok (.iload 4, 2) := by decide +kernel
theorem dX3_fitting_29 : decode cX3_fitting 29 = .ok (.istore 7, 2) := by decide +kernel
theorem dX3_fitting_31 : decode cX3_fitting 31 = .ok (.iload 7, 2) := by decide +kernel
theorem dX3_fitting_33 : decode cX3_fitting 33 = .ok (.iload 5, 2) := by decide +kernel
theorem dX3_fitting_35 : decode cX3_fitting 35 = .ok (.if_icmp .gt 45, 3) := by decide +kernel
theorem dX3_fitting_38 : decode cX3_fitting 38 = .ok (.aload_n 0, 1) := by decide +kernel
theorem dX3_fitting_39 : decode cX3_fitting 39 = .ok (.getfield 12, 3) := by decide +kernel
theorem dX3_fitting_42 : decode cX3_fitting 42 = .ok (.aload_n 1, 1) := by decide +kernel
theorem dX3_fitting_43 : decode cX3_fitting 43 = .ok (.invokevirtual 33, 3) := by decide +kernel
theorem dX3_fitting_46 : decode cX3_fitting 46 = .ok (.aload_n 0, 1) := by decide +kernel
theorem dX3_fitting_47 : decode cX3_fitting 47 = .ok (.iload_n 2, 1) := by decide +kernel
theorem dX3_fitting_48 : decode cX3_fitting 48 = .ok (.iload_n 3, 1) := by decide +kernel
theorem dX3_fitting_49 : decode cX3_fitting 49 = .ok (.iload 7, 2) := by decide +kernel
theorem dX3_fitting_51 : decode cX3_fitting 51 = .ok (.invokevirtual 154, 3) := by decide +kernel
theorem dX3_fitting_54 : decode cX3_fitting 54 = .ok (.iload 6, 2) := by decide +kernel
theorem dX3_fitting_56 : decode cX3_fitting 56 = .ok (.aload_n 0, 1) := by decide +kernel
theorem dX3_fitting_57 : decode cX3_fitting 57 = .ok (.invokevirtual 158, 3) := by decide +kernel
theorem dX3_fitting_60 : decode cX3_fitting 60 = .ok (.ifCond .eq 10, 3) := by decide +kernel
theorem dX3_fitting_63 : decode cX3_fitting 63 = .ok (.iconst 1, 1) := by decide +kernel
theorem dX3_fitting_64 : decode cX3_fitting 64 = .ok (.iload 7, 2) := by decide +kernel
theorem dX3_fitting_66 : decode cX3_fitting 66 = .ok (.ishl, 1) := by decide +kernel
theorem dX3_fitting_67 : decode cX3_fitting 67 = .ok (.goto 4, 3) := by decide +kernel
theorem dX3_fitting_70 : decode cX3_fitting 70 = .ok (.iconst 0, 1) := by decide +kernel
theorem dX3_fitting_71 : decode cX3_fitting 71 = .ok (.ior, 1) := by decide +kernel
theorem dX3_fitting_72 : decode cX3_fitting 72 = .ok (.istore 6, 2) := by decide +kernel
theorem dX3_fitting_74 : decode cX3_fitting 74 = .ok (.iinc 7 1, 3) := by decide +kernel
theorem dX3_fitting_77 : decode cX3_fitting 77 = .ok (.goto (-46), 3) := by decide +kernel
theorem dX3_fitting_80 : decode cX3_fitting 80 = .ok (.iload 6, 2) := by decide +kernel
theorem dX3_fitting_82 : decode cX3_fitting 82 = .ok (.ireturn, 1) := by decide +kernel
theorem dX3_mostOf_0 : decode cX3_mostOf 0 = .ok (.iload_n 1, 1) := by decide +kernel
theorem dX3_mostOf_1 : decode cX3_mostOf 1 = .ok (.tableswitch 39 0 2 #[27, 29, 36], 27) := by decide +kernel
theorem dX3_mostOf_28 : decode cX3_mostOf 28 = .ok (.iconst 5, 1) := by decide +kernel
theorem dX3_mostOf_29 : decode cX3_mostOf 29 = .ok (.ireturn, 1) := by decide +kernel
theorem dX3_mostOf_30 : decode cX3_mostOf 30 = .ok (.aload_n 0, 1) := by decide +kernel
theorem dX3_mostOf_31 : decode cX3_mostOf 31 = .ok (.getfield 74, 3) := by decide +kernel
theorem dX3_mostOf_34 : decode cX3_mostOf 34 = .ok (.iconst 1, 1) := by decide +kernel
theorem dX3_mostOf_35 : decode cX3_mostOf 35 = .ok (.isub, 1) := by decide +kernel
theorem dX3_mostOf_36 : decode cX3_mostOf 36 = .ok (.ireturn, 1) := by decide +kernel
theorem dX3_mostOf_37 : decode cX3_mostOf 37 = .ok (.bipush 9, 2) := by decide +kernel
theorem dX3_mostOf_39 : decode cX3_mostOf 39 = .ok (.ireturn, 1) := by decide +kernel
theorem dX3_mostOf_40 : decode cX3_mostOf 40 = .ok (.iconst 4, 1) := by decide +kernel
theorem dX3_mostOf_41 : decode cX3_mostOf 41 = .ok (.ireturn, 1) := by decide +kernel
theorem dX3_suppose_0 : decode cX3_suppose 0 = .ok (.iload_n 1, 1) := by decide +kernel
theorem dX3_suppose_1 : decode cX3_suppose 1 = .ok (.tableswitch 66 0 2 #[27, 40, 53], 27) := by decide +kernel
theorem dX3_suppose_28 : decode cX3_suppose 28 = .ok (.aload_n 0, 1) := by decide +kernel
theorem dX3_suppose_29 : decode cX3_suppose 29 = .ok (.getfield 12, 3) := by decide +kernel
theorem dX3_suppose_32 : decode cX3_suppose 32 = .ok (.getfield 161, 3) := by decide +kernel
theorem dX3_suppose_35 : decode cX3_suppose 35 = .ok (.iload_n 2, 1) := by decide +kernel
theorem dX3_suppose_36 : decode cX3_suppose 36 = .ok (.iload_n 3, 1) := by decide +kernel
theorem dX3_suppose_37 : decode cX3_suppose 37 = .ok (.iastore, 1) := by decide +kernel
theorem dX3_suppose_38 : decode cX3_suppose 38 = .ok (.goto 39, 3) := by decide +kernel
theorem dX3_suppose_41 : decode cX3_suppose 41 = .ok (.aload_n 0, 1) := by decide +kernel
theorem dX3_suppose_42 : decode cX3_suppose 42 = .ok (.getfield 12, 3) := by decide +kernel
theorem dX3_suppose_45 : decode cX3_suppose 45 = .ok (.getfield 164, 3) := by decide +kernel
theorem dX3_suppose_48 : decode cX3_suppose 48 = .ok (.iload_n 2, 1) := by decide +kernel
theorem dX3_suppose_49 : decode cX3_suppose 49 = .ok (.iload_n 3, 1) := by decide +kernel
theorem dX3_suppose_50 : decode cX3_suppose 50 = .ok (.iastore, 1) := by decide +kernel
theorem dX3_suppose_51 : decode cX3_suppose 51 = .ok (.goto 26, 3) := by decide +kernel
theorem dX3_suppose_54 : decode cX3_suppose 54 = .ok (.aload_n 0, 1) := by decide +kernel
theorem dX3_suppose_55 : decode cX3_suppose 55 = .ok (.getfield 12, 3) := by decide +kernel
theorem dX3_suppose_58 : decode cX3_suppose 58 = .ok (.getfield 167, 3) := by decide +kernel
theorem dX3_suppose_61 : decode cX3_suppose 61 = .ok (.iload_n 2, 1) := by decide +kernel
theorem dX3_suppose_62 : decode cX3_suppose 62 = .ok (.iload_n 3, 1) := by decide +kernel
theorem dX3_suppose_63 : decode cX3_suppose 63 = .ok (.iastore, 1) := by decide +kernel
theorem dX3_suppose_64 : decode cX3_suppose 64 = .ok (.goto 13, 3) := by decide +kernel
theorem dX3_suppose_67 : decode cX3_suppose 67 = .ok (.aload_n 0, 1) := by decide +kernel
theorem dX3_suppose_68 : decode cX3_suppose 68 = .ok (.getfield 12, 3) := by decide +kernel
theorem dX3_suppose_71 : decode cX3_suppose 71 = .ok (.getfield 126, 3) := by decide +kernel
theorem dX3_suppose_74 : decode cX3_suppose 74 = .ok (.iload_n 2, 1) := by decide +kernel
theorem dX3_suppose_75 : decode cX3_suppose 75 = .ok (.iload_n 3, 1) := by decide +kernel
theorem dX3_suppose_76 : decode cX3_suppose 76 = .ok (.iastore, 1) := by decide +kernel
theorem dX3_suppose_77 : decode cX3_suppose 77 = .ok (.return_, 1) := by decide +kernel
theorem dX3_isAsTold_0 : decode cX3_isAsTold 0 = .ok (.iconst 0, 1) := by decide +kernel
theorem dX3_isAsTold_1 : decode cX3_isAsTold 1 = .ok (.istore_n 1, 1) := by decide +kernel
theorem dX3_isAsTold_2 : decode cX3_isAsTold 2 = .ok (.iload_n 1, 1) := by decide +kernel
theorem dX3_isAsTold_3 : decode cX3_isAsTold 3 = .ok (.aload_n 0, 1) := by decide +kernel
theorem dX3_isAsTold_4 : decode cX3_isAsTold 4 = .ok (.getfield 136, 3) := by decide +kernel
theorem dX3_isAsTold_7 : decode cX3_isAsTold 7 = .ok (.if_icmp .ge 41, 3) := by decide +kernel
theorem dX3_isAsTold_10 : decode cX3_isAsTold 10 = .ok (.aload_n 0, 1) := by decide +kernel
theorem dX3_isAsTold_11 : decode cX3_isAsTold 11 = .ok (.getfield 12, 3) := by decide +kernel
theorem dX3_isAsTold_14 : decode cX3_isAsTold 14 = .ok (.invokevirtual 37, 3) := by decide +kernel
theorem dX3_isAsTold_17 : decode cX3_isAsTold 17 = .ok (.aload_n 0, 1) := by decide +kernel
theorem dX3_isAsTold_18 : decode cX3_isAsTold 18 = .ok (.getfield 12, 3) := by decide +kernel
theorem dX3_isAsTold_21 : decode cX3_isAsTold 21 = .ok (.aload_n 0, 1) := by decide +kernel
theorem dX3_isAsTold_22 : decode cX3_isAsTold 22 = .ok (.getfield 12, 3) := by decide +kernel
theorem dX3_isAsTold_25 : decode cX3_isAsTold 25 = .ok (.getfield 56, 3) := by decide +kernel
theorem dX3_isAsTold_28 : decode cX3_isAsTold 28 = .ok (.invokevirtual 80, 3) := by decide +kernel
theorem dX3_isAsTold_31 : decode cX3_isAsTold 31 = .ok (.aload_n 0, 1) := by decide +kernel
theorem dX3_isAsTold_32 : decode cX3_isAsTold 32 = .ok (.getfield 30, 3) := by decide +kernel
theorem dX3_isAsTold_35 : decode cX3_isAsTold 35 = .ok (.iload_n 1, 1) := by decide +kernel
theorem dX3_isAsTold_36 : decode cX3_isAsTold 36 = .ok (.iaload, 1) := by decide +kernel
theorem dX3_isAsTold_37 : decode cX3_isAsTold 37 = .ok (.if_icmp .eq 5, 3) := by decide +kernel
theorem dX3_isAsTold_40 : decode cX3_isAsTold 40 = .ok (.iconst 0, 1) := by decide +kernel
theorem dX3_isAsTold_41 : decode cX3_isAsTold 41 = .ok (.ireturn, 1) := by decide +kernel
theorem dX3_isAsTold_42 : decode cX3_isAsTold 42 = .ok (.iinc 1 1, 3) := by decide +kernel
theorem dX3_isAsTold_45 : decode cX3_isAsTold 45 = .ok (.goto (-43), 3) := by decide +kernel
theorem dX3_isAsTold_48 : decode cX3_isAsTold 48 = .ok (.iconst 1, 1) := by decide +kernel
theorem dX3_isAsTold_49 : decode cX3_isAsTold 49 = .ok (.ireturn, 1) := by decide +kernel
theorem dX3_drawYears_0 : decode cX3_drawYears 0 = .ok (.aload_n 0, 1) := by decide +kernel
theorem dX3_drawYears_1 : decode cX3_drawYears 1 = .ok (.getfield 12, 3) := by decide +kernel
theorem dX3_drawYears_4 : decode cX3_drawYears 4 = .ok (.aload_n 1, 1) := by decide +kernel
theorem dX3_drawYears_5 : decode cX3_drawYears 5 = .ok (.invokevirtual 33, 3) := by decide +kernel
theorem dX3_drawYears_8 : decode cX3_drawYears 8 = .ok (.iload_n 3, 1) := by decide +kernel
theorem dX3_drawYears_9 : decode cX3_drawYears 9 = .ok (.i2l, 1) := by decide +kernel
theorem dX3_drawYears_10 : decode cX3_drawYears 10 = .ok (.lstore 5, 2) := by decide +kernel
theorem dX3_drawYears_12 : decode cX3_drawYears 12 = .ok (.iconst 0, 1) := by decide +kernel
theorem dX3_drawYears_13 : decode cX3_drawYears 13 = .ok (.istore 7, 2) := by decide +kernel
theorem dX3_drawYears_15 : decode cX3_drawYears 15 = .ok (.iconst 0, 1) := by decide +kernel
theorem dX3_drawYears_16 : decode cX3_drawYears 16 = .ok (.istore 8, 2) := by decide +kernel
theorem dX3_drawYears_18 : decode cX3_drawYears 18 = .ok (.iload 8, 2) := by decide +kernel
theorem dX3_drawYears_20 : decode cX3_drawYears 20 = .ok (.iload_n 2, 1) := by decide +kernel
theorem dX3_drawYears_21 : decode cX3_drawYears 21 = .ok (.if_icmp .ge 54, 3) := by decide +kernel
theorem dX3_drawYears_24 : decode cX3_drawYears 24 = .ok (.lload 5, 2) := by decide +kernel
theorem dX3_drawYears_26 : decode cX3_drawYears 26 = .ok (.ldc2_w 170, 3) := by decide +kernel
theorem dX3_drawYears_29 : decode cX3_drawYears 29 = .ok (.lmul, 1) := by decide +kernel
theorem dX3_drawYears_30 : decode cX3_drawYears 30 = .ok (.ldc2_w 172, 3) := by decide +kernel
theorem dX3_drawYears_33 : decode cX3_drawYears 33 = .ok (.lrem, 1) := by decide +kernel
theorem dX3_drawYears_34 : decode cX3_drawYears 34 = .ok (.lstore 5, 2) := by decide +kernel
theorem dX3_drawYears_36 : decode cX3_drawYears 36 = .ok (.aload_n 0, 1) := by decide +kernel
theorem dX3_drawYears_37 : decode cX3_drawYears 37 = .ok (.lload 5, 2) := by decide +kernel
theorem dX3_drawYears_39 : decode cX3_drawYears 39 = .ok (.l2i, 1) := by decide +kernel
theorem dX3_drawYears_40 : decode cX3_drawYears 40 = .ok (.invokevirtual 174, 3) := by decide +kernel
theorem dX3_drawYears_43 : decode cX3_drawYears 43 = .ok (.aload_n 0, 1) := by decide +kernel
theorem dX3_drawYears_44 : decode cX3_drawYears 44 = .ok (.getfield 12, 3) := by decide +kernel
theorem dX3_drawYears_47 : decode cX3_drawYears 47 = .ok (.invokevirtual 37, 3) := by decide +kernel
theorem dX3_drawYears_50 : decode cX3_drawYears 50 = .ok (.iload 7, 2) := by decide +kernel
theorem dX3_drawYears_52 : decode cX3_drawYears 52 = .ok (.aload_n 0, 1) := by decide +kernel
theorem dX3_drawYears_53 : decode cX3_drawYears 53 = .ok (.getfield 12, 3) := by decide +kernel
theorem dX3_drawYears_56 : decode cX3_drawYears 56 = .ok (.aload_n 0, 1) := by decide +kernel
theorem dX3_drawYears_57 : decode cX3_drawYears 57 = .ok (.getfield 12, 3) := by decide +kernel
theorem dX3_drawYears_60 : decode cX3_drawYears 60 = .ok (.getfield 113, 3) := by decide +kernel
theorem dX3_drawYears_63 : decode cX3_drawYears 63 = .ok (.invokevirtual 80, 3) := by decide +kernel
theorem dX3_drawYears_66 : decode cX3_drawYears 66 = .ok (.iadd, 1) := by decide +kernel
theorem dX3_drawYears_67 : decode cX3_drawYears 67 = .ok (.istore 7, 2) := by decide +kernel
theorem dX3_drawYears_69 : decode cX3_drawYears 69 = .ok (.iinc 8 1, 3) := by decide +kernel
theorem dX3_drawYears_72 : decode cX3_drawYears 72 = .ok (.goto (-54), 3) := by decide +kernel
theorem dX3_drawYears_75 : decode cX3_drawYears 75 = .ok (.iload 4, 2) := by decide +kernel
theorem dX3_drawYears_77 : decode cX3_drawYears 77 = .ok (.ifCond .ne 13, 3) := by decide +kernel
theorem dX3_drawYears_80 : decode cX3_drawYears 80 = .ok (.aload_n 0, 1) := by decide +kernel
theorem dX3_drawYears_81 : decode cX3_drawYears 81 = .ok (.getfield 12, 3) := by decide +kernel
theorem dX3_drawYears_84 : decode cX3_drawYears 84 = .ok (.getfield 178, 3) := by decide +kernel
theorem dX3_drawYears_87 : decode cX3_drawYears 87 = .ok (.goto 5, 3) := by decide +kernel
theorem dX3_drawYears_90 : decode cX3_drawYears 90 = .ok (.iload 7, 2) := by decide +kernel
theorem dX3_drawYears_92 : decode cX3_drawYears 92 = .ok (.ireturn, 1) := by decide +kernel
theorem dX3_drawOne_0 : decode cX3_drawOne 0 = .ok (.aload_n 0, 1) := by decide +kernel
theorem dX3_drawOne_1 : decode cX3_drawOne 1 = .ok (.getfield 12, 3) := by decide +kernel
theorem dX3_drawOne_4 : decode cX3_drawOne 4 = .ok (.getfield 181, 3) := by decide +kernel
theorem dX3_drawOne_7 : decode cX3_drawOne 7 = .ok (.ifCond .le 23, 3) := by decide +kernel
theorem dX3_drawOne_10 : decode cX3_drawOne 10 = .ok (.aload_n 0, 1) := by decide +kernel
theorem dX3_drawOne_11 : decode cX3_drawOne 11 = .ok (.getfield 12, 3) := by decide +kernel
theorem dX3_drawOne_14 : decode cX3_drawOne 14 = .ok (.getfield 184, 3) := by decide +kernel
theorem dX3_drawOne_17 : decode cX3_drawOne 17 = .ok (.ifCond .le 13, 3) := by decide +kernel
theorem dX3_drawOne_20 : decode cX3_drawOne 20 = .ok (.aload_n 0, 1) := by decide +kernel
theorem dX3_drawOne_21 : decode cX3_drawOne 21 = .ok (.getfield 12, 3) := by decide +kernel
theorem dX3_drawOne_24 : decode cX3_drawOne 24 = .ok (.getfield 74, 3) := by decide +kernel
theorem dX3_drawOne_27 : decode cX3_drawOne 27 = .ok (.ifCond .gt 4, 3) := by decide +kernel
theorem dX3_drawOne_30 : decode cX3_drawOne 30 = .ok (.return_, 1) := by decide +kernel
theorem dX3_drawOne_31 : decode cX3_drawOne 31 = .ok (.iload_n 1, 1) := by decide +kernel
theorem dX3_drawOne_32 : decode cX3_drawOne 32 = .ok (.iconst 3, 1) := by decide +kernel
theorem dX3_drawOne_33 : decode cX3_drawOne 33 = .ok (.irem, 1) := by decide +kernel
theorem dX3_drawOne_34 : decode cX3_drawOne 34 = .ok (.ifCond .ne 23, 3) := by decide +kernel
theorem dX3_drawOne_37 : decode cX3_drawOne 37 = .ok (.aload_n 0, 1) := by decide +kernel
theorem dX3_drawOne_38 : decode cX3_drawOne 38 = .ok (.getfield 12, 3) := by decide +kernel
theorem dX3_drawOne_41 : decode cX3_drawOne 41 = .ok (.getfield 126, 3) := by decide +kernel
theorem dX3_drawOne_44 : decode cX3_drawOne 44 = .ok (.iload_n 1, 1) := by decide +kernel
theorem dX3_drawOne_45 : decode cX3_drawOne 45 = .ok (.aload_n 0, 1) := by decide +kernel
theorem dX3_drawOne_46 : decode cX3_drawOne 46 = .ok (.getfield 12, 3) := by decide +kernel
theorem dX3_drawOne_49 : decode cX3_drawOne 49 = .ok (.getfield 181, 3) := by decide +kernel
theorem dX3_drawOne_52 : decode cX3_drawOne 52 = .ok (.irem, 1) := by decide +kernel
theorem dX3_drawOne_53 : decode cX3_drawOne 53 = .ok (.iload_n 1, 1) := by decide +kernel
theorem dX3_drawOne_54 : decode cX3_drawOne 54 = .ok (.iconst 5, 1) := by decide +kernel
theorem dX3_drawOne_55 : decode cX3_drawOne 55 = .ok (.irem, 1) := by decide +kernel
theorem dX3_drawOne_56 : decode cX3_drawOne 56 = .ok (.iastore, 1) := by decide +kernel
theorem dX3_drawOne_57 : decode cX3_drawOne 57 = .ok (.iload_n 1, 1) := by decide +kernel
theorem dX3_drawOne_58 : decode cX3_drawOne 58 = .ok (.aload_n 0, 1) := by decide +kernel
theorem dX3_drawOne_59 : decode cX3_drawOne 59 = .ok (.getfield 12, 3) := by decide +kernel
theorem dX3_drawOne_62 : decode cX3_drawOne 62 = .ok (.getfield 184, 3) := by decide +kernel
theorem dX3_drawOne_65 : decode cX3_drawOne 65 = .ok (.irem, 1) := by decide +kernel
theorem dX3_drawOne_66 : decode cX3_drawOne 66 = .ok (.istore_n 2, 1) := by decide +kernel
theorem dX3_drawOne_67 : decode cX3_drawOne 67 = .ok (.aload_n 0, 1) := by decide +kernel
theorem dX3_drawOne_68 : decode cX3_drawOne 68 = .ok (.getfield 12, 3) := by decide +kernel
theorem dX3_drawOne_71 : decode cX3_drawOne 71 = .ok (.iload_n 2, 1) := by decide +kernel
theorem dX3_drawOne_72 : decode cX3_drawOne 72 = .ok (.invokevirtual 40, 3) := by decide +kernel
theorem dX3_drawOne_75 : decode cX3_drawOne 75 = .ok (.ifCond .ne 26, 3) := by decide +kernel
theorem dX3_drawOne_78 : decode cX3_drawOne 78 = .ok (.aload_n 0, 1) := by decide +kernel
theorem dX3_drawOne_79 : decode cX3_drawOne 79 = .ok (.getfield 12, 3) := by decide +kernel
theorem dX3_drawOne_82 : decode cX3_drawOne 82 = .ok (.iload_n 2, 1) := by decide +kernel
theorem dX3_drawOne_83 : decode cX3_drawOne 83 = .ok (.iload_n 1, 1) := by decide +kernel
theorem dX3_drawOne_84 : decode cX3_drawOne 84 = .ok (.aload_n 0, 1) := by decide +kernel
end
section
theorem dX3_drawOne_85 : decode cX3_drawOne 85 = .ok (.getfield 12, 3) := by decide +kernel
theorem dX3_drawOne_88 : decode cX3_drawOne 88 = .ok (.getfield 74, 3) := by decide +kernel
theorem dX3_drawOne_91 : decode cX3_drawOne 91 = .ok (.irem, 1) := by decide +kernel
theorem dX3_drawOne_92 : decode cX3_drawOne 92 = .ok (.iload_n 1, 1) := by decide +kernel
theorem dX3_drawOne_93 : decode cX3_drawOne 93 = .ok (.bipush 9, 2) := by decide +kernel
theorem dX3_drawOne_95 : decode cX3_drawOne 95 = .ok (.irem, 1) := by decide +kernel
theorem dX3_drawOne_96 : decode cX3_drawOne 96 = .ok (.iconst 1, 1) := by decide +kernel
theorem dX3_drawOne_97 : decode cX3_drawOne 97 = .ok (.iadd, 1) := by decide +kernel
theorem dX3_drawOne_98 : decode cX3_drawOne 98 = .ok (.invokevirtual 187, 3) := by decide +kernel
theorem dX3_drawOne_101 : decode cX3_drawOne 101 = .ok (.return_, 1) := by decide +kernel
theorem dX4_init_0 : decode cX4_init 0 = .ok (.aload_n 0, 1) := by decide +kernel
theorem dX4_init_1 : decode cX4_init 1 = .ok (.invokespecial 3, 3) := by decide +kernel
theorem dX4_init_4 : decode cX4_init 4 = .ok (.aload_n 0, 1) := by decide +kernel
theorem dX4_init_5 : decode cX4_init 5 = .ok (.new 9, 3) := by decide +kernel
theorem dX4_init_8 : decode cX4_init 8 = .ok (.dup, 1) := by decide +kernel
theorem dX4_init_9 : decode cX4_init 9 = .ok (.invokespecial 11, 3) := by decide +kernel
theorem dX4_init_12 : decode cX4_init 12 = .ok (.putfield 12, 3) := by decide +kernel
theorem dX4_init_15 : decode cX4_init 15 = .ok (.aload_n 0, 1) := by decide +kernel
theorem dX4_init_16 : decode cX4_init 16 = .ok (.bipush 120, 2) := by decide +kernel
theorem dX4_init_18 : decode cX4_init 18 = .ok (.newarray .int, 2) := by decide +kernel
theorem dX4_init_20 : decode cX4_init 20 = .ok (.putfield 18, 3) := by decide +kernel
theorem dX4_init_23 : decode cX4_init 23 = .ok (.return_, 1) := by decide +kernel
theorem dX4_append_0 : decode cX4_append 0 = .ok (.aload_n 0, 1) := by decide +kernel
theorem dX4_append_1 : decode cX4_append 1 = .ok (.getfield 22, 3) := by decide +kernel
theorem dX4_append_4 : decode cX4_append 4 = .ok (.bipush 120, 2) := by decide +kernel
theorem dX4_append_6 : decode cX4_append 6 = .ok (.if_icmp .ge 23, 3) := by decide +kernel
theorem dX4_append_9 : decode cX4_append 9 = .ok (.aload_n 0, 1) := by decide +kernel
theorem dX4_append_10 : decode cX4_append 10 = .ok (.getfield 18, 3) := by decide +kernel
theorem dX4_append_13 : decode cX4_append 13 = .ok (.aload_n 0, 1) := by decide +kernel
theorem dX4_append_14 : decode cX4_append 14 = .ok (.getfield 22, 3) := by decide +kernel
theorem dX4_append_17 : decode cX4_append 17 = .ok (.iload_n 1, 1) := by decide +kernel
theorem dX4_append_18 : decode cX4_append 18 = .ok (.iastore, 1) := by decide +kernel
theorem dX4_append_19 : decode cX4_append 19 = .ok (.aload_n 0, 1) := by decide +kernel
theorem dX4_append_20 : decode cX4_append 20 = .ok (.dup, 1) := by decide +kernel
theorem dX4_append_21 : decode cX4_append 21 = .ok (.getfield 22, 3) := by decide +kernel
theorem dX4_append_24 : decode cX4_append 24 = .ok (.iconst 1, 1) := by decide +kernel
theorem dX4_append_25 : decode cX4_append 25 = .ok (.iadd, 1) := by decide +kernel
theorem dX4_append_26 : decode cX4_append 26 = .ok (.putfield 22, 3) := by decide +kernel
theorem dX4_append_29 : decode cX4_append 29 = .ok (.return_, 1) := by decide +kernel
theorem dX4_read_0 : decode cX4_read 0 = .ok (.aload_n 0, 1) := by decide +kernel
theorem dX4_read_1 : decode cX4_read 1 = .ok (.iconst 0, 1) := by decide +kernel
theorem dX4_read_2 : decode cX4_read 2 = .ok (.putfield 26, 3) := by decide +kernel
theorem dX4_read_5 : decode cX4_read 5 = .ok (.aload_n 0, 1) := by decide +kernel
theorem dX4_read_6 : decode cX4_read 6 = .ok (.iconst 0, 1) := by decide +kernel
theorem dX4_read_7 : decode cX4_read 7 = .ok (.putfield 29, 3) := by decide +kernel
theorem dX4_read_10 : decode cX4_read 10 = .ok (.aload_n 0, 1) := by decide +kernel
theorem dX4_read_11 : decode cX4_read 11 = .ok (.getfield 12, 3) := by decide +kernel
theorem dX4_read_14 : decode cX4_read 14 = .ok (.invokevirtual 32, 3) := by decide +kernel
theorem dX4_read_17 : decode cX4_read 17 = .ok (.aload_n 0, 1) := by decide +kernel
theorem dX4_read_18 : decode cX4_read 18 = .ok (.invokevirtual 35, 3) := by decide +kernel
theorem dX4_read_21 : decode cX4_read 21 = .ok (.aload_n 0, 1) := by decide +kernel
theorem dX4_read_22 : decode cX4_read 22 = .ok (.invokevirtual 38, 3) := by decide +kernel
theorem dX4_read_25 : decode cX4_read 25 = .ok (.aload_n 0, 1) := by decide +kernel
theorem dX4_read_26 : decode cX4_read 26 = .ok (.invokevirtual 41, 3) := by decide +kernel
theorem dX4_read_29 : decode cX4_read 29 = .ok (.aload_n 0, 1) := by decide +kernel
theorem dX4_read_30 : decode cX4_read 30 = .ok (.invokevirtual 44, 3) := by decide +kernel
theorem dX4_read_33 : decode cX4_read 33 = .ok (.aload_n 0, 1) := by decide +kernel
theorem dX4_read_34 : decode cX4_read 34 = .ok (.getfield 12, 3) := by decide +kernel
theorem dX4_read_37 : decode cX4_read 37 = .ok (.aload_n 0, 1) := by decide +kernel
theorem dX4_read_38 : decode cX4_read 38 = .ok (.getfield 26, 3) := by decide +kernel
theorem dX4_read_41 : decode cX4_read 41 = .ok (.ifCond .ne 7, 3) := by decide +kernel
theorem dX4_read_44 : decode cX4_read 44 = .ok (.iconst 1, 1) := by decide +kernel
theorem dX4_read_45 : decode cX4_read 45 = .ok (.goto 4, 3) := by decide +kernel
theorem dX4_read_48 : decode cX4_read 48 = .ok (.iconst 0, 1) := by decide +kernel
theorem dX4_read_49 : decode cX4_read 49 = .ok (.putfield 47, 3) := by decide +kernel
theorem dX4_read_52 : decode cX4_read 52 = .ok (.aload_n 0, 1) := by decide +kernel
theorem dX4_read_53 : decode cX4_read 53 = .ok (.iconst 0, 1) := by decide +kernel
theorem dX4_read_54 : decode cX4_read 54 = .ok (.putfield 22, 3) := by decide +kernel
theorem dX4_read_57 : decode cX4_read 57 = .ok (.return_, 1) := by decide +kernel
theorem dX4_readLaw_0 : decode cX4_readLaw 0 = .ok (.aload_n 0, 1) := by decide +kernel
theorem dX4_readLaw_1 : decode cX4_readLaw 1 = .ok (.bipush 101, 2) := by decide +kernel
theorem dX4_readLaw_3 : decode cX4_readLaw 3 = .ok (.invokevirtual 51, 3) := by decide +kernel
theorem dX4_readLaw_6 : decode cX4_readLaw 6 = .ok (.aload_n 0, 1) := by decide +kernel
theorem dX4_readLaw_7 : decode cX4_readLaw 7 = .ok (.getfield 12, 3) := by decide +kernel
theorem dX4_readLaw_10 : decode cX4_readLaw 10 = .ok (.aload_n 0, 1) := by decide +kernel
theorem dX4_readLaw_11 : decode cX4_readLaw 11 = .ok (.bipush 6, 2) := by decide +kernel
theorem dX4_readLaw_13 : decode cX4_readLaw 13 = .ok (.bipush 16, 2) := by decide +kernel
theorem dX4_readLaw_15 : decode cX4_readLaw 15 = .ok (.invokevirtual 55, 3) := by decide +kernel
theorem dX4_readLaw_18 : decode cX4_readLaw 18 = .ok (.putfield 59, 3) := by decide +kernel
theorem dX4_readLaw_21 : decode cX4_readLaw 21 = .ok (.aload_n 0, 1) := by decide +kernel
theorem dX4_readLaw_22 : decode cX4_readLaw 22 = .ok (.bipush 44, 2) := by decide +kernel
theorem dX4_readLaw_24 : decode cX4_readLaw 24 = .ok (.invokevirtual 51, 3) := by decide +kernel
theorem dX4_readLaw_27 : decode cX4_readLaw 27 = .ok (.aload_n 0, 1) := by decide +kernel
theorem dX4_readLaw_28 : decode cX4_readLaw 28 = .ok (.getfield 12, 3) := by decide +kernel
theorem dX4_readLaw_31 : decode cX4_readLaw 31 = .ok (.aload_n 0, 1) := by decide +kernel
theorem dX4_readLaw_32 : decode cX4_readLaw 32 = .ok (.iconst 0, 1) := by decide +kernel
theorem dX4_readLaw_33 : decode cX4_readLaw 33 = .ok (.aload_n 0, 1) := by decide +kernel
theorem dX4_readLaw_34 : decode cX4_readLaw 34 = .ok (.getfield 12, 3) := by decide +kernel
theorem dX4_readLaw_37 : decode cX4_readLaw 37 = .ok (.getfield 59, 3) := by decide +kernel
theorem dX4_readLaw_40 : decode cX4_readLaw 40 = .ok (.iconst 1, 1) := by decide +kernel
theorem dX4_readLaw_41 : decode cX4_readLaw 41 = .ok (.isub, 1) := by decide +kernel
theorem dX4_readLaw_42 : decode cX4_readLaw 42 = .ok (.invokevirtual 55, 3) := by decide +kernel
theorem dX4_readLaw_45 : decode cX4_readLaw 45 = .ok (.putfield 62, 3) := by decide +kernel
theorem dX4_readLaw_48 : decode cX4_readLaw 48 = .ok (.aload_n 0, 1) := by decide +kernel
theorem dX4_readLaw_49 : decode cX4_readLaw 49 = .ok (.bipush 44, 2) := by decide +kernel
theorem dX4_readLaw_51 : decode cX4_readLaw 51 = .ok (.invokevirtual 51, 3) := by decide +kernel
theorem dX4_readLaw_54 : decode cX4_readLaw 54 = .ok (.aload_n 0, 1) := by decide +kernel
theorem dX4_readLaw_55 : decode cX4_readLaw 55 = .ok (.getfield 12, 3) := by decide +kernel
theorem dX4_readLaw_58 : decode cX4_readLaw 58 = .ok (.aload_n 0, 1) := by decide +kernel
theorem dX4_readLaw_59 : decode cX4_readLaw 59 = .ok (.iconst 0, 1) := by decide +kernel
theorem dX4_readLaw_60 : decode cX4_readLaw 60 = .ok (.aload_n 0, 1) := by decide +kernel
theorem dX4_readLaw_61 : decode cX4_readLaw 61 = .ok (.getfield 12, 3) := by decide +kernel
theorem dX4_readLaw_64 : decode cX4_readLaw 64 = .ok (.getfield 59, 3) := by decide +kernel
theorem dX4_readLaw_67 : decode cX4_readLaw 67 = .ok (.iconst 1, 1) := by decide +kernel
theorem dX4_readLaw_68 : decode cX4_readLaw 68 = .ok (.isub, 1) := by decide +kernel
theorem dX4_readLaw_69 : decode cX4_readLaw 69 = .ok (.invokevirtual 55, 3) := by decide +kernel
theorem dX4_readLaw_72 : decode cX4_readLaw 72 = .ok (.putfield 65, 3) := by decide +kernel
theorem dX4_readLaw_75 : decode cX4_readLaw 75 = .ok (.aload_n 0, 1) := by decide +kernel
theorem dX4_readLaw_76 : decode cX4_readLaw 76 = .ok (.bipush 44, 2) := by decide +kernel
theorem dX4_readLaw_78 : decode cX4_readLaw 78 = .ok (.invokevirtual 51, 3) := by decide +kernel
theorem dX4_readLaw_81 : decode cX4_readLaw 81 = .ok (.aload_n 0, 1) := by decide +kernel
theorem dX4_readLaw_82 : decode cX4_readLaw 82 = .ok (.getfield 12, 3) := by decide +kernel
theorem dX4_readLaw_85 : decode cX4_readLaw 85 = .ok (.aload_n 0, 1) := by decide +kernel
theorem dX4_readLaw_86 : decode cX4_readLaw 86 = .ok (.iconst 0, 1) := by decide +kernel
theorem dX4_readLaw_87 : decode cX4_readLaw 87 = .ok (.bipush 15, 2) := by decide +kernel
theorem dX4_readLaw_89 : decode cX4_readLaw 89 = .ok (.invokevirtual 55, 3) := by decide +kernel
theorem dX4_readLaw_92 : decode cX4_readLaw 92 = .ok (.putfield 68, 3) := by decide +kernel
theorem dX4_readLaw_95 : decode cX4_readLaw 95 = .ok (.aload_n 0, 1) := by decide +kernel
theorem dX4_readLaw_96 : decode cX4_readLaw 96 = .ok (.bipush 59, 2) := by decide +kernel
theorem dX4_readLaw_98 : decode cX4_readLaw 98 = .ok (.invokevirtual 51, 3) := by decide +kernel
theorem dX4_readLaw_101 : decode cX4_readLaw 101 = .ok (.return_, 1) := by decide +kernel
theorem dX4_readWinds_0 : decode cX4_readWinds 0 = .ok (.aload_n 0, 1) := by decide +kernel
theorem dX4_readWinds_1 : decode cX4_readWinds 1 = .ok (.invokevirtual 71, 3) := by decide +kernel
theorem dX4_readWinds_4 : decode cX4_readWinds 4 = .ok (.iconst 0, 1) := by decide +kernel
theorem dX4_readWinds_5 : decode cX4_readWinds 5 = .ok (.istore_n 1, 1) := by decide +kernel
theorem dX4_readWinds_6 : decode cX4_readWinds 6 = .ok (.iload_n 1, 1) := by decide +kernel
theorem dX4_readWinds_7 : decode cX4_readWinds 7 = .ok (.bipush 6, 2) := by decide +kernel
theorem dX4_readWinds_9 : decode cX4_readWinds 9 = .ok (.if_icmp .ge 29, 3) := by decide +kernel
theorem dX4_readWinds_12 : decode cX4_readWinds 12 = .ok (.aload_n 0, 1) := by decide +kernel
theorem dX4_readWinds_13 : decode cX4_readWinds 13 = .ok (.getfield 26, 3) := by decide +kernel
theorem dX4_readWinds_16 : decode cX4_readWinds 16 = .ok (.ifCond .ne 22, 3) := by decide +kernel
theorem dX4_readWinds_19 : decode cX4_readWinds 19 = .ok (.aload_n 0, 1) := by decide +kernel
theorem dX4_readWinds_20 : decode cX4_readWinds 20 = .ok (.getfield 74, 3) := by decide +kernel
theorem dX4_readWinds_23 : decode cX4_readWinds 23 = .ok (.bipush 103, 2) := by decide +kernel
theorem dX4_readWinds_25 : decode cX4_readWinds 25 = .ok (.if_icmp .ne 13, 3) := by decide +kernel
theorem dX4_readWinds_28 : decode cX4_readWinds 28 = .ok (.aload_n 0, 1) := by decide +kernel
theorem dX4_readWinds_29 : decode cX4_readWinds 29 = .ok (.invokevirtual 71, 3) := by decide +kernel
theorem dX4_readWinds_32 : decode cX4_readWinds 32 = .ok (.iinc 1 1, 3) := by decide +kernel
theorem dX4_readWinds_35 : decode cX4_readWinds 35 = .ok (.goto (-29), 3) := by decide +kernel
theorem dX4_readWinds_38 : decode cX4_readWinds 38 = .ok (.return_, 1) := by decide +kernel
theorem dX4_readWind_0 : decode cX4_readWind 0 = .ok (.aload_n 0, 1) := by decide +kernel
theorem dX4_readWind_1 : decode cX4_readWind 1 = .ok (.getfield 74, 3) := by decide +kernel
theorem dX4_readWind_4 : decode cX4_readWind 4 = .ok (.bipush 103, 2) := by decide +kernel
theorem dX4_readWind_6 : decode cX4_readWind 6 = .ok (.if_icmp .ne 20, 3) := by decide +kernel
theorem dX4_readWind_9 : decode cX4_readWind 9 = .ok (.aload_n 0, 1) := by decide +kernel
theorem dX4_readWind_10 : decode cX4_readWind 10 = .ok (.getfield 12, 3) := by decide +kernel
theorem dX4_readWind_13 : decode cX4_readWind 13 = .ok (.getfield 77, 3) := by decide +kernel
theorem dX4_readWind_16 : decode cX4_readWind 16 = .ok (.bipush 6, 2) := by decide +kernel
theorem dX4_readWind_18 : decode cX4_readWind 18 = .ok (.if_icmp .ne 8, 3) := by decide +kernel
theorem dX4_readWind_21 : decode cX4_readWind 21 = .ok (.aload_n 0, 1) := by decide +kernel
theorem dX4_readWind_22 : decode cX4_readWind 22 = .ok (.iconst 3, 1) := by decide +kernel
theorem dX4_readWind_23 : decode cX4_readWind 23 = .ok (.invokevirtual 80, 3) := by decide +kernel
theorem dX4_readWind_26 : decode cX4_readWind 26 = .ok (.aload_n 0, 1) := by decide +kernel
theorem dX4_readWind_27 : decode cX4_readWind 27 = .ok (.bipush 103, 2) := by decide +kernel
theorem dX4_readWind_29 : decode cX4_readWind 29 = .ok (.invokevirtual 51, 3) := by decide +kernel
theorem dX4_readWind_32 : decode cX4_readWind 32 = .ok (.aload_n 0, 1) := by decide +kernel
theorem dX4_readWind_33 : decode cX4_readWind 33 = .ok (.getfield 12, 3) := by decide +kernel
theorem dX4_readWind_36 : decode cX4_readWind 36 = .ok (.aload_n 0, 1) := by decide +kernel
theorem dX4_readWind_37 : decode cX4_readWind 37 = .ok (.iconst 0, 1) := by decide +kernel
theorem dX4_readWind_38 : decode cX4_readWind 38 = .ok (.iconst 4, 1) := by decide +kernel
theorem dX4_readWind_39 : decode cX4_readWind 39 = .ok (.invokevirtual 55, 3) := by decide +kernel
theorem dX4_readWind_42 : decode cX4_readWind 42 = .ok (.invokevirtual 83, 3) := by decide +kernel
theorem dX4_readWind_45 : decode cX4_readWind 45 = .ok (.aload_n 0, 1) := by decide +kernel
theorem dX4_readWind_46 : decode cX4_readWind 46 = .ok (.bipush 59, 2) := by decide +kernel
theorem dX4_readWind_48 : decode cX4_readWind 48 = .ok (.invokevirtual 51, 3) := by decide +kernel
theorem dX4_readWind_51 : decode cX4_readWind 51 = .ok (.return_, 1) := by decide +kernel
theorem dX4_readSheets_0 : decode cX4_readSheets 0 = .ok (.aload_n 0, 1) := by decide +kernel
theorem dX4_readSheets_1 : decode cX4_readSheets 1 = .ok (.invokevirtual 86, 3) := by decide +kernel
theorem dX4_readSheets_4 : decode cX4_readSheets 4 = .ok (.iconst 0, 1) := by decide +kernel
theorem dX4_readSheets_5 : decode cX4_readSheets 5 = .ok (.istore_n 1, 1) := by decide +kernel
theorem dX4_readSheets_6 : decode cX4_readSheets 6 = .ok (.iload_n 1, 1) := by decide +kernel
theorem dX4_readSheets_7 : decode cX4_readSheets 7 = .ok (.bipush 6, 2) := by decide +kernel
theorem dX4_readSheets_9 : decode cX4_readSheets 9 = .ok (.if_icmp .ge 30, 3) := by decide +kernel
theorem dX4_readSheets_12 : decode cX4_readSheets 12 = .ok (.aload_n 0, 1) := by decide +kernel
theorem dX4_readSheets_13 : decode cX4_readSheets 13 = .ok (.getfield 26, 3) := by decide +kernel
theorem dX4_readSheets_16 : decode cX4_readSheets 16 = .ok (.ifCond .ne 23, 3) := by decide +kernel
theorem dX4_readSheets_19 : decode cX4_readSheets 19 = .ok (.aload_n 0, 1) := by decide +kernel
theorem dX4_readSheets_20 : decode cX4_readSheets 20 = .ok (.getfield 74, 3) := by decide +kernel
theorem dX4_readSheets_23 : decode cX4_readSheets 23 = .ok (.sipush 258, 3) := by decide +kernel
theorem dX4_readSheets_26 : decode cX4_readSheets 26 = .ok (.if_icmp .eq 13, 3) := by decide +kernel
theorem dX4_readSheets_29 : decode cX4_readSheets 29 = .ok (.aload_n 0, 1) := by decide +kernel
theorem dX4_readSheets_30 : decode cX4_readSheets 30 = .ok (.invokevirtual 86, 3) := by decide +kernel
theorem dX4_readSheets_33 : decode cX4_readSheets 33 = .ok (.iinc 1 1, 3) := by decide +kernel
theorem dX4_readSheets_36 : decode cX4_readSheets 36 = .ok (.goto (-30), 3) := by decide +kernel
theorem dX4_readSheets_39 : decode cX4_readSheets 39 = .ok (.return_, 1) := by decide +kernel
theorem dX4_readSheet_0 : decode cX4_readSheet 0 = .ok (.aload_n 0, 1) := by decide +kernel
theorem dX4_readSheet_1 : decode cX4_readSheet 1 = .ok (.getfield 74, 3) := by decide +kernel
theorem dX4_readSheet_4 : decode cX4_readSheet 4 = .ok (.invokestatic 89, 3) := by decide +kernel
theorem dX4_readSheet_7 : decode cX4_readSheet 7 = .ok (.istore_n 1, 1) := by decide +kernel
theorem dX4_readSheet_8 : decode cX4_readSheet 8 = .ok (.iload_n 1, 1) := by decide +kernel
theorem dX4_readSheet_9 : decode cX4_readSheet 9 = .ok (.ifCond .ne 11, 3) := by decide +kernel
theorem dX4_readSheet_12 : decode cX4_readSheet 12 = .ok (.aload_n 0, 1) := by decide +kernel
theorem dX4_readSheet_13 : decode cX4_readSheet 13 = .ok (.iconst 1, 1) := by decide +kernel
theorem dX4_readSheet_14 : decode cX4_readSheet 14 = .ok (.invokevirtual 80, 3) := by decide +kernel
theorem dX4_readSheet_17 : decode cX4_readSheet 17 = .ok (.goto 20, 3) := by decide +kernel
theorem dX4_readSheet_20 : decode cX4_readSheet 20 = .ok (.aload_n 0, 1) := by decide +kernel
theorem dX4_readSheet_21 : decode cX4_readSheet 21 = .ok (.getfield 12, 3) := by decide +kernel
theorem dX4_readSheet_24 : decode cX4_readSheet 24 = .ok (.getfield 93, 3) := by decide +kernel
theorem dX4_readSheet_27 : decode cX4_readSheet 27 = .ok (.bipush 6, 2) := by decide +kernel
theorem dX4_readSheet_29 : decode cX4_readSheet 29 = .ok (.if_icmp .ne 8, 3) := by decide +kernel
theorem dX4_readSheet_32 : decode cX4_readSheet 32 = .ok (.aload_n 0, 1) := by decide +kernel
theorem dX4_readSheet_33 : decode cX4_readSheet 33 = .ok (.iconst 3, 1) := by decide +kernel
theorem dX4_readSheet_34 : decode cX4_readSheet 34 = .ok (.invokevirtual 80, 3) := by decide +kernel
theorem dX4_readSheet_37 : decode cX4_readSheet 37 = .ok (.aload_n 0, 1) := by decide +kernel
theorem dX4_readSheet_38 : decode cX4_readSheet 38 = .ok (.aload_n 0, 1) := by decide +kernel
theorem dX4_readSheet_39 : decode cX4_readSheet 39 = .ok (.getfield 74, 3) := by decide +kernel
theorem dX4_readSheet_42 : decode cX4_readSheet 42 = .ok (.invokevirtual 51, 3) := by decide +kernel
theorem dX4_readSheet_45 : decode cX4_readSheet 45 = .ok (.aload_n 0, 1) := by decide +kernel
theorem dX4_readSheet_46 : decode cX4_readSheet 46 = .ok (.iconst 0, 1) := by decide +kernel
theorem dX4_readSheet_47 : decode cX4_readSheet 47 = .ok (.aload_n 0, 1) := by decide +kernel
theorem dX4_readSheet_48 : decode cX4_readSheet 48 = .ok (.getfield 12, 3) := by decide +kernel
theorem dX4_readSheet_51 : decode cX4_readSheet 51 = .ok (.getfield 59, 3) := by decide +kernel
theorem dX4_readSheet_54 : decode cX4_readSheet 54 = .ok (.iconst 1, 1) := by decide +kernel
theorem dX4_readSheet_55 : decode cX4_readSheet 55 = .ok (.isub, 1) := by decide +kernel
theorem dX4_readSheet_56 : decode cX4_readSheet 56 = .ok (.invokevirtual 55, 3) := by decide +kernel
theorem dX4_readSheet_59 : decode cX4_readSheet 59 = .ok (.istore_n 2, 1) := by decide +kernel
theorem dX4_readSheet_60 : decode cX4_readSheet 60 = .ok (.aload_n 0, 1) := by decide +kernel
theorem dX4_readSheet_61 : decode cX4_readSheet 61 = .ok (.bipush 44, 2) := by decide +kernel
theorem dX4_readSheet_63 : decode cX4_readSheet 63 = .ok (.invokevirtual 51, 3) := by decide +kernel
theorem dX4_readSheet_66 : decode cX4_readSheet 66 = .ok (.aload_n 0, 1) := by decide +kernel
theorem dX4_readSheet_67 : decode cX4_readSheet 67 = .ok (.iconst 1, 1) := by decide +kernel
theorem dX4_readSheet_68 : decode cX4_readSheet 68 = .ok (.iconst 5, 1) := by decide +kernel
theorem dX4_readSheet_69 : decode cX4_readSheet 69 = .ok (.invokevirtual 55, 3) := by decide +kernel
theorem dX4_readSheet_72 : decode cX4_readSheet 72 = .ok (.istore_n 3, 1) := by decide +kernel
theorem dX4_readSheet_73 : decode cX4_readSheet 73 = .ok (.aload_n 0, 1) := by decide +kernel
theorem dX4_readSheet_74 : decode cX4_readSheet 74 = .ok (.bipush 44, 2) := by decide +kernel
theorem dX4_readSheet_76 : decode cX4_readSheet 76 = .ok (.invokevirtual 51, 3) := by decide +kernel
theorem dX4_readSheet_79 : decode cX4_readSheet 79 = .ok (.aload_n 0, 1) := by decide +kernel
theorem dX4_readSheet_80 : decode cX4_readSheet 80 = .ok (.iconst 1, 1) := by decide +kernel
theorem dX4_readSheet_81 : decode cX4_readSheet 81 = .ok (.bipush 9, 2) := by decide +kernel
theorem dX4_readSheet_83 : decode cX4_readSheet 83 = .ok (.invokevirtual 55, 3) := by decide +kernel
theorem dX4_readSheet_86 : decode cX4_readSheet 86 = .ok (.istore 4, 2) := by decide +kernel
theorem dX4_readSheet_88 : decode cX4_readSheet 88 = .ok (.aload_n 0, 1) := by decide +kernel
theorem dX4_readSheet_89 : decode cX4_readSheet 89 = .ok (.bipush 59, 2) := by decide +kernel
theorem dX4_readSheet_91 : decode cX4_readSheet 91 = .ok (.invokevirtual 51, 3) := by decide +kernel
theorem dX4_readSheet_94 : decode cX4_readSheet 94 = .ok (.aload_n 0, 1) := by decide +kernel
theorem dX4_readSheet_95 : decode cX4_readSheet 95 = .ok (.getfield 12, 3) := by decide +kernel
theorem dX4_readSheet_98 : decode cX4_readSheet 98 = .ok (.iload_n 1, 1) := by decide +kernel
theorem dX4_readSheet_99 : decode cX4_readSheet 99 = .ok (.iload_n 2, 1) := by decide +kernel
theorem dX4_readSheet_100 : decode cX4_readSheet 100 = .ok (.iload_n 3, 1) := by decide +kernel
theorem dX4_readSheet_101 : decode cX4_readSheet 101 = .ok (.iload 4, 2) := by decide +kernel
theorem dX4_readSheet_103 : decode cX4_readSheet 103 = .ok (.invokevirtual 96, 3) := by decide +kernel
theorem dX4_readSheet_106 : decode cX4_readSheet 106 = .ok (.return_, 1) := by decide +kernel
theorem dX4_kindOfSort_0 : decode cX4_kindOfSort 0 = .ok (.iload_n 0, 1) := by decide +kernel
theorem dX4_kindOfSort_1 : decode cX4_kindOfSort 1 = .ok (.lookupswitch 61 #[(98, 53), (104, 57), (111, 59), (115, 51), (119, 55)], 51) := by decide +kernel
theorem dX4_kindOfSort_52 : decode cX4_kindOfSort 52 = .ok (.iconst 1, 1) := by decide +kernel
theorem dX4_kindOfSort_53 : decode cX4_kindOfSort 53 = .ok (.ireturn, 1) := by decide +kernel
theorem dX4_kindOfSort_54 : decode cX4_kindOfSort 54 = .ok (.iconst 2, 1) := by decide +kernel
theorem dX4_kindOfSort_55 : decode cX4_kindOfSort 55 = .ok (.ireturn, 1) := by decide +kernel
theorem dX4_kindOfSort_56 : decode cX4_kindOfSort 56 = .ok (.iconst 3, 1) := by decide +kernel
theorem dX4_kindOfSort_57 : decode cX4_kindOfSort 57 = .ok (.ireturn, 1) := by decide +kernel
theorem dX4_kindOfSort_58 : decode cX4_kindOfSort 58 = .ok (.iconst 4, 1) := by decide +kernel
theorem dX4_kindOfSort_59 : decode cX4_kindOfSort 59 = .ok (.ireturn, 1) := by decide +kernel
theorem dX4_kindOfSort_60 : decode cX4_kindOfSort 60 = .ok (.iconst 5, 1) := by decide +kernel
theorem dX4_kindOfSort_61 : decode cX4_kindOfSort 61 = .ok (.ireturn, 1) := by decide +kernel
theorem dX4_kindOfSort_62 : decode cX4_kindOfSort 62 = .ok (.iconst 0, 1) := by decide +kernel
theorem dX4_kindOfSort_63 : decode cX4_kindOfSort 63 = .ok (.ireturn, 1) := by decide +kernel
theorem dX4_fail_0 : decode cX4_fail 0 = .ok (.aload_n 0, 1) := by decide +kernel
theorem dX4_fail_1 : decode cX4_fail 1 = .ok (.getfield 26, 3) := by decide +kernel
theorem dX4_fail_4 : decode cX4_fail 4 = .ok (.ifCond .ne 8, 3) := by decide +kernel
theorem dX4_fail_7 : decode cX4_fail 7 = .ok (.aload_n 0, 1) := by decide +kernel
theorem dX4_fail_8 : decode cX4_fail 8 = .ok (.iload_n 1, 1) := by decide +kernel
theorem dX4_fail_9 : decode cX4_fail 9 = .ok (.putfield 26, 3) := by decide +kernel
theorem dX4_fail_12 : decode cX4_fail 12 = .ok (.return_, 1) := by decide +kernel
theorem dX4_take_0 : decode cX4_take 0 = .ok (.aload_n 0, 1) := by decide +kernel
theorem dX4_take_1 : decode cX4_take 1 = .ok (.getfield 26, 3) := by decide +kernel
theorem dX4_take_4 : decode cX4_take 4 = .ok (.ifCond .ne 16, 3) := by decide +kernel
theorem dX4_take_7 : decode cX4_take 7 = .ok (.aload_n 0, 1) := by decide +kernel
theorem dX4_take_8 : decode cX4_take 8 = .ok (.getfield 74, 3) := by decide +kernel
theorem dX4_take_11 : decode cX4_take 11 = .ok (.iload_n 1, 1) := by decide +kernel
theorem dX4_take_12 : decode cX4_take 12 = .ok (.if_icmp .eq 8, 3) := by decide +kernel
theorem dX4_take_15 : decode cX4_take 15 = .ok (.aload_n 0, 1) := by decide +kernel
theorem dX4_take_16 : decode cX4_take 16 = .ok (.iconst 1, 1) := by decide +kernel
theorem dX4_take_17 : decode cX4_take 17 = .ok (.invokevirtual 80, 3) := by decide +kernel
theorem dX4_take_20 : decode cX4_take 20 = .ok (.aload_n 0, 1) := by decide +kernel
theorem dX4_take_21 : decode cX4_take 21 = .ok (.invokevirtual 35, 3) := by decide +kernel
theorem dX4_take_24 : decode cX4_take 24 = .ok (.return_, 1) := by decide +kernel
theorem dX4_takeNumber_0 : decode cX4_takeNumber 0 = .ok (.aload_n 0, 1) := by decide +kernel
theorem dX4_takeNumber_1 : decode cX4_takeNumber 1 = .ok (.getfield 26, 3) := by decide +kernel
theorem dX4_takeNumber_4 : decode cX4_takeNumber 4 = .ok (.ifCond .ne 21, 3) := by decide +kernel
theorem dX4_takeNumber_7 : decode cX4_takeNumber 7 = .ok (.aload_n 0, 1) := by decide +kernel
theorem dX4_takeNumber_8 : decode cX4_takeNumber 8 = .ok (.getfield 74, 3) := by decide +kernel
theorem dX4_takeNumber_11 : decode cX4_takeNumber 11 = .ok (.sipush 256, 3) := by decide +kernel
theorem dX4_takeNumber_14 : decode cX4_takeNumber 14 = .ok (.if_icmp .eq 11, 3) := by decide +kernel
theorem dX4_takeNumber_17 : decode cX4_takeNumber 17 = .ok (.aload_n 0, 1) := by decide +kernel
theorem dX4_takeNumber_18 : decode cX4_takeNumber 18 = .ok (.iconst 1, 1) := by decide +kernel
theorem dX4_takeNumber_19 : decode cX4_takeNumber 19 = .ok (.invokevirtual 80, 3) := by decide +kernel
theorem dX4_takeNumber_22 : decode cX4_takeNumber 22 = .ok (.goto 27, 3) := by decide +kernel
theorem dX4_takeNumber_25 : decode cX4_takeNumber 25 = .ok (.aload_n 0, 1) := by decide +kernel
theorem dX4_takeNumber_26 : decode cX4_takeNumber 26 = .ok (.getfield 26, 3) := by decide +kernel
theorem dX4_takeNumber_29 : decode cX4_takeNumber 29 = .ok (.ifCond .ne 20, 3) := by decide +kernel
theorem dX4_takeNumber_32 : decode cX4_takeNumber 32 = .ok (.aload_n 0, 1) := by decide +kernel
theorem dX4_takeNumber_33 : decode cX4_takeNumber 33 = .ok (.getfield 100, 3) := by decide +kernel
theorem dX4_takeNumber_36 : decode cX4_takeNumber 36 = .ok (.iload_n 1, 1) := by decide +kernel
theorem dX4_takeNumber_37 : decode cX4_takeNumber 37 = .ok (.iload_n 2, 1) := by decide +kernel
theorem dX4_takeNumber_38 : decode cX4_takeNumber 38 = .ok (.invokestatic 103, 3) := by decide +kernel
theorem dX4_takeNumber_41 : decode cX4_takeNumber 41 = .ok (.ifCond .ne 8, 3) := by decide +kernel
theorem dX4_takeNumber_44 : decode cX4_takeNumber 44 = .ok (.aload_n 0, 1) := by decide +kernel
theorem dX4_takeNumber_45 : decode cX4_takeNumber 45 = .ok (.iconst 2, 1) := by decide +kernel
theorem dX4_takeNumber_46 : decode cX4_takeNumber 46 = .ok (.invokevirtual 80, 3) := by decide +kernel
theorem dX4_takeNumber_49 : decode cX4_takeNumber 49 = .ok (.aload_n 0, 1) := by decide +kernel
theorem dX4_takeNumber_50 : decode cX4_takeNumber 50 = .ok (.getfield 100, 3) := by decide +kernel
theorem dX4_takeNumber_53 : decode cX4_takeNumber 53 = .ok (.istore_n 3, 1) := by decide +kernel
theorem dX4_takeNumber_54 : decode cX4_takeNumber 54 = .ok (.aload_n 0, 1) := by decide +kernel
theorem dX4_takeNumber_55 : decode cX4_takeNumber 55 = .ok (.invokevirtual 35, 3) := by decide +kernel
theorem dX4_takeNumber_58 : decode cX4_takeNumber 58 = .ok (.aload_n 0, 1) := by decide +kernel
theorem dX4_takeNumber_59 : decode cX4_takeNumber 59 = .ok (.getfield 26, 3) := by decide +kernel
theorem dX4_takeNumber_62 : decode cX4_takeNumber 62 = .ok (.ifCond .ne 7, 3) := by decide +kernel
theorem dX4_takeNumber_65 : decode cX4_takeNumber 65 = .ok (.iload_n 3, 1) := by decide +kernel
theorem dX4_takeNumber_66 : decode cX4_takeNumber 66 = .ok (.goto 4, 3) := by decide +kernel
theorem dX4_takeNumber_69 : decode cX4_takeNumber 69 = .ok (.iconst 0, 1) := by decide +kernel
theorem dX4_takeNumber_70 : decode cX4_takeNumber 70 = .ok (.ireturn, 1) := by decide +kernel
theorem dX4_nextToken_0 : decode cX4_nextToken 0 = .ok (.aload_n 0, 1) := by decide +kernel
theorem dX4_nextToken_1 : decode cX4_nextToken 1 = .ok (.getfield 26, 3) := by decide +kernel
theorem dX4_nextToken_4 : decode cX4_nextToken 4 = .ok (.ifCond .eq 4, 3) := by decide +kernel
theorem dX4_nextToken_7 : decode cX4_nextToken 7 = .ok (.return_, 1) := by decide +kernel
theorem dX4_nextToken_8 : decode cX4_nextToken 8 = .ok (.aload_n 0, 1) := by decide +kernel
theorem dX4_nextToken_9 : decode cX4_nextToken 9 = .ok (.aload_n 0, 1) := by decide +kernel
theorem dX4_nextToken_10 : decode cX4_nextToken 10 = .ok (.getfield 29, 3) := by decide +kernel
theorem dX4_nextToken_13 : decode cX4_nextToken 13 = .ok (.putfield 107, 3) := by decide +kernel
theorem dX4_nextToken_16 : decode cX4_nextToken 16 = .ok (.aload_n 0, 1) := by decide +kernel
theorem dX4_nextToken_17 : decode cX4_nextToken 17 = .ok (.getfield 107, 3) := by decide +kernel
theorem dX4_nextToken_20 : decode cX4_nextToken 20 = .ok (.aload_n 0, 1) := by decide +kernel
theorem dX4_nextToken_21 : decode cX4_nextToken 21 = .ok (.getfield 22, 3) := by decide +kernel
theorem dX4_nextToken_24 : decode cX4_nextToken 24 = .ok (.if_icmp .lt 11, 3) := by decide +kernel
theorem dX4_nextToken_27 : decode cX4_nextToken 27 = .ok (.aload_n 0, 1) := by decide +kernel
theorem dX4_nextToken_28 : decode cX4_nextToken 28 = .ok (.sipush 258, 3) := by decide +kernel
theorem dX4_nextToken_31 : decode cX4_nextToken 31 = .ok (.putfield 74, 3) := by decide +kernel
theorem dX4_nextToken_34 : decode cX4_nextToken 34 = .ok (.return_, 1) := by decide +kernel
theorem dX4_nextToken_35 : decode cX4_nextToken 35 = .ok (.aload_n 0, 1) := by decide +kernel
theorem dX4_nextToken_36 : decode cX4_nextToken 36 = .ok (.getfield 18, 3) := by decide +kernel
theorem dX4_nextToken_39 : decode cX4_nextToken 39 = .ok (.aload_n 0, 1) := by decide +kernel
theorem dX4_nextToken_40 : decode cX4_nextToken 40 = .ok (.getfield 107, 3) := by decide +kernel
theorem dX4_nextToken_43 : decode cX4_nextToken 43 = .ok (.iaload, 1) := by decide +kernel
theorem dX4_nextToken_44 : decode cX4_nextToken 44 = .ok (.istore_n 1, 1) := by decide +kernel
theorem dX4_nextToken_45 : decode cX4_nextToken 45 = .ok (.iload_n 1, 1) := by decide +kernel
theorem dX4_nextToken_46 : decode cX4_nextToken 46 = .ok (.invokestatic 110, 3) := by decide +kernel
theorem dX4_nextToken_49 : decode cX4_nextToken 49 = .ok (.ifCond .eq 8, 3) := by decide +kernel
theorem dX4_nextToken_52 : decode cX4_nextToken 52 = .ok (.aload_n 0, 1) := by decide +kernel
theorem dX4_nextToken_53 : decode cX4_nextToken 53 = .ok (.invokevirtual 114, 3) := by decide +kernel
theorem dX4_nextToken_56 : decode cX4_nextToken 56 = .ok (.return_, 1) := by decide +kernel
theorem dX4_nextToken_57 : decode cX4_nextToken 57 = .ok (.aload_n 0, 1) := by decide +kernel
theorem dX4_nextToken_58 : decode cX4_nextToken 58 = .ok (.aload_n 0, 1) := by decide +kernel
theorem dX4_nextToken_59 : decode cX4_nextToken 59 = .ok (.getfield 107, 3) := by decide +kernel
theorem dX4_nextToken_62 : decode cX4_nextToken 62 = .ok (.iconst 1, 1) := by decide +kernel
theorem dX4_nextToken_63 : decode cX4_nextToken 63 = .ok (.iadd, 1) := by decide +kernel
theorem dX4_nextToken_64 : decode cX4_nextToken 64 = .ok (.putfield 29, 3) := by decide +kernel
theorem dX4_nextToken_67 : decode cX4_nextToken 67 = .ok (.aload_n 0, 1) := by decide +kernel
theorem dX4_nextToken_68 : decode cX4_nextToken 68 = .ok (.iload_n 1, 1) := by decide +kernel
theorem dX4_nextToken_69 : decode cX4_nextToken 69 = .ok (.bipush 97, 2) := by decide +kernel
theorem dX4_nextToken_71 : decode cX4_nextToken 71 = .ok (.bipush 122, 2) := by decide +kernel
theorem dX4_nextToken_73 : decode cX4_nextToken 73 = .ok (.invokestatic 103, 3) := by decide +kernel
theorem dX4_nextToken_76 : decode cX4_nextToken 76 = .ok (.ifCond .ne 15, 3) := by decide +kernel
theorem dX4_nextToken_79 : decode cX4_nextToken 79 = .ok (.iload_n 1, 1) := by decide +kernel
theorem dX4_nextToken_80 : decode cX4_nextToken 80 = .ok (.bipush 44, 2) := by decide +kernel
theorem dX4_nextToken_82 : decode cX4_nextToken 82 = .ok (.if_icmp .eq 9, 3) := by decide +kernel
theorem dX4_nextToken_85 : decode cX4_nextToken 85 = .ok (.iload_n 1, 1) := by decide +kernel
theorem dX4_nextToken_86 : decode cX4_nextToken 86 = .ok (.bipush 59, 2) := by decide +kernel
theorem dX4_nextToken_88 : decode cX4_nextToken 88 = .ok (.if_icmp .ne 7, 3) := by decide +kernel
theorem dX4_nextToken_91 : decode cX4_nextToken 91 = .ok (.iload_n 1, 1) := by decide +kernel
theorem dX4_nextToken_92 : decode cX4_nextToken 92 = .ok (.goto 6, 3) := by decide +kernel
theorem dX4_nextToken_95 : decode cX4_nextToken 95 = .ok (.sipush 257, 3) := by decide +kernel
theorem dX4_nextToken_98 : decode cX4_nextToken 98 = .ok (.putfield 74, 3) := by decide +kernel
theorem dX4_nextToken_101 : decode cX4_nextToken 101 = .ok (.return_, 1) := by decide +kernel
theorem dX4_readFigures_0 : decode cX4_readFigures 0 = .ok (.aload_n 0, 1) := by decide +kernel
theorem dX4_readFigures_1 : decode cX4_readFigures 1 = .ok (.iconst 0, 1) := by decide +kernel
theorem dX4_readFigures_2 : decode cX4_readFigures 2 = .ok (.putfield 100, 3) := by decide +kernel
theorem dX4_readFigures_5 : decode cX4_readFigures 5 = .ok (.aload_n 0, 1) := by decide +kernel
theorem dX4_readFigures_6 : decode cX4_readFigures 6 = .ok (.getfield 107, 3) := by decide +kernel
theorem dX4_readFigures_9 : decode cX4_readFigures 9 = .ok (.istore_n 1, 1) := by decide +kernel
theorem dX4_readFigures_10 : decode cX4_readFigures 10 = .ok (.iload_n 1, 1) := by decide +kernel
theorem dX4_readFigures_11 : decode cX4_readFigures 11 = .ok (.aload_n 0, 1) := by decide +kernel
theorem dX4_readFigures_12 : decode cX4_readFigures 12 = .ok (.getfield 22, 3) := by decide +kernel
theorem dX4_readFigures_15 : decode cX4_readFigures 15 = .ok (.if_icmp .ge 59, 3) := by decide +kernel
theorem dX4_readFigures_18 : decode cX4_readFigures 18 = .ok (.iload_n 1, 1) := by decide +kernel
theorem dX4_readFigures_19 : decode cX4_readFigures 19 = .ok (.aload_n 0, 1) := by decide +kernel
theorem dX4_readFigures_20 : decode cX4_readFigures 20 = .ok (.getfield 107, 3) := by decide +kernel
theorem dX4_readFigures_23 : decode cX4_readFigures 23 = .ok (.iconst 3, 1) := by decide +kernel
theorem dX4_readFigures_24 : decode cX4_readFigures 24 = .ok (.iadd, 1) := by decide +kernel
theorem dX4_readFigures_25 : decode cX4_readFigures 25 = .ok (.if_icmp .ge 49, 3) := by decide +kernel
theorem dX4_readFigures_28 : decode cX4_readFigures 28 = .ok (.aload_n 0, 1) := by decide +kernel
theorem dX4_readFigures_29 : decode cX4_readFigures 29 = .ok (.getfield 18, 3) := by decide +kernel
theorem dX4_readFigures_32 : decode cX4_readFigures 32 = .ok (.iload_n 1, 1) := by decide +kernel
theorem dX4_readFigures_33 : decode cX4_readFigures 33 = .ok (.iaload, 1) := by decide +kernel
theorem dX4_readFigures_34 : decode cX4_readFigures 34 = .ok (.invokestatic 110, 3) := by decide +kernel
theorem dX4_readFigures_37 : decode cX4_readFigures 37 = .ok (.ifCond .eq 37, 3) := by decide +kernel
theorem dX4_readFigures_40 : decode cX4_readFigures 40 = .ok (.aload_n 0, 1) := by decide +kernel
theorem dX4_readFigures_41 : decode cX4_readFigures 41 = .ok (.bipush 10, 2) := by decide +kernel
theorem dX4_readFigures_43 : decode cX4_readFigures 43 = .ok (.aload_n 0, 1) := by decide +kernel
theorem dX4_readFigures_44 : decode cX4_readFigures 44 = .ok (.getfield 100, 3) := by decide +kernel
theorem dX4_readFigures_47 : decode cX4_readFigures 47 = .ok (.imul, 1) := by decide +kernel
theorem dX4_readFigures_48 : decode cX4_readFigures 48 = .ok (.aload_n 0, 1) := by decide +kernel
theorem dX4_readFigures_49 : decode cX4_readFigures 49 = .ok (.getfield 18, 3) := by decide +kernel
theorem dX4_readFigures_52 : decode cX4_readFigures 52 = .ok (.iload_n 1, 1) := by decide +kernel
theorem dX4_readFigures_53 : decode cX4_readFigures 53 = .ok (.iaload, 1) := by decide +kernel
theorem dX4_readFigures_54 : decode cX4_readFigures 54 = .ok (.iadd, 1) := by decide +kernel
theorem dX4_readFigures_55 : decode cX4_readFigures 55 = .ok (.bipush 48, 2) := by decide +kernel
theorem dX4_readFigures_57 : decode cX4_readFigures 57 = .ok (.isub, 1) := by decide +kernel
theorem dX4_readFigures_58 : decode cX4_readFigures 58 = .ok (.putfield 100, 3) := by decide +kernel
theorem dX4_readFigures_61 : decode cX4_readFigures 61 = .ok (.aload_n 0, 1) := by decide +kernel
theorem dX4_readFigures_62 : decode cX4_readFigures 62 = .ok (.iload_n 1, 1) := by decide +kernel
theorem dX4_readFigures_63 : decode cX4_readFigures 63 = .ok (.iconst 1, 1) := by decide +kernel
theorem dX4_readFigures_64 : decode cX4_readFigures 64 = .ok (.iadd, 1) := by decide +kernel
theorem dX4_readFigures_65 : decode cX4_readFigures 65 = .ok (.putfield 29, 3) := by decide +kernel
theorem dX4_readFigures_68 : decode cX4_readFigures 68 = .ok (.iinc 1 1, 3) := by decide +kernel
theorem dX4_readFigures_71 : decode cX4_readFigures 71 = .ok (.goto (-61), 3) := by decide +kernel
theorem dX4_readFigures_74 : decode cX4_readFigures 74 = .ok (.aload_n 0, 1) := by decide +kernel
theorem dX4_readFigures_75 : decode cX4_readFigures 75 = .ok (.aload_n 0, 1) := by decide +kernel
theorem dX4_readFigures_76 : decode cX4_readFigures 76 = .ok (.getfield 29, 3) := by decide +kernel
theorem dX4_readFigures_79 : decode cX4_readFigures 79 = .ok (.aload_n 0, 1) := by decide +kernel
theorem dX4_readFigures_80 : decode cX4_readFigures 80 = .ok (.getfield 107, 3) := by decide +kernel
theorem dX4_readFigures_83 : decode cX4_readFigures 83 = .ok (.isub, 1) := by decide +kernel
theorem dX4_readFigures_84 : decode cX4_readFigures 84 = .ok (.iconst 2, 1) := by decide +kernel
theorem dX4_readFigures_85 : decode cX4_readFigures 85 = .ok (.if_icmp .gt 9, 3) := by decide +kernel
theorem dX4_readFigures_88 : decode cX4_readFigures 88 = .ok (.sipush 256, 3) := by decide +kernel
theorem dX4_readFigures_91 : decode cX4_readFigures 91 = .ok (.goto 6, 3) := by decide +kernel
theorem dX4_readFigures_94 : decode cX4_readFigures 94 = .ok (.sipush 257, 3) := by decide +kernel
theorem dX4_readFigures_97 : decode cX4_readFigures 97 = .ok (.putfield 74, 3) := by decide +kernel
theorem dX4_readFigures_100 : decode cX4_readFigures 100 = .ok (.return_, 1) := by decide +kernel
theorem dX4_isFigure_0 : decode cX4_isFigure 0 = .ok (.iload_n 0, 1) := by decide +kernel
theorem dX4_isFigure_1 : decode cX4_isFigure 1 = .ok (.bipush 48, 2) := by decide +kernel
theorem dX4_isFigure_3 : decode cX4_isFigure 3 = .ok (.bipush 57, 2) := by decide +kernel
theorem dX4_isFigure_5 : decode cX4_isFigure 5 = .ok (.invokestatic 103, 3) := by decide +kernel
theorem dX4_isFigure_8 : decode cX4_isFigure 8 = .ok (.ireturn, 1) := by decide +kernel
theorem dX5_init_0 : decode cX5_init 0 = .ok (.aload_n 0, 1) := by decide +kernel
theorem dX5_init_1 : decode cX5_init 1 = .ok (.invokespecial 3, 3) := by decide +kernel
theorem dX5_init_4 : decode cX5_init 4 = .ok (.aload_n 0, 1) := by decide +kernel
theorem dX5_init_5 : decode cX5_init 5 = .ok (.bipush 40, 2) := by decide +kernel
theorem dX5_init_7 : decode cX5_init 7 = .ok (.newarray .int, 2) := by decide +kernel
theorem dX5_init_9 : decode cX5_init 9 = .ok (.putfield 9, 3) := by decide +kernel
theorem dX5_init_12 : decode cX5_init 12 = .ok (.aload_n 0, 1) := by decide +kernel
theorem dX5_init_13 : decode cX5_init 13 = .ok (.iconst 1, 1) := by decide +kernel
theorem dX5_init_14 : decode cX5_init 14 = .ok (.putfield 15, 3) := by decide +kernel
theorem dX5_init_17 : decode cX5_init 17 = .ok (.return_, 1) := by decide +kernel
theorem dX5_make_0 : decode cX5_make 0 = .ok (.aload_n 0, 1) := by decide +kernel
theorem dX5_make_1 : decode cX5_make 1 = .ok (.iconst 0, 1) := by decide +kernel
theorem dX5_make_2 : decode cX5_make 2 = .ok (.putfield 15, 3) := by decide +kernel
theorem dX5_make_5 : decode cX5_make 5 = .ok (.aload_n 0, 1) := by decide +kernel
theorem dX5_make_6 : decode cX5_make 6 = .ok (.iload_n 1, 1) := by decide +kernel
theorem dX5_make_7 : decode cX5_make 7 = .ok (.putfield 19, 3) := by decide +kernel
theorem dX5_make_10 : decode cX5_make 10 = .ok (.aload_n 0, 1) := by decide +kernel
theorem dX5_make_11 : decode cX5_make 11 = .ok (.iload_n 2, 1) := by decide +kernel
theorem dX5_make_12 : decode cX5_make 12 = .ok (.putfield 23, 3) := by decide +kernel
theorem dX5_make_15 : decode cX5_make 15 = .ok (.aload_n 0, 1) := by decide +kernel
theorem dX5_make_16 : decode cX5_make 16 = .ok (.getfield 9, 3) := by decide +kernel
theorem dX5_make_19 : decode cX5_make 19 = .ok (.iconst 0, 1) := by decide +kernel
theorem dX5_make_20 : decode cX5_make 20 = .ok (.invokestatic 26, 3) := by decide +kernel
theorem dX5_make_23 : decode cX5_make 23 = .ok (.return_, 1) := by decide +kernel
theorem dX5_holds_0 : decode cX5_holds 0 = .ok (.iload_n 1, 1) := by decide +kernel
theorem dX5_holds_1 : decode cX5_holds 1 = .ok (.ifCond .lt 29, 3) := by decide +kernel
theorem dX5_holds_4 : decode cX5_holds 4 = .ok (.iload_n 1, 1) := by decide +kernel
theorem dX5_holds_5 : decode cX5_holds 5 = .ok (.aload_n 0, 1) := by decide +kernel
theorem dX5_holds_6 : decode cX5_holds 6 = .ok (.getfield 23, 3) := by decide +kernel
theorem dX5_holds_9 : decode cX5_holds 9 = .ok (.if_icmp .gt 21, 3) := by decide +kernel
theorem dX5_holds_12 : decode cX5_holds 12 = .ok (.iload_n 2, 1) := by decide +kernel
theorem dX5_holds_13 : decode cX5_holds 13 = .ok (.ifCond .lt 17, 3) := by decide +kernel
theorem dX5_holds_16 : decode cX5_holds 16 = .ok (.iload_n 2, 1) := by decide +kernel
theorem dX5_holds_17 : decode cX5_holds 17 = .ok (.aload_n 0, 1) := by decide +kernel
theorem dX5_holds_18 : decode cX5_holds 18 = .ok (.getfield 23, 3) := by decide +kernel
theorem dX5_holds_21 : decode cX5_holds 21 = .ok (.iload_n 1, 1) := by decide +kernel
theorem dX5_holds_22 : decode cX5_holds 22 = .ok (.isub, 1) := by decide +kernel
theorem dX5_holds_23 : decode cX5_holds 23 = .ok (.if_icmp .gt 7, 3) := by decide +kernel
theorem dX5_holds_26 : decode cX5_holds 26 = .ok (.iconst 1, 1) := by decide +kernel
theorem dX5_holds_27 : decode cX5_holds 27 = .ok (.goto 4, 3) := by decide +kernel
theorem dX5_holds_30 : decode cX5_holds 30 = .ok (.iconst 0, 1) := by decide +kernel
theorem dX5_holds_31 : decode cX5_holds 31 = .ok (.ireturn, 1) := by decide +kernel
theorem dX5_put_0 : decode cX5_put 0 = .ok (.aload_n 0, 1) := by decide +kernel
theorem dX5_put_1 : decode cX5_put 1 = .ok (.getfield 9, 3) := by decide +kernel
theorem dX5_put_4 : decode cX5_put 4 = .ok (.iload_n 1, 1) := by decide +kernel
theorem dX5_put_5 : decode cX5_put 5 = .ok (.aload_n 0, 1) := by decide +kernel
theorem dX5_put_6 : decode cX5_put 6 = .ok (.iload_n 2, 1) := by decide +kernel
theorem dX5_put_7 : decode cX5_put 7 = .ok (.invokevirtual 32, 3) := by decide +kernel
theorem dX5_put_10 : decode cX5_put 10 = .ok (.iastore, 1) := by decide +kernel
theorem dX5_put_11 : decode cX5_put 11 = .ok (.aload_n 0, 1) := by decide +kernel
theorem dX5_put_12 : decode cX5_put 12 = .ok (.getfield 9, 3) := by decide +kernel
theorem dX5_put_15 : decode cX5_put 15 = .ok (.iload_n 1, 1) := by decide +kernel
theorem dX5_put_16 : decode cX5_put 16 = .ok (.iaload, 1) := by decide +kernel
theorem dX5_put_17 : decode cX5_put 17 = .ok (.ireturn, 1) := by decide +kernel
theorem dX5_lowestBits_0 : decode cX5_lowestBits 0 = .ok (.aload_n 0, 1) := by decide +kernel
theorem dX5_lowestBits_1 : decode cX5_lowestBits 1 = .ok (.getfield 19, 3) := by decide +kernel
theorem dX5_lowestBits_4 : decode cX5_lowestBits 4 = .ok (.ifCond .ne 6, 3) := by decide +kernel
theorem dX5_lowestBits_7 : decode cX5_lowestBits 7 = .ok (.iload_n 1, 1) := by decide +kernel
theorem dX5_lowestBits_8 : decode cX5_lowestBits 8 = .ok (.i2b, 1) := by decide +kernel
theorem dX5_lowestBits_9 : decode cX5_lowestBits 9 = .ok (.ireturn, 1) := by decide +kernel
theorem dX5_lowestBits_10 : decode cX5_lowestBits 10 = .ok (.aload_n 0, 1) := by decide +kernel
theorem dX5_lowestBits_11 : decode cX5_lowestBits 11 = .ok (.getfield 19, 3) := by decide +kernel
theorem dX5_lowestBits_14 : decode cX5_lowestBits 14 = .ok (.iconst 1, 1) := by decide +kernel
theorem dX5_lowestBits_15 : decode cX5_lowestBits 15 = .ok (.if_icmp .ne 8, 3) := by decide +kernel
theorem dX5_lowestBits_18 : decode cX5_lowestBits 18 = .ok (.iload_n 1, 1) := by decide +kernel
theorem dX5_lowestBits_19 : decode cX5_lowestBits 19 = .ok (.i2s, 1) := by decide +kernel
theorem dX5_lowestBits_20 : decode cX5_lowestBits 20 = .ok (.goto 4, 3) := by decide +kernel
theorem dX5_lowestBits_23 : decode cX5_lowestBits 23 = .ok (.iload_n 1, 1) := by decide +kernel
theorem dX5_lowestBits_24 : decode cX5_lowestBits 24 = .ok (.ireturn, 1) := by decide +kernel
theorem dX6_init_0 : decode cX6_init 0 = .ok (.aload_n 0, 1) := by decide +kernel
theorem dX6_init_1 : decode cX6_init 1 = .ok (.invokespecial 1, 3) := by decide +kernel
theorem dX6_init_4 : decode cX6_init 4 = .ok (.aload_n 0, 1) := by decide +kernel
theorem dX6_init_5 : decode cX6_init 5 = .ok (.bipush 8, 2) := by decide +kernel
theorem dX6_init_7 : decode cX6_init 7 = .ok (.anewarray 9, 3) := by decide +kernel
theorem dX6_init_10 : decode cX6_init 10 = .ok (.putfield 11, 3) := by decide +kernel
theorem dX6_init_13 : decode cX6_init 13 = .ok (.aload_n 0, 1) := by decide +kernel
theorem dX6_init_14 : decode cX6_init 14 = .ok (.new 15, 3) := by decide +kernel
theorem dX6_init_17 : decode cX6_init 17 = .ok (.dup, 1) := by decide +kernel
theorem dX6_init_18 : decode cX6_init 18 = .ok (.invokespecial 17, 3) := by decide +kernel
theorem dX6_init_21 : decode cX6_init 21 = .ok (.putfield 18, 3) := by decide +kernel
theorem dX6_init_24 : decode cX6_init 24 = .ok (.aload_n 0, 1) := by decide +kernel
theorem dX6_init_25 : decode cX6_init 25 = .ok (.new 22, 3) := by decide +kernel
theorem dX6_init_28 : decode cX6_init 28 = .ok (.dup, 1) := by decide +kernel
theorem dX6_init_29 : decode cX6_init 29 = .ok (.invokespecial 24, 3) := by decide +kernel
theorem dX6_init_32 : decode cX6_init 32 = .ok (.putfield 25, 3) := by decide +kernel
theorem dX6_init_35 : decode cX6_init 35 = .ok (.aload_n 0, 1) := by decide +kernel
theorem dX6_init_36 : decode cX6_init 36 = .ok (.new 29, 3) := by decide +kernel
theorem dX6_init_39 : decode cX6_init 39 = .ok (.dup, 1) := by decide +kernel
theorem dX6_init_40 : decode cX6_init 40 = .ok (.invokespecial 31, 3) := by decide +kernel
theorem dX6_init_43 : decode cX6_init 43 = .ok (.putfield 32, 3) := by decide +kernel
theorem dX6_init_46 : decode cX6_init 46 = .ok (.aload_n 0, 1) := by decide +kernel
theorem dX6_init_47 : decode cX6_init 47 = .ok (.iconst 2, 1) := by decide +kernel
theorem dX6_init_48 : decode cX6_init 48 = .ok (.anewarray 22, 3) := by decide +kernel
theorem dX6_init_51 : decode cX6_init 51 = .ok (.putfield 36, 3) := by decide +kernel
theorem dX6_init_54 : decode cX6_init 54 = .ok (.aload_n 0, 1) := by decide +kernel
theorem dX6_init_55 : decode cX6_init 55 = .ok (.new 40, 3) := by decide +kernel
theorem dX6_init_58 : decode cX6_init 58 = .ok (.dup, 1) := by decide +kernel
theorem dX6_init_59 : decode cX6_init 59 = .ok (.invokespecial 42, 3) := by decide +kernel
theorem dX6_init_62 : decode cX6_init 62 = .ok (.putfield 43, 3) := by decide +kernel
theorem dX6_init_65 : decode cX6_init 65 = .ok (.aload_n 0, 1) := by decide +kernel
theorem dX6_init_66 : decode cX6_init 66 = .ok (.new 47, 3) := by decide +kernel
theorem dX6_init_69 : decode cX6_init 69 = .ok (.dup, 1) := by decide +kernel
theorem dX6_init_70 : decode cX6_init 70 = .ok (.invokespecial 49, 3) := by decide +kernel
theorem dX6_init_73 : decode cX6_init 73 = .ok (.putfield 50, 3) := by decide +kernel
theorem dX6_init_76 : decode cX6_init 76 = .ok (.iconst 0, 1) := by decide +kernel
theorem dX6_init_77 : decode cX6_init 77 = .ok (.istore_n 1, 1) := by decide +kernel
theorem dX6_init_78 : decode cX6_init 78 = .ok (.iload_n 1, 1) := by decide +kernel
theorem dX6_init_79 : decode cX6_init 79 = .ok (.bipush 8, 2) := by decide +kernel
theorem dX6_init_81 : decode cX6_init 81 = .ok (.if_icmp .ge 22, 3) := by decide +kernel
theorem dX6_init_84 : decode cX6_init 84 = .ok (.aload_n 0, 1) := by decide +kernel
theorem dX6_init_85 : decode cX6_init 85 = .ok (.getfield 11, 3) := by decide +kernel
theorem dX6_init_88 : decode cX6_init 88 = .ok (.iload_n 1, 1) := by decide +kernel
theorem dX6_init_89 : decode cX6_init 89 = .ok (.new 9, 3) := by decide +kernel
theorem dX6_init_92 : decode cX6_init 92 = .ok (.dup, 1) := by decide +kernel
theorem dX6_init_93 : decode cX6_init 93 = .ok (.invokespecial 54, 3) := by decide +kernel
theorem dX6_init_96 : decode cX6_init 96 = .ok (.aastore, 1) := by decide +kernel
theorem dX6_init_97 : decode cX6_init 97 = .ok (.iinc 1 1, 3) := by decide +kernel
theorem dX6_init_100 : decode cX6_init 100 = .ok (.goto (-22), 3) := by decide +kernel
theorem dX6_init_103 : decode cX6_init 103 = .ok (.iconst 0, 1) := by decide +kernel
theorem dX6_init_104 : decode cX6_init 104 = .ok (.istore_n 1, 1) := by decide +kernel
theorem dX6_init_105 : decode cX6_init 105 = .ok (.iload_n 1, 1) := by decide +kernel
theorem dX6_init_106 : decode cX6_init 106 = .ok (.iconst 2, 1) := by decide +kernel
theorem dX6_init_107 : decode cX6_init 107 = .ok (.if_icmp .ge 22, 3) := by decide +kernel
theorem dX6_init_110 : decode cX6_init 110 = .ok (.aload_n 0, 1) := by decide +kernel
theorem dX6_init_111 : decode cX6_init 111 = .ok (.getfield 36, 3) := by decide +kernel
theorem dX6_init_114 : decode cX6_init 114 = .ok (.iload_n 1, 1) := by decide +kernel
theorem dX6_init_115 : decode cX6_init 115 = .ok (.new 22, 3) := by decide +kernel
theorem dX6_init_118 : decode cX6_init 118 = .ok (.dup, 1) := by decide +kernel
theorem dX6_init_119 : decode cX6_init 119 = .ok (.invokespecial 24, 3) := by decide +kernel
theorem dX6_init_122 : decode cX6_init 122 = .ok (.aastore, 1) := by decide +kernel
theorem dX6_init_123 : decode cX6_init 123 = .ok (.iinc 1 1, 3) := by decide +kernel
theorem dX6_init_126 : decode cX6_init 126 = .ok (.goto (-21), 3) := by decide +kernel
theorem dX6_init_129 : decode cX6_init 129 = .ok (.return_, 1) := by decide +kernel
theorem dX6_row_0 : decode cX6_row 0 = .ok (.iload_n 1, 1) := by decide +kernel
theorem dX6_row_1 : decode cX6_row 1 = .ok (.invokestatic 55, 3) := by decide +kernel
theorem dX6_row_4 : decode cX6_row 4 = .ok (.ifCond .eq 18, 3) := by decide +kernel
theorem dX6_row_7 : decode cX6_row 7 = .ok (.iload_n 2, 1) := by decide +kernel
theorem dX6_row_8 : decode cX6_row 8 = .ok (.iconst 0, 1) := by decide +kernel
theorem dX6_row_9 : decode cX6_row 9 = .ok (.iconst 2, 1) := by decide +kernel
theorem dX6_row_10 : decode cX6_row 10 = .ok (.invokestatic 59, 3) := by decide +kernel
theorem dX6_row_13 : decode cX6_row 13 = .ok (.ifCond .eq 9, 3) := by decide +kernel
theorem dX6_row_16 : decode cX6_row 16 = .ok (.iload_n 3, 1) := by decide +kernel
theorem dX6_row_17 : decode cX6_row 17 = .ok (.bipush 40, 2) := by decide +kernel
theorem dX6_row_19 : decode cX6_row 19 = .ok (.if_icmp .le 6, 3) := by decide +kernel
theorem dX6_row_22 : decode cX6_row 22 = .ok (.ldc 63, 2) := by decide +kernel
theorem dX6_row_24 : decode cX6_row 24 = .ok (.ireturn, 1) := by decide +kernel
theorem dX6_row_25 : decode cX6_row 25 = .ok (.iload_n 3, 1) := by decide +kernel
theorem dX6_row_26 : decode cX6_row 26 = .ok (.ifCond .ge 9, 3) := by decide +kernel
theorem dX6_row_29 : decode cX6_row 29 = .ok (.aload_n 0, 1) := by decide +kernel
theorem dX6_row_30 : decode cX6_row 30 = .ok (.iconst 4, 1) := by decide +kernel
theorem dX6_row_31 : decode cX6_row 31 = .ok (.invokevirtual 64, 3) := by decide +kernel
theorem dX6_row_34 : decode cX6_row 34 = .ok (.ireturn, 1) := by decide +kernel
theorem dX6_row_35 : decode cX6_row 35 = .ok (.aload_n 0, 1) := by decide +kernel
theorem dX6_row_36 : decode cX6_row 36 = .ok (.getfield 11, 3) := by decide +kernel
theorem dX6_row_39 : decode cX6_row 39 = .ok (.iload_n 1, 1) := by decide +kernel
theorem dX6_row_40 : decode cX6_row 40 = .ok (.aaload, 1) := by decide +kernel
theorem dX6_row_41 : decode cX6_row 41 = .ok (.iload_n 2, 1) := by decide +kernel
theorem dX6_row_42 : decode cX6_row 42 = .ok (.iload_n 3, 1) := by decide +kernel
theorem dX6_row_43 : decode cX6_row 43 = .ok (.invokevirtual 68, 3) := by decide +kernel
theorem dX6_row_46 : decode cX6_row 46 = .ok (.aload_n 0, 1) := by decide +kernel
theorem dX6_row_47 : decode cX6_row 47 = .ok (.iload_n 3, 1) := by decide +kernel
theorem dX6_row_48 : decode cX6_row 48 = .ok (.invokevirtual 72, 3) := by decide +kernel
theorem dX6_row_51 : decode cX6_row 51 = .ok (.ireturn, 1) := by decide +kernel
theorem dX6_set_0 : decode cX6_set 0 = .ok (.iload_n 1, 1) := by decide +kernel
theorem dX6_set_1 : decode cX6_set 1 = .ok (.invokestatic 55, 3) := by decide +kernel
theorem dX6_set_4 : decode cX6_set 4 = .ok (.ifCond .ne 6, 3) := by decide +kernel
theorem dX6_set_7 : decode cX6_set 7 = .ok (.ldc 63, 2) := by decide +kernel
theorem dX6_set_9 : decode cX6_set 9 = .ok (.ireturn, 1) := by decide +kernel
theorem dX6_set_10 : decode cX6_set 10 = .ok (.aload_n 0, 1) := by decide +kernel
theorem dX6_set_11 : decode cX6_set 11 = .ok (.getfield 11, 3) := by decide +kernel
theorem dX6_set_14 : decode cX6_set 14 = .ok (.iload_n 1, 1) := by decide +kernel
theorem dX6_set_15 : decode cX6_set 15 = .ok (.aaload, 1) := by decide +kernel
theorem dX6_set_16 : decode cX6_set 16 = .ok (.astore 4, 2) := by decide +kernel
theorem dX6_set_18 : decode cX6_set 18 = .ok (.aload 4, 2) := by decide +kernel
theorem dX6_set_20 : decode cX6_set 20 = .ok (.getfield 75, 3) := by decide +kernel
theorem dX6_set_23 : decode cX6_set 23 = .ok (.ifCond .eq 9, 3) := by decide +kernel
theorem dX6_set_26 : decode cX6_set 26 = .ok (.aload_n 0, 1) := by decide +kernel
theorem dX6_set_27 : decode cX6_set 27 = .ok (.iconst 1, 1) := by decide +kernel
theorem dX6_set_28 : decode cX6_set 28 = .ok (.invokevirtual 64, 3) := by decide +kernel
theorem dX6_set_31 : decode cX6_set 31 = .ok (.ireturn, 1) := by decide +kernel
theorem dX6_set_32 : decode cX6_set 32 = .ok (.aload 4, 2) := by decide +kernel
theorem dX6_set_34 : decode cX6_set 34 = .ok (.iload_n 2, 1) := by decide +kernel
theorem dX6_set_35 : decode cX6_set 35 = .ok (.iconst 1, 1) := by decide +kernel
theorem dX6_set_36 : decode cX6_set 36 = .ok (.invokevirtual 79, 3) := by decide +kernel
theorem dX6_set_39 : decode cX6_set 39 = .ok (.ifCond .ne 9, 3) := by decide +kernel
theorem dX6_set_42 : decode cX6_set 42 = .ok (.aload_n 0, 1) := by decide +kernel
theorem dX6_set_43 : decode cX6_set 43 = .ok (.iconst 2, 1) := by decide +kernel
theorem dX6_set_44 : decode cX6_set 44 = .ok (.invokevirtual 64, 3) := by decide +kernel
theorem dX6_set_47 : decode cX6_set 47 = .ok (.ireturn, 1) := by decide +kernel
theorem dX6_set_48 : decode cX6_set 48 = .ok (.aload_n 0, 1) := by decide +kernel
theorem dX6_set_49 : decode cX6_set 49 = .ok (.aload 4, 2) := by decide +kernel
theorem dX6_set_51 : decode cX6_set 51 = .ok (.iload_n 2, 1) := by decide +kernel
theorem dX6_set_52 : decode cX6_set 52 = .ok (.iload_n 3, 1) := by decide +kernel
theorem dX6_set_53 : decode cX6_set 53 = .ok (.invokevirtual 83, 3) := by decide +kernel
theorem dX6_set_56 : decode cX6_set 56 = .ok (.invokevirtual 72, 3) := by decide +kernel
theorem dX6_set_59 : decode cX6_set 59 = .ok (.ireturn, 1) := by decide +kernel
theorem dX6_copy_0 : decode cX6_copy 0 = .ok (.iload_n 1, 1) := by decide +kernel
theorem dX6_copy_1 : decode cX6_copy 1 = .ok (.invokestatic 55, 3) := by decide +kernel
theorem dX6_copy_4 : decode cX6_copy 4 = .ok (.ifCond .eq 10, 3) := by decide +kernel
theorem dX6_copy_7 : decode cX6_copy 7 = .ok (.iload_n 3, 1) := by decide +kernel
theorem dX6_copy_8 : decode cX6_copy 8 = .ok (.invokestatic 55, 3) := by decide +kernel
theorem dX6_copy_11 : decode cX6_copy 11 = .ok (.ifCond .ne 6, 3) := by decide +kernel
theorem dX6_copy_14 : decode cX6_copy 14 = .ok (.ldc 63, 2) := by decide +kernel
theorem dX6_copy_16 : decode cX6_copy 16 = .ok (.ireturn, 1) := by decide +kernel
theorem dX6_copy_17 : decode cX6_copy 17 = .ok (.aload_n 0, 1) := by decide +kernel
theorem dX6_copy_18 : decode cX6_copy 18 = .ok (.getfield 11, 3) := by decide +kernel
theorem dX6_copy_21 : decode cX6_copy 21 = .ok (.iload_n 1, 1) := by decide +kernel
theorem dX6_copy_22 : decode cX6_copy 22 = .ok (.aaload, 1) := by decide +kernel
theorem dX6_copy_23 : decode cX6_copy 23 = .ok (.astore 6, 2) := by decide +kernel
theorem dX6_copy_25 : decode cX6_copy 25 = .ok (.aload_n 0, 1) := by decide +kernel
theorem dX6_copy_26 : decode cX6_copy 26 = .ok (.getfield 11, 3) := by decide +kernel
theorem dX6_copy_29 : decode cX6_copy 29 = .ok (.iload_n 3, 1) := by decide +kernel
theorem dX6_copy_30 : decode cX6_copy 30 = .ok (.aaload, 1) := by decide +kernel
theorem dX6_copy_31 : decode cX6_copy 31 = .ok (.astore 7, 2) := by decide +kernel
theorem dX6_copy_33 : decode cX6_copy 33 = .ok (.aload 6, 2) := by decide +kernel
theorem dX6_copy_35 : decode cX6_copy 35 = .ok (.getfield 75, 3) := by decide +kernel
theorem dX6_copy_38 : decode cX6_copy 38 = .ok (.ifCond .ne 11, 3) := by decide +kernel
theorem dX6_copy_41 : decode cX6_copy 41 = .ok (.aload 7, 2) := by decide +kernel
theorem dX6_copy_43 : decode cX6_copy 43 = .ok (.getfield 75, 3) := by decide +kernel
theorem dX6_copy_46 : decode cX6_copy 46 = .ok (.ifCond .eq 9, 3) := by decide +kernel
theorem dX6_copy_49 : decode cX6_copy 49 = .ok (.aload_n 0, 1) := by decide +kernel
theorem dX6_copy_50 : decode cX6_copy 50 = .ok (.iconst 1, 1) := by decide +kernel
theorem dX6_copy_51 : decode cX6_copy 51 = .ok (.invokevirtual 64, 3) := by decide +kernel
theorem dX6_copy_54 : decode cX6_copy 54 = .ok (.ireturn, 1) := by decide +kernel
theorem dX6_copy_55 : decode cX6_copy 55 = .ok (.aload 6, 2) := by decide +kernel
theorem dX6_copy_57 : decode cX6_copy 57 = .ok (.getfield 87, 3) := by decide +kernel
theorem dX6_copy_60 : decode cX6_copy 60 = .ok (.aload 7, 2) := by decide +kernel
theorem dX6_copy_62 : decode cX6_copy 62 = .ok (.getfield 87, 3) := by decide +kernel
theorem dX6_copy_65 : decode cX6_copy 65 = .ok (.if_icmp .eq 9, 3) := by decide +kernel
theorem dX6_copy_68 : decode cX6_copy 68 = .ok (.aload_n 0, 1) := by decide +kernel
theorem dX6_copy_69 : decode cX6_copy 69 = .ok (.iconst 5, 1) := by decide +kernel
theorem dX6_copy_70 : decode cX6_copy 70 = .ok (.invokevirtual 64, 3) := by decide +kernel
theorem dX6_copy_73 : decode cX6_copy 73 = .ok (.ireturn, 1) := by decide +kernel
theorem dX6_copy_74 : decode cX6_copy 74 = .ok (.aload 6, 2) := by decide +kernel
theorem dX6_copy_76 : decode cX6_copy 76 = .ok (.iload_n 2, 1) := by decide +kernel
theorem dX6_copy_77 : decode cX6_copy 77 = .ok (.iload 5, 2) := by decide +kernel
theorem dX6_copy_79 : decode cX6_copy 79 = .ok (.invokevirtual 79, 3) := by decide +kernel
theorem dX6_copy_82 : decode cX6_copy 82 = .ok (.ifCond .eq 15, 3) := by decide +kernel
theorem dX6_copy_85 : decode cX6_copy 85 = .ok (.aload 7, 2) := by decide +kernel
theorem dX6_copy_87 : decode cX6_copy 87 = .ok (.iload 4, 2) := by decide +kernel
theorem dX6_copy_89 : decode cX6_copy 89 = .ok (.iload 5, 2) := by decide +kernel
theorem dX6_copy_91 : decode cX6_copy 91 = .ok (.invokevirtual 79, 3) := by decide +kernel
theorem dX6_copy_94 : decode cX6_copy 94 = .ok (.ifCond .ne 9, 3) := by decide +kernel
theorem dX6_copy_97 : decode cX6_copy 97 = .ok (.aload_n 0, 1) := by decide +kernel
theorem dX6_copy_98 : decode cX6_copy 98 = .ok (.iconst 2, 1) := by decide +kernel
theorem dX6_copy_99 : decode cX6_copy 99 = .ok (.invokevirtual 64, 3) := by decide +kernel
theorem dX6_copy_102 : decode cX6_copy 102 = .ok (.ireturn, 1) := by decide +kernel
theorem dX6_copy_103 : decode cX6_copy 103 = .ok (.aload 6, 2) := by decide +kernel
theorem dX6_copy_105 : decode cX6_copy 105 = .ok (.getfield 91, 3) := by decide +kernel
theorem dX6_copy_108 : decode cX6_copy 108 = .ok (.iload_n 2, 1) := by decide +kernel
theorem dX6_copy_109 : decode cX6_copy 109 = .ok (.aload 7, 2) := by decide +kernel
theorem dX6_copy_111 : decode cX6_copy 111 = .ok (.getfield 91, 3) := by decide +kernel
theorem dX6_copy_114 : decode cX6_copy 114 = .ok (.iload 4, 2) := by decide +kernel
theorem dX6_copy_116 : decode cX6_copy 116 = .ok (.iload 5, 2) := by decide +kernel
theorem dX6_copy_118 : decode cX6_copy 118 = .ok (.invokestatic 95, 3) := by decide +kernel
theorem dX6_copy_121 : decode cX6_copy 121 = .ok (.aload_n 0, 1) := by decide +kernel
theorem dX6_copy_122 : decode cX6_copy 122 = .ok (.iload 5, 2) := by decide +kernel
theorem dX6_copy_124 : decode cX6_copy 124 = .ok (.invokevirtual 72, 3) := by decide +kernel
theorem dX6_copy_127 : decode cX6_copy 127 = .ok (.ireturn, 1) := by decide +kernel
theorem dX6_drop_0 : decode cX6_drop 0 = .ok (.iload_n 1, 1) := by decide +kernel
theorem dX6_drop_1 : decode cX6_drop 1 = .ok (.invokestatic 55, 3) := by decide +kernel
theorem dX6_drop_4 : decode cX6_drop 4 = .ok (.ifCond .ne 6, 3) := by decide +kernel
theorem dX6_drop_7 : decode cX6_drop 7 = .ok (.ldc 63, 2) := by decide +kernel
theorem dX6_drop_9 : decode cX6_drop 9 = .ok (.ireturn, 1) := by decide +kernel
theorem dX6_drop_10 : decode cX6_drop 10 = .ok (.aload_n 0, 1) := by decide +kernel
theorem dX6_drop_11 : decode cX6_drop 11 = .ok (.getfield 11, 3) := by decide +kernel
theorem dX6_drop_14 : decode cX6_drop 14 = .ok (.iload_n 1, 1) := by decide +kernel
theorem dX6_drop_15 : decode cX6_drop 15 = .ok (.aaload, 1) := by decide +kernel
theorem dX6_drop_16 : decode cX6_drop 16 = .ok (.astore_n 2, 1) := by decide +kernel
theorem dX6_drop_17 : decode cX6_drop 17 = .ok (.aload_n 2, 1) := by decide +kernel
theorem dX6_drop_18 : decode cX6_drop 18 = .ok (.getfield 75, 3) := by decide +kernel
theorem dX6_drop_21 : decode cX6_drop 21 = .ok (.ifCond .eq 9, 3) := by decide +kernel
theorem dX6_drop_24 : decode cX6_drop 24 = .ok (.aload_n 0, 1) := by decide +kernel
theorem dX6_drop_25 : decode cX6_drop 25 = .ok (.iconst 1, 1) := by decide +kernel
theorem dX6_drop_26 : decode cX6_drop 26 = .ok (.invokevirtual 64, 3) := by decide +kernel
theorem dX6_drop_29 : decode cX6_drop 29 = .ok (.ireturn, 1) := by decide +kernel
theorem dX6_drop_30 : decode cX6_drop 30 = .ok (.aload_n 2, 1) := by decide +kernel
theorem dX6_drop_31 : decode cX6_drop 31 = .ok (.iconst 1, 1) := by decide +kernel
theorem dX6_drop_32 : decode cX6_drop 32 = .ok (.putfield 75, 3) := by decide +kernel
theorem dX6_drop_35 : decode cX6_drop 35 = .ok (.aload_n 0, 1) := by decide +kernel
theorem dX6_drop_36 : decode cX6_drop 36 = .ok (.aload_n 2, 1) := by decide +kernel
theorem dX6_drop_37 : decode cX6_drop 37 = .ok (.getfield 101, 3) := by decide +kernel
theorem dX6_drop_40 : decode cX6_drop 40 = .ok (.invokevirtual 72, 3) := by decide +kernel
theorem dX6_drop_43 : decode cX6_drop 43 = .ok (.ireturn, 1) := by decide +kernel
theorem dX6_feed_0 : decode cX6_feed 0 = .ok (.iload_n 1, 1) := by decide +kernel
theorem dX6_feed_1 : decode cX6_feed 1 = .ok (.iconst 0, 1) := by decide +kernel
theorem dX6_feed_2 : decode cX6_feed 2 = .ok (.sipush 255, 3) := by decide +kernel
theorem dX6_feed_5 : decode cX6_feed 5 = .ok (.invokestatic 59, 3) := by decide +kernel
theorem dX6_feed_8 : decode cX6_feed 8 = .ok (.ifCond .ne 6, 3) := by decide +kernel
theorem dX6_feed_11 : decode cX6_feed 11 = .ok (.ldc 63, 2) := by decide +kernel
theorem dX6_feed_13 : decode cX6_feed 13 = .ok (.ireturn, 1) := by decide +kernel
theorem dX6_feed_14 : decode cX6_feed 14 = .ok (.aload_n 0, 1) := by decide +kernel
theorem dX6_feed_15 : decode cX6_feed 15 = .ok (.getfield 18, 3) := by decide +kernel
theorem dX6_feed_18 : decode cX6_feed 18 = .ok (.getfield 104, 3) := by decide +kernel
theorem dX6_feed_21 : decode cX6_feed 21 = .ok (.bipush 120, 2) := by decide +kernel
theorem dX6_feed_23 : decode cX6_feed 23 = .ok (.if_icmp .lt 6, 3) := by decide +kernel
theorem dX6_feed_26 : decode cX6_feed 26 = .ok (.ldc 107, 2) := by decide +kernel
theorem dX6_feed_28 : decode cX6_feed 28 = .ok (.ireturn, 1) := by decide +kernel
theorem dX6_feed_29 : decode cX6_feed 29 = .ok (.aload_n 0, 1) := by decide +kernel
theorem dX6_feed_30 : decode cX6_feed 30 = .ok (.getfield 18, 3) := by decide +kernel
theorem dX6_feed_33 : decode cX6_feed 33 = .ok (.iload_n 1, 1) := by decide +kernel
theorem dX6_feed_34 : decode cX6_feed 34 = .ok (.invokevirtual 108, 3) := by decide +kernel
theorem dX6_feed_37 : decode cX6_feed 37 = .ok (.aload_n 0, 1) := by decide +kernel
theorem dX6_feed_38 : decode cX6_feed 38 = .ok (.getfield 18, 3) := by decide +kernel
theorem dX6_feed_41 : decode cX6_feed 41 = .ok (.getfield 104, 3) := by decide +kernel
theorem dX6_feed_44 : decode cX6_feed 44 = .ok (.ireturn, 1) := by decide +kernel
theorem dX6_estuary_0 : decode cX6_estuary 0 = .ok (.aload_n 0, 1) := by decide +kernel
theorem dX6_estuary_1 : decode cX6_estuary 1 = .ok (.getfield 18, 3) := by decide +kernel
theorem dX6_estuary_4 : decode cX6_estuary 4 = .ok (.invokevirtual 112, 3) := by decide +kernel
theorem dX6_estuary_7 : decode cX6_estuary 7 = .ok (.aload_n 0, 1) := by decide +kernel
theorem dX6_estuary_8 : decode cX6_estuary 8 = .ok (.getfield 18, 3) := by decide +kernel
theorem dX6_estuary_11 : decode cX6_estuary 11 = .ok (.getfield 115, 3) := by decide +kernel
theorem dX6_estuary_14 : decode cX6_estuary 14 = .ok (.ifCond .eq 25, 3) := by decide +kernel
theorem dX6_estuary_17 : decode cX6_estuary 17 = .ok (.aload_n 0, 1) := by decide +kernel
theorem dX6_estuary_18 : decode cX6_estuary 18 = .ok (.aload_n 0, 1) := by decide +kernel
theorem dX6_estuary_19 : decode cX6_estuary 19 = .ok (.getfield 18, 3) := by decide +kernel
theorem dX6_estuary_22 : decode cX6_estuary 22 = .ok (.getfield 115, 3) := by decide +kernel
theorem dX6_estuary_25 : decode cX6_estuary 25 = .ok (.putfield 118, 3) := by decide +kernel
theorem dX6_estuary_28 : decode cX6_estuary 28 = .ok (.ldc 121, 2) := by decide +kernel
theorem dX6_estuary_30 : decode cX6_estuary 30 = .ok (.aload_n 0, 1) := by decide +kernel
theorem dX6_estuary_31 : decode cX6_estuary 31 = .ok (.getfield 18, 3) := by decide +kernel
theorem dX6_estuary_34 : decode cX6_estuary 34 = .ok (.getfield 122, 3) := by decide +kernel
theorem dX6_estuary_37 : decode cX6_estuary 37 = .ok (.isub, 1) := by decide +kernel
theorem dX6_estuary_38 : decode cX6_estuary 38 = .ok (.ireturn, 1) := by decide +kernel
theorem dX6_estuary_39 : decode cX6_estuary 39 = .ok (.aload_n 0, 1) := by decide +kernel
theorem dX6_estuary_40 : decode cX6_estuary 40 = .ok (.getfield 25, 3) := by decide +kernel
theorem dX6_estuary_43 : decode cX6_estuary 43 = .ok (.aload_n 0, 1) := by decide +kernel
theorem dX6_estuary_44 : decode cX6_estuary 44 = .ok (.getfield 18, 3) := by decide +kernel
theorem dX6_estuary_47 : decode cX6_estuary 47 = .ok (.getfield 125, 3) := by decide +kernel
theorem dX6_estuary_50 : decode cX6_estuary 50 = .ok (.invokevirtual 128, 3) := by decide +kernel
theorem dX6_estuary_53 : decode cX6_estuary 53 = .ok (.aload_n 0, 1) := by decide +kernel
theorem dX6_estuary_54 : decode cX6_estuary 54 = .ok (.getfield 32, 3) := by decide +kernel
theorem dX6_estuary_57 : decode cX6_estuary 57 = .ok (.invokevirtual 132, 3) := by decide +kernel
theorem dX6_estuary_60 : decode cX6_estuary 60 = .ok (.aload_n 0, 1) := by decide +kernel
theorem dX6_estuary_61 : decode cX6_estuary 61 = .ok (.getfield 25, 3) := by decide +kernel
theorem dX6_estuary_64 : decode cX6_estuary 64 = .ok (.getfield 135, 3) := by decide +kernel
theorem dX6_estuary_67 : decode cX6_estuary 67 = .ok (.ireturn, 1) := by decide +kernel
theorem dX6_fault_0 : decode cX6_fault 0 = .ok (.aload_n 0, 1) := by decide +kernel
theorem dX6_fault_1 : decode cX6_fault 1 = .ok (.getfield 118, 3) := by decide +kernel
theorem dX6_fault_4 : decode cX6_fault 4 = .ok (.ireturn, 1) := by decide +kernel
theorem dX6_undo_0 : decode cX6_undo 0 = .ok (.aload_n 0, 1) := by decide +kernel
theorem dX6_undo_1 : decode cX6_undo 1 = .ok (.getfield 32, 3) := by decide +kernel
theorem dX6_undo_4 : decode cX6_undo 4 = .ok (.getfield 138, 3) := by decide +kernel
theorem dX6_undo_7 : decode cX6_undo 7 = .ok (.ifCond .ne 6, 3) := by decide +kernel
theorem dX6_undo_10 : decode cX6_undo 10 = .ok (.ldc 141, 2) := by decide +kernel
theorem dX6_undo_12 : decode cX6_undo 12 = .ok (.ireturn, 1) := by decide +kernel
theorem dX6_undo_13 : decode cX6_undo 13 = .ok (.aload_n 0, 1) := by decide +kernel
theorem dX6_undo_14 : decode cX6_undo 14 = .ok (.getfield 32, 3) := by decide +kernel
theorem dX6_undo_17 : decode cX6_undo 17 = .ok (.aload_n 0, 1) := by decide +kernel
theorem dX6_undo_18 : decode cX6_undo 18 = .ok (.getfield 25, 3) := by decide +kernel
theorem dX6_undo_21 : decode cX6_undo 21 = .ok (.invokevirtual 142, 3) := by decide +kernel
theorem dX6_undo_24 : decode cX6_undo 24 = .ok (.aload_n 0, 1) := by decide +kernel
theorem dX6_undo_25 : decode cX6_undo 25 = .ok (.getfield 32, 3) := by decide +kernel
theorem dX6_undo_28 : decode cX6_undo 28 = .ok (.getfield 138, 3) := by decide +kernel
theorem dX6_undo_31 : decode cX6_undo 31 = .ok (.ireturn, 1) := by decide +kernel
theorem dX6_hours_0 : decode cX6_hours 0 = .ok (.aload_n 0, 1) := by decide +kernel
theorem dX6_hours_1 : decode cX6_hours 1 = .ok (.getfield 25, 3) := by decide +kernel
theorem dX6_hours_4 : decode cX6_hours 4 = .ok (.getfield 145, 3) := by decide +kernel
theorem dX6_hours_7 : decode cX6_hours 7 = .ok (.ifCond .ne 6, 3) := by decide +kernel
theorem dX6_hours_10 : decode cX6_hours 10 = .ok (.ldc 141, 2) := by decide +kernel
theorem dX6_hours_12 : decode cX6_hours 12 = .ok (.ireturn, 1) := by decide +kernel
theorem dX6_hours_13 : decode cX6_hours 13 = .ok (.iload_n 1, 1) := by decide +kernel
theorem dX6_hours_14 : decode cX6_hours 14 = .ok (.iconst 1, 1) := by decide +kernel
theorem dX6_hours_15 : decode cX6_hours 15 = .ok (.bipush 24, 2) := by decide +kernel
theorem dX6_hours_17 : decode cX6_hours 17 = .ok (.invokestatic 59, 3) := by decide +kernel
theorem dX6_hours_20 : decode cX6_hours 20 = .ok (.ifCond .ne 6, 3) := by decide +kernel
theorem dX6_hours_23 : decode cX6_hours 23 = .ok (.ldc 63, 2) := by decide +kernel
theorem dX6_hours_25 : decode cX6_hours 25 = .ok (.ireturn, 1) := by decide +kernel
theorem dX6_hours_26 : decode cX6_hours 26 = .ok (.aload_n 0, 1) := by decide +kernel
theorem dX6_hours_27 : decode cX6_hours 27 = .ok (.getfield 25, 3) := by decide +kernel
theorem dX6_hours_30 : decode cX6_hours 30 = .ok (.getfield 148, 3) := by decide +kernel
theorem dX6_hours_33 : decode cX6_hours 33 = .ok (.iload_n 1, 1) := by decide +kernel
theorem dX6_hours_34 : decode cX6_hours 34 = .ok (.iadd, 1) := by decide +kernel
theorem dX6_hours_35 : decode cX6_hours 35 = .ok (.sipush 999, 3) := by decide +kernel
theorem dX6_hours_38 : decode cX6_hours 38 = .ok (.if_icmp .le 6, 3) := by decide +kernel
theorem dX6_hours_41 : decode cX6_hours 41 = .ok (.ldc 107, 2) := by decide +kernel
theorem dX6_hours_43 : decode cX6_hours 43 = .ok (.ireturn, 1) := by decide +kernel
theorem dX6_hours_44 : decode cX6_hours 44 = .ok (.iconst 0, 1) := by decide +kernel
theorem dX6_hours_45 : decode cX6_hours 45 = .ok (.istore_n 2, 1) := by decide +kernel
theorem dX6_hours_46 : decode cX6_hours 46 = .ok (.iload_n 2, 1) := by decide +kernel
theorem dX6_hours_47 : decode cX6_hours 47 = .ok (.iload_n 1, 1) := by decide +kernel
theorem dX6_hours_48 : decode cX6_hours 48 = .ok (.if_icmp .ge 27, 3) := by decide +kernel
theorem dX6_hours_51 : decode cX6_hours 51 = .ok (.aload_n 0, 1) := by decide +kernel
theorem dX6_hours_52 : decode cX6_hours 52 = .ok (.getfield 32, 3) := by decide +kernel
theorem dX6_hours_55 : decode cX6_hours 55 = .ok (.aload_n 0, 1) := by decide +kernel
theorem dX6_hours_56 : decode cX6_hours 56 = .ok (.getfield 25, 3) := by decide +kernel
theorem dX6_hours_59 : decode cX6_hours 59 = .ok (.invokevirtual 151, 3) := by decide +kernel
theorem dX6_hours_62 : decode cX6_hours 62 = .ok (.aload_n 0, 1) := by decide +kernel
theorem dX6_hours_63 : decode cX6_hours 63 = .ok (.getfield 25, 3) := by decide +kernel
theorem dX6_hours_66 : decode cX6_hours 66 = .ok (.invokevirtual 154, 3) := by decide +kernel
theorem dX6_hours_69 : decode cX6_hours 69 = .ok (.iinc 2 1, 3) := by decide +kernel
theorem dX6_hours_72 : decode cX6_hours 72 = .ok (.goto (-26), 3) := by decide +kernel
theorem dX6_hours_75 : decode cX6_hours 75 = .ok (.aload_n 0, 1) := by decide +kernel
theorem dX6_hours_76 : decode cX6_hours 76 = .ok (.getfield 25, 3) := by decide +kernel
theorem dX6_hours_79 : decode cX6_hours 79 = .ok (.getfield 157, 3) := by decide +kernel
theorem dX6_hours_82 : decode cX6_hours 82 = .ok (.ireturn, 1) := by decide +kernel
theorem dX6_step_0 : decode cX6_step 0 = .ok (.aload_n 0, 1) := by decide +kernel
theorem dX6_step_1 : decode cX6_step 1 = .ok (.getfield 25, 3) := by decide +kernel
theorem dX6_step_4 : decode cX6_step 4 = .ok (.getfield 145, 3) := by decide +kernel
theorem dX6_step_7 : decode cX6_step 7 = .ok (.ifCond .ne 6, 3) := by decide +kernel
theorem dX6_step_10 : decode cX6_step 10 = .ok (.ldc 141, 2) := by decide +kernel
theorem dX6_step_12 : decode cX6_step 12 = .ok (.ireturn, 1) := by decide +kernel
theorem dX6_step_13 : decode cX6_step 13 = .ok (.iload_n 1, 1) := by decide +kernel
theorem dX6_step_14 : decode cX6_step 14 = .ok (.iconst 0, 1) := by decide +kernel
theorem dX6_step_15 : decode cX6_step 15 = .ok (.iconst 1, 1) := by decide +kernel
theorem dX6_step_16 : decode cX6_step 16 = .ok (.invokestatic 59, 3) := by decide +kernel
theorem dX6_step_19 : decode cX6_step 19 = .ok (.ifCond .ne 6, 3) := by decide +kernel
theorem dX6_step_22 : decode cX6_step 22 = .ok (.ldc 63, 2) := by decide +kernel
theorem dX6_step_24 : decode cX6_step 24 = .ok (.ireturn, 1) := by decide +kernel
theorem dX6_step_25 : decode cX6_step 25 = .ok (.iload_n 1, 1) := by decide +kernel
theorem dX6_step_26 : decode cX6_step 26 = .ok (.ifCond .ne 15, 3) := by decide +kernel
theorem dX6_step_29 : decode cX6_step 29 = .ok (.aload_n 0, 1) := by decide +kernel
theorem dX6_step_30 : decode cX6_step 30 = .ok (.getfield 25, 3) := by decide +kernel
theorem dX6_step_33 : decode cX6_step 33 = .ok (.getfield 160, 3) := by decide +kernel
theorem dX6_step_36 : decode cX6_step 36 = .ok (.iconst 1, 1) := by decide +kernel
theorem dX6_step_37 : decode cX6_step 37 = .ok (.isub, 1) := by decide +kernel
theorem dX6_step_38 : decode cX6_step 38 = .ok (.goto 12, 3) := by decide +kernel
theorem dX6_step_41 : decode cX6_step 41 = .ok (.aload_n 0, 1) := by decide +kernel
theorem dX6_step_42 : decode cX6_step 42 = .ok (.getfield 25, 3) := by decide +kernel
theorem dX6_step_45 : decode cX6_step 45 = .ok (.getfield 160, 3) := by decide +kernel
theorem dX6_step_48 : decode cX6_step 48 = .ok (.iconst 1, 1) := by decide +kernel
theorem dX6_step_49 : decode cX6_step 49 = .ok (.iadd, 1) := by decide +kernel
theorem dX6_step_50 : decode cX6_step 50 = .ok (.istore_n 2, 1) := by decide +kernel
theorem dX6_step_51 : decode cX6_step 51 = .ok (.aload_n 0, 1) := by decide +kernel
theorem dX6_step_52 : decode cX6_step 52 = .ok (.getfield 25, 3) := by decide +kernel
theorem dX6_step_55 : decode cX6_step 55 = .ok (.iload_n 2, 1) := by decide +kernel
theorem dX6_step_56 : decode cX6_step 56 = .ok (.invokevirtual 163, 3) := by decide +kernel
theorem dX6_step_59 : decode cX6_step 59 = .ok (.ifCond .ne 6, 3) := by decide +kernel
theorem dX6_step_62 : decode cX6_step 62 = .ok (.ldc 141, 2) := by decide +kernel
theorem dX6_step_64 : decode cX6_step 64 = .ok (.ireturn, 1) := by decide +kernel
theorem dX6_step_65 : decode cX6_step 65 = .ok (.aload_n 0, 1) := by decide +kernel
theorem dX6_step_66 : decode cX6_step 66 = .ok (.getfield 32, 3) := by decide +kernel
theorem dX6_step_69 : decode cX6_step 69 = .ok (.aload_n 0, 1) := by decide +kernel
theorem dX6_step_70 : decode cX6_step 70 = .ok (.getfield 25, 3) := by decide +kernel
theorem dX6_step_73 : decode cX6_step 73 = .ok (.invokevirtual 151, 3) := by decide +kernel
theorem dX6_step_76 : decode cX6_step 76 = .ok (.aload_n 0, 1) := by decide +kernel
theorem dX6_step_77 : decode cX6_step 77 = .ok (.getfield 25, 3) := by decide +kernel
theorem dX6_step_80 : decode cX6_step 80 = .ok (.iload_n 2, 1) := by decide +kernel
theorem dX6_step_81 : decode cX6_step 81 = .ok (.putfield 160, 3) := by decide +kernel
theorem dX6_step_84 : decode cX6_step 84 = .ok (.iload_n 2, 1) := by decide +kernel
theorem dX6_step_85 : decode cX6_step 85 = .ok (.ireturn, 1) := by decide +kernel
theorem dX6_wind_0 : decode cX6_wind 0 = .ok (.aload_n 0, 1) := by decide +kernel
theorem dX6_wind_1 : decode cX6_wind 1 = .ok (.getfield 25, 3) := by decide +kernel
theorem dX6_wind_4 : decode cX6_wind 4 = .ok (.iload_n 1, 1) := by decide +kernel
theorem dX6_wind_5 : decode cX6_wind 5 = .ok (.invokevirtual 166, 3) := by decide +kernel
theorem dX6_wind_8 : decode cX6_wind 8 = .ok (.ifCond .eq 12, 3) := by decide +kernel
theorem dX6_wind_11 : decode cX6_wind 11 = .ok (.iload_n 2, 1) := by decide +kernel
theorem dX6_wind_12 : decode cX6_wind 12 = .ok (.iconst 0, 1) := by decide +kernel
theorem dX6_wind_13 : decode cX6_wind 13 = .ok (.iconst 4, 1) := by decide +kernel
theorem dX6_wind_14 : decode cX6_wind 14 = .ok (.invokestatic 59, 3) := by decide +kernel
theorem dX6_wind_17 : decode cX6_wind 17 = .ok (.ifCond .ne 6, 3) := by decide +kernel
theorem dX6_wind_20 : decode cX6_wind 20 = .ok (.ldc 63, 2) := by decide +kernel
theorem dX6_wind_22 : decode cX6_wind 22 = .ok (.ireturn, 1) := by decide +kernel
theorem dX6_wind_23 : decode cX6_wind 23 = .ok (.aload_n 0, 1) := by decide +kernel
theorem dX6_wind_24 : decode cX6_wind 24 = .ok (.getfield 25, 3) := by decide +kernel
theorem dX6_wind_27 : decode cX6_wind 27 = .ok (.getfield 169, 3) := by decide +kernel
theorem dX6_wind_30 : decode cX6_wind 30 = .ok (.iload_n 1, 1) := by decide +kernel
theorem dX6_wind_31 : decode cX6_wind 31 = .ok (.iaload, 1) := by decide +kernel
theorem dX6_wind_32 : decode cX6_wind 32 = .ok (.istore_n 3, 1) := by decide +kernel
theorem dX6_wind_33 : decode cX6_wind 33 = .ok (.aload_n 0, 1) := by decide +kernel
theorem dX6_wind_34 : decode cX6_wind 34 = .ok (.getfield 32, 3) := by decide +kernel
theorem dX6_wind_37 : decode cX6_wind 37 = .ok (.aload_n 0, 1) := by decide +kernel
theorem dX6_wind_38 : decode cX6_wind 38 = .ok (.getfield 25, 3) := by decide +kernel
theorem dX6_wind_41 : decode cX6_wind 41 = .ok (.invokevirtual 151, 3) := by decide +kernel
theorem dX6_wind_44 : decode cX6_wind 44 = .ok (.aload_n 0, 1) := by decide +kernel
theorem dX6_wind_45 : decode cX6_wind 45 = .ok (.getfield 25, 3) := by decide +kernel
theorem dX6_wind_48 : decode cX6_wind 48 = .ok (.getfield 169, 3) := by decide +kernel
theorem dX6_wind_51 : decode cX6_wind 51 = .ok (.iload_n 1, 1) := by decide +kernel
theorem dX6_wind_52 : decode cX6_wind 52 = .ok (.iload_n 2, 1) := by decide +kernel
theorem dX6_wind_53 : decode cX6_wind 53 = .ok (.iastore, 1) := by decide +kernel
theorem dX6_wind_54 : decode cX6_wind 54 = .ok (.iload_n 3, 1) := by decide +kernel
theorem dX6_wind_55 : decode cX6_wind 55 = .ok (.ireturn, 1) := by decide +kernel
theorem dX6_wake_0 : decode cX6_wake 0 = .ok (.aload_n 0, 1) := by decide +kernel
theorem dX6_wake_1 : decode cX6_wake 1 = .ok (.getfield 25, 3) := by decide +kernel
theorem dX6_wake_4 : decode cX6_wake 4 = .ok (.getfield 145, 3) := by decide +kernel
theorem dX6_wake_7 : decode cX6_wake 7 = .ok (.ifCond .ne 6, 3) := by decide +kernel
theorem dX6_wake_10 : decode cX6_wake 10 = .ok (.ldc 141, 2) := by decide +kernel
theorem dX6_wake_12 : decode cX6_wake 12 = .ok (.ireturn, 1) := by decide +kernel
theorem dX6_wake_13 : decode cX6_wake 13 = .ok (.iload_n 1, 1) := by decide +kernel
theorem dX6_wake_14 : decode cX6_wake 14 = .ok (.iconst 0, 1) := by decide +kernel
theorem dX6_wake_15 : decode cX6_wake 15 = .ok (.bipush 15, 2) := by decide +kernel
theorem dX6_wake_17 : decode cX6_wake 17 = .ok (.invokestatic 59, 3) := by decide +kernel
theorem dX6_wake_20 : decode cX6_wake 20 = .ok (.ifCond .ne 6, 3) := by decide +kernel
theorem dX6_wake_23 : decode cX6_wake 23 = .ok (.ldc 63, 2) := by decide +kernel
theorem dX6_wake_25 : decode cX6_wake 25 = .ok (.ireturn, 1) := by decide +kernel
theorem dX6_wake_26 : decode cX6_wake 26 = .ok (.aload_n 0, 1) := by decide +kernel
theorem dX6_wake_27 : decode cX6_wake 27 = .ok (.getfield 25, 3) := by decide +kernel
theorem dX6_wake_30 : decode cX6_wake 30 = .ok (.getfield 172, 3) := by decide +kernel
theorem dX6_wake_33 : decode cX6_wake 33 = .ok (.istore_n 2, 1) := by decide +kernel
theorem dX6_wake_34 : decode cX6_wake 34 = .ok (.aload_n 0, 1) := by decide +kernel
theorem dX6_wake_35 : decode cX6_wake 35 = .ok (.getfield 32, 3) := by decide +kernel
theorem dX6_wake_38 : decode cX6_wake 38 = .ok (.aload_n 0, 1) := by decide +kernel
theorem dX6_wake_39 : decode cX6_wake 39 = .ok (.getfield 25, 3) := by decide +kernel
theorem dX6_wake_42 : decode cX6_wake 42 = .ok (.invokevirtual 151, 3) := by decide +kernel
theorem dX6_wake_45 : decode cX6_wake 45 = .ok (.aload_n 0, 1) := by decide +kernel
theorem dX6_wake_46 : decode cX6_wake 46 = .ok (.getfield 25, 3) := by decide +kernel
theorem dX6_wake_49 : decode cX6_wake 49 = .ok (.iload_n 1, 1) := by decide +kernel
theorem dX6_wake_50 : decode cX6_wake 50 = .ok (.putfield 172, 3) := by decide +kernel
theorem dX6_wake_53 : decode cX6_wake 53 = .ok (.iload_n 2, 1) := by decide +kernel
theorem dX6_wake_54 : decode cX6_wake 54 = .ok (.ireturn, 1) := by decide +kernel
theorem dX6_let_0 : decode cX6_let 0 = .ok (.aload_n 0, 1) := by decide +kernel
theorem dX6_let_1 : decode cX6_let 1 = .ok (.getfield 25, 3) := by decide +kernel
theorem dX6_let_4 : decode cX6_let 4 = .ok (.iload_n 1, 1) := by decide +kernel
theorem dX6_let_5 : decode cX6_let 5 = .ok (.invokevirtual 175, 3) := by decide +kernel
theorem dX6_let_8 : decode cX6_let 8 = .ok (.ifCond .eq 24, 3) := by decide +kernel
theorem dX6_let_11 : decode cX6_let 11 = .ok (.aload_n 0, 1) := by decide +kernel
theorem dX6_let_12 : decode cX6_let 12 = .ok (.getfield 25, 3) := by decide +kernel
theorem dX6_let_15 : decode cX6_let 15 = .ok (.iload_n 2, 1) := by decide +kernel
theorem dX6_let_16 : decode cX6_let 16 = .ok (.invokevirtual 163, 3) := by decide +kernel
theorem dX6_let_19 : decode cX6_let 19 = .ok (.ifCond .eq 13, 3) := by decide +kernel
theorem dX6_let_22 : decode cX6_let 22 = .ok (.iload_n 3, 1) := by decide +kernel
theorem dX6_let_23 : decode cX6_let 23 = .ok (.iconst 1, 1) := by decide +kernel
theorem dX6_let_24 : decode cX6_let 24 = .ok (.bipush 9, 2) := by decide +kernel
theorem dX6_let_26 : decode cX6_let 26 = .ok (.invokestatic 59, 3) := by decide +kernel
theorem dX6_let_29 : decode cX6_let 29 = .ok (.ifCond .ne 6, 3) := by decide +kernel
theorem dX6_let_32 : decode cX6_let 32 = .ok (.ldc 63, 2) := by decide +kernel
theorem dX6_let_34 : decode cX6_let 34 = .ok (.ireturn, 1) := by decide +kernel
theorem dX6_let_35 : decode cX6_let 35 = .ok (.aload_n 0, 1) := by decide +kernel
theorem dX6_let_36 : decode cX6_let 36 = .ok (.getfield 25, 3) := by decide +kernel
theorem dX6_let_39 : decode cX6_let 39 = .ok (.iload_n 1, 1) := by decide +kernel
theorem dX6_let_40 : decode cX6_let 40 = .ok (.invokevirtual 178, 3) := by decide +kernel
theorem dX6_let_43 : decode cX6_let 43 = .ok (.ifCond .eq 6, 3) := by decide +kernel
theorem dX6_let_46 : decode cX6_let 46 = .ok (.ldc 141, 2) := by decide +kernel
theorem dX6_let_48 : decode cX6_let 48 = .ok (.ireturn, 1) := by decide +kernel
theorem dX6_let_49 : decode cX6_let 49 = .ok (.aload_n 0, 1) := by decide +kernel
theorem dX6_let_50 : decode cX6_let 50 = .ok (.getfield 32, 3) := by decide +kernel
theorem dX6_let_53 : decode cX6_let 53 = .ok (.aload_n 0, 1) := by decide +kernel
theorem dX6_let_54 : decode cX6_let 54 = .ok (.getfield 25, 3) := by decide +kernel
theorem dX6_let_57 : decode cX6_let 57 = .ok (.invokevirtual 151, 3) := by decide +kernel
theorem dX6_let_60 : decode cX6_let 60 = .ok (.aload_n 0, 1) := by decide +kernel
theorem dX6_let_61 : decode cX6_let 61 = .ok (.getfield 25, 3) := by decide +kernel
theorem dX6_let_64 : decode cX6_let 64 = .ok (.iload_n 1, 1) := by decide +kernel
theorem dX6_let_65 : decode cX6_let 65 = .ok (.iload_n 2, 1) := by decide +kernel
theorem dX6_let_66 : decode cX6_let 66 = .ok (.iload_n 3, 1) := by decide +kernel
theorem dX6_let_67 : decode cX6_let 67 = .ok (.invokevirtual 181, 3) := by decide +kernel
theorem dX6_let_70 : decode cX6_let 70 = .ok (.aload_n 0, 1) := by decide +kernel
theorem dX6_let_71 : decode cX6_let 71 = .ok (.getfield 25, 3) := by decide +kernel
theorem dX6_let_74 : decode cX6_let 74 = .ok (.getfield 185, 3) := by decide +kernel
theorem dX6_let_77 : decode cX6_let 77 = .ok (.ireturn, 1) := by decide +kernel
theorem dX6_sheet_0 : decode cX6_sheet 0 = .ok (.aload_n 0, 1) := by decide +kernel
theorem dX6_sheet_1 : decode cX6_sheet 1 = .ok (.getfield 25, 3) := by decide +kernel
theorem dX6_sheet_4 : decode cX6_sheet 4 = .ok (.iload_n 1, 1) := by decide +kernel
theorem dX6_sheet_5 : decode cX6_sheet 5 = .ok (.invokevirtual 175, 3) := by decide +kernel
theorem dX6_sheet_8 : decode cX6_sheet 8 = .ok (.ifCond .ne 6, 3) := by decide +kernel
theorem dX6_sheet_11 : decode cX6_sheet 11 = .ok (.ldc 63, 2) := by decide +kernel
theorem dX6_sheet_13 : decode cX6_sheet 13 = .ok (.ireturn, 1) := by decide +kernel
theorem dX6_sheet_14 : decode cX6_sheet 14 = .ok (.iload_n 2, 1) := by decide +kernel
theorem dX6_sheet_15 : decode cX6_sheet 15 = .ok (.tableswitch 80 0 4 #[33, 42, 52, 61, 71], 33) := by decide +kernel
theorem dX6_sheet_48 : decode cX6_sheet 48 = .ok (.aload_n 0, 1) := by decide +kernel
theorem dX6_sheet_49 : decode cX6_sheet 49 = .ok (.getfield 25, 3) := by decide +kernel
theorem dX6_sheet_52 : decode cX6_sheet 52 = .ok (.iload_n 1, 1) := by decide +kernel
theorem dX6_sheet_53 : decode cX6_sheet 53 = .ok (.invokevirtual 188, 3) := by decide +kernel
theorem dX6_sheet_56 : decode cX6_sheet 56 = .ok (.ireturn, 1) := by decide +kernel
theorem dX6_sheet_57 : decode cX6_sheet 57 = .ok (.aload_n 0, 1) := by decide +kernel
theorem dX6_sheet_58 : decode cX6_sheet 58 = .ok (.getfield 25, 3) := by decide +kernel
theorem dX6_sheet_61 : decode cX6_sheet 61 = .ok (.getfield 191, 3) := by decide +kernel
theorem dX6_sheet_64 : decode cX6_sheet 64 = .ok (.iload_n 1, 1) := by decide +kernel
theorem dX6_sheet_65 : decode cX6_sheet 65 = .ok (.iaload, 1) := by decide +kernel
theorem dX6_sheet_66 : decode cX6_sheet 66 = .ok (.ireturn, 1) := by decide +kernel
theorem dX6_sheet_67 : decode cX6_sheet 67 = .ok (.aload_n 0, 1) := by decide +kernel
theorem dX6_sheet_68 : decode cX6_sheet 68 = .ok (.getfield 25, 3) := by decide +kernel
theorem dX6_sheet_71 : decode cX6_sheet 71 = .ok (.iload_n 1, 1) := by decide +kernel
theorem dX6_sheet_72 : decode cX6_sheet 72 = .ok (.invokevirtual 194, 3) := by decide +kernel
theorem dX6_sheet_75 : decode cX6_sheet 75 = .ok (.ireturn, 1) := by decide +kernel
theorem dX6_sheet_76 : decode cX6_sheet 76 = .ok (.aload_n 0, 1) := by decide +kernel
theorem dX6_sheet_77 : decode cX6_sheet 77 = .ok (.getfield 25, 3) := by decide +kernel
theorem dX6_sheet_80 : decode cX6_sheet 80 = .ok (.getfield 197, 3) := by decide +kernel
theorem dX6_sheet_83 : decode cX6_sheet 83 = .ok (.iload_n 1, 1) := by decide +kernel
theorem dX6_sheet_84 : decode cX6_sheet 84 = .ok (.iaload, 1) := by decide +kernel
theorem dX6_sheet_85 : decode cX6_sheet 85 = .ok (.ireturn, 1) := by decide +kernel
theorem dX6_sheet_86 : decode cX6_sheet 86 = .ok (.aload_n 0, 1) := by decide +kernel
theorem dX6_sheet_87 : decode cX6_sheet 87 = .ok (.getfield 25, 3) := by decide +kernel
theorem dX6_sheet_90 : decode cX6_sheet 90 = .ok (.iload_n 1, 1) := by decide +kernel
theorem dX6_sheet_91 : decode cX6_sheet 91 = .ok (.invokevirtual 200, 3) := by decide +kernel
theorem dX6_sheet_94 : decode cX6_sheet 94 = .ok (.ireturn, 1) := by decide +kernel
theorem dX6_sheet_95 : decode cX6_sheet 95 = .ok (.ldc 63, 2) := by decide +kernel
theorem dX6_sheet_97 : decode cX6_sheet 97 = .ok (.ireturn, 1) := by decide +kernel
theorem dX6_cell_0 : decode cX6_cell 0 = .ok (.aload_n 0, 1) := by decide +kernel
theorem dX6_cell_1 : decode cX6_cell 1 = .ok (.getfield 25, 3) := by decide +kernel
theorem dX6_cell_4 : decode cX6_cell 4 = .ok (.iload_n 1, 1) := by decide +kernel
theorem dX6_cell_5 : decode cX6_cell 5 = .ok (.invokevirtual 163, 3) := by decide +kernel
theorem dX6_cell_8 : decode cX6_cell 8 = .ok (.ifCond .ne 6, 3) := by decide +kernel
theorem dX6_cell_11 : decode cX6_cell 11 = .ok (.ldc 63, 2) := by decide +kernel
theorem dX6_cell_13 : decode cX6_cell 13 = .ok (.ireturn, 1) := by decide +kernel
theorem dX6_cell_14 : decode cX6_cell 14 = .ok (.iload_n 2, 1) := by decide +kernel
theorem dX6_cell_15 : decode cX6_cell 15 = .ok (.tableswitch 60 0 2 #[25, 34, 43], 25) := by decide +kernel
theorem dX6_cell_40 : decode cX6_cell 40 = .ok (.aload_n 0, 1) := by decide +kernel
theorem dX6_cell_41 : decode cX6_cell 41 = .ok (.getfield 25, 3) := by decide +kernel
theorem dX6_cell_44 : decode cX6_cell 44 = .ok (.iload_n 1, 1) := by decide +kernel
theorem dX6_cell_45 : decode cX6_cell 45 = .ok (.invokevirtual 203, 3) := by decide +kernel
theorem dX6_cell_48 : decode cX6_cell 48 = .ok (.ireturn, 1) := by decide +kernel
theorem dX6_cell_49 : decode cX6_cell 49 = .ok (.aload_n 0, 1) := by decide +kernel
theorem dX6_cell_50 : decode cX6_cell 50 = .ok (.getfield 25, 3) := by decide +kernel
theorem dX6_cell_53 : decode cX6_cell 53 = .ok (.iload_n 1, 1) := by decide +kernel
theorem dX6_cell_54 : decode cX6_cell 54 = .ok (.invokevirtual 206, 3) := by decide +kernel
theorem dX6_cell_57 : decode cX6_cell 57 = .ok (.ireturn, 1) := by decide +kernel
theorem dX6_cell_58 : decode cX6_cell 58 = .ok (.aload_n 0, 1) := by decide +kernel
theorem dX6_cell_59 : decode cX6_cell 59 = .ok (.getfield 25, 3) := by decide +kernel
theorem dX6_cell_62 : decode cX6_cell 62 = .ok (.getfield 160, 3) := by decide +kernel
theorem dX6_cell_65 : decode cX6_cell 65 = .ok (.iload_n 1, 1) := by decide +kernel
theorem dX6_cell_66 : decode cX6_cell 66 = .ok (.if_icmp .ne 7, 3) := by decide +kernel
theorem dX6_cell_69 : decode cX6_cell 69 = .ok (.iconst 1, 1) := by decide +kernel
theorem dX6_cell_70 : decode cX6_cell 70 = .ok (.goto 4, 3) := by decide +kernel
theorem dX6_cell_73 : decode cX6_cell 73 = .ok (.iconst 0, 1) := by decide +kernel
theorem dX6_cell_74 : decode cX6_cell 74 = .ok (.ireturn, 1) := by decide +kernel
theorem dX6_cell_75 : decode cX6_cell 75 = .ok (.ldc 63, 2) := by decide +kernel
theorem dX6_cell_77 : decode cX6_cell 77 = .ok (.ireturn, 1) := by decide +kernel
theorem dX6_stand_0 : decode cX6_stand 0 = .ok (.aload_n 0, 1) := by decide +kernel
theorem dX6_stand_1 : decode cX6_stand 1 = .ok (.getfield 25, 3) := by decide +kernel
theorem dX6_stand_4 : decode cX6_stand 4 = .ok (.getfield 145, 3) := by decide +kernel
theorem dX6_stand_7 : decode cX6_stand 7 = .ok (.ifCond .ne 6, 3) := by decide +kernel
theorem dX6_stand_10 : decode cX6_stand 10 = .ok (.ldc 141, 2) := by decide +kernel
theorem dX6_stand_12 : decode cX6_stand 12 = .ok (.ireturn, 1) := by decide +kernel
theorem dX6_stand_13 : decode cX6_stand 13 = .ok (.iload_n 1, 1) := by decide +kernel
theorem dX6_stand_14 : decode cX6_stand 14 = .ok (.tableswitch 112 0 7 #[46, 54, 62, 70, 78, 86, 94, 104], 46) := by decide +kernel
theorem dX6_stand_60 : decode cX6_stand 60 = .ok (.aload_n 0, 1) := by decide +kernel
theorem dX6_stand_61 : decode cX6_stand 61 = .ok (.getfield 25, 3) := by decide +kernel
theorem dX6_stand_64 : decode cX6_stand 64 = .ok (.getfield 209, 3) := by decide +kernel
theorem dX6_stand_67 : decode cX6_stand 67 = .ok (.ireturn, 1) := by decide +kernel
theorem dX6_stand_68 : decode cX6_stand 68 = .ok (.aload_n 0, 1) := by decide +kernel
theorem dX6_stand_69 : decode cX6_stand 69 = .ok (.getfield 25, 3) := by decide +kernel
theorem dX6_stand_72 : decode cX6_stand 72 = .ok (.getfield 212, 3) := by decide +kernel
theorem dX6_stand_75 : decode cX6_stand 75 = .ok (.ireturn, 1) := by decide +kernel
theorem dX6_stand_76 : decode cX6_stand 76 = .ok (.aload_n 0, 1) := by decide +kernel
theorem dX6_stand_77 : decode cX6_stand 77 = .ok (.getfield 25, 3) := by decide +kernel
theorem dX6_stand_80 : decode cX6_stand 80 = .ok (.getfield 160, 3) := by decide +kernel
theorem dX6_stand_83 : decode cX6_stand 83 = .ok (.ireturn, 1) := by decide +kernel
theorem dX6_stand_84 : decode cX6_stand 84 = .ok (.aload_n 0, 1) := by decide +kernel
theorem dX6_stand_85 : decode cX6_stand 85 = .ok (.getfield 25, 3) := by decide +kernel
theorem dX6_stand_88 : decode cX6_stand 88 = .ok (.getfield 172, 3) := by decide +kernel
theorem dX6_stand_91 : decode cX6_stand 91 = .ok (.ireturn, 1) := by decide +kernel
theorem dX6_stand_92 : decode cX6_stand 92 = .ok (.aload_n 0, 1) := by decide +kernel
theorem dX6_stand_93 : decode cX6_stand 93 = .ok (.getfield 25, 3) := by decide +kernel
theorem dX6_stand_96 : decode cX6_stand 96 = .ok (.getfield 185, 3) := by decide +kernel
theorem dX6_stand_99 : decode cX6_stand 99 = .ok (.ireturn, 1) := by decide +kernel
theorem dX6_stand_100 : decode cX6_stand 100 = .ok (.aload_n 0, 1) := by decide +kernel
theorem dX6_stand_101 : decode cX6_stand 101 = .ok (.getfield 25, 3) := by decide +kernel
theorem dX6_stand_104 : decode cX6_stand 104 = .ok (.invokevirtual 215, 3) := by decide +kernel
theorem dX6_stand_107 : decode cX6_stand 107 = .ok (.ireturn, 1) := by decide +kernel
theorem dX6_stand_108 : decode cX6_stand 108 = .ok (.aload_n 0, 1) := by decide +kernel
theorem dX6_stand_109 : decode cX6_stand 109 = .ok (.getfield 25, 3) := by decide +kernel
theorem dX6_stand_112 : decode cX6_stand 112 = .ok (.getfield 157, 3) := by decide +kernel
theorem dX6_stand_115 : decode cX6_stand 115 = .ok (.iconst 1, 1) := by decide +kernel
theorem dX6_stand_116 : decode cX6_stand 116 = .ok (.iadd, 1) := by decide +kernel
theorem dX6_stand_117 : decode cX6_stand 117 = .ok (.ireturn, 1) := by decide +kernel
theorem dX6_stand_118 : decode cX6_stand 118 = .ok (.aload_n 0, 1) := by decide +kernel
theorem dX6_stand_119 : decode cX6_stand 119 = .ok (.getfield 25, 3) := by decide +kernel
theorem dX6_stand_122 : decode cX6_stand 122 = .ok (.invokevirtual 219, 3) := by decide +kernel
theorem dX6_stand_125 : decode cX6_stand 125 = .ok (.ireturn, 1) := by decide +kernel
theorem dX6_stand_126 : decode cX6_stand 126 = .ok (.ldc 63, 2) := by decide +kernel
theorem dX6_stand_128 : decode cX6_stand 128 = .ok (.ireturn, 1) := by decide +kernel
theorem dX6_ahead_0 : decode cX6_ahead 0 = .ok (.aload_n 0, 1) := by decide +kernel
theorem dX6_ahead_1 : decode cX6_ahead 1 = .ok (.getfield 25, 3) := by decide +kernel
theorem dX6_ahead_4 : decode cX6_ahead 4 = .ok (.iload_n 1, 1) := by decide +kernel
theorem dX6_ahead_5 : decode cX6_ahead 5 = .ok (.invokevirtual 175, 3) := by decide +kernel
theorem dX6_ahead_8 : decode cX6_ahead 8 = .ok (.ifCond .eq 19, 3) := by decide +kernel
theorem dX6_ahead_11 : decode cX6_ahead 11 = .ok (.iload_n 2, 1) := by decide +kernel
theorem dX6_ahead_12 : decode cX6_ahead 12 = .ok (.invokestatic 222, 3) := by decide +kernel
theorem dX6_ahead_15 : decode cX6_ahead 15 = .ok (.ifCond .eq 12, 3) := by decide +kernel
theorem dX6_ahead_18 : decode cX6_ahead 18 = .ok (.iload_n 3, 1) := by decide +kernel
theorem dX6_ahead_19 : decode cX6_ahead 19 = .ok (.iconst 0, 1) := by decide +kernel
theorem dX6_ahead_20 : decode cX6_ahead 20 = .ok (.iconst 2, 1) := by decide +kernel
theorem dX6_ahead_21 : decode cX6_ahead 21 = .ok (.invokestatic 59, 3) := by decide +kernel
theorem dX6_ahead_24 : decode cX6_ahead 24 = .ok (.ifCond .ne 6, 3) := by decide +kernel
theorem dX6_ahead_27 : decode cX6_ahead 27 = .ok (.ldc 63, 2) := by decide +kernel
theorem dX6_ahead_29 : decode cX6_ahead 29 = .ok (.ireturn, 1) := by decide +kernel
theorem dX6_ahead_30 : decode cX6_ahead 30 = .ok (.aload_n 0, 1) := by decide +kernel
theorem dX6_ahead_31 : decode cX6_ahead 31 = .ok (.getfield 43, 3) := by decide +kernel
theorem dX6_ahead_34 : decode cX6_ahead 34 = .ok (.aload_n 0, 1) := by decide +kernel
theorem dX6_ahead_35 : decode cX6_ahead 35 = .ok (.getfield 25, 3) := by decide +kernel
theorem dX6_ahead_38 : decode cX6_ahead 38 = .ok (.iload_n 2, 1) := by decide +kernel
theorem dX6_ahead_39 : decode cX6_ahead 39 = .ok (.invokevirtual 225, 3) := by decide +kernel
theorem dX6_ahead_42 : decode cX6_ahead 42 = .ok (.astore 4, 2) := by decide +kernel
theorem dX6_ahead_44 : decode cX6_ahead 44 = .ok (.iload_n 3, 1) := by decide +kernel
theorem dX6_ahead_45 : decode cX6_ahead 45 = .ok (.ifCond .ne 10, 3) := by decide +kernel
theorem dX6_ahead_48 : decode cX6_ahead 48 = .ok (.aload 4, 2) := by decide +kernel
theorem dX6_ahead_50 : decode cX6_ahead 50 = .ok (.iload_n 1, 1) := by decide +kernel
theorem dX6_ahead_51 : decode cX6_ahead 51 = .ok (.invokevirtual 188, 3) := by decide +kernel
theorem dX6_ahead_54 : decode cX6_ahead 54 = .ok (.ireturn, 1) := by decide +kernel
theorem dX6_ahead_55 : decode cX6_ahead 55 = .ok (.iload_n 3, 1) := by decide +kernel
theorem dX6_ahead_56 : decode cX6_ahead 56 = .ok (.iconst 1, 1) := by decide +kernel
theorem dX6_ahead_57 : decode cX6_ahead 57 = .ok (.if_icmp .ne 12, 3) := by decide +kernel
theorem dX6_ahead_60 : decode cX6_ahead 60 = .ok (.aload 4, 2) := by decide +kernel
theorem dX6_ahead_62 : decode cX6_ahead 62 = .ok (.iload_n 1, 1) := by decide +kernel
theorem dX6_ahead_63 : decode cX6_ahead 63 = .ok (.invokevirtual 194, 3) := by decide +kernel
theorem dX6_ahead_66 : decode cX6_ahead 66 = .ok (.goto 10, 3) := by decide +kernel
theorem dX6_ahead_69 : decode cX6_ahead 69 = .ok (.aload 4, 2) := by decide +kernel
theorem dX6_ahead_71 : decode cX6_ahead 71 = .ok (.getfield 197, 3) := by decide +kernel
theorem dX6_ahead_74 : decode cX6_ahead 74 = .ok (.iload_n 1, 1) := by decide +kernel
theorem dX6_ahead_75 : decode cX6_ahead 75 = .ok (.iaload, 1) := by decide +kernel
theorem dX6_ahead_76 : decode cX6_ahead 76 = .ok (.ireturn, 1) := by decide +kernel
theorem dX6_over_0 : decode cX6_over 0 = .ok (.aload_n 0, 1) := by decide +kernel
theorem dX6_over_1 : decode cX6_over 1 = .ok (.getfield 25, 3) := by decide +kernel
theorem dX6_over_4 : decode cX6_over 4 = .ok (.iload_n 1, 1) := by decide +kernel
theorem dX6_over_5 : decode cX6_over 5 = .ok (.invokevirtual 163, 3) := by decide +kernel
theorem dX6_over_8 : decode cX6_over 8 = .ok (.ifCond .eq 10, 3) := by decide +kernel
theorem dX6_over_11 : decode cX6_over 11 = .ok (.iload_n 2, 1) := by decide +kernel
theorem dX6_over_12 : decode cX6_over 12 = .ok (.invokestatic 222, 3) := by decide +kernel
theorem dX6_over_15 : decode cX6_over 15 = .ok (.ifCond .ne 6, 3) := by decide +kernel
theorem dX6_over_18 : decode cX6_over 18 = .ok (.ldc 63, 2) := by decide +kernel
theorem dX6_over_20 : decode cX6_over 20 = .ok (.ireturn, 1) := by decide +kernel
theorem dX6_over_21 : decode cX6_over 21 = .ok (.aload_n 0, 1) := by decide +kernel
theorem dX6_over_22 : decode cX6_over 22 = .ok (.getfield 43, 3) := by decide +kernel
theorem dX6_over_25 : decode cX6_over 25 = .ok (.aload_n 0, 1) := by decide +kernel
theorem dX6_over_26 : decode cX6_over 26 = .ok (.getfield 25, 3) := by decide +kernel
theorem dX6_over_29 : decode cX6_over 29 = .ok (.iload_n 2, 1) := by decide +kernel
theorem dX6_over_30 : decode cX6_over 30 = .ok (.invokevirtual 225, 3) := by decide +kernel
theorem dX6_over_33 : decode cX6_over 33 = .ok (.iload_n 1, 1) := by decide +kernel
theorem dX6_over_34 : decode cX6_over 34 = .ok (.invokevirtual 203, 3) := by decide +kernel
theorem dX6_over_37 : decode cX6_over 37 = .ok (.ireturn, 1) := by decide +kernel
theorem dX6_when_0 : decode cX6_when 0 = .ok (.aload_n 0, 1) := by decide +kernel
theorem dX6_when_1 : decode cX6_when 1 = .ok (.getfield 25, 3) := by decide +kernel
theorem dX6_when_4 : decode cX6_when 4 = .ok (.iload_n 1, 1) := by decide +kernel
theorem dX6_when_5 : decode cX6_when 5 = .ok (.invokevirtual 175, 3) := by decide +kernel
theorem dX6_when_8 : decode cX6_when 8 = .ok (.ifCond .eq 12, 3) := by decide +kernel
theorem dX6_when_11 : decode cX6_when 11 = .ok (.iload_n 2, 1) := by decide +kernel
theorem dX6_when_12 : decode cX6_when 12 = .ok (.iconst 0, 1) := by decide +kernel
theorem dX6_when_13 : decode cX6_when 13 = .ok (.iconst 1, 1) := by decide +kernel
theorem dX6_when_14 : decode cX6_when 14 = .ok (.invokestatic 59, 3) := by decide +kernel
theorem dX6_when_17 : decode cX6_when 17 = .ok (.ifCond .ne 6, 3) := by decide +kernel
theorem dX6_when_20 : decode cX6_when 20 = .ok (.ldc 63, 2) := by decide +kernel
theorem dX6_when_22 : decode cX6_when 22 = .ok (.ireturn, 1) := by decide +kernel
theorem dX6_when_23 : decode cX6_when 23 = .ok (.iload_n 2, 1) := by decide +kernel
theorem dX6_when_24 : decode cX6_when 24 = .ok (.ifCond .ne 18, 3) := by decide +kernel
theorem dX6_when_27 : decode cX6_when 27 = .ok (.aload_n 0, 1) := by decide +kernel
theorem dX6_when_28 : decode cX6_when 28 = .ok (.getfield 43, 3) := by decide +kernel
theorem dX6_when_31 : decode cX6_when 31 = .ok (.aload_n 0, 1) := by decide +kernel
theorem dX6_when_32 : decode cX6_when 32 = .ok (.getfield 25, 3) := by decide +kernel
theorem dX6_when_35 : decode cX6_when 35 = .ok (.iload_n 1, 1) := by decide +kernel
theorem dX6_when_36 : decode cX6_when 36 = .ok (.invokevirtual 229, 3) := by decide +kernel
theorem dX6_when_39 : decode cX6_when 39 = .ok (.goto 15, 3) := by decide +kernel
theorem dX6_when_42 : decode cX6_when 42 = .ok (.aload_n 0, 1) := by decide +kernel
theorem dX6_when_43 : decode cX6_when 43 = .ok (.getfield 43, 3) := by decide +kernel
theorem dX6_when_46 : decode cX6_when 46 = .ok (.aload_n 0, 1) := by decide +kernel
theorem dX6_when_47 : decode cX6_when 47 = .ok (.getfield 25, 3) := by decide +kernel
theorem dX6_when_50 : decode cX6_when 50 = .ok (.iload_n 1, 1) := by decide +kernel
theorem dX6_when_51 : decode cX6_when 51 = .ok (.invokevirtual 233, 3) := by decide +kernel
theorem dX6_when_54 : decode cX6_when 54 = .ok (.ireturn, 1) := by decide +kernel
theorem dX6_overlap_0 : decode cX6_overlap 0 = .ok (.aload_n 0, 1) := by decide +kernel
theorem dX6_overlap_1 : decode cX6_overlap 1 = .ok (.getfield 25, 3) := by decide +kernel
theorem dX6_overlap_4 : decode cX6_overlap 4 = .ok (.getfield 145, 3) := by decide +kernel
theorem dX6_overlap_7 : decode cX6_overlap 7 = .ok (.ifCond .ne 6, 3) := by decide +kernel
theorem dX6_overlap_10 : decode cX6_overlap 10 = .ok (.ldc 141, 2) := by decide +kernel
theorem dX6_overlap_12 : decode cX6_overlap 12 = .ok (.ireturn, 1) := by decide +kernel
theorem dX6_overlap_13 : decode cX6_overlap 13 = .ok (.iload_n 1, 1) := by decide +kernel
theorem dX6_overlap_14 : decode cX6_overlap 14 = .ok (.iconst 0, 1) := by decide +kernel
theorem dX6_overlap_15 : decode cX6_overlap 15 = .ok (.iconst 1, 1) := by decide +kernel
theorem dX6_overlap_16 : decode cX6_overlap 16 = .ok (.invokestatic 59, 3) := by decide +kernel
theorem dX6_overlap_19 : decode cX6_overlap 19 = .ok (.ifCond .ne 6, 3) := by decide +kernel
theorem dX6_overlap_22 : decode cX6_overlap 22 = .ok (.ldc 63, 2) := by decide +kernel
theorem dX6_overlap_24 : decode cX6_overlap 24 = .ok (.ireturn, 1) := by decide +kernel
theorem dX6_overlap_25 : decode cX6_overlap 25 = .ok (.aload_n 0, 1) := by decide +kernel
theorem dX6_overlap_26 : decode cX6_overlap 26 = .ok (.getfield 43, 3) := by decide +kernel
theorem dX6_overlap_29 : decode cX6_overlap 29 = .ok (.aload_n 0, 1) := by decide +kernel
theorem dX6_overlap_30 : decode cX6_overlap 30 = .ok (.getfield 25, 3) := by decide +kernel
theorem dX6_overlap_33 : decode cX6_overlap 33 = .ok (.iload_n 1, 1) := by decide +kernel
theorem dX6_overlap_34 : decode cX6_overlap 34 = .ok (.invokevirtual 236, 3) := by decide +kernel
theorem dX6_overlap_37 : decode cX6_overlap 37 = .ok (.ireturn, 1) := by decide +kernel
theorem dX6_walk_0 : decode cX6_walk 0 = .ok (.aload_n 0, 1) := by decide +kernel
theorem dX6_walk_1 : decode cX6_walk 1 = .ok (.getfield 25, 3) := by decide +kernel
theorem dX6_walk_4 : decode cX6_walk 4 = .ok (.getfield 145, 3) := by decide +kernel
theorem dX6_walk_7 : decode cX6_walk 7 = .ok (.ifCond .ne 6, 3) := by decide +kernel
theorem dX6_walk_10 : decode cX6_walk 10 = .ok (.ldc 141, 2) := by decide +kernel
theorem dX6_walk_12 : decode cX6_walk 12 = .ok (.ireturn, 1) := by decide +kernel
theorem dX6_walk_13 : decode cX6_walk 13 = .ok (.iload_n 1, 1) := by decide +kernel
theorem dX6_walk_14 : decode cX6_walk 14 = .ok (.iconst 1, 1) := by decide +kernel
theorem dX6_walk_15 : decode cX6_walk 15 = .ok (.bipush 6, 2) := by decide +kernel
theorem dX6_walk_17 : decode cX6_walk 17 = .ok (.invokestatic 59, 3) := by decide +kernel
theorem dX6_walk_20 : decode cX6_walk 20 = .ok (.ifCond .eq 8, 3) := by decide +kernel
theorem dX6_walk_23 : decode cX6_walk 23 = .ok (.iload_n 2, 1) := by decide +kernel
theorem dX6_walk_24 : decode cX6_walk 24 = .ok (.iconst (-1), 1) := by decide +kernel
theorem dX6_walk_25 : decode cX6_walk 25 = .ok (.if_icmp .ge 6, 3) := by decide +kernel
theorem dX6_walk_28 : decode cX6_walk 28 = .ok (.ldc 63, 2) := by decide +kernel
theorem dX6_walk_30 : decode cX6_walk 30 = .ok (.ireturn, 1) := by decide +kernel
theorem dX6_walk_31 : decode cX6_walk 31 = .ok (.iload_n 2, 1) := by decide +kernel
theorem dX6_walk_32 : decode cX6_walk 32 = .ok (.iload_n 1, 1) := by decide +kernel
theorem dX6_walk_33 : decode cX6_walk 33 = .ok (.if_icmp .lt 6, 3) := by decide +kernel
theorem dX6_walk_36 : decode cX6_walk 36 = .ok (.ldc 239, 2) := by decide +kernel
theorem dX6_walk_38 : decode cX6_walk 38 = .ok (.ireturn, 1) := by decide +kernel
theorem dX6_walk_39 : decode cX6_walk 39 = .ok (.iload_n 2, 1) := by decide +kernel
theorem dX6_walk_40 : decode cX6_walk 40 = .ok (.iconst (-1), 1) := by decide +kernel
theorem dX6_walk_41 : decode cX6_walk 41 = .ok (.if_icmp .ne 18, 3) := by decide +kernel
theorem dX6_walk_44 : decode cX6_walk 44 = .ok (.aload_n 0, 1) := by decide +kernel
theorem dX6_walk_45 : decode cX6_walk 45 = .ok (.getfield 43, 3) := by decide +kernel
theorem dX6_walk_48 : decode cX6_walk 48 = .ok (.aload_n 0, 1) := by decide +kernel
theorem dX6_walk_49 : decode cX6_walk 49 = .ok (.getfield 25, 3) := by decide +kernel
theorem dX6_walk_52 : decode cX6_walk 52 = .ok (.iload_n 1, 1) := by decide +kernel
theorem dX6_walk_53 : decode cX6_walk 53 = .ok (.invokevirtual 240, 3) := by decide +kernel
theorem dX6_walk_56 : decode cX6_walk 56 = .ok (.goto 16, 3) := by decide +kernel
theorem dX6_walk_59 : decode cX6_walk 59 = .ok (.aload_n 0, 1) := by decide +kernel
theorem dX6_walk_60 : decode cX6_walk 60 = .ok (.getfield 43, 3) := by decide +kernel
theorem dX6_walk_63 : decode cX6_walk 63 = .ok (.aload_n 0, 1) := by decide +kernel
theorem dX6_walk_64 : decode cX6_walk 64 = .ok (.getfield 25, 3) := by decide +kernel
theorem dX6_walk_67 : decode cX6_walk 67 = .ok (.iload_n 1, 1) := by decide +kernel
theorem dX6_walk_68 : decode cX6_walk 68 = .ok (.iload_n 2, 1) := by decide +kernel
theorem dX6_walk_69 : decode cX6_walk 69 = .ok (.invokevirtual 243, 3) := by decide +kernel
theorem dX6_walk_72 : decode cX6_walk 72 = .ok (.ireturn, 1) := by decide +kernel
theorem dX6_meet_0 : decode cX6_meet 0 = .ok (.aload_n 0, 1) := by decide +kernel
theorem dX6_meet_1 : decode cX6_meet 1 = .ok (.getfield 25, 3) := by decide +kernel
theorem dX6_meet_4 : decode cX6_meet 4 = .ok (.iload_n 1, 1) := by decide +kernel
theorem dX6_meet_5 : decode cX6_meet 5 = .ok (.invokevirtual 175, 3) := by decide +kernel
theorem dX6_meet_8 : decode cX6_meet 8 = .ok (.ifCond .ne 6, 3) := by decide +kernel
theorem dX6_meet_11 : decode cX6_meet 11 = .ok (.ldc 63, 2) := by decide +kernel
theorem dX6_meet_13 : decode cX6_meet 13 = .ok (.ireturn, 1) := by decide +kernel
theorem dX6_meet_14 : decode cX6_meet 14 = .ok (.aload_n 0, 1) := by decide +kernel
theorem dX6_meet_15 : decode cX6_meet 15 = .ok (.getfield 43, 3) := by decide +kernel
theorem dX6_meet_18 : decode cX6_meet 18 = .ok (.aload_n 0, 1) := by decide +kernel
theorem dX6_meet_19 : decode cX6_meet 19 = .ok (.getfield 25, 3) := by decide +kernel
theorem dX6_meet_22 : decode cX6_meet 22 = .ok (.iload_n 1, 1) := by decide +kernel
theorem dX6_meet_23 : decode cX6_meet 23 = .ok (.invokevirtual 247, 3) := by decide +kernel
theorem dX6_meet_26 : decode cX6_meet 26 = .ok (.ireturn, 1) := by decide +kernel
theorem dX6_site_0 : decode cX6_site 0 = .ok (.aload_n 0, 1) := by decide +kernel
theorem dX6_site_1 : decode cX6_site 1 = .ok (.getfield 25, 3) := by decide +kernel
theorem dX6_site_4 : decode cX6_site 4 = .ok (.getfield 145, 3) := by decide +kernel
theorem dX6_site_7 : decode cX6_site 7 = .ok (.ifCond .ne 6, 3) := by decide +kernel
theorem dX6_site_10 : decode cX6_site 10 = .ok (.ldc 141, 2) := by decide +kernel
theorem dX6_site_12 : decode cX6_site 12 = .ok (.ireturn, 1) := by decide +kernel
theorem dX6_site_13 : decode cX6_site 13 = .ok (.iload_n 1, 1) := by decide +kernel
theorem dX6_site_14 : decode cX6_site 14 = .ok (.iconst 1, 1) := by decide +kernel
theorem dX6_site_15 : decode cX6_site 15 = .ok (.bipush 30, 2) := by decide +kernel
theorem dX6_site_17 : decode cX6_site 17 = .ok (.invokestatic 59, 3) := by decide +kernel
theorem dX6_site_20 : decode cX6_site 20 = .ok (.ifCond .eq 12, 3) := by decide +kernel
theorem dX6_site_23 : decode cX6_site 23 = .ok (.iload_n 2, 1) := by decide +kernel
theorem dX6_site_24 : decode cX6_site 24 = .ok (.iconst 0, 1) := by decide +kernel
theorem dX6_site_25 : decode cX6_site 25 = .ok (.iconst 1, 1) := by decide +kernel
theorem dX6_site_26 : decode cX6_site 26 = .ok (.invokestatic 59, 3) := by decide +kernel
theorem dX6_site_29 : decode cX6_site 29 = .ok (.ifCond .ne 6, 3) := by decide +kernel
theorem dX6_site_32 : decode cX6_site 32 = .ok (.ldc 63, 2) := by decide +kernel
theorem dX6_site_34 : decode cX6_site 34 = .ok (.ireturn, 1) := by decide +kernel
theorem dX6_site_35 : decode cX6_site 35 = .ok (.aload_n 0, 1) := by decide +kernel
theorem dX6_site_36 : decode cX6_site 36 = .ok (.getfield 43, 3) := by decide +kernel
theorem dX6_site_39 : decode cX6_site 39 = .ok (.aload_n 0, 1) := by decide +kernel
theorem dX6_site_40 : decode cX6_site 40 = .ok (.getfield 25, 3) := by decide +kernel
theorem dX6_site_43 : decode cX6_site 43 = .ok (.iload_n 1, 1) := by decide +kernel
theorem dX6_site_44 : decode cX6_site 44 = .ok (.iload_n 2, 1) := by decide +kernel
theorem dX6_site_45 : decode cX6_site 45 = .ok (.invokevirtual 250, 3) := by decide +kernel
theorem dX6_site_48 : decode cX6_site 48 = .ok (.ireturn, 1) := by decide +kernel
theorem dX6_waking_0 : decode cX6_waking 0 = .ok (.aload_n 0, 1) := by decide +kernel
theorem dX6_waking_1 : decode cX6_waking 1 = .ok (.getfield 25, 3) := by decide +kernel
theorem dX6_waking_4 : decode cX6_waking 4 = .ok (.getfield 145, 3) := by decide +kernel
theorem dX6_waking_7 : decode cX6_waking 7 = .ok (.ifCond .ne 6, 3) := by decide +kernel
theorem dX6_waking_10 : decode cX6_waking 10 = .ok (.ldc 141, 2) := by decide +kernel
theorem dX6_waking_12 : decode cX6_waking 12 = .ok (.ireturn, 1) := by decide +kernel
theorem dX6_waking_13 : decode cX6_waking 13 = .ok (.iload_n 1, 1) := by decide +kernel
theorem dX6_waking_14 : decode cX6_waking 14 = .ok (.iconst 1, 1) := by decide +kernel
theorem dX6_waking_15 : decode cX6_waking 15 = .ok (.bipush 30, 2) := by decide +kernel
theorem dX6_waking_17 : decode cX6_waking 17 = .ok (.invokestatic 59, 3) := by decide +kernel
theorem dX6_waking_20 : decode cX6_waking 20 = .ok (.ifCond .eq 12, 3) := by decide +kernel
theorem dX6_waking_23 : decode cX6_waking 23 = .ok (.iload_n 2, 1) := by decide +kernel
theorem dX6_waking_24 : decode cX6_waking 24 = .ok (.iconst 0, 1) := by decide +kernel
theorem dX6_waking_25 : decode cX6_waking 25 = .ok (.iconst 1, 1) := by decide +kernel
theorem dX6_waking_26 : decode cX6_waking 26 = .ok (.invokestatic 59, 3) := by decide +kernel
theorem dX6_waking_29 : decode cX6_waking 29 = .ok (.ifCond .ne 6, 3) := by decide +kernel
theorem dX6_waking_32 : decode cX6_waking 32 = .ok (.ldc 63, 2) := by decide +kernel
theorem dX6_waking_34 : decode cX6_waking 34 = .ok (.ireturn, 1) := by decide +kernel
theorem dX6_waking_35 : decode cX6_waking 35 = .ok (.aload_n 0, 1) := by decide +kernel
theorem dX6_waking_36 : decode cX6_waking 36 = .ok (.getfield 43, 3) := by decide +kernel
theorem dX6_waking_39 : decode cX6_waking 39 = .ok (.aload_n 0, 1) := by decide +kernel
theorem dX6_waking_40 : decode cX6_waking 40 = .ok (.getfield 25, 3) := by decide +kernel
theorem dX6_waking_43 : decode cX6_waking 43 = .ok (.iload_n 1, 1) := by decide +kernel
theorem dX6_waking_44 : decode cX6_waking 44 = .ok (.invokevirtual 253, 3) := by decide +kernel
theorem dX6_waking_47 : decode cX6_waking 47 = .ok (.istore_n 3, 1) := by decide +kernel
theorem dX6_waking_48 : decode cX6_waking 48 = .ok (.iload_n 2, 1) := by decide +kernel
theorem dX6_waking_49 : decode cX6_waking 49 = .ok (.ifCond .ne 7, 3) := by decide +kernel
theorem dX6_waking_52 : decode cX6_waking 52 = .ok (.iload_n 3, 1) := by decide +kernel
theorem dX6_waking_53 : decode cX6_waking 53 = .ok (.goto 7, 3) := by decide +kernel
theorem dX6_waking_56 : decode cX6_waking 56 = .ok (.iload_n 3, 1) := by decide +kernel
theorem dX6_waking_57 : decode cX6_waking 57 = .ok (.invokestatic 256, 3) := by decide +kernel
theorem dX6_waking_60 : decode cX6_waking 60 = .ok (.ireturn, 1) := by decide +kernel
theorem dX6_meant_0 : decode cX6_meant 0 = .ok (.aload_n 0, 1) := by decide +kernel
theorem dX6_meant_1 : decode cX6_meant 1 = .ok (.getfield 25, 3) := by decide +kernel
theorem dX6_meant_4 : decode cX6_meant 4 = .ok (.getfield 145, 3) := by decide +kernel
theorem dX6_meant_7 : decode cX6_meant 7 = .ok (.ifCond .ne 6, 3) := by decide +kernel
theorem dX6_meant_10 : decode cX6_meant 10 = .ok (.ldc 141, 2) := by decide +kernel
theorem dX6_meant_12 : decode cX6_meant 12 = .ok (.ireturn, 1) := by decide +kernel
theorem dX6_meant_13 : decode cX6_meant 13 = .ok (.iload_n 1, 1) := by decide +kernel
theorem dX6_meant_14 : decode cX6_meant 14 = .ok (.iconst 0, 1) := by decide +kernel
theorem dX6_meant_15 : decode cX6_meant 15 = .ok (.bipush 54, 2) := by decide +kernel
theorem dX6_meant_17 : decode cX6_meant 17 = .ok (.invokestatic 59, 3) := by decide +kernel
theorem dX6_meant_20 : decode cX6_meant 20 = .ok (.ifCond .eq 12, 3) := by decide +kernel
theorem dX6_meant_23 : decode cX6_meant 23 = .ok (.iload_n 2, 1) := by decide +kernel
theorem dX6_meant_24 : decode cX6_meant 24 = .ok (.iconst 0, 1) := by decide +kernel
theorem dX6_meant_25 : decode cX6_meant 25 = .ok (.iconst 2, 1) := by decide +kernel
theorem dX6_meant_26 : decode cX6_meant 26 = .ok (.invokestatic 59, 3) := by decide +kernel
theorem dX6_meant_29 : decode cX6_meant 29 = .ok (.ifCond .ne 6, 3) := by decide +kernel
theorem dX6_meant_32 : decode cX6_meant 32 = .ok (.ldc 63, 2) := by decide +kernel
theorem dX6_meant_34 : decode cX6_meant 34 = .ok (.ireturn, 1) := by decide +kernel
theorem dX6_meant_35 : decode cX6_meant 35 = .ok (.aload_n 0, 1) := by decide +kernel
theorem dX6_meant_36 : decode cX6_meant 36 = .ok (.getfield 25, 3) := by decide +kernel
theorem dX6_meant_39 : decode cX6_meant 39 = .ok (.iload_n 1, 1) := by decide +kernel
theorem dX6_meant_40 : decode cX6_meant 40 = .ok (.iload_n 2, 1) := by decide +kernel
theorem dX6_meant_41 : decode cX6_meant 41 = .ok (.invokevirtual 261, 3) := by decide +kernel
theorem dX6_meant_44 : decode cX6_meant 44 = .ok (.ireturn, 1) := by decide +kernel
theorem dX6_share_0 : decode cX6_share 0 = .ok (.aload_n 0, 1) := by decide +kernel
theorem dX6_share_1 : decode cX6_share 1 = .ok (.getfield 25, 3) := by decide +kernel
theorem dX6_share_4 : decode cX6_share 4 = .ok (.iload_n 1, 1) := by decide +kernel
theorem dX6_share_5 : decode cX6_share 5 = .ok (.invokevirtual 175, 3) := by decide +kernel
theorem dX6_share_8 : decode cX6_share 8 = .ok (.ifCond .eq 14, 3) := by decide +kernel
theorem dX6_share_11 : decode cX6_share 11 = .ok (.iload_n 2, 1) := by decide +kernel
theorem dX6_share_12 : decode cX6_share 12 = .ok (.iconst 0, 1) := by decide +kernel
theorem dX6_share_13 : decode cX6_share 13 = .ok (.sipush 999, 3) := by decide +kernel
theorem dX6_share_16 : decode cX6_share 16 = .ok (.invokestatic 59, 3) := by decide +kernel
theorem dX6_share_19 : decode cX6_share 19 = .ok (.ifCond .ne 6, 3) := by decide +kernel
theorem dX6_share_22 : decode cX6_share 22 = .ok (.ldc 63, 2) := by decide +kernel
theorem dX6_share_24 : decode cX6_share 24 = .ok (.ireturn, 1) := by decide +kernel
theorem dX6_share_25 : decode cX6_share 25 = .ok (.aload_n 0, 1) := by decide +kernel
theorem dX6_share_26 : decode cX6_share 26 = .ok (.getfield 25, 3) := by decide +kernel
theorem dX6_share_29 : decode cX6_share 29 = .ok (.iload_n 1, 1) := by decide +kernel
theorem dX6_share_30 : decode cX6_share 30 = .ok (.iload_n 2, 1) := by decide +kernel
theorem dX6_share_31 : decode cX6_share 31 = .ok (.invokevirtual 264, 3) := by decide +kernel
theorem dX6_share_34 : decode cX6_share 34 = .ok (.ireturn, 1) := by decide +kernel
theorem dX6_byTurns_0 : decode cX6_byTurns 0 = .ok (.aload_n 0, 1) := by decide +kernel
theorem dX6_byTurns_1 : decode cX6_byTurns 1 = .ok (.getfield 25, 3) := by decide +kernel
theorem dX6_byTurns_4 : decode cX6_byTurns 4 = .ok (.getfield 145, 3) := by decide +kernel
theorem dX6_byTurns_7 : decode cX6_byTurns 7 = .ok (.ifCond .ne 6, 3) := by decide +kernel
theorem dX6_byTurns_10 : decode cX6_byTurns 10 = .ok (.ldc 141, 2) := by decide +kernel
theorem dX6_byTurns_12 : decode cX6_byTurns 12 = .ok (.ireturn, 1) := by decide +kernel
theorem dX6_byTurns_13 : decode cX6_byTurns 13 = .ok (.iload_n 1, 1) := by decide +kernel
theorem dX6_byTurns_14 : decode cX6_byTurns 14 = .ok (.iconst 0, 1) := by decide +kernel
theorem dX6_byTurns_15 : decode cX6_byTurns 15 = .ok (.iconst 4, 1) := by decide +kernel
theorem dX6_byTurns_16 : decode cX6_byTurns 16 = .ok (.invokestatic 59, 3) := by decide +kernel
theorem dX6_byTurns_19 : decode cX6_byTurns 19 = .ok (.ifCond .eq 13, 3) := by decide +kernel
theorem dX6_byTurns_22 : decode cX6_byTurns 22 = .ok (.iload_n 2, 1) := by decide +kernel
theorem dX6_byTurns_23 : decode cX6_byTurns 23 = .ok (.iconst 1, 1) := by decide +kernel
theorem dX6_byTurns_24 : decode cX6_byTurns 24 = .ok (.bipush 20, 2) := by decide +kernel
theorem dX6_byTurns_26 : decode cX6_byTurns 26 = .ok (.invokestatic 59, 3) := by decide +kernel
theorem dX6_byTurns_29 : decode cX6_byTurns 29 = .ok (.ifCond .ne 6, 3) := by decide +kernel
theorem dX6_byTurns_32 : decode cX6_byTurns 32 = .ok (.ldc 63, 2) := by decide +kernel
theorem dX6_byTurns_34 : decode cX6_byTurns 34 = .ok (.ireturn, 1) := by decide +kernel
theorem dX6_byTurns_35 : decode cX6_byTurns 35 = .ok (.aload_n 0, 1) := by decide +kernel
theorem dX6_byTurns_36 : decode cX6_byTurns 36 = .ok (.getfield 43, 3) := by decide +kernel
theorem dX6_byTurns_39 : decode cX6_byTurns 39 = .ok (.aload_n 0, 1) := by decide +kernel
theorem dX6_byTurns_40 : decode cX6_byTurns 40 = .ok (.getfield 25, 3) := by decide +kernel
theorem dX6_byTurns_43 : decode cX6_byTurns 43 = .ok (.iload_n 1, 1) := by decide +kernel
theorem dX6_byTurns_44 : decode cX6_byTurns 44 = .ok (.iload_n 2, 1) := by decide +kernel
theorem dX6_byTurns_45 : decode cX6_byTurns 45 = .ok (.invokevirtual 267, 3) := by decide +kernel
theorem dX6_byTurns_48 : decode cX6_byTurns 48 = .ok (.ireturn, 1) := by decide +kernel
theorem dX6_who_0 : decode cX6_who 0 = .ok (.aload_n 0, 1) := by decide +kernel
theorem dX6_who_1 : decode cX6_who 1 = .ok (.getfield 25, 3) := by decide +kernel
theorem dX6_who_4 : decode cX6_who 4 = .ok (.iload_n 1, 1) := by decide +kernel
theorem dX6_who_5 : decode cX6_who 5 = .ok (.invokevirtual 175, 3) := by decide +kernel
theorem dX6_who_8 : decode cX6_who 8 = .ok (.ifCond .eq 30, 3) := by decide +kernel
theorem dX6_who_11 : decode cX6_who 11 = .ok (.iload_n 2, 1) := by decide +kernel
theorem dX6_who_12 : decode cX6_who 12 = .ok (.iconst 0, 1) := by decide +kernel
theorem dX6_who_13 : decode cX6_who 13 = .ok (.iconst 2, 1) := by decide +kernel
theorem dX6_who_14 : decode cX6_who 14 = .ok (.invokestatic 59, 3) := by decide +kernel
theorem dX6_who_17 : decode cX6_who 17 = .ok (.ifCond .eq 21, 3) := by decide +kernel
theorem dX6_who_20 : decode cX6_who 20 = .ok (.iload_n 3, 1) := by decide +kernel
theorem dX6_who_21 : decode cX6_who 21 = .ok (.invokestatic 55, 3) := by decide +kernel
theorem dX6_who_24 : decode cX6_who 24 = .ok (.ifCond .eq 14, 3) := by decide +kernel
theorem dX6_who_27 : decode cX6_who 27 = .ok (.iload 5, 2) := by decide +kernel
theorem dX6_who_29 : decode cX6_who 29 = .ok (.iconst 1, 1) := by decide +kernel
theorem dX6_who_30 : decode cX6_who 30 = .ok (.bipush 12, 2) := by decide +kernel
theorem dX6_who_32 : decode cX6_who 32 = .ok (.invokestatic 59, 3) := by decide +kernel
theorem dX6_who_35 : decode cX6_who 35 = .ok (.ifCond .ne 6, 3) := by decide +kernel
theorem dX6_who_38 : decode cX6_who 38 = .ok (.ldc 63, 2) := by decide +kernel
theorem dX6_who_40 : decode cX6_who 40 = .ok (.ireturn, 1) := by decide +kernel
theorem dX6_who_41 : decode cX6_who 41 = .ok (.aload_n 0, 1) := by decide +kernel
theorem dX6_who_42 : decode cX6_who 42 = .ok (.getfield 25, 3) := by decide +kernel
theorem dX6_who_45 : decode cX6_who 45 = .ok (.iload_n 1, 1) := by decide +kernel
theorem dX6_who_46 : decode cX6_who 46 = .ok (.invokevirtual 178, 3) := by decide +kernel
theorem dX6_who_49 : decode cX6_who 49 = .ok (.ifCond .ne 6, 3) := by decide +kernel
theorem dX6_who_52 : decode cX6_who 52 = .ok (.ldc 141, 2) := by decide +kernel
theorem dX6_who_54 : decode cX6_who 54 = .ok (.ireturn, 1) := by decide +kernel
theorem dX6_who_55 : decode cX6_who 55 = .ok (.aload_n 0, 1) := by decide +kernel
theorem dX6_who_56 : decode cX6_who 56 = .ok (.iload_n 2, 1) := by decide +kernel
theorem dX6_who_57 : decode cX6_who 57 = .ok (.iload_n 1, 1) := by decide +kernel
theorem dX6_who_58 : decode cX6_who 58 = .ok (.iload_n 3, 1) := by decide +kernel
theorem dX6_who_59 : decode cX6_who 59 = .ok (.iload 4, 2) := by decide +kernel
theorem dX6_who_61 : decode cX6_who 61 = .ok (.iload 5, 2) := by decide +kernel
theorem dX6_who_63 : decode cX6_who 63 = .ok (.invokevirtual 270, 3) := by decide +kernel
theorem dX6_who_66 : decode cX6_who 66 = .ok (.ireturn, 1) := by decide +kernel
theorem dX6_gusts_0 : decode cX6_gusts 0 = .ok (.aload_n 0, 1) := by decide +kernel
theorem dX6_gusts_1 : decode cX6_gusts 1 = .ok (.getfield 25, 3) := by decide +kernel
theorem dX6_gusts_4 : decode cX6_gusts 4 = .ok (.iload_n 1, 1) := by decide +kernel
theorem dX6_gusts_5 : decode cX6_gusts 5 = .ok (.invokevirtual 166, 3) := by decide +kernel
theorem dX6_gusts_8 : decode cX6_gusts 8 = .ok (.ifCond .eq 21, 3) := by decide +kernel
theorem dX6_gusts_11 : decode cX6_gusts 11 = .ok (.iload_n 2, 1) := by decide +kernel
theorem dX6_gusts_12 : decode cX6_gusts 12 = .ok (.invokestatic 55, 3) := by decide +kernel
theorem dX6_gusts_15 : decode cX6_gusts 15 = .ok (.ifCond .eq 14, 3) := by decide +kernel
theorem dX6_gusts_18 : decode cX6_gusts 18 = .ok (.iload 4, 2) := by decide +kernel
theorem dX6_gusts_20 : decode cX6_gusts 20 = .ok (.iconst 1, 1) := by decide +kernel
theorem dX6_gusts_21 : decode cX6_gusts 21 = .ok (.bipush 12, 2) := by decide +kernel
theorem dX6_gusts_23 : decode cX6_gusts 23 = .ok (.invokestatic 59, 3) := by decide +kernel
theorem dX6_gusts_26 : decode cX6_gusts 26 = .ok (.ifCond .ne 6, 3) := by decide +kernel
theorem dX6_gusts_29 : decode cX6_gusts 29 = .ok (.ldc 63, 2) := by decide +kernel
theorem dX6_gusts_31 : decode cX6_gusts 31 = .ok (.ireturn, 1) := by decide +kernel
theorem dX6_gusts_32 : decode cX6_gusts 32 = .ok (.aload_n 0, 1) := by decide +kernel
theorem dX6_gusts_33 : decode cX6_gusts 33 = .ok (.iconst 3, 1) := by decide +kernel
theorem dX6_gusts_34 : decode cX6_gusts 34 = .ok (.iload_n 1, 1) := by decide +kernel
theorem dX6_gusts_35 : decode cX6_gusts 35 = .ok (.iload_n 2, 1) := by decide +kernel
theorem dX6_gusts_36 : decode cX6_gusts 36 = .ok (.iload_n 3, 1) := by decide +kernel
theorem dX6_gusts_37 : decode cX6_gusts 37 = .ok (.iload 4, 2) := by decide +kernel
theorem dX6_gusts_39 : decode cX6_gusts 39 = .ok (.invokevirtual 270, 3) := by decide +kernel
theorem dX6_gusts_42 : decode cX6_gusts 42 = .ok (.ireturn, 1) := by decide +kernel
theorem dX6_lift_0 : decode cX6_lift 0 = .ok (.aload_n 0, 1) := by decide +kernel
theorem dX6_lift_1 : decode cX6_lift 1 = .ok (.getfield 25, 3) := by decide +kernel
theorem dX6_lift_4 : decode cX6_lift 4 = .ok (.iload_n 1, 1) := by decide +kernel
theorem dX6_lift_5 : decode cX6_lift 5 = .ok (.invokevirtual 163, 3) := by decide +kernel
theorem dX6_lift_8 : decode cX6_lift 8 = .ok (.ifCond .eq 30, 3) := by decide +kernel
theorem dX6_lift_11 : decode cX6_lift 11 = .ok (.iload_n 2, 1) := by decide +kernel
theorem dX6_lift_12 : decode cX6_lift 12 = .ok (.invokestatic 222, 3) := by decide +kernel
theorem dX6_lift_15 : decode cX6_lift 15 = .ok (.ifCond .eq 23, 3) := by decide +kernel
theorem dX6_lift_18 : decode cX6_lift 18 = .ok (.iload_n 3, 1) := by decide +kernel
theorem dX6_lift_19 : decode cX6_lift 19 = .ok (.iconst 0, 1) := by decide +kernel
theorem dX6_lift_20 : decode cX6_lift 20 = .ok (.bipush 10, 2) := by decide +kernel
theorem dX6_lift_22 : decode cX6_lift 22 = .ok (.invokestatic 59, 3) := by decide +kernel
theorem dX6_lift_25 : decode cX6_lift 25 = .ok (.ifCond .eq 13, 3) := by decide +kernel
theorem dX6_lift_28 : decode cX6_lift 28 = .ok (.iload 4, 2) := by decide +kernel
theorem dX6_lift_30 : decode cX6_lift 30 = .ok (.iconst 0, 1) := by decide +kernel
theorem dX6_lift_31 : decode cX6_lift 31 = .ok (.iconst 1, 1) := by decide +kernel
theorem dX6_lift_32 : decode cX6_lift 32 = .ok (.invokestatic 59, 3) := by decide +kernel
theorem dX6_lift_35 : decode cX6_lift 35 = .ok (.ifCond .ne 7, 3) := by decide +kernel
theorem dX6_lift_38 : decode cX6_lift 38 = .ok (.ldc2_w 274, 3) := by decide +kernel
theorem dX6_lift_41 : decode cX6_lift 41 = .ok (.lreturn, 1) := by decide +kernel
theorem dX6_lift_42 : decode cX6_lift 42 = .ok (.aload_n 0, 1) := by decide +kernel
theorem dX6_lift_43 : decode cX6_lift 43 = .ok (.getfield 43, 3) := by decide +kernel
theorem dX6_lift_46 : decode cX6_lift 46 = .ok (.aload_n 0, 1) := by decide +kernel
theorem dX6_lift_47 : decode cX6_lift 47 = .ok (.getfield 25, 3) := by decide +kernel
theorem dX6_lift_50 : decode cX6_lift 50 = .ok (.iload_n 2, 1) := by decide +kernel
theorem dX6_lift_51 : decode cX6_lift 51 = .ok (.invokevirtual 225, 3) := by decide +kernel
theorem dX6_lift_54 : decode cX6_lift 54 = .ok (.iload_n 1, 1) := by decide +kernel
theorem dX6_lift_55 : decode cX6_lift 55 = .ok (.invokevirtual 206, 3) := by decide +kernel
theorem dX6_lift_58 : decode cX6_lift 58 = .ok (.invokestatic 256, 3) := by decide +kernel
theorem dX6_lift_61 : decode cX6_lift 61 = .ok (.istore 5, 2) := by decide +kernel
theorem dX6_lift_63 : decode cX6_lift 63 = .ok (.iload_n 3, 1) := by decide +kernel
theorem dX6_lift_64 : decode cX6_lift 64 = .ok (.bipush 10, 2) := by decide +kernel
theorem dX6_lift_66 : decode cX6_lift 66 = .ok (.invokestatic 276, 3) := by decide +kernel
theorem dX6_lift_69 : decode cX6_lift 69 = .ok (.istore 6, 2) := by decide +kernel
theorem dX6_lift_71 : decode cX6_lift 71 = .ok (.iload 4, 2) := by decide +kernel
theorem dX6_lift_73 : decode cX6_lift 73 = .ok (.ifCond .ne 7, 3) := by decide +kernel
theorem dX6_lift_76 : decode cX6_lift 76 = .ok (.iload_n 3, 1) := by decide +kernel
theorem dX6_lift_77 : decode cX6_lift 77 = .ok (.goto 5, 3) := by decide +kernel
theorem dX6_lift_80 : decode cX6_lift 80 = .ok (.bipush 10, 2) := by decide +kernel
theorem dX6_lift_82 : decode cX6_lift 82 = .ok (.iload 6, 2) := by decide +kernel
theorem dX6_lift_84 : decode cX6_lift 84 = .ok (.idiv, 1) := by decide +kernel
theorem dX6_lift_85 : decode cX6_lift 85 = .ok (.iload 5, 2) := by decide +kernel
theorem dX6_lift_87 : decode cX6_lift 87 = .ok (.invokestatic 279, 3) := by decide +kernel
theorem dX6_lift_90 : decode cX6_lift 90 = .ok (.lreturn, 1) := by decide +kernel
theorem dX6_drawn_0 : decode cX6_drawn 0 = .ok (.aload_n 0, 1) := by decide +kernel
theorem dX6_drawn_1 : decode cX6_drawn 1 = .ok (.getfield 25, 3) := by decide +kernel
theorem dX6_drawn_4 : decode cX6_drawn 4 = .ok (.getfield 145, 3) := by decide +kernel
theorem dX6_drawn_7 : decode cX6_drawn 7 = .ok (.ifCond .ne 6, 3) := by decide +kernel
theorem dX6_drawn_10 : decode cX6_drawn 10 = .ok (.ldc 141, 2) := by decide +kernel
theorem dX6_drawn_12 : decode cX6_drawn 12 = .ok (.ireturn, 1) := by decide +kernel
theorem dX6_drawn_13 : decode cX6_drawn 13 = .ok (.iload_n 1, 1) := by decide +kernel
theorem dX6_drawn_14 : decode cX6_drawn 14 = .ok (.invokestatic 222, 3) := by decide +kernel
theorem dX6_drawn_17 : decode cX6_drawn 17 = .ok (.ifCond .eq 23, 3) := by decide +kernel
theorem dX6_drawn_20 : decode cX6_drawn 20 = .ok (.iload_n 2, 1) := by decide +kernel
theorem dX6_drawn_21 : decode cX6_drawn 21 = .ok (.iconst 1, 1) := by decide +kernel
theorem dX6_drawn_22 : decode cX6_drawn 22 = .ok (.ldc_w 283, 3) := by decide +kernel
theorem dX6_drawn_25 : decode cX6_drawn 25 = .ok (.invokestatic 59, 3) := by decide +kernel
theorem dX6_drawn_28 : decode cX6_drawn 28 = .ok (.ifCond .eq 12, 3) := by decide +kernel
theorem dX6_drawn_31 : decode cX6_drawn 31 = .ok (.iload_n 3, 1) := by decide +kernel
theorem dX6_drawn_32 : decode cX6_drawn 32 = .ok (.iconst 0, 1) := by decide +kernel
theorem dX6_drawn_33 : decode cX6_drawn 33 = .ok (.iconst 1, 1) := by decide +kernel
theorem dX6_drawn_34 : decode cX6_drawn 34 = .ok (.invokestatic 59, 3) := by decide +kernel
theorem dX6_drawn_37 : decode cX6_drawn 37 = .ok (.ifCond .ne 6, 3) := by decide +kernel
theorem dX6_drawn_40 : decode cX6_drawn 40 = .ok (.ldc 63, 2) := by decide +kernel
theorem dX6_drawn_42 : decode cX6_drawn 42 = .ok (.ireturn, 1) := by decide +kernel
theorem dX6_drawn_43 : decode cX6_drawn 43 = .ok (.aload_n 0, 1) := by decide +kernel
theorem dX6_drawn_44 : decode cX6_drawn 44 = .ok (.getfield 43, 3) := by decide +kernel
theorem dX6_drawn_47 : decode cX6_drawn 47 = .ok (.aload_n 0, 1) := by decide +kernel
theorem dX6_drawn_48 : decode cX6_drawn 48 = .ok (.getfield 25, 3) := by decide +kernel
theorem dX6_drawn_51 : decode cX6_drawn 51 = .ok (.iload_n 1, 1) := by decide +kernel
theorem dX6_drawn_52 : decode cX6_drawn 52 = .ok (.iload_n 2, 1) := by decide +kernel
theorem dX6_drawn_53 : decode cX6_drawn 53 = .ok (.iload_n 3, 1) := by decide +kernel
theorem dX6_drawn_54 : decode cX6_drawn 54 = .ok (.invokevirtual 284, 3) := by decide +kernel
theorem dX6_drawn_57 : decode cX6_drawn 57 = .ok (.ireturn, 1) := by decide +kernel
theorem dX6_image_0 : decode cX6_image 0 = .ok (.iload_n 1, 1) := by decide +kernel
theorem dX6_image_1 : decode cX6_image 1 = .ok (.iconst 0, 1) := by decide +kernel
theorem dX6_image_2 : decode cX6_image 2 = .ok (.iconst 1, 1) := by decide +kernel
theorem dX6_image_3 : decode cX6_image 3 = .ok (.invokestatic 59, 3) := by decide +kernel
theorem dX6_image_6 : decode cX6_image 6 = .ok (.ifCond .ne 6, 3) := by decide +kernel
theorem dX6_image_9 : decode cX6_image 9 = .ok (.ldc 63, 2) := by decide +kernel
theorem dX6_image_11 : decode cX6_image 11 = .ok (.ireturn, 1) := by decide +kernel
end
section
theorem dX6_image_12 : decode cX6_image 12 = .ok (.aload_n 0, 1) := by decide +kernel
theorem dX6_image_13 : decode cX6_image 13 = .ok (.getfield 25, 3) := by decide +kernel
theorem dX6_image_16 : decode cX6_image 16 = .ok (.getfield 145, 3) := by decide +kernel
theorem dX6_image_19 : decode cX6_image 19 = .ok (.ifCond .ne 6, 3) := by decide +kernel
theorem dX6_image_22 : decode cX6_image 22 = .ok (.ldc 141, 2) := by decide +kernel
theorem dX6_image_24 : decode cX6_image 24 = .ok (.ireturn, 1) := by decide +kernel
theorem dX6_image_25 : decode cX6_image 25 = .ok (.aload_n 0, 1) := by decide +kernel
theorem dX6_image_26 : decode cX6_image 26 = .ok (.getfield 36, 3) := by decide +kernel
theorem dX6_image_29 : decode cX6_image 29 = .ok (.iload_n 1, 1) := by decide +kernel
theorem dX6_image_30 : decode cX6_image 30 = .ok (.aaload, 1) := by decide +kernel
theorem dX6_image_31 : decode cX6_image 31 = .ok (.aload_n 0, 1) := by decide +kernel
theorem dX6_image_32 : decode cX6_image 32 = .ok (.getfield 25, 3) := by decide +kernel
theorem dX6_image_35 : decode cX6_image 35 = .ok (.invokevirtual 128, 3) := by decide +kernel
theorem dX6_image_38 : decode cX6_image 38 = .ok (.iconst 1, 1) := by decide +kernel
theorem dX6_image_39 : decode cX6_image 39 = .ok (.ireturn, 1) := by decide +kernel
theorem dX6_restore_0 : decode cX6_restore 0 = .ok (.iload_n 1, 1) := by decide +kernel
theorem dX6_restore_1 : decode cX6_restore 1 = .ok (.iconst 0, 1) := by decide +kernel
theorem dX6_restore_2 : decode cX6_restore 2 = .ok (.iconst 1, 1) := by decide +kernel
theorem dX6_restore_3 : decode cX6_restore 3 = .ok (.invokestatic 59, 3) := by decide +kernel
theorem dX6_restore_6 : decode cX6_restore 6 = .ok (.ifCond .ne 6, 3) := by decide +kernel
theorem dX6_restore_9 : decode cX6_restore 9 = .ok (.ldc 63, 2) := by decide +kernel
theorem dX6_restore_11 : decode cX6_restore 11 = .ok (.ireturn, 1) := by decide +kernel
theorem dX6_restore_12 : decode cX6_restore 12 = .ok (.aload_n 0, 1) := by decide +kernel
theorem dX6_restore_13 : decode cX6_restore 13 = .ok (.getfield 36, 3) := by decide +kernel
theorem dX6_restore_16 : decode cX6_restore 16 = .ok (.iload_n 1, 1) := by decide +kernel
theorem dX6_restore_17 : decode cX6_restore 17 = .ok (.aaload, 1) := by decide +kernel
theorem dX6_restore_18 : decode cX6_restore 18 = .ok (.getfield 145, 3) := by decide +kernel
theorem dX6_restore_21 : decode cX6_restore 21 = .ok (.ifCond .ne 6, 3) := by decide +kernel
theorem dX6_restore_24 : decode cX6_restore 24 = .ok (.ldc 141, 2) := by decide +kernel
theorem dX6_restore_26 : decode cX6_restore 26 = .ok (.ireturn, 1) := by decide +kernel
theorem dX6_restore_27 : decode cX6_restore 27 = .ok (.aload_n 0, 1) := by decide +kernel
theorem dX6_restore_28 : decode cX6_restore 28 = .ok (.getfield 25, 3) := by decide +kernel
theorem dX6_restore_31 : decode cX6_restore 31 = .ok (.aload_n 0, 1) := by decide +kernel
theorem dX6_restore_32 : decode cX6_restore 32 = .ok (.getfield 36, 3) := by decide +kernel
theorem dX6_restore_35 : decode cX6_restore 35 = .ok (.iload_n 1, 1) := by decide +kernel
theorem dX6_restore_36 : decode cX6_restore 36 = .ok (.aaload, 1) := by decide +kernel
theorem dX6_restore_37 : decode cX6_restore 37 = .ok (.invokevirtual 128, 3) := by decide +kernel
theorem dX6_restore_40 : decode cX6_restore 40 = .ok (.aload_n 0, 1) := by decide +kernel
theorem dX6_restore_41 : decode cX6_restore 41 = .ok (.getfield 32, 3) := by decide +kernel
theorem dX6_restore_44 : decode cX6_restore 44 = .ok (.invokevirtual 132, 3) := by decide +kernel
theorem dX6_restore_47 : decode cX6_restore 47 = .ok (.iconst 1, 1) := by decide +kernel
theorem dX6_restore_48 : decode cX6_restore 48 = .ok (.ireturn, 1) := by decide +kernel
theorem dX6_kind_0 : decode cX6_kind 0 = .ok (.aload_n 0, 1) := by decide +kernel
theorem dX6_kind_1 : decode cX6_kind 1 = .ok (.getfield 25, 3) := by decide +kernel
theorem dX6_kind_4 : decode cX6_kind 4 = .ok (.iload_n 1, 1) := by decide +kernel
theorem dX6_kind_5 : decode cX6_kind 5 = .ok (.invokevirtual 175, 3) := by decide +kernel
theorem dX6_kind_8 : decode cX6_kind 8 = .ok (.ifCond .eq 15, 3) := by decide +kernel
theorem dX6_kind_11 : decode cX6_kind 11 = .ok (.aload_n 0, 1) := by decide +kernel
theorem dX6_kind_12 : decode cX6_kind 12 = .ok (.getfield 25, 3) := by decide +kernel
theorem dX6_kind_15 : decode cX6_kind 15 = .ok (.getfield 288, 3) := by decide +kernel
theorem dX6_kind_18 : decode cX6_kind 18 = .ok (.iload_n 1, 1) := by decide +kernel
theorem dX6_kind_19 : decode cX6_kind 19 = .ok (.iaload, 1) := by decide +kernel
theorem dX6_kind_20 : decode cX6_kind 20 = .ok (.goto 5, 3) := by decide +kernel
theorem dX6_kind_23 : decode cX6_kind 23 = .ok (.ldc 63, 2) := by decide +kernel
theorem dX6_kind_25 : decode cX6_kind 25 = .ok (.ireturn, 1) := by decide +kernel
theorem dX6_as_0 : decode cX6_as 0 = .ok (.aload_n 0, 1) := by decide +kernel
theorem dX6_as_1 : decode cX6_as 1 = .ok (.getfield 25, 3) := by decide +kernel
theorem dX6_as_4 : decode cX6_as 4 = .ok (.iload_n 1, 1) := by decide +kernel
theorem dX6_as_5 : decode cX6_as 5 = .ok (.invokevirtual 175, 3) := by decide +kernel
theorem dX6_as_8 : decode cX6_as 8 = .ok (.ifCond .eq 12, 3) := by decide +kernel
theorem dX6_as_11 : decode cX6_as 11 = .ok (.iload_n 2, 1) := by decide +kernel
theorem dX6_as_12 : decode cX6_as 12 = .ok (.iconst 0, 1) := by decide +kernel
theorem dX6_as_13 : decode cX6_as 13 = .ok (.iconst 5, 1) := by decide +kernel
theorem dX6_as_14 : decode cX6_as 14 = .ok (.invokestatic 59, 3) := by decide +kernel
theorem dX6_as_17 : decode cX6_as 17 = .ok (.ifCond .ne 6, 3) := by decide +kernel
theorem dX6_as_20 : decode cX6_as 20 = .ok (.ldc 63, 2) := by decide +kernel
theorem dX6_as_22 : decode cX6_as 22 = .ok (.ireturn, 1) := by decide +kernel
theorem dX6_as_23 : decode cX6_as 23 = .ok (.aload_n 0, 1) := by decide +kernel
theorem dX6_as_24 : decode cX6_as 24 = .ok (.getfield 25, 3) := by decide +kernel
theorem dX6_as_27 : decode cX6_as 27 = .ok (.getfield 288, 3) := by decide +kernel
theorem dX6_as_30 : decode cX6_as 30 = .ok (.iload_n 1, 1) := by decide +kernel
theorem dX6_as_31 : decode cX6_as 31 = .ok (.iaload, 1) := by decide +kernel
theorem dX6_as_32 : decode cX6_as 32 = .ok (.iload_n 2, 1) := by decide +kernel
theorem dX6_as_33 : decode cX6_as 33 = .ok (.invokestatic 291, 3) := by decide +kernel
theorem dX6_as_36 : decode cX6_as 36 = .ok (.ifCond .ne 9, 3) := by decide +kernel
theorem dX6_as_39 : decode cX6_as 39 = .ok (.aload_n 0, 1) := by decide +kernel
theorem dX6_as_40 : decode cX6_as 40 = .ok (.iconst 3, 1) := by decide +kernel
theorem dX6_as_41 : decode cX6_as 41 = .ok (.invokevirtual 64, 3) := by decide +kernel
theorem dX6_as_44 : decode cX6_as 44 = .ok (.ireturn, 1) := by decide +kernel
theorem dX6_as_45 : decode cX6_as 45 = .ok (.aload_n 0, 1) := by decide +kernel
theorem dX6_as_46 : decode cX6_as 46 = .ok (.iload_n 1, 1) := by decide +kernel
theorem dX6_as_47 : decode cX6_as 47 = .ok (.invokevirtual 72, 3) := by decide +kernel
theorem dX6_as_50 : decode cX6_as 50 = .ok (.ireturn, 1) := by decide +kernel
theorem dX6_ask_0 : decode cX6_ask 0 = .ok (.aload_n 0, 1) := by decide +kernel
theorem dX6_ask_1 : decode cX6_ask 1 = .ok (.getfield 25, 3) := by decide +kernel
theorem dX6_ask_4 : decode cX6_ask 4 = .ok (.iload_n 1, 1) := by decide +kernel
theorem dX6_ask_5 : decode cX6_ask 5 = .ok (.invokevirtual 175, 3) := by decide +kernel
theorem dX6_ask_8 : decode cX6_ask 8 = .ok (.ifCond .eq 12, 3) := by decide +kernel
theorem dX6_ask_11 : decode cX6_ask 11 = .ok (.iload_n 2, 1) := by decide +kernel
theorem dX6_ask_12 : decode cX6_ask 12 = .ok (.iconst 0, 1) := by decide +kernel
theorem dX6_ask_13 : decode cX6_ask 13 = .ok (.iconst 1, 1) := by decide +kernel
theorem dX6_ask_14 : decode cX6_ask 14 = .ok (.invokestatic 59, 3) := by decide +kernel
theorem dX6_ask_17 : decode cX6_ask 17 = .ok (.ifCond .ne 6, 3) := by decide +kernel
theorem dX6_ask_20 : decode cX6_ask 20 = .ok (.ldc 63, 2) := by decide +kernel
theorem dX6_ask_22 : decode cX6_ask 22 = .ok (.ireturn, 1) := by decide +kernel
theorem dX6_ask_23 : decode cX6_ask 23 = .ok (.aload_n 0, 1) := by decide +kernel
theorem dX6_ask_24 : decode cX6_ask 24 = .ok (.getfield 50, 3) := by decide +kernel
theorem dX6_ask_27 : decode cX6_ask 27 = .ok (.aload_n 0, 1) := by decide +kernel
theorem dX6_ask_28 : decode cX6_ask 28 = .ok (.getfield 25, 3) := by decide +kernel
theorem dX6_ask_31 : decode cX6_ask 31 = .ok (.iload_n 1, 1) := by decide +kernel
theorem dX6_ask_32 : decode cX6_ask 32 = .ok (.iload_n 2, 1) := by decide +kernel
theorem dX6_ask_33 : decode cX6_ask 33 = .ok (.invokevirtual 294, 3) := by decide +kernel
theorem dX6_ask_36 : decode cX6_ask 36 = .ok (.ireturn, 1) := by decide +kernel
theorem dX6_trace_0 : decode cX6_trace 0 = .ok (.iload_n 1, 1) := by decide +kernel
theorem dX6_trace_1 : decode cX6_trace 1 = .ok (.iconst 0, 1) := by decide +kernel
theorem dX6_trace_2 : decode cX6_trace 2 = .ok (.aload_n 0, 1) := by decide +kernel
theorem dX6_trace_3 : decode cX6_trace 3 = .ok (.getfield 50, 3) := by decide +kernel
theorem dX6_trace_6 : decode cX6_trace 6 = .ok (.getfield 297, 3) := by decide +kernel
theorem dX6_trace_9 : decode cX6_trace 9 = .ok (.iconst 1, 1) := by decide +kernel
theorem dX6_trace_10 : decode cX6_trace 10 = .ok (.isub, 1) := by decide +kernel
theorem dX6_trace_11 : decode cX6_trace 11 = .ok (.invokestatic 59, 3) := by decide +kernel
theorem dX6_trace_14 : decode cX6_trace 14 = .ok (.ifCond .eq 15, 3) := by decide +kernel
theorem dX6_trace_17 : decode cX6_trace 17 = .ok (.aload_n 0, 1) := by decide +kernel
theorem dX6_trace_18 : decode cX6_trace 18 = .ok (.getfield 50, 3) := by decide +kernel
theorem dX6_trace_21 : decode cX6_trace 21 = .ok (.getfield 300, 3) := by decide +kernel
theorem dX6_trace_24 : decode cX6_trace 24 = .ok (.iload_n 1, 1) := by decide +kernel
theorem dX6_trace_25 : decode cX6_trace 25 = .ok (.iaload, 1) := by decide +kernel
theorem dX6_trace_26 : decode cX6_trace 26 = .ok (.goto 5, 3) := by decide +kernel
theorem dX6_trace_29 : decode cX6_trace 29 = .ok (.ldc 239, 2) := by decide +kernel
theorem dX6_trace_31 : decode cX6_trace 31 = .ok (.ireturn, 1) := by decide +kernel
theorem dX6_count_0 : decode cX6_count 0 = .ok (.iload_n 1, 1) := by decide +kernel
theorem dX6_count_1 : decode cX6_count 1 = .ok (.tableswitch 111 0 7 #[47, 52, 60, 68, 76, 84, 95, 103], 47) := by decide +kernel
theorem dX6_count_48 : decode cX6_count 48 = .ok (.aload_n 0, 1) := by decide +kernel
theorem dX6_count_49 : decode cX6_count 49 = .ok (.invokevirtual 303, 3) := by decide +kernel
theorem dX6_count_52 : decode cX6_count 52 = .ok (.ireturn, 1) := by decide +kernel
theorem dX6_count_53 : decode cX6_count 53 = .ok (.aload_n 0, 1) := by decide +kernel
theorem dX6_count_54 : decode cX6_count 54 = .ok (.getfield 25, 3) := by decide +kernel
theorem dX6_count_57 : decode cX6_count 57 = .ok (.getfield 135, 3) := by decide +kernel
theorem dX6_count_60 : decode cX6_count 60 = .ok (.ireturn, 1) := by decide +kernel
theorem dX6_count_61 : decode cX6_count 61 = .ok (.aload_n 0, 1) := by decide +kernel
theorem dX6_count_62 : decode cX6_count 62 = .ok (.getfield 25, 3) := by decide +kernel
theorem dX6_count_65 : decode cX6_count 65 = .ok (.getfield 306, 3) := by decide +kernel
theorem dX6_count_68 : decode cX6_count 68 = .ok (.ireturn, 1) := by decide +kernel
theorem dX6_count_69 : decode cX6_count 69 = .ok (.aload_n 0, 1) := by decide +kernel
theorem dX6_count_70 : decode cX6_count 70 = .ok (.getfield 25, 3) := by decide +kernel
theorem dX6_count_73 : decode cX6_count 73 = .ok (.getfield 148, 3) := by decide +kernel
theorem dX6_count_76 : decode cX6_count 76 = .ok (.ireturn, 1) := by decide +kernel
theorem dX6_count_77 : decode cX6_count 77 = .ok (.aload_n 0, 1) := by decide +kernel
theorem dX6_count_78 : decode cX6_count 78 = .ok (.getfield 25, 3) := by decide +kernel
theorem dX6_count_81 : decode cX6_count 81 = .ok (.getfield 157, 3) := by decide +kernel
theorem dX6_count_84 : decode cX6_count 84 = .ok (.ireturn, 1) := by decide +kernel
theorem dX6_count_85 : decode cX6_count 85 = .ok (.aload_n 0, 1) := by decide +kernel
theorem dX6_count_86 : decode cX6_count 86 = .ok (.getfield 25, 3) := by decide +kernel
theorem dX6_count_89 : decode cX6_count 89 = .ok (.getfield 185, 3) := by decide +kernel
theorem dX6_count_92 : decode cX6_count 92 = .ok (.invokestatic 256, 3) := by decide +kernel
theorem dX6_count_95 : decode cX6_count 95 = .ok (.ireturn, 1) := by decide +kernel
theorem dX6_count_96 : decode cX6_count 96 = .ok (.aload_n 0, 1) := by decide +kernel
theorem dX6_count_97 : decode cX6_count 97 = .ok (.getfield 32, 3) := by decide +kernel
theorem dX6_count_100 : decode cX6_count 100 = .ok (.getfield 138, 3) := by decide +kernel
theorem dX6_count_103 : decode cX6_count 103 = .ok (.ireturn, 1) := by decide +kernel
theorem dX6_count_104 : decode cX6_count 104 = .ok (.aload_n 0, 1) := by decide +kernel
theorem dX6_count_105 : decode cX6_count 105 = .ok (.getfield 18, 3) := by decide +kernel
theorem dX6_count_108 : decode cX6_count 108 = .ok (.getfield 104, 3) := by decide +kernel
theorem dX6_count_111 : decode cX6_count 111 = .ok (.ireturn, 1) := by decide +kernel
theorem dX6_count_112 : decode cX6_count 112 = .ok (.ldc 63, 2) := by decide +kernel
theorem dX6_count_114 : decode cX6_count 114 = .ok (.ireturn, 1) := by decide +kernel
theorem dX6_status_0 : decode cX6_status 0 = .ok (.aload_n 0, 1) := by decide +kernel
theorem dX6_status_1 : decode cX6_status 1 = .ok (.getfield 309, 3) := by decide +kernel
theorem dX6_status_4 : decode cX6_status 4 = .ok (.ireturn, 1) := by decide +kernel
theorem dX6_found_0 : decode cX6_found 0 = .ok (.aload_n 0, 1) := by decide +kernel
theorem dX6_found_1 : decode cX6_found 1 = .ok (.iload_n 1, 1) := by decide +kernel
theorem dX6_found_2 : decode cX6_found 2 = .ok (.putfield 309, 3) := by decide +kernel
theorem dX6_found_5 : decode cX6_found 5 = .ok (.ldc_w 312, 3) := by decide +kernel
theorem dX6_found_8 : decode cX6_found 8 = .ok (.iload_n 1, 1) := by decide +kernel
theorem dX6_found_9 : decode cX6_found 9 = .ok (.isub, 1) := by decide +kernel
theorem dX6_found_10 : decode cX6_found 10 = .ok (.ireturn, 1) := by decide +kernel
theorem dX6_well_0 : decode cX6_well 0 = .ok (.aload_n 0, 1) := by decide +kernel
theorem dX6_well_1 : decode cX6_well 1 = .ok (.iconst 0, 1) := by decide +kernel
theorem dX6_well_2 : decode cX6_well 2 = .ok (.putfield 309, 3) := by decide +kernel
theorem dX6_well_5 : decode cX6_well 5 = .ok (.iload_n 1, 1) := by decide +kernel
theorem dX6_well_6 : decode cX6_well 6 = .ok (.ireturn, 1) := by decide +kernel
theorem dX6_allThatFits_0 : decode cX6_allThatFits 0 = .ok (.aload_n 0, 1) := by decide +kernel
theorem dX6_allThatFits_1 : decode cX6_allThatFits 1 = .ok (.getfield 11, 3) := by decide +kernel
theorem dX6_allThatFits_4 : decode cX6_allThatFits 4 = .ok (.iload_n 3, 1) := by decide +kernel
theorem dX6_allThatFits_5 : decode cX6_allThatFits 5 = .ok (.aaload, 1) := by decide +kernel
theorem dX6_allThatFits_6 : decode cX6_allThatFits 6 = .ok (.astore 6, 2) := by decide +kernel
theorem dX6_allThatFits_8 : decode cX6_allThatFits 8 = .ok (.aload 6, 2) := by decide +kernel
theorem dX6_allThatFits_10 : decode cX6_allThatFits 10 = .ok (.getfield 75, 3) := by decide +kernel
theorem dX6_allThatFits_13 : decode cX6_allThatFits 13 = .ok (.ifCond .eq 9, 3) := by decide +kernel
theorem dX6_allThatFits_16 : decode cX6_allThatFits 16 = .ok (.aload_n 0, 1) := by decide +kernel
theorem dX6_allThatFits_17 : decode cX6_allThatFits 17 = .ok (.iconst 1, 1) := by decide +kernel
theorem dX6_allThatFits_18 : decode cX6_allThatFits 18 = .ok (.invokevirtual 64, 3) := by decide +kernel
theorem dX6_allThatFits_21 : decode cX6_allThatFits 21 = .ok (.ireturn, 1) := by decide +kernel
theorem dX6_allThatFits_22 : decode cX6_allThatFits 22 = .ok (.aload 6, 2) := by decide +kernel
theorem dX6_allThatFits_24 : decode cX6_allThatFits 24 = .ok (.iload 4, 2) := by decide +kernel
theorem dX6_allThatFits_26 : decode cX6_allThatFits 26 = .ok (.iload 5, 2) := by decide +kernel
theorem dX6_allThatFits_28 : decode cX6_allThatFits 28 = .ok (.invokevirtual 79, 3) := by decide +kernel
theorem dX6_allThatFits_31 : decode cX6_allThatFits 31 = .ok (.ifCond .ne 9, 3) := by decide +kernel
theorem dX6_allThatFits_34 : decode cX6_allThatFits 34 = .ok (.aload_n 0, 1) := by decide +kernel
theorem dX6_allThatFits_35 : decode cX6_allThatFits 35 = .ok (.iconst 2, 1) := by decide +kernel
theorem dX6_allThatFits_36 : decode cX6_allThatFits 36 = .ok (.invokevirtual 64, 3) := by decide +kernel
theorem dX6_allThatFits_39 : decode cX6_allThatFits 39 = .ok (.ireturn, 1) := by decide +kernel
theorem dX6_allThatFits_40 : decode cX6_allThatFits 40 = .ok (.aload_n 0, 1) := by decide +kernel
theorem dX6_allThatFits_41 : decode cX6_allThatFits 41 = .ok (.getfield 43, 3) := by decide +kernel
theorem dX6_allThatFits_44 : decode cX6_allThatFits 44 = .ok (.aload 6, 2) := by decide +kernel
theorem dX6_allThatFits_46 : decode cX6_allThatFits 46 = .ok (.iload 4, 2) := by decide +kernel
theorem dX6_allThatFits_48 : decode cX6_allThatFits 48 = .ok (.iload 5, 2) := by decide +kernel
theorem dX6_allThatFits_50 : decode cX6_allThatFits 50 = .ok (.invokevirtual 313, 3) := by decide +kernel
theorem dX6_allThatFits_53 : decode cX6_allThatFits 53 = .ok (.aload_n 0, 1) := by decide +kernel
theorem dX6_allThatFits_54 : decode cX6_allThatFits 54 = .ok (.aload_n 0, 1) := by decide +kernel
theorem dX6_allThatFits_55 : decode cX6_allThatFits 55 = .ok (.getfield 43, 3) := by decide +kernel
theorem dX6_allThatFits_58 : decode cX6_allThatFits 58 = .ok (.aload_n 0, 1) := by decide +kernel
theorem dX6_allThatFits_59 : decode cX6_allThatFits 59 = .ok (.getfield 25, 3) := by decide +kernel
theorem dX6_allThatFits_62 : decode cX6_allThatFits 62 = .ok (.iload_n 1, 1) := by decide +kernel
theorem dX6_allThatFits_63 : decode cX6_allThatFits 63 = .ok (.iload_n 2, 1) := by decide +kernel
theorem dX6_allThatFits_64 : decode cX6_allThatFits 64 = .ok (.invokevirtual 317, 3) := by decide +kernel
theorem dX6_allThatFits_67 : decode cX6_allThatFits 67 = .ok (.invokevirtual 72, 3) := by decide +kernel
theorem dX6_allThatFits_70 : decode cX6_allThatFits 70 = .ok (.ireturn, 1) := by decide +kernel
theorem dX6_rowsThere_0 : decode cX6_rowsThere 0 = .ok (.iconst 0, 1) := by decide +kernel
theorem dX6_rowsThere_1 : decode cX6_rowsThere 1 = .ok (.istore_n 1, 1) := by decide +kernel
theorem dX6_rowsThere_2 : decode cX6_rowsThere 2 = .ok (.iconst 0, 1) := by decide +kernel
theorem dX6_rowsThere_3 : decode cX6_rowsThere 3 = .ok (.istore_n 2, 1) := by decide +kernel
theorem dX6_rowsThere_4 : decode cX6_rowsThere 4 = .ok (.iload_n 2, 1) := by decide +kernel
theorem dX6_rowsThere_5 : decode cX6_rowsThere 5 = .ok (.bipush 8, 2) := by decide +kernel
theorem dX6_rowsThere_7 : decode cX6_rowsThere 7 = .ok (.if_icmp .ge 29, 3) := by decide +kernel
theorem dX6_rowsThere_10 : decode cX6_rowsThere 10 = .ok (.iload_n 1, 1) := by decide +kernel
theorem dX6_rowsThere_11 : decode cX6_rowsThere 11 = .ok (.aload_n 0, 1) := by decide +kernel
theorem dX6_rowsThere_12 : decode cX6_rowsThere 12 = .ok (.getfield 11, 3) := by decide +kernel
theorem dX6_rowsThere_15 : decode cX6_rowsThere 15 = .ok (.iload_n 2, 1) := by decide +kernel
theorem dX6_rowsThere_16 : decode cX6_rowsThere 16 = .ok (.aaload, 1) := by decide +kernel
theorem dX6_rowsThere_17 : decode cX6_rowsThere 17 = .ok (.getfield 75, 3) := by decide +kernel
theorem dX6_rowsThere_20 : decode cX6_rowsThere 20 = .ok (.ifCond .eq 7, 3) := by decide +kernel
theorem dX6_rowsThere_23 : decode cX6_rowsThere 23 = .ok (.iconst 0, 1) := by decide +kernel
theorem dX6_rowsThere_24 : decode cX6_rowsThere 24 = .ok (.goto 4, 3) := by decide +kernel
theorem dX6_rowsThere_27 : decode cX6_rowsThere 27 = .ok (.iconst 1, 1) := by decide +kernel
theorem dX6_rowsThere_28 : decode cX6_rowsThere 28 = .ok (.iadd, 1) := by decide +kernel
theorem dX6_rowsThere_29 : decode cX6_rowsThere 29 = .ok (.istore_n 1, 1) := by decide +kernel
theorem dX6_rowsThere_30 : decode cX6_rowsThere 30 = .ok (.iinc 2 1, 3) := by decide +kernel
theorem dX6_rowsThere_33 : decode cX6_rowsThere 33 = .ok (.goto (-29), 3) := by decide +kernel
theorem dX6_rowsThere_36 : decode cX6_rowsThere 36 = .ok (.iload_n 1, 1) := by decide +kernel
theorem dX6_rowsThere_37 : decode cX6_rowsThere 37 = .ok (.ireturn, 1) := by decide +kernel
theorem dX6_isRow_0 : decode cX6_isRow 0 = .ok (.iload_n 0, 1) := by decide +kernel
theorem dX6_isRow_1 : decode cX6_isRow 1 = .ok (.iconst 0, 1) := by decide +kernel
theorem dX6_isRow_2 : decode cX6_isRow 2 = .ok (.bipush 7, 2) := by decide +kernel
theorem dX6_isRow_4 : decode cX6_isRow 4 = .ok (.invokestatic 59, 3) := by decide +kernel
theorem dX6_isRow_7 : decode cX6_isRow 7 = .ok (.ireturn, 1) := by decide +kernel
theorem dX6_isFar_0 : decode cX6_isFar 0 = .ok (.iload_n 0, 1) := by decide +kernel
theorem dX6_isFar_1 : decode cX6_isFar 1 = .ok (.iconst 0, 1) := by decide +kernel
theorem dX6_isFar_2 : decode cX6_isFar 2 = .ok (.bipush 60, 2) := by decide +kernel
theorem dX6_isFar_4 : decode cX6_isFar 4 = .ok (.invokestatic 59, 3) := by decide +kernel
theorem dX6_isFar_7 : decode cX6_isFar 7 = .ok (.ireturn, 1) := by decide +kernel
theorem dX6_isWithin_0 : decode cX6_isWithin 0 = .ok (.iload_n 0, 1) := by decide +kernel
theorem dX6_isWithin_1 : decode cX6_isWithin 1 = .ok (.iload_n 1, 1) := by decide +kernel
theorem dX6_isWithin_2 : decode cX6_isWithin 2 = .ok (.if_icmp .lt 12, 3) := by decide +kernel
theorem dX6_isWithin_5 : decode cX6_isWithin 5 = .ok (.iload_n 0, 1) := by decide +kernel
theorem dX6_isWithin_6 : decode cX6_isWithin 6 = .ok (.iload_n 2, 1) := by decide +kernel
theorem dX6_isWithin_7 : decode cX6_isWithin 7 = .ok (.if_icmp .gt 7, 3) := by decide +kernel
theorem dX6_isWithin_10 : decode cX6_isWithin 10 = .ok (.iconst 1, 1) := by decide +kernel
theorem dX6_isWithin_11 : decode cX6_isWithin 11 = .ok (.goto 4, 3) := by decide +kernel
theorem dX6_isWithin_14 : decode cX6_isWithin 14 = .ok (.iconst 0, 1) := by decide +kernel
theorem dX6_isWithin_15 : decode cX6_isWithin 15 = .ok (.ireturn, 1) := by decide +kernel
theorem dX6_isA_0 : decode cX6_isA 0 = .ok (.iload_n 1, 1) := by decide +kernel
theorem dX6_isA_1 : decode cX6_isA 1 = .ok (.iload_n 0, 1) := by decide +kernel
theorem dX6_isA_2 : decode cX6_isA 2 = .ok (.if_icmp .eq 15, 3) := by decide +kernel
theorem dX6_isA_5 : decode cX6_isA 5 = .ok (.iload_n 1, 1) := by decide +kernel
theorem dX6_isA_6 : decode cX6_isA 6 = .ok (.iload_n 0, 1) := by decide +kernel
theorem dX6_isA_7 : decode cX6_isA 7 = .ok (.invokestatic 320, 3) := by decide +kernel
theorem dX6_isA_10 : decode cX6_isA 10 = .ok (.if_icmp .eq 7, 3) := by decide +kernel
theorem dX6_isA_13 : decode cX6_isA 13 = .ok (.iload_n 1, 1) := by decide +kernel
theorem dX6_isA_14 : decode cX6_isA 14 = .ok (.ifCond .ne 7, 3) := by decide +kernel
theorem dX6_isA_17 : decode cX6_isA 17 = .ok (.iconst 1, 1) := by decide +kernel
theorem dX6_isA_18 : decode cX6_isA 18 = .ok (.goto 4, 3) := by decide +kernel
theorem dX6_isA_21 : decode cX6_isA 21 = .ok (.iconst 0, 1) := by decide +kernel
theorem dX6_isA_22 : decode cX6_isA 22 = .ok (.ireturn, 1) := by decide +kernel
theorem dX6_widerKind_0 : decode cX6_widerKind 0 = .ok (.iload_n 0, 1) := by decide +kernel
theorem dX6_widerKind_1 : decode cX6_widerKind 1 = .ok (.tableswitch 35 2 5 #[31, 31, 35, 33], 31) := by decide +kernel
theorem dX6_widerKind_32 : decode cX6_widerKind 32 = .ok (.iconst 1, 1) := by decide +kernel
theorem dX6_widerKind_33 : decode cX6_widerKind 33 = .ok (.ireturn, 1) := by decide +kernel
theorem dX6_widerKind_34 : decode cX6_widerKind 34 = .ok (.iconst 4, 1) := by decide +kernel
theorem dX6_widerKind_35 : decode cX6_widerKind 35 = .ok (.ireturn, 1) := by decide +kernel
theorem dX6_widerKind_36 : decode cX6_widerKind 36 = .ok (.iconst 0, 1) := by decide +kernel
theorem dX6_widerKind_37 : decode cX6_widerKind 37 = .ok (.ireturn, 1) := by decide +kernel
theorem dX6_commonDivisor_0 : decode cX6_commonDivisor 0 = .ok (.iconst 1, 1) := by decide +kernel
theorem dX6_commonDivisor_1 : decode cX6_commonDivisor 1 = .ok (.istore_n 2, 1) := by decide +kernel
theorem dX6_commonDivisor_2 : decode cX6_commonDivisor 2 = .ok (.iconst 2, 1) := by decide +kernel
theorem dX6_commonDivisor_3 : decode cX6_commonDivisor 3 = .ok (.istore_n 3, 1) := by decide +kernel
theorem dX6_commonDivisor_4 : decode cX6_commonDivisor 4 = .ok (.iload_n 3, 1) := by decide +kernel
theorem dX6_commonDivisor_5 : decode cX6_commonDivisor 5 = .ok (.iload_n 1, 1) := by decide +kernel
theorem dX6_commonDivisor_6 : decode cX6_commonDivisor 6 = .ok (.if_icmp .gt 23, 3) := by decide +kernel
theorem dX6_commonDivisor_9 : decode cX6_commonDivisor 9 = .ok (.iload_n 0, 1) := by decide +kernel
theorem dX6_commonDivisor_10 : decode cX6_commonDivisor 10 = .ok (.iload_n 3, 1) := by decide +kernel
theorem dX6_commonDivisor_11 : decode cX6_commonDivisor 11 = .ok (.irem, 1) := by decide +kernel
theorem dX6_commonDivisor_12 : decode cX6_commonDivisor 12 = .ok (.ifCond .ne 11, 3) := by decide +kernel
theorem dX6_commonDivisor_15 : decode cX6_commonDivisor 15 = .ok (.iload_n 1, 1) := by decide +kernel
theorem dX6_commonDivisor_16 : decode cX6_commonDivisor 16 = .ok (.iload_n 3, 1) := by decide +kernel
theorem dX6_commonDivisor_17 : decode cX6_commonDivisor 17 = .ok (.irem, 1) := by decide +kernel
theorem dX6_commonDivisor_18 : decode cX6_commonDivisor 18 = .ok (.ifCond .ne 5, 3) := by decide +kernel
theorem dX6_commonDivisor_21 : decode cX6_commonDivisor 21 = .ok (.iload_n 3, 1) := by decide +kernel
theorem dX6_commonDivisor_22 : decode cX6_commonDivisor 22 = .ok (.istore_n 2, 1) := by decide +kernel
theorem dX6_commonDivisor_23 : decode cX6_commonDivisor 23 = .ok (.iinc 3 1, 3) := by decide +kernel
theorem dX6_commonDivisor_26 : decode cX6_commonDivisor 26 = .ok (.goto (-22), 3) := by decide +kernel
theorem dX6_commonDivisor_29 : decode cX6_commonDivisor 29 = .ok (.iload_n 2, 1) := by decide +kernel
theorem dX6_commonDivisor_30 : decode cX6_commonDivisor 30 = .ok (.ireturn, 1) := by decide +kernel
theorem dX6_power_0 : decode cX6_power 0 = .ok (.lconst 1, 1) := by decide +kernel
theorem dX6_power_1 : decode cX6_power 1 = .ok (.lstore_n 2, 1) := by decide +kernel
theorem dX6_power_2 : decode cX6_power 2 = .ok (.iconst 0, 1) := by decide +kernel
theorem dX6_power_3 : decode cX6_power 3 = .ok (.istore 4, 2) := by decide +kernel
theorem dX6_power_5 : decode cX6_power 5 = .ok (.iload 4, 2) := by decide +kernel
theorem dX6_power_7 : decode cX6_power 7 = .ok (.iload_n 1, 1) := by decide +kernel
theorem dX6_power_8 : decode cX6_power 8 = .ok (.if_icmp .ge 14, 3) := by decide +kernel
theorem dX6_power_11 : decode cX6_power 11 = .ok (.lload_n 2, 1) := by decide +kernel
theorem dX6_power_12 : decode cX6_power 12 = .ok (.iload_n 0, 1) := by decide +kernel
theorem dX6_power_13 : decode cX6_power 13 = .ok (.i2l, 1) := by decide +kernel
theorem dX6_power_14 : decode cX6_power 14 = .ok (.lmul, 1) := by decide +kernel
theorem dX6_power_15 : decode cX6_power 15 = .ok (.lstore_n 2, 1) := by decide +kernel
theorem dX6_power_16 : decode cX6_power 16 = .ok (.iinc 4 1, 3) := by decide +kernel
theorem dX6_power_19 : decode cX6_power 19 = .ok (.goto (-14), 3) := by decide +kernel
theorem dX6_power_22 : decode cX6_power 22 = .ok (.lload_n 2, 1) := by decide +kernel
theorem dX6_power_23 : decode cX6_power 23 = .ok (.lreturn, 1) := by decide +kernel
theorem dX7_init_0 : decode cX7_init 0 = .ok (.aload_n 0, 1) := by decide +kernel
theorem dX7_init_1 : decode cX7_init 1 = .ok (.invokespecial 1, 3) := by decide +kernel
theorem dX7_init_4 : decode cX7_init 4 = .ok (.aload_n 0, 1) := by decide +kernel
theorem dX7_init_5 : decode cX7_init 5 = .ok (.bipush 8, 2) := by decide +kernel
theorem dX7_init_7 : decode cX7_init 7 = .ok (.newarray .int, 2) := by decide +kernel
theorem dX7_init_9 : decode cX7_init 9 = .ok (.dup, 1) := by decide +kernel
theorem dX7_init_10 : decode cX7_init 10 = .ok (.iconst 0, 1) := by decide +kernel
theorem dX7_init_11 : decode cX7_init 11 = .ok (.iconst (-1), 1) := by decide +kernel
theorem dX7_init_12 : decode cX7_init 12 = .ok (.iastore, 1) := by decide +kernel
theorem dX7_init_13 : decode cX7_init 13 = .ok (.dup, 1) := by decide +kernel
theorem dX7_init_14 : decode cX7_init 14 = .ok (.iconst 1, 1) := by decide +kernel
theorem dX7_init_15 : decode cX7_init 15 = .ok (.iconst (-1), 1) := by decide +kernel
theorem dX7_init_16 : decode cX7_init 16 = .ok (.iastore, 1) := by decide +kernel
theorem dX7_init_17 : decode cX7_init 17 = .ok (.dup, 1) := by decide +kernel
theorem dX7_init_18 : decode cX7_init 18 = .ok (.iconst 2, 1) := by decide +kernel
theorem dX7_init_19 : decode cX7_init 19 = .ok (.iconst (-1), 1) := by decide +kernel
theorem dX7_init_20 : decode cX7_init 20 = .ok (.iastore, 1) := by decide +kernel
theorem dX7_init_21 : decode cX7_init 21 = .ok (.dup, 1) := by decide +kernel
theorem dX7_init_22 : decode cX7_init 22 = .ok (.iconst 3, 1) := by decide +kernel
theorem dX7_init_23 : decode cX7_init 23 = .ok (.iconst (-1), 1) := by decide +kernel
theorem dX7_init_24 : decode cX7_init 24 = .ok (.iastore, 1) := by decide +kernel
theorem dX7_init_25 : decode cX7_init 25 = .ok (.dup, 1) := by decide +kernel
theorem dX7_init_26 : decode cX7_init 26 = .ok (.iconst 4, 1) := by decide +kernel
theorem dX7_init_27 : decode cX7_init 27 = .ok (.iconst (-1), 1) := by decide +kernel
theorem dX7_init_28 : decode cX7_init 28 = .ok (.iastore, 1) := by decide +kernel
theorem dX7_init_29 : decode cX7_init 29 = .ok (.dup, 1) := by decide +kernel
theorem dX7_init_30 : decode cX7_init 30 = .ok (.iconst 5, 1) := by decide +kernel
theorem dX7_init_31 : decode cX7_init 31 = .ok (.iconst (-1), 1) := by decide +kernel
theorem dX7_init_32 : decode cX7_init 32 = .ok (.iastore, 1) := by decide +kernel
theorem dX7_init_33 : decode cX7_init 33 = .ok (.dup, 1) := by decide +kernel
theorem dX7_init_34 : decode cX7_init 34 = .ok (.bipush 6, 2) := by decide +kernel
theorem dX7_init_36 : decode cX7_init 36 = .ok (.iconst (-1), 1) := by decide +kernel
theorem dX7_init_37 : decode cX7_init 37 = .ok (.iastore, 1) := by decide +kernel
theorem dX7_init_38 : decode cX7_init 38 = .ok (.dup, 1) := by decide +kernel
theorem dX7_init_39 : decode cX7_init 39 = .ok (.bipush 7, 2) := by decide +kernel
theorem dX7_init_41 : decode cX7_init 41 = .ok (.iconst (-1), 1) := by decide +kernel
theorem dX7_init_42 : decode cX7_init 42 = .ok (.iastore, 1) := by decide +kernel
theorem dX7_init_43 : decode cX7_init 43 = .ok (.putfield 7, 3) := by decide +kernel
theorem dX7_init_46 : decode cX7_init 46 = .ok (.aload_n 0, 1) := by decide +kernel
theorem dX7_init_47 : decode cX7_init 47 = .ok (.bipush 8, 2) := by decide +kernel
theorem dX7_init_49 : decode cX7_init 49 = .ok (.newarray .int, 2) := by decide +kernel
theorem dX7_init_51 : decode cX7_init 51 = .ok (.putfield 13, 3) := by decide +kernel
theorem dX7_init_54 : decode cX7_init 54 = .ok (.aload_n 0, 1) := by decide +kernel
theorem dX7_init_55 : decode cX7_init 55 = .ok (.sipush 320, 3) := by decide +kernel
theorem dX7_init_58 : decode cX7_init 58 = .ok (.newarray .int, 2) := by decide +kernel
theorem dX7_init_60 : decode cX7_init 60 = .ok (.putfield 16, 3) := by decide +kernel
theorem dX7_init_63 : decode cX7_init 63 = .ok (.aload_n 0, 1) := by decide +kernel
theorem dX7_init_64 : decode cX7_init 64 = .ok (.bipush 50, 2) := by decide +kernel
theorem dX7_init_66 : decode cX7_init 66 = .ok (.newarray .int, 2) := by decide +kernel
theorem dX7_init_68 : decode cX7_init 68 = .ok (.putfield 19, 3) := by decide +kernel
theorem dX7_init_71 : decode cX7_init 71 = .ok (.aload_n 0, 1) := by decide +kernel
theorem dX7_init_72 : decode cX7_init 72 = .ok (.bipush 50, 2) := by decide +kernel
theorem dX7_init_74 : decode cX7_init 74 = .ok (.newarray .int, 2) := by decide +kernel
theorem dX7_init_76 : decode cX7_init 76 = .ok (.putfield 22, 3) := by decide +kernel
theorem dX7_init_79 : decode cX7_init 79 = .ok (.aload_n 0, 1) := by decide +kernel
theorem dX7_init_80 : decode cX7_init 80 = .ok (.bipush 50, 2) := by decide +kernel
theorem dX7_init_82 : decode cX7_init 82 = .ok (.newarray .int, 2) := by decide +kernel
theorem dX7_init_84 : decode cX7_init 84 = .ok (.putfield 25, 3) := by decide +kernel
theorem dX7_init_87 : decode cX7_init 87 = .ok (.aload_n 0, 1) := by decide +kernel
theorem dX7_init_88 : decode cX7_init 88 = .ok (.sipush 1200, 3) := by decide +kernel
theorem dX7_init_91 : decode cX7_init 91 = .ok (.newarray .int, 2) := by decide +kernel
theorem dX7_init_93 : decode cX7_init 93 = .ok (.putfield 28, 3) := by decide +kernel
theorem dX7_init_96 : decode cX7_init 96 = .ok (.aload_n 0, 1) := by decide +kernel
theorem dX7_init_97 : decode cX7_init 97 = .ok (.bipush 120, 2) := by decide +kernel
theorem dX7_init_99 : decode cX7_init 99 = .ok (.newarray .int, 2) := by decide +kernel
theorem dX7_init_101 : decode cX7_init 101 = .ok (.putfield 31, 3) := by decide +kernel
theorem dX7_init_104 : decode cX7_init 104 = .ok (.aload_n 0, 1) := by decide +kernel
theorem dX7_init_105 : decode cX7_init 105 = .ok (.bipush 96, 2) := by decide +kernel
theorem dX7_init_107 : decode cX7_init 107 = .ok (.newarray .int, 2) := by decide +kernel
theorem dX7_init_109 : decode cX7_init 109 = .ok (.putfield 34, 3) := by decide +kernel
theorem dX7_init_112 : decode cX7_init 112 = .ok (.aload_n 0, 1) := by decide +kernel
theorem dX7_init_113 : decode cX7_init 113 = .ok (.iconst 2, 1) := by decide +kernel
theorem dX7_init_114 : decode cX7_init 114 = .ok (.newarray .boolean, 2) := by decide +kernel
theorem dX7_init_116 : decode cX7_init 116 = .ok (.putfield 37, 3) := by decide +kernel
theorem dX7_init_119 : decode cX7_init 119 = .ok (.aload_n 0, 1) := by decide +kernel
theorem dX7_init_120 : decode cX7_init 120 = .ok (.bipush 100, 2) := by decide +kernel
theorem dX7_init_122 : decode cX7_init 122 = .ok (.newarray .int, 2) := by decide +kernel
theorem dX7_init_124 : decode cX7_init 124 = .ok (.putfield 41, 3) := by decide +kernel
theorem dX7_init_127 : decode cX7_init 127 = .ok (.aload_n 0, 1) := by decide +kernel
theorem dX7_init_128 : decode cX7_init 128 = .ok (.bipush 16, 2) := by decide +kernel
theorem dX7_init_130 : decode cX7_init 130 = .ok (.newarray .int, 2) := by decide +kernel
theorem dX7_init_132 : decode cX7_init 132 = .ok (.putfield 44, 3) := by decide +kernel
theorem dX7_init_135 : decode cX7_init 135 = .ok (.return_, 1) := by decide +kernel
theorem dX7_in_0 : decode cX7_in 0 = .ok (.lload_n 0, 1) := by decide +kernel
theorem dX7_in_1 : decode cX7_in 1 = .ok (.lload_n 2, 1) := by decide +kernel
theorem dX7_in_2 : decode cX7_in 2 = .ok (.lcmp, 1) := by decide +kernel
theorem dX7_in_3 : decode cX7_in 3 = .ok (.ifCond .lt 14, 3) := by decide +kernel
theorem dX7_in_6 : decode cX7_in 6 = .ok (.lload_n 0, 1) := by decide +kernel
theorem dX7_in_7 : decode cX7_in 7 = .ok (.lload 4, 2) := by decide +kernel
theorem dX7_in_9 : decode cX7_in 9 = .ok (.lcmp, 1) := by decide +kernel
theorem dX7_in_10 : decode cX7_in 10 = .ok (.ifCond .gt 7, 3) := by decide +kernel
theorem dX7_in_13 : decode cX7_in 13 = .ok (.iconst 1, 1) := by decide +kernel
theorem dX7_in_14 : decode cX7_in 14 = .ok (.goto 4, 3) := by decide +kernel
theorem dX7_in_17 : decode cX7_in 17 = .ok (.iconst 0, 1) := by decide +kernel
theorem dX7_in_18 : decode cX7_in 18 = .ok (.ireturn, 1) := by decide +kernel
theorem dX7_finding_0 : decode cX7_finding 0 = .ok (.aload_n 0, 1) := by decide +kernel
theorem dX7_finding_1 : decode cX7_finding 1 = .ok (.iload_n 1, 1) := by decide +kernel
theorem dX7_finding_2 : decode cX7_finding 2 = .ok (.putfield 51, 3) := by decide +kernel
theorem dX7_finding_5 : decode cX7_finding 5 = .ok (.ldc 54, 2) := by decide +kernel
theorem dX7_finding_7 : decode cX7_finding 7 = .ok (.iload_n 1, 1) := by decide +kernel
theorem dX7_finding_8 : decode cX7_finding 8 = .ok (.isub, 1) := by decide +kernel
theorem dX7_finding_9 : decode cX7_finding 9 = .ok (.ireturn, 1) := by decide +kernel
theorem dX7_isRow_0 : decode cX7_isRow 0 = .ok (.iload_n 0, 1) := by decide +kernel
theorem dX7_isRow_1 : decode cX7_isRow 1 = .ok (.i2l, 1) := by decide +kernel
theorem dX7_isRow_2 : decode cX7_isRow 2 = .ok (.lconst 0, 1) := by decide +kernel
theorem dX7_isRow_3 : decode cX7_isRow 3 = .ok (.ldc2_w 55, 3) := by decide +kernel
theorem dX7_isRow_6 : decode cX7_isRow 6 = .ok (.invokestatic 57, 3) := by decide +kernel
theorem dX7_isRow_9 : decode cX7_isRow 9 = .ok (.ireturn, 1) := by decide +kernel
theorem dX7_row_0 : decode cX7_row 0 = .ok (.aload_n 0, 1) := by decide +kernel
theorem dX7_row_1 : decode cX7_row 1 = .ok (.iconst 0, 1) := by decide +kernel
theorem dX7_row_2 : decode cX7_row 2 = .ok (.putfield 47, 3) := by decide +kernel
theorem dX7_row_5 : decode cX7_row 5 = .ok (.iload_n 1, 1) := by decide +kernel
theorem dX7_row_6 : decode cX7_row 6 = .ok (.invokestatic 61, 3) := by decide +kernel
theorem dX7_row_9 : decode cX7_row 9 = .ok (.ifCond .eq 21, 3) := by decide +kernel
theorem dX7_row_12 : decode cX7_row 12 = .ok (.iload_n 2, 1) := by decide +kernel
theorem dX7_row_13 : decode cX7_row 13 = .ok (.i2l, 1) := by decide +kernel
theorem dX7_row_14 : decode cX7_row 14 = .ok (.lconst 0, 1) := by decide +kernel
theorem dX7_row_15 : decode cX7_row 15 = .ok (.ldc2_w 65, 3) := by decide +kernel
theorem dX7_row_18 : decode cX7_row 18 = .ok (.invokestatic 57, 3) := by decide +kernel
theorem dX7_row_21 : decode cX7_row 21 = .ok (.ifCond .eq 9, 3) := by decide +kernel
theorem dX7_row_24 : decode cX7_row 24 = .ok (.iload_n 3, 1) := by decide +kernel
theorem dX7_row_25 : decode cX7_row 25 = .ok (.bipush 40, 2) := by decide +kernel
theorem dX7_row_27 : decode cX7_row 27 = .ok (.if_icmp .le 6, 3) := by decide +kernel
theorem dX7_row_30 : decode cX7_row 30 = .ok (.ldc 67, 2) := by decide +kernel
theorem dX7_row_32 : decode cX7_row 32 = .ok (.ireturn, 1) := by decide +kernel
theorem dX7_row_33 : decode cX7_row 33 = .ok (.aload_n 0, 1) := by decide +kernel
theorem dX7_row_34 : decode cX7_row 34 = .ok (.iconst 0, 1) := by decide +kernel
theorem dX7_row_35 : decode cX7_row 35 = .ok (.putfield 51, 3) := by decide +kernel
theorem dX7_row_38 : decode cX7_row 38 = .ok (.iload_n 3, 1) := by decide +kernel
theorem dX7_row_39 : decode cX7_row 39 = .ok (.ifCond .ge 9, 3) := by decide +kernel
theorem dX7_row_42 : decode cX7_row 42 = .ok (.aload_n 0, 1) := by decide +kernel
theorem dX7_row_43 : decode cX7_row 43 = .ok (.iconst 4, 1) := by decide +kernel
theorem dX7_row_44 : decode cX7_row 44 = .ok (.invokevirtual 68, 3) := by decide +kernel
theorem dX7_row_47 : decode cX7_row 47 = .ok (.ireturn, 1) := by decide +kernel
theorem dX7_row_48 : decode cX7_row 48 = .ok (.aload_n 0, 1) := by decide +kernel
theorem dX7_row_49 : decode cX7_row 49 = .ok (.getfield 7, 3) := by decide +kernel
theorem dX7_row_52 : decode cX7_row 52 = .ok (.iload_n 1, 1) := by decide +kernel
theorem dX7_row_53 : decode cX7_row 53 = .ok (.iload_n 2, 1) := by decide +kernel
theorem dX7_row_54 : decode cX7_row 54 = .ok (.iastore, 1) := by decide +kernel
theorem dX7_row_55 : decode cX7_row 55 = .ok (.aload_n 0, 1) := by decide +kernel
theorem dX7_row_56 : decode cX7_row 56 = .ok (.getfield 13, 3) := by decide +kernel
theorem dX7_row_59 : decode cX7_row 59 = .ok (.iload_n 1, 1) := by decide +kernel
theorem dX7_row_60 : decode cX7_row 60 = .ok (.iload_n 3, 1) := by decide +kernel
theorem dX7_row_61 : decode cX7_row 61 = .ok (.iastore, 1) := by decide +kernel
theorem dX7_row_62 : decode cX7_row 62 = .ok (.iconst 0, 1) := by decide +kernel
theorem dX7_row_63 : decode cX7_row 63 = .ok (.istore 4, 2) := by decide +kernel
theorem dX7_row_65 : decode cX7_row 65 = .ok (.iload 4, 2) := by decide +kernel
theorem dX7_row_67 : decode cX7_row 67 = .ok (.bipush 40, 2) := by decide +kernel
theorem dX7_row_69 : decode cX7_row 69 = .ok (.if_icmp .ge 22, 3) := by decide +kernel
theorem dX7_row_72 : decode cX7_row 72 = .ok (.aload_n 0, 1) := by decide +kernel
theorem dX7_row_73 : decode cX7_row 73 = .ok (.getfield 16, 3) := by decide +kernel
theorem dX7_row_76 : decode cX7_row 76 = .ok (.bipush 40, 2) := by decide +kernel
theorem dX7_row_78 : decode cX7_row 78 = .ok (.iload_n 1, 1) := by decide +kernel
theorem dX7_row_79 : decode cX7_row 79 = .ok (.imul, 1) := by decide +kernel
theorem dX7_row_80 : decode cX7_row 80 = .ok (.iload 4, 2) := by decide +kernel
theorem dX7_row_82 : decode cX7_row 82 = .ok (.iadd, 1) := by decide +kernel
theorem dX7_row_83 : decode cX7_row 83 = .ok (.iconst 0, 1) := by decide +kernel
theorem dX7_row_84 : decode cX7_row 84 = .ok (.iastore, 1) := by decide +kernel
theorem dX7_row_85 : decode cX7_row 85 = .ok (.iinc 4 1, 3) := by decide +kernel
theorem dX7_row_88 : decode cX7_row 88 = .ok (.goto (-23), 3) := by decide +kernel
theorem dX7_row_91 : decode cX7_row 91 = .ok (.iload_n 3, 1) := by decide +kernel
theorem dX7_row_92 : decode cX7_row 92 = .ok (.ireturn, 1) := by decide +kernel
theorem dX7_set_0 : decode cX7_set 0 = .ok (.aload_n 0, 1) := by decide +kernel
theorem dX7_set_1 : decode cX7_set 1 = .ok (.iconst 0, 1) := by decide +kernel
theorem dX7_set_2 : decode cX7_set 2 = .ok (.putfield 47, 3) := by decide +kernel
theorem dX7_set_5 : decode cX7_set 5 = .ok (.iload_n 1, 1) := by decide +kernel
theorem dX7_set_6 : decode cX7_set 6 = .ok (.invokestatic 61, 3) := by decide +kernel
theorem dX7_set_9 : decode cX7_set 9 = .ok (.ifCond .ne 6, 3) := by decide +kernel
theorem dX7_set_12 : decode cX7_set 12 = .ok (.ldc 67, 2) := by decide +kernel
theorem dX7_set_14 : decode cX7_set 14 = .ok (.ireturn, 1) := by decide +kernel
theorem dX7_set_15 : decode cX7_set 15 = .ok (.aload_n 0, 1) := by decide +kernel
theorem dX7_set_16 : decode cX7_set 16 = .ok (.iconst 0, 1) := by decide +kernel
theorem dX7_set_17 : decode cX7_set 17 = .ok (.putfield 51, 3) := by decide +kernel
theorem dX7_set_20 : decode cX7_set 20 = .ok (.aload_n 0, 1) := by decide +kernel
theorem dX7_set_21 : decode cX7_set 21 = .ok (.getfield 7, 3) := by decide +kernel
theorem dX7_set_24 : decode cX7_set 24 = .ok (.iload_n 1, 1) := by decide +kernel
theorem dX7_set_25 : decode cX7_set 25 = .ok (.iaload, 1) := by decide +kernel
theorem dX7_set_26 : decode cX7_set 26 = .ok (.ifCond .ge 9, 3) := by decide +kernel
theorem dX7_set_29 : decode cX7_set 29 = .ok (.aload_n 0, 1) := by decide +kernel
theorem dX7_set_30 : decode cX7_set 30 = .ok (.iconst 1, 1) := by decide +kernel
theorem dX7_set_31 : decode cX7_set 31 = .ok (.invokevirtual 68, 3) := by decide +kernel
theorem dX7_set_34 : decode cX7_set 34 = .ok (.ireturn, 1) := by decide +kernel
theorem dX7_set_35 : decode cX7_set 35 = .ok (.iload_n 2, 1) := by decide +kernel
theorem dX7_set_36 : decode cX7_set 36 = .ok (.i2l, 1) := by decide +kernel
theorem dX7_set_37 : decode cX7_set 37 = .ok (.lconst 0, 1) := by decide +kernel
theorem dX7_set_38 : decode cX7_set 38 = .ok (.aload_n 0, 1) := by decide +kernel
theorem dX7_set_39 : decode cX7_set 39 = .ok (.getfield 13, 3) := by decide +kernel
theorem dX7_set_42 : decode cX7_set 42 = .ok (.iload_n 1, 1) := by decide +kernel
theorem dX7_set_43 : decode cX7_set 43 = .ok (.iaload, 1) := by decide +kernel
theorem dX7_set_44 : decode cX7_set 44 = .ok (.iconst 1, 1) := by decide +kernel
theorem dX7_set_45 : decode cX7_set 45 = .ok (.isub, 1) := by decide +kernel
theorem dX7_set_46 : decode cX7_set 46 = .ok (.i2l, 1) := by decide +kernel
theorem dX7_set_47 : decode cX7_set 47 = .ok (.invokestatic 57, 3) := by decide +kernel
theorem dX7_set_50 : decode cX7_set 50 = .ok (.ifCond .ne 9, 3) := by decide +kernel
theorem dX7_set_53 : decode cX7_set 53 = .ok (.aload_n 0, 1) := by decide +kernel
theorem dX7_set_54 : decode cX7_set 54 = .ok (.iconst 2, 1) := by decide +kernel
theorem dX7_set_55 : decode cX7_set 55 = .ok (.invokevirtual 68, 3) := by decide +kernel
theorem dX7_set_58 : decode cX7_set 58 = .ok (.ireturn, 1) := by decide +kernel
theorem dX7_set_59 : decode cX7_set 59 = .ok (.aload_n 0, 1) := by decide +kernel
theorem dX7_set_60 : decode cX7_set 60 = .ok (.getfield 16, 3) := by decide +kernel
theorem dX7_set_63 : decode cX7_set 63 = .ok (.bipush 40, 2) := by decide +kernel
theorem dX7_set_65 : decode cX7_set 65 = .ok (.iload_n 1, 1) := by decide +kernel
theorem dX7_set_66 : decode cX7_set 66 = .ok (.imul, 1) := by decide +kernel
theorem dX7_set_67 : decode cX7_set 67 = .ok (.iload_n 2, 1) := by decide +kernel
theorem dX7_set_68 : decode cX7_set 68 = .ok (.iadd, 1) := by decide +kernel
theorem dX7_set_69 : decode cX7_set 69 = .ok (.aload_n 0, 1) := by decide +kernel
theorem dX7_set_70 : decode cX7_set 70 = .ok (.getfield 7, 3) := by decide +kernel
theorem dX7_set_73 : decode cX7_set 73 = .ok (.iload_n 1, 1) := by decide +kernel
theorem dX7_set_74 : decode cX7_set 74 = .ok (.iaload, 1) := by decide +kernel
theorem dX7_set_75 : decode cX7_set 75 = .ok (.ifCond .ne 8, 3) := by decide +kernel
theorem dX7_set_78 : decode cX7_set 78 = .ok (.iload_n 3, 1) := by decide +kernel
theorem dX7_set_79 : decode cX7_set 79 = .ok (.i2b, 1) := by decide +kernel
theorem dX7_set_80 : decode cX7_set 80 = .ok (.goto 19, 3) := by decide +kernel
theorem dX7_set_83 : decode cX7_set 83 = .ok (.aload_n 0, 1) := by decide +kernel
theorem dX7_set_84 : decode cX7_set 84 = .ok (.getfield 7, 3) := by decide +kernel
theorem dX7_set_87 : decode cX7_set 87 = .ok (.iload_n 1, 1) := by decide +kernel
theorem dX7_set_88 : decode cX7_set 88 = .ok (.iaload, 1) := by decide +kernel
theorem dX7_set_89 : decode cX7_set 89 = .ok (.iconst 1, 1) := by decide +kernel
theorem dX7_set_90 : decode cX7_set 90 = .ok (.if_icmp .ne 8, 3) := by decide +kernel
theorem dX7_set_93 : decode cX7_set 93 = .ok (.iload_n 3, 1) := by decide +kernel
theorem dX7_set_94 : decode cX7_set 94 = .ok (.i2s, 1) := by decide +kernel
theorem dX7_set_95 : decode cX7_set 95 = .ok (.goto 4, 3) := by decide +kernel
theorem dX7_set_98 : decode cX7_set 98 = .ok (.iload_n 3, 1) := by decide +kernel
theorem dX7_set_99 : decode cX7_set 99 = .ok (.iastore, 1) := by decide +kernel
theorem dX7_set_100 : decode cX7_set 100 = .ok (.aload_n 0, 1) := by decide +kernel
theorem dX7_set_101 : decode cX7_set 101 = .ok (.getfield 16, 3) := by decide +kernel
theorem dX7_set_104 : decode cX7_set 104 = .ok (.bipush 40, 2) := by decide +kernel
theorem dX7_set_106 : decode cX7_set 106 = .ok (.iload_n 1, 1) := by decide +kernel
theorem dX7_set_107 : decode cX7_set 107 = .ok (.imul, 1) := by decide +kernel
theorem dX7_set_108 : decode cX7_set 108 = .ok (.iload_n 2, 1) := by decide +kernel
theorem dX7_set_109 : decode cX7_set 109 = .ok (.iadd, 1) := by decide +kernel
theorem dX7_set_110 : decode cX7_set 110 = .ok (.iaload, 1) := by decide +kernel
theorem dX7_set_111 : decode cX7_set 111 = .ok (.ireturn, 1) := by decide +kernel
theorem dX7_copy_0 : decode cX7_copy 0 = .ok (.aload_n 0, 1) := by decide +kernel
theorem dX7_copy_1 : decode cX7_copy 1 = .ok (.iconst 0, 1) := by decide +kernel
theorem dX7_copy_2 : decode cX7_copy 2 = .ok (.putfield 47, 3) := by decide +kernel
theorem dX7_copy_5 : decode cX7_copy 5 = .ok (.iload_n 1, 1) := by decide +kernel
theorem dX7_copy_6 : decode cX7_copy 6 = .ok (.invokestatic 61, 3) := by decide +kernel
theorem dX7_copy_9 : decode cX7_copy 9 = .ok (.ifCond .eq 10, 3) := by decide +kernel
theorem dX7_copy_12 : decode cX7_copy 12 = .ok (.iload_n 3, 1) := by decide +kernel
theorem dX7_copy_13 : decode cX7_copy 13 = .ok (.invokestatic 61, 3) := by decide +kernel
theorem dX7_copy_16 : decode cX7_copy 16 = .ok (.ifCond .ne 6, 3) := by decide +kernel
theorem dX7_copy_19 : decode cX7_copy 19 = .ok (.ldc 67, 2) := by decide +kernel
theorem dX7_copy_21 : decode cX7_copy 21 = .ok (.ireturn, 1) := by decide +kernel
theorem dX7_copy_22 : decode cX7_copy 22 = .ok (.aload_n 0, 1) := by decide +kernel
theorem dX7_copy_23 : decode cX7_copy 23 = .ok (.iconst 0, 1) := by decide +kernel
theorem dX7_copy_24 : decode cX7_copy 24 = .ok (.putfield 51, 3) := by decide +kernel
theorem dX7_copy_27 : decode cX7_copy 27 = .ok (.aload_n 0, 1) := by decide +kernel
theorem dX7_copy_28 : decode cX7_copy 28 = .ok (.getfield 7, 3) := by decide +kernel
theorem dX7_copy_31 : decode cX7_copy 31 = .ok (.iload_n 1, 1) := by decide +kernel
theorem dX7_copy_32 : decode cX7_copy 32 = .ok (.iaload, 1) := by decide +kernel
theorem dX7_copy_33 : decode cX7_copy 33 = .ok (.ifCond .lt 12, 3) := by decide +kernel
theorem dX7_copy_36 : decode cX7_copy 36 = .ok (.aload_n 0, 1) := by decide +kernel
theorem dX7_copy_37 : decode cX7_copy 37 = .ok (.getfield 7, 3) := by decide +kernel
theorem dX7_copy_40 : decode cX7_copy 40 = .ok (.iload_n 3, 1) := by decide +kernel
theorem dX7_copy_41 : decode cX7_copy 41 = .ok (.iaload, 1) := by decide +kernel
theorem dX7_copy_42 : decode cX7_copy 42 = .ok (.ifCond .ge 9, 3) := by decide +kernel
theorem dX7_copy_45 : decode cX7_copy 45 = .ok (.aload_n 0, 1) := by decide +kernel
theorem dX7_copy_46 : decode cX7_copy 46 = .ok (.iconst 1, 1) := by decide +kernel
theorem dX7_copy_47 : decode cX7_copy 47 = .ok (.invokevirtual 68, 3) := by decide +kernel
theorem dX7_copy_50 : decode cX7_copy 50 = .ok (.ireturn, 1) := by decide +kernel
theorem dX7_copy_51 : decode cX7_copy 51 = .ok (.aload_n 0, 1) := by decide +kernel
theorem dX7_copy_52 : decode cX7_copy 52 = .ok (.getfield 7, 3) := by decide +kernel
theorem dX7_copy_55 : decode cX7_copy 55 = .ok (.iload_n 1, 1) := by decide +kernel
theorem dX7_copy_56 : decode cX7_copy 56 = .ok (.iaload, 1) := by decide +kernel
theorem dX7_copy_57 : decode cX7_copy 57 = .ok (.aload_n 0, 1) := by decide +kernel
theorem dX7_copy_58 : decode cX7_copy 58 = .ok (.getfield 7, 3) := by decide +kernel
theorem dX7_copy_61 : decode cX7_copy 61 = .ok (.iload_n 3, 1) := by decide +kernel
theorem dX7_copy_62 : decode cX7_copy 62 = .ok (.iaload, 1) := by decide +kernel
theorem dX7_copy_63 : decode cX7_copy 63 = .ok (.if_icmp .eq 9, 3) := by decide +kernel
theorem dX7_copy_66 : decode cX7_copy 66 = .ok (.aload_n 0, 1) := by decide +kernel
theorem dX7_copy_67 : decode cX7_copy 67 = .ok (.iconst 5, 1) := by decide +kernel
theorem dX7_copy_68 : decode cX7_copy 68 = .ok (.invokevirtual 68, 3) := by decide +kernel
theorem dX7_copy_71 : decode cX7_copy 71 = .ok (.ireturn, 1) := by decide +kernel
theorem dX7_copy_72 : decode cX7_copy 72 = .ok (.iload_n 2, 1) := by decide +kernel
theorem dX7_copy_73 : decode cX7_copy 73 = .ok (.ifCond .lt 48, 3) := by decide +kernel
theorem dX7_copy_76 : decode cX7_copy 76 = .ok (.iload 4, 2) := by decide +kernel
theorem dX7_copy_78 : decode cX7_copy 78 = .ok (.ifCond .lt 43, 3) := by decide +kernel
theorem dX7_copy_81 : decode cX7_copy 81 = .ok (.iload 5, 2) := by decide +kernel
theorem dX7_copy_83 : decode cX7_copy 83 = .ok (.ifCond .lt 38, 3) := by decide +kernel
theorem dX7_copy_86 : decode cX7_copy 86 = .ok (.iload_n 2, 1) := by decide +kernel
theorem dX7_copy_87 : decode cX7_copy 87 = .ok (.i2l, 1) := by decide +kernel
theorem dX7_copy_88 : decode cX7_copy 88 = .ok (.iload 5, 2) := by decide +kernel
theorem dX7_copy_90 : decode cX7_copy 90 = .ok (.i2l, 1) := by decide +kernel
theorem dX7_copy_91 : decode cX7_copy 91 = .ok (.ladd, 1) := by decide +kernel
theorem dX7_copy_92 : decode cX7_copy 92 = .ok (.aload_n 0, 1) := by decide +kernel
theorem dX7_copy_93 : decode cX7_copy 93 = .ok (.getfield 13, 3) := by decide +kernel
theorem dX7_copy_96 : decode cX7_copy 96 = .ok (.iload_n 1, 1) := by decide +kernel
theorem dX7_copy_97 : decode cX7_copy 97 = .ok (.iaload, 1) := by decide +kernel
theorem dX7_copy_98 : decode cX7_copy 98 = .ok (.i2l, 1) := by decide +kernel
theorem dX7_copy_99 : decode cX7_copy 99 = .ok (.lcmp, 1) := by decide +kernel
theorem dX7_copy_100 : decode cX7_copy 100 = .ok (.ifCond .gt 21, 3) := by decide +kernel
theorem dX7_copy_103 : decode cX7_copy 103 = .ok (.iload 4, 2) := by decide +kernel
theorem dX7_copy_105 : decode cX7_copy 105 = .ok (.i2l, 1) := by decide +kernel
theorem dX7_copy_106 : decode cX7_copy 106 = .ok (.iload 5, 2) := by decide +kernel
theorem dX7_copy_108 : decode cX7_copy 108 = .ok (.i2l, 1) := by decide +kernel
theorem dX7_copy_109 : decode cX7_copy 109 = .ok (.ladd, 1) := by decide +kernel
theorem dX7_copy_110 : decode cX7_copy 110 = .ok (.aload_n 0, 1) := by decide +kernel
theorem dX7_copy_111 : decode cX7_copy 111 = .ok (.getfield 13, 3) := by decide +kernel
theorem dX7_copy_114 : decode cX7_copy 114 = .ok (.iload_n 3, 1) := by decide +kernel
theorem dX7_copy_115 : decode cX7_copy 115 = .ok (.iaload, 1) := by decide +kernel
theorem dX7_copy_116 : decode cX7_copy 116 = .ok (.i2l, 1) := by decide +kernel
theorem dX7_copy_117 : decode cX7_copy 117 = .ok (.lcmp, 1) := by decide +kernel
theorem dX7_copy_118 : decode cX7_copy 118 = .ok (.ifCond .le 9, 3) := by decide +kernel
theorem dX7_copy_121 : decode cX7_copy 121 = .ok (.aload_n 0, 1) := by decide +kernel
theorem dX7_copy_122 : decode cX7_copy 122 = .ok (.iconst 2, 1) := by decide +kernel
theorem dX7_copy_123 : decode cX7_copy 123 = .ok (.invokevirtual 68, 3) := by decide +kernel
theorem dX7_copy_126 : decode cX7_copy 126 = .ok (.ireturn, 1) := by decide +kernel
theorem dX7_copy_127 : decode cX7_copy 127 = .ok (.iload_n 2, 1) := by decide +kernel
theorem dX7_copy_128 : decode cX7_copy 128 = .ok (.iload 4, 2) := by decide +kernel
theorem dX7_copy_130 : decode cX7_copy 130 = .ok (.if_icmp .lt 7, 3) := by decide +kernel
theorem dX7_copy_133 : decode cX7_copy 133 = .ok (.iconst 1, 1) := by decide +kernel
theorem dX7_copy_134 : decode cX7_copy 134 = .ok (.goto 4, 3) := by decide +kernel
theorem dX7_copy_137 : decode cX7_copy 137 = .ok (.iconst 0, 1) := by decide +kernel
theorem dX7_copy_138 : decode cX7_copy 138 = .ok (.istore 6, 2) := by decide +kernel
theorem dX7_copy_140 : decode cX7_copy 140 = .ok (.iconst 0, 1) := by decide +kernel
theorem dX7_copy_141 : decode cX7_copy 141 = .ok (.istore 7, 2) := by decide +kernel
theorem dX7_copy_143 : decode cX7_copy 143 = .ok (.iload 7, 2) := by decide +kernel
theorem dX7_copy_145 : decode cX7_copy 145 = .ok (.iload 5, 2) := by decide +kernel
theorem dX7_copy_147 : decode cX7_copy 147 = .ok (.if_icmp .ge 57, 3) := by decide +kernel
theorem dX7_copy_150 : decode cX7_copy 150 = .ok (.iload 6, 2) := by decide +kernel
theorem dX7_copy_152 : decode cX7_copy 152 = .ok (.ifCond .eq 8, 3) := by decide +kernel
theorem dX7_copy_155 : decode cX7_copy 155 = .ok (.iload 7, 2) := by decide +kernel
theorem dX7_copy_157 : decode cX7_copy 157 = .ok (.goto 10, 3) := by decide +kernel
theorem dX7_copy_160 : decode cX7_copy 160 = .ok (.iload 5, 2) := by decide +kernel
theorem dX7_copy_162 : decode cX7_copy 162 = .ok (.iconst 1, 1) := by decide +kernel
theorem dX7_copy_163 : decode cX7_copy 163 = .ok (.isub, 1) := by decide +kernel
theorem dX7_copy_164 : decode cX7_copy 164 = .ok (.iload 7, 2) := by decide +kernel
theorem dX7_copy_166 : decode cX7_copy 166 = .ok (.isub, 1) := by decide +kernel
theorem dX7_copy_167 : decode cX7_copy 167 = .ok (.istore 8, 2) := by decide +kernel
theorem dX7_copy_169 : decode cX7_copy 169 = .ok (.aload_n 0, 1) := by decide +kernel
theorem dX7_copy_170 : decode cX7_copy 170 = .ok (.getfield 16, 3) := by decide +kernel
theorem dX7_copy_173 : decode cX7_copy 173 = .ok (.bipush 40, 2) := by decide +kernel
theorem dX7_copy_175 : decode cX7_copy 175 = .ok (.iload_n 3, 1) := by decide +kernel
theorem dX7_copy_176 : decode cX7_copy 176 = .ok (.imul, 1) := by decide +kernel
theorem dX7_copy_177 : decode cX7_copy 177 = .ok (.iload 4, 2) := by decide +kernel
theorem dX7_copy_179 : decode cX7_copy 179 = .ok (.iadd, 1) := by decide +kernel
theorem dX7_copy_180 : decode cX7_copy 180 = .ok (.iload 8, 2) := by decide +kernel
theorem dX7_copy_182 : decode cX7_copy 182 = .ok (.iadd, 1) := by decide +kernel
theorem dX7_copy_183 : decode cX7_copy 183 = .ok (.aload_n 0, 1) := by decide +kernel
theorem dX7_copy_184 : decode cX7_copy 184 = .ok (.getfield 16, 3) := by decide +kernel
theorem dX7_copy_187 : decode cX7_copy 187 = .ok (.bipush 40, 2) := by decide +kernel
theorem dX7_copy_189 : decode cX7_copy 189 = .ok (.iload_n 1, 1) := by decide +kernel
theorem dX7_copy_190 : decode cX7_copy 190 = .ok (.imul, 1) := by decide +kernel
theorem dX7_copy_191 : decode cX7_copy 191 = .ok (.iload_n 2, 1) := by decide +kernel
theorem dX7_copy_192 : decode cX7_copy 192 = .ok (.iadd, 1) := by decide +kernel
theorem dX7_copy_193 : decode cX7_copy 193 = .ok (.iload 8, 2) := by decide +kernel
theorem dX7_copy_195 : decode cX7_copy 195 = .ok (.iadd, 1) := by decide +kernel
theorem dX7_copy_196 : decode cX7_copy 196 = .ok (.iaload, 1) := by decide +kernel
theorem dX7_copy_197 : decode cX7_copy 197 = .ok (.iastore, 1) := by decide +kernel
theorem dX7_copy_198 : decode cX7_copy 198 = .ok (.iinc 7 1, 3) := by decide +kernel
theorem dX7_copy_201 : decode cX7_copy 201 = .ok (.goto (-58), 3) := by decide +kernel
theorem dX7_copy_204 : decode cX7_copy 204 = .ok (.iload 5, 2) := by decide +kernel
theorem dX7_copy_206 : decode cX7_copy 206 = .ok (.ireturn, 1) := by decide +kernel
theorem dX7_drop_0 : decode cX7_drop 0 = .ok (.aload_n 0, 1) := by decide +kernel
theorem dX7_drop_1 : decode cX7_drop 1 = .ok (.iconst 0, 1) := by decide +kernel
theorem dX7_drop_2 : decode cX7_drop 2 = .ok (.putfield 47, 3) := by decide +kernel
theorem dX7_drop_5 : decode cX7_drop 5 = .ok (.iload_n 1, 1) := by decide +kernel
theorem dX7_drop_6 : decode cX7_drop 6 = .ok (.invokestatic 61, 3) := by decide +kernel
theorem dX7_drop_9 : decode cX7_drop 9 = .ok (.ifCond .ne 6, 3) := by decide +kernel
theorem dX7_drop_12 : decode cX7_drop 12 = .ok (.ldc 67, 2) := by decide +kernel
theorem dX7_drop_14 : decode cX7_drop 14 = .ok (.ireturn, 1) := by decide +kernel
theorem dX7_drop_15 : decode cX7_drop 15 = .ok (.aload_n 0, 1) := by decide +kernel
theorem dX7_drop_16 : decode cX7_drop 16 = .ok (.iconst 0, 1) := by decide +kernel
theorem dX7_drop_17 : decode cX7_drop 17 = .ok (.putfield 51, 3) := by decide +kernel
theorem dX7_drop_20 : decode cX7_drop 20 = .ok (.aload_n 0, 1) := by decide +kernel
theorem dX7_drop_21 : decode cX7_drop 21 = .ok (.getfield 7, 3) := by decide +kernel
theorem dX7_drop_24 : decode cX7_drop 24 = .ok (.iload_n 1, 1) := by decide +kernel
theorem dX7_drop_25 : decode cX7_drop 25 = .ok (.iaload, 1) := by decide +kernel
theorem dX7_drop_26 : decode cX7_drop 26 = .ok (.ifCond .ge 9, 3) := by decide +kernel
theorem dX7_drop_29 : decode cX7_drop 29 = .ok (.aload_n 0, 1) := by decide +kernel
theorem dX7_drop_30 : decode cX7_drop 30 = .ok (.iconst 1, 1) := by decide +kernel
theorem dX7_drop_31 : decode cX7_drop 31 = .ok (.invokevirtual 68, 3) := by decide +kernel
theorem dX7_drop_34 : decode cX7_drop 34 = .ok (.ireturn, 1) := by decide +kernel
theorem dX7_drop_35 : decode cX7_drop 35 = .ok (.aload_n 0, 1) := by decide +kernel
theorem dX7_drop_36 : decode cX7_drop 36 = .ok (.getfield 7, 3) := by decide +kernel
theorem dX7_drop_39 : decode cX7_drop 39 = .ok (.iload_n 1, 1) := by decide +kernel
theorem dX7_drop_40 : decode cX7_drop 40 = .ok (.iconst (-1), 1) := by decide +kernel
theorem dX7_drop_41 : decode cX7_drop 41 = .ok (.iastore, 1) := by decide +kernel
theorem dX7_drop_42 : decode cX7_drop 42 = .ok (.aload_n 0, 1) := by decide +kernel
theorem dX7_drop_43 : decode cX7_drop 43 = .ok (.getfield 13, 3) := by decide +kernel
theorem dX7_drop_46 : decode cX7_drop 46 = .ok (.iload_n 1, 1) := by decide +kernel
theorem dX7_drop_47 : decode cX7_drop 47 = .ok (.iaload, 1) := by decide +kernel
theorem dX7_drop_48 : decode cX7_drop 48 = .ok (.ireturn, 1) := by decide +kernel
theorem dX7_feed_0 : decode cX7_feed 0 = .ok (.aload_n 0, 1) := by decide +kernel
theorem dX7_feed_1 : decode cX7_feed 1 = .ok (.iconst 0, 1) := by decide +kernel
theorem dX7_feed_2 : decode cX7_feed 2 = .ok (.putfield 47, 3) := by decide +kernel
theorem dX7_feed_5 : decode cX7_feed 5 = .ok (.iload_n 1, 1) := by decide +kernel
theorem dX7_feed_6 : decode cX7_feed 6 = .ok (.i2l, 1) := by decide +kernel
theorem dX7_feed_7 : decode cX7_feed 7 = .ok (.lconst 0, 1) := by decide +kernel
theorem dX7_feed_8 : decode cX7_feed 8 = .ok (.ldc2_w 72, 3) := by decide +kernel
theorem dX7_feed_11 : decode cX7_feed 11 = .ok (.invokestatic 57, 3) := by decide +kernel
theorem dX7_feed_14 : decode cX7_feed 14 = .ok (.ifCond .ne 6, 3) := by decide +kernel
theorem dX7_feed_17 : decode cX7_feed 17 = .ok (.ldc 67, 2) := by decide +kernel
theorem dX7_feed_19 : decode cX7_feed 19 = .ok (.ireturn, 1) := by decide +kernel
theorem dX7_feed_20 : decode cX7_feed 20 = .ok (.aload_n 0, 1) := by decide +kernel
theorem dX7_feed_21 : decode cX7_feed 21 = .ok (.getfield 74, 3) := by decide +kernel
theorem dX7_feed_24 : decode cX7_feed 24 = .ok (.bipush 120, 2) := by decide +kernel
theorem dX7_feed_26 : decode cX7_feed 26 = .ok (.if_icmp .ne 6, 3) := by decide +kernel
theorem dX7_feed_29 : decode cX7_feed 29 = .ok (.ldc 77, 2) := by decide +kernel
theorem dX7_feed_31 : decode cX7_feed 31 = .ok (.ireturn, 1) := by decide +kernel
theorem dX7_feed_32 : decode cX7_feed 32 = .ok (.aload_n 0, 1) := by decide +kernel
theorem dX7_feed_33 : decode cX7_feed 33 = .ok (.getfield 31, 3) := by decide +kernel
theorem dX7_feed_36 : decode cX7_feed 36 = .ok (.aload_n 0, 1) := by decide +kernel
theorem dX7_feed_37 : decode cX7_feed 37 = .ok (.getfield 74, 3) := by decide +kernel
theorem dX7_feed_40 : decode cX7_feed 40 = .ok (.iload_n 1, 1) := by decide +kernel
theorem dX7_feed_41 : decode cX7_feed 41 = .ok (.iastore, 1) := by decide +kernel
theorem dX7_feed_42 : decode cX7_feed 42 = .ok (.aload_n 0, 1) := by decide +kernel
theorem dX7_feed_43 : decode cX7_feed 43 = .ok (.dup, 1) := by decide +kernel
theorem dX7_feed_44 : decode cX7_feed 44 = .ok (.getfield 74, 3) := by decide +kernel
theorem dX7_feed_47 : decode cX7_feed 47 = .ok (.iconst 1, 1) := by decide +kernel
theorem dX7_feed_48 : decode cX7_feed 48 = .ok (.iadd, 1) := by decide +kernel
theorem dX7_feed_49 : decode cX7_feed 49 = .ok (.putfield 74, 3) := by decide +kernel
theorem dX7_feed_52 : decode cX7_feed 52 = .ok (.aload_n 0, 1) := by decide +kernel
theorem dX7_feed_53 : decode cX7_feed 53 = .ok (.getfield 74, 3) := by decide +kernel
theorem dX7_feed_56 : decode cX7_feed 56 = .ok (.ireturn, 1) := by decide +kernel
theorem dX7_bad_0 : decode cX7_bad 0 = .ok (.aload_n 0, 1) := by decide +kernel
theorem dX7_bad_1 : decode cX7_bad 1 = .ok (.getfield 78, 3) := by decide +kernel
theorem dX7_bad_4 : decode cX7_bad 4 = .ok (.ifCond .ne 16, 3) := by decide +kernel
theorem dX7_bad_7 : decode cX7_bad 7 = .ok (.aload_n 0, 1) := by decide +kernel
theorem dX7_bad_8 : decode cX7_bad 8 = .ok (.iload_n 1, 1) := by decide +kernel
theorem dX7_bad_9 : decode cX7_bad 9 = .ok (.putfield 78, 3) := by decide +kernel
theorem dX7_bad_12 : decode cX7_bad 12 = .ok (.aload_n 0, 1) := by decide +kernel
theorem dX7_bad_13 : decode cX7_bad 13 = .ok (.aload_n 0, 1) := by decide +kernel
theorem dX7_bad_14 : decode cX7_bad 14 = .ok (.getfield 81, 3) := by decide +kernel
theorem dX7_bad_17 : decode cX7_bad 17 = .ok (.putfield 84, 3) := by decide +kernel
theorem dX7_bad_20 : decode cX7_bad 20 = .ok (.return_, 1) := by decide +kernel
theorem dX7_nextToken_0 : decode cX7_nextToken 0 = .ok (.aload_n 0, 1) := by decide +kernel
theorem dX7_nextToken_1 : decode cX7_nextToken 1 = .ok (.aload_n 0, 1) := by decide +kernel
theorem dX7_nextToken_2 : decode cX7_nextToken 2 = .ok (.getfield 87, 3) := by decide +kernel
theorem dX7_nextToken_5 : decode cX7_nextToken 5 = .ok (.putfield 81, 3) := by decide +kernel
theorem dX7_nextToken_8 : decode cX7_nextToken 8 = .ok (.aload_n 0, 1) := by decide +kernel
theorem dX7_nextToken_9 : decode cX7_nextToken 9 = .ok (.aload_n 0, 1) := by decide +kernel
theorem dX7_nextToken_10 : decode cX7_nextToken 10 = .ok (.getfield 87, 3) := by decide +kernel
theorem dX7_nextToken_13 : decode cX7_nextToken 13 = .ok (.aload_n 0, 1) := by decide +kernel
theorem dX7_nextToken_14 : decode cX7_nextToken 14 = .ok (.getfield 74, 3) := by decide +kernel
theorem dX7_nextToken_17 : decode cX7_nextToken 17 = .ok (.if_icmp .ge 15, 3) := by decide +kernel
theorem dX7_nextToken_20 : decode cX7_nextToken 20 = .ok (.aload_n 0, 1) := by decide +kernel
theorem dX7_nextToken_21 : decode cX7_nextToken 21 = .ok (.getfield 31, 3) := by decide +kernel
theorem dX7_nextToken_24 : decode cX7_nextToken 24 = .ok (.aload_n 0, 1) := by decide +kernel
theorem dX7_nextToken_25 : decode cX7_nextToken 25 = .ok (.getfield 87, 3) := by decide +kernel
theorem dX7_nextToken_28 : decode cX7_nextToken 28 = .ok (.iaload, 1) := by decide +kernel
theorem dX7_nextToken_29 : decode cX7_nextToken 29 = .ok (.goto 5, 3) := by decide +kernel
theorem dX7_nextToken_32 : decode cX7_nextToken 32 = .ok (.ldc 90, 2) := by decide +kernel
theorem dX7_nextToken_34 : decode cX7_nextToken 34 = .ok (.putfield 91, 3) := by decide +kernel
theorem dX7_nextToken_37 : decode cX7_nextToken 37 = .ok (.aload_n 0, 1) := by decide +kernel
theorem dX7_nextToken_38 : decode cX7_nextToken 38 = .ok (.aload_n 0, 1) := by decide +kernel
theorem dX7_nextToken_39 : decode cX7_nextToken 39 = .ok (.getfield 87, 3) := by decide +kernel
theorem dX7_nextToken_42 : decode cX7_nextToken 42 = .ok (.aload_n 0, 1) := by decide +kernel
theorem dX7_nextToken_43 : decode cX7_nextToken 43 = .ok (.getfield 74, 3) := by decide +kernel
theorem dX7_nextToken_46 : decode cX7_nextToken 46 = .ok (.if_icmp .ne 7, 3) := by decide +kernel
theorem dX7_nextToken_49 : decode cX7_nextToken 49 = .ok (.iconst 1, 1) := by decide +kernel
theorem dX7_nextToken_50 : decode cX7_nextToken 50 = .ok (.goto 68, 3) := by decide +kernel
theorem dX7_nextToken_53 : decode cX7_nextToken 53 = .ok (.aload_n 0, 1) := by decide +kernel
theorem dX7_nextToken_54 : decode cX7_nextToken 54 = .ok (.getfield 91, 3) := by decide +kernel
theorem dX7_nextToken_57 : decode cX7_nextToken 57 = .ok (.i2l, 1) := by decide +kernel
theorem dX7_nextToken_58 : decode cX7_nextToken 58 = .ok (.ldc2_w 94, 3) := by decide +kernel
theorem dX7_nextToken_61 : decode cX7_nextToken 61 = .ok (.ldc2_w 96, 3) := by decide +kernel
theorem dX7_nextToken_64 : decode cX7_nextToken 64 = .ok (.invokestatic 57, 3) := by decide +kernel
theorem dX7_nextToken_67 : decode cX7_nextToken 67 = .ok (.ifCond .eq 7, 3) := by decide +kernel
theorem dX7_nextToken_70 : decode cX7_nextToken 70 = .ok (.iconst 2, 1) := by decide +kernel
theorem dX7_nextToken_71 : decode cX7_nextToken 71 = .ok (.goto 47, 3) := by decide +kernel
theorem dX7_nextToken_74 : decode cX7_nextToken 74 = .ok (.aload_n 0, 1) := by decide +kernel
theorem dX7_nextToken_75 : decode cX7_nextToken 75 = .ok (.getfield 91, 3) := by decide +kernel
theorem dX7_nextToken_78 : decode cX7_nextToken 78 = .ok (.i2l, 1) := by decide +kernel
theorem dX7_nextToken_79 : decode cX7_nextToken 79 = .ok (.ldc2_w 98, 3) := by decide +kernel
theorem dX7_nextToken_82 : decode cX7_nextToken 82 = .ok (.ldc2_w 100, 3) := by decide +kernel
theorem dX7_nextToken_85 : decode cX7_nextToken 85 = .ok (.invokestatic 57, 3) := by decide +kernel
theorem dX7_nextToken_88 : decode cX7_nextToken 88 = .ok (.ifCond .eq 7, 3) := by decide +kernel
theorem dX7_nextToken_91 : decode cX7_nextToken 91 = .ok (.iconst 3, 1) := by decide +kernel
theorem dX7_nextToken_92 : decode cX7_nextToken 92 = .ok (.goto 26, 3) := by decide +kernel
theorem dX7_nextToken_95 : decode cX7_nextToken 95 = .ok (.aload_n 0, 1) := by decide +kernel
theorem dX7_nextToken_96 : decode cX7_nextToken 96 = .ok (.getfield 91, 3) := by decide +kernel
theorem dX7_nextToken_99 : decode cX7_nextToken 99 = .ok (.bipush 44, 2) := by decide +kernel
theorem dX7_nextToken_101 : decode cX7_nextToken 101 = .ok (.if_icmp .eq 12, 3) := by decide +kernel
theorem dX7_nextToken_104 : decode cX7_nextToken 104 = .ok (.aload_n 0, 1) := by decide +kernel
theorem dX7_nextToken_105 : decode cX7_nextToken 105 = .ok (.getfield 91, 3) := by decide +kernel
theorem dX7_nextToken_108 : decode cX7_nextToken 108 = .ok (.bipush 59, 2) := by decide +kernel
theorem dX7_nextToken_110 : decode cX7_nextToken 110 = .ok (.if_icmp .ne 7, 3) := by decide +kernel
theorem dX7_nextToken_113 : decode cX7_nextToken 113 = .ok (.iconst 4, 1) := by decide +kernel
theorem dX7_nextToken_114 : decode cX7_nextToken 114 = .ok (.goto 4, 3) := by decide +kernel
theorem dX7_nextToken_117 : decode cX7_nextToken 117 = .ok (.iconst 0, 1) := by decide +kernel
theorem dX7_nextToken_118 : decode cX7_nextToken 118 = .ok (.putfield 102, 3) := by decide +kernel
theorem dX7_nextToken_121 : decode cX7_nextToken 121 = .ok (.aload_n 0, 1) := by decide +kernel
theorem dX7_nextToken_122 : decode cX7_nextToken 122 = .ok (.dup, 1) := by decide +kernel
theorem dX7_nextToken_123 : decode cX7_nextToken 123 = .ok (.getfield 87, 3) := by decide +kernel
theorem dX7_nextToken_126 : decode cX7_nextToken 126 = .ok (.aload_n 0, 1) := by decide +kernel
theorem dX7_nextToken_127 : decode cX7_nextToken 127 = .ok (.getfield 87, 3) := by decide +kernel
theorem dX7_nextToken_130 : decode cX7_nextToken 130 = .ok (.aload_n 0, 1) := by decide +kernel
theorem dX7_nextToken_131 : decode cX7_nextToken 131 = .ok (.getfield 74, 3) := by decide +kernel
theorem dX7_nextToken_134 : decode cX7_nextToken 134 = .ok (.if_icmp .ge 7, 3) := by decide +kernel
theorem dX7_nextToken_137 : decode cX7_nextToken 137 = .ok (.iconst 1, 1) := by decide +kernel
theorem dX7_nextToken_138 : decode cX7_nextToken 138 = .ok (.goto 4, 3) := by decide +kernel
theorem dX7_nextToken_141 : decode cX7_nextToken 141 = .ok (.iconst 0, 1) := by decide +kernel
theorem dX7_nextToken_142 : decode cX7_nextToken 142 = .ok (.iadd, 1) := by decide +kernel
theorem dX7_nextToken_143 : decode cX7_nextToken 143 = .ok (.putfield 87, 3) := by decide +kernel
theorem dX7_nextToken_146 : decode cX7_nextToken 146 = .ok (.aload_n 0, 1) := by decide +kernel
theorem dX7_nextToken_147 : decode cX7_nextToken 147 = .ok (.getfield 102, 3) := by decide +kernel
theorem dX7_nextToken_150 : decode cX7_nextToken 150 = .ok (.iconst 3, 1) := by decide +kernel
theorem dX7_nextToken_151 : decode cX7_nextToken 151 = .ok (.if_icmp .ne 126, 3) := by decide +kernel
theorem dX7_nextToken_154 : decode cX7_nextToken 154 = .ok (.aload_n 0, 1) := by decide +kernel
theorem dX7_nextToken_155 : decode cX7_nextToken 155 = .ok (.dup, 1) := by decide +kernel
theorem dX7_nextToken_156 : decode cX7_nextToken 156 = .ok (.getfield 91, 3) := by decide +kernel
theorem dX7_nextToken_159 : decode cX7_nextToken 159 = .ok (.bipush 48, 2) := by decide +kernel
theorem dX7_nextToken_161 : decode cX7_nextToken 161 = .ok (.isub, 1) := by decide +kernel
theorem dX7_nextToken_162 : decode cX7_nextToken 162 = .ok (.putfield 91, 3) := by decide +kernel
theorem dX7_nextToken_165 : decode cX7_nextToken 165 = .ok (.aload_n 0, 1) := by decide +kernel
theorem dX7_nextToken_166 : decode cX7_nextToken 166 = .ok (.getfield 87, 3) := by decide +kernel
theorem dX7_nextToken_169 : decode cX7_nextToken 169 = .ok (.aload_n 0, 1) := by decide +kernel
theorem dX7_nextToken_170 : decode cX7_nextToken 170 = .ok (.getfield 74, 3) := by decide +kernel
theorem dX7_nextToken_173 : decode cX7_nextToken 173 = .ok (.if_icmp .ge 82, 3) := by decide +kernel
theorem dX7_nextToken_176 : decode cX7_nextToken 176 = .ok (.aload_n 0, 1) := by decide +kernel
theorem dX7_nextToken_177 : decode cX7_nextToken 177 = .ok (.getfield 31, 3) := by decide +kernel
theorem dX7_nextToken_180 : decode cX7_nextToken 180 = .ok (.aload_n 0, 1) := by decide +kernel
theorem dX7_nextToken_181 : decode cX7_nextToken 181 = .ok (.getfield 87, 3) := by decide +kernel
theorem dX7_nextToken_184 : decode cX7_nextToken 184 = .ok (.iaload, 1) := by decide +kernel
theorem dX7_nextToken_185 : decode cX7_nextToken 185 = .ok (.i2l, 1) := by decide +kernel
theorem dX7_nextToken_186 : decode cX7_nextToken 186 = .ok (.ldc2_w 98, 3) := by decide +kernel
theorem dX7_nextToken_189 : decode cX7_nextToken 189 = .ok (.ldc2_w 100, 3) := by decide +kernel
theorem dX7_nextToken_192 : decode cX7_nextToken 192 = .ok (.invokestatic 57, 3) := by decide +kernel
theorem dX7_nextToken_195 : decode cX7_nextToken 195 = .ok (.ifCond .eq 60, 3) := by decide +kernel
theorem dX7_nextToken_198 : decode cX7_nextToken 198 = .ok (.aload_n 0, 1) := by decide +kernel
theorem dX7_nextToken_199 : decode cX7_nextToken 199 = .ok (.aload_n 0, 1) := by decide +kernel
theorem dX7_nextToken_200 : decode cX7_nextToken 200 = .ok (.getfield 87, 3) := by decide +kernel
theorem dX7_nextToken_203 : decode cX7_nextToken 203 = .ok (.aload_n 0, 1) := by decide +kernel
theorem dX7_nextToken_204 : decode cX7_nextToken 204 = .ok (.getfield 81, 3) := by decide +kernel
theorem dX7_nextToken_207 : decode cX7_nextToken 207 = .ok (.isub, 1) := by decide +kernel
theorem dX7_nextToken_208 : decode cX7_nextToken 208 = .ok (.iconst 2, 1) := by decide +kernel
theorem dX7_nextToken_209 : decode cX7_nextToken 209 = .ok (.if_icmp .ge 26, 3) := by decide +kernel
theorem dX7_nextToken_212 : decode cX7_nextToken 212 = .ok (.bipush 10, 2) := by decide +kernel
theorem dX7_nextToken_214 : decode cX7_nextToken 214 = .ok (.aload_n 0, 1) := by decide +kernel
theorem dX7_nextToken_215 : decode cX7_nextToken 215 = .ok (.getfield 91, 3) := by decide +kernel
theorem dX7_nextToken_218 : decode cX7_nextToken 218 = .ok (.imul, 1) := by decide +kernel
theorem dX7_nextToken_219 : decode cX7_nextToken 219 = .ok (.aload_n 0, 1) := by decide +kernel
theorem dX7_nextToken_220 : decode cX7_nextToken 220 = .ok (.getfield 31, 3) := by decide +kernel
theorem dX7_nextToken_223 : decode cX7_nextToken 223 = .ok (.aload_n 0, 1) := by decide +kernel
theorem dX7_nextToken_224 : decode cX7_nextToken 224 = .ok (.getfield 87, 3) := by decide +kernel
theorem dX7_nextToken_227 : decode cX7_nextToken 227 = .ok (.iaload, 1) := by decide +kernel
theorem dX7_nextToken_228 : decode cX7_nextToken 228 = .ok (.iadd, 1) := by decide +kernel
theorem dX7_nextToken_229 : decode cX7_nextToken 229 = .ok (.bipush 48, 2) := by decide +kernel
theorem dX7_nextToken_231 : decode cX7_nextToken 231 = .ok (.isub, 1) := by decide +kernel
theorem dX7_nextToken_232 : decode cX7_nextToken 232 = .ok (.goto 7, 3) := by decide +kernel
theorem dX7_nextToken_235 : decode cX7_nextToken 235 = .ok (.aload_n 0, 1) := by decide +kernel
theorem dX7_nextToken_236 : decode cX7_nextToken 236 = .ok (.getfield 91, 3) := by decide +kernel
theorem dX7_nextToken_239 : decode cX7_nextToken 239 = .ok (.putfield 91, 3) := by decide +kernel
theorem dX7_nextToken_242 : decode cX7_nextToken 242 = .ok (.aload_n 0, 1) := by decide +kernel
theorem dX7_nextToken_243 : decode cX7_nextToken 243 = .ok (.dup, 1) := by decide +kernel
theorem dX7_nextToken_244 : decode cX7_nextToken 244 = .ok (.getfield 87, 3) := by decide +kernel
theorem dX7_nextToken_247 : decode cX7_nextToken 247 = .ok (.iconst 1, 1) := by decide +kernel
theorem dX7_nextToken_248 : decode cX7_nextToken 248 = .ok (.iadd, 1) := by decide +kernel
theorem dX7_nextToken_249 : decode cX7_nextToken 249 = .ok (.putfield 87, 3) := by decide +kernel
theorem dX7_nextToken_252 : decode cX7_nextToken 252 = .ok (.goto (-87), 3) := by decide +kernel
theorem dX7_nextToken_255 : decode cX7_nextToken 255 = .ok (.aload_n 0, 1) := by decide +kernel
theorem dX7_nextToken_256 : decode cX7_nextToken 256 = .ok (.aload_n 0, 1) := by decide +kernel
theorem dX7_nextToken_257 : decode cX7_nextToken 257 = .ok (.getfield 87, 3) := by decide +kernel
theorem dX7_nextToken_260 : decode cX7_nextToken 260 = .ok (.aload_n 0, 1) := by decide +kernel
theorem dX7_nextToken_261 : decode cX7_nextToken 261 = .ok (.getfield 81, 3) := by decide +kernel
theorem dX7_nextToken_264 : decode cX7_nextToken 264 = .ok (.isub, 1) := by decide +kernel
theorem dX7_nextToken_265 : decode cX7_nextToken 265 = .ok (.iconst 2, 1) := by decide +kernel
theorem dX7_nextToken_266 : decode cX7_nextToken 266 = .ok (.if_icmp .le 7, 3) := by decide +kernel
theorem dX7_nextToken_269 : decode cX7_nextToken 269 = .ok (.iconst 0, 1) := by decide +kernel
theorem dX7_nextToken_270 : decode cX7_nextToken 270 = .ok (.goto 4, 3) := by decide +kernel
theorem dX7_nextToken_273 : decode cX7_nextToken 273 = .ok (.iconst 3, 1) := by decide +kernel
theorem dX7_nextToken_274 : decode cX7_nextToken 274 = .ok (.putfield 102, 3) := by decide +kernel
theorem dX7_nextToken_277 : decode cX7_nextToken 277 = .ok (.return_, 1) := by decide +kernel
theorem dX7_must_0 : decode cX7_must 0 = .ok (.iload_n 1, 1) := by decide +kernel
theorem dX7_must_1 : decode cX7_must 1 = .ok (.ifCond .ne 8, 3) := by decide +kernel
theorem dX7_must_4 : decode cX7_must 4 = .ok (.aload_n 0, 1) := by decide +kernel
theorem dX7_must_5 : decode cX7_must 5 = .ok (.iconst 1, 1) := by decide +kernel
theorem dX7_must_6 : decode cX7_must 6 = .ok (.invokevirtual 105, 3) := by decide +kernel
theorem dX7_must_9 : decode cX7_must 9 = .ok (.aload_n 0, 1) := by decide +kernel
theorem dX7_must_10 : decode cX7_must 10 = .ok (.getfield 78, 3) := by decide +kernel
theorem dX7_must_13 : decode cX7_must 13 = .ok (.ifCond .ne 7, 3) := by decide +kernel
theorem dX7_must_16 : decode cX7_must 16 = .ok (.aload_n 0, 1) := by decide +kernel
theorem dX7_must_17 : decode cX7_must 17 = .ok (.invokevirtual 109, 3) := by decide +kernel
theorem dX7_must_20 : decode cX7_must 20 = .ok (.return_, 1) := by decide +kernel
theorem dX7_isLetter_0 : decode cX7_isLetter 0 = .ok (.aload_n 0, 1) := by decide +kernel
theorem dX7_isLetter_1 : decode cX7_isLetter 1 = .ok (.getfield 78, 3) := by decide +kernel
theorem dX7_isLetter_4 : decode cX7_isLetter 4 = .ok (.ifCond .ne 23, 3) := by decide +kernel
theorem dX7_isLetter_7 : decode cX7_isLetter 7 = .ok (.aload_n 0, 1) := by decide +kernel
theorem dX7_isLetter_8 : decode cX7_isLetter 8 = .ok (.getfield 102, 3) := by decide +kernel
theorem dX7_isLetter_11 : decode cX7_isLetter 11 = .ok (.iconst 2, 1) := by decide +kernel
theorem dX7_isLetter_12 : decode cX7_isLetter 12 = .ok (.if_icmp .ne 15, 3) := by decide +kernel
theorem dX7_isLetter_15 : decode cX7_isLetter 15 = .ok (.aload_n 0, 1) := by decide +kernel
theorem dX7_isLetter_16 : decode cX7_isLetter 16 = .ok (.getfield 91, 3) := by decide +kernel
theorem dX7_isLetter_19 : decode cX7_isLetter 19 = .ok (.iload_n 1, 1) := by decide +kernel
theorem dX7_isLetter_20 : decode cX7_isLetter 20 = .ok (.if_icmp .ne 7, 3) := by decide +kernel
theorem dX7_isLetter_23 : decode cX7_isLetter 23 = .ok (.iconst 1, 1) := by decide +kernel
theorem dX7_isLetter_24 : decode cX7_isLetter 24 = .ok (.goto 4, 3) := by decide +kernel
theorem dX7_isLetter_27 : decode cX7_isLetter 27 = .ok (.iconst 0, 1) := by decide +kernel
theorem dX7_isLetter_28 : decode cX7_isLetter 28 = .ok (.ireturn, 1) := by decide +kernel
theorem dX7_number_0 : decode cX7_number 0 = .ok (.aload_n 0, 1) := by decide +kernel
theorem dX7_number_1 : decode cX7_number 1 = .ok (.getfield 78, 3) := by decide +kernel
theorem dX7_number_4 : decode cX7_number 4 = .ok (.ifCond .ne 16, 3) := by decide +kernel
theorem dX7_number_7 : decode cX7_number 7 = .ok (.aload_n 0, 1) := by decide +kernel
theorem dX7_number_8 : decode cX7_number 8 = .ok (.getfield 102, 3) := by decide +kernel
theorem dX7_number_11 : decode cX7_number 11 = .ok (.iconst 3, 1) := by decide +kernel
theorem dX7_number_12 : decode cX7_number 12 = .ok (.if_icmp .eq 8, 3) := by decide +kernel
theorem dX7_number_15 : decode cX7_number 15 = .ok (.aload_n 0, 1) := by decide +kernel
theorem dX7_number_16 : decode cX7_number 16 = .ok (.iconst 1, 1) := by decide +kernel
theorem dX7_number_17 : decode cX7_number 17 = .ok (.invokevirtual 105, 3) := by decide +kernel
theorem dX7_number_20 : decode cX7_number 20 = .ok (.aload_n 0, 1) := by decide +kernel
theorem dX7_number_21 : decode cX7_number 21 = .ok (.getfield 78, 3) := by decide +kernel
theorem dX7_number_24 : decode cX7_number 24 = .ok (.ifCond .ne 23, 3) := by decide +kernel
theorem dX7_number_27 : decode cX7_number 27 = .ok (.aload_n 0, 1) := by decide +kernel
theorem dX7_number_28 : decode cX7_number 28 = .ok (.getfield 91, 3) := by decide +kernel
theorem dX7_number_31 : decode cX7_number 31 = .ok (.i2l, 1) := by decide +kernel
theorem dX7_number_32 : decode cX7_number 32 = .ok (.iload_n 1, 1) := by decide +kernel
theorem dX7_number_33 : decode cX7_number 33 = .ok (.i2l, 1) := by decide +kernel
theorem dX7_number_34 : decode cX7_number 34 = .ok (.iload_n 2, 1) := by decide +kernel
theorem dX7_number_35 : decode cX7_number 35 = .ok (.i2l, 1) := by decide +kernel
theorem dX7_number_36 : decode cX7_number 36 = .ok (.invokestatic 57, 3) := by decide +kernel
theorem dX7_number_39 : decode cX7_number 39 = .ok (.ifCond .ne 8, 3) := by decide +kernel
theorem dX7_number_42 : decode cX7_number 42 = .ok (.aload_n 0, 1) := by decide +kernel
theorem dX7_number_43 : decode cX7_number 43 = .ok (.iconst 2, 1) := by decide +kernel
theorem dX7_number_44 : decode cX7_number 44 = .ok (.invokevirtual 105, 3) := by decide +kernel
theorem dX7_number_47 : decode cX7_number 47 = .ok (.aload_n 0, 1) := by decide +kernel
theorem dX7_number_48 : decode cX7_number 48 = .ok (.getfield 78, 3) := by decide +kernel
theorem dX7_number_51 : decode cX7_number 51 = .ok (.ifCond .ne 10, 3) := by decide +kernel
theorem dX7_number_54 : decode cX7_number 54 = .ok (.aload_n 0, 1) := by decide +kernel
theorem dX7_number_55 : decode cX7_number 55 = .ok (.getfield 91, 3) := by decide +kernel
theorem dX7_number_58 : decode cX7_number 58 = .ok (.goto 4, 3) := by decide +kernel
theorem dX7_number_61 : decode cX7_number 61 = .ok (.iload_n 1, 1) := by decide +kernel
theorem dX7_number_62 : decode cX7_number 62 = .ok (.istore_n 3, 1) := by decide +kernel
theorem dX7_number_63 : decode cX7_number 63 = .ok (.aload_n 0, 1) := by decide +kernel
theorem dX7_number_64 : decode cX7_number 64 = .ok (.iconst 1, 1) := by decide +kernel
theorem dX7_number_65 : decode cX7_number 65 = .ok (.invokevirtual 112, 3) := by decide +kernel
theorem dX7_number_68 : decode cX7_number 68 = .ok (.iload_n 3, 1) := by decide +kernel
theorem dX7_number_69 : decode cX7_number 69 = .ok (.ireturn, 1) := by decide +kernel
theorem dX7_mustSign_0 : decode cX7_mustSign 0 = .ok (.aload_n 0, 1) := by decide +kernel
theorem dX7_mustSign_1 : decode cX7_mustSign 1 = .ok (.aload_n 0, 1) := by decide +kernel
theorem dX7_mustSign_2 : decode cX7_mustSign 2 = .ok (.getfield 102, 3) := by decide +kernel
theorem dX7_mustSign_5 : decode cX7_mustSign 5 = .ok (.iconst 4, 1) := by decide +kernel
theorem dX7_mustSign_6 : decode cX7_mustSign 6 = .ok (.if_icmp .ne 15, 3) := by decide +kernel
theorem dX7_mustSign_9 : decode cX7_mustSign 9 = .ok (.aload_n 0, 1) := by decide +kernel
theorem dX7_mustSign_10 : decode cX7_mustSign 10 = .ok (.getfield 91, 3) := by decide +kernel
theorem dX7_mustSign_13 : decode cX7_mustSign 13 = .ok (.iload_n 1, 1) := by decide +kernel
theorem dX7_mustSign_14 : decode cX7_mustSign 14 = .ok (.if_icmp .ne 7, 3) := by decide +kernel
theorem dX7_mustSign_17 : decode cX7_mustSign 17 = .ok (.iconst 1, 1) := by decide +kernel
theorem dX7_mustSign_18 : decode cX7_mustSign 18 = .ok (.goto 4, 3) := by decide +kernel
theorem dX7_mustSign_21 : decode cX7_mustSign 21 = .ok (.iconst 0, 1) := by decide +kernel
theorem dX7_mustSign_22 : decode cX7_mustSign 22 = .ok (.invokevirtual 112, 3) := by decide +kernel
theorem dX7_mustSign_25 : decode cX7_mustSign 25 = .ok (.return_, 1) := by decide +kernel
theorem dX7_begin_0 : decode cX7_begin 0 = .ok (.aload_n 0, 1) := by decide +kernel
theorem dX7_begin_1 : decode cX7_begin 1 = .ok (.iconst 0, 1) := by decide +kernel
theorem dX7_begin_2 : decode cX7_begin 2 = .ok (.putfield 87, 3) := by decide +kernel
theorem dX7_begin_5 : decode cX7_begin 5 = .ok (.aload_n 0, 1) := by decide +kernel
theorem dX7_begin_6 : decode cX7_begin 6 = .ok (.iconst 0, 1) := by decide +kernel
theorem dX7_begin_7 : decode cX7_begin 7 = .ok (.putfield 78, 3) := by decide +kernel
theorem dX7_begin_10 : decode cX7_begin 10 = .ok (.aload_n 0, 1) := by decide +kernel
theorem dX7_begin_11 : decode cX7_begin 11 = .ok (.invokevirtual 109, 3) := by decide +kernel
theorem dX7_begin_14 : decode cX7_begin 14 = .ok (.return_, 1) := by decide +kernel
theorem dX7_failed_0 : decode cX7_failed 0 = .ok (.aload_n 0, 1) := by decide +kernel
theorem dX7_failed_1 : decode cX7_failed 1 = .ok (.getfield 78, 3) := by decide +kernel
theorem dX7_failed_4 : decode cX7_failed 4 = .ok (.ifCond .ne 16, 3) := by decide +kernel
theorem dX7_failed_7 : decode cX7_failed 7 = .ok (.aload_n 0, 1) := by decide +kernel
theorem dX7_failed_8 : decode cX7_failed 8 = .ok (.getfield 102, 3) := by decide +kernel
theorem dX7_failed_11 : decode cX7_failed 11 = .ok (.iconst 1, 1) := by decide +kernel
theorem dX7_failed_12 : decode cX7_failed 12 = .ok (.if_icmp .eq 8, 3) := by decide +kernel
theorem dX7_failed_15 : decode cX7_failed 15 = .ok (.aload_n 0, 1) := by decide +kernel
theorem dX7_failed_16 : decode cX7_failed 16 = .ok (.iconst 1, 1) := by decide +kernel
theorem dX7_failed_17 : decode cX7_failed 17 = .ok (.invokevirtual 105, 3) := by decide +kernel
theorem dX7_failed_20 : decode cX7_failed 20 = .ok (.aload_n 0, 1) := by decide +kernel
theorem dX7_failed_21 : decode cX7_failed 21 = .ok (.iconst 0, 1) := by decide +kernel
theorem dX7_failed_22 : decode cX7_failed 22 = .ok (.putfield 74, 3) := by decide +kernel
theorem dX7_failed_25 : decode cX7_failed 25 = .ok (.aload_n 0, 1) := by decide +kernel
theorem dX7_failed_26 : decode cX7_failed 26 = .ok (.aload_n 0, 1) := by decide +kernel
theorem dX7_failed_27 : decode cX7_failed 27 = .ok (.getfield 78, 3) := by decide +kernel
theorem dX7_failed_30 : decode cX7_failed 30 = .ok (.ifCond .le 10, 3) := by decide +kernel
theorem dX7_failed_33 : decode cX7_failed 33 = .ok (.aload_n 0, 1) := by decide +kernel
theorem dX7_failed_34 : decode cX7_failed 34 = .ok (.getfield 78, 3) := by decide +kernel
theorem dX7_failed_37 : decode cX7_failed 37 = .ok (.goto 7, 3) := by decide +kernel
theorem dX7_failed_40 : decode cX7_failed 40 = .ok (.aload_n 0, 1) := by decide +kernel
theorem dX7_failed_41 : decode cX7_failed 41 = .ok (.getfield 116, 3) := by decide +kernel
theorem dX7_failed_44 : decode cX7_failed 44 = .ok (.putfield 116, 3) := by decide +kernel
theorem dX7_failed_47 : decode cX7_failed 47 = .ok (.aload_n 0, 1) := by decide +kernel
theorem dX7_failed_48 : decode cX7_failed 48 = .ok (.getfield 78, 3) := by decide +kernel
theorem dX7_failed_51 : decode cX7_failed 51 = .ok (.ifCond .le 7, 3) := by decide +kernel
theorem dX7_failed_54 : decode cX7_failed 54 = .ok (.iconst 1, 1) := by decide +kernel
theorem dX7_failed_55 : decode cX7_failed 55 = .ok (.goto 4, 3) := by decide +kernel
theorem dX7_failed_58 : decode cX7_failed 58 = .ok (.iconst 0, 1) := by decide +kernel
theorem dX7_failed_59 : decode cX7_failed 59 = .ok (.ireturn, 1) := by decide +kernel
theorem dX7_fault_0 : decode cX7_fault 0 = .ok (.aload_n 0, 1) := by decide +kernel
theorem dX7_fault_1 : decode cX7_fault 1 = .ok (.iconst 0, 1) := by decide +kernel
theorem dX7_fault_2 : decode cX7_fault 2 = .ok (.putfield 47, 3) := by decide +kernel
theorem dX7_fault_5 : decode cX7_fault 5 = .ok (.aload_n 0, 1) := by decide +kernel
theorem dX7_fault_6 : decode cX7_fault 6 = .ok (.getfield 116, 3) := by decide +kernel
theorem dX7_fault_9 : decode cX7_fault 9 = .ok (.ireturn, 1) := by decide +kernel
theorem dX7_kindBy_0 : decode cX7_kindBy 0 = .ok (.iload_n 0, 1) := by decide +kernel
theorem dX7_kindBy_1 : decode cX7_kindBy 1 = .ok (.bipush 115, 2) := by decide +kernel
theorem dX7_kindBy_3 : decode cX7_kindBy 3 = .ok (.if_icmp .ne 7, 3) := by decide +kernel
theorem dX7_kindBy_6 : decode cX7_kindBy 6 = .ok (.iconst 1, 1) := by decide +kernel
theorem dX7_kindBy_7 : decode cX7_kindBy 7 = .ok (.goto 45, 3) := by decide +kernel
theorem dX7_kindBy_10 : decode cX7_kindBy 10 = .ok (.iload_n 0, 1) := by decide +kernel
theorem dX7_kindBy_11 : decode cX7_kindBy 11 = .ok (.bipush 98, 2) := by decide +kernel
theorem dX7_kindBy_13 : decode cX7_kindBy 13 = .ok (.if_icmp .ne 7, 3) := by decide +kernel
theorem dX7_kindBy_16 : decode cX7_kindBy 16 = .ok (.iconst 2, 1) := by decide +kernel
theorem dX7_kindBy_17 : decode cX7_kindBy 17 = .ok (.goto 35, 3) := by decide +kernel
theorem dX7_kindBy_20 : decode cX7_kindBy 20 = .ok (.iload_n 0, 1) := by decide +kernel
theorem dX7_kindBy_21 : decode cX7_kindBy 21 = .ok (.bipush 119, 2) := by decide +kernel
theorem dX7_kindBy_23 : decode cX7_kindBy 23 = .ok (.if_icmp .ne 7, 3) := by decide +kernel
theorem dX7_kindBy_26 : decode cX7_kindBy 26 = .ok (.iconst 3, 1) := by decide +kernel
theorem dX7_kindBy_27 : decode cX7_kindBy 27 = .ok (.goto 25, 3) := by decide +kernel
theorem dX7_kindBy_30 : decode cX7_kindBy 30 = .ok (.iload_n 0, 1) := by decide +kernel
theorem dX7_kindBy_31 : decode cX7_kindBy 31 = .ok (.bipush 104, 2) := by decide +kernel
theorem dX7_kindBy_33 : decode cX7_kindBy 33 = .ok (.if_icmp .ne 7, 3) := by decide +kernel
theorem dX7_kindBy_36 : decode cX7_kindBy 36 = .ok (.iconst 4, 1) := by decide +kernel
theorem dX7_kindBy_37 : decode cX7_kindBy 37 = .ok (.goto 15, 3) := by decide +kernel
theorem dX7_kindBy_40 : decode cX7_kindBy 40 = .ok (.iload_n 0, 1) := by decide +kernel
theorem dX7_kindBy_41 : decode cX7_kindBy 41 = .ok (.bipush 111, 2) := by decide +kernel
theorem dX7_kindBy_43 : decode cX7_kindBy 43 = .ok (.if_icmp .ne 7, 3) := by decide +kernel
theorem dX7_kindBy_46 : decode cX7_kindBy 46 = .ok (.iconst 5, 1) := by decide +kernel
theorem dX7_kindBy_47 : decode cX7_kindBy 47 = .ok (.goto 5, 3) := by decide +kernel
theorem dX7_kindBy_50 : decode cX7_kindBy 50 = .ok (.ldc 90, 2) := by decide +kernel
theorem dX7_kindBy_52 : decode cX7_kindBy 52 = .ok (.ireturn, 1) := by decide +kernel
theorem dX7_isSort_0 : decode cX7_isSort 0 = .ok (.aload_n 0, 1) := by decide +kernel
theorem dX7_isSort_1 : decode cX7_isSort 1 = .ok (.getfield 78, 3) := by decide +kernel
theorem dX7_isSort_4 : decode cX7_isSort 4 = .ok (.ifCond .ne 27, 3) := by decide +kernel
theorem dX7_isSort_7 : decode cX7_isSort 7 = .ok (.aload_n 0, 1) := by decide +kernel
theorem dX7_isSort_8 : decode cX7_isSort 8 = .ok (.getfield 102, 3) := by decide +kernel
theorem dX7_isSort_11 : decode cX7_isSort 11 = .ok (.iconst 2, 1) := by decide +kernel
theorem dX7_isSort_12 : decode cX7_isSort 12 = .ok (.if_icmp .ne 19, 3) := by decide +kernel
theorem dX7_isSort_15 : decode cX7_isSort 15 = .ok (.aload_n 0, 1) := by decide +kernel
theorem dX7_isSort_16 : decode cX7_isSort 16 = .ok (.getfield 91, 3) := by decide +kernel
theorem dX7_isSort_19 : decode cX7_isSort 19 = .ok (.invokestatic 119, 3) := by decide +kernel
theorem dX7_isSort_22 : decode cX7_isSort 22 = .ok (.ldc 90, 2) := by decide +kernel
theorem dX7_isSort_24 : decode cX7_isSort 24 = .ok (.if_icmp .eq 7, 3) := by decide +kernel
theorem dX7_isSort_27 : decode cX7_isSort 27 = .ok (.iconst 1, 1) := by decide +kernel
theorem dX7_isSort_28 : decode cX7_isSort 28 = .ok (.goto 4, 3) := by decide +kernel
theorem dX7_isSort_31 : decode cX7_isSort 31 = .ok (.iconst 0, 1) := by decide +kernel
theorem dX7_isSort_32 : decode cX7_isSort 32 = .ok (.ireturn, 1) := by decide +kernel
theorem dX7_readWind_0 : decode cX7_readWind 0 = .ok (.aload_n 0, 1) := by decide +kernel
theorem dX7_readWind_1 : decode cX7_readWind 1 = .ok (.bipush 103, 2) := by decide +kernel
theorem dX7_readWind_3 : decode cX7_readWind 3 = .ok (.invokevirtual 122, 3) := by decide +kernel
theorem dX7_readWind_6 : decode cX7_readWind 6 = .ok (.ifCond .eq 19, 3) := by decide +kernel
theorem dX7_readWind_9 : decode cX7_readWind 9 = .ok (.aload_n 0, 1) := by decide +kernel
theorem dX7_readWind_10 : decode cX7_readWind 10 = .ok (.getfield 22, 3) := by decide +kernel
theorem dX7_readWind_13 : decode cX7_readWind 13 = .ok (.iconst 1, 1) := by decide +kernel
theorem dX7_readWind_14 : decode cX7_readWind 14 = .ok (.iaload, 1) := by decide +kernel
theorem dX7_readWind_15 : decode cX7_readWind 15 = .ok (.bipush 6, 2) := by decide +kernel
theorem dX7_readWind_17 : decode cX7_readWind 17 = .ok (.if_icmp .ne 8, 3) := by decide +kernel
theorem dX7_readWind_20 : decode cX7_readWind 20 = .ok (.aload_n 0, 1) := by decide +kernel
theorem dX7_readWind_21 : decode cX7_readWind 21 = .ok (.iconst 3, 1) := by decide +kernel
theorem dX7_readWind_22 : decode cX7_readWind 22 = .ok (.invokevirtual 105, 3) := by decide +kernel
theorem dX7_readWind_25 : decode cX7_readWind 25 = .ok (.aload_n 0, 1) := by decide +kernel
theorem dX7_readWind_26 : decode cX7_readWind 26 = .ok (.aload_n 0, 1) := by decide +kernel
theorem dX7_readWind_27 : decode cX7_readWind 27 = .ok (.bipush 103, 2) := by decide +kernel
theorem dX7_readWind_29 : decode cX7_readWind 29 = .ok (.invokevirtual 122, 3) := by decide +kernel
theorem dX7_readWind_32 : decode cX7_readWind 32 = .ok (.invokevirtual 112, 3) := by decide +kernel
theorem dX7_readWind_35 : decode cX7_readWind 35 = .ok (.aload_n 0, 1) := by decide +kernel
theorem dX7_readWind_36 : decode cX7_readWind 36 = .ok (.iconst 0, 1) := by decide +kernel
theorem dX7_readWind_37 : decode cX7_readWind 37 = .ok (.iconst 4, 1) := by decide +kernel
theorem dX7_readWind_38 : decode cX7_readWind 38 = .ok (.invokevirtual 125, 3) := by decide +kernel
theorem dX7_readWind_41 : decode cX7_readWind 41 = .ok (.istore_n 1, 1) := by decide +kernel
theorem dX7_readWind_42 : decode cX7_readWind 42 = .ok (.aload_n 0, 1) := by decide +kernel
theorem dX7_readWind_43 : decode cX7_readWind 43 = .ok (.bipush 59, 2) := by decide +kernel
theorem dX7_readWind_45 : decode cX7_readWind 45 = .ok (.invokevirtual 129, 3) := by decide +kernel
theorem dX7_readWind_48 : decode cX7_readWind 48 = .ok (.aload_n 0, 1) := by decide +kernel
theorem dX7_readWind_49 : decode cX7_readWind 49 = .ok (.getfield 78, 3) := by decide +kernel
theorem dX7_readWind_52 : decode cX7_readWind 52 = .ok (.ifCond .ne 28, 3) := by decide +kernel
theorem dX7_readWind_55 : decode cX7_readWind 55 = .ok (.aload_n 0, 1) := by decide +kernel
theorem dX7_readWind_56 : decode cX7_readWind 56 = .ok (.getfield 22, 3) := by decide +kernel
theorem dX7_readWind_59 : decode cX7_readWind 59 = .ok (.bipush 8, 2) := by decide +kernel
theorem dX7_readWind_61 : decode cX7_readWind 61 = .ok (.aload_n 0, 1) := by decide +kernel
theorem dX7_readWind_62 : decode cX7_readWind 62 = .ok (.getfield 22, 3) := by decide +kernel
theorem dX7_readWind_65 : decode cX7_readWind 65 = .ok (.iconst 1, 1) := by decide +kernel
theorem dX7_readWind_66 : decode cX7_readWind 66 = .ok (.iaload, 1) := by decide +kernel
theorem dX7_readWind_67 : decode cX7_readWind 67 = .ok (.iadd, 1) := by decide +kernel
theorem dX7_readWind_68 : decode cX7_readWind 68 = .ok (.iload_n 1, 1) := by decide +kernel
theorem dX7_readWind_69 : decode cX7_readWind 69 = .ok (.iastore, 1) := by decide +kernel
theorem dX7_readWind_70 : decode cX7_readWind 70 = .ok (.aload_n 0, 1) := by decide +kernel
theorem dX7_readWind_71 : decode cX7_readWind 71 = .ok (.getfield 22, 3) := by decide +kernel
theorem dX7_readWind_74 : decode cX7_readWind 74 = .ok (.iconst 1, 1) := by decide +kernel
theorem dX7_readWind_75 : decode cX7_readWind 75 = .ok (.dup2, 1) := by decide +kernel
theorem dX7_readWind_76 : decode cX7_readWind 76 = .ok (.iaload, 1) := by decide +kernel
theorem dX7_readWind_77 : decode cX7_readWind 77 = .ok (.iconst 1, 1) := by decide +kernel
theorem dX7_readWind_78 : decode cX7_readWind 78 = .ok (.iadd, 1) := by decide +kernel
theorem dX7_readWind_79 : decode cX7_readWind 79 = .ok (.iastore, 1) := by decide +kernel
theorem dX7_readWind_80 : decode cX7_readWind 80 = .ok (.return_, 1) := by decide +kernel
theorem dX7_readSheet_0 : decode cX7_readSheet 0 = .ok (.aload_n 0, 1) := by decide +kernel
theorem dX7_readSheet_1 : decode cX7_readSheet 1 = .ok (.getfield 91, 3) := by decide +kernel
theorem dX7_readSheet_4 : decode cX7_readSheet 4 = .ok (.invokestatic 119, 3) := by decide +kernel
theorem dX7_readSheet_7 : decode cX7_readSheet 7 = .ok (.istore_n 1, 1) := by decide +kernel
theorem dX7_readSheet_8 : decode cX7_readSheet 8 = .ok (.aload_n 0, 1) := by decide +kernel
theorem dX7_readSheet_9 : decode cX7_readSheet 9 = .ok (.getfield 22, 3) := by decide +kernel
theorem dX7_readSheet_12 : decode cX7_readSheet 12 = .ok (.iconst 0, 1) := by decide +kernel
theorem dX7_readSheet_13 : decode cX7_readSheet 13 = .ok (.iaload, 1) := by decide +kernel
theorem dX7_readSheet_14 : decode cX7_readSheet 14 = .ok (.bipush 6, 2) := by decide +kernel
theorem dX7_readSheet_16 : decode cX7_readSheet 16 = .ok (.if_icmp .ne 8, 3) := by decide +kernel
theorem dX7_readSheet_19 : decode cX7_readSheet 19 = .ok (.aload_n 0, 1) := by decide +kernel
theorem dX7_readSheet_20 : decode cX7_readSheet 20 = .ok (.iconst 3, 1) := by decide +kernel
theorem dX7_readSheet_21 : decode cX7_readSheet 21 = .ok (.invokevirtual 105, 3) := by decide +kernel
theorem dX7_readSheet_24 : decode cX7_readSheet 24 = .ok (.aload_n 0, 1) := by decide +kernel
theorem dX7_readSheet_25 : decode cX7_readSheet 25 = .ok (.iconst 1, 1) := by decide +kernel
theorem dX7_readSheet_26 : decode cX7_readSheet 26 = .ok (.invokevirtual 112, 3) := by decide +kernel
theorem dX7_readSheet_29 : decode cX7_readSheet 29 = .ok (.aload_n 0, 1) := by decide +kernel
theorem dX7_readSheet_30 : decode cX7_readSheet 30 = .ok (.iconst 0, 1) := by decide +kernel
theorem dX7_readSheet_31 : decode cX7_readSheet 31 = .ok (.aload_n 0, 1) := by decide +kernel
theorem dX7_readSheet_32 : decode cX7_readSheet 32 = .ok (.getfield 22, 3) := by decide +kernel
theorem dX7_readSheet_35 : decode cX7_readSheet 35 = .ok (.iconst 2, 1) := by decide +kernel
theorem dX7_readSheet_36 : decode cX7_readSheet 36 = .ok (.iaload, 1) := by decide +kernel
theorem dX7_readSheet_37 : decode cX7_readSheet 37 = .ok (.iconst 1, 1) := by decide +kernel
theorem dX7_readSheet_38 : decode cX7_readSheet 38 = .ok (.isub, 1) := by decide +kernel
theorem dX7_readSheet_39 : decode cX7_readSheet 39 = .ok (.invokevirtual 125, 3) := by decide +kernel
theorem dX7_readSheet_42 : decode cX7_readSheet 42 = .ok (.istore_n 2, 1) := by decide +kernel
theorem dX7_readSheet_43 : decode cX7_readSheet 43 = .ok (.aload_n 0, 1) := by decide +kernel
theorem dX7_readSheet_44 : decode cX7_readSheet 44 = .ok (.bipush 44, 2) := by decide +kernel
theorem dX7_readSheet_46 : decode cX7_readSheet 46 = .ok (.invokevirtual 129, 3) := by decide +kernel
theorem dX7_readSheet_49 : decode cX7_readSheet 49 = .ok (.aload_n 0, 1) := by decide +kernel
theorem dX7_readSheet_50 : decode cX7_readSheet 50 = .ok (.iconst 1, 1) := by decide +kernel
theorem dX7_readSheet_51 : decode cX7_readSheet 51 = .ok (.iconst 5, 1) := by decide +kernel
theorem dX7_readSheet_52 : decode cX7_readSheet 52 = .ok (.invokevirtual 125, 3) := by decide +kernel
theorem dX7_readSheet_55 : decode cX7_readSheet 55 = .ok (.istore_n 3, 1) := by decide +kernel
theorem dX7_readSheet_56 : decode cX7_readSheet 56 = .ok (.aload_n 0, 1) := by decide +kernel
theorem dX7_readSheet_57 : decode cX7_readSheet 57 = .ok (.bipush 44, 2) := by decide +kernel
theorem dX7_readSheet_59 : decode cX7_readSheet 59 = .ok (.invokevirtual 129, 3) := by decide +kernel
theorem dX7_readSheet_62 : decode cX7_readSheet 62 = .ok (.aload_n 0, 1) := by decide +kernel
theorem dX7_readSheet_63 : decode cX7_readSheet 63 = .ok (.iconst 1, 1) := by decide +kernel
theorem dX7_readSheet_64 : decode cX7_readSheet 64 = .ok (.bipush 9, 2) := by decide +kernel
theorem dX7_readSheet_66 : decode cX7_readSheet 66 = .ok (.invokevirtual 125, 3) := by decide +kernel
theorem dX7_readSheet_69 : decode cX7_readSheet 69 = .ok (.istore 4, 2) := by decide +kernel
theorem dX7_readSheet_71 : decode cX7_readSheet 71 = .ok (.aload_n 0, 1) := by decide +kernel
theorem dX7_readSheet_72 : decode cX7_readSheet 72 = .ok (.bipush 59, 2) := by decide +kernel
theorem dX7_readSheet_74 : decode cX7_readSheet 74 = .ok (.invokevirtual 129, 3) := by decide +kernel
theorem dX7_readSheet_77 : decode cX7_readSheet 77 = .ok (.aload_n 0, 1) := by decide +kernel
theorem dX7_readSheet_78 : decode cX7_readSheet 78 = .ok (.getfield 78, 3) := by decide +kernel
theorem dX7_readSheet_81 : decode cX7_readSheet 81 = .ok (.ifCond .ne 86, 3) := by decide +kernel
theorem dX7_readSheet_84 : decode cX7_readSheet 84 = .ok (.bipush 14, 2) := by decide +kernel
theorem dX7_readSheet_86 : decode cX7_readSheet 86 = .ok (.bipush 6, 2) := by decide +kernel
theorem dX7_readSheet_88 : decode cX7_readSheet 88 = .ok (.aload_n 0, 1) := by decide +kernel
theorem dX7_readSheet_89 : decode cX7_readSheet 89 = .ok (.getfield 22, 3) := by decide +kernel
theorem dX7_readSheet_92 : decode cX7_readSheet 92 = .ok (.iconst 0, 1) := by decide +kernel
theorem dX7_readSheet_93 : decode cX7_readSheet 93 = .ok (.iaload, 1) := by decide +kernel
theorem dX7_readSheet_94 : decode cX7_readSheet 94 = .ok (.imul, 1) := by decide +kernel
theorem dX7_readSheet_95 : decode cX7_readSheet 95 = .ok (.iadd, 1) := by decide +kernel
theorem dX7_readSheet_96 : decode cX7_readSheet 96 = .ok (.istore 5, 2) := by decide +kernel
theorem dX7_readSheet_98 : decode cX7_readSheet 98 = .ok (.aload_n 0, 1) := by decide +kernel
theorem dX7_readSheet_99 : decode cX7_readSheet 99 = .ok (.getfield 22, 3) := by decide +kernel
theorem dX7_readSheet_102 : decode cX7_readSheet 102 = .ok (.iload 5, 2) := by decide +kernel
theorem dX7_readSheet_104 : decode cX7_readSheet 104 = .ok (.iload_n 1, 1) := by decide +kernel
theorem dX7_readSheet_105 : decode cX7_readSheet 105 = .ok (.iastore, 1) := by decide +kernel
theorem dX7_readSheet_106 : decode cX7_readSheet 106 = .ok (.aload_n 0, 1) := by decide +kernel
theorem dX7_readSheet_107 : decode cX7_readSheet 107 = .ok (.getfield 22, 3) := by decide +kernel
theorem dX7_readSheet_110 : decode cX7_readSheet 110 = .ok (.iload 5, 2) := by decide +kernel
theorem dX7_readSheet_112 : decode cX7_readSheet 112 = .ok (.iconst 1, 1) := by decide +kernel
theorem dX7_readSheet_113 : decode cX7_readSheet 113 = .ok (.iadd, 1) := by decide +kernel
theorem dX7_readSheet_114 : decode cX7_readSheet 114 = .ok (.iload_n 2, 1) := by decide +kernel
theorem dX7_readSheet_115 : decode cX7_readSheet 115 = .ok (.iastore, 1) := by decide +kernel
theorem dX7_readSheet_116 : decode cX7_readSheet 116 = .ok (.aload_n 0, 1) := by decide +kernel
theorem dX7_readSheet_117 : decode cX7_readSheet 117 = .ok (.getfield 22, 3) := by decide +kernel
theorem dX7_readSheet_120 : decode cX7_readSheet 120 = .ok (.iload 5, 2) := by decide +kernel
theorem dX7_readSheet_122 : decode cX7_readSheet 122 = .ok (.iconst 2, 1) := by decide +kernel
theorem dX7_readSheet_123 : decode cX7_readSheet 123 = .ok (.iadd, 1) := by decide +kernel
theorem dX7_readSheet_124 : decode cX7_readSheet 124 = .ok (.iload_n 3, 1) := by decide +kernel
theorem dX7_readSheet_125 : decode cX7_readSheet 125 = .ok (.iastore, 1) := by decide +kernel
theorem dX7_readSheet_126 : decode cX7_readSheet 126 = .ok (.aload_n 0, 1) := by decide +kernel
theorem dX7_readSheet_127 : decode cX7_readSheet 127 = .ok (.getfield 22, 3) := by decide +kernel
theorem dX7_readSheet_130 : decode cX7_readSheet 130 = .ok (.iload 5, 2) := by decide +kernel
theorem dX7_readSheet_132 : decode cX7_readSheet 132 = .ok (.iconst 3, 1) := by decide +kernel
theorem dX7_readSheet_133 : decode cX7_readSheet 133 = .ok (.iadd, 1) := by decide +kernel
theorem dX7_readSheet_134 : decode cX7_readSheet 134 = .ok (.iload 4, 2) := by decide +kernel
theorem dX7_readSheet_136 : decode cX7_readSheet 136 = .ok (.iastore, 1) := by decide +kernel
theorem dX7_readSheet_137 : decode cX7_readSheet 137 = .ok (.aload_n 0, 1) := by decide +kernel
theorem dX7_readSheet_138 : decode cX7_readSheet 138 = .ok (.getfield 22, 3) := by decide +kernel
theorem dX7_readSheet_141 : decode cX7_readSheet 141 = .ok (.iload 5, 2) := by decide +kernel
theorem dX7_readSheet_143 : decode cX7_readSheet 143 = .ok (.iconst 4, 1) := by decide +kernel
theorem dX7_readSheet_144 : decode cX7_readSheet 144 = .ok (.iadd, 1) := by decide +kernel
theorem dX7_readSheet_145 : decode cX7_readSheet 145 = .ok (.iconst 0, 1) := by decide +kernel
theorem dX7_readSheet_146 : decode cX7_readSheet 146 = .ok (.iastore, 1) := by decide +kernel
theorem dX7_readSheet_147 : decode cX7_readSheet 147 = .ok (.aload_n 0, 1) := by decide +kernel
theorem dX7_readSheet_148 : decode cX7_readSheet 148 = .ok (.getfield 22, 3) := by decide +kernel
theorem dX7_readSheet_151 : decode cX7_readSheet 151 = .ok (.iload 5, 2) := by decide +kernel
theorem dX7_readSheet_153 : decode cX7_readSheet 153 = .ok (.iconst 5, 1) := by decide +kernel
theorem dX7_readSheet_154 : decode cX7_readSheet 154 = .ok (.iadd, 1) := by decide +kernel
theorem dX7_readSheet_155 : decode cX7_readSheet 155 = .ok (.iconst 1, 1) := by decide +kernel
theorem dX7_readSheet_156 : decode cX7_readSheet 156 = .ok (.iastore, 1) := by decide +kernel
theorem dX7_readSheet_157 : decode cX7_readSheet 157 = .ok (.aload_n 0, 1) := by decide +kernel
theorem dX7_readSheet_158 : decode cX7_readSheet 158 = .ok (.getfield 22, 3) := by decide +kernel
theorem dX7_readSheet_161 : decode cX7_readSheet 161 = .ok (.iconst 0, 1) := by decide +kernel
theorem dX7_readSheet_162 : decode cX7_readSheet 162 = .ok (.dup2, 1) := by decide +kernel
theorem dX7_readSheet_163 : decode cX7_readSheet 163 = .ok (.iaload, 1) := by decide +kernel
theorem dX7_readSheet_164 : decode cX7_readSheet 164 = .ok (.iconst 1, 1) := by decide +kernel
theorem dX7_readSheet_165 : decode cX7_readSheet 165 = .ok (.iadd, 1) := by decide +kernel
theorem dX7_readSheet_166 : decode cX7_readSheet 166 = .ok (.iastore, 1) := by decide +kernel
theorem dX7_readSheet_167 : decode cX7_readSheet 167 = .ok (.return_, 1) := by decide +kernel
theorem dX7_estuary_0 : decode cX7_estuary 0 = .ok (.aload_n 0, 1) := by decide +kernel
theorem dX7_estuary_1 : decode cX7_estuary 1 = .ok (.iconst 0, 1) := by decide +kernel
theorem dX7_estuary_2 : decode cX7_estuary 2 = .ok (.putfield 47, 3) := by decide +kernel
theorem dX7_estuary_5 : decode cX7_estuary 5 = .ok (.aload_n 0, 1) := by decide +kernel
theorem dX7_estuary_6 : decode cX7_estuary 6 = .ok (.invokevirtual 132, 3) := by decide +kernel
theorem dX7_estuary_9 : decode cX7_estuary 9 = .ok (.iconst 0, 1) := by decide +kernel
theorem dX7_estuary_10 : decode cX7_estuary 10 = .ok (.istore_n 1, 1) := by decide +kernel
theorem dX7_estuary_11 : decode cX7_estuary 11 = .ok (.iload_n 1, 1) := by decide +kernel
theorem dX7_estuary_12 : decode cX7_estuary 12 = .ok (.bipush 50, 2) := by decide +kernel
theorem dX7_estuary_14 : decode cX7_estuary 14 = .ok (.if_icmp .ge 16, 3) := by decide +kernel
theorem dX7_estuary_17 : decode cX7_estuary 17 = .ok (.aload_n 0, 1) := by decide +kernel
theorem dX7_estuary_18 : decode cX7_estuary 18 = .ok (.getfield 22, 3) := by decide +kernel
theorem dX7_estuary_21 : decode cX7_estuary 21 = .ok (.iload_n 1, 1) := by decide +kernel
theorem dX7_estuary_22 : decode cX7_estuary 22 = .ok (.iconst 0, 1) := by decide +kernel
theorem dX7_estuary_23 : decode cX7_estuary 23 = .ok (.iastore, 1) := by decide +kernel
theorem dX7_estuary_24 : decode cX7_estuary 24 = .ok (.iinc 1 1, 3) := by decide +kernel
theorem dX7_estuary_27 : decode cX7_estuary 27 = .ok (.goto (-16), 3) := by decide +kernel
theorem dX7_estuary_30 : decode cX7_estuary 30 = .ok (.aload_n 0, 1) := by decide +kernel
theorem dX7_estuary_31 : decode cX7_estuary 31 = .ok (.aload_n 0, 1) := by decide +kernel
theorem dX7_estuary_32 : decode cX7_estuary 32 = .ok (.bipush 101, 2) := by decide +kernel
theorem dX7_estuary_34 : decode cX7_estuary 34 = .ok (.invokevirtual 122, 3) := by decide +kernel
theorem dX7_estuary_37 : decode cX7_estuary 37 = .ok (.invokevirtual 112, 3) := by decide +kernel
theorem dX7_estuary_40 : decode cX7_estuary 40 = .ok (.aload_n 0, 1) := by decide +kernel
theorem dX7_estuary_41 : decode cX7_estuary 41 = .ok (.getfield 22, 3) := by decide +kernel
theorem dX7_estuary_44 : decode cX7_estuary 44 = .ok (.iconst 2, 1) := by decide +kernel
theorem dX7_estuary_45 : decode cX7_estuary 45 = .ok (.aload_n 0, 1) := by decide +kernel
theorem dX7_estuary_46 : decode cX7_estuary 46 = .ok (.bipush 6, 2) := by decide +kernel
theorem dX7_estuary_48 : decode cX7_estuary 48 = .ok (.bipush 16, 2) := by decide +kernel
theorem dX7_estuary_50 : decode cX7_estuary 50 = .ok (.invokevirtual 125, 3) := by decide +kernel
theorem dX7_estuary_53 : decode cX7_estuary 53 = .ok (.iastore, 1) := by decide +kernel
theorem dX7_estuary_54 : decode cX7_estuary 54 = .ok (.aload_n 0, 1) := by decide +kernel
theorem dX7_estuary_55 : decode cX7_estuary 55 = .ok (.bipush 44, 2) := by decide +kernel
theorem dX7_estuary_57 : decode cX7_estuary 57 = .ok (.invokevirtual 129, 3) := by decide +kernel
theorem dX7_estuary_60 : decode cX7_estuary 60 = .ok (.aload_n 0, 1) := by decide +kernel
theorem dX7_estuary_61 : decode cX7_estuary 61 = .ok (.getfield 22, 3) := by decide +kernel
theorem dX7_estuary_64 : decode cX7_estuary 64 = .ok (.iconst 3, 1) := by decide +kernel
theorem dX7_estuary_65 : decode cX7_estuary 65 = .ok (.aload_n 0, 1) := by decide +kernel
theorem dX7_estuary_66 : decode cX7_estuary 66 = .ok (.iconst 0, 1) := by decide +kernel
theorem dX7_estuary_67 : decode cX7_estuary 67 = .ok (.aload_n 0, 1) := by decide +kernel
theorem dX7_estuary_68 : decode cX7_estuary 68 = .ok (.getfield 22, 3) := by decide +kernel
theorem dX7_estuary_71 : decode cX7_estuary 71 = .ok (.iconst 2, 1) := by decide +kernel
theorem dX7_estuary_72 : decode cX7_estuary 72 = .ok (.iaload, 1) := by decide +kernel
theorem dX7_estuary_73 : decode cX7_estuary 73 = .ok (.iconst 1, 1) := by decide +kernel
theorem dX7_estuary_74 : decode cX7_estuary 74 = .ok (.isub, 1) := by decide +kernel
theorem dX7_estuary_75 : decode cX7_estuary 75 = .ok (.invokevirtual 125, 3) := by decide +kernel
theorem dX7_estuary_78 : decode cX7_estuary 78 = .ok (.iastore, 1) := by decide +kernel
theorem dX7_estuary_79 : decode cX7_estuary 79 = .ok (.aload_n 0, 1) := by decide +kernel
theorem dX7_estuary_80 : decode cX7_estuary 80 = .ok (.bipush 44, 2) := by decide +kernel
theorem dX7_estuary_82 : decode cX7_estuary 82 = .ok (.invokevirtual 129, 3) := by decide +kernel
theorem dX7_estuary_85 : decode cX7_estuary 85 = .ok (.aload_n 0, 1) := by decide +kernel
theorem dX7_estuary_86 : decode cX7_estuary 86 = .ok (.getfield 22, 3) := by decide +kernel
theorem dX7_estuary_89 : decode cX7_estuary 89 = .ok (.iconst 4, 1) := by decide +kernel
theorem dX7_estuary_90 : decode cX7_estuary 90 = .ok (.aload_n 0, 1) := by decide +kernel
theorem dX7_estuary_91 : decode cX7_estuary 91 = .ok (.iconst 0, 1) := by decide +kernel
theorem dX7_estuary_92 : decode cX7_estuary 92 = .ok (.aload_n 0, 1) := by decide +kernel
theorem dX7_estuary_93 : decode cX7_estuary 93 = .ok (.getfield 22, 3) := by decide +kernel
theorem dX7_estuary_96 : decode cX7_estuary 96 = .ok (.iconst 2, 1) := by decide +kernel
theorem dX7_estuary_97 : decode cX7_estuary 97 = .ok (.iaload, 1) := by decide +kernel
theorem dX7_estuary_98 : decode cX7_estuary 98 = .ok (.iconst 1, 1) := by decide +kernel
theorem dX7_estuary_99 : decode cX7_estuary 99 = .ok (.isub, 1) := by decide +kernel
theorem dX7_estuary_100 : decode cX7_estuary 100 = .ok (.invokevirtual 125, 3) := by decide +kernel
theorem dX7_estuary_103 : decode cX7_estuary 103 = .ok (.iastore, 1) := by decide +kernel
theorem dX7_estuary_104 : decode cX7_estuary 104 = .ok (.aload_n 0, 1) := by decide +kernel
theorem dX7_estuary_105 : decode cX7_estuary 105 = .ok (.bipush 44, 2) := by decide +kernel
theorem dX7_estuary_107 : decode cX7_estuary 107 = .ok (.invokevirtual 129, 3) := by decide +kernel
theorem dX7_estuary_110 : decode cX7_estuary 110 = .ok (.aload_n 0, 1) := by decide +kernel
theorem dX7_estuary_111 : decode cX7_estuary 111 = .ok (.getfield 22, 3) := by decide +kernel
theorem dX7_estuary_114 : decode cX7_estuary 114 = .ok (.iconst 5, 1) := by decide +kernel
theorem dX7_estuary_115 : decode cX7_estuary 115 = .ok (.aload_n 0, 1) := by decide +kernel
theorem dX7_estuary_116 : decode cX7_estuary 116 = .ok (.iconst 0, 1) := by decide +kernel
theorem dX7_estuary_117 : decode cX7_estuary 117 = .ok (.bipush 15, 2) := by decide +kernel
theorem dX7_estuary_119 : decode cX7_estuary 119 = .ok (.invokevirtual 125, 3) := by decide +kernel
theorem dX7_estuary_122 : decode cX7_estuary 122 = .ok (.iastore, 1) := by decide +kernel
theorem dX7_estuary_123 : decode cX7_estuary 123 = .ok (.aload_n 0, 1) := by decide +kernel
theorem dX7_estuary_124 : decode cX7_estuary 124 = .ok (.bipush 59, 2) := by decide +kernel
theorem dX7_estuary_126 : decode cX7_estuary 126 = .ok (.invokevirtual 129, 3) := by decide +kernel
theorem dX7_estuary_129 : decode cX7_estuary 129 = .ok (.aload_n 0, 1) := by decide +kernel
theorem dX7_estuary_130 : decode cX7_estuary 130 = .ok (.invokevirtual 135, 3) := by decide +kernel
theorem dX7_estuary_133 : decode cX7_estuary 133 = .ok (.aload_n 0, 1) := by decide +kernel
theorem dX7_estuary_134 : decode cX7_estuary 134 = .ok (.bipush 103, 2) := by decide +kernel
theorem dX7_estuary_136 : decode cX7_estuary 136 = .ok (.invokevirtual 122, 3) := by decide +kernel
theorem dX7_estuary_139 : decode cX7_estuary 139 = .ok (.ifCond .eq 10, 3) := by decide +kernel
theorem dX7_estuary_142 : decode cX7_estuary 142 = .ok (.aload_n 0, 1) := by decide +kernel
theorem dX7_estuary_143 : decode cX7_estuary 143 = .ok (.invokevirtual 135, 3) := by decide +kernel
theorem dX7_estuary_146 : decode cX7_estuary 146 = .ok (.goto (-13), 3) := by decide +kernel
theorem dX7_estuary_149 : decode cX7_estuary 149 = .ok (.aload_n 0, 1) := by decide +kernel
theorem dX7_estuary_150 : decode cX7_estuary 150 = .ok (.invokevirtual 138, 3) := by decide +kernel
theorem dX7_estuary_153 : decode cX7_estuary 153 = .ok (.ifCond .ne 8, 3) := by decide +kernel
theorem dX7_estuary_156 : decode cX7_estuary 156 = .ok (.aload_n 0, 1) := by decide +kernel
theorem dX7_estuary_157 : decode cX7_estuary 157 = .ok (.iconst 1, 1) := by decide +kernel
theorem dX7_estuary_158 : decode cX7_estuary 158 = .ok (.invokevirtual 105, 3) := by decide +kernel
theorem dX7_estuary_161 : decode cX7_estuary 161 = .ok (.aload_n 0, 1) := by decide +kernel
theorem dX7_estuary_162 : decode cX7_estuary 162 = .ok (.invokevirtual 138, 3) := by decide +kernel
theorem dX7_estuary_165 : decode cX7_estuary 165 = .ok (.ifCond .eq 10, 3) := by decide +kernel
theorem dX7_estuary_168 : decode cX7_estuary 168 = .ok (.aload_n 0, 1) := by decide +kernel
theorem dX7_estuary_169 : decode cX7_estuary 169 = .ok (.invokevirtual 142, 3) := by decide +kernel
theorem dX7_estuary_172 : decode cX7_estuary 172 = .ok (.goto (-11), 3) := by decide +kernel
theorem dX7_estuary_175 : decode cX7_estuary 175 = .ok (.aload_n 0, 1) := by decide +kernel
theorem dX7_estuary_176 : decode cX7_estuary 176 = .ok (.invokevirtual 145, 3) := by decide +kernel
theorem dX7_estuary_179 : decode cX7_estuary 179 = .ok (.ifCond .eq 11, 3) := by decide +kernel
theorem dX7_estuary_182 : decode cX7_estuary 182 = .ok (.ldc 148, 2) := by decide +kernel
theorem dX7_estuary_184 : decode cX7_estuary 184 = .ok (.aload_n 0, 1) := by decide +kernel
theorem dX7_estuary_185 : decode cX7_estuary 185 = .ok (.getfield 84, 3) := by decide +kernel
theorem dX7_estuary_188 : decode cX7_estuary 188 = .ok (.isub, 1) := by decide +kernel
theorem dX7_estuary_189 : decode cX7_estuary 189 = .ok (.ireturn, 1) := by decide +kernel
theorem dX7_estuary_190 : decode cX7_estuary 190 = .ok (.aload_n 0, 1) := by decide +kernel
theorem dX7_estuary_191 : decode cX7_estuary 191 = .ok (.iconst 0, 1) := by decide +kernel
theorem dX7_estuary_192 : decode cX7_estuary 192 = .ok (.putfield 149, 3) := by decide +kernel
theorem dX7_estuary_195 : decode cX7_estuary 195 = .ok (.iconst 0, 1) := by decide +kernel
theorem dX7_estuary_196 : decode cX7_estuary 196 = .ok (.istore_n 1, 1) := by decide +kernel
theorem dX7_estuary_197 : decode cX7_estuary 197 = .ok (.iload_n 1, 1) := by decide +kernel
theorem dX7_estuary_198 : decode cX7_estuary 198 = .ok (.bipush 50, 2) := by decide +kernel
theorem dX7_estuary_200 : decode cX7_estuary 200 = .ok (.if_icmp .ge 21, 3) := by decide +kernel
theorem dX7_estuary_203 : decode cX7_estuary 203 = .ok (.aload_n 0, 1) := by decide +kernel
theorem dX7_estuary_204 : decode cX7_estuary 204 = .ok (.getfield 19, 3) := by decide +kernel
theorem dX7_estuary_207 : decode cX7_estuary 207 = .ok (.iload_n 1, 1) := by decide +kernel
theorem dX7_estuary_208 : decode cX7_estuary 208 = .ok (.aload_n 0, 1) := by decide +kernel
theorem dX7_estuary_209 : decode cX7_estuary 209 = .ok (.getfield 22, 3) := by decide +kernel
theorem dX7_estuary_212 : decode cX7_estuary 212 = .ok (.iload_n 1, 1) := by decide +kernel
theorem dX7_estuary_213 : decode cX7_estuary 213 = .ok (.iaload, 1) := by decide +kernel
theorem dX7_estuary_214 : decode cX7_estuary 214 = .ok (.iastore, 1) := by decide +kernel
theorem dX7_estuary_215 : decode cX7_estuary 215 = .ok (.iinc 1 1, 3) := by decide +kernel
theorem dX7_estuary_218 : decode cX7_estuary 218 = .ok (.goto (-21), 3) := by decide +kernel
theorem dX7_estuary_221 : decode cX7_estuary 221 = .ok (.aload_n 0, 1) := by decide +kernel
theorem dX7_estuary_222 : decode cX7_estuary 222 = .ok (.getfield 19, 3) := by decide +kernel
theorem dX7_estuary_225 : decode cX7_estuary 225 = .ok (.iconst 0, 1) := by decide +kernel
theorem dX7_estuary_226 : decode cX7_estuary 226 = .ok (.iaload, 1) := by decide +kernel
theorem dX7_estuary_227 : decode cX7_estuary 227 = .ok (.ireturn, 1) := by decide +kernel
theorem dX7_isThere_0 : decode cX7_isThere 0 = .ok (.aload_n 0, 1) := by decide +kernel
theorem dX7_isThere_1 : decode cX7_isThere 1 = .ok (.getfield 19, 3) := by decide +kernel
theorem dX7_isThere_4 : decode cX7_isThere 4 = .ok (.iconst 0, 1) := by decide +kernel
theorem dX7_isThere_5 : decode cX7_isThere 5 = .ok (.iaload, 1) := by decide +kernel
theorem dX7_isThere_6 : decode cX7_isThere 6 = .ok (.ifCond .le 7, 3) := by decide +kernel
theorem dX7_isThere_9 : decode cX7_isThere 9 = .ok (.iconst 1, 1) := by decide +kernel
theorem dX7_isThere_10 : decode cX7_isThere 10 = .ok (.goto 4, 3) := by decide +kernel
theorem dX7_isThere_13 : decode cX7_isThere 13 = .ok (.iconst 0, 1) := by decide +kernel
theorem dX7_isThere_14 : decode cX7_isThere 14 = .ok (.ireturn, 1) := by decide +kernel
theorem dX7_isSheet_0 : decode cX7_isSheet 0 = .ok (.iload_n 1, 1) := by decide +kernel
theorem dX7_isSheet_1 : decode cX7_isSheet 1 = .ok (.i2l, 1) := by decide +kernel
theorem dX7_isSheet_2 : decode cX7_isSheet 2 = .ok (.lconst 0, 1) := by decide +kernel
theorem dX7_isSheet_3 : decode cX7_isSheet 3 = .ok (.aload_n 0, 1) := by decide +kernel
theorem dX7_isSheet_4 : decode cX7_isSheet 4 = .ok (.getfield 19, 3) := by decide +kernel
theorem dX7_isSheet_7 : decode cX7_isSheet 7 = .ok (.iconst 0, 1) := by decide +kernel
theorem dX7_isSheet_8 : decode cX7_isSheet 8 = .ok (.iaload, 1) := by decide +kernel
theorem dX7_isSheet_9 : decode cX7_isSheet 9 = .ok (.iconst 1, 1) := by decide +kernel
theorem dX7_isSheet_10 : decode cX7_isSheet 10 = .ok (.isub, 1) := by decide +kernel
theorem dX7_isSheet_11 : decode cX7_isSheet 11 = .ok (.i2l, 1) := by decide +kernel
theorem dX7_isSheet_12 : decode cX7_isSheet 12 = .ok (.invokestatic 57, 3) := by decide +kernel
theorem dX7_isSheet_15 : decode cX7_isSheet 15 = .ok (.ireturn, 1) := by decide +kernel
theorem dX7_isWind_0 : decode cX7_isWind 0 = .ok (.iload_n 1, 1) := by decide +kernel
theorem dX7_isWind_1 : decode cX7_isWind 1 = .ok (.i2l, 1) := by decide +kernel
theorem dX7_isWind_2 : decode cX7_isWind 2 = .ok (.lconst 0, 1) := by decide +kernel
theorem dX7_isWind_3 : decode cX7_isWind 3 = .ok (.aload_n 0, 1) := by decide +kernel
theorem dX7_isWind_4 : decode cX7_isWind 4 = .ok (.getfield 19, 3) := by decide +kernel
theorem dX7_isWind_7 : decode cX7_isWind 7 = .ok (.iconst 1, 1) := by decide +kernel
theorem dX7_isWind_8 : decode cX7_isWind 8 = .ok (.iaload, 1) := by decide +kernel
theorem dX7_isWind_9 : decode cX7_isWind 9 = .ok (.iconst 1, 1) := by decide +kernel
theorem dX7_isWind_10 : decode cX7_isWind 10 = .ok (.isub, 1) := by decide +kernel
theorem dX7_isWind_11 : decode cX7_isWind 11 = .ok (.i2l, 1) := by decide +kernel
theorem dX7_isWind_12 : decode cX7_isWind 12 = .ok (.invokestatic 57, 3) := by decide +kernel
theorem dX7_isWind_15 : decode cX7_isWind 15 = .ok (.ireturn, 1) := by decide +kernel
theorem dX7_isCell_0 : decode cX7_isCell 0 = .ok (.iload_n 1, 1) := by decide +kernel
theorem dX7_isCell_1 : decode cX7_isCell 1 = .ok (.i2l, 1) := by decide +kernel
theorem dX7_isCell_2 : decode cX7_isCell 2 = .ok (.lconst 0, 1) := by decide +kernel
theorem dX7_isCell_3 : decode cX7_isCell 3 = .ok (.aload_n 0, 1) := by decide +kernel
theorem dX7_isCell_4 : decode cX7_isCell 4 = .ok (.getfield 19, 3) := by decide +kernel
theorem dX7_isCell_7 : decode cX7_isCell 7 = .ok (.iconst 2, 1) := by decide +kernel
theorem dX7_isCell_8 : decode cX7_isCell 8 = .ok (.iaload, 1) := by decide +kernel
theorem dX7_isCell_9 : decode cX7_isCell 9 = .ok (.iconst 1, 1) := by decide +kernel
theorem dX7_isCell_10 : decode cX7_isCell 10 = .ok (.isub, 1) := by decide +kernel
theorem dX7_isCell_11 : decode cX7_isCell 11 = .ok (.i2l, 1) := by decide +kernel
theorem dX7_isCell_12 : decode cX7_isCell 12 = .ok (.invokestatic 57, 3) := by decide +kernel
theorem dX7_isCell_15 : decode cX7_isCell 15 = .ok (.ireturn, 1) := by decide +kernel
theorem dX7_bits_0 : decode cX7_bits 0 = .ok (.iconst 0, 1) := by decide +kernel
theorem dX7_bits_1 : decode cX7_bits 1 = .ok (.istore_n 1, 1) := by decide +kernel
theorem dX7_bits_2 : decode cX7_bits 2 = .ok (.iconst 0, 1) := by decide +kernel
theorem dX7_bits_3 : decode cX7_bits 3 = .ok (.istore_n 2, 1) := by decide +kernel
theorem dX7_bits_4 : decode cX7_bits 4 = .ok (.iload_n 2, 1) := by decide +kernel
theorem dX7_bits_5 : decode cX7_bits 5 = .ok (.bipush 6, 2) := by decide +kernel
theorem dX7_bits_7 : decode cX7_bits 7 = .ok (.if_icmp .ge 17, 3) := by decide +kernel
theorem dX7_bits_10 : decode cX7_bits 10 = .ok (.iload_n 1, 1) := by decide +kernel
theorem dX7_bits_11 : decode cX7_bits 11 = .ok (.iload_n 0, 1) := by decide +kernel
theorem dX7_bits_12 : decode cX7_bits 12 = .ok (.iload_n 2, 1) := by decide +kernel
theorem dX7_bits_13 : decode cX7_bits 13 = .ok (.ishr, 1) := by decide +kernel
theorem dX7_bits_14 : decode cX7_bits 14 = .ok (.iconst 1, 1) := by decide +kernel
theorem dX7_bits_15 : decode cX7_bits 15 = .ok (.iand, 1) := by decide +kernel
theorem dX7_bits_16 : decode cX7_bits 16 = .ok (.iadd, 1) := by decide +kernel
theorem dX7_bits_17 : decode cX7_bits 17 = .ok (.istore_n 1, 1) := by decide +kernel
theorem dX7_bits_18 : decode cX7_bits 18 = .ok (.iinc 2 1, 3) := by decide +kernel
theorem dX7_bits_21 : decode cX7_bits 21 = .ok (.goto (-17), 3) := by decide +kernel
theorem dX7_bits_24 : decode cX7_bits 24 = .ok (.iload_n 1, 1) := by decide +kernel
theorem dX7_bits_25 : decode cX7_bits 25 = .ok (.ireturn, 1) := by decide +kernel
theorem dX7_has_0 : decode cX7_has 0 = .ok (.iload_n 0, 1) := by decide +kernel
theorem dX7_has_1 : decode cX7_has 1 = .ok (.iload_n 1, 1) := by decide +kernel
theorem dX7_has_2 : decode cX7_has 2 = .ok (.ishr, 1) := by decide +kernel
theorem dX7_has_3 : decode cX7_has 3 = .ok (.iconst 1, 1) := by decide +kernel
theorem dX7_has_4 : decode cX7_has 4 = .ok (.iand, 1) := by decide +kernel
theorem dX7_has_5 : decode cX7_has 5 = .ok (.iconst 1, 1) := by decide +kernel
theorem dX7_has_6 : decode cX7_has 6 = .ok (.if_icmp .ne 7, 3) := by decide +kernel
theorem dX7_has_9 : decode cX7_has 9 = .ok (.iconst 1, 1) := by decide +kernel
theorem dX7_has_10 : decode cX7_has 10 = .ok (.goto 4, 3) := by decide +kernel
theorem dX7_has_13 : decode cX7_has 13 = .ok (.iconst 0, 1) := by decide +kernel
theorem dX7_has_14 : decode cX7_has 14 = .ok (.ireturn, 1) := by decide +kernel
theorem dX7_of_0 : decode cX7_of 0 = .ok (.aload_n 0, 1) := by decide +kernel
theorem dX7_of_1 : decode cX7_of 1 = .ok (.bipush 14, 2) := by decide +kernel
theorem dX7_of_3 : decode cX7_of 3 = .ok (.bipush 6, 2) := by decide +kernel
theorem dX7_of_5 : decode cX7_of 5 = .ok (.iload_n 1, 1) := by decide +kernel
theorem dX7_of_6 : decode cX7_of 6 = .ok (.imul, 1) := by decide +kernel
theorem dX7_of_7 : decode cX7_of 7 = .ok (.iadd, 1) := by decide +kernel
theorem dX7_of_8 : decode cX7_of 8 = .ok (.iload_n 2, 1) := by decide +kernel
theorem dX7_of_9 : decode cX7_of 9 = .ok (.iadd, 1) := by decide +kernel
theorem dX7_of_10 : decode cX7_of 10 = .ok (.iaload, 1) := by decide +kernel
theorem dX7_of_11 : decode cX7_of 11 = .ok (.ireturn, 1) := by decide +kernel
theorem dX7_be_0 : decode cX7_be 0 = .ok (.aload_n 0, 1) := by decide +kernel
theorem dX7_be_1 : decode cX7_be 1 = .ok (.bipush 14, 2) := by decide +kernel
theorem dX7_be_3 : decode cX7_be 3 = .ok (.bipush 6, 2) := by decide +kernel
theorem dX7_be_5 : decode cX7_be 5 = .ok (.iload_n 1, 1) := by decide +kernel
theorem dX7_be_6 : decode cX7_be 6 = .ok (.imul, 1) := by decide +kernel
theorem dX7_be_7 : decode cX7_be 7 = .ok (.iadd, 1) := by decide +kernel
theorem dX7_be_8 : decode cX7_be 8 = .ok (.iload_n 2, 1) := by decide +kernel
theorem dX7_be_9 : decode cX7_be 9 = .ok (.iadd, 1) := by decide +kernel
theorem dX7_be_10 : decode cX7_be 10 = .ok (.iload_n 3, 1) := by decide +kernel
theorem dX7_be_11 : decode cX7_be 11 = .ok (.iastore, 1) := by decide +kernel
theorem dX7_be_12 : decode cX7_be 12 = .ok (.return_, 1) := by decide +kernel
theorem dX7_isIn_0 : decode cX7_isIn 0 = .ok (.aload_n 0, 1) := by decide +kernel
theorem dX7_isIn_1 : decode cX7_isIn 1 = .ok (.iload_n 1, 1) := by decide +kernel
theorem dX7_isIn_2 : decode cX7_isIn 2 = .ok (.iconst 5, 1) := by decide +kernel
theorem dX7_isIn_3 : decode cX7_isIn 3 = .ok (.invokestatic 152, 3) := by decide +kernel
theorem dX7_isIn_6 : decode cX7_isIn 6 = .ok (.iconst 1, 1) := by decide +kernel
theorem dX7_isIn_7 : decode cX7_isIn 7 = .ok (.if_icmp .ne 7, 3) := by decide +kernel
theorem dX7_isIn_10 : decode cX7_isIn 10 = .ok (.iconst 1, 1) := by decide +kernel
theorem dX7_isIn_11 : decode cX7_isIn 11 = .ok (.goto 4, 3) := by decide +kernel
theorem dX7_isIn_14 : decode cX7_isIn 14 = .ok (.iconst 0, 1) := by decide +kernel
theorem dX7_isIn_15 : decode cX7_isIn 15 = .ok (.ireturn, 1) := by decide +kernel
theorem dX7_windOf_0 : decode cX7_windOf 0 = .ok (.aload_n 0, 1) := by decide +kernel
theorem dX7_windOf_1 : decode cX7_windOf 1 = .ok (.bipush 8, 2) := by decide +kernel
theorem dX7_windOf_3 : decode cX7_windOf 3 = .ok (.aload_n 0, 1) := by decide +kernel
theorem dX7_windOf_4 : decode cX7_windOf 4 = .ok (.bipush 6, 2) := by decide +kernel
theorem dX7_windOf_6 : decode cX7_windOf 6 = .ok (.iaload, 1) := by decide +kernel
theorem dX7_windOf_7 : decode cX7_windOf 7 = .ok (.aload_n 0, 1) := by decide +kernel
theorem dX7_windOf_8 : decode cX7_windOf 8 = .ok (.iconst 1, 1) := by decide +kernel
theorem dX7_windOf_9 : decode cX7_windOf 9 = .ok (.iaload, 1) := by decide +kernel
theorem dX7_windOf_10 : decode cX7_windOf 10 = .ok (.irem, 1) := by decide +kernel
theorem dX7_windOf_11 : decode cX7_windOf 11 = .ok (.iadd, 1) := by decide +kernel
theorem dX7_windOf_12 : decode cX7_windOf 12 = .ok (.iaload, 1) := by decide +kernel
theorem dX7_windOf_13 : decode cX7_windOf 13 = .ok (.ireturn, 1) := by decide +kernel
theorem dX7_cellsOf_0 : decode cX7_cellsOf 0 = .ok (.iconst 0, 1) := by decide +kernel
theorem dX7_cellsOf_1 : decode cX7_cellsOf 1 = .ok (.istore_n 3, 1) := by decide +kernel
theorem dX7_cellsOf_2 : decode cX7_cellsOf 2 = .ok (.iconst 0, 1) := by decide +kernel
theorem dX7_cellsOf_3 : decode cX7_cellsOf 3 = .ok (.istore 4, 2) := by decide +kernel
theorem dX7_cellsOf_5 : decode cX7_cellsOf 5 = .ok (.iload 4, 2) := by decide +kernel
theorem dX7_cellsOf_7 : decode cX7_cellsOf 7 = .ok (.aload_n 0, 1) := by decide +kernel
theorem dX7_cellsOf_8 : decode cX7_cellsOf 8 = .ok (.iconst 2, 1) := by decide +kernel
theorem dX7_cellsOf_9 : decode cX7_cellsOf 9 = .ok (.iaload, 1) := by decide +kernel
theorem dX7_cellsOf_10 : decode cX7_cellsOf 10 = .ok (.if_icmp .ge 34, 3) := by decide +kernel
theorem dX7_cellsOf_13 : decode cX7_cellsOf 13 = .ok (.iload_n 3, 1) := by decide +kernel
theorem dX7_cellsOf_14 : decode cX7_cellsOf 14 = .ok (.iload 4, 2) := by decide +kernel
theorem dX7_cellsOf_16 : decode cX7_cellsOf 16 = .ok (.iload_n 1, 1) := by decide +kernel
theorem dX7_cellsOf_17 : decode cX7_cellsOf 17 = .ok (.if_icmp .lt 18, 3) := by decide +kernel
theorem dX7_cellsOf_20 : decode cX7_cellsOf 20 = .ok (.iload 4, 2) := by decide +kernel
theorem dX7_cellsOf_22 : decode cX7_cellsOf 22 = .ok (.iload_n 1, 1) := by decide +kernel
theorem dX7_cellsOf_23 : decode cX7_cellsOf 23 = .ok (.iload_n 2, 1) := by decide +kernel
theorem dX7_cellsOf_24 : decode cX7_cellsOf 24 = .ok (.iadd, 1) := by decide +kernel
theorem dX7_cellsOf_25 : decode cX7_cellsOf 25 = .ok (.if_icmp .ge 10, 3) := by decide +kernel
theorem dX7_cellsOf_28 : decode cX7_cellsOf 28 = .ok (.iconst 1, 1) := by decide +kernel
theorem dX7_cellsOf_29 : decode cX7_cellsOf 29 = .ok (.iload 4, 2) := by decide +kernel
theorem dX7_cellsOf_31 : decode cX7_cellsOf 31 = .ok (.ishl, 1) := by decide +kernel
theorem dX7_cellsOf_32 : decode cX7_cellsOf 32 = .ok (.goto 4, 3) := by decide +kernel
theorem dX7_cellsOf_35 : decode cX7_cellsOf 35 = .ok (.iconst 0, 1) := by decide +kernel
theorem dX7_cellsOf_36 : decode cX7_cellsOf 36 = .ok (.ior, 1) := by decide +kernel
theorem dX7_cellsOf_37 : decode cX7_cellsOf 37 = .ok (.istore_n 3, 1) := by decide +kernel
theorem dX7_cellsOf_38 : decode cX7_cellsOf 38 = .ok (.iinc 4 1, 3) := by decide +kernel
theorem dX7_cellsOf_41 : decode cX7_cellsOf 41 = .ok (.goto (-36), 3) := by decide +kernel
theorem dX7_cellsOf_44 : decode cX7_cellsOf 44 = .ok (.iload_n 3, 1) := by decide +kernel
theorem dX7_cellsOf_45 : decode cX7_cellsOf 45 = .ok (.ireturn, 1) := by decide +kernel
theorem dX7_liesOn_0 : decode cX7_liesOn 0 = .ok (.aload_n 0, 1) := by decide +kernel
theorem dX7_liesOn_1 : decode cX7_liesOn 1 = .ok (.iload_n 1, 1) := by decide +kernel
theorem dX7_liesOn_2 : decode cX7_liesOn 2 = .ok (.invokestatic 156, 3) := by decide +kernel
theorem dX7_liesOn_5 : decode cX7_liesOn 5 = .ok (.ifCond .eq 22, 3) := by decide +kernel
theorem dX7_liesOn_8 : decode cX7_liesOn 8 = .ok (.aload_n 0, 1) := by decide +kernel
theorem dX7_liesOn_9 : decode cX7_liesOn 9 = .ok (.aload_n 0, 1) := by decide +kernel
theorem dX7_liesOn_10 : decode cX7_liesOn 10 = .ok (.iload_n 1, 1) := by decide +kernel
theorem dX7_liesOn_11 : decode cX7_liesOn 11 = .ok (.iconst 1, 1) := by decide +kernel
theorem dX7_liesOn_12 : decode cX7_liesOn 12 = .ok (.invokestatic 152, 3) := by decide +kernel
theorem dX7_liesOn_15 : decode cX7_liesOn 15 = .ok (.aload_n 0, 1) := by decide +kernel
theorem dX7_liesOn_16 : decode cX7_liesOn 16 = .ok (.iload_n 1, 1) := by decide +kernel
theorem dX7_liesOn_17 : decode cX7_liesOn 17 = .ok (.iconst 2, 1) := by decide +kernel
theorem dX7_liesOn_18 : decode cX7_liesOn 18 = .ok (.invokestatic 152, 3) := by decide +kernel
theorem dX7_liesOn_21 : decode cX7_liesOn 21 = .ok (.invokestatic 160, 3) := by decide +kernel
theorem dX7_liesOn_24 : decode cX7_liesOn 24 = .ok (.goto 4, 3) := by decide +kernel
theorem dX7_liesOn_27 : decode cX7_liesOn 27 = .ok (.iconst 0, 1) := by decide +kernel
theorem dX7_liesOn_28 : decode cX7_liesOn 28 = .ok (.ireturn, 1) := by decide +kernel
theorem dX7_drift_0 : decode cX7_drift 0 = .ok (.aload_n 0, 1) := by decide +kernel
theorem dX7_drift_1 : decode cX7_drift 1 = .ok (.bipush 6, 2) := by decide +kernel
theorem dX7_drift_3 : decode cX7_drift 3 = .ok (.iaload, 1) := by decide +kernel
theorem dX7_drift_4 : decode cX7_drift 4 = .ok (.iconst 2, 1) := by decide +kernel
theorem dX7_drift_5 : decode cX7_drift 5 = .ok (.irem, 1) := by decide +kernel
theorem dX7_drift_6 : decode cX7_drift 6 = .ok (.iconst 1, 1) := by decide +kernel
theorem dX7_drift_7 : decode cX7_drift 7 = .ok (.if_icmp .ne 7, 3) := by decide +kernel
theorem dX7_drift_10 : decode cX7_drift 10 = .ok (.iconst 1, 1) := by decide +kernel
theorem dX7_drift_11 : decode cX7_drift 11 = .ok (.goto 4, 3) := by decide +kernel
theorem dX7_drift_14 : decode cX7_drift 14 = .ok (.iconst 0, 1) := by decide +kernel
theorem dX7_drift_15 : decode cX7_drift 15 = .ok (.istore_n 3, 1) := by decide +kernel
theorem dX7_drift_16 : decode cX7_drift 16 = .ok (.aload_n 0, 1) := by decide +kernel
theorem dX7_drift_17 : decode cX7_drift 17 = .ok (.iload_n 1, 1) := by decide +kernel
theorem dX7_drift_18 : decode cX7_drift 18 = .ok (.iconst 1, 1) := by decide +kernel
end
section
theorem dX7_drift_19 : decode cX7_drift 19 = .ok (.invokestatic 152, 3) := by decide +kernel
theorem dX7_drift_22 : decode cX7_drift 22 = .ok (.istore 4, 2) := by decide +kernel
theorem dX7_drift_24 : decode cX7_drift 24 = .ok (.aload_n 0, 1) := by decide +kernel
theorem dX7_drift_25 : decode cX7_drift 25 = .ok (.iload_n 1, 1) := by decide +kernel
theorem dX7_drift_26 : decode cX7_drift 26 = .ok (.iconst 3, 1) := by decide +kernel
theorem dX7_drift_27 : decode cX7_drift 27 = .ok (.invokestatic 152, 3) := by decide +kernel
theorem dX7_drift_30 : decode cX7_drift 30 = .ok (.istore 5, 2) := by decide +kernel
theorem dX7_drift_32 : decode cX7_drift 32 = .ok (.iload_n 3, 1) := by decide +kernel
theorem dX7_drift_33 : decode cX7_drift 33 = .ok (.ifCond .eq 7, 3) := by decide +kernel
theorem dX7_drift_36 : decode cX7_drift 36 = .ok (.iconst 1, 1) := by decide +kernel
theorem dX7_drift_37 : decode cX7_drift 37 = .ok (.goto 4, 3) := by decide +kernel
theorem dX7_drift_40 : decode cX7_drift 40 = .ok (.iconst 0, 1) := by decide +kernel
theorem dX7_drift_41 : decode cX7_drift 41 = .ok (.istore 6, 2) := by decide +kernel
theorem dX7_drift_43 : decode cX7_drift 43 = .ok (.aload_n 0, 1) := by decide +kernel
theorem dX7_drift_44 : decode cX7_drift 44 = .ok (.iload_n 1, 1) := by decide +kernel
theorem dX7_drift_45 : decode cX7_drift 45 = .ok (.iconst 0, 1) := by decide +kernel
theorem dX7_drift_46 : decode cX7_drift 46 = .ok (.invokestatic 152, 3) := by decide +kernel
theorem dX7_drift_49 : decode cX7_drift 49 = .ok (.tableswitch 82 1 4 #[31, 40, 51, 65], 31) := by decide +kernel
theorem dX7_drift_80 : decode cX7_drift 80 = .ok (.iload 4, 2) := by decide +kernel
theorem dX7_drift_82 : decode cX7_drift 82 = .ok (.iload_n 2, 1) := by decide +kernel
theorem dX7_drift_83 : decode cX7_drift 83 = .ok (.iadd, 1) := by decide +kernel
theorem dX7_drift_84 : decode cX7_drift 84 = .ok (.istore 4, 2) := by decide +kernel
theorem dX7_drift_86 : decode cX7_drift 86 = .ok (.goto 67, 3) := by decide +kernel
theorem dX7_drift_89 : decode cX7_drift 89 = .ok (.iload 4, 2) := by decide +kernel
theorem dX7_drift_91 : decode cX7_drift 91 = .ok (.iload_n 2, 1) := by decide +kernel
theorem dX7_drift_92 : decode cX7_drift 92 = .ok (.iconst 2, 1) := by decide +kernel
theorem dX7_drift_93 : decode cX7_drift 93 = .ok (.idiv, 1) := by decide +kernel
theorem dX7_drift_94 : decode cX7_drift 94 = .ok (.iadd, 1) := by decide +kernel
theorem dX7_drift_95 : decode cX7_drift 95 = .ok (.istore 4, 2) := by decide +kernel
theorem dX7_drift_97 : decode cX7_drift 97 = .ok (.goto 56, 3) := by decide +kernel
theorem dX7_drift_100 : decode cX7_drift 100 = .ok (.iload 4, 2) := by decide +kernel
theorem dX7_drift_102 : decode cX7_drift 102 = .ok (.iconst 2, 1) := by decide +kernel
theorem dX7_drift_103 : decode cX7_drift 103 = .ok (.iload_n 2, 1) := by decide +kernel
theorem dX7_drift_104 : decode cX7_drift 104 = .ok (.imul, 1) := by decide +kernel
theorem dX7_drift_105 : decode cX7_drift 105 = .ok (.iadd, 1) := by decide +kernel
theorem dX7_drift_106 : decode cX7_drift 106 = .ok (.istore 4, 2) := by decide +kernel
theorem dX7_drift_108 : decode cX7_drift 108 = .ok (.iinc 6 1, 3) := by decide +kernel
theorem dX7_drift_111 : decode cX7_drift 111 = .ok (.goto 42, 3) := by decide +kernel
theorem dX7_drift_114 : decode cX7_drift 114 = .ok (.iinc 4 (-1), 3) := by decide +kernel
theorem dX7_drift_117 : decode cX7_drift 117 = .ok (.iload_n 2, 1) := by decide +kernel
theorem dX7_drift_118 : decode cX7_drift 118 = .ok (.ifCond .ne 7, 3) := by decide +kernel
theorem dX7_drift_121 : decode cX7_drift 121 = .ok (.iconst 0, 1) := by decide +kernel
theorem dX7_drift_122 : decode cX7_drift 122 = .ok (.goto 4, 3) := by decide +kernel
theorem dX7_drift_125 : decode cX7_drift 125 = .ok (.iconst 1, 1) := by decide +kernel
theorem dX7_drift_126 : decode cX7_drift 126 = .ok (.istore 6, 2) := by decide +kernel
theorem dX7_drift_128 : decode cX7_drift 128 = .ok (.goto 25, 3) := by decide +kernel
theorem dX7_drift_131 : decode cX7_drift 131 = .ok (.iload_n 2, 1) := by decide +kernel
theorem dX7_drift_132 : decode cX7_drift 132 = .ok (.ifCond .ne 18, 3) := by decide +kernel
theorem dX7_drift_135 : decode cX7_drift 135 = .ok (.iload 5, 2) := by decide +kernel
theorem dX7_drift_137 : decode cX7_drift 137 = .ok (.bipush 9, 2) := by decide +kernel
theorem dX7_drift_139 : decode cX7_drift 139 = .ok (.if_icmp .ge 7, 3) := by decide +kernel
theorem dX7_drift_142 : decode cX7_drift 142 = .ok (.iconst (-1), 1) := by decide +kernel
theorem dX7_drift_143 : decode cX7_drift 143 = .ok (.goto 8, 3) := by decide +kernel
theorem dX7_drift_146 : decode cX7_drift 146 = .ok (.iconst 0, 1) := by decide +kernel
theorem dX7_drift_147 : decode cX7_drift 147 = .ok (.goto 4, 3) := by decide +kernel
theorem dX7_drift_150 : decode cX7_drift 150 = .ok (.iconst 1, 1) := by decide +kernel
theorem dX7_drift_151 : decode cX7_drift 151 = .ok (.istore 6, 2) := by decide +kernel
theorem dX7_drift_153 : decode cX7_drift 153 = .ok (.iload 5, 2) := by decide +kernel
theorem dX7_drift_155 : decode cX7_drift 155 = .ok (.iload 6, 2) := by decide +kernel
theorem dX7_drift_157 : decode cX7_drift 157 = .ok (.isub, 1) := by decide +kernel
theorem dX7_drift_158 : decode cX7_drift 158 = .ok (.istore 5, 2) := by decide +kernel
theorem dX7_drift_160 : decode cX7_drift 160 = .ok (.iload 5, 2) := by decide +kernel
theorem dX7_drift_162 : decode cX7_drift 162 = .ok (.ifCond .le 18, 3) := by decide +kernel
theorem dX7_drift_165 : decode cX7_drift 165 = .ok (.aload_n 0, 1) := by decide +kernel
theorem dX7_drift_166 : decode cX7_drift 166 = .ok (.iload 4, 2) := by decide +kernel
theorem dX7_drift_168 : decode cX7_drift 168 = .ok (.aload_n 0, 1) := by decide +kernel
theorem dX7_drift_169 : decode cX7_drift 169 = .ok (.iload_n 1, 1) := by decide +kernel
theorem dX7_drift_170 : decode cX7_drift 170 = .ok (.iconst 2, 1) := by decide +kernel
theorem dX7_drift_171 : decode cX7_drift 171 = .ok (.invokestatic 152, 3) := by decide +kernel
theorem dX7_drift_174 : decode cX7_drift 174 = .ok (.invokestatic 160, 3) := by decide +kernel
theorem dX7_drift_177 : decode cX7_drift 177 = .ok (.ifCond .ne 11, 3) := by decide +kernel
theorem dX7_drift_180 : decode cX7_drift 180 = .ok (.aload_n 0, 1) := by decide +kernel
theorem dX7_drift_181 : decode cX7_drift 181 = .ok (.iload_n 1, 1) := by decide +kernel
theorem dX7_drift_182 : decode cX7_drift 182 = .ok (.iconst 5, 1) := by decide +kernel
theorem dX7_drift_183 : decode cX7_drift 183 = .ok (.iconst 0, 1) := by decide +kernel
theorem dX7_drift_184 : decode cX7_drift 184 = .ok (.invokestatic 163, 3) := by decide +kernel
theorem dX7_drift_187 : decode cX7_drift 187 = .ok (.return_, 1) := by decide +kernel
theorem dX7_drift_188 : decode cX7_drift 188 = .ok (.aload_n 0, 1) := by decide +kernel
theorem dX7_drift_189 : decode cX7_drift 189 = .ok (.iload_n 1, 1) := by decide +kernel
theorem dX7_drift_190 : decode cX7_drift 190 = .ok (.iconst 1, 1) := by decide +kernel
theorem dX7_drift_191 : decode cX7_drift 191 = .ok (.iload 4, 2) := by decide +kernel
theorem dX7_drift_193 : decode cX7_drift 193 = .ok (.invokestatic 163, 3) := by decide +kernel
theorem dX7_drift_196 : decode cX7_drift 196 = .ok (.aload_n 0, 1) := by decide +kernel
theorem dX7_drift_197 : decode cX7_drift 197 = .ok (.iload_n 1, 1) := by decide +kernel
theorem dX7_drift_198 : decode cX7_drift 198 = .ok (.iconst 3, 1) := by decide +kernel
theorem dX7_drift_199 : decode cX7_drift 199 = .ok (.iload 5, 2) := by decide +kernel
theorem dX7_drift_201 : decode cX7_drift 201 = .ok (.invokestatic 163, 3) := by decide +kernel
theorem dX7_drift_204 : decode cX7_drift 204 = .ok (.return_, 1) := by decide +kernel
theorem dX7_hourOf_0 : decode cX7_hourOf 0 = .ok (.aload_n 0, 1) := by decide +kernel
theorem dX7_hourOf_1 : decode cX7_hourOf 1 = .ok (.invokestatic 167, 3) := by decide +kernel
theorem dX7_hourOf_4 : decode cX7_hourOf 4 = .ok (.iconst 2, 1) := by decide +kernel
theorem dX7_hourOf_5 : decode cX7_hourOf 5 = .ok (.isub, 1) := by decide +kernel
theorem dX7_hourOf_6 : decode cX7_hourOf 6 = .ok (.istore_n 1, 1) := by decide +kernel
theorem dX7_hourOf_7 : decode cX7_hourOf 7 = .ok (.iconst 0, 1) := by decide +kernel
theorem dX7_hourOf_8 : decode cX7_hourOf 8 = .ok (.istore_n 2, 1) := by decide +kernel
theorem dX7_hourOf_9 : decode cX7_hourOf 9 = .ok (.iload_n 2, 1) := by decide +kernel
theorem dX7_hourOf_10 : decode cX7_hourOf 10 = .ok (.aload_n 0, 1) := by decide +kernel
theorem dX7_hourOf_11 : decode cX7_hourOf 11 = .ok (.iconst 0, 1) := by decide +kernel
theorem dX7_hourOf_12 : decode cX7_hourOf 12 = .ok (.iaload, 1) := by decide +kernel
theorem dX7_hourOf_13 : decode cX7_hourOf 13 = .ok (.if_icmp .ge 23, 3) := by decide +kernel
theorem dX7_hourOf_16 : decode cX7_hourOf 16 = .ok (.aload_n 0, 1) := by decide +kernel
theorem dX7_hourOf_17 : decode cX7_hourOf 17 = .ok (.iload_n 2, 1) := by decide +kernel
theorem dX7_hourOf_18 : decode cX7_hourOf 18 = .ok (.invokestatic 156, 3) := by decide +kernel
theorem dX7_hourOf_21 : decode cX7_hourOf 21 = .ok (.ifCond .eq 9, 3) := by decide +kernel
theorem dX7_hourOf_24 : decode cX7_hourOf 24 = .ok (.aload_n 0, 1) := by decide +kernel
theorem dX7_hourOf_25 : decode cX7_hourOf 25 = .ok (.iload_n 2, 1) := by decide +kernel
theorem dX7_hourOf_26 : decode cX7_hourOf 26 = .ok (.iload_n 1, 1) := by decide +kernel
theorem dX7_hourOf_27 : decode cX7_hourOf 27 = .ok (.invokestatic 171, 3) := by decide +kernel
theorem dX7_hourOf_30 : decode cX7_hourOf 30 = .ok (.iinc 2 1, 3) := by decide +kernel
theorem dX7_hourOf_33 : decode cX7_hourOf 33 = .ok (.goto (-24), 3) := by decide +kernel
theorem dX7_hourOf_36 : decode cX7_hourOf 36 = .ok (.iconst 0, 1) := by decide +kernel
theorem dX7_hourOf_37 : decode cX7_hourOf 37 = .ok (.istore_n 2, 1) := by decide +kernel
theorem dX7_hourOf_38 : decode cX7_hourOf 38 = .ok (.iload_n 2, 1) := by decide +kernel
theorem dX7_hourOf_39 : decode cX7_hourOf 39 = .ok (.aload_n 0, 1) := by decide +kernel
theorem dX7_hourOf_40 : decode cX7_hourOf 40 = .ok (.iconst 0, 1) := by decide +kernel
theorem dX7_hourOf_41 : decode cX7_hourOf 41 = .ok (.iaload, 1) := by decide +kernel
theorem dX7_hourOf_42 : decode cX7_hourOf 42 = .ok (.if_icmp .ge 65, 3) := by decide +kernel
theorem dX7_hourOf_45 : decode cX7_hourOf 45 = .ok (.aload_n 0, 1) := by decide +kernel
theorem dX7_hourOf_46 : decode cX7_hourOf 46 = .ok (.iconst 5, 1) := by decide +kernel
theorem dX7_hourOf_47 : decode cX7_hourOf 47 = .ok (.iaload, 1) := by decide +kernel
theorem dX7_hourOf_48 : decode cX7_hourOf 48 = .ok (.aload_n 0, 1) := by decide +kernel
theorem dX7_hourOf_49 : decode cX7_hourOf 49 = .ok (.bipush 6, 2) := by decide +kernel
theorem dX7_hourOf_51 : decode cX7_hourOf 51 = .ok (.iaload, 1) := by decide +kernel
theorem dX7_hourOf_52 : decode cX7_hourOf 52 = .ok (.iconst 4, 1) := by decide +kernel
theorem dX7_hourOf_53 : decode cX7_hourOf 53 = .ok (.irem, 1) := by decide +kernel
theorem dX7_hourOf_54 : decode cX7_hourOf 54 = .ok (.invokestatic 175, 3) := by decide +kernel
theorem dX7_hourOf_57 : decode cX7_hourOf 57 = .ok (.ifCond .eq 50, 3) := by decide +kernel
theorem dX7_hourOf_60 : decode cX7_hourOf 60 = .ok (.aload_n 0, 1) := by decide +kernel
theorem dX7_hourOf_61 : decode cX7_hourOf 61 = .ok (.iload_n 2, 1) := by decide +kernel
theorem dX7_hourOf_62 : decode cX7_hourOf 62 = .ok (.invokestatic 179, 3) := by decide +kernel
theorem dX7_hourOf_65 : decode cX7_hourOf 65 = .ok (.aload_n 0, 1) := by decide +kernel
theorem dX7_hourOf_66 : decode cX7_hourOf 66 = .ok (.iconst 3, 1) := by decide +kernel
theorem dX7_hourOf_67 : decode cX7_hourOf 67 = .ok (.iaload, 1) := by decide +kernel
theorem dX7_hourOf_68 : decode cX7_hourOf 68 = .ok (.invokestatic 175, 3) := by decide +kernel
theorem dX7_hourOf_71 : decode cX7_hourOf 71 = .ok (.ifCond .eq 30, 3) := by decide +kernel
theorem dX7_hourOf_74 : decode cX7_hourOf 74 = .ok (.aload_n 0, 1) := by decide +kernel
theorem dX7_hourOf_75 : decode cX7_hourOf 75 = .ok (.iload_n 2, 1) := by decide +kernel
theorem dX7_hourOf_76 : decode cX7_hourOf 76 = .ok (.iconst 4, 1) := by decide +kernel
theorem dX7_hourOf_77 : decode cX7_hourOf 77 = .ok (.invokestatic 152, 3) := by decide +kernel
theorem dX7_hourOf_80 : decode cX7_hourOf 80 = .ok (.ifCond .ne 21, 3) := by decide +kernel
theorem dX7_hourOf_83 : decode cX7_hourOf 83 = .ok (.aload_n 0, 1) := by decide +kernel
theorem dX7_hourOf_84 : decode cX7_hourOf 84 = .ok (.bipush 7, 2) := by decide +kernel
theorem dX7_hourOf_86 : decode cX7_hourOf 86 = .ok (.dup2, 1) := by decide +kernel
theorem dX7_hourOf_87 : decode cX7_hourOf 87 = .ok (.iaload, 1) := by decide +kernel
theorem dX7_hourOf_88 : decode cX7_hourOf 88 = .ok (.iconst 1, 1) := by decide +kernel
theorem dX7_hourOf_89 : decode cX7_hourOf 89 = .ok (.iadd, 1) := by decide +kernel
theorem dX7_hourOf_90 : decode cX7_hourOf 90 = .ok (.iastore, 1) := by decide +kernel
theorem dX7_hourOf_91 : decode cX7_hourOf 91 = .ok (.aload_n 0, 1) := by decide +kernel
theorem dX7_hourOf_92 : decode cX7_hourOf 92 = .ok (.iload_n 2, 1) := by decide +kernel
theorem dX7_hourOf_93 : decode cX7_hourOf 93 = .ok (.iconst 4, 1) := by decide +kernel
theorem dX7_hourOf_94 : decode cX7_hourOf 94 = .ok (.aload_n 0, 1) := by decide +kernel
theorem dX7_hourOf_95 : decode cX7_hourOf 95 = .ok (.bipush 7, 2) := by decide +kernel
theorem dX7_hourOf_97 : decode cX7_hourOf 97 = .ok (.iaload, 1) := by decide +kernel
theorem dX7_hourOf_98 : decode cX7_hourOf 98 = .ok (.invokestatic 163, 3) := by decide +kernel
theorem dX7_hourOf_101 : decode cX7_hourOf 101 = .ok (.iinc 2 1, 3) := by decide +kernel
theorem dX7_hourOf_104 : decode cX7_hourOf 104 = .ok (.goto (-66), 3) := by decide +kernel
theorem dX7_hourOf_107 : decode cX7_hourOf 107 = .ok (.aload_n 0, 1) := by decide +kernel
theorem dX7_hourOf_108 : decode cX7_hourOf 108 = .ok (.bipush 6, 2) := by decide +kernel
theorem dX7_hourOf_110 : decode cX7_hourOf 110 = .ok (.dup2, 1) := by decide +kernel
theorem dX7_hourOf_111 : decode cX7_hourOf 111 = .ok (.iaload, 1) := by decide +kernel
theorem dX7_hourOf_112 : decode cX7_hourOf 112 = .ok (.iconst 1, 1) := by decide +kernel
theorem dX7_hourOf_113 : decode cX7_hourOf 113 = .ok (.iadd, 1) := by decide +kernel
theorem dX7_hourOf_114 : decode cX7_hourOf 114 = .ok (.iastore, 1) := by decide +kernel
theorem dX7_hourOf_115 : decode cX7_hourOf 115 = .ok (.return_, 1) := by decide +kernel
theorem dX7_hoursOf_0 : decode cX7_hoursOf 0 = .ok (.iconst 0, 1) := by decide +kernel
theorem dX7_hoursOf_1 : decode cX7_hoursOf 1 = .ok (.istore_n 2, 1) := by decide +kernel
theorem dX7_hoursOf_2 : decode cX7_hoursOf 2 = .ok (.iload_n 2, 1) := by decide +kernel
theorem dX7_hoursOf_3 : decode cX7_hoursOf 3 = .ok (.iload_n 1, 1) := by decide +kernel
theorem dX7_hoursOf_4 : decode cX7_hoursOf 4 = .ok (.if_icmp .ge 13, 3) := by decide +kernel
theorem dX7_hoursOf_7 : decode cX7_hoursOf 7 = .ok (.aload_n 0, 1) := by decide +kernel
theorem dX7_hoursOf_8 : decode cX7_hoursOf 8 = .ok (.invokestatic 183, 3) := by decide +kernel
theorem dX7_hoursOf_11 : decode cX7_hoursOf 11 = .ok (.iinc 2 1, 3) := by decide +kernel
theorem dX7_hoursOf_14 : decode cX7_hoursOf 14 = .ok (.goto (-12), 3) := by decide +kernel
theorem dX7_hoursOf_17 : decode cX7_hoursOf 17 = .ok (.return_, 1) := by decide +kernel
theorem dX7_overOf_0 : decode cX7_overOf 0 = .ok (.iconst 0, 1) := by decide +kernel
theorem dX7_overOf_1 : decode cX7_overOf 1 = .ok (.istore_n 2, 1) := by decide +kernel
theorem dX7_overOf_2 : decode cX7_overOf 2 = .ok (.iconst 0, 1) := by decide +kernel
theorem dX7_overOf_3 : decode cX7_overOf 3 = .ok (.istore_n 3, 1) := by decide +kernel
theorem dX7_overOf_4 : decode cX7_overOf 4 = .ok (.iload_n 3, 1) := by decide +kernel
theorem dX7_overOf_5 : decode cX7_overOf 5 = .ok (.aload_n 0, 1) := by decide +kernel
theorem dX7_overOf_6 : decode cX7_overOf 6 = .ok (.iconst 0, 1) := by decide +kernel
theorem dX7_overOf_7 : decode cX7_overOf 7 = .ok (.iaload, 1) := by decide +kernel
theorem dX7_overOf_8 : decode cX7_overOf 8 = .ok (.if_icmp .ge 34, 3) := by decide +kernel
theorem dX7_overOf_11 : decode cX7_overOf 11 = .ok (.iload_n 2, 1) := by decide +kernel
theorem dX7_overOf_12 : decode cX7_overOf 12 = .ok (.aload_n 0, 1) := by decide +kernel
theorem dX7_overOf_13 : decode cX7_overOf 13 = .ok (.iload_n 3, 1) := by decide +kernel
theorem dX7_overOf_14 : decode cX7_overOf 14 = .ok (.invokestatic 179, 3) := by decide +kernel
theorem dX7_overOf_17 : decode cX7_overOf 17 = .ok (.iload_n 1, 1) := by decide +kernel
theorem dX7_overOf_18 : decode cX7_overOf 18 = .ok (.invokestatic 175, 3) := by decide +kernel
theorem dX7_overOf_21 : decode cX7_overOf 21 = .ok (.ifCond .eq 12, 3) := by decide +kernel
theorem dX7_overOf_24 : decode cX7_overOf 24 = .ok (.aload_n 0, 1) := by decide +kernel
theorem dX7_overOf_25 : decode cX7_overOf 25 = .ok (.iload_n 3, 1) := by decide +kernel
theorem dX7_overOf_26 : decode cX7_overOf 26 = .ok (.iconst 3, 1) := by decide +kernel
theorem dX7_overOf_27 : decode cX7_overOf 27 = .ok (.invokestatic 152, 3) := by decide +kernel
theorem dX7_overOf_30 : decode cX7_overOf 30 = .ok (.goto 4, 3) := by decide +kernel
theorem dX7_overOf_33 : decode cX7_overOf 33 = .ok (.iconst 0, 1) := by decide +kernel
theorem dX7_overOf_34 : decode cX7_overOf 34 = .ok (.iadd, 1) := by decide +kernel
theorem dX7_overOf_35 : decode cX7_overOf 35 = .ok (.istore_n 2, 1) := by decide +kernel
theorem dX7_overOf_36 : decode cX7_overOf 36 = .ok (.iinc 3 1, 3) := by decide +kernel
theorem dX7_overOf_39 : decode cX7_overOf 39 = .ok (.goto (-35), 3) := by decide +kernel
theorem dX7_overOf_42 : decode cX7_overOf 42 = .ok (.iload_n 2, 1) := by decide +kernel
theorem dX7_overOf_43 : decode cX7_overOf 43 = .ok (.ireturn, 1) := by decide +kernel
theorem dX7_ins_0 : decode cX7_ins 0 = .ok (.iconst 0, 1) := by decide +kernel
theorem dX7_ins_1 : decode cX7_ins 1 = .ok (.istore_n 1, 1) := by decide +kernel
theorem dX7_ins_2 : decode cX7_ins 2 = .ok (.iconst 0, 1) := by decide +kernel
theorem dX7_ins_3 : decode cX7_ins 3 = .ok (.istore_n 2, 1) := by decide +kernel
theorem dX7_ins_4 : decode cX7_ins 4 = .ok (.iload_n 2, 1) := by decide +kernel
theorem dX7_ins_5 : decode cX7_ins 5 = .ok (.aload_n 0, 1) := by decide +kernel
theorem dX7_ins_6 : decode cX7_ins 6 = .ok (.iconst 0, 1) := by decide +kernel
theorem dX7_ins_7 : decode cX7_ins 7 = .ok (.iaload, 1) := by decide +kernel
theorem dX7_ins_8 : decode cX7_ins 8 = .ok (.if_icmp .ge 27, 3) := by decide +kernel
theorem dX7_ins_11 : decode cX7_ins 11 = .ok (.iload_n 1, 1) := by decide +kernel
theorem dX7_ins_12 : decode cX7_ins 12 = .ok (.aload_n 0, 1) := by decide +kernel
theorem dX7_ins_13 : decode cX7_ins 13 = .ok (.iload_n 2, 1) := by decide +kernel
theorem dX7_ins_14 : decode cX7_ins 14 = .ok (.invokestatic 156, 3) := by decide +kernel
theorem dX7_ins_17 : decode cX7_ins 17 = .ok (.ifCond .eq 9, 3) := by decide +kernel
theorem dX7_ins_20 : decode cX7_ins 20 = .ok (.iconst 1, 1) := by decide +kernel
theorem dX7_ins_21 : decode cX7_ins 21 = .ok (.iload_n 2, 1) := by decide +kernel
theorem dX7_ins_22 : decode cX7_ins 22 = .ok (.ishl, 1) := by decide +kernel
theorem dX7_ins_23 : decode cX7_ins 23 = .ok (.goto 4, 3) := by decide +kernel
theorem dX7_ins_26 : decode cX7_ins 26 = .ok (.iconst 0, 1) := by decide +kernel
theorem dX7_ins_27 : decode cX7_ins 27 = .ok (.ior, 1) := by decide +kernel
theorem dX7_ins_28 : decode cX7_ins 28 = .ok (.istore_n 1, 1) := by decide +kernel
theorem dX7_ins_29 : decode cX7_ins 29 = .ok (.iinc 2 1, 3) := by decide +kernel
theorem dX7_ins_32 : decode cX7_ins 32 = .ok (.goto (-28), 3) := by decide +kernel
theorem dX7_ins_35 : decode cX7_ins 35 = .ok (.iload_n 1, 1) := by decide +kernel
theorem dX7_ins_36 : decode cX7_ins 36 = .ok (.ireturn, 1) := by decide +kernel
theorem dX7_numbered_0 : decode cX7_numbered 0 = .ok (.iconst 0, 1) := by decide +kernel
theorem dX7_numbered_1 : decode cX7_numbered 1 = .ok (.istore_n 1, 1) := by decide +kernel
theorem dX7_numbered_2 : decode cX7_numbered 2 = .ok (.iconst 0, 1) := by decide +kernel
theorem dX7_numbered_3 : decode cX7_numbered 3 = .ok (.istore_n 2, 1) := by decide +kernel
theorem dX7_numbered_4 : decode cX7_numbered 4 = .ok (.iload_n 2, 1) := by decide +kernel
theorem dX7_numbered_5 : decode cX7_numbered 5 = .ok (.aload_n 0, 1) := by decide +kernel
theorem dX7_numbered_6 : decode cX7_numbered 6 = .ok (.iconst 0, 1) := by decide +kernel
theorem dX7_numbered_7 : decode cX7_numbered 7 = .ok (.iaload, 1) := by decide +kernel
theorem dX7_numbered_8 : decode cX7_numbered 8 = .ok (.if_icmp .ge 28, 3) := by decide +kernel
theorem dX7_numbered_11 : decode cX7_numbered 11 = .ok (.iload_n 1, 1) := by decide +kernel
theorem dX7_numbered_12 : decode cX7_numbered 12 = .ok (.aload_n 0, 1) := by decide +kernel
theorem dX7_numbered_13 : decode cX7_numbered 13 = .ok (.iload_n 2, 1) := by decide +kernel
theorem dX7_numbered_14 : decode cX7_numbered 14 = .ok (.iconst 4, 1) := by decide +kernel
theorem dX7_numbered_15 : decode cX7_numbered 15 = .ok (.invokestatic 152, 3) := by decide +kernel
theorem dX7_numbered_18 : decode cX7_numbered 18 = .ok (.ifCond .le 9, 3) := by decide +kernel
theorem dX7_numbered_21 : decode cX7_numbered 21 = .ok (.iconst 1, 1) := by decide +kernel
theorem dX7_numbered_22 : decode cX7_numbered 22 = .ok (.iload_n 2, 1) := by decide +kernel
theorem dX7_numbered_23 : decode cX7_numbered 23 = .ok (.ishl, 1) := by decide +kernel
theorem dX7_numbered_24 : decode cX7_numbered 24 = .ok (.goto 4, 3) := by decide +kernel
theorem dX7_numbered_27 : decode cX7_numbered 27 = .ok (.iconst 0, 1) := by decide +kernel
theorem dX7_numbered_28 : decode cX7_numbered 28 = .ok (.ior, 1) := by decide +kernel
theorem dX7_numbered_29 : decode cX7_numbered 29 = .ok (.istore_n 1, 1) := by decide +kernel
theorem dX7_numbered_30 : decode cX7_numbered 30 = .ok (.iinc 2 1, 3) := by decide +kernel
theorem dX7_numbered_33 : decode cX7_numbered 33 = .ok (.goto (-29), 3) := by decide +kernel
theorem dX7_numbered_36 : decode cX7_numbered 36 = .ok (.iload_n 1, 1) := by decide +kernel
theorem dX7_numbered_37 : decode cX7_numbered 37 = .ok (.ireturn, 1) := by decide +kernel
theorem dX7_letIn_0 : decode cX7_letIn 0 = .ok (.aload_n 0, 1) := by decide +kernel
theorem dX7_letIn_1 : decode cX7_letIn 1 = .ok (.iload_n 1, 1) := by decide +kernel
theorem dX7_letIn_2 : decode cX7_letIn 2 = .ok (.iconst 1, 1) := by decide +kernel
theorem dX7_letIn_3 : decode cX7_letIn 3 = .ok (.iload_n 2, 1) := by decide +kernel
theorem dX7_letIn_4 : decode cX7_letIn 4 = .ok (.invokestatic 163, 3) := by decide +kernel
theorem dX7_letIn_7 : decode cX7_letIn 7 = .ok (.aload_n 0, 1) := by decide +kernel
theorem dX7_letIn_8 : decode cX7_letIn 8 = .ok (.iload_n 1, 1) := by decide +kernel
theorem dX7_letIn_9 : decode cX7_letIn 9 = .ok (.iconst 3, 1) := by decide +kernel
theorem dX7_letIn_10 : decode cX7_letIn 10 = .ok (.iload_n 3, 1) := by decide +kernel
theorem dX7_letIn_11 : decode cX7_letIn 11 = .ok (.invokestatic 163, 3) := by decide +kernel
theorem dX7_letIn_14 : decode cX7_letIn 14 = .ok (.aload_n 0, 1) := by decide +kernel
theorem dX7_letIn_15 : decode cX7_letIn 15 = .ok (.iload_n 1, 1) := by decide +kernel
theorem dX7_letIn_16 : decode cX7_letIn 16 = .ok (.iconst 5, 1) := by decide +kernel
theorem dX7_letIn_17 : decode cX7_letIn 17 = .ok (.iconst 1, 1) := by decide +kernel
theorem dX7_letIn_18 : decode cX7_letIn 18 = .ok (.invokestatic 163, 3) := by decide +kernel
theorem dX7_letIn_21 : decode cX7_letIn 21 = .ok (.return_, 1) := by decide +kernel
theorem dX7_layThen_0 : decode cX7_layThen 0 = .ok (.iconst 0, 1) := by decide +kernel
theorem dX7_layThen_1 : decode cX7_layThen 1 = .ok (.istore_n 1, 1) := by decide +kernel
theorem dX7_layThen_2 : decode cX7_layThen 2 = .ok (.iload_n 1, 1) := by decide +kernel
theorem dX7_layThen_3 : decode cX7_layThen 3 = .ok (.bipush 50, 2) := by decide +kernel
theorem dX7_layThen_5 : decode cX7_layThen 5 = .ok (.if_icmp .ge 21, 3) := by decide +kernel
theorem dX7_layThen_8 : decode cX7_layThen 8 = .ok (.aload_n 0, 1) := by decide +kernel
theorem dX7_layThen_9 : decode cX7_layThen 9 = .ok (.getfield 25, 3) := by decide +kernel
theorem dX7_layThen_12 : decode cX7_layThen 12 = .ok (.iload_n 1, 1) := by decide +kernel
theorem dX7_layThen_13 : decode cX7_layThen 13 = .ok (.aload_n 0, 1) := by decide +kernel
theorem dX7_layThen_14 : decode cX7_layThen 14 = .ok (.getfield 19, 3) := by decide +kernel
theorem dX7_layThen_17 : decode cX7_layThen 17 = .ok (.iload_n 1, 1) := by decide +kernel
theorem dX7_layThen_18 : decode cX7_layThen 18 = .ok (.iaload, 1) := by decide +kernel
theorem dX7_layThen_19 : decode cX7_layThen 19 = .ok (.iastore, 1) := by decide +kernel
theorem dX7_layThen_20 : decode cX7_layThen 20 = .ok (.iinc 1 1, 3) := by decide +kernel
theorem dX7_layThen_23 : decode cX7_layThen 23 = .ok (.goto (-21), 3) := by decide +kernel
theorem dX7_layThen_26 : decode cX7_layThen 26 = .ok (.return_, 1) := by decide +kernel
theorem dX7_keep_0 : decode cX7_keep 0 = .ok (.aload_n 0, 1) := by decide +kernel
theorem dX7_keep_1 : decode cX7_keep 1 = .ok (.getfield 149, 3) := by decide +kernel
theorem dX7_keep_4 : decode cX7_keep 4 = .ok (.bipush 24, 2) := by decide +kernel
theorem dX7_keep_6 : decode cX7_keep 6 = .ok (.if_icmp .ne 43, 3) := by decide +kernel
theorem dX7_keep_9 : decode cX7_keep 9 = .ok (.iconst 0, 1) := by decide +kernel
theorem dX7_keep_10 : decode cX7_keep 10 = .ok (.istore_n 1, 1) := by decide +kernel
theorem dX7_keep_11 : decode cX7_keep 11 = .ok (.iload_n 1, 1) := by decide +kernel
theorem dX7_keep_12 : decode cX7_keep 12 = .ok (.sipush 1150, 3) := by decide +kernel
theorem dX7_keep_15 : decode cX7_keep 15 = .ok (.if_icmp .ge 24, 3) := by decide +kernel
theorem dX7_keep_18 : decode cX7_keep 18 = .ok (.aload_n 0, 1) := by decide +kernel
theorem dX7_keep_19 : decode cX7_keep 19 = .ok (.getfield 28, 3) := by decide +kernel
theorem dX7_keep_22 : decode cX7_keep 22 = .ok (.iload_n 1, 1) := by decide +kernel
theorem dX7_keep_23 : decode cX7_keep 23 = .ok (.aload_n 0, 1) := by decide +kernel
theorem dX7_keep_24 : decode cX7_keep 24 = .ok (.getfield 28, 3) := by decide +kernel
theorem dX7_keep_27 : decode cX7_keep 27 = .ok (.iload_n 1, 1) := by decide +kernel
theorem dX7_keep_28 : decode cX7_keep 28 = .ok (.bipush 50, 2) := by decide +kernel
theorem dX7_keep_30 : decode cX7_keep 30 = .ok (.iadd, 1) := by decide +kernel
theorem dX7_keep_31 : decode cX7_keep 31 = .ok (.iaload, 1) := by decide +kernel
theorem dX7_keep_32 : decode cX7_keep 32 = .ok (.iastore, 1) := by decide +kernel
theorem dX7_keep_33 : decode cX7_keep 33 = .ok (.iinc 1 1, 3) := by decide +kernel
theorem dX7_keep_36 : decode cX7_keep 36 = .ok (.goto (-25), 3) := by decide +kernel
theorem dX7_keep_39 : decode cX7_keep 39 = .ok (.aload_n 0, 1) := by decide +kernel
theorem dX7_keep_40 : decode cX7_keep 40 = .ok (.dup, 1) := by decide +kernel
theorem dX7_keep_41 : decode cX7_keep 41 = .ok (.getfield 149, 3) := by decide +kernel
theorem dX7_keep_44 : decode cX7_keep 44 = .ok (.iconst 1, 1) := by decide +kernel
theorem dX7_keep_45 : decode cX7_keep 45 = .ok (.isub, 1) := by decide +kernel
theorem dX7_keep_46 : decode cX7_keep 46 = .ok (.putfield 149, 3) := by decide +kernel
theorem dX7_keep_49 : decode cX7_keep 49 = .ok (.iconst 0, 1) := by decide +kernel
theorem dX7_keep_50 : decode cX7_keep 50 = .ok (.istore_n 1, 1) := by decide +kernel
theorem dX7_keep_51 : decode cX7_keep 51 = .ok (.iload_n 1, 1) := by decide +kernel
theorem dX7_keep_52 : decode cX7_keep 52 = .ok (.bipush 50, 2) := by decide +kernel
theorem dX7_keep_54 : decode cX7_keep 54 = .ok (.if_icmp .ge 29, 3) := by decide +kernel
theorem dX7_keep_57 : decode cX7_keep 57 = .ok (.aload_n 0, 1) := by decide +kernel
theorem dX7_keep_58 : decode cX7_keep 58 = .ok (.getfield 28, 3) := by decide +kernel
theorem dX7_keep_61 : decode cX7_keep 61 = .ok (.bipush 50, 2) := by decide +kernel
theorem dX7_keep_63 : decode cX7_keep 63 = .ok (.aload_n 0, 1) := by decide +kernel
theorem dX7_keep_64 : decode cX7_keep 64 = .ok (.getfield 149, 3) := by decide +kernel
theorem dX7_keep_67 : decode cX7_keep 67 = .ok (.imul, 1) := by decide +kernel
theorem dX7_keep_68 : decode cX7_keep 68 = .ok (.iload_n 1, 1) := by decide +kernel
theorem dX7_keep_69 : decode cX7_keep 69 = .ok (.iadd, 1) := by decide +kernel
theorem dX7_keep_70 : decode cX7_keep 70 = .ok (.aload_n 0, 1) := by decide +kernel
theorem dX7_keep_71 : decode cX7_keep 71 = .ok (.getfield 19, 3) := by decide +kernel
theorem dX7_keep_74 : decode cX7_keep 74 = .ok (.iload_n 1, 1) := by decide +kernel
theorem dX7_keep_75 : decode cX7_keep 75 = .ok (.iaload, 1) := by decide +kernel
theorem dX7_keep_76 : decode cX7_keep 76 = .ok (.iastore, 1) := by decide +kernel
theorem dX7_keep_77 : decode cX7_keep 77 = .ok (.iinc 1 1, 3) := by decide +kernel
theorem dX7_keep_80 : decode cX7_keep 80 = .ok (.goto (-29), 3) := by decide +kernel
theorem dX7_keep_83 : decode cX7_keep 83 = .ok (.aload_n 0, 1) := by decide +kernel
theorem dX7_keep_84 : decode cX7_keep 84 = .ok (.dup, 1) := by decide +kernel
theorem dX7_keep_85 : decode cX7_keep 85 = .ok (.getfield 149, 3) := by decide +kernel
theorem dX7_keep_88 : decode cX7_keep 88 = .ok (.iconst 1, 1) := by decide +kernel
theorem dX7_keep_89 : decode cX7_keep 89 = .ok (.iadd, 1) := by decide +kernel
theorem dX7_keep_90 : decode cX7_keep 90 = .ok (.putfield 149, 3) := by decide +kernel
theorem dX7_keep_93 : decode cX7_keep 93 = .ok (.return_, 1) := by decide +kernel
theorem dX7_hours_0 : decode cX7_hours 0 = .ok (.aload_n 0, 1) := by decide +kernel
theorem dX7_hours_1 : decode cX7_hours 1 = .ok (.iconst 0, 1) := by decide +kernel
theorem dX7_hours_2 : decode cX7_hours 2 = .ok (.putfield 47, 3) := by decide +kernel
theorem dX7_hours_5 : decode cX7_hours 5 = .ok (.aload_n 0, 1) := by decide +kernel
theorem dX7_hours_6 : decode cX7_hours 6 = .ok (.invokevirtual 187, 3) := by decide +kernel
theorem dX7_hours_9 : decode cX7_hours 9 = .ok (.ifCond .ne 6, 3) := by decide +kernel
theorem dX7_hours_12 : decode cX7_hours 12 = .ok (.ldc 190, 2) := by decide +kernel
theorem dX7_hours_14 : decode cX7_hours 14 = .ok (.ireturn, 1) := by decide +kernel
theorem dX7_hours_15 : decode cX7_hours 15 = .ok (.iload_n 1, 1) := by decide +kernel
theorem dX7_hours_16 : decode cX7_hours 16 = .ok (.i2l, 1) := by decide +kernel
theorem dX7_hours_17 : decode cX7_hours 17 = .ok (.lconst 1, 1) := by decide +kernel
theorem dX7_hours_18 : decode cX7_hours 18 = .ok (.ldc2_w 191, 3) := by decide +kernel
theorem dX7_hours_21 : decode cX7_hours 21 = .ok (.invokestatic 57, 3) := by decide +kernel
theorem dX7_hours_24 : decode cX7_hours 24 = .ok (.ifCond .ne 6, 3) := by decide +kernel
theorem dX7_hours_27 : decode cX7_hours 27 = .ok (.ldc 67, 2) := by decide +kernel
theorem dX7_hours_29 : decode cX7_hours 29 = .ok (.ireturn, 1) := by decide +kernel
theorem dX7_hours_30 : decode cX7_hours 30 = .ok (.aload_n 0, 1) := by decide +kernel
theorem dX7_hours_31 : decode cX7_hours 31 = .ok (.getfield 19, 3) := by decide +kernel
theorem dX7_hours_34 : decode cX7_hours 34 = .ok (.bipush 6, 2) := by decide +kernel
theorem dX7_hours_36 : decode cX7_hours 36 = .ok (.iaload, 1) := by decide +kernel
theorem dX7_hours_37 : decode cX7_hours 37 = .ok (.iload_n 1, 1) := by decide +kernel
theorem dX7_hours_38 : decode cX7_hours 38 = .ok (.iadd, 1) := by decide +kernel
theorem dX7_hours_39 : decode cX7_hours 39 = .ok (.sipush 999, 3) := by decide +kernel
theorem dX7_hours_42 : decode cX7_hours 42 = .ok (.if_icmp .le 6, 3) := by decide +kernel
theorem dX7_hours_45 : decode cX7_hours 45 = .ok (.ldc 77, 2) := by decide +kernel
theorem dX7_hours_47 : decode cX7_hours 47 = .ok (.ireturn, 1) := by decide +kernel
theorem dX7_hours_48 : decode cX7_hours 48 = .ok (.iconst 0, 1) := by decide +kernel
theorem dX7_hours_49 : decode cX7_hours 49 = .ok (.istore_n 2, 1) := by decide +kernel
theorem dX7_hours_50 : decode cX7_hours 50 = .ok (.iload_n 2, 1) := by decide +kernel
theorem dX7_hours_51 : decode cX7_hours 51 = .ok (.iload_n 1, 1) := by decide +kernel
theorem dX7_hours_52 : decode cX7_hours 52 = .ok (.if_icmp .ge 20, 3) := by decide +kernel
theorem dX7_hours_55 : decode cX7_hours 55 = .ok (.aload_n 0, 1) := by decide +kernel
theorem dX7_hours_56 : decode cX7_hours 56 = .ok (.invokevirtual 193, 3) := by decide +kernel
theorem dX7_hours_59 : decode cX7_hours 59 = .ok (.aload_n 0, 1) := by decide +kernel
theorem dX7_hours_60 : decode cX7_hours 60 = .ok (.getfield 19, 3) := by decide +kernel
theorem dX7_hours_63 : decode cX7_hours 63 = .ok (.invokestatic 183, 3) := by decide +kernel
theorem dX7_hours_66 : decode cX7_hours 66 = .ok (.iinc 2 1, 3) := by decide +kernel
theorem dX7_hours_69 : decode cX7_hours 69 = .ok (.goto (-19), 3) := by decide +kernel
theorem dX7_hours_72 : decode cX7_hours 72 = .ok (.aload_n 0, 1) := by decide +kernel
theorem dX7_hours_73 : decode cX7_hours 73 = .ok (.getfield 19, 3) := by decide +kernel
theorem dX7_hours_76 : decode cX7_hours 76 = .ok (.invokestatic 196, 3) := by decide +kernel
theorem dX7_hours_79 : decode cX7_hours 79 = .ok (.invokestatic 199, 3) := by decide +kernel
theorem dX7_hours_82 : decode cX7_hours 82 = .ok (.ireturn, 1) := by decide +kernel
theorem dX7_step_0 : decode cX7_step 0 = .ok (.aload_n 0, 1) := by decide +kernel
theorem dX7_step_1 : decode cX7_step 1 = .ok (.iconst 0, 1) := by decide +kernel
theorem dX7_step_2 : decode cX7_step 2 = .ok (.putfield 47, 3) := by decide +kernel
theorem dX7_step_5 : decode cX7_step 5 = .ok (.aload_n 0, 1) := by decide +kernel
theorem dX7_step_6 : decode cX7_step 6 = .ok (.invokevirtual 187, 3) := by decide +kernel
theorem dX7_step_9 : decode cX7_step 9 = .ok (.ifCond .ne 6, 3) := by decide +kernel
theorem dX7_step_12 : decode cX7_step 12 = .ok (.ldc 190, 2) := by decide +kernel
theorem dX7_step_14 : decode cX7_step 14 = .ok (.ireturn, 1) := by decide +kernel
theorem dX7_step_15 : decode cX7_step 15 = .ok (.iload_n 1, 1) := by decide +kernel
theorem dX7_step_16 : decode cX7_step 16 = .ok (.i2l, 1) := by decide +kernel
theorem dX7_step_17 : decode cX7_step 17 = .ok (.lconst 0, 1) := by decide +kernel
theorem dX7_step_18 : decode cX7_step 18 = .ok (.lconst 1, 1) := by decide +kernel
theorem dX7_step_19 : decode cX7_step 19 = .ok (.invokestatic 57, 3) := by decide +kernel
theorem dX7_step_22 : decode cX7_step 22 = .ok (.ifCond .ne 6, 3) := by decide +kernel
theorem dX7_step_25 : decode cX7_step 25 = .ok (.ldc 67, 2) := by decide +kernel
theorem dX7_step_27 : decode cX7_step 27 = .ok (.ireturn, 1) := by decide +kernel
theorem dX7_step_28 : decode cX7_step 28 = .ok (.aload_n 0, 1) := by decide +kernel
theorem dX7_step_29 : decode cX7_step 29 = .ok (.getfield 19, 3) := by decide +kernel
theorem dX7_step_32 : decode cX7_step 32 = .ok (.iconst 4, 1) := by decide +kernel
theorem dX7_step_33 : decode cX7_step 33 = .ok (.iaload, 1) := by decide +kernel
theorem dX7_step_34 : decode cX7_step 34 = .ok (.iload_n 1, 1) := by decide +kernel
theorem dX7_step_35 : decode cX7_step 35 = .ok (.ifCond .ne 7, 3) := by decide +kernel
theorem dX7_step_38 : decode cX7_step 38 = .ok (.iconst (-1), 1) := by decide +kernel
theorem dX7_step_39 : decode cX7_step 39 = .ok (.goto 4, 3) := by decide +kernel
theorem dX7_step_42 : decode cX7_step 42 = .ok (.iconst 1, 1) := by decide +kernel
theorem dX7_step_43 : decode cX7_step 43 = .ok (.iadd, 1) := by decide +kernel
theorem dX7_step_44 : decode cX7_step 44 = .ok (.istore_n 2, 1) := by decide +kernel
theorem dX7_step_45 : decode cX7_step 45 = .ok (.aload_n 0, 1) := by decide +kernel
theorem dX7_step_46 : decode cX7_step 46 = .ok (.iload_n 2, 1) := by decide +kernel
theorem dX7_step_47 : decode cX7_step 47 = .ok (.invokevirtual 202, 3) := by decide +kernel
theorem dX7_step_50 : decode cX7_step 50 = .ok (.ifCond .ne 6, 3) := by decide +kernel
theorem dX7_step_53 : decode cX7_step 53 = .ok (.ldc 190, 2) := by decide +kernel
theorem dX7_step_55 : decode cX7_step 55 = .ok (.ireturn, 1) := by decide +kernel
theorem dX7_step_56 : decode cX7_step 56 = .ok (.aload_n 0, 1) := by decide +kernel
theorem dX7_step_57 : decode cX7_step 57 = .ok (.invokevirtual 193, 3) := by decide +kernel
theorem dX7_step_60 : decode cX7_step 60 = .ok (.aload_n 0, 1) := by decide +kernel
theorem dX7_step_61 : decode cX7_step 61 = .ok (.getfield 19, 3) := by decide +kernel
theorem dX7_step_64 : decode cX7_step 64 = .ok (.iconst 4, 1) := by decide +kernel
theorem dX7_step_65 : decode cX7_step 65 = .ok (.iload_n 2, 1) := by decide +kernel
theorem dX7_step_66 : decode cX7_step 66 = .ok (.iastore, 1) := by decide +kernel
theorem dX7_step_67 : decode cX7_step 67 = .ok (.iload_n 2, 1) := by decide +kernel
theorem dX7_step_68 : decode cX7_step 68 = .ok (.ireturn, 1) := by decide +kernel
theorem dX7_wind_0 : decode cX7_wind 0 = .ok (.aload_n 0, 1) := by decide +kernel
theorem dX7_wind_1 : decode cX7_wind 1 = .ok (.iconst 0, 1) := by decide +kernel
theorem dX7_wind_2 : decode cX7_wind 2 = .ok (.putfield 47, 3) := by decide +kernel
theorem dX7_wind_5 : decode cX7_wind 5 = .ok (.aload_n 0, 1) := by decide +kernel
theorem dX7_wind_6 : decode cX7_wind 6 = .ok (.iload_n 1, 1) := by decide +kernel
theorem dX7_wind_7 : decode cX7_wind 7 = .ok (.invokevirtual 205, 3) := by decide +kernel
theorem dX7_wind_10 : decode cX7_wind 10 = .ok (.ifCond .eq 15, 3) := by decide +kernel
theorem dX7_wind_13 : decode cX7_wind 13 = .ok (.iload_n 2, 1) := by decide +kernel
theorem dX7_wind_14 : decode cX7_wind 14 = .ok (.i2l, 1) := by decide +kernel
theorem dX7_wind_15 : decode cX7_wind 15 = .ok (.lconst 0, 1) := by decide +kernel
theorem dX7_wind_16 : decode cX7_wind 16 = .ok (.ldc2_w 208, 3) := by decide +kernel
theorem dX7_wind_19 : decode cX7_wind 19 = .ok (.invokestatic 57, 3) := by decide +kernel
theorem dX7_wind_22 : decode cX7_wind 22 = .ok (.ifCond .ne 6, 3) := by decide +kernel
theorem dX7_wind_25 : decode cX7_wind 25 = .ok (.ldc 67, 2) := by decide +kernel
theorem dX7_wind_27 : decode cX7_wind 27 = .ok (.ireturn, 1) := by decide +kernel
theorem dX7_wind_28 : decode cX7_wind 28 = .ok (.aload_n 0, 1) := by decide +kernel
theorem dX7_wind_29 : decode cX7_wind 29 = .ok (.invokevirtual 193, 3) := by decide +kernel
theorem dX7_wind_32 : decode cX7_wind 32 = .ok (.aload_n 0, 1) := by decide +kernel
theorem dX7_wind_33 : decode cX7_wind 33 = .ok (.getfield 19, 3) := by decide +kernel
theorem dX7_wind_36 : decode cX7_wind 36 = .ok (.bipush 8, 2) := by decide +kernel
theorem dX7_wind_38 : decode cX7_wind 38 = .ok (.iload_n 1, 1) := by decide +kernel
theorem dX7_wind_39 : decode cX7_wind 39 = .ok (.iadd, 1) := by decide +kernel
theorem dX7_wind_40 : decode cX7_wind 40 = .ok (.iaload, 1) := by decide +kernel
theorem dX7_wind_41 : decode cX7_wind 41 = .ok (.istore_n 3, 1) := by decide +kernel
theorem dX7_wind_42 : decode cX7_wind 42 = .ok (.aload_n 0, 1) := by decide +kernel
theorem dX7_wind_43 : decode cX7_wind 43 = .ok (.getfield 19, 3) := by decide +kernel
theorem dX7_wind_46 : decode cX7_wind 46 = .ok (.bipush 8, 2) := by decide +kernel
theorem dX7_wind_48 : decode cX7_wind 48 = .ok (.iload_n 1, 1) := by decide +kernel
theorem dX7_wind_49 : decode cX7_wind 49 = .ok (.iadd, 1) := by decide +kernel
theorem dX7_wind_50 : decode cX7_wind 50 = .ok (.iload_n 2, 1) := by decide +kernel
theorem dX7_wind_51 : decode cX7_wind 51 = .ok (.iastore, 1) := by decide +kernel
theorem dX7_wind_52 : decode cX7_wind 52 = .ok (.iload_n 3, 1) := by decide +kernel
theorem dX7_wind_53 : decode cX7_wind 53 = .ok (.ireturn, 1) := by decide +kernel
theorem dX7_wake_0 : decode cX7_wake 0 = .ok (.aload_n 0, 1) := by decide +kernel
theorem dX7_wake_1 : decode cX7_wake 1 = .ok (.iconst 0, 1) := by decide +kernel
theorem dX7_wake_2 : decode cX7_wake 2 = .ok (.putfield 47, 3) := by decide +kernel
theorem dX7_wake_5 : decode cX7_wake 5 = .ok (.aload_n 0, 1) := by decide +kernel
theorem dX7_wake_6 : decode cX7_wake 6 = .ok (.invokevirtual 187, 3) := by decide +kernel
theorem dX7_wake_9 : decode cX7_wake 9 = .ok (.ifCond .ne 6, 3) := by decide +kernel
theorem dX7_wake_12 : decode cX7_wake 12 = .ok (.ldc 190, 2) := by decide +kernel
theorem dX7_wake_14 : decode cX7_wake 14 = .ok (.ireturn, 1) := by decide +kernel
theorem dX7_wake_15 : decode cX7_wake 15 = .ok (.iload_n 1, 1) := by decide +kernel
theorem dX7_wake_16 : decode cX7_wake 16 = .ok (.i2l, 1) := by decide +kernel
theorem dX7_wake_17 : decode cX7_wake 17 = .ok (.lconst 0, 1) := by decide +kernel
theorem dX7_wake_18 : decode cX7_wake 18 = .ok (.ldc2_w 210, 3) := by decide +kernel
theorem dX7_wake_21 : decode cX7_wake 21 = .ok (.invokestatic 57, 3) := by decide +kernel
theorem dX7_wake_24 : decode cX7_wake 24 = .ok (.ifCond .ne 6, 3) := by decide +kernel
theorem dX7_wake_27 : decode cX7_wake 27 = .ok (.ldc 67, 2) := by decide +kernel
theorem dX7_wake_29 : decode cX7_wake 29 = .ok (.ireturn, 1) := by decide +kernel
theorem dX7_wake_30 : decode cX7_wake 30 = .ok (.aload_n 0, 1) := by decide +kernel
theorem dX7_wake_31 : decode cX7_wake 31 = .ok (.invokevirtual 193, 3) := by decide +kernel
theorem dX7_wake_34 : decode cX7_wake 34 = .ok (.aload_n 0, 1) := by decide +kernel
theorem dX7_wake_35 : decode cX7_wake 35 = .ok (.getfield 19, 3) := by decide +kernel
theorem dX7_wake_38 : decode cX7_wake 38 = .ok (.iconst 5, 1) := by decide +kernel
theorem dX7_wake_39 : decode cX7_wake 39 = .ok (.iaload, 1) := by decide +kernel
theorem dX7_wake_40 : decode cX7_wake 40 = .ok (.istore_n 2, 1) := by decide +kernel
theorem dX7_wake_41 : decode cX7_wake 41 = .ok (.aload_n 0, 1) := by decide +kernel
theorem dX7_wake_42 : decode cX7_wake 42 = .ok (.getfield 19, 3) := by decide +kernel
theorem dX7_wake_45 : decode cX7_wake 45 = .ok (.iconst 5, 1) := by decide +kernel
theorem dX7_wake_46 : decode cX7_wake 46 = .ok (.iload_n 1, 1) := by decide +kernel
theorem dX7_wake_47 : decode cX7_wake 47 = .ok (.iastore, 1) := by decide +kernel
theorem dX7_wake_48 : decode cX7_wake 48 = .ok (.iload_n 2, 1) := by decide +kernel
theorem dX7_wake_49 : decode cX7_wake 49 = .ok (.ireturn, 1) := by decide +kernel
theorem dX7_let_0 : decode cX7_let 0 = .ok (.aload_n 0, 1) := by decide +kernel
theorem dX7_let_1 : decode cX7_let 1 = .ok (.iconst 0, 1) := by decide +kernel
theorem dX7_let_2 : decode cX7_let 2 = .ok (.putfield 47, 3) := by decide +kernel
theorem dX7_let_5 : decode cX7_let 5 = .ok (.aload_n 0, 1) := by decide +kernel
theorem dX7_let_6 : decode cX7_let 6 = .ok (.iload_n 1, 1) := by decide +kernel
theorem dX7_let_7 : decode cX7_let 7 = .ok (.invokevirtual 212, 3) := by decide +kernel
theorem dX7_let_10 : decode cX7_let 10 = .ok (.ifCond .eq 23, 3) := by decide +kernel
theorem dX7_let_13 : decode cX7_let 13 = .ok (.aload_n 0, 1) := by decide +kernel
theorem dX7_let_14 : decode cX7_let 14 = .ok (.iload_n 2, 1) := by decide +kernel
theorem dX7_let_15 : decode cX7_let 15 = .ok (.invokevirtual 202, 3) := by decide +kernel
theorem dX7_let_18 : decode cX7_let 18 = .ok (.ifCond .eq 15, 3) := by decide +kernel
theorem dX7_let_21 : decode cX7_let 21 = .ok (.iload_n 3, 1) := by decide +kernel
theorem dX7_let_22 : decode cX7_let 22 = .ok (.i2l, 1) := by decide +kernel
theorem dX7_let_23 : decode cX7_let 23 = .ok (.lconst 1, 1) := by decide +kernel
theorem dX7_let_24 : decode cX7_let 24 = .ok (.ldc2_w 215, 3) := by decide +kernel
theorem dX7_let_27 : decode cX7_let 27 = .ok (.invokestatic 57, 3) := by decide +kernel
theorem dX7_let_30 : decode cX7_let 30 = .ok (.ifCond .ne 6, 3) := by decide +kernel
theorem dX7_let_33 : decode cX7_let 33 = .ok (.ldc 67, 2) := by decide +kernel
theorem dX7_let_35 : decode cX7_let 35 = .ok (.ireturn, 1) := by decide +kernel
theorem dX7_let_36 : decode cX7_let 36 = .ok (.aload_n 0, 1) := by decide +kernel
theorem dX7_let_37 : decode cX7_let 37 = .ok (.getfield 19, 3) := by decide +kernel
theorem dX7_let_40 : decode cX7_let 40 = .ok (.iload_n 1, 1) := by decide +kernel
theorem dX7_let_41 : decode cX7_let 41 = .ok (.invokestatic 156, 3) := by decide +kernel
theorem dX7_let_44 : decode cX7_let 44 = .ok (.ifCond .eq 6, 3) := by decide +kernel
theorem dX7_let_47 : decode cX7_let 47 = .ok (.ldc 190, 2) := by decide +kernel
theorem dX7_let_49 : decode cX7_let 49 = .ok (.ireturn, 1) := by decide +kernel
theorem dX7_let_50 : decode cX7_let 50 = .ok (.aload_n 0, 1) := by decide +kernel
theorem dX7_let_51 : decode cX7_let 51 = .ok (.invokevirtual 193, 3) := by decide +kernel
theorem dX7_let_54 : decode cX7_let 54 = .ok (.aload_n 0, 1) := by decide +kernel
theorem dX7_let_55 : decode cX7_let 55 = .ok (.getfield 19, 3) := by decide +kernel
theorem dX7_let_58 : decode cX7_let 58 = .ok (.iload_n 1, 1) := by decide +kernel
theorem dX7_let_59 : decode cX7_let 59 = .ok (.iload_n 2, 1) := by decide +kernel
theorem dX7_let_60 : decode cX7_let 60 = .ok (.iload_n 3, 1) := by decide +kernel
theorem dX7_let_61 : decode cX7_let 61 = .ok (.invokestatic 217, 3) := by decide +kernel
theorem dX7_let_64 : decode cX7_let 64 = .ok (.aload_n 0, 1) := by decide +kernel
theorem dX7_let_65 : decode cX7_let 65 = .ok (.getfield 19, 3) := by decide +kernel
theorem dX7_let_68 : decode cX7_let 68 = .ok (.invokestatic 220, 3) := by decide +kernel
theorem dX7_let_71 : decode cX7_let 71 = .ok (.ireturn, 1) := by decide +kernel
theorem dX7_undo_0 : decode cX7_undo 0 = .ok (.aload_n 0, 1) := by decide +kernel
theorem dX7_undo_1 : decode cX7_undo 1 = .ok (.iconst 0, 1) := by decide +kernel
theorem dX7_undo_2 : decode cX7_undo 2 = .ok (.putfield 47, 3) := by decide +kernel
theorem dX7_undo_5 : decode cX7_undo 5 = .ok (.aload_n 0, 1) := by decide +kernel
theorem dX7_undo_6 : decode cX7_undo 6 = .ok (.getfield 149, 3) := by decide +kernel
theorem dX7_undo_9 : decode cX7_undo 9 = .ok (.ifCond .ne 6, 3) := by decide +kernel
theorem dX7_undo_12 : decode cX7_undo 12 = .ok (.ldc 190, 2) := by decide +kernel
theorem dX7_undo_14 : decode cX7_undo 14 = .ok (.ireturn, 1) := by decide +kernel
theorem dX7_undo_15 : decode cX7_undo 15 = .ok (.aload_n 0, 1) := by decide +kernel
theorem dX7_undo_16 : decode cX7_undo 16 = .ok (.dup, 1) := by decide +kernel
theorem dX7_undo_17 : decode cX7_undo 17 = .ok (.getfield 149, 3) := by decide +kernel
theorem dX7_undo_20 : decode cX7_undo 20 = .ok (.iconst 1, 1) := by decide +kernel
theorem dX7_undo_21 : decode cX7_undo 21 = .ok (.isub, 1) := by decide +kernel
theorem dX7_undo_22 : decode cX7_undo 22 = .ok (.putfield 149, 3) := by decide +kernel
theorem dX7_undo_25 : decode cX7_undo 25 = .ok (.iconst 0, 1) := by decide +kernel
theorem dX7_undo_26 : decode cX7_undo 26 = .ok (.istore_n 1, 1) := by decide +kernel
theorem dX7_undo_27 : decode cX7_undo 27 = .ok (.iload_n 1, 1) := by decide +kernel
theorem dX7_undo_28 : decode cX7_undo 28 = .ok (.bipush 50, 2) := by decide +kernel
theorem dX7_undo_30 : decode cX7_undo 30 = .ok (.if_icmp .ge 29, 3) := by decide +kernel
theorem dX7_undo_33 : decode cX7_undo 33 = .ok (.aload_n 0, 1) := by decide +kernel
theorem dX7_undo_34 : decode cX7_undo 34 = .ok (.getfield 19, 3) := by decide +kernel
theorem dX7_undo_37 : decode cX7_undo 37 = .ok (.iload_n 1, 1) := by decide +kernel
theorem dX7_undo_38 : decode cX7_undo 38 = .ok (.aload_n 0, 1) := by decide +kernel
theorem dX7_undo_39 : decode cX7_undo 39 = .ok (.getfield 28, 3) := by decide +kernel
theorem dX7_undo_42 : decode cX7_undo 42 = .ok (.bipush 50, 2) := by decide +kernel
theorem dX7_undo_44 : decode cX7_undo 44 = .ok (.aload_n 0, 1) := by decide +kernel
theorem dX7_undo_45 : decode cX7_undo 45 = .ok (.getfield 149, 3) := by decide +kernel
theorem dX7_undo_48 : decode cX7_undo 48 = .ok (.imul, 1) := by decide +kernel
theorem dX7_undo_49 : decode cX7_undo 49 = .ok (.iload_n 1, 1) := by decide +kernel
theorem dX7_undo_50 : decode cX7_undo 50 = .ok (.iadd, 1) := by decide +kernel
theorem dX7_undo_51 : decode cX7_undo 51 = .ok (.iaload, 1) := by decide +kernel
theorem dX7_undo_52 : decode cX7_undo 52 = .ok (.iastore, 1) := by decide +kernel
theorem dX7_undo_53 : decode cX7_undo 53 = .ok (.iinc 1 1, 3) := by decide +kernel
theorem dX7_undo_56 : decode cX7_undo 56 = .ok (.goto (-29), 3) := by decide +kernel
theorem dX7_undo_59 : decode cX7_undo 59 = .ok (.aload_n 0, 1) := by decide +kernel
theorem dX7_undo_60 : decode cX7_undo 60 = .ok (.getfield 149, 3) := by decide +kernel
theorem dX7_undo_63 : decode cX7_undo 63 = .ok (.ireturn, 1) := by decide +kernel
theorem dX7_told_0 : decode cX7_told 0 = .ok (.iload_n 2, 1) := by decide +kernel
theorem dX7_told_1 : decode cX7_told 1 = .ok (.lookupswitch 66 #[(0, 27), (1, 47)], 27) := by decide +kernel
theorem dX7_told_28 : decode cX7_told 28 = .ok (.aload_n 0, 1) := by decide +kernel
theorem dX7_told_29 : decode cX7_told 29 = .ok (.iload_n 1, 1) := by decide +kernel
theorem dX7_told_30 : decode cX7_told 30 = .ok (.invokestatic 156, 3) := by decide +kernel
theorem dX7_told_33 : decode cX7_told 33 = .ok (.ifCond .eq 12, 3) := by decide +kernel
theorem dX7_told_36 : decode cX7_told 36 = .ok (.aload_n 0, 1) := by decide +kernel
theorem dX7_told_37 : decode cX7_told 37 = .ok (.iload_n 1, 1) := by decide +kernel
theorem dX7_told_38 : decode cX7_told 38 = .ok (.iconst 1, 1) := by decide +kernel
theorem dX7_told_39 : decode cX7_told 39 = .ok (.invokestatic 152, 3) := by decide +kernel
theorem dX7_told_42 : decode cX7_told 42 = .ok (.goto 5, 3) := by decide +kernel
theorem dX7_told_45 : decode cX7_told 45 = .ok (.ldc 90, 2) := by decide +kernel
theorem dX7_told_47 : decode cX7_told 47 = .ok (.ireturn, 1) := by decide +kernel
theorem dX7_told_48 : decode cX7_told 48 = .ok (.aload_n 0, 1) := by decide +kernel
theorem dX7_told_49 : decode cX7_told 49 = .ok (.iload_n 1, 1) := by decide +kernel
theorem dX7_told_50 : decode cX7_told 50 = .ok (.invokestatic 156, 3) := by decide +kernel
theorem dX7_told_53 : decode cX7_told 53 = .ok (.ifCond .eq 12, 3) := by decide +kernel
theorem dX7_told_56 : decode cX7_told 56 = .ok (.aload_n 0, 1) := by decide +kernel
theorem dX7_told_57 : decode cX7_told 57 = .ok (.iload_n 1, 1) := by decide +kernel
theorem dX7_told_58 : decode cX7_told 58 = .ok (.iconst 3, 1) := by decide +kernel
theorem dX7_told_59 : decode cX7_told 59 = .ok (.invokestatic 152, 3) := by decide +kernel
theorem dX7_told_62 : decode cX7_told 62 = .ok (.goto 4, 3) := by decide +kernel
theorem dX7_told_65 : decode cX7_told 65 = .ok (.iconst 0, 1) := by decide +kernel
theorem dX7_told_66 : decode cX7_told 66 = .ok (.ireturn, 1) := by decide +kernel
theorem dX7_told_67 : decode cX7_told 67 = .ok (.aload_n 0, 1) := by decide +kernel
theorem dX7_told_68 : decode cX7_told 68 = .ok (.iload_n 1, 1) := by decide +kernel
theorem dX7_told_69 : decode cX7_told 69 = .ok (.iconst 4, 1) := by decide +kernel
theorem dX7_told_70 : decode cX7_told 70 = .ok (.invokestatic 152, 3) := by decide +kernel
theorem dX7_told_73 : decode cX7_told 73 = .ok (.ireturn, 1) := by decide +kernel
theorem dX7_sheet_0 : decode cX7_sheet 0 = .ok (.aload_n 0, 1) := by decide +kernel
theorem dX7_sheet_1 : decode cX7_sheet 1 = .ok (.iconst 0, 1) := by decide +kernel
theorem dX7_sheet_2 : decode cX7_sheet 2 = .ok (.putfield 47, 3) := by decide +kernel
theorem dX7_sheet_5 : decode cX7_sheet 5 = .ok (.aload_n 0, 1) := by decide +kernel
theorem dX7_sheet_6 : decode cX7_sheet 6 = .ok (.iload_n 1, 1) := by decide +kernel
theorem dX7_sheet_7 : decode cX7_sheet 7 = .ok (.invokevirtual 212, 3) := by decide +kernel
theorem dX7_sheet_10 : decode cX7_sheet 10 = .ok (.ifCond .ne 6, 3) := by decide +kernel
theorem dX7_sheet_13 : decode cX7_sheet 13 = .ok (.ldc 67, 2) := by decide +kernel
theorem dX7_sheet_15 : decode cX7_sheet 15 = .ok (.ireturn, 1) := by decide +kernel
theorem dX7_sheet_16 : decode cX7_sheet 16 = .ok (.iload_n 2, 1) := by decide +kernel
theorem dX7_sheet_17 : decode cX7_sheet 17 = .ok (.tableswitch 76 0 4 #[35, 45, 55, 55, 67], 35) := by decide +kernel
theorem dX7_sheet_52 : decode cX7_sheet 52 = .ok (.aload_n 0, 1) := by decide +kernel
theorem dX7_sheet_53 : decode cX7_sheet 53 = .ok (.getfield 19, 3) := by decide +kernel
theorem dX7_sheet_56 : decode cX7_sheet 56 = .ok (.iload_n 1, 1) := by decide +kernel
theorem dX7_sheet_57 : decode cX7_sheet 57 = .ok (.iconst 0, 1) := by decide +kernel
theorem dX7_sheet_58 : decode cX7_sheet 58 = .ok (.invokestatic 223, 3) := by decide +kernel
theorem dX7_sheet_61 : decode cX7_sheet 61 = .ok (.ireturn, 1) := by decide +kernel
theorem dX7_sheet_62 : decode cX7_sheet 62 = .ok (.aload_n 0, 1) := by decide +kernel
theorem dX7_sheet_63 : decode cX7_sheet 63 = .ok (.getfield 19, 3) := by decide +kernel
theorem dX7_sheet_66 : decode cX7_sheet 66 = .ok (.iload_n 1, 1) := by decide +kernel
theorem dX7_sheet_67 : decode cX7_sheet 67 = .ok (.iconst 2, 1) := by decide +kernel
theorem dX7_sheet_68 : decode cX7_sheet 68 = .ok (.invokestatic 152, 3) := by decide +kernel
theorem dX7_sheet_71 : decode cX7_sheet 71 = .ok (.ireturn, 1) := by decide +kernel
theorem dX7_sheet_72 : decode cX7_sheet 72 = .ok (.aload_n 0, 1) := by decide +kernel
theorem dX7_sheet_73 : decode cX7_sheet 73 = .ok (.getfield 19, 3) := by decide +kernel
theorem dX7_sheet_76 : decode cX7_sheet 76 = .ok (.iload_n 1, 1) := by decide +kernel
theorem dX7_sheet_77 : decode cX7_sheet 77 = .ok (.iload_n 2, 1) := by decide +kernel
theorem dX7_sheet_78 : decode cX7_sheet 78 = .ok (.iconst 1, 1) := by decide +kernel
theorem dX7_sheet_79 : decode cX7_sheet 79 = .ok (.isub, 1) := by decide +kernel
theorem dX7_sheet_80 : decode cX7_sheet 80 = .ok (.invokestatic 223, 3) := by decide +kernel
theorem dX7_sheet_83 : decode cX7_sheet 83 = .ok (.ireturn, 1) := by decide +kernel
theorem dX7_sheet_84 : decode cX7_sheet 84 = .ok (.aload_n 0, 1) := by decide +kernel
theorem dX7_sheet_85 : decode cX7_sheet 85 = .ok (.getfield 19, 3) := by decide +kernel
theorem dX7_sheet_88 : decode cX7_sheet 88 = .ok (.iload_n 1, 1) := by decide +kernel
theorem dX7_sheet_89 : decode cX7_sheet 89 = .ok (.invokestatic 179, 3) := by decide +kernel
theorem dX7_sheet_92 : decode cX7_sheet 92 = .ok (.ireturn, 1) := by decide +kernel
theorem dX7_sheet_93 : decode cX7_sheet 93 = .ok (.ldc 67, 2) := by decide +kernel
theorem dX7_sheet_95 : decode cX7_sheet 95 = .ok (.ireturn, 1) := by decide +kernel
theorem dX7_cell_0 : decode cX7_cell 0 = .ok (.aload_n 0, 1) := by decide +kernel
theorem dX7_cell_1 : decode cX7_cell 1 = .ok (.iconst 0, 1) := by decide +kernel
theorem dX7_cell_2 : decode cX7_cell 2 = .ok (.putfield 47, 3) := by decide +kernel
theorem dX7_cell_5 : decode cX7_cell 5 = .ok (.aload_n 0, 1) := by decide +kernel
theorem dX7_cell_6 : decode cX7_cell 6 = .ok (.iload_n 1, 1) := by decide +kernel
theorem dX7_cell_7 : decode cX7_cell 7 = .ok (.invokevirtual 202, 3) := by decide +kernel
theorem dX7_cell_10 : decode cX7_cell 10 = .ok (.ifCond .eq 15, 3) := by decide +kernel
theorem dX7_cell_13 : decode cX7_cell 13 = .ok (.iload_n 2, 1) := by decide +kernel
theorem dX7_cell_14 : decode cX7_cell 14 = .ok (.i2l, 1) := by decide +kernel
theorem dX7_cell_15 : decode cX7_cell 15 = .ok (.lconst 0, 1) := by decide +kernel
theorem dX7_cell_16 : decode cX7_cell 16 = .ok (.ldc2_w 65, 3) := by decide +kernel
theorem dX7_cell_19 : decode cX7_cell 19 = .ok (.invokestatic 57, 3) := by decide +kernel
theorem dX7_cell_22 : decode cX7_cell 22 = .ok (.ifCond .ne 6, 3) := by decide +kernel
theorem dX7_cell_25 : decode cX7_cell 25 = .ok (.ldc 67, 2) := by decide +kernel
theorem dX7_cell_27 : decode cX7_cell 27 = .ok (.ireturn, 1) := by decide +kernel
theorem dX7_cell_28 : decode cX7_cell 28 = .ok (.iconst 0, 1) := by decide +kernel
theorem dX7_cell_29 : decode cX7_cell 29 = .ok (.istore_n 3, 1) := by decide +kernel
theorem dX7_cell_30 : decode cX7_cell 30 = .ok (.iconst 0, 1) := by decide +kernel
theorem dX7_cell_31 : decode cX7_cell 31 = .ok (.istore 4, 2) := by decide +kernel
theorem dX7_cell_33 : decode cX7_cell 33 = .ok (.iload 4, 2) := by decide +kernel
theorem dX7_cell_35 : decode cX7_cell 35 = .ok (.aload_n 0, 1) := by decide +kernel
theorem dX7_cell_36 : decode cX7_cell 36 = .ok (.getfield 19, 3) := by decide +kernel
theorem dX7_cell_39 : decode cX7_cell 39 = .ok (.iconst 0, 1) := by decide +kernel
theorem dX7_cell_40 : decode cX7_cell 40 = .ok (.iaload, 1) := by decide +kernel
theorem dX7_cell_41 : decode cX7_cell 41 = .ok (.if_icmp .ge 36, 3) := by decide +kernel
theorem dX7_cell_44 : decode cX7_cell 44 = .ok (.iload_n 3, 1) := by decide +kernel
theorem dX7_cell_45 : decode cX7_cell 45 = .ok (.aload_n 0, 1) := by decide +kernel
theorem dX7_cell_46 : decode cX7_cell 46 = .ok (.getfield 19, 3) := by decide +kernel
theorem dX7_cell_49 : decode cX7_cell 49 = .ok (.iload 4, 2) := by decide +kernel
theorem dX7_cell_51 : decode cX7_cell 51 = .ok (.invokestatic 179, 3) := by decide +kernel
theorem dX7_cell_54 : decode cX7_cell 54 = .ok (.iload_n 1, 1) := by decide +kernel
theorem dX7_cell_55 : decode cX7_cell 55 = .ok (.invokestatic 175, 3) := by decide +kernel
theorem dX7_cell_58 : decode cX7_cell 58 = .ok (.ifCond .eq 10, 3) := by decide +kernel
theorem dX7_cell_61 : decode cX7_cell 61 = .ok (.iconst 1, 1) := by decide +kernel
theorem dX7_cell_62 : decode cX7_cell 62 = .ok (.iload 4, 2) := by decide +kernel
theorem dX7_cell_64 : decode cX7_cell 64 = .ok (.ishl, 1) := by decide +kernel
theorem dX7_cell_65 : decode cX7_cell 65 = .ok (.goto 4, 3) := by decide +kernel
theorem dX7_cell_68 : decode cX7_cell 68 = .ok (.iconst 0, 1) := by decide +kernel
theorem dX7_cell_69 : decode cX7_cell 69 = .ok (.ior, 1) := by decide +kernel
theorem dX7_cell_70 : decode cX7_cell 70 = .ok (.istore_n 3, 1) := by decide +kernel
theorem dX7_cell_71 : decode cX7_cell 71 = .ok (.iinc 4 1, 3) := by decide +kernel
theorem dX7_cell_74 : decode cX7_cell 74 = .ok (.goto (-41), 3) := by decide +kernel
theorem dX7_cell_77 : decode cX7_cell 77 = .ok (.iload_n 2, 1) := by decide +kernel
theorem dX7_cell_78 : decode cX7_cell 78 = .ok (.ifCond .ne 14, 3) := by decide +kernel
theorem dX7_cell_81 : decode cX7_cell 81 = .ok (.aload_n 0, 1) := by decide +kernel
theorem dX7_cell_82 : decode cX7_cell 82 = .ok (.getfield 19, 3) := by decide +kernel
theorem dX7_cell_85 : decode cX7_cell 85 = .ok (.iload_n 1, 1) := by decide +kernel
theorem dX7_cell_86 : decode cX7_cell 86 = .ok (.invokestatic 226, 3) := by decide +kernel
theorem dX7_cell_89 : decode cX7_cell 89 = .ok (.goto 27, 3) := by decide +kernel
theorem dX7_cell_92 : decode cX7_cell 92 = .ok (.iload_n 2, 1) := by decide +kernel
theorem dX7_cell_93 : decode cX7_cell 93 = .ok (.iconst 1, 1) := by decide +kernel
theorem dX7_cell_94 : decode cX7_cell 94 = .ok (.if_icmp .ne 7, 3) := by decide +kernel
theorem dX7_cell_97 : decode cX7_cell 97 = .ok (.iload_n 3, 1) := by decide +kernel
theorem dX7_cell_98 : decode cX7_cell 98 = .ok (.goto 18, 3) := by decide +kernel
theorem dX7_cell_101 : decode cX7_cell 101 = .ok (.aload_n 0, 1) := by decide +kernel
theorem dX7_cell_102 : decode cX7_cell 102 = .ok (.getfield 19, 3) := by decide +kernel
theorem dX7_cell_105 : decode cX7_cell 105 = .ok (.iconst 4, 1) := by decide +kernel
theorem dX7_cell_106 : decode cX7_cell 106 = .ok (.iaload, 1) := by decide +kernel
theorem dX7_cell_107 : decode cX7_cell 107 = .ok (.iload_n 1, 1) := by decide +kernel
theorem dX7_cell_108 : decode cX7_cell 108 = .ok (.if_icmp .ne 7, 3) := by decide +kernel
theorem dX7_cell_111 : decode cX7_cell 111 = .ok (.iconst 1, 1) := by decide +kernel
theorem dX7_cell_112 : decode cX7_cell 112 = .ok (.goto 4, 3) := by decide +kernel
theorem dX7_cell_115 : decode cX7_cell 115 = .ok (.iconst 0, 1) := by decide +kernel
theorem dX7_cell_116 : decode cX7_cell 116 = .ok (.ireturn, 1) := by decide +kernel
theorem dX7_stand_0 : decode cX7_stand 0 = .ok (.aload_n 0, 1) := by decide +kernel
theorem dX7_stand_1 : decode cX7_stand 1 = .ok (.iconst 0, 1) := by decide +kernel
theorem dX7_stand_2 : decode cX7_stand 2 = .ok (.putfield 47, 3) := by decide +kernel
theorem dX7_stand_5 : decode cX7_stand 5 = .ok (.aload_n 0, 1) := by decide +kernel
theorem dX7_stand_6 : decode cX7_stand 6 = .ok (.invokevirtual 187, 3) := by decide +kernel
theorem dX7_stand_9 : decode cX7_stand 9 = .ok (.ifCond .ne 6, 3) := by decide +kernel
theorem dX7_stand_12 : decode cX7_stand 12 = .ok (.ldc 190, 2) := by decide +kernel
theorem dX7_stand_14 : decode cX7_stand 14 = .ok (.ireturn, 1) := by decide +kernel
theorem dX7_stand_15 : decode cX7_stand 15 = .ok (.iload_n 1, 1) := by decide +kernel
theorem dX7_stand_16 : decode cX7_stand 16 = .ok (.tableswitch 91 0 7 #[48, 48, 48, 48, 57, 65, 73, 83], 48) := by decide +kernel
theorem dX7_stand_64 : decode cX7_stand 64 = .ok (.aload_n 0, 1) := by decide +kernel
theorem dX7_stand_65 : decode cX7_stand 65 = .ok (.getfield 19, 3) := by decide +kernel
theorem dX7_stand_68 : decode cX7_stand 68 = .ok (.iconst 2, 1) := by decide +kernel
theorem dX7_stand_69 : decode cX7_stand 69 = .ok (.iload_n 1, 1) := by decide +kernel
theorem dX7_stand_70 : decode cX7_stand 70 = .ok (.iadd, 1) := by decide +kernel
theorem dX7_stand_71 : decode cX7_stand 71 = .ok (.iaload, 1) := by decide +kernel
theorem dX7_stand_72 : decode cX7_stand 72 = .ok (.ireturn, 1) := by decide +kernel
theorem dX7_stand_73 : decode cX7_stand 73 = .ok (.aload_n 0, 1) := by decide +kernel
theorem dX7_stand_74 : decode cX7_stand 74 = .ok (.getfield 19, 3) := by decide +kernel
theorem dX7_stand_77 : decode cX7_stand 77 = .ok (.invokestatic 220, 3) := by decide +kernel
theorem dX7_stand_80 : decode cX7_stand 80 = .ok (.ireturn, 1) := by decide +kernel
theorem dX7_stand_81 : decode cX7_stand 81 = .ok (.aload_n 0, 1) := by decide +kernel
theorem dX7_stand_82 : decode cX7_stand 82 = .ok (.getfield 19, 3) := by decide +kernel
theorem dX7_stand_85 : decode cX7_stand 85 = .ok (.invokestatic 196, 3) := by decide +kernel
theorem dX7_stand_88 : decode cX7_stand 88 = .ok (.ireturn, 1) := by decide +kernel
theorem dX7_stand_89 : decode cX7_stand 89 = .ok (.aload_n 0, 1) := by decide +kernel
theorem dX7_stand_90 : decode cX7_stand 90 = .ok (.getfield 19, 3) := by decide +kernel
theorem dX7_stand_93 : decode cX7_stand 93 = .ok (.bipush 7, 2) := by decide +kernel
theorem dX7_stand_95 : decode cX7_stand 95 = .ok (.iaload, 1) := by decide +kernel
theorem dX7_stand_96 : decode cX7_stand 96 = .ok (.iconst 1, 1) := by decide +kernel
theorem dX7_stand_97 : decode cX7_stand 97 = .ok (.iadd, 1) := by decide +kernel
theorem dX7_stand_98 : decode cX7_stand 98 = .ok (.ireturn, 1) := by decide +kernel
theorem dX7_stand_99 : decode cX7_stand 99 = .ok (.aload_n 0, 1) := by decide +kernel
theorem dX7_stand_100 : decode cX7_stand 100 = .ok (.getfield 19, 3) := by decide +kernel
theorem dX7_stand_103 : decode cX7_stand 103 = .ok (.invokestatic 167, 3) := by decide +kernel
theorem dX7_stand_106 : decode cX7_stand 106 = .ok (.ireturn, 1) := by decide +kernel
theorem dX7_stand_107 : decode cX7_stand 107 = .ok (.ldc 67, 2) := by decide +kernel
theorem dX7_stand_109 : decode cX7_stand 109 = .ok (.ireturn, 1) := by decide +kernel
theorem dX7_ahead_0 : decode cX7_ahead 0 = .ok (.aload_n 0, 1) := by decide +kernel
theorem dX7_ahead_1 : decode cX7_ahead 1 = .ok (.iconst 0, 1) := by decide +kernel
theorem dX7_ahead_2 : decode cX7_ahead 2 = .ok (.putfield 47, 3) := by decide +kernel
theorem dX7_ahead_5 : decode cX7_ahead 5 = .ok (.aload_n 0, 1) := by decide +kernel
theorem dX7_ahead_6 : decode cX7_ahead 6 = .ok (.iload_n 1, 1) := by decide +kernel
theorem dX7_ahead_7 : decode cX7_ahead 7 = .ok (.invokevirtual 212, 3) := by decide +kernel
theorem dX7_ahead_10 : decode cX7_ahead 10 = .ok (.ifCond .eq 27, 3) := by decide +kernel
theorem dX7_ahead_13 : decode cX7_ahead 13 = .ok (.iload_n 2, 1) := by decide +kernel
theorem dX7_ahead_14 : decode cX7_ahead 14 = .ok (.i2l, 1) := by decide +kernel
theorem dX7_ahead_15 : decode cX7_ahead 15 = .ok (.lconst 0, 1) := by decide +kernel
theorem dX7_ahead_16 : decode cX7_ahead 16 = .ok (.ldc2_w 229, 3) := by decide +kernel
theorem dX7_ahead_19 : decode cX7_ahead 19 = .ok (.invokestatic 57, 3) := by decide +kernel
theorem dX7_ahead_22 : decode cX7_ahead 22 = .ok (.ifCond .eq 15, 3) := by decide +kernel
theorem dX7_ahead_25 : decode cX7_ahead 25 = .ok (.iload_n 3, 1) := by decide +kernel
theorem dX7_ahead_26 : decode cX7_ahead 26 = .ok (.i2l, 1) := by decide +kernel
theorem dX7_ahead_27 : decode cX7_ahead 27 = .ok (.lconst 0, 1) := by decide +kernel
theorem dX7_ahead_28 : decode cX7_ahead 28 = .ok (.ldc2_w 65, 3) := by decide +kernel
theorem dX7_ahead_31 : decode cX7_ahead 31 = .ok (.invokestatic 57, 3) := by decide +kernel
theorem dX7_ahead_34 : decode cX7_ahead 34 = .ok (.ifCond .ne 6, 3) := by decide +kernel
theorem dX7_ahead_37 : decode cX7_ahead 37 = .ok (.ldc 67, 2) := by decide +kernel
theorem dX7_ahead_39 : decode cX7_ahead 39 = .ok (.ireturn, 1) := by decide +kernel
theorem dX7_ahead_40 : decode cX7_ahead 40 = .ok (.aload_n 0, 1) := by decide +kernel
theorem dX7_ahead_41 : decode cX7_ahead 41 = .ok (.invokevirtual 231, 3) := by decide +kernel
theorem dX7_ahead_44 : decode cX7_ahead 44 = .ok (.aload_n 0, 1) := by decide +kernel
theorem dX7_ahead_45 : decode cX7_ahead 45 = .ok (.getfield 25, 3) := by decide +kernel
theorem dX7_ahead_48 : decode cX7_ahead 48 = .ok (.iload_n 2, 1) := by decide +kernel
theorem dX7_ahead_49 : decode cX7_ahead 49 = .ok (.invokestatic 234, 3) := by decide +kernel
theorem dX7_ahead_52 : decode cX7_ahead 52 = .ok (.aload_n 0, 1) := by decide +kernel
theorem dX7_ahead_53 : decode cX7_ahead 53 = .ok (.getfield 25, 3) := by decide +kernel
theorem dX7_ahead_56 : decode cX7_ahead 56 = .ok (.iload_n 1, 1) := by decide +kernel
theorem dX7_ahead_57 : decode cX7_ahead 57 = .ok (.iload_n 3, 1) := by decide +kernel
theorem dX7_ahead_58 : decode cX7_ahead 58 = .ok (.invokestatic 223, 3) := by decide +kernel
theorem dX7_ahead_61 : decode cX7_ahead 61 = .ok (.ireturn, 1) := by decide +kernel
theorem dX7_over_0 : decode cX7_over 0 = .ok (.aload_n 0, 1) := by decide +kernel
theorem dX7_over_1 : decode cX7_over 1 = .ok (.iconst 0, 1) := by decide +kernel
theorem dX7_over_2 : decode cX7_over 2 = .ok (.putfield 47, 3) := by decide +kernel
theorem dX7_over_5 : decode cX7_over 5 = .ok (.aload_n 0, 1) := by decide +kernel
theorem dX7_over_6 : decode cX7_over 6 = .ok (.iload_n 1, 1) := by decide +kernel
theorem dX7_over_7 : decode cX7_over 7 = .ok (.invokevirtual 202, 3) := by decide +kernel
theorem dX7_over_10 : decode cX7_over 10 = .ok (.ifCond .eq 15, 3) := by decide +kernel
theorem dX7_over_13 : decode cX7_over 13 = .ok (.iload_n 2, 1) := by decide +kernel
theorem dX7_over_14 : decode cX7_over 14 = .ok (.i2l, 1) := by decide +kernel
theorem dX7_over_15 : decode cX7_over 15 = .ok (.lconst 0, 1) := by decide +kernel
theorem dX7_over_16 : decode cX7_over 16 = .ok (.ldc2_w 229, 3) := by decide +kernel
theorem dX7_over_19 : decode cX7_over 19 = .ok (.invokestatic 57, 3) := by decide +kernel
theorem dX7_over_22 : decode cX7_over 22 = .ok (.ifCond .ne 6, 3) := by decide +kernel
theorem dX7_over_25 : decode cX7_over 25 = .ok (.ldc 67, 2) := by decide +kernel
theorem dX7_over_27 : decode cX7_over 27 = .ok (.ireturn, 1) := by decide +kernel
theorem dX7_over_28 : decode cX7_over 28 = .ok (.aload_n 0, 1) := by decide +kernel
theorem dX7_over_29 : decode cX7_over 29 = .ok (.invokevirtual 231, 3) := by decide +kernel
theorem dX7_over_32 : decode cX7_over 32 = .ok (.aload_n 0, 1) := by decide +kernel
theorem dX7_over_33 : decode cX7_over 33 = .ok (.getfield 25, 3) := by decide +kernel
theorem dX7_over_36 : decode cX7_over 36 = .ok (.iload_n 2, 1) := by decide +kernel
theorem dX7_over_37 : decode cX7_over 37 = .ok (.invokestatic 234, 3) := by decide +kernel
theorem dX7_over_40 : decode cX7_over 40 = .ok (.aload_n 0, 1) := by decide +kernel
theorem dX7_over_41 : decode cX7_over 41 = .ok (.getfield 25, 3) := by decide +kernel
theorem dX7_over_44 : decode cX7_over 44 = .ok (.iload_n 1, 1) := by decide +kernel
theorem dX7_over_45 : decode cX7_over 45 = .ok (.invokestatic 226, 3) := by decide +kernel
theorem dX7_over_48 : decode cX7_over 48 = .ok (.ireturn, 1) := by decide +kernel
theorem dX7_when_0 : decode cX7_when 0 = .ok (.aload_n 0, 1) := by decide +kernel
theorem dX7_when_1 : decode cX7_when 1 = .ok (.iconst 0, 1) := by decide +kernel
theorem dX7_when_2 : decode cX7_when 2 = .ok (.putfield 47, 3) := by decide +kernel
theorem dX7_when_5 : decode cX7_when 5 = .ok (.aload_n 0, 1) := by decide +kernel
theorem dX7_when_6 : decode cX7_when 6 = .ok (.iload_n 1, 1) := by decide +kernel
theorem dX7_when_7 : decode cX7_when 7 = .ok (.invokevirtual 212, 3) := by decide +kernel
theorem dX7_when_10 : decode cX7_when 10 = .ok (.ifCond .eq 13, 3) := by decide +kernel
theorem dX7_when_13 : decode cX7_when 13 = .ok (.iload_n 2, 1) := by decide +kernel
theorem dX7_when_14 : decode cX7_when 14 = .ok (.i2l, 1) := by decide +kernel
theorem dX7_when_15 : decode cX7_when 15 = .ok (.lconst 0, 1) := by decide +kernel
theorem dX7_when_16 : decode cX7_when 16 = .ok (.lconst 1, 1) := by decide +kernel
theorem dX7_when_17 : decode cX7_when 17 = .ok (.invokestatic 57, 3) := by decide +kernel
theorem dX7_when_20 : decode cX7_when 20 = .ok (.ifCond .ne 6, 3) := by decide +kernel
theorem dX7_when_23 : decode cX7_when 23 = .ok (.ldc 67, 2) := by decide +kernel
theorem dX7_when_25 : decode cX7_when 25 = .ok (.ireturn, 1) := by decide +kernel
theorem dX7_when_26 : decode cX7_when 26 = .ok (.aload_n 0, 1) := by decide +kernel
theorem dX7_when_27 : decode cX7_when 27 = .ok (.invokevirtual 231, 3) := by decide +kernel
theorem dX7_when_30 : decode cX7_when 30 = .ok (.iconst 0, 1) := by decide +kernel
theorem dX7_when_31 : decode cX7_when 31 = .ok (.istore_n 3, 1) := by decide +kernel
theorem dX7_when_32 : decode cX7_when 32 = .ok (.iload_n 3, 1) := by decide +kernel
theorem dX7_when_33 : decode cX7_when 33 = .ok (.bipush 60, 2) := by decide +kernel
theorem dX7_when_35 : decode cX7_when 35 = .ok (.if_icmp .gt 48, 3) := by decide +kernel
theorem dX7_when_38 : decode cX7_when 38 = .ok (.iload_n 2, 1) := by decide +kernel
theorem dX7_when_39 : decode cX7_when 39 = .ok (.ifCond .ne 17, 3) := by decide +kernel
theorem dX7_when_42 : decode cX7_when 42 = .ok (.aload_n 0, 1) := by decide +kernel
theorem dX7_when_43 : decode cX7_when 43 = .ok (.getfield 25, 3) := by decide +kernel
theorem dX7_when_46 : decode cX7_when 46 = .ok (.iload_n 1, 1) := by decide +kernel
theorem dX7_when_47 : decode cX7_when 47 = .ok (.invokestatic 156, 3) := by decide +kernel
theorem dX7_when_50 : decode cX7_when 50 = .ok (.ifCond .ne 20, 3) := by decide +kernel
theorem dX7_when_53 : decode cX7_when 53 = .ok (.goto 15, 3) := by decide +kernel
theorem dX7_when_56 : decode cX7_when 56 = .ok (.aload_n 0, 1) := by decide +kernel
theorem dX7_when_57 : decode cX7_when 57 = .ok (.getfield 25, 3) := by decide +kernel
theorem dX7_when_60 : decode cX7_when 60 = .ok (.iload_n 1, 1) := by decide +kernel
theorem dX7_when_61 : decode cX7_when 61 = .ok (.iconst 4, 1) := by decide +kernel
theorem dX7_when_62 : decode cX7_when 62 = .ok (.invokestatic 152, 3) := by decide +kernel
theorem dX7_when_65 : decode cX7_when 65 = .ok (.ifCond .le 5, 3) := by decide +kernel
theorem dX7_when_68 : decode cX7_when 68 = .ok (.iload_n 3, 1) := by decide +kernel
theorem dX7_when_69 : decode cX7_when 69 = .ok (.ireturn, 1) := by decide +kernel
theorem dX7_when_70 : decode cX7_when 70 = .ok (.aload_n 0, 1) := by decide +kernel
theorem dX7_when_71 : decode cX7_when 71 = .ok (.getfield 25, 3) := by decide +kernel
theorem dX7_when_74 : decode cX7_when 74 = .ok (.invokestatic 183, 3) := by decide +kernel
theorem dX7_when_77 : decode cX7_when 77 = .ok (.iinc 3 1, 3) := by decide +kernel
theorem dX7_when_80 : decode cX7_when 80 = .ok (.goto (-48), 3) := by decide +kernel
theorem dX7_when_83 : decode cX7_when 83 = .ok (.ldc 90, 2) := by decide +kernel
theorem dX7_when_85 : decode cX7_when 85 = .ok (.ireturn, 1) := by decide +kernel
theorem dX7_overlap_0 : decode cX7_overlap 0 = .ok (.aload_n 0, 1) := by decide +kernel
theorem dX7_overlap_1 : decode cX7_overlap 1 = .ok (.iconst 0, 1) := by decide +kernel
theorem dX7_overlap_2 : decode cX7_overlap 2 = .ok (.putfield 47, 3) := by decide +kernel
theorem dX7_overlap_5 : decode cX7_overlap 5 = .ok (.aload_n 0, 1) := by decide +kernel
theorem dX7_overlap_6 : decode cX7_overlap 6 = .ok (.invokevirtual 187, 3) := by decide +kernel
theorem dX7_overlap_9 : decode cX7_overlap 9 = .ok (.ifCond .ne 6, 3) := by decide +kernel
theorem dX7_overlap_12 : decode cX7_overlap 12 = .ok (.ldc 190, 2) := by decide +kernel
theorem dX7_overlap_14 : decode cX7_overlap 14 = .ok (.ireturn, 1) := by decide +kernel
theorem dX7_overlap_15 : decode cX7_overlap 15 = .ok (.iload_n 1, 1) := by decide +kernel
theorem dX7_overlap_16 : decode cX7_overlap 16 = .ok (.i2l, 1) := by decide +kernel
theorem dX7_overlap_17 : decode cX7_overlap 17 = .ok (.lconst 0, 1) := by decide +kernel
theorem dX7_overlap_18 : decode cX7_overlap 18 = .ok (.lconst 1, 1) := by decide +kernel
theorem dX7_overlap_19 : decode cX7_overlap 19 = .ok (.invokestatic 57, 3) := by decide +kernel
theorem dX7_overlap_22 : decode cX7_overlap 22 = .ok (.ifCond .ne 6, 3) := by decide +kernel
theorem dX7_overlap_25 : decode cX7_overlap 25 = .ok (.ldc 67, 2) := by decide +kernel
theorem dX7_overlap_27 : decode cX7_overlap 27 = .ok (.ireturn, 1) := by decide +kernel
theorem dX7_overlap_28 : decode cX7_overlap 28 = .ok (.aload_n 0, 1) := by decide +kernel
theorem dX7_overlap_29 : decode cX7_overlap 29 = .ok (.invokevirtual 231, 3) := by decide +kernel
theorem dX7_overlap_32 : decode cX7_overlap 32 = .ok (.iconst 0, 1) := by decide +kernel
theorem dX7_overlap_33 : decode cX7_overlap 33 = .ok (.istore_n 2, 1) := by decide +kernel
theorem dX7_overlap_34 : decode cX7_overlap 34 = .ok (.iload_n 2, 1) := by decide +kernel
theorem dX7_overlap_35 : decode cX7_overlap 35 = .ok (.bipush 60, 2) := by decide +kernel
theorem dX7_overlap_37 : decode cX7_overlap 37 = .ok (.if_icmp .gt 93, 3) := by decide +kernel
theorem dX7_overlap_40 : decode cX7_overlap 40 = .ok (.iconst 0, 1) := by decide +kernel
theorem dX7_overlap_41 : decode cX7_overlap 41 = .ok (.istore_n 3, 1) := by decide +kernel
theorem dX7_overlap_42 : decode cX7_overlap 42 = .ok (.iload_n 3, 1) := by decide +kernel
theorem dX7_overlap_43 : decode cX7_overlap 43 = .ok (.aload_n 0, 1) := by decide +kernel
theorem dX7_overlap_44 : decode cX7_overlap 44 = .ok (.getfield 19, 3) := by decide +kernel
theorem dX7_overlap_47 : decode cX7_overlap 47 = .ok (.iconst 0, 1) := by decide +kernel
theorem dX7_overlap_48 : decode cX7_overlap 48 = .ok (.iaload, 1) := by decide +kernel
theorem dX7_overlap_49 : decode cX7_overlap 49 = .ok (.if_icmp .ge 68, 3) := by decide +kernel
theorem dX7_overlap_52 : decode cX7_overlap 52 = .ok (.iload_n 3, 1) := by decide +kernel
theorem dX7_overlap_53 : decode cX7_overlap 53 = .ok (.iconst 1, 1) := by decide +kernel
theorem dX7_overlap_54 : decode cX7_overlap 54 = .ok (.iadd, 1) := by decide +kernel
theorem dX7_overlap_55 : decode cX7_overlap 55 = .ok (.istore 4, 2) := by decide +kernel
theorem dX7_overlap_57 : decode cX7_overlap 57 = .ok (.iload 4, 2) := by decide +kernel
theorem dX7_overlap_59 : decode cX7_overlap 59 = .ok (.aload_n 0, 1) := by decide +kernel
theorem dX7_overlap_60 : decode cX7_overlap 60 = .ok (.getfield 19, 3) := by decide +kernel
theorem dX7_overlap_63 : decode cX7_overlap 63 = .ok (.iconst 0, 1) := by decide +kernel
theorem dX7_overlap_64 : decode cX7_overlap 64 = .ok (.iaload, 1) := by decide +kernel
theorem dX7_overlap_65 : decode cX7_overlap 65 = .ok (.if_icmp .ge 46, 3) := by decide +kernel
theorem dX7_overlap_68 : decode cX7_overlap 68 = .ok (.aload_n 0, 1) := by decide +kernel
theorem dX7_overlap_69 : decode cX7_overlap 69 = .ok (.getfield 25, 3) := by decide +kernel
theorem dX7_overlap_72 : decode cX7_overlap 72 = .ok (.iload_n 3, 1) := by decide +kernel
theorem dX7_overlap_73 : decode cX7_overlap 73 = .ok (.invokestatic 179, 3) := by decide +kernel
theorem dX7_overlap_76 : decode cX7_overlap 76 = .ok (.aload_n 0, 1) := by decide +kernel
theorem dX7_overlap_77 : decode cX7_overlap 77 = .ok (.getfield 25, 3) := by decide +kernel
theorem dX7_overlap_80 : decode cX7_overlap 80 = .ok (.iload 4, 2) := by decide +kernel
theorem dX7_overlap_82 : decode cX7_overlap 82 = .ok (.invokestatic 179, 3) := by decide +kernel
theorem dX7_overlap_85 : decode cX7_overlap 85 = .ok (.iand, 1) := by decide +kernel
theorem dX7_overlap_86 : decode cX7_overlap 86 = .ok (.ifCond .eq 19, 3) := by decide +kernel
theorem dX7_overlap_89 : decode cX7_overlap 89 = .ok (.iload_n 1, 1) := by decide +kernel
theorem dX7_overlap_90 : decode cX7_overlap 90 = .ok (.ifCond .ne 7, 3) := by decide +kernel
theorem dX7_overlap_93 : decode cX7_overlap 93 = .ok (.iload_n 2, 1) := by decide +kernel
theorem dX7_overlap_94 : decode cX7_overlap 94 = .ok (.goto 10, 3) := by decide +kernel
theorem dX7_overlap_97 : decode cX7_overlap 97 = .ok (.bipush 10, 2) := by decide +kernel
theorem dX7_overlap_99 : decode cX7_overlap 99 = .ok (.iload_n 3, 1) := by decide +kernel
theorem dX7_overlap_100 : decode cX7_overlap 100 = .ok (.imul, 1) := by decide +kernel
theorem dX7_overlap_101 : decode cX7_overlap 101 = .ok (.iload 4, 2) := by decide +kernel
theorem dX7_overlap_103 : decode cX7_overlap 103 = .ok (.iadd, 1) := by decide +kernel
theorem dX7_overlap_104 : decode cX7_overlap 104 = .ok (.ireturn, 1) := by decide +kernel
theorem dX7_overlap_105 : decode cX7_overlap 105 = .ok (.iinc 4 1, 3) := by decide +kernel
theorem dX7_overlap_108 : decode cX7_overlap 108 = .ok (.goto (-51), 3) := by decide +kernel
theorem dX7_overlap_111 : decode cX7_overlap 111 = .ok (.iinc 3 1, 3) := by decide +kernel
theorem dX7_overlap_114 : decode cX7_overlap 114 = .ok (.goto (-72), 3) := by decide +kernel
theorem dX7_overlap_117 : decode cX7_overlap 117 = .ok (.aload_n 0, 1) := by decide +kernel
theorem dX7_overlap_118 : decode cX7_overlap 118 = .ok (.getfield 25, 3) := by decide +kernel
theorem dX7_overlap_121 : decode cX7_overlap 121 = .ok (.invokestatic 183, 3) := by decide +kernel
theorem dX7_overlap_124 : decode cX7_overlap 124 = .ok (.iinc 2 1, 3) := by decide +kernel
theorem dX7_overlap_127 : decode cX7_overlap 127 = .ok (.goto (-93), 3) := by decide +kernel
theorem dX7_overlap_130 : decode cX7_overlap 130 = .ok (.ldc 90, 2) := by decide +kernel
theorem dX7_overlap_132 : decode cX7_overlap 132 = .ok (.ireturn, 1) := by decide +kernel
theorem dX7_walk_0 : decode cX7_walk 0 = .ok (.aload_n 0, 1) := by decide +kernel
theorem dX7_walk_1 : decode cX7_walk 1 = .ok (.iconst 0, 1) := by decide +kernel
theorem dX7_walk_2 : decode cX7_walk 2 = .ok (.putfield 47, 3) := by decide +kernel
theorem dX7_walk_5 : decode cX7_walk 5 = .ok (.aload_n 0, 1) := by decide +kernel
theorem dX7_walk_6 : decode cX7_walk 6 = .ok (.invokevirtual 187, 3) := by decide +kernel
theorem dX7_walk_9 : decode cX7_walk 9 = .ok (.ifCond .ne 6, 3) := by decide +kernel
theorem dX7_walk_12 : decode cX7_walk 12 = .ok (.ldc 190, 2) := by decide +kernel
theorem dX7_walk_14 : decode cX7_walk 14 = .ok (.ireturn, 1) := by decide +kernel
theorem dX7_walk_15 : decode cX7_walk 15 = .ok (.iload_n 1, 1) := by decide +kernel
theorem dX7_walk_16 : decode cX7_walk 16 = .ok (.i2l, 1) := by decide +kernel
theorem dX7_walk_17 : decode cX7_walk 17 = .ok (.lconst 1, 1) := by decide +kernel
theorem dX7_walk_18 : decode cX7_walk 18 = .ok (.ldc2_w 238, 3) := by decide +kernel
theorem dX7_walk_21 : decode cX7_walk 21 = .ok (.invokestatic 57, 3) := by decide +kernel
theorem dX7_walk_24 : decode cX7_walk 24 = .ok (.ifCond .eq 8, 3) := by decide +kernel
theorem dX7_walk_27 : decode cX7_walk 27 = .ok (.iload_n 2, 1) := by decide +kernel
theorem dX7_walk_28 : decode cX7_walk 28 = .ok (.iconst (-1), 1) := by decide +kernel
theorem dX7_walk_29 : decode cX7_walk 29 = .ok (.if_icmp .ge 6, 3) := by decide +kernel
theorem dX7_walk_32 : decode cX7_walk 32 = .ok (.ldc 67, 2) := by decide +kernel
theorem dX7_walk_34 : decode cX7_walk 34 = .ok (.ireturn, 1) := by decide +kernel
theorem dX7_walk_35 : decode cX7_walk 35 = .ok (.aload_n 0, 1) := by decide +kernel
theorem dX7_walk_36 : decode cX7_walk 36 = .ok (.invokevirtual 231, 3) := by decide +kernel
theorem dX7_walk_39 : decode cX7_walk 39 = .ok (.iconst 0, 1) := by decide +kernel
theorem dX7_walk_40 : decode cX7_walk 40 = .ok (.istore_n 3, 1) := by decide +kernel
theorem dX7_walk_41 : decode cX7_walk 41 = .ok (.iload_n 3, 1) := by decide +kernel
theorem dX7_walk_42 : decode cX7_walk 42 = .ok (.iload_n 1, 1) := by decide +kernel
theorem dX7_walk_43 : decode cX7_walk 43 = .ok (.if_icmp .ge 57, 3) := by decide +kernel
theorem dX7_walk_46 : decode cX7_walk 46 = .ok (.aload_n 0, 1) := by decide +kernel
theorem dX7_walk_47 : decode cX7_walk 47 = .ok (.getfield 25, 3) := by decide +kernel
theorem dX7_walk_50 : decode cX7_walk 50 = .ok (.invokestatic 183, 3) := by decide +kernel
theorem dX7_walk_53 : decode cX7_walk 53 = .ok (.iconst 0, 1) := by decide +kernel
theorem dX7_walk_54 : decode cX7_walk 54 = .ok (.istore 4, 2) := by decide +kernel
theorem dX7_walk_56 : decode cX7_walk 56 = .ok (.iload 4, 2) := by decide +kernel
theorem dX7_walk_58 : decode cX7_walk 58 = .ok (.aload_n 0, 1) := by decide +kernel
theorem dX7_walk_59 : decode cX7_walk 59 = .ok (.getfield 19, 3) := by decide +kernel
theorem dX7_walk_62 : decode cX7_walk 62 = .ok (.iconst 2, 1) := by decide +kernel
theorem dX7_walk_63 : decode cX7_walk 63 = .ok (.iaload, 1) := by decide +kernel
theorem dX7_walk_64 : decode cX7_walk 64 = .ok (.if_icmp .ge 30, 3) := by decide +kernel
theorem dX7_walk_67 : decode cX7_walk 67 = .ok (.aload_n 0, 1) := by decide +kernel
theorem dX7_walk_68 : decode cX7_walk 68 = .ok (.getfield 34, 3) := by decide +kernel
theorem dX7_walk_71 : decode cX7_walk 71 = .ok (.bipush 16, 2) := by decide +kernel
theorem dX7_walk_73 : decode cX7_walk 73 = .ok (.iload_n 3, 1) := by decide +kernel
theorem dX7_walk_74 : decode cX7_walk 74 = .ok (.imul, 1) := by decide +kernel
theorem dX7_walk_75 : decode cX7_walk 75 = .ok (.iload 4, 2) := by decide +kernel
theorem dX7_walk_77 : decode cX7_walk 77 = .ok (.iadd, 1) := by decide +kernel
theorem dX7_walk_78 : decode cX7_walk 78 = .ok (.aload_n 0, 1) := by decide +kernel
theorem dX7_walk_79 : decode cX7_walk 79 = .ok (.getfield 25, 3) := by decide +kernel
theorem dX7_walk_82 : decode cX7_walk 82 = .ok (.iload 4, 2) := by decide +kernel
theorem dX7_walk_84 : decode cX7_walk 84 = .ok (.invokestatic 226, 3) := by decide +kernel
theorem dX7_walk_87 : decode cX7_walk 87 = .ok (.iastore, 1) := by decide +kernel
theorem dX7_walk_88 : decode cX7_walk 88 = .ok (.iinc 4 1, 3) := by decide +kernel
theorem dX7_walk_91 : decode cX7_walk 91 = .ok (.goto (-35), 3) := by decide +kernel
theorem dX7_walk_94 : decode cX7_walk 94 = .ok (.iinc 3 1, 3) := by decide +kernel
theorem dX7_walk_97 : decode cX7_walk 97 = .ok (.goto (-56), 3) := by decide +kernel
theorem dX7_walk_100 : decode cX7_walk 100 = .ok (.iconst 1, 1) := by decide +kernel
theorem dX7_walk_101 : decode cX7_walk 101 = .ok (.istore_n 3, 1) := by decide +kernel
theorem dX7_walk_102 : decode cX7_walk 102 = .ok (.iconst 0, 1) := by decide +kernel
theorem dX7_walk_103 : decode cX7_walk 103 = .ok (.istore 4, 2) := by decide +kernel
theorem dX7_walk_105 : decode cX7_walk 105 = .ok (.iload 4, 2) := by decide +kernel
theorem dX7_walk_107 : decode cX7_walk 107 = .ok (.iload_n 1, 1) := by decide +kernel
theorem dX7_walk_108 : decode cX7_walk 108 = .ok (.if_icmp .ge 13, 3) := by decide +kernel
theorem dX7_walk_111 : decode cX7_walk 111 = .ok (.iload_n 3, 1) := by decide +kernel
theorem dX7_walk_112 : decode cX7_walk 112 = .ok (.iconst 3, 1) := by decide +kernel
theorem dX7_walk_113 : decode cX7_walk 113 = .ok (.imul, 1) := by decide +kernel
theorem dX7_walk_114 : decode cX7_walk 114 = .ok (.istore_n 3, 1) := by decide +kernel
theorem dX7_walk_115 : decode cX7_walk 115 = .ok (.iinc 4 1, 3) := by decide +kernel
theorem dX7_walk_118 : decode cX7_walk 118 = .ok (.goto (-13), 3) := by decide +kernel
theorem dX7_walk_121 : decode cX7_walk 121 = .ok (.ldc 90, 2) := by decide +kernel
theorem dX7_walk_123 : decode cX7_walk 123 = .ok (.istore 4, 2) := by decide +kernel
theorem dX7_walk_125 : decode cX7_walk 125 = .ok (.iconst 0, 1) := by decide +kernel
theorem dX7_walk_126 : decode cX7_walk 126 = .ok (.istore 5, 2) := by decide +kernel
theorem dX7_walk_128 : decode cX7_walk 128 = .ok (.iconst 0, 1) := by decide +kernel
theorem dX7_walk_129 : decode cX7_walk 129 = .ok (.istore 6, 2) := by decide +kernel
theorem dX7_walk_131 : decode cX7_walk 131 = .ok (.iload 6, 2) := by decide +kernel
theorem dX7_walk_133 : decode cX7_walk 133 = .ok (.iload_n 3, 1) := by decide +kernel
theorem dX7_walk_134 : decode cX7_walk 134 = .ok (.if_icmp .ge 148, 3) := by decide +kernel
theorem dX7_walk_137 : decode cX7_walk 137 = .ok (.aload_n 0, 1) := by decide +kernel
theorem dX7_walk_138 : decode cX7_walk 138 = .ok (.getfield 19, 3) := by decide +kernel
theorem dX7_walk_141 : decode cX7_walk 141 = .ok (.iconst 4, 1) := by decide +kernel
theorem dX7_walk_142 : decode cX7_walk 142 = .ok (.iaload, 1) := by decide +kernel
theorem dX7_walk_143 : decode cX7_walk 143 = .ok (.istore 7, 2) := by decide +kernel
theorem dX7_walk_145 : decode cX7_walk 145 = .ok (.iload_n 3, 1) := by decide +kernel
theorem dX7_walk_146 : decode cX7_walk 146 = .ok (.iconst 3, 1) := by decide +kernel
theorem dX7_walk_147 : decode cX7_walk 147 = .ok (.idiv, 1) := by decide +kernel
theorem dX7_walk_148 : decode cX7_walk 148 = .ok (.istore 8, 2) := by decide +kernel
theorem dX7_walk_150 : decode cX7_walk 150 = .ok (.iconst 0, 1) := by decide +kernel
theorem dX7_walk_151 : decode cX7_walk 151 = .ok (.istore 9, 2) := by decide +kernel
theorem dX7_walk_153 : decode cX7_walk 153 = .ok (.iconst 1, 1) := by decide +kernel
theorem dX7_walk_154 : decode cX7_walk 154 = .ok (.istore 10, 2) := by decide +kernel
theorem dX7_walk_156 : decode cX7_walk 156 = .ok (.iconst 0, 1) := by decide +kernel
theorem dX7_walk_157 : decode cX7_walk 157 = .ok (.istore 11, 2) := by decide +kernel
theorem dX7_walk_159 : decode cX7_walk 159 = .ok (.iload 11, 2) := by decide +kernel
theorem dX7_walk_161 : decode cX7_walk 161 = .ok (.iload_n 1, 1) := by decide +kernel
theorem dX7_walk_162 : decode cX7_walk 162 = .ok (.if_icmp .ge 87, 3) := by decide +kernel
theorem dX7_walk_165 : decode cX7_walk 165 = .ok (.iload 7, 2) := by decide +kernel
theorem dX7_walk_167 : decode cX7_walk 167 = .ok (.iload 6, 2) := by decide +kernel
theorem dX7_walk_169 : decode cX7_walk 169 = .ok (.iload 8, 2) := by decide +kernel
theorem dX7_walk_171 : decode cX7_walk 171 = .ok (.idiv, 1) := by decide +kernel
theorem dX7_walk_172 : decode cX7_walk 172 = .ok (.iconst 3, 1) := by decide +kernel
theorem dX7_walk_173 : decode cX7_walk 173 = .ok (.irem, 1) := by decide +kernel
theorem dX7_walk_174 : decode cX7_walk 174 = .ok (.iconst 1, 1) := by decide +kernel
theorem dX7_walk_175 : decode cX7_walk 175 = .ok (.isub, 1) := by decide +kernel
theorem dX7_walk_176 : decode cX7_walk 176 = .ok (.iadd, 1) := by decide +kernel
theorem dX7_walk_177 : decode cX7_walk 177 = .ok (.istore 7, 2) := by decide +kernel
theorem dX7_walk_179 : decode cX7_walk 179 = .ok (.iload 8, 2) := by decide +kernel
theorem dX7_walk_181 : decode cX7_walk 181 = .ok (.iconst 1, 1) := by decide +kernel
theorem dX7_walk_182 : decode cX7_walk 182 = .ok (.if_icmp .le 10, 3) := by decide +kernel
theorem dX7_walk_185 : decode cX7_walk 185 = .ok (.iload 8, 2) := by decide +kernel
theorem dX7_walk_187 : decode cX7_walk 187 = .ok (.iconst 3, 1) := by decide +kernel
theorem dX7_walk_188 : decode cX7_walk 188 = .ok (.idiv, 1) := by decide +kernel
theorem dX7_walk_189 : decode cX7_walk 189 = .ok (.goto 4, 3) := by decide +kernel
theorem dX7_walk_192 : decode cX7_walk 192 = .ok (.iconst 1, 1) := by decide +kernel
theorem dX7_walk_193 : decode cX7_walk 193 = .ok (.istore 8, 2) := by decide +kernel
theorem dX7_walk_195 : decode cX7_walk 195 = .ok (.iload 10, 2) := by decide +kernel
theorem dX7_walk_197 : decode cX7_walk 197 = .ok (.ifCond .eq 16, 3) := by decide +kernel
theorem dX7_walk_200 : decode cX7_walk 200 = .ok (.aload_n 0, 1) := by decide +kernel
theorem dX7_walk_201 : decode cX7_walk 201 = .ok (.iload 7, 2) := by decide +kernel
theorem dX7_walk_203 : decode cX7_walk 203 = .ok (.invokevirtual 202, 3) := by decide +kernel
theorem dX7_walk_206 : decode cX7_walk 206 = .ok (.ifCond .eq 7, 3) := by decide +kernel
theorem dX7_walk_209 : decode cX7_walk 209 = .ok (.iconst 1, 1) := by decide +kernel
theorem dX7_walk_210 : decode cX7_walk 210 = .ok (.goto 4, 3) := by decide +kernel
theorem dX7_walk_213 : decode cX7_walk 213 = .ok (.iconst 0, 1) := by decide +kernel
theorem dX7_walk_214 : decode cX7_walk 214 = .ok (.istore 10, 2) := by decide +kernel
theorem dX7_walk_216 : decode cX7_walk 216 = .ok (.iload 9, 2) := by decide +kernel
theorem dX7_walk_218 : decode cX7_walk 218 = .ok (.iload 10, 2) := by decide +kernel
theorem dX7_walk_220 : decode cX7_walk 220 = .ok (.ifCond .eq 19, 3) := by decide +kernel
theorem dX7_walk_223 : decode cX7_walk 223 = .ok (.aload_n 0, 1) := by decide +kernel
theorem dX7_walk_224 : decode cX7_walk 224 = .ok (.getfield 34, 3) := by decide +kernel
theorem dX7_walk_227 : decode cX7_walk 227 = .ok (.bipush 16, 2) := by decide +kernel
theorem dX7_walk_229 : decode cX7_walk 229 = .ok (.iload 11, 2) := by decide +kernel
theorem dX7_walk_231 : decode cX7_walk 231 = .ok (.imul, 1) := by decide +kernel
theorem dX7_walk_232 : decode cX7_walk 232 = .ok (.iload 7, 2) := by decide +kernel
theorem dX7_walk_234 : decode cX7_walk 234 = .ok (.iadd, 1) := by decide +kernel
theorem dX7_walk_235 : decode cX7_walk 235 = .ok (.iaload, 1) := by decide +kernel
theorem dX7_walk_236 : decode cX7_walk 236 = .ok (.goto 4, 3) := by decide +kernel
theorem dX7_walk_239 : decode cX7_walk 239 = .ok (.iconst 0, 1) := by decide +kernel
theorem dX7_walk_240 : decode cX7_walk 240 = .ok (.iadd, 1) := by decide +kernel
theorem dX7_walk_241 : decode cX7_walk 241 = .ok (.istore 9, 2) := by decide +kernel
theorem dX7_walk_243 : decode cX7_walk 243 = .ok (.iinc 11 1, 3) := by decide +kernel
theorem dX7_walk_246 : decode cX7_walk 246 = .ok (.goto (-87), 3) := by decide +kernel
theorem dX7_walk_249 : decode cX7_walk 249 = .ok (.iload 10, 2) := by decide +kernel
theorem dX7_walk_251 : decode cX7_walk 251 = .ok (.ifCond .eq 25, 3) := by decide +kernel
theorem dX7_walk_254 : decode cX7_walk 254 = .ok (.iload 4, 2) := by decide +kernel
theorem dX7_walk_256 : decode cX7_walk 256 = .ok (.ldc 90, 2) := by decide +kernel
theorem dX7_walk_258 : decode cX7_walk 258 = .ok (.if_icmp .eq 10, 3) := by decide +kernel
theorem dX7_walk_261 : decode cX7_walk 261 = .ok (.iload 9, 2) := by decide +kernel
theorem dX7_walk_263 : decode cX7_walk 263 = .ok (.iload 4, 2) := by decide +kernel
theorem dX7_walk_265 : decode cX7_walk 265 = .ok (.if_icmp .ge 11, 3) := by decide +kernel
theorem dX7_walk_268 : decode cX7_walk 268 = .ok (.iload 9, 2) := by decide +kernel
theorem dX7_walk_270 : decode cX7_walk 270 = .ok (.istore 4, 2) := by decide +kernel
theorem dX7_walk_272 : decode cX7_walk 272 = .ok (.iload 6, 2) := by decide +kernel
theorem dX7_walk_274 : decode cX7_walk 274 = .ok (.istore 5, 2) := by decide +kernel
theorem dX7_walk_276 : decode cX7_walk 276 = .ok (.iinc 6 1, 3) := by decide +kernel
theorem dX7_walk_279 : decode cX7_walk 279 = .ok (.goto (-148), 3) := by decide +kernel
theorem dX7_walk_282 : decode cX7_walk 282 = .ok (.iload_n 2, 1) := by decide +kernel
theorem dX7_walk_283 : decode cX7_walk 283 = .ok (.iconst (-1), 1) := by decide +kernel
theorem dX7_walk_284 : decode cX7_walk 284 = .ok (.if_icmp .ne 6, 3) := by decide +kernel
theorem dX7_walk_287 : decode cX7_walk 287 = .ok (.iload 4, 2) := by decide +kernel
theorem dX7_walk_289 : decode cX7_walk 289 = .ok (.ireturn, 1) := by decide +kernel
theorem dX7_walk_290 : decode cX7_walk 290 = .ok (.aload_n 0, 1) := by decide +kernel
theorem dX7_walk_291 : decode cX7_walk 291 = .ok (.getfield 19, 3) := by decide +kernel
theorem dX7_walk_294 : decode cX7_walk 294 = .ok (.iconst 4, 1) := by decide +kernel
theorem dX7_walk_295 : decode cX7_walk 295 = .ok (.iaload, 1) := by decide +kernel
theorem dX7_walk_296 : decode cX7_walk 296 = .ok (.istore 6, 2) := by decide +kernel
theorem dX7_walk_298 : decode cX7_walk 298 = .ok (.iload_n 3, 1) := by decide +kernel
theorem dX7_walk_299 : decode cX7_walk 299 = .ok (.iconst 3, 1) := by decide +kernel
theorem dX7_walk_300 : decode cX7_walk 300 = .ok (.idiv, 1) := by decide +kernel
theorem dX7_walk_301 : decode cX7_walk 301 = .ok (.istore 7, 2) := by decide +kernel
theorem dX7_walk_303 : decode cX7_walk 303 = .ok (.iconst 0, 1) := by decide +kernel
theorem dX7_walk_304 : decode cX7_walk 304 = .ok (.istore 8, 2) := by decide +kernel
theorem dX7_walk_306 : decode cX7_walk 306 = .ok (.iload 8, 2) := by decide +kernel
theorem dX7_walk_308 : decode cX7_walk 308 = .ok (.iload_n 2, 1) := by decide +kernel
theorem dX7_walk_309 : decode cX7_walk 309 = .ok (.if_icmp .gt 44, 3) := by decide +kernel
theorem dX7_walk_312 : decode cX7_walk 312 = .ok (.iload_n 2, 1) := by decide +kernel
theorem dX7_walk_313 : decode cX7_walk 313 = .ok (.iload_n 1, 1) := by decide +kernel
theorem dX7_walk_314 : decode cX7_walk 314 = .ok (.if_icmp .ge 39, 3) := by decide +kernel
theorem dX7_walk_317 : decode cX7_walk 317 = .ok (.iload 6, 2) := by decide +kernel
theorem dX7_walk_319 : decode cX7_walk 319 = .ok (.iload 5, 2) := by decide +kernel
theorem dX7_walk_321 : decode cX7_walk 321 = .ok (.iload 7, 2) := by decide +kernel
theorem dX7_walk_323 : decode cX7_walk 323 = .ok (.idiv, 1) := by decide +kernel
theorem dX7_walk_324 : decode cX7_walk 324 = .ok (.iconst 3, 1) := by decide +kernel
theorem dX7_walk_325 : decode cX7_walk 325 = .ok (.irem, 1) := by decide +kernel
theorem dX7_walk_326 : decode cX7_walk 326 = .ok (.iconst 1, 1) := by decide +kernel
theorem dX7_walk_327 : decode cX7_walk 327 = .ok (.isub, 1) := by decide +kernel
theorem dX7_walk_328 : decode cX7_walk 328 = .ok (.iadd, 1) := by decide +kernel
theorem dX7_walk_329 : decode cX7_walk 329 = .ok (.istore 6, 2) := by decide +kernel
theorem dX7_walk_331 : decode cX7_walk 331 = .ok (.iload 7, 2) := by decide +kernel
theorem dX7_walk_333 : decode cX7_walk 333 = .ok (.iconst 1, 1) := by decide +kernel
theorem dX7_walk_334 : decode cX7_walk 334 = .ok (.if_icmp .le 10, 3) := by decide +kernel
theorem dX7_walk_337 : decode cX7_walk 337 = .ok (.iload 7, 2) := by decide +kernel
theorem dX7_walk_339 : decode cX7_walk 339 = .ok (.iconst 3, 1) := by decide +kernel
theorem dX7_walk_340 : decode cX7_walk 340 = .ok (.idiv, 1) := by decide +kernel
theorem dX7_walk_341 : decode cX7_walk 341 = .ok (.goto 4, 3) := by decide +kernel
theorem dX7_walk_344 : decode cX7_walk 344 = .ok (.iconst 1, 1) := by decide +kernel
theorem dX7_walk_345 : decode cX7_walk 345 = .ok (.istore 7, 2) := by decide +kernel
theorem dX7_walk_347 : decode cX7_walk 347 = .ok (.iinc 8 1, 3) := by decide +kernel
theorem dX7_walk_350 : decode cX7_walk 350 = .ok (.goto (-44), 3) := by decide +kernel
theorem dX7_walk_353 : decode cX7_walk 353 = .ok (.iload_n 2, 1) := by decide +kernel
theorem dX7_walk_354 : decode cX7_walk 354 = .ok (.iload_n 1, 1) := by decide +kernel
theorem dX7_walk_355 : decode cX7_walk 355 = .ok (.if_icmp .ge 8, 3) := by decide +kernel
theorem dX7_walk_358 : decode cX7_walk 358 = .ok (.iload 6, 2) := by decide +kernel
theorem dX7_walk_360 : decode cX7_walk 360 = .ok (.goto 5, 3) := by decide +kernel
theorem dX7_walk_363 : decode cX7_walk 363 = .ok (.ldc 90, 2) := by decide +kernel
theorem dX7_walk_365 : decode cX7_walk 365 = .ok (.ireturn, 1) := by decide +kernel
theorem dX7_meet_0 : decode cX7_meet 0 = .ok (.aload_n 0, 1) := by decide +kernel
theorem dX7_meet_1 : decode cX7_meet 1 = .ok (.iconst 0, 1) := by decide +kernel
theorem dX7_meet_2 : decode cX7_meet 2 = .ok (.putfield 47, 3) := by decide +kernel
theorem dX7_meet_5 : decode cX7_meet 5 = .ok (.aload_n 0, 1) := by decide +kernel
theorem dX7_meet_6 : decode cX7_meet 6 = .ok (.iload_n 1, 1) := by decide +kernel
theorem dX7_meet_7 : decode cX7_meet 7 = .ok (.invokevirtual 212, 3) := by decide +kernel
theorem dX7_meet_10 : decode cX7_meet 10 = .ok (.ifCond .ne 6, 3) := by decide +kernel
theorem dX7_meet_13 : decode cX7_meet 13 = .ok (.ldc 67, 2) := by decide +kernel
theorem dX7_meet_15 : decode cX7_meet 15 = .ok (.ireturn, 1) := by decide +kernel
theorem dX7_meet_16 : decode cX7_meet 16 = .ok (.aload_n 0, 1) := by decide +kernel
theorem dX7_meet_17 : decode cX7_meet 17 = .ok (.invokevirtual 231, 3) := by decide +kernel
theorem dX7_meet_20 : decode cX7_meet 20 = .ok (.iconst 1, 1) := by decide +kernel
theorem dX7_meet_21 : decode cX7_meet 21 = .ok (.aload_n 0, 1) := by decide +kernel
theorem dX7_meet_22 : decode cX7_meet 22 = .ok (.getfield 19, 3) := by decide +kernel
theorem dX7_meet_25 : decode cX7_meet 25 = .ok (.iconst 4, 1) := by decide +kernel
theorem dX7_meet_26 : decode cX7_meet 26 = .ok (.iaload, 1) := by decide +kernel
theorem dX7_meet_27 : decode cX7_meet 27 = .ok (.ishl, 1) := by decide +kernel
theorem dX7_meet_28 : decode cX7_meet 28 = .ok (.istore_n 2, 1) := by decide +kernel
theorem dX7_meet_29 : decode cX7_meet 29 = .ok (.iconst 0, 1) := by decide +kernel
theorem dX7_meet_30 : decode cX7_meet 30 = .ok (.istore_n 3, 1) := by decide +kernel
theorem dX7_meet_31 : decode cX7_meet 31 = .ok (.iload_n 3, 1) := by decide +kernel
theorem dX7_meet_32 : decode cX7_meet 32 = .ok (.bipush 20, 2) := by decide +kernel
theorem dX7_meet_34 : decode cX7_meet 34 = .ok (.if_icmp .gt 52, 3) := by decide +kernel
theorem dX7_meet_37 : decode cX7_meet 37 = .ok (.aload_n 0, 1) := by decide +kernel
theorem dX7_meet_38 : decode cX7_meet 38 = .ok (.getfield 25, 3) := by decide +kernel
theorem dX7_meet_41 : decode cX7_meet 41 = .ok (.iload_n 1, 1) := by decide +kernel
theorem dX7_meet_42 : decode cX7_meet 42 = .ok (.invokestatic 179, 3) := by decide +kernel
theorem dX7_meet_45 : decode cX7_meet 45 = .ok (.iload_n 2, 1) := by decide +kernel
theorem dX7_meet_46 : decode cX7_meet 46 = .ok (.iand, 1) := by decide +kernel
theorem dX7_meet_47 : decode cX7_meet 47 = .ok (.ifCond .eq 5, 3) := by decide +kernel
theorem dX7_meet_50 : decode cX7_meet 50 = .ok (.iload_n 3, 1) := by decide +kernel
theorem dX7_meet_51 : decode cX7_meet 51 = .ok (.ireturn, 1) := by decide +kernel
theorem dX7_meet_52 : decode cX7_meet 52 = .ok (.iload_n 2, 1) := by decide +kernel
theorem dX7_meet_53 : decode cX7_meet 53 = .ok (.iload_n 2, 1) := by decide +kernel
theorem dX7_meet_54 : decode cX7_meet 54 = .ok (.iconst 1, 1) := by decide +kernel
theorem dX7_meet_55 : decode cX7_meet 55 = .ok (.ishl, 1) := by decide +kernel
theorem dX7_meet_56 : decode cX7_meet 56 = .ok (.ior, 1) := by decide +kernel
theorem dX7_meet_57 : decode cX7_meet 57 = .ok (.iload_n 2, 1) := by decide +kernel
theorem dX7_meet_58 : decode cX7_meet 58 = .ok (.iconst 1, 1) := by decide +kernel
theorem dX7_meet_59 : decode cX7_meet 59 = .ok (.ishr, 1) := by decide +kernel
theorem dX7_meet_60 : decode cX7_meet 60 = .ok (.ior, 1) := by decide +kernel
theorem dX7_meet_61 : decode cX7_meet 61 = .ok (.iconst 1, 1) := by decide +kernel
theorem dX7_meet_62 : decode cX7_meet 62 = .ok (.aload_n 0, 1) := by decide +kernel
theorem dX7_meet_63 : decode cX7_meet 63 = .ok (.getfield 19, 3) := by decide +kernel
theorem dX7_meet_66 : decode cX7_meet 66 = .ok (.iconst 2, 1) := by decide +kernel
theorem dX7_meet_67 : decode cX7_meet 67 = .ok (.iaload, 1) := by decide +kernel
theorem dX7_meet_68 : decode cX7_meet 68 = .ok (.ishl, 1) := by decide +kernel
theorem dX7_meet_69 : decode cX7_meet 69 = .ok (.iconst 1, 1) := by decide +kernel
theorem dX7_meet_70 : decode cX7_meet 70 = .ok (.isub, 1) := by decide +kernel
theorem dX7_meet_71 : decode cX7_meet 71 = .ok (.iand, 1) := by decide +kernel
theorem dX7_meet_72 : decode cX7_meet 72 = .ok (.istore_n 2, 1) := by decide +kernel
theorem dX7_meet_73 : decode cX7_meet 73 = .ok (.aload_n 0, 1) := by decide +kernel
theorem dX7_meet_74 : decode cX7_meet 74 = .ok (.getfield 25, 3) := by decide +kernel
theorem dX7_meet_77 : decode cX7_meet 77 = .ok (.invokestatic 183, 3) := by decide +kernel
theorem dX7_meet_80 : decode cX7_meet 80 = .ok (.iinc 3 1, 3) := by decide +kernel
theorem dX7_meet_83 : decode cX7_meet 83 = .ok (.goto (-52), 3) := by decide +kernel
theorem dX7_meet_86 : decode cX7_meet 86 = .ok (.ldc 90, 2) := by decide +kernel
theorem dX7_meet_88 : decode cX7_meet 88 = .ok (.ireturn, 1) := by decide +kernel
theorem dX7_site_0 : decode cX7_site 0 = .ok (.aload_n 0, 1) := by decide +kernel
theorem dX7_site_1 : decode cX7_site 1 = .ok (.iconst 0, 1) := by decide +kernel
theorem dX7_site_2 : decode cX7_site 2 = .ok (.putfield 47, 3) := by decide +kernel
theorem dX7_site_5 : decode cX7_site 5 = .ok (.aload_n 0, 1) := by decide +kernel
theorem dX7_site_6 : decode cX7_site 6 = .ok (.invokevirtual 187, 3) := by decide +kernel
theorem dX7_site_9 : decode cX7_site 9 = .ok (.ifCond .ne 6, 3) := by decide +kernel
theorem dX7_site_12 : decode cX7_site 12 = .ok (.ldc 190, 2) := by decide +kernel
theorem dX7_site_14 : decode cX7_site 14 = .ok (.ireturn, 1) := by decide +kernel
theorem dX7_site_15 : decode cX7_site 15 = .ok (.iload_n 1, 1) := by decide +kernel
theorem dX7_site_16 : decode cX7_site 16 = .ok (.i2l, 1) := by decide +kernel
theorem dX7_site_17 : decode cX7_site 17 = .ok (.lconst 1, 1) := by decide +kernel
theorem dX7_site_18 : decode cX7_site 18 = .ok (.ldc2_w 240, 3) := by decide +kernel
theorem dX7_site_21 : decode cX7_site 21 = .ok (.invokestatic 57, 3) := by decide +kernel
theorem dX7_site_24 : decode cX7_site 24 = .ok (.ifCond .eq 13, 3) := by decide +kernel
theorem dX7_site_27 : decode cX7_site 27 = .ok (.iload_n 2, 1) := by decide +kernel
theorem dX7_site_28 : decode cX7_site 28 = .ok (.i2l, 1) := by decide +kernel
theorem dX7_site_29 : decode cX7_site 29 = .ok (.lconst 0, 1) := by decide +kernel
theorem dX7_site_30 : decode cX7_site 30 = .ok (.lconst 1, 1) := by decide +kernel
theorem dX7_site_31 : decode cX7_site 31 = .ok (.invokestatic 57, 3) := by decide +kernel
theorem dX7_site_34 : decode cX7_site 34 = .ok (.ifCond .ne 6, 3) := by decide +kernel
theorem dX7_site_37 : decode cX7_site 37 = .ok (.ldc 67, 2) := by decide +kernel
theorem dX7_site_39 : decode cX7_site 39 = .ok (.ireturn, 1) := by decide +kernel
theorem dX7_site_40 : decode cX7_site 40 = .ok (.iconst (-1), 1) := by decide +kernel
theorem dX7_site_41 : decode cX7_site 41 = .ok (.istore_n 3, 1) := by decide +kernel
theorem dX7_site_42 : decode cX7_site 42 = .ok (.iconst 0, 1) := by decide +kernel
theorem dX7_site_43 : decode cX7_site 43 = .ok (.istore 4, 2) := by decide +kernel
theorem dX7_site_45 : decode cX7_site 45 = .ok (.iconst 0, 1) := by decide +kernel
theorem dX7_site_46 : decode cX7_site 46 = .ok (.istore 5, 2) := by decide +kernel
theorem dX7_site_48 : decode cX7_site 48 = .ok (.iload 5, 2) := by decide +kernel
theorem dX7_site_50 : decode cX7_site 50 = .ok (.aload_n 0, 1) := by decide +kernel
theorem dX7_site_51 : decode cX7_site 51 = .ok (.getfield 19, 3) := by decide +kernel
theorem dX7_site_54 : decode cX7_site 54 = .ok (.iconst 2, 1) := by decide +kernel
theorem dX7_site_55 : decode cX7_site 55 = .ok (.iaload, 1) := by decide +kernel
theorem dX7_site_56 : decode cX7_site 56 = .ok (.if_icmp .ge 54, 3) := by decide +kernel
theorem dX7_site_59 : decode cX7_site 59 = .ok (.aload_n 0, 1) := by decide +kernel
theorem dX7_site_60 : decode cX7_site 60 = .ok (.invokevirtual 231, 3) := by decide +kernel
theorem dX7_site_63 : decode cX7_site 63 = .ok (.aload_n 0, 1) := by decide +kernel
theorem dX7_site_64 : decode cX7_site 64 = .ok (.getfield 25, 3) := by decide +kernel
theorem dX7_site_67 : decode cX7_site 67 = .ok (.iconst 3, 1) := by decide +kernel
theorem dX7_site_68 : decode cX7_site 68 = .ok (.iload 5, 2) := by decide +kernel
theorem dX7_site_70 : decode cX7_site 70 = .ok (.iastore, 1) := by decide +kernel
theorem dX7_site_71 : decode cX7_site 71 = .ok (.aload_n 0, 1) := by decide +kernel
theorem dX7_site_72 : decode cX7_site 72 = .ok (.getfield 25, 3) := by decide +kernel
theorem dX7_site_75 : decode cX7_site 75 = .ok (.iload_n 1, 1) := by decide +kernel
theorem dX7_site_76 : decode cX7_site 76 = .ok (.invokestatic 234, 3) := by decide +kernel
theorem dX7_site_79 : decode cX7_site 79 = .ok (.aload_n 0, 1) := by decide +kernel
theorem dX7_site_80 : decode cX7_site 80 = .ok (.getfield 25, 3) := by decide +kernel
theorem dX7_site_83 : decode cX7_site 83 = .ok (.invokestatic 196, 3) := by decide +kernel
theorem dX7_site_86 : decode cX7_site 86 = .ok (.invokestatic 199, 3) := by decide +kernel
theorem dX7_site_89 : decode cX7_site 89 = .ok (.istore 6, 2) := by decide +kernel
theorem dX7_site_91 : decode cX7_site 91 = .ok (.iload 6, 2) := by decide +kernel
theorem dX7_site_93 : decode cX7_site 93 = .ok (.iload_n 3, 1) := by decide +kernel
theorem dX7_site_94 : decode cX7_site 94 = .ok (.if_icmp .le 10, 3) := by decide +kernel
theorem dX7_site_97 : decode cX7_site 97 = .ok (.iload 6, 2) := by decide +kernel
theorem dX7_site_99 : decode cX7_site 99 = .ok (.istore_n 3, 1) := by decide +kernel
theorem dX7_site_100 : decode cX7_site 100 = .ok (.iload 5, 2) := by decide +kernel
theorem dX7_site_102 : decode cX7_site 102 = .ok (.istore 4, 2) := by decide +kernel
theorem dX7_site_104 : decode cX7_site 104 = .ok (.iinc 5 1, 3) := by decide +kernel
theorem dX7_site_107 : decode cX7_site 107 = .ok (.goto (-59), 3) := by decide +kernel
theorem dX7_site_110 : decode cX7_site 110 = .ok (.iload_n 2, 1) := by decide +kernel
theorem dX7_site_111 : decode cX7_site 111 = .ok (.ifCond .ne 8, 3) := by decide +kernel
theorem dX7_site_114 : decode cX7_site 114 = .ok (.iload 4, 2) := by decide +kernel
theorem dX7_site_116 : decode cX7_site 116 = .ok (.goto 4, 3) := by decide +kernel
theorem dX7_site_119 : decode cX7_site 119 = .ok (.iload_n 3, 1) := by decide +kernel
theorem dX7_site_120 : decode cX7_site 120 = .ok (.ireturn, 1) := by decide +kernel
theorem dX7_numberedBy_0 : decode cX7_numberedBy 0 = .ok (.aload_n 0, 1) := by decide +kernel
theorem dX7_numberedBy_1 : decode cX7_numberedBy 1 = .ok (.invokevirtual 231, 3) := by decide +kernel
theorem dX7_numberedBy_4 : decode cX7_numberedBy 4 = .ok (.aload_n 0, 1) := by decide +kernel
theorem dX7_numberedBy_5 : decode cX7_numberedBy 5 = .ok (.getfield 25, 3) := by decide +kernel
theorem dX7_numberedBy_8 : decode cX7_numberedBy 8 = .ok (.iconst 5, 1) := by decide +kernel
theorem dX7_numberedBy_9 : decode cX7_numberedBy 9 = .ok (.iload_n 1, 1) := by decide +kernel
theorem dX7_numberedBy_10 : decode cX7_numberedBy 10 = .ok (.iastore, 1) := by decide +kernel
theorem dX7_numberedBy_11 : decode cX7_numberedBy 11 = .ok (.aload_n 0, 1) := by decide +kernel
theorem dX7_numberedBy_12 : decode cX7_numberedBy 12 = .ok (.getfield 25, 3) := by decide +kernel
theorem dX7_numberedBy_15 : decode cX7_numberedBy 15 = .ok (.iload_n 2, 1) := by decide +kernel
theorem dX7_numberedBy_16 : decode cX7_numberedBy 16 = .ok (.invokestatic 234, 3) := by decide +kernel
theorem dX7_numberedBy_19 : decode cX7_numberedBy 19 = .ok (.aload_n 0, 1) := by decide +kernel
theorem dX7_numberedBy_20 : decode cX7_numberedBy 20 = .ok (.getfield 25, 3) := by decide +kernel
theorem dX7_numberedBy_23 : decode cX7_numberedBy 23 = .ok (.invokestatic 196, 3) := by decide +kernel
theorem dX7_numberedBy_26 : decode cX7_numberedBy 26 = .ok (.invokestatic 199, 3) := by decide +kernel
theorem dX7_numberedBy_29 : decode cX7_numberedBy 29 = .ok (.ireturn, 1) := by decide +kernel
theorem dX7_waking_0 : decode cX7_waking 0 = .ok (.aload_n 0, 1) := by decide +kernel
theorem dX7_waking_1 : decode cX7_waking 1 = .ok (.iconst 0, 1) := by decide +kernel
theorem dX7_waking_2 : decode cX7_waking 2 = .ok (.putfield 47, 3) := by decide +kernel
theorem dX7_waking_5 : decode cX7_waking 5 = .ok (.aload_n 0, 1) := by decide +kernel
theorem dX7_waking_6 : decode cX7_waking 6 = .ok (.invokevirtual 187, 3) := by decide +kernel
theorem dX7_waking_9 : decode cX7_waking 9 = .ok (.ifCond .ne 6, 3) := by decide +kernel
theorem dX7_waking_12 : decode cX7_waking 12 = .ok (.ldc 190, 2) := by decide +kernel
theorem dX7_waking_14 : decode cX7_waking 14 = .ok (.ireturn, 1) := by decide +kernel
theorem dX7_waking_15 : decode cX7_waking 15 = .ok (.iload_n 1, 1) := by decide +kernel
theorem dX7_waking_16 : decode cX7_waking 16 = .ok (.i2l, 1) := by decide +kernel
theorem dX7_waking_17 : decode cX7_waking 17 = .ok (.lconst 1, 1) := by decide +kernel
theorem dX7_waking_18 : decode cX7_waking 18 = .ok (.ldc2_w 240, 3) := by decide +kernel
theorem dX7_waking_21 : decode cX7_waking 21 = .ok (.invokestatic 57, 3) := by decide +kernel
theorem dX7_waking_24 : decode cX7_waking 24 = .ok (.ifCond .eq 13, 3) := by decide +kernel
theorem dX7_waking_27 : decode cX7_waking 27 = .ok (.iload_n 2, 1) := by decide +kernel
theorem dX7_waking_28 : decode cX7_waking 28 = .ok (.i2l, 1) := by decide +kernel
theorem dX7_waking_29 : decode cX7_waking 29 = .ok (.lconst 0, 1) := by decide +kernel
theorem dX7_waking_30 : decode cX7_waking 30 = .ok (.lconst 1, 1) := by decide +kernel
theorem dX7_waking_31 : decode cX7_waking 31 = .ok (.invokestatic 57, 3) := by decide +kernel
theorem dX7_waking_34 : decode cX7_waking 34 = .ok (.ifCond .ne 6, 3) := by decide +kernel
theorem dX7_waking_37 : decode cX7_waking 37 = .ok (.ldc 67, 2) := by decide +kernel
theorem dX7_waking_39 : decode cX7_waking 39 = .ok (.ireturn, 1) := by decide +kernel
theorem dX7_waking_40 : decode cX7_waking 40 = .ok (.aload_n 0, 1) := by decide +kernel
theorem dX7_waking_41 : decode cX7_waking 41 = .ok (.bipush 15, 2) := by decide +kernel
theorem dX7_waking_43 : decode cX7_waking 43 = .ok (.iload_n 1, 1) := by decide +kernel
theorem dX7_waking_44 : decode cX7_waking 44 = .ok (.invokevirtual 242, 3) := by decide +kernel
theorem dX7_waking_47 : decode cX7_waking 47 = .ok (.istore_n 3, 1) := by decide +kernel
theorem dX7_waking_48 : decode cX7_waking 48 = .ok (.bipush 15, 2) := by decide +kernel
theorem dX7_waking_50 : decode cX7_waking 50 = .ok (.istore 4, 2) := by decide +kernel
theorem dX7_waking_52 : decode cX7_waking 52 = .ok (.bipush 14, 2) := by decide +kernel
theorem dX7_waking_54 : decode cX7_waking 54 = .ok (.istore 5, 2) := by decide +kernel
theorem dX7_waking_56 : decode cX7_waking 56 = .ok (.iload 5, 2) := by decide +kernel
theorem dX7_waking_58 : decode cX7_waking 58 = .ok (.ifCond .lt 37, 3) := by decide +kernel
theorem dX7_waking_61 : decode cX7_waking 61 = .ok (.iload 5, 2) := by decide +kernel
theorem dX7_waking_63 : decode cX7_waking 63 = .ok (.invokestatic 199, 3) := by decide +kernel
theorem dX7_waking_66 : decode cX7_waking 66 = .ok (.iload 4, 2) := by decide +kernel
theorem dX7_waking_68 : decode cX7_waking 68 = .ok (.invokestatic 199, 3) := by decide +kernel
theorem dX7_waking_71 : decode cX7_waking 71 = .ok (.if_icmp .gt 18, 3) := by decide +kernel
theorem dX7_waking_74 : decode cX7_waking 74 = .ok (.aload_n 0, 1) := by decide +kernel
theorem dX7_waking_75 : decode cX7_waking 75 = .ok (.iload 5, 2) := by decide +kernel
theorem dX7_waking_77 : decode cX7_waking 77 = .ok (.iload_n 1, 1) := by decide +kernel
theorem dX7_waking_78 : decode cX7_waking 78 = .ok (.invokevirtual 242, 3) := by decide +kernel
theorem dX7_waking_81 : decode cX7_waking 81 = .ok (.iload_n 3, 1) := by decide +kernel
theorem dX7_waking_82 : decode cX7_waking 82 = .ok (.if_icmp .ne 7, 3) := by decide +kernel
theorem dX7_waking_85 : decode cX7_waking 85 = .ok (.iload 5, 2) := by decide +kernel
theorem dX7_waking_87 : decode cX7_waking 87 = .ok (.istore 4, 2) := by decide +kernel
theorem dX7_waking_89 : decode cX7_waking 89 = .ok (.iinc 5 (-1), 3) := by decide +kernel
theorem dX7_waking_92 : decode cX7_waking 92 = .ok (.goto (-36), 3) := by decide +kernel
theorem dX7_waking_95 : decode cX7_waking 95 = .ok (.iload_n 2, 1) := by decide +kernel
theorem dX7_waking_96 : decode cX7_waking 96 = .ok (.ifCond .ne 8, 3) := by decide +kernel
theorem dX7_waking_99 : decode cX7_waking 99 = .ok (.iload 4, 2) := by decide +kernel
theorem dX7_waking_101 : decode cX7_waking 101 = .ok (.goto 8, 3) := by decide +kernel
theorem dX7_waking_104 : decode cX7_waking 104 = .ok (.iload 4, 2) := by decide +kernel
theorem dX7_waking_106 : decode cX7_waking 106 = .ok (.invokestatic 199, 3) := by decide +kernel
theorem dX7_waking_109 : decode cX7_waking 109 = .ok (.ireturn, 1) := by decide +kernel
theorem dX7_meant_0 : decode cX7_meant 0 = .ok (.aload_n 0, 1) := by decide +kernel
theorem dX7_meant_1 : decode cX7_meant 1 = .ok (.iconst 0, 1) := by decide +kernel
theorem dX7_meant_2 : decode cX7_meant 2 = .ok (.putfield 47, 3) := by decide +kernel
theorem dX7_meant_5 : decode cX7_meant 5 = .ok (.aload_n 0, 1) := by decide +kernel
theorem dX7_meant_6 : decode cX7_meant 6 = .ok (.invokevirtual 187, 3) := by decide +kernel
theorem dX7_meant_9 : decode cX7_meant 9 = .ok (.ifCond .ne 6, 3) := by decide +kernel
theorem dX7_meant_12 : decode cX7_meant 12 = .ok (.ldc 190, 2) := by decide +kernel
theorem dX7_meant_14 : decode cX7_meant 14 = .ok (.ireturn, 1) := by decide +kernel
theorem dX7_meant_15 : decode cX7_meant 15 = .ok (.iload_n 1, 1) := by decide +kernel
theorem dX7_meant_16 : decode cX7_meant 16 = .ok (.i2l, 1) := by decide +kernel
theorem dX7_meant_17 : decode cX7_meant 17 = .ok (.lconst 0, 1) := by decide +kernel
theorem dX7_meant_18 : decode cX7_meant 18 = .ok (.ldc2_w 245, 3) := by decide +kernel
theorem dX7_meant_21 : decode cX7_meant 21 = .ok (.invokestatic 57, 3) := by decide +kernel
theorem dX7_meant_24 : decode cX7_meant 24 = .ok (.ifCond .eq 15, 3) := by decide +kernel
theorem dX7_meant_27 : decode cX7_meant 27 = .ok (.iload_n 2, 1) := by decide +kernel
theorem dX7_meant_28 : decode cX7_meant 28 = .ok (.i2l, 1) := by decide +kernel
theorem dX7_meant_29 : decode cX7_meant 29 = .ok (.lconst 0, 1) := by decide +kernel
theorem dX7_meant_30 : decode cX7_meant 30 = .ok (.ldc2_w 65, 3) := by decide +kernel
theorem dX7_meant_33 : decode cX7_meant 33 = .ok (.invokestatic 57, 3) := by decide +kernel
theorem dX7_meant_36 : decode cX7_meant 36 = .ok (.ifCond .ne 6, 3) := by decide +kernel
theorem dX7_meant_39 : decode cX7_meant 39 = .ok (.ldc 67, 2) := by decide +kernel
theorem dX7_meant_41 : decode cX7_meant 41 = .ok (.ireturn, 1) := by decide +kernel
theorem dX7_meant_42 : decode cX7_meant 42 = .ok (.iconst 0, 1) := by decide +kernel
theorem dX7_meant_43 : decode cX7_meant 43 = .ok (.istore_n 3, 1) := by decide +kernel
theorem dX7_meant_44 : decode cX7_meant 44 = .ok (.iconst 0, 1) := by decide +kernel
theorem dX7_meant_45 : decode cX7_meant 45 = .ok (.istore 4, 2) := by decide +kernel
theorem dX7_meant_47 : decode cX7_meant 47 = .ok (.iconst 0, 1) := by decide +kernel
theorem dX7_meant_48 : decode cX7_meant 48 = .ok (.istore 5, 2) := by decide +kernel
theorem dX7_meant_50 : decode cX7_meant 50 = .ok (.iconst 0, 1) := by decide +kernel
theorem dX7_meant_51 : decode cX7_meant 51 = .ok (.istore 6, 2) := by decide +kernel
theorem dX7_meant_53 : decode cX7_meant 53 = .ok (.iload 6, 2) := by decide +kernel
theorem dX7_meant_55 : decode cX7_meant 55 = .ok (.iconst 1, 1) := by decide +kernel
theorem dX7_meant_56 : decode cX7_meant 56 = .ok (.aload_n 0, 1) := by decide +kernel
theorem dX7_meant_57 : decode cX7_meant 57 = .ok (.getfield 19, 3) := by decide +kernel
theorem dX7_meant_60 : decode cX7_meant 60 = .ok (.iconst 0, 1) := by decide +kernel
theorem dX7_meant_61 : decode cX7_meant 61 = .ok (.iaload, 1) := by decide +kernel
theorem dX7_meant_62 : decode cX7_meant 62 = .ok (.ishl, 1) := by decide +kernel
theorem dX7_meant_63 : decode cX7_meant 63 = .ok (.if_icmp .ge 108, 3) := by decide +kernel
theorem dX7_meant_66 : decode cX7_meant 66 = .ok (.iconst 0, 1) := by decide +kernel
theorem dX7_meant_67 : decode cX7_meant 67 = .ok (.istore 7, 2) := by decide +kernel
theorem dX7_meant_69 : decode cX7_meant 69 = .ok (.iconst 0, 1) := by decide +kernel
theorem dX7_meant_70 : decode cX7_meant 70 = .ok (.istore 8, 2) := by decide +kernel
theorem dX7_meant_72 : decode cX7_meant 72 = .ok (.iload 8, 2) := by decide +kernel
theorem dX7_meant_74 : decode cX7_meant 74 = .ok (.aload_n 0, 1) := by decide +kernel
theorem dX7_meant_75 : decode cX7_meant 75 = .ok (.getfield 19, 3) := by decide +kernel
theorem dX7_meant_78 : decode cX7_meant 78 = .ok (.iconst 0, 1) := by decide +kernel
theorem dX7_meant_79 : decode cX7_meant 79 = .ok (.iaload, 1) := by decide +kernel
theorem dX7_meant_80 : decode cX7_meant 80 = .ok (.if_icmp .ge 38, 3) := by decide +kernel
theorem dX7_meant_83 : decode cX7_meant 83 = .ok (.iload 7, 2) := by decide +kernel
theorem dX7_meant_85 : decode cX7_meant 85 = .ok (.iload 6, 2) := by decide +kernel
theorem dX7_meant_87 : decode cX7_meant 87 = .ok (.iload 8, 2) := by decide +kernel
theorem dX7_meant_89 : decode cX7_meant 89 = .ok (.invokestatic 175, 3) := by decide +kernel
theorem dX7_meant_92 : decode cX7_meant 92 = .ok (.ifCond .eq 16, 3) := by decide +kernel
theorem dX7_meant_95 : decode cX7_meant 95 = .ok (.aload_n 0, 1) := by decide +kernel
theorem dX7_meant_96 : decode cX7_meant 96 = .ok (.getfield 19, 3) := by decide +kernel
theorem dX7_meant_99 : decode cX7_meant 99 = .ok (.iload 8, 2) := by decide +kernel
theorem dX7_meant_101 : decode cX7_meant 101 = .ok (.iconst 3, 1) := by decide +kernel
theorem dX7_meant_102 : decode cX7_meant 102 = .ok (.invokestatic 152, 3) := by decide +kernel
theorem dX7_meant_105 : decode cX7_meant 105 = .ok (.goto 4, 3) := by decide +kernel
theorem dX7_meant_108 : decode cX7_meant 108 = .ok (.iconst 0, 1) := by decide +kernel
theorem dX7_meant_109 : decode cX7_meant 109 = .ok (.iadd, 1) := by decide +kernel
theorem dX7_meant_110 : decode cX7_meant 110 = .ok (.istore 7, 2) := by decide +kernel
theorem dX7_meant_112 : decode cX7_meant 112 = .ok (.iinc 8 1, 3) := by decide +kernel
theorem dX7_meant_115 : decode cX7_meant 115 = .ok (.goto (-43), 3) := by decide +kernel
theorem dX7_meant_118 : decode cX7_meant 118 = .ok (.iload 6, 2) := by decide +kernel
theorem dX7_meant_120 : decode cX7_meant 120 = .ok (.aload_n 0, 1) := by decide +kernel
theorem dX7_meant_121 : decode cX7_meant 121 = .ok (.getfield 19, 3) := by decide +kernel
theorem dX7_meant_124 : decode cX7_meant 124 = .ok (.invokestatic 220, 3) := by decide +kernel
theorem dX7_meant_127 : decode cX7_meant 127 = .ok (.iconst (-1), 1) := by decide +kernel
theorem dX7_meant_128 : decode cX7_meant 128 = .ok (.ixor, 1) := by decide +kernel
theorem dX7_meant_129 : decode cX7_meant 129 = .ok (.iand, 1) := by decide +kernel
theorem dX7_meant_130 : decode cX7_meant 130 = .ok (.ifCond .ne 35, 3) := by decide +kernel
theorem dX7_meant_133 : decode cX7_meant 133 = .ok (.iload 7, 2) := by decide +kernel
theorem dX7_meant_135 : decode cX7_meant 135 = .ok (.iload_n 1, 1) := by decide +kernel
theorem dX7_meant_136 : decode cX7_meant 136 = .ok (.if_icmp .ne 29, 3) := by decide +kernel
theorem dX7_meant_139 : decode cX7_meant 139 = .ok (.iload_n 3, 1) := by decide +kernel
theorem dX7_meant_140 : decode cX7_meant 140 = .ok (.ifCond .ne 8, 3) := by decide +kernel
theorem dX7_meant_143 : decode cX7_meant 143 = .ok (.iload 6, 2) := by decide +kernel
theorem dX7_meant_145 : decode cX7_meant 145 = .ok (.goto 8, 3) := by decide +kernel
theorem dX7_meant_148 : decode cX7_meant 148 = .ok (.iload 4, 2) := by decide +kernel
theorem dX7_meant_150 : decode cX7_meant 150 = .ok (.iload 6, 2) := by decide +kernel
theorem dX7_meant_152 : decode cX7_meant 152 = .ok (.iand, 1) := by decide +kernel
theorem dX7_meant_153 : decode cX7_meant 153 = .ok (.istore 4, 2) := by decide +kernel
theorem dX7_meant_155 : decode cX7_meant 155 = .ok (.iload 5, 2) := by decide +kernel
theorem dX7_meant_157 : decode cX7_meant 157 = .ok (.iload 6, 2) := by decide +kernel
theorem dX7_meant_159 : decode cX7_meant 159 = .ok (.ior, 1) := by decide +kernel
theorem dX7_meant_160 : decode cX7_meant 160 = .ok (.istore 5, 2) := by decide +kernel
theorem dX7_meant_162 : decode cX7_meant 162 = .ok (.iinc 3 1, 3) := by decide +kernel
theorem dX7_meant_165 : decode cX7_meant 165 = .ok (.iinc 6 1, 3) := by decide +kernel
theorem dX7_meant_168 : decode cX7_meant 168 = .ok (.goto (-115), 3) := by decide +kernel
theorem dX7_meant_171 : decode cX7_meant 171 = .ok (.iload_n 2, 1) := by decide +kernel
theorem dX7_meant_172 : decode cX7_meant 172 = .ok (.ifCond .ne 7, 3) := by decide +kernel
theorem dX7_meant_175 : decode cX7_meant 175 = .ok (.iload_n 3, 1) := by decide +kernel
theorem dX7_meant_176 : decode cX7_meant 176 = .ok (.goto 15, 3) := by decide +kernel
theorem dX7_meant_179 : decode cX7_meant 179 = .ok (.iload_n 2, 1) := by decide +kernel
theorem dX7_meant_180 : decode cX7_meant 180 = .ok (.iconst 1, 1) := by decide +kernel
theorem dX7_meant_181 : decode cX7_meant 181 = .ok (.if_icmp .ne 8, 3) := by decide +kernel
theorem dX7_meant_184 : decode cX7_meant 184 = .ok (.iload 4, 2) := by decide +kernel
theorem dX7_meant_186 : decode cX7_meant 186 = .ok (.goto 5, 3) := by decide +kernel
theorem dX7_meant_189 : decode cX7_meant 189 = .ok (.iload 5, 2) := by decide +kernel
theorem dX7_meant_191 : decode cX7_meant 191 = .ok (.ireturn, 1) := by decide +kernel
theorem dX7_pailsOf_0 : decode cX7_pailsOf 0 = .ok (.aload_n 0, 1) := by decide +kernel
theorem dX7_pailsOf_1 : decode cX7_pailsOf 1 = .ok (.getfield 19, 3) := by decide +kernel
theorem dX7_pailsOf_4 : decode cX7_pailsOf 4 = .ok (.iload_n 1, 1) := by decide +kernel
theorem dX7_pailsOf_5 : decode cX7_pailsOf 5 = .ok (.invokestatic 156, 3) := by decide +kernel
theorem dX7_pailsOf_8 : decode cX7_pailsOf 8 = .ok (.ifCond .eq 25, 3) := by decide +kernel
theorem dX7_pailsOf_11 : decode cX7_pailsOf 11 = .ok (.aload_n 0, 1) := by decide +kernel
theorem dX7_pailsOf_12 : decode cX7_pailsOf 12 = .ok (.getfield 19, 3) := by decide +kernel
theorem dX7_pailsOf_15 : decode cX7_pailsOf 15 = .ok (.iload_n 1, 1) := by decide +kernel
theorem dX7_pailsOf_16 : decode cX7_pailsOf 16 = .ok (.iconst 2, 1) := by decide +kernel
theorem dX7_pailsOf_17 : decode cX7_pailsOf 17 = .ok (.invokestatic 152, 3) := by decide +kernel
theorem dX7_pailsOf_20 : decode cX7_pailsOf 20 = .ok (.aload_n 0, 1) := by decide +kernel
theorem dX7_pailsOf_21 : decode cX7_pailsOf 21 = .ok (.getfield 19, 3) := by decide +kernel
theorem dX7_pailsOf_24 : decode cX7_pailsOf 24 = .ok (.iload_n 1, 1) := by decide +kernel
theorem dX7_pailsOf_25 : decode cX7_pailsOf 25 = .ok (.iconst 3, 1) := by decide +kernel
theorem dX7_pailsOf_26 : decode cX7_pailsOf 26 = .ok (.invokestatic 152, 3) := by decide +kernel
theorem dX7_pailsOf_29 : decode cX7_pailsOf 29 = .ok (.imul, 1) := by decide +kernel
theorem dX7_pailsOf_30 : decode cX7_pailsOf 30 = .ok (.goto 4, 3) := by decide +kernel
theorem dX7_pailsOf_33 : decode cX7_pailsOf 33 = .ok (.iconst 0, 1) := by decide +kernel
theorem dX7_pailsOf_34 : decode cX7_pailsOf 34 = .ok (.ireturn, 1) := by decide +kernel
theorem dX7_share_0 : decode cX7_share 0 = .ok (.aload_n 0, 1) := by decide +kernel
theorem dX7_share_1 : decode cX7_share 1 = .ok (.iconst 0, 1) := by decide +kernel
theorem dX7_share_2 : decode cX7_share 2 = .ok (.putfield 47, 3) := by decide +kernel
theorem dX7_share_5 : decode cX7_share 5 = .ok (.aload_n 0, 1) := by decide +kernel
theorem dX7_share_6 : decode cX7_share 6 = .ok (.iload_n 1, 1) := by decide +kernel
theorem dX7_share_7 : decode cX7_share 7 = .ok (.invokevirtual 212, 3) := by decide +kernel
theorem dX7_share_10 : decode cX7_share 10 = .ok (.ifCond .eq 15, 3) := by decide +kernel
theorem dX7_share_13 : decode cX7_share 13 = .ok (.iload_n 2, 1) := by decide +kernel
theorem dX7_share_14 : decode cX7_share 14 = .ok (.i2l, 1) := by decide +kernel
theorem dX7_share_15 : decode cX7_share 15 = .ok (.lconst 0, 1) := by decide +kernel
theorem dX7_share_16 : decode cX7_share 16 = .ok (.ldc2_w 247, 3) := by decide +kernel
theorem dX7_share_19 : decode cX7_share 19 = .ok (.invokestatic 57, 3) := by decide +kernel
theorem dX7_share_22 : decode cX7_share 22 = .ok (.ifCond .ne 6, 3) := by decide +kernel
theorem dX7_share_25 : decode cX7_share 25 = .ok (.ldc 67, 2) := by decide +kernel
theorem dX7_share_27 : decode cX7_share 27 = .ok (.ireturn, 1) := by decide +kernel
theorem dX7_share_28 : decode cX7_share 28 = .ok (.aload_n 0, 1) := by decide +kernel
theorem dX7_share_29 : decode cX7_share 29 = .ok (.iload_n 1, 1) := by decide +kernel
theorem dX7_share_30 : decode cX7_share 30 = .ok (.invokevirtual 249, 3) := by decide +kernel
theorem dX7_share_33 : decode cX7_share 33 = .ok (.ifCond .ne 5, 3) := by decide +kernel
theorem dX7_share_36 : decode cX7_share 36 = .ok (.iconst 0, 1) := by decide +kernel
theorem dX7_share_37 : decode cX7_share 37 = .ok (.ireturn, 1) := by decide +kernel
theorem dX7_share_38 : decode cX7_share 38 = .ok (.iconst 0, 1) := by decide +kernel
theorem dX7_share_39 : decode cX7_share 39 = .ok (.istore_n 3, 1) := by decide +kernel
theorem dX7_share_40 : decode cX7_share 40 = .ok (.iconst 0, 1) := by decide +kernel
theorem dX7_share_41 : decode cX7_share 41 = .ok (.istore 4, 2) := by decide +kernel
theorem dX7_share_43 : decode cX7_share 43 = .ok (.iload 4, 2) := by decide +kernel
theorem dX7_share_45 : decode cX7_share 45 = .ok (.aload_n 0, 1) := by decide +kernel
theorem dX7_share_46 : decode cX7_share 46 = .ok (.getfield 19, 3) := by decide +kernel
theorem dX7_share_49 : decode cX7_share 49 = .ok (.iconst 0, 1) := by decide +kernel
theorem dX7_share_50 : decode cX7_share 50 = .ok (.iaload, 1) := by decide +kernel
theorem dX7_share_51 : decode cX7_share 51 = .ok (.if_icmp .ge 18, 3) := by decide +kernel
theorem dX7_share_54 : decode cX7_share 54 = .ok (.iload_n 3, 1) := by decide +kernel
theorem dX7_share_55 : decode cX7_share 55 = .ok (.aload_n 0, 1) := by decide +kernel
theorem dX7_share_56 : decode cX7_share 56 = .ok (.iload 4, 2) := by decide +kernel
theorem dX7_share_58 : decode cX7_share 58 = .ok (.invokevirtual 249, 3) := by decide +kernel
theorem dX7_share_61 : decode cX7_share 61 = .ok (.iadd, 1) := by decide +kernel
theorem dX7_share_62 : decode cX7_share 62 = .ok (.istore_n 3, 1) := by decide +kernel
theorem dX7_share_63 : decode cX7_share 63 = .ok (.iinc 4 1, 3) := by decide +kernel
theorem dX7_share_66 : decode cX7_share 66 = .ok (.goto (-23), 3) := by decide +kernel
theorem dX7_share_69 : decode cX7_share 69 = .ok (.iload_n 2, 1) := by decide +kernel
theorem dX7_share_70 : decode cX7_share 70 = .ok (.istore 4, 2) := by decide +kernel
theorem dX7_share_72 : decode cX7_share 72 = .ok (.iconst 0, 1) := by decide +kernel
theorem dX7_share_73 : decode cX7_share 73 = .ok (.istore 5, 2) := by decide +kernel
theorem dX7_share_75 : decode cX7_share 75 = .ok (.iconst 0, 1) := by decide +kernel
theorem dX7_share_76 : decode cX7_share 76 = .ok (.istore 6, 2) := by decide +kernel
theorem dX7_share_78 : decode cX7_share 78 = .ok (.iload 6, 2) := by decide +kernel
theorem dX7_share_80 : decode cX7_share 80 = .ok (.aload_n 0, 1) := by decide +kernel
theorem dX7_share_81 : decode cX7_share 81 = .ok (.getfield 19, 3) := by decide +kernel
theorem dX7_share_84 : decode cX7_share 84 = .ok (.iconst 0, 1) := by decide +kernel
theorem dX7_share_85 : decode cX7_share 85 = .ok (.iaload, 1) := by decide +kernel
theorem dX7_share_86 : decode cX7_share 86 = .ok (.if_icmp .ge 49, 3) := by decide +kernel
theorem dX7_share_89 : decode cX7_share 89 = .ok (.iload 4, 2) := by decide +kernel
theorem dX7_share_91 : decode cX7_share 91 = .ok (.iload_n 2, 1) := by decide +kernel
theorem dX7_share_92 : decode cX7_share 92 = .ok (.aload_n 0, 1) := by decide +kernel
theorem dX7_share_93 : decode cX7_share 93 = .ok (.iload 6, 2) := by decide +kernel
theorem dX7_share_95 : decode cX7_share 95 = .ok (.invokevirtual 249, 3) := by decide +kernel
theorem dX7_share_98 : decode cX7_share 98 = .ok (.imul, 1) := by decide +kernel
theorem dX7_share_99 : decode cX7_share 99 = .ok (.iload_n 3, 1) := by decide +kernel
theorem dX7_share_100 : decode cX7_share 100 = .ok (.idiv, 1) := by decide +kernel
theorem dX7_share_101 : decode cX7_share 101 = .ok (.isub, 1) := by decide +kernel
theorem dX7_share_102 : decode cX7_share 102 = .ok (.istore 4, 2) := by decide +kernel
theorem dX7_share_104 : decode cX7_share 104 = .ok (.iload 5, 2) := by decide +kernel
theorem dX7_share_106 : decode cX7_share 106 = .ok (.iload 6, 2) := by decide +kernel
theorem dX7_share_108 : decode cX7_share 108 = .ok (.iload_n 1, 1) := by decide +kernel
theorem dX7_share_109 : decode cX7_share 109 = .ok (.if_icmp .ge 16, 3) := by decide +kernel
theorem dX7_share_112 : decode cX7_share 112 = .ok (.aload_n 0, 1) := by decide +kernel
theorem dX7_share_113 : decode cX7_share 113 = .ok (.iload 6, 2) := by decide +kernel
theorem dX7_share_115 : decode cX7_share 115 = .ok (.invokevirtual 249, 3) := by decide +kernel
theorem dX7_share_118 : decode cX7_share 118 = .ok (.ifCond .le 7, 3) := by decide +kernel
theorem dX7_share_121 : decode cX7_share 121 = .ok (.iconst 1, 1) := by decide +kernel
theorem dX7_share_122 : decode cX7_share 122 = .ok (.goto 4, 3) := by decide +kernel
theorem dX7_share_125 : decode cX7_share 125 = .ok (.iconst 0, 1) := by decide +kernel
theorem dX7_share_126 : decode cX7_share 126 = .ok (.iadd, 1) := by decide +kernel
theorem dX7_share_127 : decode cX7_share 127 = .ok (.istore 5, 2) := by decide +kernel
theorem dX7_share_129 : decode cX7_share 129 = .ok (.iinc 6 1, 3) := by decide +kernel
theorem dX7_share_132 : decode cX7_share 132 = .ok (.goto (-54), 3) := by decide +kernel
end
section
theorem dX7_share_135 : decode cX7_share 135 = .ok (.iload_n 2, 1) := by decide +kernel
theorem dX7_share_136 : decode cX7_share 136 = .ok (.aload_n 0, 1) := by decide +kernel
theorem dX7_share_137 : decode cX7_share 137 = .ok (.iload_n 1, 1) := by decide +kernel
theorem dX7_share_138 : decode cX7_share 138 = .ok (.invokevirtual 249, 3) := by decide +kernel
theorem dX7_share_141 : decode cX7_share 141 = .ok (.imul, 1) := by decide +kernel
theorem dX7_share_142 : decode cX7_share 142 = .ok (.iload_n 3, 1) := by decide +kernel
theorem dX7_share_143 : decode cX7_share 143 = .ok (.idiv, 1) := by decide +kernel
theorem dX7_share_144 : decode cX7_share 144 = .ok (.iload 5, 2) := by decide +kernel
theorem dX7_share_146 : decode cX7_share 146 = .ok (.iload 4, 2) := by decide +kernel
theorem dX7_share_148 : decode cX7_share 148 = .ok (.if_icmp .ge 7, 3) := by decide +kernel
theorem dX7_share_151 : decode cX7_share 151 = .ok (.iconst 1, 1) := by decide +kernel
theorem dX7_share_152 : decode cX7_share 152 = .ok (.goto 4, 3) := by decide +kernel
theorem dX7_share_155 : decode cX7_share 155 = .ok (.iconst 0, 1) := by decide +kernel
theorem dX7_share_156 : decode cX7_share 156 = .ok (.iadd, 1) := by decide +kernel
theorem dX7_share_157 : decode cX7_share 157 = .ok (.ireturn, 1) := by decide +kernel
theorem dX7_turnWind_0 : decode cX7_turnWind 0 = .ok (.aload_n 0, 1) := by decide +kernel
theorem dX7_turnWind_1 : decode cX7_turnWind 1 = .ok (.bipush 8, 2) := by decide +kernel
theorem dX7_turnWind_3 : decode cX7_turnWind 3 = .ok (.aload_n 0, 1) := by decide +kernel
theorem dX7_turnWind_4 : decode cX7_turnWind 4 = .ok (.bipush 6, 2) := by decide +kernel
theorem dX7_turnWind_6 : decode cX7_turnWind 6 = .ok (.iaload, 1) := by decide +kernel
theorem dX7_turnWind_7 : decode cX7_turnWind 7 = .ok (.aload_n 0, 1) := by decide +kernel
theorem dX7_turnWind_8 : decode cX7_turnWind 8 = .ok (.iconst 1, 1) := by decide +kernel
theorem dX7_turnWind_9 : decode cX7_turnWind 9 = .ok (.iaload, 1) := by decide +kernel
theorem dX7_turnWind_10 : decode cX7_turnWind 10 = .ok (.irem, 1) := by decide +kernel
theorem dX7_turnWind_11 : decode cX7_turnWind 11 = .ok (.iadd, 1) := by decide +kernel
theorem dX7_turnWind_12 : decode cX7_turnWind 12 = .ok (.iconst 4, 1) := by decide +kernel
theorem dX7_turnWind_13 : decode cX7_turnWind 13 = .ok (.aload_n 0, 1) := by decide +kernel
theorem dX7_turnWind_14 : decode cX7_turnWind 14 = .ok (.invokestatic 167, 3) := by decide +kernel
theorem dX7_turnWind_17 : decode cX7_turnWind 17 = .ok (.isub, 1) := by decide +kernel
theorem dX7_turnWind_18 : decode cX7_turnWind 18 = .ok (.iastore, 1) := by decide +kernel
theorem dX7_turnWind_19 : decode cX7_turnWind 19 = .ok (.return_, 1) := by decide +kernel
theorem dX7_afterTurns_0 : decode cX7_afterTurns 0 = .ok (.aload_n 0, 1) := by decide +kernel
theorem dX7_afterTurns_1 : decode cX7_afterTurns 1 = .ok (.getfield 19, 3) := by decide +kernel
theorem dX7_afterTurns_4 : decode cX7_afterTurns 4 = .ok (.iconst 4, 1) := by decide +kernel
theorem dX7_afterTurns_5 : decode cX7_afterTurns 5 = .ok (.iaload, 1) := by decide +kernel
theorem dX7_afterTurns_6 : decode cX7_afterTurns 6 = .ok (.iload_n 1, 1) := by decide +kernel
theorem dX7_afterTurns_7 : decode cX7_afterTurns 7 = .ok (.iadd, 1) := by decide +kernel
theorem dX7_afterTurns_8 : decode cX7_afterTurns 8 = .ok (.istore 6, 2) := by decide +kernel
theorem dX7_afterTurns_10 : decode cX7_afterTurns 10 = .ok (.aload_n 0, 1) := by decide +kernel
theorem dX7_afterTurns_11 : decode cX7_afterTurns 11 = .ok (.iload 6, 2) := by decide +kernel
theorem dX7_afterTurns_13 : decode cX7_afterTurns 13 = .ok (.invokevirtual 202, 3) := by decide +kernel
theorem dX7_afterTurns_16 : decode cX7_afterTurns 16 = .ok (.ifCond .eq 14, 3) := by decide +kernel
theorem dX7_afterTurns_19 : decode cX7_afterTurns 19 = .ok (.aload_n 0, 1) := by decide +kernel
theorem dX7_afterTurns_20 : decode cX7_afterTurns 20 = .ok (.iload 6, 2) := by decide +kernel
theorem dX7_afterTurns_22 : decode cX7_afterTurns 22 = .ok (.iload_n 3, 1) := by decide +kernel
theorem dX7_afterTurns_23 : decode cX7_afterTurns 23 = .ok (.iadd, 1) := by decide +kernel
theorem dX7_afterTurns_24 : decode cX7_afterTurns 24 = .ok (.invokevirtual 202, 3) := by decide +kernel
theorem dX7_afterTurns_27 : decode cX7_afterTurns 27 = .ok (.ifCond .ne 6, 3) := by decide +kernel
theorem dX7_afterTurns_30 : decode cX7_afterTurns 30 = .ok (.ldc 90, 2) := by decide +kernel
theorem dX7_afterTurns_32 : decode cX7_afterTurns 32 = .ok (.ireturn, 1) := by decide +kernel
theorem dX7_afterTurns_33 : decode cX7_afterTurns 33 = .ok (.aload_n 0, 1) := by decide +kernel
theorem dX7_afterTurns_34 : decode cX7_afterTurns 34 = .ok (.invokevirtual 231, 3) := by decide +kernel
theorem dX7_afterTurns_37 : decode cX7_afterTurns 37 = .ok (.iconst 0, 1) := by decide +kernel
theorem dX7_afterTurns_38 : decode cX7_afterTurns 38 = .ok (.istore 7, 2) := by decide +kernel
theorem dX7_afterTurns_40 : decode cX7_afterTurns 40 = .ok (.iload 7, 2) := by decide +kernel
theorem dX7_afterTurns_42 : decode cX7_afterTurns 42 = .ok (.iload_n 2, 1) := by decide +kernel
theorem dX7_afterTurns_43 : decode cX7_afterTurns 43 = .ok (.iload 4, 2) := by decide +kernel
theorem dX7_afterTurns_45 : decode cX7_afterTurns 45 = .ok (.iadd, 1) := by decide +kernel
theorem dX7_afterTurns_46 : decode cX7_afterTurns 46 = .ok (.if_icmp .ge 16, 3) := by decide +kernel
theorem dX7_afterTurns_49 : decode cX7_afterTurns 49 = .ok (.aload_n 0, 1) := by decide +kernel
theorem dX7_afterTurns_50 : decode cX7_afterTurns 50 = .ok (.getfield 25, 3) := by decide +kernel
theorem dX7_afterTurns_53 : decode cX7_afterTurns 53 = .ok (.invokestatic 252, 3) := by decide +kernel
theorem dX7_afterTurns_56 : decode cX7_afterTurns 56 = .ok (.iinc 7 1, 3) := by decide +kernel
theorem dX7_afterTurns_59 : decode cX7_afterTurns 59 = .ok (.goto (-19), 3) := by decide +kernel
theorem dX7_afterTurns_62 : decode cX7_afterTurns 62 = .ok (.aload_n 0, 1) := by decide +kernel
theorem dX7_afterTurns_63 : decode cX7_afterTurns 63 = .ok (.getfield 25, 3) := by decide +kernel
theorem dX7_afterTurns_66 : decode cX7_afterTurns 66 = .ok (.iload 5, 2) := by decide +kernel
theorem dX7_afterTurns_68 : decode cX7_afterTurns 68 = .ok (.invokestatic 234, 3) := by decide +kernel
theorem dX7_afterTurns_71 : decode cX7_afterTurns 71 = .ok (.aload_n 0, 1) := by decide +kernel
theorem dX7_afterTurns_72 : decode cX7_afterTurns 72 = .ok (.getfield 25, 3) := by decide +kernel
theorem dX7_afterTurns_75 : decode cX7_afterTurns 75 = .ok (.iload 6, 2) := by decide +kernel
theorem dX7_afterTurns_77 : decode cX7_afterTurns 77 = .ok (.iload_n 3, 1) := by decide +kernel
theorem dX7_afterTurns_78 : decode cX7_afterTurns 78 = .ok (.iadd, 1) := by decide +kernel
theorem dX7_afterTurns_79 : decode cX7_afterTurns 79 = .ok (.invokestatic 226, 3) := by decide +kernel
theorem dX7_afterTurns_82 : decode cX7_afterTurns 82 = .ok (.ireturn, 1) := by decide +kernel
theorem dX7_byTurns_0 : decode cX7_byTurns 0 = .ok (.aload_n 0, 1) := by decide +kernel
theorem dX7_byTurns_1 : decode cX7_byTurns 1 = .ok (.iconst 0, 1) := by decide +kernel
theorem dX7_byTurns_2 : decode cX7_byTurns 2 = .ok (.putfield 47, 3) := by decide +kernel
theorem dX7_byTurns_5 : decode cX7_byTurns 5 = .ok (.aload_n 0, 1) := by decide +kernel
theorem dX7_byTurns_6 : decode cX7_byTurns 6 = .ok (.invokevirtual 187, 3) := by decide +kernel
theorem dX7_byTurns_9 : decode cX7_byTurns 9 = .ok (.ifCond .ne 6, 3) := by decide +kernel
theorem dX7_byTurns_12 : decode cX7_byTurns 12 = .ok (.ldc 190, 2) := by decide +kernel
theorem dX7_byTurns_14 : decode cX7_byTurns 14 = .ok (.ireturn, 1) := by decide +kernel
theorem dX7_byTurns_15 : decode cX7_byTurns 15 = .ok (.iload_n 1, 1) := by decide +kernel
theorem dX7_byTurns_16 : decode cX7_byTurns 16 = .ok (.i2l, 1) := by decide +kernel
theorem dX7_byTurns_17 : decode cX7_byTurns 17 = .ok (.lconst 0, 1) := by decide +kernel
theorem dX7_byTurns_18 : decode cX7_byTurns 18 = .ok (.ldc2_w 208, 3) := by decide +kernel
theorem dX7_byTurns_21 : decode cX7_byTurns 21 = .ok (.invokestatic 57, 3) := by decide +kernel
theorem dX7_byTurns_24 : decode cX7_byTurns 24 = .ok (.ifCond .eq 15, 3) := by decide +kernel
theorem dX7_byTurns_27 : decode cX7_byTurns 27 = .ok (.iload_n 2, 1) := by decide +kernel
theorem dX7_byTurns_28 : decode cX7_byTurns 28 = .ok (.i2l, 1) := by decide +kernel
theorem dX7_byTurns_29 : decode cX7_byTurns 29 = .ok (.lconst 1, 1) := by decide +kernel
theorem dX7_byTurns_30 : decode cX7_byTurns 30 = .ok (.ldc2_w 255, 3) := by decide +kernel
theorem dX7_byTurns_33 : decode cX7_byTurns 33 = .ok (.invokestatic 57, 3) := by decide +kernel
theorem dX7_byTurns_36 : decode cX7_byTurns 36 = .ok (.ifCond .ne 6, 3) := by decide +kernel
theorem dX7_byTurns_39 : decode cX7_byTurns 39 = .ok (.ldc 67, 2) := by decide +kernel
theorem dX7_byTurns_41 : decode cX7_byTurns 41 = .ok (.ireturn, 1) := by decide +kernel
theorem dX7_byTurns_42 : decode cX7_byTurns 42 = .ok (.ldc 90, 2) := by decide +kernel
theorem dX7_byTurns_44 : decode cX7_byTurns 44 = .ok (.istore_n 3, 1) := by decide +kernel
theorem dX7_byTurns_45 : decode cX7_byTurns 45 = .ok (.iload_n 1, 1) := by decide +kernel
theorem dX7_byTurns_46 : decode cX7_byTurns 46 = .ok (.ifCond .le 7, 3) := by decide +kernel
theorem dX7_byTurns_49 : decode cX7_byTurns 49 = .ok (.iconst (-1), 1) := by decide +kernel
theorem dX7_byTurns_50 : decode cX7_byTurns 50 = .ok (.goto 4, 3) := by decide +kernel
theorem dX7_byTurns_53 : decode cX7_byTurns 53 = .ok (.iconst 0, 1) := by decide +kernel
theorem dX7_byTurns_54 : decode cX7_byTurns 54 = .ok (.istore 4, 2) := by decide +kernel
theorem dX7_byTurns_56 : decode cX7_byTurns 56 = .ok (.iload 4, 2) := by decide +kernel
theorem dX7_byTurns_58 : decode cX7_byTurns 58 = .ok (.iload_n 1, 1) := by decide +kernel
theorem dX7_byTurns_59 : decode cX7_byTurns 59 = .ok (.ifCond .le 7, 3) := by decide +kernel
theorem dX7_byTurns_62 : decode cX7_byTurns 62 = .ok (.iconst 1, 1) := by decide +kernel
theorem dX7_byTurns_63 : decode cX7_byTurns 63 = .ok (.goto 4, 3) := by decide +kernel
theorem dX7_byTurns_66 : decode cX7_byTurns 66 = .ok (.iconst 0, 1) := by decide +kernel
theorem dX7_byTurns_67 : decode cX7_byTurns 67 = .ok (.if_icmp .gt 205, 3) := by decide +kernel
theorem dX7_byTurns_70 : decode cX7_byTurns 70 = .ok (.ldc 90, 2) := by decide +kernel
theorem dX7_byTurns_72 : decode cX7_byTurns 72 = .ok (.istore 5, 2) := by decide +kernel
theorem dX7_byTurns_74 : decode cX7_byTurns 74 = .ok (.iconst 0, 1) := by decide +kernel
theorem dX7_byTurns_75 : decode cX7_byTurns 75 = .ok (.istore 6, 2) := by decide +kernel
theorem dX7_byTurns_77 : decode cX7_byTurns 77 = .ok (.iload 6, 2) := by decide +kernel
theorem dX7_byTurns_79 : decode cX7_byTurns 79 = .ok (.iload_n 1, 1) := by decide +kernel
theorem dX7_byTurns_80 : decode cX7_byTurns 80 = .ok (.iconst 1, 1) := by decide +kernel
theorem dX7_byTurns_81 : decode cX7_byTurns 81 = .ok (.if_icmp .le 7, 3) := by decide +kernel
theorem dX7_byTurns_84 : decode cX7_byTurns 84 = .ok (.iconst 1, 1) := by decide +kernel
theorem dX7_byTurns_85 : decode cX7_byTurns 85 = .ok (.goto 4, 3) := by decide +kernel
theorem dX7_byTurns_88 : decode cX7_byTurns 88 = .ok (.iconst 0, 1) := by decide +kernel
theorem dX7_byTurns_89 : decode cX7_byTurns 89 = .ok (.if_icmp .gt 151, 3) := by decide +kernel
theorem dX7_byTurns_92 : decode cX7_byTurns 92 = .ok (.ldc 90, 2) := by decide +kernel
theorem dX7_byTurns_94 : decode cX7_byTurns 94 = .ok (.istore 7, 2) := by decide +kernel
theorem dX7_byTurns_96 : decode cX7_byTurns 96 = .ok (.iload_n 1, 1) := by decide +kernel
theorem dX7_byTurns_97 : decode cX7_byTurns 97 = .ok (.iconst 2, 1) := by decide +kernel
theorem dX7_byTurns_98 : decode cX7_byTurns 98 = .ok (.if_icmp .le 7, 3) := by decide +kernel
theorem dX7_byTurns_101 : decode cX7_byTurns 101 = .ok (.iconst (-1), 1) := by decide +kernel
theorem dX7_byTurns_102 : decode cX7_byTurns 102 = .ok (.goto 4, 3) := by decide +kernel
theorem dX7_byTurns_105 : decode cX7_byTurns 105 = .ok (.iconst 0, 1) := by decide +kernel
theorem dX7_byTurns_106 : decode cX7_byTurns 106 = .ok (.istore 8, 2) := by decide +kernel
theorem dX7_byTurns_108 : decode cX7_byTurns 108 = .ok (.iload 8, 2) := by decide +kernel
theorem dX7_byTurns_110 : decode cX7_byTurns 110 = .ok (.iload_n 1, 1) := by decide +kernel
theorem dX7_byTurns_111 : decode cX7_byTurns 111 = .ok (.iconst 2, 1) := by decide +kernel
theorem dX7_byTurns_112 : decode cX7_byTurns 112 = .ok (.if_icmp .le 7, 3) := by decide +kernel
theorem dX7_byTurns_115 : decode cX7_byTurns 115 = .ok (.iconst 1, 1) := by decide +kernel
theorem dX7_byTurns_116 : decode cX7_byTurns 116 = .ok (.goto 4, 3) := by decide +kernel
theorem dX7_byTurns_119 : decode cX7_byTurns 119 = .ok (.iconst 0, 1) := by decide +kernel
theorem dX7_byTurns_120 : decode cX7_byTurns 120 = .ok (.if_icmp .gt 98, 3) := by decide +kernel
theorem dX7_byTurns_123 : decode cX7_byTurns 123 = .ok (.ldc 90, 2) := by decide +kernel
theorem dX7_byTurns_125 : decode cX7_byTurns 125 = .ok (.istore 9, 2) := by decide +kernel
theorem dX7_byTurns_127 : decode cX7_byTurns 127 = .ok (.iconst 0, 1) := by decide +kernel
theorem dX7_byTurns_128 : decode cX7_byTurns 128 = .ok (.istore 10, 2) := by decide +kernel
theorem dX7_byTurns_130 : decode cX7_byTurns 130 = .ok (.iload 10, 2) := by decide +kernel
theorem dX7_byTurns_132 : decode cX7_byTurns 132 = .ok (.iload_n 1, 1) := by decide +kernel
theorem dX7_byTurns_133 : decode cX7_byTurns 133 = .ok (.iconst 3, 1) := by decide +kernel
theorem dX7_byTurns_134 : decode cX7_byTurns 134 = .ok (.if_icmp .le 7, 3) := by decide +kernel
theorem dX7_byTurns_137 : decode cX7_byTurns 137 = .ok (.iconst 1, 1) := by decide +kernel
theorem dX7_byTurns_138 : decode cX7_byTurns 138 = .ok (.goto 4, 3) := by decide +kernel
theorem dX7_byTurns_141 : decode cX7_byTurns 141 = .ok (.iconst 0, 1) := by decide +kernel
theorem dX7_byTurns_142 : decode cX7_byTurns 142 = .ok (.if_icmp .gt 40, 3) := by decide +kernel
theorem dX7_byTurns_145 : decode cX7_byTurns 145 = .ok (.aload_n 0, 1) := by decide +kernel
theorem dX7_byTurns_146 : decode cX7_byTurns 146 = .ok (.iload 4, 2) := by decide +kernel
theorem dX7_byTurns_148 : decode cX7_byTurns 148 = .ok (.iload 6, 2) := by decide +kernel
theorem dX7_byTurns_150 : decode cX7_byTurns 150 = .ok (.iload 8, 2) := by decide +kernel
theorem dX7_byTurns_152 : decode cX7_byTurns 152 = .ok (.iload 10, 2) := by decide +kernel
theorem dX7_byTurns_154 : decode cX7_byTurns 154 = .ok (.iload_n 2, 1) := by decide +kernel
theorem dX7_byTurns_155 : decode cX7_byTurns 155 = .ok (.invokevirtual 257, 3) := by decide +kernel
theorem dX7_byTurns_158 : decode cX7_byTurns 158 = .ok (.istore 11, 2) := by decide +kernel
theorem dX7_byTurns_160 : decode cX7_byTurns 160 = .ok (.iload 11, 2) := by decide +kernel
theorem dX7_byTurns_162 : decode cX7_byTurns 162 = .ok (.iload 9, 2) := by decide +kernel
theorem dX7_byTurns_164 : decode cX7_byTurns 164 = .ok (.if_icmp .le 8, 3) := by decide +kernel
theorem dX7_byTurns_167 : decode cX7_byTurns 167 = .ok (.iload 11, 2) := by decide +kernel
theorem dX7_byTurns_169 : decode cX7_byTurns 169 = .ok (.goto 5, 3) := by decide +kernel
theorem dX7_byTurns_172 : decode cX7_byTurns 172 = .ok (.iload 9, 2) := by decide +kernel
theorem dX7_byTurns_174 : decode cX7_byTurns 174 = .ok (.istore 9, 2) := by decide +kernel
theorem dX7_byTurns_176 : decode cX7_byTurns 176 = .ok (.iinc 10 1, 3) := by decide +kernel
theorem dX7_byTurns_179 : decode cX7_byTurns 179 = .ok (.goto (-49), 3) := by decide +kernel
theorem dX7_byTurns_182 : decode cX7_byTurns 182 = .ok (.iload 9, 2) := by decide +kernel
theorem dX7_byTurns_184 : decode cX7_byTurns 184 = .ok (.ldc 90, 2) := by decide +kernel
theorem dX7_byTurns_186 : decode cX7_byTurns 186 = .ok (.if_icmp .eq 22, 3) := by decide +kernel
theorem dX7_byTurns_189 : decode cX7_byTurns 189 = .ok (.iload 7, 2) := by decide +kernel
theorem dX7_byTurns_191 : decode cX7_byTurns 191 = .ok (.ldc 90, 2) := by decide +kernel
theorem dX7_byTurns_193 : decode cX7_byTurns 193 = .ok (.if_icmp .eq 10, 3) := by decide +kernel
theorem dX7_byTurns_196 : decode cX7_byTurns 196 = .ok (.iload 9, 2) := by decide +kernel
theorem dX7_byTurns_198 : decode cX7_byTurns 198 = .ok (.iload 7, 2) := by decide +kernel
theorem dX7_byTurns_200 : decode cX7_byTurns 200 = .ok (.if_icmp .ge 8, 3) := by decide +kernel
theorem dX7_byTurns_203 : decode cX7_byTurns 203 = .ok (.iload 9, 2) := by decide +kernel
theorem dX7_byTurns_205 : decode cX7_byTurns 205 = .ok (.goto 5, 3) := by decide +kernel
theorem dX7_byTurns_208 : decode cX7_byTurns 208 = .ok (.iload 7, 2) := by decide +kernel
theorem dX7_byTurns_210 : decode cX7_byTurns 210 = .ok (.istore 7, 2) := by decide +kernel
theorem dX7_byTurns_212 : decode cX7_byTurns 212 = .ok (.iinc 8 1, 3) := by decide +kernel
theorem dX7_byTurns_215 : decode cX7_byTurns 215 = .ok (.goto (-107), 3) := by decide +kernel
theorem dX7_byTurns_218 : decode cX7_byTurns 218 = .ok (.iload 7, 2) := by decide +kernel
theorem dX7_byTurns_220 : decode cX7_byTurns 220 = .ok (.iload 5, 2) := by decide +kernel
theorem dX7_byTurns_222 : decode cX7_byTurns 222 = .ok (.if_icmp .le 8, 3) := by decide +kernel
theorem dX7_byTurns_225 : decode cX7_byTurns 225 = .ok (.iload 7, 2) := by decide +kernel
theorem dX7_byTurns_227 : decode cX7_byTurns 227 = .ok (.goto 5, 3) := by decide +kernel
theorem dX7_byTurns_230 : decode cX7_byTurns 230 = .ok (.iload 5, 2) := by decide +kernel
theorem dX7_byTurns_232 : decode cX7_byTurns 232 = .ok (.istore 5, 2) := by decide +kernel
theorem dX7_byTurns_234 : decode cX7_byTurns 234 = .ok (.iinc 6 1, 3) := by decide +kernel
theorem dX7_byTurns_237 : decode cX7_byTurns 237 = .ok (.goto (-160), 3) := by decide +kernel
theorem dX7_byTurns_240 : decode cX7_byTurns 240 = .ok (.iload 5, 2) := by decide +kernel
theorem dX7_byTurns_242 : decode cX7_byTurns 242 = .ok (.ldc 90, 2) := by decide +kernel
theorem dX7_byTurns_244 : decode cX7_byTurns 244 = .ok (.if_icmp .eq 20, 3) := by decide +kernel
theorem dX7_byTurns_247 : decode cX7_byTurns 247 = .ok (.iload_n 3, 1) := by decide +kernel
theorem dX7_byTurns_248 : decode cX7_byTurns 248 = .ok (.ldc 90, 2) := by decide +kernel
theorem dX7_byTurns_250 : decode cX7_byTurns 250 = .ok (.if_icmp .eq 9, 3) := by decide +kernel
theorem dX7_byTurns_253 : decode cX7_byTurns 253 = .ok (.iload 5, 2) := by decide +kernel
theorem dX7_byTurns_255 : decode cX7_byTurns 255 = .ok (.iload_n 3, 1) := by decide +kernel
theorem dX7_byTurns_256 : decode cX7_byTurns 256 = .ok (.if_icmp .ge 8, 3) := by decide +kernel
theorem dX7_byTurns_259 : decode cX7_byTurns 259 = .ok (.iload 5, 2) := by decide +kernel
theorem dX7_byTurns_261 : decode cX7_byTurns 261 = .ok (.goto 4, 3) := by decide +kernel
theorem dX7_byTurns_264 : decode cX7_byTurns 264 = .ok (.iload_n 3, 1) := by decide +kernel
theorem dX7_byTurns_265 : decode cX7_byTurns 265 = .ok (.istore_n 3, 1) := by decide +kernel
theorem dX7_byTurns_266 : decode cX7_byTurns 266 = .ok (.iinc 4 1, 3) := by decide +kernel
theorem dX7_byTurns_269 : decode cX7_byTurns 269 = .ok (.goto (-213), 3) := by decide +kernel
theorem dX7_byTurns_272 : decode cX7_byTurns 272 = .ok (.iload_n 3, 1) := by decide +kernel
theorem dX7_byTurns_273 : decode cX7_byTurns 273 = .ok (.ireturn, 1) := by decide +kernel
theorem dX7_rowFound_0 : decode cX7_rowFound 0 = .ok (.aload_n 0, 1) := by decide +kernel
theorem dX7_rowFound_1 : decode cX7_rowFound 1 = .ok (.getfield 7, 3) := by decide +kernel
theorem dX7_rowFound_4 : decode cX7_rowFound 4 = .ok (.iload_n 1, 1) := by decide +kernel
theorem dX7_rowFound_5 : decode cX7_rowFound 5 = .ok (.iaload, 1) := by decide +kernel
theorem dX7_rowFound_6 : decode cX7_rowFound 6 = .ok (.ifCond .ge 9, 3) := by decide +kernel
theorem dX7_rowFound_9 : decode cX7_rowFound 9 = .ok (.aload_n 0, 1) := by decide +kernel
theorem dX7_rowFound_10 : decode cX7_rowFound 10 = .ok (.iconst 1, 1) := by decide +kernel
theorem dX7_rowFound_11 : decode cX7_rowFound 11 = .ok (.invokevirtual 68, 3) := by decide +kernel
theorem dX7_rowFound_14 : decode cX7_rowFound 14 = .ok (.ireturn, 1) := by decide +kernel
theorem dX7_rowFound_15 : decode cX7_rowFound 15 = .ok (.iload_n 2, 1) := by decide +kernel
theorem dX7_rowFound_16 : decode cX7_rowFound 16 = .ok (.ifCond .lt 19, 3) := by decide +kernel
theorem dX7_rowFound_19 : decode cX7_rowFound 19 = .ok (.iload_n 2, 1) := by decide +kernel
theorem dX7_rowFound_20 : decode cX7_rowFound 20 = .ok (.i2l, 1) := by decide +kernel
theorem dX7_rowFound_21 : decode cX7_rowFound 21 = .ok (.iload_n 3, 1) := by decide +kernel
theorem dX7_rowFound_22 : decode cX7_rowFound 22 = .ok (.i2l, 1) := by decide +kernel
theorem dX7_rowFound_23 : decode cX7_rowFound 23 = .ok (.ladd, 1) := by decide +kernel
theorem dX7_rowFound_24 : decode cX7_rowFound 24 = .ok (.aload_n 0, 1) := by decide +kernel
theorem dX7_rowFound_25 : decode cX7_rowFound 25 = .ok (.getfield 13, 3) := by decide +kernel
theorem dX7_rowFound_28 : decode cX7_rowFound 28 = .ok (.iload_n 1, 1) := by decide +kernel
theorem dX7_rowFound_29 : decode cX7_rowFound 29 = .ok (.iaload, 1) := by decide +kernel
theorem dX7_rowFound_30 : decode cX7_rowFound 30 = .ok (.i2l, 1) := by decide +kernel
theorem dX7_rowFound_31 : decode cX7_rowFound 31 = .ok (.lcmp, 1) := by decide +kernel
theorem dX7_rowFound_32 : decode cX7_rowFound 32 = .ok (.ifCond .le 9, 3) := by decide +kernel
theorem dX7_rowFound_35 : decode cX7_rowFound 35 = .ok (.aload_n 0, 1) := by decide +kernel
theorem dX7_rowFound_36 : decode cX7_rowFound 36 = .ok (.iconst 2, 1) := by decide +kernel
theorem dX7_rowFound_37 : decode cX7_rowFound 37 = .ok (.invokevirtual 68, 3) := by decide +kernel
theorem dX7_rowFound_40 : decode cX7_rowFound 40 = .ok (.ireturn, 1) := by decide +kernel
theorem dX7_rowFound_41 : decode cX7_rowFound 41 = .ok (.aload_n 0, 1) := by decide +kernel
theorem dX7_rowFound_42 : decode cX7_rowFound 42 = .ok (.iconst 0, 1) := by decide +kernel
theorem dX7_rowFound_43 : decode cX7_rowFound 43 = .ok (.putfield 51, 3) := by decide +kernel
theorem dX7_rowFound_46 : decode cX7_rowFound 46 = .ok (.iconst 0, 1) := by decide +kernel
theorem dX7_rowFound_47 : decode cX7_rowFound 47 = .ok (.ireturn, 1) := by decide +kernel
theorem dX7_isMany_0 : decode cX7_isMany 0 = .ok (.iload_n 0, 1) := by decide +kernel
theorem dX7_isMany_1 : decode cX7_isMany 1 = .ok (.invokestatic 61, 3) := by decide +kernel
theorem dX7_isMany_4 : decode cX7_isMany 4 = .ok (.ifCond .eq 19, 3) := by decide +kernel
theorem dX7_isMany_7 : decode cX7_isMany 7 = .ok (.iload_n 1, 1) := by decide +kernel
theorem dX7_isMany_8 : decode cX7_isMany 8 = .ok (.i2l, 1) := by decide +kernel
theorem dX7_isMany_9 : decode cX7_isMany 9 = .ok (.lconst 1, 1) := by decide +kernel
theorem dX7_isMany_10 : decode cX7_isMany 10 = .ok (.ldc2_w 261, 3) := by decide +kernel
theorem dX7_isMany_13 : decode cX7_isMany 13 = .ok (.invokestatic 57, 3) := by decide +kernel
theorem dX7_isMany_16 : decode cX7_isMany 16 = .ok (.ifCond .eq 7, 3) := by decide +kernel
theorem dX7_isMany_19 : decode cX7_isMany 19 = .ok (.iconst 1, 1) := by decide +kernel
theorem dX7_isMany_20 : decode cX7_isMany 20 = .ok (.goto 4, 3) := by decide +kernel
theorem dX7_isMany_23 : decode cX7_isMany 23 = .ok (.iconst 0, 1) := by decide +kernel
theorem dX7_isMany_24 : decode cX7_isMany 24 = .ok (.ireturn, 1) := by decide +kernel
theorem dX7_allSo_0 : decode cX7_allSo 0 = .ok (.iconst 0, 1) := by decide +kernel
theorem dX7_allSo_1 : decode cX7_allSo 1 = .ok (.istore 6, 2) := by decide +kernel
theorem dX7_allSo_3 : decode cX7_allSo 3 = .ok (.iload_n 2, 1) := by decide +kernel
theorem dX7_allSo_4 : decode cX7_allSo 4 = .ok (.istore 7, 2) := by decide +kernel
theorem dX7_allSo_6 : decode cX7_allSo 6 = .ok (.iload 7, 2) := by decide +kernel
theorem dX7_allSo_8 : decode cX7_allSo 8 = .ok (.iload_n 3, 1) := by decide +kernel
theorem dX7_allSo_9 : decode cX7_allSo 9 = .ok (.if_icmp .gt 103, 3) := by decide +kernel
theorem dX7_allSo_12 : decode cX7_allSo 12 = .ok (.aload_n 0, 1) := by decide +kernel
theorem dX7_allSo_13 : decode cX7_allSo 13 = .ok (.invokevirtual 231, 3) := by decide +kernel
theorem dX7_allSo_16 : decode cX7_allSo 16 = .ok (.aload_n 0, 1) := by decide +kernel
theorem dX7_allSo_17 : decode cX7_allSo 17 = .ok (.getfield 25, 3) := by decide +kernel
theorem dX7_allSo_20 : decode cX7_allSo 20 = .ok (.iload_n 1, 1) := by decide +kernel
theorem dX7_allSo_21 : decode cX7_allSo 21 = .ok (.iload 7, 2) := by decide +kernel
theorem dX7_allSo_23 : decode cX7_allSo 23 = .ok (.iastore, 1) := by decide +kernel
theorem dX7_allSo_24 : decode cX7_allSo 24 = .ok (.iconst 1, 1) := by decide +kernel
theorem dX7_allSo_25 : decode cX7_allSo 25 = .ok (.istore 8, 2) := by decide +kernel
theorem dX7_allSo_27 : decode cX7_allSo 27 = .ok (.iconst 0, 1) := by decide +kernel
theorem dX7_allSo_28 : decode cX7_allSo 28 = .ok (.istore 9, 2) := by decide +kernel
theorem dX7_allSo_30 : decode cX7_allSo 30 = .ok (.iload 9, 2) := by decide +kernel
theorem dX7_allSo_32 : decode cX7_allSo 32 = .ok (.iload 5, 2) := by decide +kernel
theorem dX7_allSo_34 : decode cX7_allSo 34 = .ok (.if_icmp .ge 54, 3) := by decide +kernel
theorem dX7_allSo_37 : decode cX7_allSo 37 = .ok (.aload_n 0, 1) := by decide +kernel
theorem dX7_allSo_38 : decode cX7_allSo 38 = .ok (.getfield 25, 3) := by decide +kernel
theorem dX7_allSo_41 : decode cX7_allSo 41 = .ok (.invokestatic 183, 3) := by decide +kernel
theorem dX7_allSo_44 : decode cX7_allSo 44 = .ok (.iload 8, 2) := by decide +kernel
theorem dX7_allSo_46 : decode cX7_allSo 46 = .ok (.ifCond .eq 33, 3) := by decide +kernel
theorem dX7_allSo_49 : decode cX7_allSo 49 = .ok (.aload_n 0, 1) := by decide +kernel
theorem dX7_allSo_50 : decode cX7_allSo 50 = .ok (.getfield 25, 3) := by decide +kernel
theorem dX7_allSo_53 : decode cX7_allSo 53 = .ok (.aload_n 0, 1) := by decide +kernel
theorem dX7_allSo_54 : decode cX7_allSo 54 = .ok (.getfield 25, 3) := by decide +kernel
theorem dX7_allSo_57 : decode cX7_allSo 57 = .ok (.iconst 4, 1) := by decide +kernel
theorem dX7_allSo_58 : decode cX7_allSo 58 = .ok (.iaload, 1) := by decide +kernel
theorem dX7_allSo_59 : decode cX7_allSo 59 = .ok (.invokestatic 226, 3) := by decide +kernel
theorem dX7_allSo_62 : decode cX7_allSo 62 = .ok (.aload_n 0, 1) := by decide +kernel
theorem dX7_allSo_63 : decode cX7_allSo 63 = .ok (.getfield 16, 3) := by decide +kernel
theorem dX7_allSo_66 : decode cX7_allSo 66 = .ok (.iload 4, 2) := by decide +kernel
theorem dX7_allSo_68 : decode cX7_allSo 68 = .ok (.iload 9, 2) := by decide +kernel
theorem dX7_allSo_70 : decode cX7_allSo 70 = .ok (.iadd, 1) := by decide +kernel
theorem dX7_allSo_71 : decode cX7_allSo 71 = .ok (.iaload, 1) := by decide +kernel
theorem dX7_allSo_72 : decode cX7_allSo 72 = .ok (.if_icmp .ne 7, 3) := by decide +kernel
theorem dX7_allSo_75 : decode cX7_allSo 75 = .ok (.iconst 1, 1) := by decide +kernel
theorem dX7_allSo_76 : decode cX7_allSo 76 = .ok (.goto 4, 3) := by decide +kernel
theorem dX7_allSo_79 : decode cX7_allSo 79 = .ok (.iconst 0, 1) := by decide +kernel
theorem dX7_allSo_80 : decode cX7_allSo 80 = .ok (.istore 8, 2) := by decide +kernel
theorem dX7_allSo_82 : decode cX7_allSo 82 = .ok (.iinc 9 1, 3) := by decide +kernel
theorem dX7_allSo_85 : decode cX7_allSo 85 = .ok (.goto (-55), 3) := by decide +kernel
theorem dX7_allSo_88 : decode cX7_allSo 88 = .ok (.iload 6, 2) := by decide +kernel
theorem dX7_allSo_90 : decode cX7_allSo 90 = .ok (.iload 8, 2) := by decide +kernel
theorem dX7_allSo_92 : decode cX7_allSo 92 = .ok (.ifCond .eq 10, 3) := by decide +kernel
theorem dX7_allSo_95 : decode cX7_allSo 95 = .ok (.iconst 1, 1) := by decide +kernel
theorem dX7_allSo_96 : decode cX7_allSo 96 = .ok (.iload 7, 2) := by decide +kernel
theorem dX7_allSo_98 : decode cX7_allSo 98 = .ok (.ishl, 1) := by decide +kernel
theorem dX7_allSo_99 : decode cX7_allSo 99 = .ok (.goto 4, 3) := by decide +kernel
theorem dX7_allSo_102 : decode cX7_allSo 102 = .ok (.iconst 0, 1) := by decide +kernel
theorem dX7_allSo_103 : decode cX7_allSo 103 = .ok (.ior, 1) := by decide +kernel
theorem dX7_allSo_104 : decode cX7_allSo 104 = .ok (.istore 6, 2) := by decide +kernel
theorem dX7_allSo_106 : decode cX7_allSo 106 = .ok (.iinc 7 1, 3) := by decide +kernel
theorem dX7_allSo_109 : decode cX7_allSo 109 = .ok (.goto (-103), 3) := by decide +kernel
theorem dX7_allSo_112 : decode cX7_allSo 112 = .ok (.iload 6, 2) := by decide +kernel
theorem dX7_allSo_114 : decode cX7_allSo 114 = .ok (.ireturn, 1) := by decide +kernel
theorem dX7_who_0 : decode cX7_who 0 = .ok (.aload_n 0, 1) := by decide +kernel
theorem dX7_who_1 : decode cX7_who 1 = .ok (.iconst 0, 1) := by decide +kernel
theorem dX7_who_2 : decode cX7_who 2 = .ok (.putfield 47, 3) := by decide +kernel
theorem dX7_who_5 : decode cX7_who 5 = .ok (.aload_n 0, 1) := by decide +kernel
theorem dX7_who_6 : decode cX7_who 6 = .ok (.iload_n 1, 1) := by decide +kernel
theorem dX7_who_7 : decode cX7_who 7 = .ok (.invokevirtual 212, 3) := by decide +kernel
theorem dX7_who_10 : decode cX7_who 10 = .ok (.ifCond .eq 24, 3) := by decide +kernel
theorem dX7_who_13 : decode cX7_who 13 = .ok (.iload_n 2, 1) := by decide +kernel
theorem dX7_who_14 : decode cX7_who 14 = .ok (.i2l, 1) := by decide +kernel
theorem dX7_who_15 : decode cX7_who 15 = .ok (.lconst 0, 1) := by decide +kernel
theorem dX7_who_16 : decode cX7_who 16 = .ok (.ldc2_w 65, 3) := by decide +kernel
theorem dX7_who_19 : decode cX7_who 19 = .ok (.invokestatic 57, 3) := by decide +kernel
theorem dX7_who_22 : decode cX7_who 22 = .ok (.ifCond .eq 12, 3) := by decide +kernel
theorem dX7_who_25 : decode cX7_who 25 = .ok (.iload_n 3, 1) := by decide +kernel
theorem dX7_who_26 : decode cX7_who 26 = .ok (.iload 5, 2) := by decide +kernel
theorem dX7_who_28 : decode cX7_who 28 = .ok (.invokestatic 263, 3) := by decide +kernel
theorem dX7_who_31 : decode cX7_who 31 = .ok (.ifCond .ne 6, 3) := by decide +kernel
theorem dX7_who_34 : decode cX7_who 34 = .ok (.ldc 67, 2) := by decide +kernel
theorem dX7_who_36 : decode cX7_who 36 = .ok (.ireturn, 1) := by decide +kernel
theorem dX7_who_37 : decode cX7_who 37 = .ok (.aload_n 0, 1) := by decide +kernel
theorem dX7_who_38 : decode cX7_who 38 = .ok (.getfield 19, 3) := by decide +kernel
theorem dX7_who_41 : decode cX7_who 41 = .ok (.iload_n 1, 1) := by decide +kernel
theorem dX7_who_42 : decode cX7_who 42 = .ok (.invokestatic 156, 3) := by decide +kernel
theorem dX7_who_45 : decode cX7_who 45 = .ok (.ifCond .ne 6, 3) := by decide +kernel
theorem dX7_who_48 : decode cX7_who 48 = .ok (.ldc 190, 2) := by decide +kernel
theorem dX7_who_50 : decode cX7_who 50 = .ok (.ireturn, 1) := by decide +kernel
theorem dX7_who_51 : decode cX7_who 51 = .ok (.aload_n 0, 1) := by decide +kernel
theorem dX7_who_52 : decode cX7_who 52 = .ok (.iload_n 3, 1) := by decide +kernel
theorem dX7_who_53 : decode cX7_who 53 = .ok (.iload 4, 2) := by decide +kernel
theorem dX7_who_55 : decode cX7_who 55 = .ok (.iload 5, 2) := by decide +kernel
theorem dX7_who_57 : decode cX7_who 57 = .ok (.invokevirtual 266, 3) := by decide +kernel
theorem dX7_who_60 : decode cX7_who 60 = .ok (.istore 6, 2) := by decide +kernel
theorem dX7_who_62 : decode cX7_who 62 = .ok (.iload 6, 2) := by decide +kernel
theorem dX7_who_64 : decode cX7_who 64 = .ok (.ifCond .eq 6, 3) := by decide +kernel
theorem dX7_who_67 : decode cX7_who 67 = .ok (.iload 6, 2) := by decide +kernel
theorem dX7_who_69 : decode cX7_who 69 = .ok (.ireturn, 1) := by decide +kernel
theorem dX7_who_70 : decode cX7_who 70 = .ok (.bipush 14, 2) := by decide +kernel
theorem dX7_who_72 : decode cX7_who 72 = .ok (.bipush 6, 2) := by decide +kernel
theorem dX7_who_74 : decode cX7_who 74 = .ok (.iload_n 1, 1) := by decide +kernel
theorem dX7_who_75 : decode cX7_who 75 = .ok (.imul, 1) := by decide +kernel
theorem dX7_who_76 : decode cX7_who 76 = .ok (.iadd, 1) := by decide +kernel
theorem dX7_who_77 : decode cX7_who 77 = .ok (.iload_n 2, 1) := by decide +kernel
theorem dX7_who_78 : decode cX7_who 78 = .ok (.ifCond .ne 7, 3) := by decide +kernel
theorem dX7_who_81 : decode cX7_who 81 = .ok (.iconst 0, 1) := by decide +kernel
theorem dX7_who_82 : decode cX7_who 82 = .ok (.goto 13, 3) := by decide +kernel
theorem dX7_who_85 : decode cX7_who 85 = .ok (.iload_n 2, 1) := by decide +kernel
theorem dX7_who_86 : decode cX7_who 86 = .ok (.iconst 1, 1) := by decide +kernel
theorem dX7_who_87 : decode cX7_who 87 = .ok (.if_icmp .ne 7, 3) := by decide +kernel
theorem dX7_who_90 : decode cX7_who 90 = .ok (.iconst 1, 1) := by decide +kernel
theorem dX7_who_91 : decode cX7_who 91 = .ok (.goto 4, 3) := by decide +kernel
theorem dX7_who_94 : decode cX7_who 94 = .ok (.iconst 3, 1) := by decide +kernel
theorem dX7_who_95 : decode cX7_who 95 = .ok (.iadd, 1) := by decide +kernel
theorem dX7_who_96 : decode cX7_who 96 = .ok (.istore 7, 2) := by decide +kernel
theorem dX7_who_98 : decode cX7_who 98 = .ok (.aload_n 0, 1) := by decide +kernel
theorem dX7_who_99 : decode cX7_who 99 = .ok (.iload 7, 2) := by decide +kernel
theorem dX7_who_101 : decode cX7_who 101 = .ok (.iload_n 2, 1) := by decide +kernel
theorem dX7_who_102 : decode cX7_who 102 = .ok (.iconst 1, 1) := by decide +kernel
theorem dX7_who_103 : decode cX7_who 103 = .ok (.if_icmp .ne 7, 3) := by decide +kernel
theorem dX7_who_106 : decode cX7_who 106 = .ok (.iconst 0, 1) := by decide +kernel
theorem dX7_who_107 : decode cX7_who 107 = .ok (.goto 4, 3) := by decide +kernel
theorem dX7_who_110 : decode cX7_who 110 = .ok (.iconst 1, 1) := by decide +kernel
theorem dX7_who_111 : decode cX7_who 111 = .ok (.iload_n 2, 1) := by decide +kernel
theorem dX7_who_112 : decode cX7_who 112 = .ok (.ifCond .ne 7, 3) := by decide +kernel
theorem dX7_who_115 : decode cX7_who 115 = .ok (.iconst 5, 1) := by decide +kernel
theorem dX7_who_116 : decode cX7_who 116 = .ok (.goto 21, 3) := by decide +kernel
theorem dX7_who_119 : decode cX7_who 119 = .ok (.iload_n 2, 1) := by decide +kernel
theorem dX7_who_120 : decode cX7_who 120 = .ok (.iconst 1, 1) := by decide +kernel
theorem dX7_who_121 : decode cX7_who 121 = .ok (.if_icmp .ne 14, 3) := by decide +kernel
theorem dX7_who_124 : decode cX7_who 124 = .ok (.aload_n 0, 1) := by decide +kernel
theorem dX7_who_125 : decode cX7_who 125 = .ok (.getfield 19, 3) := by decide +kernel
theorem dX7_who_128 : decode cX7_who 128 = .ok (.iconst 2, 1) := by decide +kernel
theorem dX7_who_129 : decode cX7_who 129 = .ok (.iaload, 1) := by decide +kernel
theorem dX7_who_130 : decode cX7_who 130 = .ok (.iconst 1, 1) := by decide +kernel
theorem dX7_who_131 : decode cX7_who 131 = .ok (.isub, 1) := by decide +kernel
theorem dX7_who_132 : decode cX7_who 132 = .ok (.goto 5, 3) := by decide +kernel
theorem dX7_who_135 : decode cX7_who 135 = .ok (.bipush 9, 2) := by decide +kernel
theorem dX7_who_137 : decode cX7_who 137 = .ok (.bipush 40, 2) := by decide +kernel
theorem dX7_who_139 : decode cX7_who 139 = .ok (.iload_n 3, 1) := by decide +kernel
theorem dX7_who_140 : decode cX7_who 140 = .ok (.imul, 1) := by decide +kernel
theorem dX7_who_141 : decode cX7_who 141 = .ok (.iload 4, 2) := by decide +kernel
theorem dX7_who_143 : decode cX7_who 143 = .ok (.iadd, 1) := by decide +kernel
theorem dX7_who_144 : decode cX7_who 144 = .ok (.iload 5, 2) := by decide +kernel
theorem dX7_who_146 : decode cX7_who 146 = .ok (.invokevirtual 270, 3) := by decide +kernel
theorem dX7_who_149 : decode cX7_who 149 = .ok (.ireturn, 1) := by decide +kernel
theorem dX7_gusts_0 : decode cX7_gusts 0 = .ok (.aload_n 0, 1) := by decide +kernel
theorem dX7_gusts_1 : decode cX7_gusts 1 = .ok (.iconst 0, 1) := by decide +kernel
theorem dX7_gusts_2 : decode cX7_gusts 2 = .ok (.putfield 47, 3) := by decide +kernel
theorem dX7_gusts_5 : decode cX7_gusts 5 = .ok (.aload_n 0, 1) := by decide +kernel
theorem dX7_gusts_6 : decode cX7_gusts 6 = .ok (.iload_n 1, 1) := by decide +kernel
theorem dX7_gusts_7 : decode cX7_gusts 7 = .ok (.invokevirtual 205, 3) := by decide +kernel
theorem dX7_gusts_10 : decode cX7_gusts 10 = .ok (.ifCond .eq 12, 3) := by decide +kernel
theorem dX7_gusts_13 : decode cX7_gusts 13 = .ok (.iload_n 2, 1) := by decide +kernel
theorem dX7_gusts_14 : decode cX7_gusts 14 = .ok (.iload 4, 2) := by decide +kernel
theorem dX7_gusts_16 : decode cX7_gusts 16 = .ok (.invokestatic 263, 3) := by decide +kernel
theorem dX7_gusts_19 : decode cX7_gusts 19 = .ok (.ifCond .ne 6, 3) := by decide +kernel
theorem dX7_gusts_22 : decode cX7_gusts 22 = .ok (.ldc 67, 2) := by decide +kernel
theorem dX7_gusts_24 : decode cX7_gusts 24 = .ok (.ireturn, 1) := by decide +kernel
theorem dX7_gusts_25 : decode cX7_gusts 25 = .ok (.aload_n 0, 1) := by decide +kernel
theorem dX7_gusts_26 : decode cX7_gusts 26 = .ok (.iload_n 2, 1) := by decide +kernel
theorem dX7_gusts_27 : decode cX7_gusts 27 = .ok (.iload_n 3, 1) := by decide +kernel
theorem dX7_gusts_28 : decode cX7_gusts 28 = .ok (.iload 4, 2) := by decide +kernel
theorem dX7_gusts_30 : decode cX7_gusts 30 = .ok (.invokevirtual 266, 3) := by decide +kernel
theorem dX7_gusts_33 : decode cX7_gusts 33 = .ok (.istore 5, 2) := by decide +kernel
theorem dX7_gusts_35 : decode cX7_gusts 35 = .ok (.iload 5, 2) := by decide +kernel
theorem dX7_gusts_37 : decode cX7_gusts 37 = .ok (.ifCond .eq 8, 3) := by decide +kernel
theorem dX7_gusts_40 : decode cX7_gusts 40 = .ok (.iload 5, 2) := by decide +kernel
theorem dX7_gusts_42 : decode cX7_gusts 42 = .ok (.goto 21, 3) := by decide +kernel
theorem dX7_gusts_45 : decode cX7_gusts 45 = .ok (.aload_n 0, 1) := by decide +kernel
theorem dX7_gusts_46 : decode cX7_gusts 46 = .ok (.bipush 8, 2) := by decide +kernel
theorem dX7_gusts_48 : decode cX7_gusts 48 = .ok (.iload_n 1, 1) := by decide +kernel
theorem dX7_gusts_49 : decode cX7_gusts 49 = .ok (.iadd, 1) := by decide +kernel
theorem dX7_gusts_50 : decode cX7_gusts 50 = .ok (.iconst 0, 1) := by decide +kernel
theorem dX7_gusts_51 : decode cX7_gusts 51 = .ok (.iconst 4, 1) := by decide +kernel
theorem dX7_gusts_52 : decode cX7_gusts 52 = .ok (.bipush 40, 2) := by decide +kernel
theorem dX7_gusts_54 : decode cX7_gusts 54 = .ok (.iload_n 2, 1) := by decide +kernel
theorem dX7_gusts_55 : decode cX7_gusts 55 = .ok (.imul, 1) := by decide +kernel
theorem dX7_gusts_56 : decode cX7_gusts 56 = .ok (.iload_n 3, 1) := by decide +kernel
theorem dX7_gusts_57 : decode cX7_gusts 57 = .ok (.iadd, 1) := by decide +kernel
theorem dX7_gusts_58 : decode cX7_gusts 58 = .ok (.iload 4, 2) := by decide +kernel
theorem dX7_gusts_60 : decode cX7_gusts 60 = .ok (.invokevirtual 270, 3) := by decide +kernel
theorem dX7_gusts_63 : decode cX7_gusts 63 = .ok (.ireturn, 1) := by decide +kernel
theorem dX7_lift_0 : decode cX7_lift 0 = .ok (.aload_n 0, 1) := by decide +kernel
theorem dX7_lift_1 : decode cX7_lift 1 = .ok (.iconst 0, 1) := by decide +kernel
theorem dX7_lift_2 : decode cX7_lift 2 = .ok (.putfield 47, 3) := by decide +kernel
theorem dX7_lift_5 : decode cX7_lift 5 = .ok (.aload_n 0, 1) := by decide +kernel
theorem dX7_lift_6 : decode cX7_lift 6 = .ok (.iload_n 1, 1) := by decide +kernel
theorem dX7_lift_7 : decode cX7_lift 7 = .ok (.invokevirtual 202, 3) := by decide +kernel
theorem dX7_lift_10 : decode cX7_lift 10 = .ok (.ifCond .eq 38, 3) := by decide +kernel
theorem dX7_lift_13 : decode cX7_lift 13 = .ok (.iload_n 2, 1) := by decide +kernel
theorem dX7_lift_14 : decode cX7_lift 14 = .ok (.i2l, 1) := by decide +kernel
theorem dX7_lift_15 : decode cX7_lift 15 = .ok (.lconst 0, 1) := by decide +kernel
theorem dX7_lift_16 : decode cX7_lift 16 = .ok (.ldc2_w 229, 3) := by decide +kernel
theorem dX7_lift_19 : decode cX7_lift 19 = .ok (.invokestatic 57, 3) := by decide +kernel
theorem dX7_lift_22 : decode cX7_lift 22 = .ok (.ifCond .eq 26, 3) := by decide +kernel
theorem dX7_lift_25 : decode cX7_lift 25 = .ok (.iload_n 3, 1) := by decide +kernel
theorem dX7_lift_26 : decode cX7_lift 26 = .ok (.i2l, 1) := by decide +kernel
theorem dX7_lift_27 : decode cX7_lift 27 = .ok (.lconst 0, 1) := by decide +kernel
theorem dX7_lift_28 : decode cX7_lift 28 = .ok (.ldc2_w 273, 3) := by decide +kernel
theorem dX7_lift_31 : decode cX7_lift 31 = .ok (.invokestatic 57, 3) := by decide +kernel
theorem dX7_lift_34 : decode cX7_lift 34 = .ok (.ifCond .eq 14, 3) := by decide +kernel
theorem dX7_lift_37 : decode cX7_lift 37 = .ok (.iload 4, 2) := by decide +kernel
theorem dX7_lift_39 : decode cX7_lift 39 = .ok (.i2l, 1) := by decide +kernel
theorem dX7_lift_40 : decode cX7_lift 40 = .ok (.lconst 0, 1) := by decide +kernel
theorem dX7_lift_41 : decode cX7_lift 41 = .ok (.lconst 1, 1) := by decide +kernel
theorem dX7_lift_42 : decode cX7_lift 42 = .ok (.invokestatic 57, 3) := by decide +kernel
theorem dX7_lift_45 : decode cX7_lift 45 = .ok (.ifCond .ne 7, 3) := by decide +kernel
theorem dX7_lift_48 : decode cX7_lift 48 = .ok (.ldc2_w 275, 3) := by decide +kernel
theorem dX7_lift_51 : decode cX7_lift 51 = .ok (.lreturn, 1) := by decide +kernel
theorem dX7_lift_52 : decode cX7_lift 52 = .ok (.lconst 0, 1) := by decide +kernel
theorem dX7_lift_53 : decode cX7_lift 53 = .ok (.lstore 5, 2) := by decide +kernel
theorem dX7_lift_55 : decode cX7_lift 55 = .ok (.lconst 0, 1) := by decide +kernel
theorem dX7_lift_56 : decode cX7_lift 56 = .ok (.lstore 7, 2) := by decide +kernel
theorem dX7_lift_58 : decode cX7_lift 58 = .ok (.iconst 0, 1) := by decide +kernel
theorem dX7_lift_59 : decode cX7_lift 59 = .ok (.istore 9, 2) := by decide +kernel
theorem dX7_lift_61 : decode cX7_lift 61 = .ok (.iload 9, 2) := by decide +kernel
theorem dX7_lift_63 : decode cX7_lift 63 = .ok (.iconst 1, 1) := by decide +kernel
theorem dX7_lift_64 : decode cX7_lift 64 = .ok (.aload_n 0, 1) := by decide +kernel
theorem dX7_lift_65 : decode cX7_lift 65 = .ok (.getfield 19, 3) := by decide +kernel
theorem dX7_lift_68 : decode cX7_lift 68 = .ok (.iconst 0, 1) := by decide +kernel
theorem dX7_lift_69 : decode cX7_lift 69 = .ok (.iaload, 1) := by decide +kernel
theorem dX7_lift_70 : decode cX7_lift 70 = .ok (.ishl, 1) := by decide +kernel
theorem dX7_lift_71 : decode cX7_lift 71 = .ok (.if_icmp .ge 151, 3) := by decide +kernel
theorem dX7_lift_74 : decode cX7_lift 74 = .ok (.iload 9, 2) := by decide +kernel
theorem dX7_lift_76 : decode cX7_lift 76 = .ok (.aload_n 0, 1) := by decide +kernel
theorem dX7_lift_77 : decode cX7_lift 77 = .ok (.getfield 19, 3) := by decide +kernel
theorem dX7_lift_80 : decode cX7_lift 80 = .ok (.invokestatic 220, 3) := by decide +kernel
theorem dX7_lift_83 : decode cX7_lift 83 = .ok (.iconst (-1), 1) := by decide +kernel
theorem dX7_lift_84 : decode cX7_lift 84 = .ok (.ixor, 1) := by decide +kernel
theorem dX7_lift_85 : decode cX7_lift 85 = .ok (.iand, 1) := by decide +kernel
theorem dX7_lift_86 : decode cX7_lift 86 = .ok (.ifCond .ne 130, 3) := by decide +kernel
theorem dX7_lift_89 : decode cX7_lift 89 = .ok (.lconst 1, 1) := by decide +kernel
theorem dX7_lift_90 : decode cX7_lift 90 = .ok (.lstore 10, 2) := by decide +kernel
theorem dX7_lift_92 : decode cX7_lift 92 = .ok (.aload_n 0, 1) := by decide +kernel
theorem dX7_lift_93 : decode cX7_lift 93 = .ok (.invokevirtual 231, 3) := by decide +kernel
theorem dX7_lift_96 : decode cX7_lift 96 = .ok (.iconst 0, 1) := by decide +kernel
theorem dX7_lift_97 : decode cX7_lift 97 = .ok (.istore 12, 2) := by decide +kernel
theorem dX7_lift_99 : decode cX7_lift 99 = .ok (.iload 12, 2) := by decide +kernel
theorem dX7_lift_101 : decode cX7_lift 101 = .ok (.aload_n 0, 1) := by decide +kernel
theorem dX7_lift_102 : decode cX7_lift 102 = .ok (.getfield 19, 3) := by decide +kernel
theorem dX7_lift_105 : decode cX7_lift 105 = .ok (.iconst 0, 1) := by decide +kernel
theorem dX7_lift_106 : decode cX7_lift 106 = .ok (.iaload, 1) := by decide +kernel
theorem dX7_lift_107 : decode cX7_lift 107 = .ok (.if_icmp .ge 72, 3) := by decide +kernel
theorem dX7_lift_110 : decode cX7_lift 110 = .ok (.aload_n 0, 1) := by decide +kernel
theorem dX7_lift_111 : decode cX7_lift 111 = .ok (.getfield 19, 3) := by decide +kernel
theorem dX7_lift_114 : decode cX7_lift 114 = .ok (.iload 12, 2) := by decide +kernel
theorem dX7_lift_116 : decode cX7_lift 116 = .ok (.invokestatic 156, 3) := by decide +kernel
theorem dX7_lift_119 : decode cX7_lift 119 = .ok (.ifCond .eq 54, 3) := by decide +kernel
theorem dX7_lift_122 : decode cX7_lift 122 = .ok (.lload 10, 2) := by decide +kernel
theorem dX7_lift_124 : decode cX7_lift 124 = .ok (.iload 9, 2) := by decide +kernel
theorem dX7_lift_126 : decode cX7_lift 126 = .ok (.iload 12, 2) := by decide +kernel
theorem dX7_lift_128 : decode cX7_lift 128 = .ok (.invokestatic 175, 3) := by decide +kernel
theorem dX7_lift_131 : decode cX7_lift 131 = .ok (.ifCond .eq 8, 3) := by decide +kernel
theorem dX7_lift_134 : decode cX7_lift 134 = .ok (.iload_n 3, 1) := by decide +kernel
theorem dX7_lift_135 : decode cX7_lift 135 = .ok (.i2l, 1) := by decide +kernel
theorem dX7_lift_136 : decode cX7_lift 136 = .ok (.goto 9, 3) := by decide +kernel
theorem dX7_lift_139 : decode cX7_lift 139 = .ok (.ldc2_w 273, 3) := by decide +kernel
theorem dX7_lift_142 : decode cX7_lift 142 = .ok (.iload_n 3, 1) := by decide +kernel
theorem dX7_lift_143 : decode cX7_lift 143 = .ok (.i2l, 1) := by decide +kernel
theorem dX7_lift_144 : decode cX7_lift 144 = .ok (.lsub, 1) := by decide +kernel
theorem dX7_lift_145 : decode cX7_lift 145 = .ok (.lmul, 1) := by decide +kernel
theorem dX7_lift_146 : decode cX7_lift 146 = .ok (.lstore 10, 2) := by decide +kernel
theorem dX7_lift_148 : decode cX7_lift 148 = .ok (.aload_n 0, 1) := by decide +kernel
theorem dX7_lift_149 : decode cX7_lift 149 = .ok (.getfield 25, 3) := by decide +kernel
theorem dX7_lift_152 : decode cX7_lift 152 = .ok (.iload 12, 2) := by decide +kernel
theorem dX7_lift_154 : decode cX7_lift 154 = .ok (.iconst 5, 1) := by decide +kernel
theorem dX7_lift_155 : decode cX7_lift 155 = .ok (.iload 9, 2) := by decide +kernel
theorem dX7_lift_157 : decode cX7_lift 157 = .ok (.iload 12, 2) := by decide +kernel
theorem dX7_lift_159 : decode cX7_lift 159 = .ok (.invokestatic 175, 3) := by decide +kernel
theorem dX7_lift_162 : decode cX7_lift 162 = .ok (.ifCond .eq 7, 3) := by decide +kernel
theorem dX7_lift_165 : decode cX7_lift 165 = .ok (.iconst 0, 1) := by decide +kernel
theorem dX7_lift_166 : decode cX7_lift 166 = .ok (.goto 4, 3) := by decide +kernel
theorem dX7_lift_169 : decode cX7_lift 169 = .ok (.iconst 1, 1) := by decide +kernel
theorem dX7_lift_170 : decode cX7_lift 170 = .ok (.invokestatic 163, 3) := by decide +kernel
theorem dX7_lift_173 : decode cX7_lift 173 = .ok (.iinc 12 1, 3) := by decide +kernel
theorem dX7_lift_176 : decode cX7_lift 176 = .ok (.goto (-77), 3) := by decide +kernel
theorem dX7_lift_179 : decode cX7_lift 179 = .ok (.aload_n 0, 1) := by decide +kernel
theorem dX7_lift_180 : decode cX7_lift 180 = .ok (.getfield 25, 3) := by decide +kernel
theorem dX7_lift_183 : decode cX7_lift 183 = .ok (.iload_n 2, 1) := by decide +kernel
theorem dX7_lift_184 : decode cX7_lift 184 = .ok (.invokestatic 234, 3) := by decide +kernel
theorem dX7_lift_187 : decode cX7_lift 187 = .ok (.lload 7, 2) := by decide +kernel
theorem dX7_lift_189 : decode cX7_lift 189 = .ok (.lload 10, 2) := by decide +kernel
theorem dX7_lift_191 : decode cX7_lift 191 = .ok (.ladd, 1) := by decide +kernel
theorem dX7_lift_192 : decode cX7_lift 192 = .ok (.lstore 7, 2) := by decide +kernel
theorem dX7_lift_194 : decode cX7_lift 194 = .ok (.lload 5, 2) := by decide +kernel
theorem dX7_lift_196 : decode cX7_lift 196 = .ok (.aload_n 0, 1) := by decide +kernel
theorem dX7_lift_197 : decode cX7_lift 197 = .ok (.getfield 25, 3) := by decide +kernel
theorem dX7_lift_200 : decode cX7_lift 200 = .ok (.iload_n 1, 1) := by decide +kernel
theorem dX7_lift_201 : decode cX7_lift 201 = .ok (.invokestatic 226, 3) := by decide +kernel
theorem dX7_lift_204 : decode cX7_lift 204 = .ok (.ifCond .ne 8, 3) := by decide +kernel
theorem dX7_lift_207 : decode cX7_lift 207 = .ok (.lload 10, 2) := by decide +kernel
theorem dX7_lift_209 : decode cX7_lift 209 = .ok (.goto 4, 3) := by decide +kernel
theorem dX7_lift_212 : decode cX7_lift 212 = .ok (.lconst 0, 1) := by decide +kernel
theorem dX7_lift_213 : decode cX7_lift 213 = .ok (.ladd, 1) := by decide +kernel
theorem dX7_lift_214 : decode cX7_lift 214 = .ok (.lstore 5, 2) := by decide +kernel
theorem dX7_lift_216 : decode cX7_lift 216 = .ok (.iinc 9 1, 3) := by decide +kernel
theorem dX7_lift_219 : decode cX7_lift 219 = .ok (.goto (-158), 3) := by decide +kernel
theorem dX7_lift_222 : decode cX7_lift 222 = .ok (.lload 5, 2) := by decide +kernel
theorem dX7_lift_224 : decode cX7_lift 224 = .ok (.lstore 9, 2) := by decide +kernel
theorem dX7_lift_226 : decode cX7_lift 226 = .ok (.lload 7, 2) := by decide +kernel
theorem dX7_lift_228 : decode cX7_lift 228 = .ok (.lstore 11, 2) := by decide +kernel
theorem dX7_lift_230 : decode cX7_lift 230 = .ok (.lload 11, 2) := by decide +kernel
theorem dX7_lift_232 : decode cX7_lift 232 = .ok (.lconst 0, 1) := by decide +kernel
theorem dX7_lift_233 : decode cX7_lift 233 = .ok (.lcmp, 1) := by decide +kernel
theorem dX7_lift_234 : decode cX7_lift 234 = .ok (.ifCond .eq 21, 3) := by decide +kernel
theorem dX7_lift_237 : decode cX7_lift 237 = .ok (.lload 9, 2) := by decide +kernel
theorem dX7_lift_239 : decode cX7_lift 239 = .ok (.lload 11, 2) := by decide +kernel
theorem dX7_lift_241 : decode cX7_lift 241 = .ok (.lrem, 1) := by decide +kernel
theorem dX7_lift_242 : decode cX7_lift 242 = .ok (.lstore 13, 2) := by decide +kernel
theorem dX7_lift_244 : decode cX7_lift 244 = .ok (.lload 11, 2) := by decide +kernel
theorem dX7_lift_246 : decode cX7_lift 246 = .ok (.lstore 9, 2) := by decide +kernel
theorem dX7_lift_248 : decode cX7_lift 248 = .ok (.lload 13, 2) := by decide +kernel
theorem dX7_lift_250 : decode cX7_lift 250 = .ok (.lstore 11, 2) := by decide +kernel
theorem dX7_lift_252 : decode cX7_lift 252 = .ok (.goto (-22), 3) := by decide +kernel
theorem dX7_lift_255 : decode cX7_lift 255 = .ok (.iload 4, 2) := by decide +kernel
theorem dX7_lift_257 : decode cX7_lift 257 = .ok (.ifCond .ne 8, 3) := by decide +kernel
theorem dX7_lift_260 : decode cX7_lift 260 = .ok (.lload 5, 2) := by decide +kernel
theorem dX7_lift_262 : decode cX7_lift 262 = .ok (.goto 5, 3) := by decide +kernel
theorem dX7_lift_265 : decode cX7_lift 265 = .ok (.lload 7, 2) := by decide +kernel
theorem dX7_lift_267 : decode cX7_lift 267 = .ok (.lload 9, 2) := by decide +kernel
theorem dX7_lift_269 : decode cX7_lift 269 = .ok (.ldiv, 1) := by decide +kernel
theorem dX7_lift_270 : decode cX7_lift 270 = .ok (.lreturn, 1) := by decide +kernel
theorem dX7_drawn_0 : decode cX7_drawn 0 = .ok (.aload_n 0, 1) := by decide +kernel
theorem dX7_drawn_1 : decode cX7_drawn 1 = .ok (.iconst 0, 1) := by decide +kernel
theorem dX7_drawn_2 : decode cX7_drawn 2 = .ok (.putfield 47, 3) := by decide +kernel
theorem dX7_drawn_5 : decode cX7_drawn 5 = .ok (.aload_n 0, 1) := by decide +kernel
theorem dX7_drawn_6 : decode cX7_drawn 6 = .ok (.invokevirtual 187, 3) := by decide +kernel
theorem dX7_drawn_9 : decode cX7_drawn 9 = .ok (.ifCond .ne 6, 3) := by decide +kernel
theorem dX7_drawn_12 : decode cX7_drawn 12 = .ok (.ldc 190, 2) := by decide +kernel
theorem dX7_drawn_14 : decode cX7_drawn 14 = .ok (.ireturn, 1) := by decide +kernel
theorem dX7_drawn_15 : decode cX7_drawn 15 = .ok (.iload_n 1, 1) := by decide +kernel
theorem dX7_drawn_16 : decode cX7_drawn 16 = .ok (.i2l, 1) := by decide +kernel
theorem dX7_drawn_17 : decode cX7_drawn 17 = .ok (.lconst 0, 1) := by decide +kernel
theorem dX7_drawn_18 : decode cX7_drawn 18 = .ok (.ldc2_w 229, 3) := by decide +kernel
theorem dX7_drawn_21 : decode cX7_drawn 21 = .ok (.invokestatic 57, 3) := by decide +kernel
theorem dX7_drawn_24 : decode cX7_drawn 24 = .ok (.ifCond .eq 25, 3) := by decide +kernel
theorem dX7_drawn_27 : decode cX7_drawn 27 = .ok (.iload_n 2, 1) := by decide +kernel
theorem dX7_drawn_28 : decode cX7_drawn 28 = .ok (.i2l, 1) := by decide +kernel
theorem dX7_drawn_29 : decode cX7_drawn 29 = .ok (.lconst 1, 1) := by decide +kernel
theorem dX7_drawn_30 : decode cX7_drawn 30 = .ok (.ldc2_w 277, 3) := by decide +kernel
theorem dX7_drawn_33 : decode cX7_drawn 33 = .ok (.invokestatic 57, 3) := by decide +kernel
theorem dX7_drawn_36 : decode cX7_drawn 36 = .ok (.ifCond .eq 13, 3) := by decide +kernel
theorem dX7_drawn_39 : decode cX7_drawn 39 = .ok (.iload_n 3, 1) := by decide +kernel
theorem dX7_drawn_40 : decode cX7_drawn 40 = .ok (.i2l, 1) := by decide +kernel
theorem dX7_drawn_41 : decode cX7_drawn 41 = .ok (.lconst 0, 1) := by decide +kernel
theorem dX7_drawn_42 : decode cX7_drawn 42 = .ok (.lconst 1, 1) := by decide +kernel
theorem dX7_drawn_43 : decode cX7_drawn 43 = .ok (.invokestatic 57, 3) := by decide +kernel
theorem dX7_drawn_46 : decode cX7_drawn 46 = .ok (.ifCond .ne 6, 3) := by decide +kernel
theorem dX7_drawn_49 : decode cX7_drawn 49 = .ok (.ldc 67, 2) := by decide +kernel
theorem dX7_drawn_51 : decode cX7_drawn 51 = .ok (.ireturn, 1) := by decide +kernel
theorem dX7_drawn_52 : decode cX7_drawn 52 = .ok (.aload_n 0, 1) := by decide +kernel
theorem dX7_drawn_53 : decode cX7_drawn 53 = .ok (.invokevirtual 231, 3) := by decide +kernel
theorem dX7_drawn_56 : decode cX7_drawn 56 = .ok (.iload_n 2, 1) := by decide +kernel
theorem dX7_drawn_57 : decode cX7_drawn 57 = .ok (.i2l, 1) := by decide +kernel
theorem dX7_drawn_58 : decode cX7_drawn 58 = .ok (.lstore 4, 2) := by decide +kernel
theorem dX7_drawn_60 : decode cX7_drawn 60 = .ok (.iconst 0, 1) := by decide +kernel
theorem dX7_drawn_61 : decode cX7_drawn 61 = .ok (.istore 6, 2) := by decide +kernel
theorem dX7_drawn_63 : decode cX7_drawn 63 = .ok (.iconst 0, 1) := by decide +kernel
theorem dX7_drawn_64 : decode cX7_drawn 64 = .ok (.istore 7, 2) := by decide +kernel
theorem dX7_drawn_66 : decode cX7_drawn 66 = .ok (.iload 7, 2) := by decide +kernel
theorem dX7_drawn_68 : decode cX7_drawn 68 = .ok (.iload_n 1, 1) := by decide +kernel
theorem dX7_drawn_69 : decode cX7_drawn 69 = .ok (.if_icmp .ge 137, 3) := by decide +kernel
theorem dX7_drawn_72 : decode cX7_drawn 72 = .ok (.lload 4, 2) := by decide +kernel
theorem dX7_drawn_74 : decode cX7_drawn 74 = .ok (.ldc2_w 279, 3) := by decide +kernel
theorem dX7_drawn_77 : decode cX7_drawn 77 = .ok (.lmul, 1) := by decide +kernel
theorem dX7_drawn_78 : decode cX7_drawn 78 = .ok (.ldc2_w 281, 3) := by decide +kernel
theorem dX7_drawn_81 : decode cX7_drawn 81 = .ok (.lrem, 1) := by decide +kernel
theorem dX7_drawn_82 : decode cX7_drawn 82 = .ok (.lstore 4, 2) := by decide +kernel
theorem dX7_drawn_84 : decode cX7_drawn 84 = .ok (.lload 4, 2) := by decide +kernel
theorem dX7_drawn_86 : decode cX7_drawn 86 = .ok (.ldc2_w 283, 3) := by decide +kernel
theorem dX7_drawn_89 : decode cX7_drawn 89 = .ok (.lrem, 1) := by decide +kernel
theorem dX7_drawn_90 : decode cX7_drawn 90 = .ok (.lconst 0, 1) := by decide +kernel
theorem dX7_drawn_91 : decode cX7_drawn 91 = .ok (.lcmp, 1) := by decide +kernel
theorem dX7_drawn_92 : decode cX7_drawn 92 = .ok (.ifCond .ne 29, 3) := by decide +kernel
theorem dX7_drawn_95 : decode cX7_drawn 95 = .ok (.aload_n 0, 1) := by decide +kernel
theorem dX7_drawn_96 : decode cX7_drawn 96 = .ok (.getfield 25, 3) := by decide +kernel
theorem dX7_drawn_99 : decode cX7_drawn 99 = .ok (.bipush 8, 2) := by decide +kernel
theorem dX7_drawn_101 : decode cX7_drawn 101 = .ok (.lload 4, 2) := by decide +kernel
theorem dX7_drawn_103 : decode cX7_drawn 103 = .ok (.aload_n 0, 1) := by decide +kernel
theorem dX7_drawn_104 : decode cX7_drawn 104 = .ok (.getfield 25, 3) := by decide +kernel
theorem dX7_drawn_107 : decode cX7_drawn 107 = .ok (.iconst 1, 1) := by decide +kernel
theorem dX7_drawn_108 : decode cX7_drawn 108 = .ok (.iaload, 1) := by decide +kernel
theorem dX7_drawn_109 : decode cX7_drawn 109 = .ok (.i2l, 1) := by decide +kernel
theorem dX7_drawn_110 : decode cX7_drawn 110 = .ok (.lrem, 1) := by decide +kernel
theorem dX7_drawn_111 : decode cX7_drawn 111 = .ok (.l2i, 1) := by decide +kernel
theorem dX7_drawn_112 : decode cX7_drawn 112 = .ok (.iadd, 1) := by decide +kernel
theorem dX7_drawn_113 : decode cX7_drawn 113 = .ok (.lload 4, 2) := by decide +kernel
theorem dX7_drawn_115 : decode cX7_drawn 115 = .ok (.ldc2_w 285, 3) := by decide +kernel
theorem dX7_drawn_118 : decode cX7_drawn 118 = .ok (.lrem, 1) := by decide +kernel
theorem dX7_drawn_119 : decode cX7_drawn 119 = .ok (.l2i, 1) := by decide +kernel
theorem dX7_drawn_120 : decode cX7_drawn 120 = .ok (.iastore, 1) := by decide +kernel
theorem dX7_drawn_121 : decode cX7_drawn 121 = .ok (.lload 4, 2) := by decide +kernel
theorem dX7_drawn_123 : decode cX7_drawn 123 = .ok (.aload_n 0, 1) := by decide +kernel
theorem dX7_drawn_124 : decode cX7_drawn 124 = .ok (.getfield 25, 3) := by decide +kernel
theorem dX7_drawn_127 : decode cX7_drawn 127 = .ok (.iconst 0, 1) := by decide +kernel
theorem dX7_drawn_128 : decode cX7_drawn 128 = .ok (.iaload, 1) := by decide +kernel
theorem dX7_drawn_129 : decode cX7_drawn 129 = .ok (.i2l, 1) := by decide +kernel
theorem dX7_drawn_130 : decode cX7_drawn 130 = .ok (.lrem, 1) := by decide +kernel
theorem dX7_drawn_131 : decode cX7_drawn 131 = .ok (.l2i, 1) := by decide +kernel
theorem dX7_drawn_132 : decode cX7_drawn 132 = .ok (.istore 8, 2) := by decide +kernel
theorem dX7_drawn_134 : decode cX7_drawn 134 = .ok (.aload_n 0, 1) := by decide +kernel
theorem dX7_drawn_135 : decode cX7_drawn 135 = .ok (.getfield 25, 3) := by decide +kernel
theorem dX7_drawn_138 : decode cX7_drawn 138 = .ok (.iload 8, 2) := by decide +kernel
theorem dX7_drawn_140 : decode cX7_drawn 140 = .ok (.invokestatic 156, 3) := by decide +kernel
theorem dX7_drawn_143 : decode cX7_drawn 143 = .ok (.ifCond .ne 32, 3) := by decide +kernel
theorem dX7_drawn_146 : decode cX7_drawn 146 = .ok (.aload_n 0, 1) := by decide +kernel
theorem dX7_drawn_147 : decode cX7_drawn 147 = .ok (.getfield 25, 3) := by decide +kernel
theorem dX7_drawn_150 : decode cX7_drawn 150 = .ok (.iload 8, 2) := by decide +kernel
theorem dX7_drawn_152 : decode cX7_drawn 152 = .ok (.lload 4, 2) := by decide +kernel
theorem dX7_drawn_154 : decode cX7_drawn 154 = .ok (.aload_n 0, 1) := by decide +kernel
theorem dX7_drawn_155 : decode cX7_drawn 155 = .ok (.getfield 25, 3) := by decide +kernel
theorem dX7_drawn_158 : decode cX7_drawn 158 = .ok (.iconst 2, 1) := by decide +kernel
theorem dX7_drawn_159 : decode cX7_drawn 159 = .ok (.iaload, 1) := by decide +kernel
theorem dX7_drawn_160 : decode cX7_drawn 160 = .ok (.i2l, 1) := by decide +kernel
theorem dX7_drawn_161 : decode cX7_drawn 161 = .ok (.lrem, 1) := by decide +kernel
theorem dX7_drawn_162 : decode cX7_drawn 162 = .ok (.l2i, 1) := by decide +kernel
theorem dX7_drawn_163 : decode cX7_drawn 163 = .ok (.lload 4, 2) := by decide +kernel
theorem dX7_drawn_165 : decode cX7_drawn 165 = .ok (.ldc2_w 215, 3) := by decide +kernel
theorem dX7_drawn_168 : decode cX7_drawn 168 = .ok (.lrem, 1) := by decide +kernel
theorem dX7_drawn_169 : decode cX7_drawn 169 = .ok (.l2i, 1) := by decide +kernel
theorem dX7_drawn_170 : decode cX7_drawn 170 = .ok (.iconst 1, 1) := by decide +kernel
theorem dX7_drawn_171 : decode cX7_drawn 171 = .ok (.iadd, 1) := by decide +kernel
theorem dX7_drawn_172 : decode cX7_drawn 172 = .ok (.invokestatic 217, 3) := by decide +kernel
theorem dX7_drawn_175 : decode cX7_drawn 175 = .ok (.aload_n 0, 1) := by decide +kernel
theorem dX7_drawn_176 : decode cX7_drawn 176 = .ok (.getfield 25, 3) := by decide +kernel
theorem dX7_drawn_179 : decode cX7_drawn 179 = .ok (.invokestatic 183, 3) := by decide +kernel
theorem dX7_drawn_182 : decode cX7_drawn 182 = .ok (.iload 6, 2) := by decide +kernel
theorem dX7_drawn_184 : decode cX7_drawn 184 = .ok (.aload_n 0, 1) := by decide +kernel
theorem dX7_drawn_185 : decode cX7_drawn 185 = .ok (.getfield 25, 3) := by decide +kernel
theorem dX7_drawn_188 : decode cX7_drawn 188 = .ok (.aload_n 0, 1) := by decide +kernel
theorem dX7_drawn_189 : decode cX7_drawn 189 = .ok (.getfield 25, 3) := by decide +kernel
theorem dX7_drawn_192 : decode cX7_drawn 192 = .ok (.iconst 3, 1) := by decide +kernel
theorem dX7_drawn_193 : decode cX7_drawn 193 = .ok (.iaload, 1) := by decide +kernel
theorem dX7_drawn_194 : decode cX7_drawn 194 = .ok (.invokestatic 226, 3) := by decide +kernel
theorem dX7_drawn_197 : decode cX7_drawn 197 = .ok (.iadd, 1) := by decide +kernel
theorem dX7_drawn_198 : decode cX7_drawn 198 = .ok (.istore 6, 2) := by decide +kernel
theorem dX7_drawn_200 : decode cX7_drawn 200 = .ok (.iinc 7 1, 3) := by decide +kernel
theorem dX7_drawn_203 : decode cX7_drawn 203 = .ok (.goto (-137), 3) := by decide +kernel
theorem dX7_drawn_206 : decode cX7_drawn 206 = .ok (.iload_n 3, 1) := by decide +kernel
theorem dX7_drawn_207 : decode cX7_drawn 207 = .ok (.ifCond .ne 16, 3) := by decide +kernel
theorem dX7_drawn_210 : decode cX7_drawn 210 = .ok (.aload_n 0, 1) := by decide +kernel
theorem dX7_drawn_211 : decode cX7_drawn 211 = .ok (.getfield 25, 3) := by decide +kernel
theorem dX7_drawn_214 : decode cX7_drawn 214 = .ok (.invokestatic 196, 3) := by decide +kernel
theorem dX7_drawn_217 : decode cX7_drawn 217 = .ok (.invokestatic 199, 3) := by decide +kernel
theorem dX7_drawn_220 : decode cX7_drawn 220 = .ok (.goto 5, 3) := by decide +kernel
theorem dX7_drawn_223 : decode cX7_drawn 223 = .ok (.iload 6, 2) := by decide +kernel
theorem dX7_drawn_225 : decode cX7_drawn 225 = .ok (.ireturn, 1) := by decide +kernel
theorem dX7_image_0 : decode cX7_image 0 = .ok (.aload_n 0, 1) := by decide +kernel
theorem dX7_image_1 : decode cX7_image 1 = .ok (.iconst 0, 1) := by decide +kernel
theorem dX7_image_2 : decode cX7_image 2 = .ok (.putfield 47, 3) := by decide +kernel
theorem dX7_image_5 : decode cX7_image 5 = .ok (.iload_n 1, 1) := by decide +kernel
theorem dX7_image_6 : decode cX7_image 6 = .ok (.i2l, 1) := by decide +kernel
theorem dX7_image_7 : decode cX7_image 7 = .ok (.lconst 0, 1) := by decide +kernel
theorem dX7_image_8 : decode cX7_image 8 = .ok (.lconst 1, 1) := by decide +kernel
theorem dX7_image_9 : decode cX7_image 9 = .ok (.invokestatic 57, 3) := by decide +kernel
theorem dX7_image_12 : decode cX7_image 12 = .ok (.ifCond .ne 6, 3) := by decide +kernel
theorem dX7_image_15 : decode cX7_image 15 = .ok (.ldc 67, 2) := by decide +kernel
theorem dX7_image_17 : decode cX7_image 17 = .ok (.ireturn, 1) := by decide +kernel
theorem dX7_image_18 : decode cX7_image 18 = .ok (.aload_n 0, 1) := by decide +kernel
theorem dX7_image_19 : decode cX7_image 19 = .ok (.invokevirtual 187, 3) := by decide +kernel
theorem dX7_image_22 : decode cX7_image 22 = .ok (.ifCond .ne 6, 3) := by decide +kernel
theorem dX7_image_25 : decode cX7_image 25 = .ok (.ldc 190, 2) := by decide +kernel
theorem dX7_image_27 : decode cX7_image 27 = .ok (.ireturn, 1) := by decide +kernel
theorem dX7_image_28 : decode cX7_image 28 = .ok (.iconst 0, 1) := by decide +kernel
theorem dX7_image_29 : decode cX7_image 29 = .ok (.istore_n 2, 1) := by decide +kernel
theorem dX7_image_30 : decode cX7_image 30 = .ok (.iload_n 2, 1) := by decide +kernel
theorem dX7_image_31 : decode cX7_image 31 = .ok (.bipush 50, 2) := by decide +kernel
theorem dX7_image_33 : decode cX7_image 33 = .ok (.if_icmp .ge 26, 3) := by decide +kernel
theorem dX7_image_36 : decode cX7_image 36 = .ok (.aload_n 0, 1) := by decide +kernel
theorem dX7_image_37 : decode cX7_image 37 = .ok (.getfield 41, 3) := by decide +kernel
theorem dX7_image_40 : decode cX7_image 40 = .ok (.bipush 50, 2) := by decide +kernel
theorem dX7_image_42 : decode cX7_image 42 = .ok (.iload_n 1, 1) := by decide +kernel
theorem dX7_image_43 : decode cX7_image 43 = .ok (.imul, 1) := by decide +kernel
theorem dX7_image_44 : decode cX7_image 44 = .ok (.iload_n 2, 1) := by decide +kernel
theorem dX7_image_45 : decode cX7_image 45 = .ok (.iadd, 1) := by decide +kernel
theorem dX7_image_46 : decode cX7_image 46 = .ok (.aload_n 0, 1) := by decide +kernel
theorem dX7_image_47 : decode cX7_image 47 = .ok (.getfield 19, 3) := by decide +kernel
theorem dX7_image_50 : decode cX7_image 50 = .ok (.iload_n 2, 1) := by decide +kernel
theorem dX7_image_51 : decode cX7_image 51 = .ok (.iaload, 1) := by decide +kernel
theorem dX7_image_52 : decode cX7_image 52 = .ok (.iastore, 1) := by decide +kernel
theorem dX7_image_53 : decode cX7_image 53 = .ok (.iinc 2 1, 3) := by decide +kernel
theorem dX7_image_56 : decode cX7_image 56 = .ok (.goto (-26), 3) := by decide +kernel
theorem dX7_image_59 : decode cX7_image 59 = .ok (.aload_n 0, 1) := by decide +kernel
theorem dX7_image_60 : decode cX7_image 60 = .ok (.getfield 37, 3) := by decide +kernel
theorem dX7_image_63 : decode cX7_image 63 = .ok (.iload_n 1, 1) := by decide +kernel
theorem dX7_image_64 : decode cX7_image 64 = .ok (.iconst 1, 1) := by decide +kernel
theorem dX7_image_65 : decode cX7_image 65 = .ok (.bastore, 1) := by decide +kernel
theorem dX7_image_66 : decode cX7_image 66 = .ok (.iconst 1, 1) := by decide +kernel
theorem dX7_image_67 : decode cX7_image 67 = .ok (.ireturn, 1) := by decide +kernel
theorem dX7_restore_0 : decode cX7_restore 0 = .ok (.aload_n 0, 1) := by decide +kernel
theorem dX7_restore_1 : decode cX7_restore 1 = .ok (.iconst 0, 1) := by decide +kernel
theorem dX7_restore_2 : decode cX7_restore 2 = .ok (.putfield 47, 3) := by decide +kernel
theorem dX7_restore_5 : decode cX7_restore 5 = .ok (.iload_n 1, 1) := by decide +kernel
theorem dX7_restore_6 : decode cX7_restore 6 = .ok (.i2l, 1) := by decide +kernel
theorem dX7_restore_7 : decode cX7_restore 7 = .ok (.lconst 0, 1) := by decide +kernel
theorem dX7_restore_8 : decode cX7_restore 8 = .ok (.lconst 1, 1) := by decide +kernel
theorem dX7_restore_9 : decode cX7_restore 9 = .ok (.invokestatic 57, 3) := by decide +kernel
theorem dX7_restore_12 : decode cX7_restore 12 = .ok (.ifCond .ne 6, 3) := by decide +kernel
theorem dX7_restore_15 : decode cX7_restore 15 = .ok (.ldc 67, 2) := by decide +kernel
theorem dX7_restore_17 : decode cX7_restore 17 = .ok (.ireturn, 1) := by decide +kernel
theorem dX7_restore_18 : decode cX7_restore 18 = .ok (.aload_n 0, 1) := by decide +kernel
theorem dX7_restore_19 : decode cX7_restore 19 = .ok (.getfield 37, 3) := by decide +kernel
theorem dX7_restore_22 : decode cX7_restore 22 = .ok (.iload_n 1, 1) := by decide +kernel
theorem dX7_restore_23 : decode cX7_restore 23 = .ok (.baload, 1) := by decide +kernel
theorem dX7_restore_24 : decode cX7_restore 24 = .ok (.ifCond .ne 6, 3) := by decide +kernel
theorem dX7_restore_27 : decode cX7_restore 27 = .ok (.ldc 190, 2) := by decide +kernel
theorem dX7_restore_29 : decode cX7_restore 29 = .ok (.ireturn, 1) := by decide +kernel
theorem dX7_restore_30 : decode cX7_restore 30 = .ok (.iconst 0, 1) := by decide +kernel
theorem dX7_restore_31 : decode cX7_restore 31 = .ok (.istore_n 2, 1) := by decide +kernel
theorem dX7_restore_32 : decode cX7_restore 32 = .ok (.iload_n 2, 1) := by decide +kernel
theorem dX7_restore_33 : decode cX7_restore 33 = .ok (.bipush 50, 2) := by decide +kernel
theorem dX7_restore_35 : decode cX7_restore 35 = .ok (.if_icmp .ge 26, 3) := by decide +kernel
theorem dX7_restore_38 : decode cX7_restore 38 = .ok (.aload_n 0, 1) := by decide +kernel
theorem dX7_restore_39 : decode cX7_restore 39 = .ok (.getfield 19, 3) := by decide +kernel
theorem dX7_restore_42 : decode cX7_restore 42 = .ok (.iload_n 2, 1) := by decide +kernel
theorem dX7_restore_43 : decode cX7_restore 43 = .ok (.aload_n 0, 1) := by decide +kernel
theorem dX7_restore_44 : decode cX7_restore 44 = .ok (.getfield 41, 3) := by decide +kernel
theorem dX7_restore_47 : decode cX7_restore 47 = .ok (.bipush 50, 2) := by decide +kernel
theorem dX7_restore_49 : decode cX7_restore 49 = .ok (.iload_n 1, 1) := by decide +kernel
theorem dX7_restore_50 : decode cX7_restore 50 = .ok (.imul, 1) := by decide +kernel
theorem dX7_restore_51 : decode cX7_restore 51 = .ok (.iload_n 2, 1) := by decide +kernel
theorem dX7_restore_52 : decode cX7_restore 52 = .ok (.iadd, 1) := by decide +kernel
theorem dX7_restore_53 : decode cX7_restore 53 = .ok (.iaload, 1) := by decide +kernel
theorem dX7_restore_54 : decode cX7_restore 54 = .ok (.iastore, 1) := by decide +kernel
theorem dX7_restore_55 : decode cX7_restore 55 = .ok (.iinc 2 1, 3) := by decide +kernel
theorem dX7_restore_58 : decode cX7_restore 58 = .ok (.goto (-26), 3) := by decide +kernel
theorem dX7_restore_61 : decode cX7_restore 61 = .ok (.aload_n 0, 1) := by decide +kernel
theorem dX7_restore_62 : decode cX7_restore 62 = .ok (.iconst 0, 1) := by decide +kernel
theorem dX7_restore_63 : decode cX7_restore 63 = .ok (.putfield 149, 3) := by decide +kernel
theorem dX7_restore_66 : decode cX7_restore 66 = .ok (.iconst 1, 1) := by decide +kernel
theorem dX7_restore_67 : decode cX7_restore 67 = .ok (.ireturn, 1) := by decide +kernel
theorem dX7_isOf_0 : decode cX7_isOf 0 = .ok (.iload_n 1, 1) := by decide +kernel
theorem dX7_isOf_1 : decode cX7_isOf 1 = .ok (.ifCond .eq 28, 3) := by decide +kernel
theorem dX7_isOf_4 : decode cX7_isOf 4 = .ok (.iload_n 0, 1) := by decide +kernel
theorem dX7_isOf_5 : decode cX7_isOf 5 = .ok (.iload_n 1, 1) := by decide +kernel
theorem dX7_isOf_6 : decode cX7_isOf 6 = .ok (.if_icmp .eq 23, 3) := by decide +kernel
theorem dX7_isOf_9 : decode cX7_isOf 9 = .ok (.iload_n 1, 1) := by decide +kernel
theorem dX7_isOf_10 : decode cX7_isOf 10 = .ok (.iconst 1, 1) := by decide +kernel
theorem dX7_isOf_11 : decode cX7_isOf 11 = .ok (.if_icmp .ne 8, 3) := by decide +kernel
theorem dX7_isOf_14 : decode cX7_isOf 14 = .ok (.iload_n 0, 1) := by decide +kernel
theorem dX7_isOf_15 : decode cX7_isOf 15 = .ok (.iconst 4, 1) := by decide +kernel
theorem dX7_isOf_16 : decode cX7_isOf 16 = .ok (.if_icmp .lt 13, 3) := by decide +kernel
theorem dX7_isOf_19 : decode cX7_isOf 19 = .ok (.iload_n 1, 1) := by decide +kernel
theorem dX7_isOf_20 : decode cX7_isOf 20 = .ok (.iconst 4, 1) := by decide +kernel
theorem dX7_isOf_21 : decode cX7_isOf 21 = .ok (.if_icmp .ne 12, 3) := by decide +kernel
theorem dX7_isOf_24 : decode cX7_isOf 24 = .ok (.iload_n 0, 1) := by decide +kernel
theorem dX7_isOf_25 : decode cX7_isOf 25 = .ok (.iconst 5, 1) := by decide +kernel
theorem dX7_isOf_26 : decode cX7_isOf 26 = .ok (.if_icmp .ne 7, 3) := by decide +kernel
theorem dX7_isOf_29 : decode cX7_isOf 29 = .ok (.iconst 1, 1) := by decide +kernel
theorem dX7_isOf_30 : decode cX7_isOf 30 = .ok (.goto 4, 3) := by decide +kernel
theorem dX7_isOf_33 : decode cX7_isOf 33 = .ok (.iconst 0, 1) := by decide +kernel
theorem dX7_isOf_34 : decode cX7_isOf 34 = .ok (.ireturn, 1) := by decide +kernel
theorem dX7_kind_0 : decode cX7_kind 0 = .ok (.aload_n 0, 1) := by decide +kernel
theorem dX7_kind_1 : decode cX7_kind 1 = .ok (.iconst 0, 1) := by decide +kernel
theorem dX7_kind_2 : decode cX7_kind 2 = .ok (.putfield 47, 3) := by decide +kernel
theorem dX7_kind_5 : decode cX7_kind 5 = .ok (.aload_n 0, 1) := by decide +kernel
theorem dX7_kind_6 : decode cX7_kind 6 = .ok (.iload_n 1, 1) := by decide +kernel
theorem dX7_kind_7 : decode cX7_kind 7 = .ok (.invokevirtual 212, 3) := by decide +kernel
theorem dX7_kind_10 : decode cX7_kind 10 = .ok (.ifCond .eq 15, 3) := by decide +kernel
theorem dX7_kind_13 : decode cX7_kind 13 = .ok (.aload_n 0, 1) := by decide +kernel
theorem dX7_kind_14 : decode cX7_kind 14 = .ok (.getfield 19, 3) := by decide +kernel
theorem dX7_kind_17 : decode cX7_kind 17 = .ok (.iload_n 1, 1) := by decide +kernel
theorem dX7_kind_18 : decode cX7_kind 18 = .ok (.iconst 0, 1) := by decide +kernel
theorem dX7_kind_19 : decode cX7_kind 19 = .ok (.invokestatic 152, 3) := by decide +kernel
theorem dX7_kind_22 : decode cX7_kind 22 = .ok (.goto 5, 3) := by decide +kernel
theorem dX7_kind_25 : decode cX7_kind 25 = .ok (.ldc 67, 2) := by decide +kernel
theorem dX7_kind_27 : decode cX7_kind 27 = .ok (.ireturn, 1) := by decide +kernel
theorem dX7_as_0 : decode cX7_as 0 = .ok (.aload_n 0, 1) := by decide +kernel
theorem dX7_as_1 : decode cX7_as 1 = .ok (.iconst 0, 1) := by decide +kernel
theorem dX7_as_2 : decode cX7_as 2 = .ok (.putfield 47, 3) := by decide +kernel
theorem dX7_as_5 : decode cX7_as 5 = .ok (.aload_n 0, 1) := by decide +kernel
theorem dX7_as_6 : decode cX7_as 6 = .ok (.iload_n 1, 1) := by decide +kernel
theorem dX7_as_7 : decode cX7_as 7 = .ok (.invokevirtual 212, 3) := by decide +kernel
theorem dX7_as_10 : decode cX7_as 10 = .ok (.ifCond .eq 15, 3) := by decide +kernel
theorem dX7_as_13 : decode cX7_as 13 = .ok (.iload_n 2, 1) := by decide +kernel
theorem dX7_as_14 : decode cX7_as 14 = .ok (.i2l, 1) := by decide +kernel
theorem dX7_as_15 : decode cX7_as 15 = .ok (.lconst 0, 1) := by decide +kernel
theorem dX7_as_16 : decode cX7_as 16 = .ok (.ldc2_w 285, 3) := by decide +kernel
theorem dX7_as_19 : decode cX7_as 19 = .ok (.invokestatic 57, 3) := by decide +kernel
theorem dX7_as_22 : decode cX7_as 22 = .ok (.ifCond .ne 6, 3) := by decide +kernel
theorem dX7_as_25 : decode cX7_as 25 = .ok (.ldc 67, 2) := by decide +kernel
theorem dX7_as_27 : decode cX7_as 27 = .ok (.ireturn, 1) := by decide +kernel
theorem dX7_as_28 : decode cX7_as 28 = .ok (.aload_n 0, 1) := by decide +kernel
theorem dX7_as_29 : decode cX7_as 29 = .ok (.iconst 0, 1) := by decide +kernel
theorem dX7_as_30 : decode cX7_as 30 = .ok (.putfield 51, 3) := by decide +kernel
theorem dX7_as_33 : decode cX7_as 33 = .ok (.aload_n 0, 1) := by decide +kernel
theorem dX7_as_34 : decode cX7_as 34 = .ok (.getfield 19, 3) := by decide +kernel
theorem dX7_as_37 : decode cX7_as 37 = .ok (.iload_n 1, 1) := by decide +kernel
theorem dX7_as_38 : decode cX7_as 38 = .ok (.iconst 0, 1) := by decide +kernel
theorem dX7_as_39 : decode cX7_as 39 = .ok (.invokestatic 152, 3) := by decide +kernel
theorem dX7_as_42 : decode cX7_as 42 = .ok (.iload_n 2, 1) := by decide +kernel
theorem dX7_as_43 : decode cX7_as 43 = .ok (.invokestatic 287, 3) := by decide +kernel
theorem dX7_as_46 : decode cX7_as 46 = .ok (.ifCond .eq 7, 3) := by decide +kernel
theorem dX7_as_49 : decode cX7_as 49 = .ok (.iload_n 1, 1) := by decide +kernel
theorem dX7_as_50 : decode cX7_as 50 = .ok (.goto 8, 3) := by decide +kernel
theorem dX7_as_53 : decode cX7_as 53 = .ok (.aload_n 0, 1) := by decide +kernel
theorem dX7_as_54 : decode cX7_as 54 = .ok (.iconst 3, 1) := by decide +kernel
theorem dX7_as_55 : decode cX7_as 55 = .ok (.invokevirtual 68, 3) := by decide +kernel
theorem dX7_as_58 : decode cX7_as 58 = .ok (.ireturn, 1) := by decide +kernel
theorem dX7_began_0 : decode cX7_began 0 = .ok (.aload_n 0, 1) := by decide +kernel
theorem dX7_began_1 : decode cX7_began 1 = .ok (.getfield 290, 3) := by decide +kernel
theorem dX7_began_4 : decode cX7_began 4 = .ok (.bipush 16, 2) := by decide +kernel
theorem dX7_began_6 : decode cX7_began 6 = .ok (.if_icmp .ge 23, 3) := by decide +kernel
theorem dX7_began_9 : decode cX7_began 9 = .ok (.aload_n 0, 1) := by decide +kernel
theorem dX7_began_10 : decode cX7_began 10 = .ok (.getfield 44, 3) := by decide +kernel
theorem dX7_began_13 : decode cX7_began 13 = .ok (.aload_n 0, 1) := by decide +kernel
theorem dX7_began_14 : decode cX7_began 14 = .ok (.getfield 290, 3) := by decide +kernel
theorem dX7_began_17 : decode cX7_began 17 = .ok (.iload_n 1, 1) := by decide +kernel
theorem dX7_began_18 : decode cX7_began 18 = .ok (.iastore, 1) := by decide +kernel
theorem dX7_began_19 : decode cX7_began 19 = .ok (.aload_n 0, 1) := by decide +kernel
theorem dX7_began_20 : decode cX7_began 20 = .ok (.dup, 1) := by decide +kernel
theorem dX7_began_21 : decode cX7_began 21 = .ok (.getfield 290, 3) := by decide +kernel
theorem dX7_began_24 : decode cX7_began 24 = .ok (.iconst 1, 1) := by decide +kernel
theorem dX7_began_25 : decode cX7_began 25 = .ok (.iadd, 1) := by decide +kernel
theorem dX7_began_26 : decode cX7_began 26 = .ok (.putfield 290, 3) := by decide +kernel
theorem dX7_began_29 : decode cX7_began 29 = .ok (.return_, 1) := by decide +kernel
theorem dX7_plainSize_0 : decode cX7_plainSize 0 = .ok (.aload_n 0, 1) := by decide +kernel
theorem dX7_plainSize_1 : decode cX7_plainSize 1 = .ok (.bipush 10, 2) := by decide +kernel
theorem dX7_plainSize_3 : decode cX7_plainSize 3 = .ok (.invokevirtual 293, 3) := by decide +kernel
theorem dX7_plainSize_6 : decode cX7_plainSize 6 = .ok (.aload_n 0, 1) := by decide +kernel
theorem dX7_plainSize_7 : decode cX7_plainSize 7 = .ok (.getfield 19, 3) := by decide +kernel
theorem dX7_plainSize_10 : decode cX7_plainSize 10 = .ok (.iload_n 1, 1) := by decide +kernel
theorem dX7_plainSize_11 : decode cX7_plainSize 11 = .ok (.iconst 2, 1) := by decide +kernel
theorem dX7_plainSize_12 : decode cX7_plainSize 12 = .ok (.invokestatic 152, 3) := by decide +kernel
theorem dX7_plainSize_15 : decode cX7_plainSize 15 = .ok (.ireturn, 1) := by decide +kernel
theorem dX7_haarSize_0 : decode cX7_haarSize 0 = .ok (.aload_n 0, 1) := by decide +kernel
theorem dX7_haarSize_1 : decode cX7_haarSize 1 = .ok (.getfield 19, 3) := by decide +kernel
theorem dX7_haarSize_4 : decode cX7_haarSize 4 = .ok (.iload_n 1, 1) := by decide +kernel
theorem dX7_haarSize_5 : decode cX7_haarSize 5 = .ok (.iconst 0, 1) := by decide +kernel
theorem dX7_haarSize_6 : decode cX7_haarSize 6 = .ok (.invokestatic 152, 3) := by decide +kernel
theorem dX7_haarSize_9 : decode cX7_haarSize 9 = .ok (.iconst 5, 1) := by decide +kernel
theorem dX7_haarSize_10 : decode cX7_haarSize 10 = .ok (.if_icmp .ne 7, 3) := by decide +kernel
theorem dX7_haarSize_13 : decode cX7_haarSize 13 = .ok (.iconst 1, 1) := by decide +kernel
theorem dX7_haarSize_14 : decode cX7_haarSize 14 = .ok (.goto 4, 3) := by decide +kernel
theorem dX7_haarSize_17 : decode cX7_haarSize 17 = .ok (.iconst 0, 1) := by decide +kernel
theorem dX7_haarSize_18 : decode cX7_haarSize 18 = .ok (.istore_n 2, 1) := by decide +kernel
theorem dX7_haarSize_19 : decode cX7_haarSize 19 = .ok (.iload_n 2, 1) := by decide +kernel
theorem dX7_haarSize_20 : decode cX7_haarSize 20 = .ok (.ifCond .eq 9, 3) := by decide +kernel
theorem dX7_haarSize_23 : decode cX7_haarSize 23 = .ok (.aload_n 0, 1) := by decide +kernel
theorem dX7_haarSize_24 : decode cX7_haarSize 24 = .ok (.bipush 14, 2) := by decide +kernel
theorem dX7_haarSize_26 : decode cX7_haarSize 26 = .ok (.invokevirtual 293, 3) := by decide +kernel
theorem dX7_haarSize_29 : decode cX7_haarSize 29 = .ok (.aload_n 0, 1) := by decide +kernel
theorem dX7_haarSize_30 : decode cX7_haarSize 30 = .ok (.bipush 13, 2) := by decide +kernel
theorem dX7_haarSize_32 : decode cX7_haarSize 32 = .ok (.invokevirtual 293, 3) := by decide +kernel
theorem dX7_haarSize_35 : decode cX7_haarSize 35 = .ok (.aload_n 0, 1) := by decide +kernel
theorem dX7_haarSize_36 : decode cX7_haarSize 36 = .ok (.iload_n 1, 1) := by decide +kernel
theorem dX7_haarSize_37 : decode cX7_haarSize 37 = .ok (.invokevirtual 296, 3) := by decide +kernel
theorem dX7_haarSize_40 : decode cX7_haarSize 40 = .ok (.bipush 100, 2) := by decide +kernel
theorem dX7_haarSize_42 : decode cX7_haarSize 42 = .ok (.isub, 1) := by decide +kernel
theorem dX7_haarSize_43 : decode cX7_haarSize 43 = .ok (.istore_n 3, 1) := by decide +kernel
theorem dX7_haarSize_44 : decode cX7_haarSize 44 = .ok (.iload_n 2, 1) := by decide +kernel
theorem dX7_haarSize_45 : decode cX7_haarSize 45 = .ok (.ifCond .eq 9, 3) := by decide +kernel
theorem dX7_haarSize_48 : decode cX7_haarSize 48 = .ok (.iconst 2, 1) := by decide +kernel
theorem dX7_haarSize_49 : decode cX7_haarSize 49 = .ok (.iload_n 3, 1) := by decide +kernel
theorem dX7_haarSize_50 : decode cX7_haarSize 50 = .ok (.imul, 1) := by decide +kernel
theorem dX7_haarSize_51 : decode cX7_haarSize 51 = .ok (.goto 4, 3) := by decide +kernel
theorem dX7_haarSize_54 : decode cX7_haarSize 54 = .ok (.iload_n 3, 1) := by decide +kernel
theorem dX7_haarSize_55 : decode cX7_haarSize 55 = .ok (.ireturn, 1) := by decide +kernel
theorem dX7_markOf_0 : decode cX7_markOf 0 = .ok (.aload_n 0, 1) := by decide +kernel
theorem dX7_markOf_1 : decode cX7_markOf 1 = .ok (.getfield 19, 3) := by decide +kernel
theorem dX7_markOf_4 : decode cX7_markOf 4 = .ok (.iload_n 1, 1) := by decide +kernel
theorem dX7_markOf_5 : decode cX7_markOf 5 = .ok (.iconst 0, 1) := by decide +kernel
theorem dX7_markOf_6 : decode cX7_markOf 6 = .ok (.invokestatic 152, 3) := by decide +kernel
theorem dX7_markOf_9 : decode cX7_markOf 9 = .ok (.istore_n 2, 1) := by decide +kernel
theorem dX7_markOf_10 : decode cX7_markOf 10 = .ok (.iload_n 2, 1) := by decide +kernel
theorem dX7_markOf_11 : decode cX7_markOf 11 = .ok (.iconst 4, 1) := by decide +kernel
theorem dX7_markOf_12 : decode cX7_markOf 12 = .ok (.if_icmp .lt 23, 3) := by decide +kernel
theorem dX7_markOf_15 : decode cX7_markOf 15 = .ok (.aload_n 0, 1) := by decide +kernel
theorem dX7_markOf_16 : decode cX7_markOf 16 = .ok (.bipush 23, 2) := by decide +kernel
theorem dX7_markOf_18 : decode cX7_markOf 18 = .ok (.invokevirtual 293, 3) := by decide +kernel
theorem dX7_markOf_21 : decode cX7_markOf 21 = .ok (.aload_n 0, 1) := by decide +kernel
theorem dX7_markOf_22 : decode cX7_markOf 22 = .ok (.bipush 20, 2) := by decide +kernel
theorem dX7_markOf_24 : decode cX7_markOf 24 = .ok (.invokevirtual 293, 3) := by decide +kernel
theorem dX7_markOf_27 : decode cX7_markOf 27 = .ok (.iload_n 1, 1) := by decide +kernel
theorem dX7_markOf_28 : decode cX7_markOf 28 = .ok (.aload_n 0, 1) := by decide +kernel
theorem dX7_markOf_29 : decode cX7_markOf 29 = .ok (.iload_n 1, 1) := by decide +kernel
theorem dX7_markOf_30 : decode cX7_markOf 30 = .ok (.invokevirtual 299, 3) := by decide +kernel
theorem dX7_markOf_33 : decode cX7_markOf 33 = .ok (.isub, 1) := by decide +kernel
theorem dX7_markOf_34 : decode cX7_markOf 34 = .ok (.ireturn, 1) := by decide +kernel
theorem dX7_markOf_35 : decode cX7_markOf 35 = .ok (.iload_n 2, 1) := by decide +kernel
theorem dX7_markOf_36 : decode cX7_markOf 36 = .ok (.iconst 1, 1) := by decide +kernel
theorem dX7_markOf_37 : decode cX7_markOf 37 = .ok (.if_icmp .eq 19, 3) := by decide +kernel
theorem dX7_markOf_40 : decode cX7_markOf 40 = .ok (.aload_n 0, 1) := by decide +kernel
theorem dX7_markOf_41 : decode cX7_markOf 41 = .ok (.iload_n 2, 1) := by decide +kernel
theorem dX7_markOf_42 : decode cX7_markOf 42 = .ok (.iconst 3, 1) := by decide +kernel
theorem dX7_markOf_43 : decode cX7_markOf 43 = .ok (.if_icmp .ne 8, 3) := by decide +kernel
theorem dX7_markOf_46 : decode cX7_markOf 46 = .ok (.bipush 22, 2) := by decide +kernel
theorem dX7_markOf_48 : decode cX7_markOf 48 = .ok (.goto 5, 3) := by decide +kernel
theorem dX7_markOf_51 : decode cX7_markOf 51 = .ok (.bipush 24, 2) := by decide +kernel
theorem dX7_markOf_53 : decode cX7_markOf 53 = .ok (.invokevirtual 293, 3) := by decide +kernel
theorem dX7_markOf_56 : decode cX7_markOf 56 = .ok (.aload_n 0, 1) := by decide +kernel
theorem dX7_markOf_57 : decode cX7_markOf 57 = .ok (.bipush 21, 2) := by decide +kernel
theorem dX7_markOf_59 : decode cX7_markOf 59 = .ok (.invokevirtual 293, 3) := by decide +kernel
theorem dX7_markOf_62 : decode cX7_markOf 62 = .ok (.aload_n 0, 1) := by decide +kernel
theorem dX7_markOf_63 : decode cX7_markOf 63 = .ok (.bipush 20, 2) := by decide +kernel
theorem dX7_markOf_65 : decode cX7_markOf 65 = .ok (.invokevirtual 293, 3) := by decide +kernel
theorem dX7_markOf_68 : decode cX7_markOf 68 = .ok (.iload_n 1, 1) := by decide +kernel
theorem dX7_markOf_69 : decode cX7_markOf 69 = .ok (.aload_n 0, 1) := by decide +kernel
theorem dX7_markOf_70 : decode cX7_markOf 70 = .ok (.getfield 19, 3) := by decide +kernel
theorem dX7_markOf_73 : decode cX7_markOf 73 = .ok (.iload_n 1, 1) := by decide +kernel
theorem dX7_markOf_74 : decode cX7_markOf 74 = .ok (.iconst 3, 1) := by decide +kernel
theorem dX7_markOf_75 : decode cX7_markOf 75 = .ok (.invokestatic 152, 3) := by decide +kernel
theorem dX7_markOf_78 : decode cX7_markOf 78 = .ok (.iadd, 1) := by decide +kernel
theorem dX7_markOf_79 : decode cX7_markOf 79 = .ok (.istore_n 3, 1) := by decide +kernel
theorem dX7_markOf_80 : decode cX7_markOf 80 = .ok (.iload_n 2, 1) := by decide +kernel
theorem dX7_markOf_81 : decode cX7_markOf 81 = .ok (.iconst 1, 1) := by decide +kernel
theorem dX7_markOf_82 : decode cX7_markOf 82 = .ok (.if_icmp .ne 7, 3) := by decide +kernel
theorem dX7_markOf_85 : decode cX7_markOf 85 = .ok (.iload_n 3, 1) := by decide +kernel
theorem dX7_markOf_86 : decode cX7_markOf 86 = .ok (.goto 19, 3) := by decide +kernel
theorem dX7_markOf_89 : decode cX7_markOf 89 = .ok (.iload_n 2, 1) := by decide +kernel
theorem dX7_markOf_90 : decode cX7_markOf 90 = .ok (.iconst 3, 1) := by decide +kernel
theorem dX7_markOf_91 : decode cX7_markOf 91 = .ok (.if_icmp .ne 11, 3) := by decide +kernel
theorem dX7_markOf_94 : decode cX7_markOf 94 = .ok (.iload_n 3, 1) := by decide +kernel
theorem dX7_markOf_95 : decode cX7_markOf 95 = .ok (.sipush 1000, 3) := by decide +kernel
theorem dX7_markOf_98 : decode cX7_markOf 98 = .ok (.isub, 1) := by decide +kernel
theorem dX7_markOf_99 : decode cX7_markOf 99 = .ok (.goto 6, 3) := by decide +kernel
theorem dX7_markOf_102 : decode cX7_markOf 102 = .ok (.iconst 2, 1) := by decide +kernel
theorem dX7_markOf_103 : decode cX7_markOf 103 = .ok (.iload_n 3, 1) := by decide +kernel
theorem dX7_markOf_104 : decode cX7_markOf 104 = .ok (.imul, 1) := by decide +kernel
theorem dX7_markOf_105 : decode cX7_markOf 105 = .ok (.ireturn, 1) := by decide +kernel
theorem dX7_sizeOf_0 : decode cX7_sizeOf 0 = .ok (.aload_n 0, 1) := by decide +kernel
theorem dX7_sizeOf_1 : decode cX7_sizeOf 1 = .ok (.getfield 19, 3) := by decide +kernel
theorem dX7_sizeOf_4 : decode cX7_sizeOf 4 = .ok (.iload_n 1, 1) := by decide +kernel
theorem dX7_sizeOf_5 : decode cX7_sizeOf 5 = .ok (.iconst 0, 1) := by decide +kernel
theorem dX7_sizeOf_6 : decode cX7_sizeOf 6 = .ok (.invokestatic 152, 3) := by decide +kernel
theorem dX7_sizeOf_9 : decode cX7_sizeOf 9 = .ok (.istore_n 2, 1) := by decide +kernel
theorem dX7_sizeOf_10 : decode cX7_sizeOf 10 = .ok (.iload_n 2, 1) := by decide +kernel
theorem dX7_sizeOf_11 : decode cX7_sizeOf 11 = .ok (.iconst 4, 1) := by decide +kernel
theorem dX7_sizeOf_12 : decode cX7_sizeOf 12 = .ok (.if_icmp .lt 9, 3) := by decide +kernel
theorem dX7_sizeOf_15 : decode cX7_sizeOf 15 = .ok (.aload_n 0, 1) := by decide +kernel
theorem dX7_sizeOf_16 : decode cX7_sizeOf 16 = .ok (.iload_n 1, 1) := by decide +kernel
theorem dX7_sizeOf_17 : decode cX7_sizeOf 17 = .ok (.invokevirtual 299, 3) := by decide +kernel
theorem dX7_sizeOf_20 : decode cX7_sizeOf 20 = .ok (.ireturn, 1) := by decide +kernel
theorem dX7_sizeOf_21 : decode cX7_sizeOf 21 = .ok (.iload_n 2, 1) := by decide +kernel
theorem dX7_sizeOf_22 : decode cX7_sizeOf 22 = .ok (.iconst 2, 1) := by decide +kernel
theorem dX7_sizeOf_23 : decode cX7_sizeOf 23 = .ok (.if_icmp .ne 9, 3) := by decide +kernel
theorem dX7_sizeOf_26 : decode cX7_sizeOf 26 = .ok (.aload_n 0, 1) := by decide +kernel
theorem dX7_sizeOf_27 : decode cX7_sizeOf 27 = .ok (.bipush 12, 2) := by decide +kernel
theorem dX7_sizeOf_29 : decode cX7_sizeOf 29 = .ok (.invokevirtual 293, 3) := by decide +kernel
theorem dX7_sizeOf_32 : decode cX7_sizeOf 32 = .ok (.aload_n 0, 1) := by decide +kernel
theorem dX7_sizeOf_33 : decode cX7_sizeOf 33 = .ok (.bipush 11, 2) := by decide +kernel
theorem dX7_sizeOf_35 : decode cX7_sizeOf 35 = .ok (.invokevirtual 293, 3) := by decide +kernel
theorem dX7_sizeOf_38 : decode cX7_sizeOf 38 = .ok (.aload_n 0, 1) := by decide +kernel
theorem dX7_sizeOf_39 : decode cX7_sizeOf 39 = .ok (.iload_n 1, 1) := by decide +kernel
theorem dX7_sizeOf_40 : decode cX7_sizeOf 40 = .ok (.invokevirtual 296, 3) := by decide +kernel
theorem dX7_sizeOf_43 : decode cX7_sizeOf 43 = .ok (.istore_n 3, 1) := by decide +kernel
theorem dX7_sizeOf_44 : decode cX7_sizeOf 44 = .ok (.iload_n 3, 1) := by decide +kernel
theorem dX7_sizeOf_45 : decode cX7_sizeOf 45 = .ok (.aload_n 0, 1) := by decide +kernel
theorem dX7_sizeOf_46 : decode cX7_sizeOf 46 = .ok (.iload_n 1, 1) := by decide +kernel
theorem dX7_sizeOf_47 : decode cX7_sizeOf 47 = .ok (.invokevirtual 302, 3) := by decide +kernel
theorem dX7_sizeOf_50 : decode cX7_sizeOf 50 = .ok (.iadd, 1) := by decide +kernel
theorem dX7_sizeOf_51 : decode cX7_sizeOf 51 = .ok (.istore_n 3, 1) := by decide +kernel
theorem dX7_sizeOf_52 : decode cX7_sizeOf 52 = .ok (.iload_n 2, 1) := by decide +kernel
theorem dX7_sizeOf_53 : decode cX7_sizeOf 53 = .ok (.iconst 2, 1) := by decide +kernel
theorem dX7_sizeOf_54 : decode cX7_sizeOf 54 = .ok (.if_icmp .ne 8, 3) := by decide +kernel
theorem dX7_sizeOf_57 : decode cX7_sizeOf 57 = .ok (.iload_n 3, 1) := by decide +kernel
theorem dX7_sizeOf_58 : decode cX7_sizeOf 58 = .ok (.ineg, 1) := by decide +kernel
theorem dX7_sizeOf_59 : decode cX7_sizeOf 59 = .ok (.goto 4, 3) := by decide +kernel
theorem dX7_sizeOf_62 : decode cX7_sizeOf 62 = .ok (.iload_n 3, 1) := by decide +kernel
theorem dX7_sizeOf_63 : decode cX7_sizeOf 63 = .ok (.ireturn, 1) := by decide +kernel
theorem dX7_ask_0 : decode cX7_ask 0 = .ok (.aload_n 0, 1) := by decide +kernel
theorem dX7_ask_1 : decode cX7_ask 1 = .ok (.iconst 0, 1) := by decide +kernel
theorem dX7_ask_2 : decode cX7_ask 2 = .ok (.putfield 47, 3) := by decide +kernel
theorem dX7_ask_5 : decode cX7_ask 5 = .ok (.aload_n 0, 1) := by decide +kernel
theorem dX7_ask_6 : decode cX7_ask 6 = .ok (.iload_n 1, 1) := by decide +kernel
theorem dX7_ask_7 : decode cX7_ask 7 = .ok (.invokevirtual 212, 3) := by decide +kernel
theorem dX7_ask_10 : decode cX7_ask 10 = .ok (.ifCond .eq 13, 3) := by decide +kernel
theorem dX7_ask_13 : decode cX7_ask 13 = .ok (.iload_n 2, 1) := by decide +kernel
theorem dX7_ask_14 : decode cX7_ask 14 = .ok (.i2l, 1) := by decide +kernel
theorem dX7_ask_15 : decode cX7_ask 15 = .ok (.lconst 0, 1) := by decide +kernel
theorem dX7_ask_16 : decode cX7_ask 16 = .ok (.lconst 1, 1) := by decide +kernel
theorem dX7_ask_17 : decode cX7_ask 17 = .ok (.invokestatic 57, 3) := by decide +kernel
theorem dX7_ask_20 : decode cX7_ask 20 = .ok (.ifCond .ne 6, 3) := by decide +kernel
theorem dX7_ask_23 : decode cX7_ask 23 = .ok (.ldc 67, 2) := by decide +kernel
theorem dX7_ask_25 : decode cX7_ask 25 = .ok (.ireturn, 1) := by decide +kernel
theorem dX7_ask_26 : decode cX7_ask 26 = .ok (.aload_n 0, 1) := by decide +kernel
theorem dX7_ask_27 : decode cX7_ask 27 = .ok (.iconst 0, 1) := by decide +kernel
theorem dX7_ask_28 : decode cX7_ask 28 = .ok (.putfield 290, 3) := by decide +kernel
theorem dX7_ask_31 : decode cX7_ask 31 = .ok (.iload_n 2, 1) := by decide +kernel
theorem dX7_ask_32 : decode cX7_ask 32 = .ok (.ifCond .ne 11, 3) := by decide +kernel
theorem dX7_ask_35 : decode cX7_ask 35 = .ok (.aload_n 0, 1) := by decide +kernel
theorem dX7_ask_36 : decode cX7_ask 36 = .ok (.iload_n 1, 1) := by decide +kernel
theorem dX7_ask_37 : decode cX7_ask 37 = .ok (.invokevirtual 305, 3) := by decide +kernel
theorem dX7_ask_40 : decode cX7_ask 40 = .ok (.goto 8, 3) := by decide +kernel
theorem dX7_ask_43 : decode cX7_ask 43 = .ok (.aload_n 0, 1) := by decide +kernel
theorem dX7_ask_44 : decode cX7_ask 44 = .ok (.iload_n 1, 1) := by decide +kernel
theorem dX7_ask_45 : decode cX7_ask 45 = .ok (.invokevirtual 302, 3) := by decide +kernel
theorem dX7_ask_48 : decode cX7_ask 48 = .ok (.ireturn, 1) := by decide +kernel
theorem dX7_trace_0 : decode cX7_trace 0 = .ok (.aload_n 0, 1) := by decide +kernel
theorem dX7_trace_1 : decode cX7_trace 1 = .ok (.iconst 0, 1) := by decide +kernel
theorem dX7_trace_2 : decode cX7_trace 2 = .ok (.putfield 47, 3) := by decide +kernel
theorem dX7_trace_5 : decode cX7_trace 5 = .ok (.iload_n 1, 1) := by decide +kernel
theorem dX7_trace_6 : decode cX7_trace 6 = .ok (.i2l, 1) := by decide +kernel
theorem dX7_trace_7 : decode cX7_trace 7 = .ok (.lconst 0, 1) := by decide +kernel
theorem dX7_trace_8 : decode cX7_trace 8 = .ok (.aload_n 0, 1) := by decide +kernel
theorem dX7_trace_9 : decode cX7_trace 9 = .ok (.getfield 290, 3) := by decide +kernel
theorem dX7_trace_12 : decode cX7_trace 12 = .ok (.iconst 1, 1) := by decide +kernel
theorem dX7_trace_13 : decode cX7_trace 13 = .ok (.isub, 1) := by decide +kernel
theorem dX7_trace_14 : decode cX7_trace 14 = .ok (.i2l, 1) := by decide +kernel
theorem dX7_trace_15 : decode cX7_trace 15 = .ok (.invokestatic 57, 3) := by decide +kernel
theorem dX7_trace_18 : decode cX7_trace 18 = .ok (.ifCond .eq 12, 3) := by decide +kernel
theorem dX7_trace_21 : decode cX7_trace 21 = .ok (.aload_n 0, 1) := by decide +kernel
theorem dX7_trace_22 : decode cX7_trace 22 = .ok (.getfield 44, 3) := by decide +kernel
theorem dX7_trace_25 : decode cX7_trace 25 = .ok (.iload_n 1, 1) := by decide +kernel
theorem dX7_trace_26 : decode cX7_trace 26 = .ok (.iaload, 1) := by decide +kernel
theorem dX7_trace_27 : decode cX7_trace 27 = .ok (.goto 5, 3) := by decide +kernel
theorem dX7_trace_30 : decode cX7_trace 30 = .ok (.ldc 90, 2) := by decide +kernel
theorem dX7_trace_32 : decode cX7_trace 32 = .ok (.ireturn, 1) := by decide +kernel
theorem dX7_count_0 : decode cX7_count 0 = .ok (.aload_n 0, 1) := by decide +kernel
theorem dX7_count_1 : decode cX7_count 1 = .ok (.iconst 0, 1) := by decide +kernel
theorem dX7_count_2 : decode cX7_count 2 = .ok (.putfield 47, 3) := by decide +kernel
theorem dX7_count_5 : decode cX7_count 5 = .ok (.iconst 0, 1) := by decide +kernel
theorem dX7_count_6 : decode cX7_count 6 = .ok (.istore_n 2, 1) := by decide +kernel
theorem dX7_count_7 : decode cX7_count 7 = .ok (.iload_n 1, 1) := by decide +kernel
theorem dX7_count_8 : decode cX7_count 8 = .ok (.tableswitch 135 0 7 #[48, 81, 88, 95, 103, 114, 125, 130], 48) := by decide +kernel
theorem dX7_count_56 : decode cX7_count 56 = .ok (.iconst 0, 1) := by decide +kernel
theorem dX7_count_57 : decode cX7_count 57 = .ok (.istore_n 3, 1) := by decide +kernel
theorem dX7_count_58 : decode cX7_count 58 = .ok (.iload_n 3, 1) := by decide +kernel
theorem dX7_count_59 : decode cX7_count 59 = .ok (.bipush 8, 2) := by decide +kernel
theorem dX7_count_61 : decode cX7_count 61 = .ok (.if_icmp .ge 26, 3) := by decide +kernel
theorem dX7_count_64 : decode cX7_count 64 = .ok (.iload_n 2, 1) := by decide +kernel
theorem dX7_count_65 : decode cX7_count 65 = .ok (.aload_n 0, 1) := by decide +kernel
theorem dX7_count_66 : decode cX7_count 66 = .ok (.getfield 7, 3) := by decide +kernel
theorem dX7_count_69 : decode cX7_count 69 = .ok (.iload_n 3, 1) := by decide +kernel
theorem dX7_count_70 : decode cX7_count 70 = .ok (.iaload, 1) := by decide +kernel
theorem dX7_count_71 : decode cX7_count 71 = .ok (.ifCond .lt 7, 3) := by decide +kernel
theorem dX7_count_74 : decode cX7_count 74 = .ok (.iconst 1, 1) := by decide +kernel
theorem dX7_count_75 : decode cX7_count 75 = .ok (.goto 4, 3) := by decide +kernel
theorem dX7_count_78 : decode cX7_count 78 = .ok (.iconst 0, 1) := by decide +kernel
theorem dX7_count_79 : decode cX7_count 79 = .ok (.iadd, 1) := by decide +kernel
theorem dX7_count_80 : decode cX7_count 80 = .ok (.istore_n 2, 1) := by decide +kernel
theorem dX7_count_81 : decode cX7_count 81 = .ok (.iinc 3 1, 3) := by decide +kernel
theorem dX7_count_84 : decode cX7_count 84 = .ok (.goto (-26), 3) := by decide +kernel
theorem dX7_count_87 : decode cX7_count 87 = .ok (.iload_n 2, 1) := by decide +kernel
theorem dX7_count_88 : decode cX7_count 88 = .ok (.ireturn, 1) := by decide +kernel
theorem dX7_count_89 : decode cX7_count 89 = .ok (.aload_n 0, 1) := by decide +kernel
theorem dX7_count_90 : decode cX7_count 90 = .ok (.getfield 19, 3) := by decide +kernel
theorem dX7_count_93 : decode cX7_count 93 = .ok (.iconst 0, 1) := by decide +kernel
theorem dX7_count_94 : decode cX7_count 94 = .ok (.iaload, 1) := by decide +kernel
theorem dX7_count_95 : decode cX7_count 95 = .ok (.ireturn, 1) := by decide +kernel
theorem dX7_count_96 : decode cX7_count 96 = .ok (.aload_n 0, 1) := by decide +kernel
theorem dX7_count_97 : decode cX7_count 97 = .ok (.getfield 19, 3) := by decide +kernel
theorem dX7_count_100 : decode cX7_count 100 = .ok (.iconst 1, 1) := by decide +kernel
theorem dX7_count_101 : decode cX7_count 101 = .ok (.iaload, 1) := by decide +kernel
theorem dX7_count_102 : decode cX7_count 102 = .ok (.ireturn, 1) := by decide +kernel
theorem dX7_count_103 : decode cX7_count 103 = .ok (.aload_n 0, 1) := by decide +kernel
theorem dX7_count_104 : decode cX7_count 104 = .ok (.getfield 19, 3) := by decide +kernel
theorem dX7_count_107 : decode cX7_count 107 = .ok (.bipush 6, 2) := by decide +kernel
theorem dX7_count_109 : decode cX7_count 109 = .ok (.iaload, 1) := by decide +kernel
theorem dX7_count_110 : decode cX7_count 110 = .ok (.ireturn, 1) := by decide +kernel
theorem dX7_count_111 : decode cX7_count 111 = .ok (.aload_n 0, 1) := by decide +kernel
theorem dX7_count_112 : decode cX7_count 112 = .ok (.getfield 19, 3) := by decide +kernel
theorem dX7_count_115 : decode cX7_count 115 = .ok (.invokestatic 196, 3) := by decide +kernel
theorem dX7_count_118 : decode cX7_count 118 = .ok (.invokestatic 199, 3) := by decide +kernel
theorem dX7_count_121 : decode cX7_count 121 = .ok (.ireturn, 1) := by decide +kernel
theorem dX7_count_122 : decode cX7_count 122 = .ok (.aload_n 0, 1) := by decide +kernel
theorem dX7_count_123 : decode cX7_count 123 = .ok (.getfield 19, 3) := by decide +kernel
theorem dX7_count_126 : decode cX7_count 126 = .ok (.invokestatic 220, 3) := by decide +kernel
theorem dX7_count_129 : decode cX7_count 129 = .ok (.invokestatic 199, 3) := by decide +kernel
theorem dX7_count_132 : decode cX7_count 132 = .ok (.ireturn, 1) := by decide +kernel
theorem dX7_count_133 : decode cX7_count 133 = .ok (.aload_n 0, 1) := by decide +kernel
theorem dX7_count_134 : decode cX7_count 134 = .ok (.getfield 149, 3) := by decide +kernel
theorem dX7_count_137 : decode cX7_count 137 = .ok (.ireturn, 1) := by decide +kernel
theorem dX7_count_138 : decode cX7_count 138 = .ok (.aload_n 0, 1) := by decide +kernel
theorem dX7_count_139 : decode cX7_count 139 = .ok (.getfield 74, 3) := by decide +kernel
theorem dX7_count_142 : decode cX7_count 142 = .ok (.ireturn, 1) := by decide +kernel
theorem dX7_count_143 : decode cX7_count 143 = .ok (.ldc 67, 2) := by decide +kernel
theorem dX7_count_145 : decode cX7_count 145 = .ok (.ireturn, 1) := by decide +kernel
theorem dX7_status_0 : decode cX7_status 0 = .ok (.aload_n 0, 1) := by decide +kernel
theorem dX7_status_1 : decode cX7_status 1 = .ok (.iconst 0, 1) := by decide +kernel
theorem dX7_status_2 : decode cX7_status 2 = .ok (.putfield 47, 3) := by decide +kernel
theorem dX7_status_5 : decode cX7_status 5 = .ok (.aload_n 0, 1) := by decide +kernel
theorem dX7_status_6 : decode cX7_status 6 = .ok (.getfield 51, 3) := by decide +kernel
theorem dX7_status_9 : decode cX7_status 9 = .ok (.ireturn, 1) := by decide +kernel
end
section
/-! ===== the world: ids 0 .. 245 the class's cells, 246 .. 258 the reference's; 260, 261 the two static rows ===== -/
def GG : List Cond := lw_tbl.filter goodWord
theorem gg_in {w : Cond} (h : w ∈ lw_tbl) (hg : goodWord w = true) : w ∈ GG := List.mem_filter.mpr ⟨h, hg⟩
theorem gg_good {ws : List Cond} (h : ∀ w ∈ ws, w ∈ GG) : GoodIn GG ws := fun w hw => ⟨h w hw, good_of_word (List.mem_filter.mp (h w hw)).2⟩
abbrev wsy (y : MethodName) (c : ByteArray) (n : Nat) (r : Option FieldType) : List Cond := .code y c n r :: GG
abbrev Hp : Type := Nat → Nat → Int32
def up2 (h : Hp) (i k : Nat) (v : Int32) : Hp := va_up h i (upd (h i) k v)
abbrev Gx : Type := va_G × (Nat → ClassId) × (Nat → Nat)
def tysG (g : Gx) : List (ClassId × FieldType) := [(g.2.1 0, .int), (g.2.1 1, .boolean), (g.2.1 2, .object RX2), (g.2.1 3, .object RX5), (g.2.1 4, .array .int)]
def isIA (i : Nat) : Bool := if i < 203 then i % 7 != 0 else if i < 230 then (i == 206 || (decide (212 ≤ i) && decide (i ≤ 217)) || (decide (219 ≤ i) && decide (i ≤ 227)) || i == 229) else if i < 246 then i % 2 == 1 else false
def lenC (i : Nat) : Nat := if i < 203 then 6 else if i = 206 then 120 else if i < 227 then 16 else if i = 227 then 12 else if i = 229 then 16 else 40
def fE (g : Gx) (h : Hp) (i : Nat) : List Value := [.ref (g.2.2 (i + 1)), .ref (g.2.2 (i + 2)), .ref (g.2.2 (i + 3)), .ref (g.2.2 (i + 4)), .ref (g.2.2 (i + 5)), .ref (g.2.2 (i + 6)), .int (h i 6), .int (h i 7), .int (h i 8), .int (h i 9), .int (h i 10), .int (h i 11), .int (h i 12), .int (h i 13), .int (h i 14), .int (h i 15)]
def fF (g : Gx) (h : Hp) : List Value := [.ref (g.2.2 204), .ref (g.2.2 205), .ref (g.2.2 0), .ref (g.2.2 207), .ref (g.2.2 209), .ref (g.2.2 210), .ref (g.2.2 228), .int (h 203 7), .int (h 203 8)]
def fRd (g : Gx) (h : Hp) : List Value := [.ref (g.2.2 7), .int (h 205 1), .int (h 205 2), .int (h 205 3), .ref (g.2.2 206), .int (h 205 5), .int (h 205 6), .int (h 205 7)]
def fAc (g : Gx) (h : Hp) : List Value := [.ref (g.2.2 208), .int (h 207 1), .int (h 207 2)]
def fFo (g : Gx) (h : Hp) : List Value := [.ref (g.2.2 14), .ref (g.2.2 211), .ref (g.2.2 218), .ref (g.2.2 226), .ref (g.2.2 227), .int (h 210 5)]
def fAs (g : Gx) (h : Hp) : List Value := [.ref (g.2.2 229), .int (h 228 1)]
def fRw (g : Gx) (h : Hp) (i : Nat) : List Value := [.ref (g.2.2 (i + 1)), .int (h i 1), .int (h i 2), .int (h i 3)]
def rfA (c : ClassId) (n : Nat) (f : Nat → Nat) : va_E := .inl (c, n, .inr (.inr (.inr (.inr (fun j => some (f j))))))
def oC (g : Gx) (h : Hp) (i : Nat) : va_E :=
  if i < 203 then .inr (2, fE g h i)
  else if i = 203 then .inr (6, fF g h)
  else if i = 204 then rfA (g.2.1 3) 8 (fun j => g.2.2 (230 + 2 * j))
  else if i = 205 then .inr (4, fRd g h)
  else if i = 207 then .inr (0, fAc g h)
  else if i = 208 then rfA (g.2.1 2) 24 (fun j => g.2.2 (35 + 7 * j))
  else if i = 209 then rfA (g.2.1 2) 2 (fun j => g.2.2 (21 + 7 * j))
  else if i = 210 then .inr (3, fFo g h)
  else if i = 211 then rfA (g.2.1 4) 6 (fun j => g.2.2 (212 + j))
  else if i = 218 then rfA (g.2.1 4) 7 (fun j => g.2.2 (219 + j))
  else if i = 228 then .inr (1, fAs g h)
  else .inr (5, fRw g h i)
def lenM (i : Nat) : Nat := if i = 247 then 8 else if i = 248 then 8 else if i = 249 then 320 else if i < 253 then 50 else if i = 253 then 1200 else if i = 254 then 120 else if i = 255 then 96 else if i = 257 then 100 else 16
def isMA (i : Nat) : Bool := decide (247 ≤ i) && (decide (i ≤ 255) || i == 257 || i == 258)
def fM (g : Gx) (k : Hp) : List Value := [.int (k 246 0), .int (k 246 1), .ref (g.2.2 247), .ref (g.2.2 248), .ref (g.2.2 249), .ref (g.2.2 250), .ref (g.2.2 251), .ref (g.2.2 252), .ref (g.2.2 253), .int (k 246 9), .ref (g.2.2 254), .int (k 246 11), .int (k 246 12), .int (k 246 13), .int (k 246 14), .int (k 246 15), .int (k 246 16), .int (k 246 17), .int (k 246 18), .ref (g.2.2 255), .ref (g.2.2 256), .ref (g.2.2 257), .ref (g.2.2 258), .int (k 246 23)]
def cM (g : Gx) (k : Hp) (i : Nat) : va_E := if i = 246 then .inr (7, fM g k) else if i = 256 then .inl (g.2.1 1, 2, .inl (k 256)) else .inl (g.2.1 0, lenM i, .inl (k i))
def cW (g : Gx) (h k : Hp) (i : Nat) : va_E := if i < 246 then (if isIA i = true then .inl (g.2.1 0, lenC i, .inl (h i)) else oC g h i) else cM g k i
def WW (g : Gx) (h k : Hp) : va_W := (List.range 259).map (fun i => (g.2.2 i, cW g h k i))
def inA (g : Gx) : Nat → Prop := fun q => ∃ i, i < 259 ∧ q = g.2.2 i
def InjG (g : Gx) : Prop := ∀ i j, i < 259 → j < 259 → g.2.2 i = g.2.2 j → i = j
theorem WW_get {g : Gx} {h k : Hp} {i : Nat} (hi : i < 259) {e : va_E} (he : cW g h k i = e) : (WW g h k)[i]? = some (g.2.2 i, e) := by
  subst he
  simp [WW, hi]
theorem WW_D {g : Gx} {h k : Hp} (hI : InjG g) : va_D (inA g) (WW g h k) := by
  have key : ∀ (i : Nat) (q : Nat × va_E), (WW g h k)[i]? = some q → i < 259 ∧ q.1 = g.2.2 i := by
    intro i q hq
    simp only [WW, List.getElem?_map, Option.map_eq_some_iff] at hq
    obtain ⟨a, ha, rfl⟩ := hq
    obtain ⟨h1, h2⟩ := List.getElem?_eq_some_iff.mp ha
    simp at h1 h2
    subst h2
    exact ⟨h1, rfl⟩
  refine ⟨fun i j p q hi hj hpq => ?_, fun i q hq => ?_⟩
  · obtain ⟨a1, a2⟩ := key i p hi
    obtain ⟨b1, b2⟩ := key j q hj
    exact hI i j a1 b1 (by rw [← a2, ← b2, hpq])
  · obtain ⟨a1, a2⟩ := key i q hq
    exact ⟨i, a1, a2⟩
theorem WW_set {g : Gx} {h k h1 k1 : Hp} {i : Nat} (hi : i < 259) {e : va_E} (he : cW g h1 k1 i = e) (ho : ∀ b, b ≠ i → cW g h1 k1 b = cW g h k b) : (WW g h k).set i (g.2.2 i, e) = WW g h1 k1 := by
  apply List.ext_getElem?
  intro b
  by_cases hb : b = i
  · subst hb
    rw [List.getElem?_set_self (by simp [WW]; exact hi), WW_get hi he]
  · rw [List.getElem?_set_ne (Ne.symm hb)]
    simp only [WW, List.getElem?_map]
    by_cases hl : b < 259
    · simp [hl, ho b hb]
    · simp [hl]
theorem cW_h {g : Gx} {h h1 k : Hp} {b : Nat} (hb : h1 b = h b) : cW g h1 k b = cW g h k b := by
  unfold cW
  split
  · rw [hb]
    split
    · rfl
    · unfold oC
      by_cases e0 : b < 203
      · simp only [if_pos e0, fE, hb]
      · by_cases e1 : b = 203
        · subst e1; simp [fF, hb]
        · by_cases e2 : b = 205
          · subst e2; simp [fRd, hb]
          · by_cases e3 : b = 207
            · subst e3; simp [fAc, hb]
            · by_cases e4 : b = 210
              · subst e4; simp [fFo, hb]
              · by_cases e5 : b = 228
                · subst e5; simp [fAs, hb]
                · simp only [if_neg e0, if_neg e1, if_neg e2, if_neg e3, if_neg e4, if_neg e5, fRw, hb]
  · rfl
theorem cW_k {g : Gx} {h k k1 : Hp} {b : Nat} (hb : k1 b = k b) : cW g h k1 b = cW g h k b := by
  unfold cW
  split
  · rfl
  · unfold cM
    (repeat' split) <;> first | rfl | (subst_vars; simp only [fM, hb]) | rw [hb]
theorem up2_ne {h : Hp} {i j b : Nat} {v : Int32} (hb : b ≠ i) : up2 h i j v b = h b := va_up_ne _ _ hb
theorem up2_self {h : Hp} {i j : Nat} {v : Int32} : up2 h i j v i = upd (h i) j v := by simp [up2, va_up]
theorem up2_at {h : Hp} {i j a b : Nat} {v : Int32} : up2 h i j v a b = if a = i ∧ b = j then v else h a b := by
  unfold up2 va_up upd
  by_cases ha : a = i
  · subst ha; by_cases hb : b = j <;> simp [hb]
  · simp [ha]
def isE (e : Nat) : Prop := e % 7 = 0 ∧ e < 203
def isR (r : Nat) : Prop := r % 2 = 0 ∧ 230 ≤ r ∧ r < 246
theorem cl_E {g : Gx} {h k : Hp} {e : Nat} (he : isE e) : cW g h k e = .inr (2, fE g h e) := by
  obtain ⟨h1, h2⟩ := he
  have h3 : e < 246 := by omega
  simp [cW, isIA, oC, h1, h2, h3]
theorem cl_R {g : Gx} {h k : Hp} {r : Nat} (hr : isR r) : cW g h k r = .inr (5, fRw g h r) := by
  obtain ⟨h1, h2, h3⟩ := hr
  have a1 : ¬ r < 203 := by omega
  have a2 : ¬ r < 230 := by omega
  have b1 : r ≠ 203 := by omega
  have b2 : r ≠ 204 := by omega
  have b3 : r ≠ 205 := by omega
  have b4 : r ≠ 207 := by omega
  have b5 : r ≠ 208 := by omega
  have b6 : r ≠ 209 := by omega
  have b7 : r ≠ 210 := by omega
  have b8 : r ≠ 211 := by omega
  have b9 : r ≠ 218 := by omega
  have b10 : r ≠ 228 := by omega
  simp [cW, isIA, oC, a1, a2, b1, b2, b3, b4, b5, b6, b7, b8, b9, b10, h1, h3]
theorem cl_F {g : Gx} {h k : Hp} : cW g h k 203 = .inr (6, fF g h) := rfl
theorem cl_Rd {g : Gx} {h k : Hp} : cW g h k 205 = .inr (4, fRd g h) := rfl
theorem cl_Ac {g : Gx} {h k : Hp} : cW g h k 207 = .inr (0, fAc g h) := rfl
theorem cl_Fo {g : Gx} {h k : Hp} : cW g h k 210 = .inr (3, fFo g h) := rfl
theorem cl_As {g : Gx} {h k : Hp} : cW g h k 228 = .inr (1, fAs g h) := rfl
theorem cl_M {g : Gx} {h k : Hp} : cW g h k 246 = .inr (7, fM g k) := rfl
theorem isIA_lt {i : Nat} (h : isIA i = true) : i < 246 := by
  unfold isIA at h
  split at h
  · omega
  · split at h
    · omega
    · split at h
      · omega
      · cases h
theorem cl_IA {g : Gx} {h k : Hp} {i : Nat} (hi : isIA i = true) : cW g h k i = .inl (g.2.1 0, lenC i, .inl (h i)) := by
  have := isIA_lt hi
  simp [cW, this, hi]
theorem isMA_ge {i : Nat} (h : isMA i = true) : 247 ≤ i ∧ i < 259 ∧ i ≠ 256 := by
  unfold isMA at h
  simp only [Bool.and_eq_true, decide_eq_true_eq, Bool.or_eq_true, beq_iff_eq] at h
  omega
theorem cl_MA {g : Gx} {h k : Hp} {i : Nat} (hi : isMA i = true) : cW g h k i = .inl (g.2.1 0, lenM i, .inl (k i)) := by
  obtain ⟨h1, h2, h3⟩ := isMA_ge hi
  have a1 : ¬ i < 246 := by omega
  have a2 : i ≠ 246 := by omega
  simp [cW, cM, a1, a2, h3]
theorem cl_Z {g : Gx} {h k : Hp} : cW g h k 256 = .inl (g.2.1 1, 2, .inl (k 256)) := rfl
/-! what is static: of the tables, of the two rows of Asks -/
def sizeB (j : Nat) : Int32 := match j with | 0 => 10 | 1 => 11 | 2 => 12 | 3 => 0 | 4 => 13 | _ => 14
def markB (j : Nat) : Int32 := match j with | 0 => 20 | 1 => 21 | 2 => 24 | 3 => 22 | 4 => 23 | _ => 0
def SK (g : Gx) (U : State) : Prop := va_K g.1 vwCl (tysG g) U ∧ va_Nw (.methodLinkNest RX4 103 yX6_isWithin RX6) U ∧ va_Nw (.methodLinkNest RX1 40 yX6_widerKind RX6) U
def SH (g : Gx) (U : State) (H : Heap) : Prop := (va_Z "FogSheets$Asks" "SIZE_BODIES" "[I" (.ref (g.2.2 260)) (inA g) U H ∧ va_T .int (g.2.2 260) 6 (fun j => .int (sizeB j)) (inA g) U H) ∧ va_Z "FogSheets$Asks" "MARK_BODIES" "[I" (.ref (g.2.2 261)) (inA g) U H ∧ va_T .int (g.2.2 261) 6 (fun j => .int (markB j)) (inA g) U H
theorem SK.warm {g : Gx} {s U : State} (hW : s.WarmedH U.vm) (h : SK g s) : SK g U := ⟨va_K.moved hW.alike h.1, va_Nw.warmM hW h.2.1, va_Nw.warmM hW h.2.2⟩
theorem SK.calling {g : Gx} {U : State} {f : JFrame} {mk : MethodId} {a : Array Value} (h : SK g U) : SK g (U.calling f mk a) := ⟨va_K.moved (u := U) (U := U.calling f mk a) (Vm.Alike.refl U.vm) h.1, va_Nw.same rfl rfl h.2.1, va_Nw.same rfl rfl h.2.2⟩
theorem SH.moved {g : Gx} {u U : State} {H : Heap} (hvm : u.vm.Alike U.vm) (h : SH g u H) : SH g U H := ⟨⟨h.1.1.moved hvm, h.1.2.moved hvm⟩, h.2.1.moved hvm, h.2.2.moved hvm⟩
theorem SH.kept {g : Gx} {U : State} {H H1 : Heap} (h : SH g U H) (hq : ∀ a : Nat, a < H.size → ¬ inA g a → H1[a]? = H[a]?) : SH g U H1 := ⟨⟨h.1.1.kept hq, h.1.2.kept hq⟩, h.2.1.kept hq, h.2.2.kept hq⟩
def PreW (g : Gx) (h k : Hp) (U : State) : Prop := SK g U ∧ SH g U U.heap ∧ va_P g.1 vwCl (WW g h k) U.heap
theorem PreW.blind {g : Gx} {h k : Hp} {As : List Value} : FrameBlind (va_Pc As (PreW g h k)) := fun a U f mk q => ⟨q.1, q.2.1.calling, SH.moved (u := U) (U := U.calling f mk a) (Vm.Alike.refl U.vm) q.2.2.1, q.2.2.2⟩
abbrev rmD (d : Nat) : Room := { frames := d + 1, cells := 0, slots := 0, locals := 42 * (d + 1) }
abbrev QI (g : Gx) (h k : Hp) (x : Int32) : Array Value → State → Outcome → State → Prop := va_Qi (fun z (_ : Unit) => z = x) (fun _ t => va_P g.1 vwCl (WW g h k) t.heap) (inA g)
abbrev QL (g : Gx) (h k : Hp) (x : Int64) : Array Value → State → Outcome → State → Prop := va_Ql (fun z (_ : Unit) => z = x) (fun _ t => va_P g.1 vwCl (WW g h k) t.heap) (inA g)
abbrev QV (g : Gx) (h k : Hp) : Array Value → State → Outcome → State → Prop := va_Qv (fun _ : Unit => True) (fun _ t => va_P g.1 vwCl (WW g h k) t.heap) (inA g)
abbrev QR (g : Gx) (h k : Hp) (i : Nat) : Array Value → State → Outcome → State → Prop := va_Qr (fun _ : Unit => True) (fun _ a t => a = g.2.2 i ∧ va_P g.1 vwCl (WW g h k) t.heap) (inA g)
abbrev CI (l : Launch) (y : MethodName) (c : ByteArray) (n : Nat) (r : Option FieldType) (d : Nat) (g : Gx) (As : List Value) (h k h1 k1 : Hp) (x : Int32) : Prop := Met l y (wsy y c n r) (rmD d) (va_Pc As (PreW g h k)) (QI g h1 k1 x) 0 0 (inA g)
abbrev CL (l : Launch) (y : MethodName) (c : ByteArray) (n : Nat) (r : Option FieldType) (d : Nat) (g : Gx) (As : List Value) (h k h1 k1 : Hp) (x : Int64) : Prop := Met l y (wsy y c n r) (rmD d) (va_Pc As (PreW g h k)) (QL g h1 k1 x) 0 0 (inA g)
abbrev CV (l : Launch) (y : MethodName) (c : ByteArray) (n : Nat) (r : Option FieldType) (d : Nat) (g : Gx) (As : List Value) (h k h1 k1 : Hp) : Prop := Met l y (wsy y c n r) (rmD d) (va_Pc As (PreW g h k)) (QV g h1 k1) 0 0 (inA g)
abbrev CR (l : Launch) (y : MethodName) (c : ByteArray) (n : Nat) (r : Option FieldType) (d : Nat) (g : Gx) (As : List Value) (h k h1 k1 : Hp) (i : Nat) : Prop := Met l y (wsy y c n r) (rmD d) (va_Pc As (PreW g h k)) (QR g h1 k1 i) 0 0 (inA g)
/-- where a walk stands: the machine, the code, its class, the words, what is static -/
def Cx (p : Program) (s : State) (m : MethodId) (args : Array Value) (c : Code) (cc : ByteArray) (nL : Nat) (own : String) (g : Gx) : Prop :=
  p.tables.exec = Jvm.exec ∧ c.code = cc ∧ c.maxLocals = nL ∧ s.vm.findClass own = some m.cls ∧ (∀ w ∈ GG, w.before args s = true) ∧ SK g s ∧ InjG g ∧ SH g s s.heap
/-- a call's words -/
def MB (own : String) (index : Nat) (y : MethodName) (bytes : ByteArray) (maxL : Nat) (ret : Option FieldType) (n : Nat) : Prop :=
  Cond.code y bytes maxL ret ∈ GG ∧ Cond.initialized y.cls ∈ GG ∧ Cond.methodLink own index y ∈ GG ∧ (y.cls ≠ "java/lang/invoke/MethodHandle" ∧ y.cls ≠ "java/lang/invoke/VarHandle" ∧ (parseMethodDescriptor y.desc).map (fun d => d.parameters.length) = some n)
def MV (own C : String) (index : Nat) (y : MethodName) (bytes : ByteArray) (maxL : Nat) (ret : Option FieldType) (n : Nat) : Prop := MB own index y bytes maxL ret n ∧ Cond.instanceMethod y ∈ GG ∧ Cond.selects C y y ∈ GG
def MS (own : String) (index : Nat) (y : MethodName) (bytes : ByteArray) (maxL : Nat) (ret : Option FieldType) (n : Nat) : Prop := MB own index y bytes maxL ret n ∧ Cond.static y ∈ GG
/-- a nest mate's static method: its link stands in SK -/
def MN (y : MethodName) (bytes : ByteArray) (maxL : Nat) (ret : Option FieldType) (n : Nat) : Prop :=
  Cond.code y bytes maxL ret ∈ GG ∧ Cond.initialized y.cls ∈ GG ∧ Cond.static y ∈ GG ∧ (y.cls ≠ "java/lang/invoke/MethodHandle" ∧ y.cls ≠ "java/lang/invoke/VarHandle" ∧ (parseMethodDescriptor y.desc).map (fun d => d.parameters.length) = some n)
/-! the pure functions' joints -/
def chk {α : Type} (b : Bool) (o : Option α) : Option α := match b with | true => o | false => none
theorem chk_some {α : Type} {b : Bool} {o : Option α} {x : α} (h : chk b o = some x) : b = true ∧ o = some x := by
  cases b with
  | true => exact ⟨rfl, h⟩
  | false => cases h
theorem chk_t {α : Type} {o : Option α} : chk true o = o := rfl
def lk {α β : Type} (v : α) (k : α → β) : β := k v
theorem lk_at {α β : Type} {v x : α} {k : α → Option β} {r : β} (e : x = v) (h : lk v k = some r) : k x = some r := by subst e; exact h
theorem lk_e {α β : Type} {v : α} {k : α → β} : lk v k = k v := rfl
def bd {ρ α : Type} (a : Option (ρ × Hp)) (k : ρ → Hp → Option α) : Option α := match a with | some q => k q.1 q.2 | none => none
theorem bd_some {ρ α : Type} {a : Option (ρ × Hp)} {k : ρ → Hp → Option α} {x : α} (h : bd a k = some x) : ∃ (r : ρ) (h1 : Hp), a = some (r, h1) ∧ k r h1 = some x := by
  cases a with
  | none => cases h
  | some q => exact ⟨q.1, q.2, rfl, h⟩
theorem bd_e {ρ α : Type} {r : ρ} {h : Hp} {k : ρ → Hp → Option α} : bd (some (r, h)) k = k r h := rfl
def inb (i : Int32) (n : Nat) : Bool := decide (0 ≤ i.toInt) && decide (i.toInt < n)
theorem inb_in {i : Int32} {n : Nat} (h : inb i n = true) : vp_in i n := by
  simp only [inb, Bool.and_eq_true, decide_eq_true_eq] at h
  exact vp_in_iff.mpr h
def nz (i : Int32) : Bool := !decide (i = 0)
theorem nz_in {i : Int32} (h : nz i = true) : ¬ i = 0 := by simpa [nz] using h
def nzL (i : Int64) : Bool := !decide (i = 0)
theorem nzL_in {i : Int64} (h : nzL i = true) : ¬ i = 0 := by simpa [nzL] using h
def isB (v : Int32) : Bool := decide (v = 0) || decide (v = 1)
theorem isB_n {v : Int32} (h : isB v = true) : narrow .boolean (.int v) = .int v ∧ fits .boolean (.int v) = true := by
  simp only [isB, Bool.or_eq_true, decide_eq_true_eq] at h
  rcases h with rfl | rfl <;> exact ⟨rfl, rfl⟩
theorem ret_inj {ρ : Type} {a b : ρ} {h h1 : Hp} (e : some (a, h) = some (b, h1)) : a = b ∧ h = h1 := by
  have := Option.some.inj e
  exact ⟨congrArg Prod.fst this, congrArg Prod.snd this⟩
theorem if_at_t {α : Type} {c : Prop} [Decidable c] {a b : Option α} {x : α} (hc : c) (h : (if c then a else b) = some x) : a = some x := by rw [if_pos hc] at h; exact h
theorem if_at_f {α : Type} {c : Prop} [Decidable c] {a b : Option α} {x : α} (hc : ¬ c) (h : (if c then a else b) = some x) : b = some x := by rw [if_neg hc] at h; exact h
section XW
variable {p : Program} {l : Launch} {e : Env} {R : Room} {s : State} {m : MethodId} {args : Array Value} {below : List Frame} {meth : Method} {c : Code} {H : Heap} {locs : List Loc} {cells slots : Nat} {Q : State → Prop}
variable {cc : ByteArray} {nL pc : Nat} {own : String} {g : Gx} {ls : Array Slot} {rest : List Value} {h k : Hp}
theorem x_get (X : Cx p s m args c cc nL own g) (hP : va_P g.1 vwCl (WW g h k) H) {ci N : Nat} {C : String} {T : u_T} (hcl : vwCl[ci]? = some (C, T, N)) (hin : ∀ w ∈ u_ws C T N, w ∈ GG) (i : Nat) (hi : i < 259) {fs : List Value} (hc : cW g h k i = .inr (ci, fs)) (j : Nat) (hj : j < N) {index : Nat} (hd : (T j).1 = C) (hl : Cond.fieldLink own index C (T j).2.1 (T j).2.2.1 ∈ GG) {v : Value} (hv : fs[j]? = some v) (hdg : decode cc pc = .ok (.getfield index, 3))
    (kk : W p l e R s m args below meth c H locs cells slots Q (F0 m (pc + 3) ls (v :: rest))) : W p l e R s m args below meth c H locs cells slots Q (F0 m pc ls (.ref (g.2.2 i) :: rest)) :=
  va_get X.1 X.2.1 X.2.2.2.2.1 hin X.2.2.2.1 X.2.2.2.2.2.1.1 hP i (WW_get hi hc) hcl j hj (X.2.2.2.2.1 _ hl) (by rw [hd]; exact fun _ h => h) hv hdg kk
theorem x_put (X : Cx p s m args c cc nL own g) (hP : va_P g.1 vwCl (WW g h k) H) (hS : va_S (inA g) s.heap H locs) {ci N : Nat} {C : String} {T : u_T} {ty0 : Nat → FieldType} (hcl : vwCl[ci]? = some (C, T, N)) (hin : ∀ w ∈ u_ws C T N, w ∈ GG) (hty : ∀ k, k < N → parseFieldDescriptor (T k).2.2.1 = some (ty0 k)) (hnm : ∀ a, a < N → ∀ b, b < N → a ≠ b → (T a).2.1 ≠ (T b).2.1) (i : Nat) (hi : i < 259) {fs : List Value} (hc : cW g h k i = .inr (ci, fs)) (j : Nat) (hj : j < N) {index : Nat} (hd : (T j).1 = C) (hl : Cond.fieldLink own index C (T j).2.1 (T j).2.2.1 ∈ GG) (hfin : (T j).2.2.2 = false) {ty : FieldType} {v : Value} (hpd : parseFieldDescriptor (T j).2.2.1 = some ty) (hn : narrow ty v = v) (hfit : fits ty v = true) (hlen : j < fs.length) {h1 k1 : Hp} (he : cW g h1 k1 i = .inr (ci, fs.set j v)) (ho : ∀ b, b ≠ i → cW g h1 k1 b = cW g h k b) (hdg : decode cc pc = .ok (.putfield index, 3))
    (kk : ∀ (H1 : Heap) (locs1 : List Loc), va_P g.1 vwCl (WW g h1 k1) H1 → va_S (inA g) s.heap H1 locs1 → W p l e R s m args below meth c H1 locs1 cells slots Q (F0 m (pc + 3) ls rest)) : W p l e R s m args below meth c H locs cells slots Q (F0 m pc ls (v :: .ref (g.2.2 i) :: rest)) := by
  refine va_put X.1 X.2.1 X.2.2.2.2.1 hin ty0 hty hnm X.2.2.2.1 X.2.2.2.2.2.1.1 hP (WW_D X.2.2.2.2.2.2.1) hS i (WW_get hi hc) hcl j hj (X.2.2.2.2.1 _ hl) (by rw [hd]; exact fun _ h => h) hfin hpd hn hfit hlen hdg (fun H1 locs1 hP1 _ hS1 => ?_)
  rw [WW_set hi he ho] at hP1
  exact kk H1 locs1 hP1 hS1
theorem x_iald (X : Cx p s m args c cc nL own g) (hP : va_P g.1 vwCl (WW g h k) H) (a : Nat) (ha : a < 259) {n : Nat} {f : Nat → Int32} (hc : cW g h k a = .inl (g.2.1 0, n, .inl f)) {i : Int32} (hin : inb i n = true) (hdg : decode cc pc = .ok (.iaload, 1))
    (kk : W p l e R s m args below meth c H locs cells slots Q (F0 m (pc + 1) ls (.int (f i.toNatClampNeg) :: rest))) : W p l e R s m args below meth c H locs cells slots Q (F0 m pc ls (.int i :: .ref (g.2.2 a) :: rest)) :=
  va_iald X.1 X.2.1 X.2.2.2.2.2.1.1 hP a 0 (WW_get ha hc) rfl (inb_in hin) hdg kk
theorem x_iast (X : Cx p s m args c cc nL own g) (hP : va_P g.1 vwCl (WW g h k) H) (hS : va_S (inA g) s.heap H locs) (a : Nat) (ha : a < 259) {n : Nat} {f : Nat → Int32} (hc : cW g h k a = .inl (g.2.1 0, n, .inl f)) {i x : Int32} (hin : inb i n = true) {h1 k1 : Hp} (he : cW g h1 k1 a = .inl (g.2.1 0, n, .inl (upd f i.toNatClampNeg x))) (ho : ∀ b, b ≠ a → cW g h1 k1 b = cW g h k b) (hdg : decode cc pc = .ok (.iastore, 1))
    (kk : ∀ (H1 : Heap) (locs1 : List Loc), va_P g.1 vwCl (WW g h1 k1) H1 → va_S (inA g) s.heap H1 locs1 → W p l e R s m args below meth c H1 locs1 cells slots Q (F0 m (pc + 1) ls rest)) : W p l e R s m args below meth c H locs cells slots Q (F0 m pc ls (.int x :: .int i :: .ref (g.2.2 a) :: rest)) := by
  refine va_iast X.1 X.2.1 X.2.2.2.2.2.1.1 hP (WW_D X.2.2.2.2.2.2.1) hS a 0 (WW_get ha hc) rfl (inb_in hin) hdg (fun H1 locs1 hP1 _ hS1 => ?_)
  rw [WW_set ha he ho] at hP1
  exact kk H1 locs1 hP1 hS1
theorem x_aald (X : Cx p s m args c cc nL own g) (hP : va_P g.1 vwCl (WW g h k) H) (a : Nat) (ha : a < 259) {n t0 : Nat} {cA : ClassId} {ty : FieldType} {f : Nat → Nat} (hc : cW g h k a = rfA cA n f) (ht : (tysG g)[t0]? = some (cA, ty)) (hrt : ty.isReference = true) {i : Int32} (hin : inb i n = true) (hdg : decode cc pc = .ok (.aaload, 1))
    (kk : W p l e R s m args below meth c H locs cells slots Q (F0 m (pc + 1) ls (.ref (f i.toNatClampNeg) :: rest))) : W p l e R s m args below meth c H locs cells slots Q (F0 m pc ls (.int i :: .ref (g.2.2 a) :: rest)) := by
  have hin := inb_in hin
  have hlt : i.toNatClampNeg < n := Nat.not_le.mp fun q => hin (Or.inr q)
  exact W.aald (v := .ref (f i.toNatClampNeg)) (ty := ty) X.1 X.2.1 (hP a _ (WW_get ha hc)) ((X.2.2.2.2.2.1.1.2 t0 _ ht).1 n (fun j => va_rf (some (f j)))) hrt (fun q => by cases q) (by show ¬ (i < 0 ∨ (arrV _ _ _).slots.size ≤ _); rw [arrV_size]; exact hin) (by show (arrV _ _ _).slots[_]? = _; rw [arrV_read _ _ hlt]; rfl) rfl rfl hdg kk
theorem x_preP {g : Gx} {h k : Hp} {s : State} {H : Heap} {locs : List Loc} (hSK : SK g s) (hSH : SH g s s.heap) (hS : va_S (inA g) s.heap H locs) (hP : va_P g.1 vwCl (WW g h k) H) : ∀ U : State, U.heap = H → s.WarmedH U.vm → PreW g h k U := fun U hU hW => ⟨hSK.warm hW, by rw [hU]; exact (hSH.kept hS.2.1).moved hW.alike, by rw [hU]; exact hP⟩
end XW
end
section
/-! ===== calls, returns, stores over the world ===== -/
section XR
variable {p : Program} {l : Launch} {e : Env} {R : Room} {s : State} {m : MethodId} {args : Array Value} {below : List Frame} {meth : Method} {c : Code} {H : Heap} {locs : List Loc} {cells slots : Nat} {Q : State → Prop}
variable {cc : ByteArray} {nL pc : Nat} {own : String} {g : Gx} {ls : Array Slot} {rest st0 : List Value} {h k h1 k1 : Hp}
variable {y : MethodName} {bytes : ByteArray} {maxL d index n : Nat} {ret : Option FieldType} {As : List Value} {Qc : Array Value → State → Outcome → State → Prop}
theorem x_fit {y : MethodName} {bytes : ByteArray} {maxL : Nat} {ret : Option FieldType} (h : Cond.code y bytes maxL ret ∈ GG) : GoodIn GG (wsy y bytes maxL ret) := gg_good (fun w hw => by
  rcases List.mem_cons.mp hw with rfl | h2
  · exact h
  · exact h2)
theorem x_cb (X : Cx p s m args c cc nL own g) (mi : MB own index y bytes maxL ret n) (hR : d + 1 + 1 ≤ R.frames ∧ 8 + (maxL + 11) + 42 * (d + 1) ≤ R.locals) : CallB R s args own index y bytes maxL ret (wsy y bytes maxL ret) (rmD d) 0 0 n :=
  callB_of n X.2.2.2.2.1 (x_fit mi.1) rfl rfl rfl (X.2.2.2.2.1 _ mi.2.1) (X.2.2.2.2.1 _ mi.2.2.1) mi.2.2.2 hR
theorem x_runV (X : Cx p s m args c cc nL own g) (hP : va_P g.1 vwCl (WW g h k) H) (hS : va_S (inA g) s.heap H locs) (b : Nat) (hb : b < 259) {ci : Nat} {fs : List Value} {q : vw_C} (hc : cW g h k b = .inr (ci, fs)) (hcl : vwCl[ci]? = some q) (hM : Met l y (wsy y bytes maxL ret) (rmD d) (va_Pc (.ref (g.2.2 b) :: As) (PreW g h k)) Qc 0 0 (inA g)) (mi : MV own q.1 index y bytes maxL ret n) (hn : As.length = n) (hsize : ls.size = nL) (hstack : st0 = As.reverse ++ .ref (g.2.2 b) :: rest) (hW : (rest.map fun v => v.category).sum ≤ 8) (hdg : decode cc pc = .ok (.invokevirtual index, 3)) (hR : d + 1 + 1 ≤ R.frames ∧ 8 + (maxL + 11) + 42 * (d + 1) ≤ R.locals) (hf : cells ≤ R.cells ∧ slots ≤ R.slots) :
    va_Run p l e R s m args below meth c H locs cells slots 0 0 (F0 m pc ls st0) rest (Qc (Value.ref (g.2.2 b) :: As).toArray) (inA g) :=
  va_runV (As := As) (rest := rest) (nL := nL) ⟨X.1, X.2.1, X.2.2.1, X.2.2.2.1, X.2.2.2.2.1⟩ hM ⟨x_cb X mi.1 hR, X.2.2.2.2.1 _ mi.2.1, X.2.2.2.2.1 _ mi.2.2⟩ ⟨PreW.blind, va_recv X.2.2.2.2.2.1.1 hP hcl (WW_get hb hc), fun U hU hW => ⟨rfl, x_preP X.2.2.2.2.2.1 X.2.2.2.2.2.2.2 hS hP U hU hW⟩⟩ rfl hn hsize hstack (lv_room hW) hdg hf
theorem x_runS (X : Cx p s m args c cc nL own g) (hP : va_P g.1 vwCl (WW g h k) H) (hS : va_S (inA g) s.heap H locs) (hM : Met l y (wsy y bytes maxL ret) (rmD d) (va_Pc As (PreW g h k)) Qc 0 0 (inA g)) (mi : MS own index y bytes maxL ret n) (hn : As.length = n) (hsize : ls.size = nL) (hstack : st0 = As.reverse ++ rest) (hW : (rest.map fun v => v.category).sum ≤ 8) (hdg : decode cc pc = .ok (.invokestatic index, 3)) (hR : d + 1 + 1 ≤ R.frames ∧ 8 + (maxL + 11) + 42 * (d + 1) ≤ R.locals) (hf : cells ≤ R.cells ∧ slots ≤ R.slots) :
    va_Run p l e R s m args below meth c H locs cells slots 0 0 (F0 m pc ls st0) rest (Qc As.toArray) (inA g) :=
  va_runS (As := As) (rest := rest) (nL := nL) ⟨X.1, X.2.1, X.2.2.1, X.2.2.2.1, X.2.2.2.2.1⟩ hM ⟨x_cb X mi.1 hR, X.2.2.2.2.1 _ mi.2⟩ ⟨PreW.blind, fun U hU hW => ⟨rfl, x_preP X.2.2.2.2.2.1 X.2.2.2.2.2.2.2 hS hP U hU hW⟩⟩ rfl hn hsize hstack (lv_room hW) hdg hf
theorem x_runN (X : Cx p s m args c cc nL own g) (hP : va_P g.1 vwCl (WW g h k) H) (hS : va_S (inA g) s.heap H locs) {host : String} (hM : Met l y (wsy y bytes maxL ret) (rmD d) (va_Pc As (PreW g h k)) Qc 0 0 (inA g)) (mi : MN y bytes maxL ret n) (hN : va_Nw (.methodLinkNest own index y host) s) (hn : As.length = n) (hsize : ls.size = nL) (hstack : st0 = As.reverse ++ rest) (hW : (rest.map fun v => v.category).sum ≤ 8) (hdg : decode cc pc = .ok (.invokestatic index, 3)) (hR : d + 1 + 1 ≤ R.frames ∧ 8 + (maxL + 11) + 42 * (d + 1) ≤ R.locals) (hf : cells ≤ R.cells ∧ slots ≤ R.slots) :
    va_Run p l e R s m args below meth c H locs cells slots 0 0 (F0 m pc ls st0) rest (Qc As.toArray) (inA g) :=
  va_runSN (As := As) (rest := rest) (nL := nL) (host := host) ⟨X.1, X.2.1, X.2.2.1, X.2.2.2.1, X.2.2.2.2.1⟩ hM ⟨va_cnB n X.2.2.2.2.1 (x_fit mi.1) rfl rfl rfl hN (X.2.2.2.2.1 _ mi.2.1) mi.2.2.2 hR, X.2.2.2.2.1 _ mi.2.2.1, trivial⟩ ⟨PreW.blind, fun U hU hW => ⟨rfl, x_preP X.2.2.2.2.2.1 X.2.2.2.2.2.2.2 hS hP U hU hW⟩⟩ rfl hn hsize hstack (lv_room hW) hdg hf
theorem x_ci {x : Int32} {a : Array Value} (hr : va_Run p l e R s m args below meth c H locs cells slots 0 0 (F0 m pc ls st0) rest (QI g h1 k1 x a) (inA g)) (hS : va_S (inA g) s.heap H locs)
    (kk : ∀ (H1 : Heap) (locs1 : List Loc), va_P g.1 vwCl (WW g h1 k1) H1 → va_S (inA g) s.heap H1 locs1 → W p l e R s m args below meth c H1 locs1 cells slots Q (F0 m (pc + 3) ls (.int x :: rest))) : W p l e R s m args below meth c H locs cells slots Q (F0 m pc ls st0) :=
  va_calli hr hS (fun _ _ h => h) (fun _ h => h) (fun r _ t H1 locs1 ht _ hp hB _ _ hS1 => by subst hp; rw [ht] at hB; exact kk H1 locs1 hB hS1)
theorem x_cl {x : Int64} {a : Array Value} (hr : va_Run p l e R s m args below meth c H locs cells slots 0 0 (F0 m pc ls st0) rest (QL g h1 k1 x a) (inA g)) (hS : va_S (inA g) s.heap H locs)
    (kk : ∀ (H1 : Heap) (locs1 : List Loc), va_P g.1 vwCl (WW g h1 k1) H1 → va_S (inA g) s.heap H1 locs1 → W p l e R s m args below meth c H1 locs1 cells slots Q (F0 m (pc + 3) ls (.long x :: rest))) : W p l e R s m args below meth c H locs cells slots Q (F0 m pc ls st0) :=
  va_calll hr hS (fun _ _ h => h) (fun _ h => h) (fun r _ t H1 locs1 ht _ hp hB _ _ hS1 => by subst hp; rw [ht] at hB; exact kk H1 locs1 hB hS1)
theorem x_cv {a : Array Value} (hr : va_Run p l e R s m args below meth c H locs cells slots 0 0 (F0 m pc ls st0) rest (QV g h1 k1 a) (inA g)) (hS : va_S (inA g) s.heap H locs)
    (kk : ∀ (H1 : Heap) (locs1 : List Loc), va_P g.1 vwCl (WW g h1 k1) H1 → va_S (inA g) s.heap H1 locs1 → W p l e R s m args below meth c H1 locs1 cells slots Q (F0 m (pc + 3) ls rest)) : W p l e R s m args below meth c H locs cells slots Q (F0 m pc ls st0) :=
  va_callv hr hS (fun _ _ h => h) (fun _ h => h) (fun _ t H1 locs1 ht _ _ hB _ _ hS1 => by rw [ht] at hB; exact kk H1 locs1 hB hS1)
theorem x_cr {i : Nat} {a : Array Value} (hr : va_Run p l e R s m args below meth c H locs cells slots 0 0 (F0 m pc ls st0) rest (QR g h1 k1 i a) (inA g)) (hS : va_S (inA g) s.heap H locs)
    (kk : ∀ (H1 : Heap) (locs1 : List Loc), va_P g.1 vwCl (WW g h1 k1) H1 → va_S (inA g) s.heap H1 locs1 → W p l e R s m args below meth c H1 locs1 cells slots Q (F0 m (pc + 3) ls (.ref (g.2.2 i) :: rest))) : W p l e R s m args below meth c H locs cells slots Q (F0 m pc ls st0) :=
  va_callr hr hS (fun _ _ h => h) (fun _ h => h) (fun _ a t H1 locs1 ht _ _ hB _ _ hS1 => by obtain ⟨rfl, hB⟩ := hB; rw [ht] at hB; exact kk H1 locs1 hB hS1)
theorem x_iret {x : Int32} (X : Cx p s m args c cc nL own g) (hr : meth.sig.returnType = some .int) (hlocks : meth.locks = false) (hP : va_P g.1 vwCl (WW g h k) H) (hS : va_S (inA g) s.heap H locs) (hdg : decode cc pc = .ok (.ireturn, 1)) : W p l e R s m args below meth c H locs cells slots (MQ below (QI g h k x) args s cells slots (inA g)) (F0 m pc ls [.int x]) :=
  W.iret X.1 X.2.1 hr (fun t ht _ => ⟨⟨x, (), rfl, rfl, (show va_P g.1 vwCl (WW g h k) t.heap by rw [ht]; exact hP)⟩, hS.F ht⟩) hS.2.2 hdg hlocks
theorem x_zret {x : Int32} (X : Cx p s m args c cc nL own g) (hr : meth.sig.returnType = some .boolean) (hlocks : meth.locks = false) (hn : isB x = true) (hP : va_P g.1 vwCl (WW g h k) H) (hS : va_S (inA g) s.heap H locs) (hdg : decode cc pc = .ok (.ireturn, 1)) : W p l e R s m args below meth c H locs cells slots (MQ below (QI g h k x) args s cells slots (inA g)) (F0 m pc ls [.int x]) :=
  W.zret X.1 X.2.1 hr (isB_n hn).1 (fun t ht _ => ⟨⟨x, (), rfl, rfl, (show va_P g.1 vwCl (WW g h k) t.heap by rw [ht]; exact hP)⟩, hS.F ht⟩) hS.2.2 hdg hlocks
theorem x_lret {x : Int64} (X : Cx p s m args c cc nL own g) (hr : meth.sig.returnType = some .long) (hlocks : meth.locks = false) (hP : va_P g.1 vwCl (WW g h k) H) (hS : va_S (inA g) s.heap H locs) (hdg : decode cc pc = .ok (.lreturn, 1)) : W p l e R s m args below meth c H locs cells slots (MQ below (QL g h k x) args s cells slots (inA g)) (F0 m pc ls [.long x]) :=
  W.lret X.1 X.2.1 hr (fun t ht _ => ⟨⟨x, (), rfl, rfl, (show va_P g.1 vwCl (WW g h k) t.heap by rw [ht]; exact hP)⟩, hS.F ht⟩) hS.2.2 hdg hlocks
theorem x_vret (X : Cx p s m args c cc nL own g) (hr : meth.sig.returnType = none) (hlocks : meth.locks = false) (hP : va_P g.1 vwCl (WW g h k) H) (hS : va_S (inA g) s.heap H locs) (hdg : decode cc pc = .ok (.return_, 1)) : W p l e R s m args below meth c H locs cells slots (MQ below (QV g h k) args s cells slots (inA g)) (F0 m pc ls []) :=
  W.vret X.1 X.2.1 hr (fun t ht _ => ⟨⟨(), rfl, trivial, (show va_P g.1 vwCl (WW g h k) t.heap by rw [ht]; exact hP)⟩, hS.F ht⟩) hS.2.2 hdg hlocks
theorem x_aret {i : Nat} {rt : String} (X : Cx p s m args c cc nL own g) (hr : meth.sig.returnType = some (.object rt)) (hlocks : meth.locks = false) (hP : va_P g.1 vwCl (WW g h k) H) (hS : va_S (inA g) s.heap H locs) (hdg : decode cc pc = .ok (.areturn, 1)) : W p l e R s m args below meth c H locs cells slots (MQ below (QR g h k i) args s cells slots (inA g)) (F0 m pc ls [.ref (g.2.2 i)]) :=
  W.aret X.1 X.2.1 hr (Or.inl ⟨_, rfl⟩) (Or.inr ⟨_, rfl⟩) (fun t ht _ => ⟨⟨(), g.2.2 i, rfl, trivial, rfl, (show va_P g.1 vwCl (WW g h k) t.heap by rw [ht]; exact hP)⟩, hS.F ht⟩) hS.2.2 hdg hlocks
/-- an int row of the class -/
theorem x_ildC (X : Cx p s m args c cc nL own g) (hP : va_P g.1 vwCl (WW g h k) H) (a : Nat) (ha : isIA a = true) {i : Int32} (hin : inb i (lenC a) = true) (hdg : decode cc pc = .ok (.iaload, 1))
    (kk : W p l e R s m args below meth c H locs cells slots Q (F0 m (pc + 1) ls (.int (h a i.toNatClampNeg) :: rest))) : W p l e R s m args below meth c H locs cells slots Q (F0 m pc ls (.int i :: .ref (g.2.2 a) :: rest)) :=
  x_iald X hP a (Nat.lt_of_lt_of_le (isIA_lt ha) (by decide)) (cl_IA ha) hin hdg kk
theorem x_istC (X : Cx p s m args c cc nL own g) (hP : va_P g.1 vwCl (WW g h k) H) (hS : va_S (inA g) s.heap H locs) (a : Nat) (ha : isIA a = true) {i x : Int32} (hin : inb i (lenC a) = true) (hdg : decode cc pc = .ok (.iastore, 1))
    (kk : ∀ (H1 : Heap) (locs1 : List Loc) (h1 : Hp), h1 = up2 h a i.toNatClampNeg x → va_P g.1 vwCl (WW g h1 k) H1 → va_S (inA g) s.heap H1 locs1 → W p l e R s m args below meth c H1 locs1 cells slots Q (F0 m (pc + 1) ls rest)) : W p l e R s m args below meth c H locs cells slots Q (F0 m pc ls (.int x :: .int i :: .ref (g.2.2 a) :: rest)) :=
  x_iast X hP hS a (Nat.lt_of_lt_of_le (isIA_lt ha) (by decide)) (cl_IA ha) hin (h1 := up2 h a i.toNatClampNeg x) (k1 := k) (by rw [cl_IA ha, up2_self]) (fun b hb => cW_h (up2_ne hb)) hdg (fun H1 locs1 hP hS => kk H1 locs1 _ rfl hP hS)
/-- an int row of the reference -/
theorem x_ildM (X : Cx p s m args c cc nL own g) (hP : va_P g.1 vwCl (WW g h k) H) (a : Nat) (ha : isMA a = true) {i : Int32} (hin : inb i (lenM a) = true) (hdg : decode cc pc = .ok (.iaload, 1))
    (kk : W p l e R s m args below meth c H locs cells slots Q (F0 m (pc + 1) ls (.int (k a i.toNatClampNeg) :: rest))) : W p l e R s m args below meth c H locs cells slots Q (F0 m pc ls (.int i :: .ref (g.2.2 a) :: rest)) :=
  x_iald X hP a (isMA_ge ha).2.1 (cl_MA ha) hin hdg kk
theorem x_istM (X : Cx p s m args c cc nL own g) (hP : va_P g.1 vwCl (WW g h k) H) (hS : va_S (inA g) s.heap H locs) (a : Nat) (ha : isMA a = true) {i x : Int32} (hin : inb i (lenM a) = true) (hdg : decode cc pc = .ok (.iastore, 1))
    (kk : ∀ (H1 : Heap) (locs1 : List Loc) (k1 : Hp), k1 = up2 k a i.toNatClampNeg x → va_P g.1 vwCl (WW g h k1) H1 → va_S (inA g) s.heap H1 locs1 → W p l e R s m args below meth c H1 locs1 cells slots Q (F0 m (pc + 1) ls rest)) : W p l e R s m args below meth c H locs cells slots Q (F0 m pc ls (.int x :: .int i :: .ref (g.2.2 a) :: rest)) :=
  x_iast X hP hS a (isMA_ge ha).2.1 (cl_MA ha) hin (h1 := h) (k1 := up2 k a i.toNatClampNeg x) (by rw [cl_MA ha, up2_self]) (fun b hb => cW_k (up2_ne hb)) hdg (fun H1 locs1 hP hS => kk H1 locs1 _ rfl hP hS)
theorem x_zldM (X : Cx p s m args c cc nL own g) (hP : va_P g.1 vwCl (WW g h k) H) {i : Int32} (hin : inb i 2 = true) (hdg : decode cc pc = .ok (.baload, 1))
    (kk : W p l e R s m args below meth c H locs cells slots Q (F0 m (pc + 1) ls (.int (k 256 i.toNatClampNeg) :: rest))) : W p l e R s m args below meth c H locs cells slots Q (F0 m pc ls (.int i :: .ref (g.2.2 256) :: rest)) :=
  va_zald X.1 X.2.1 X.2.2.2.2.2.1.1 hP 256 1 (WW_get (by decide) cl_Z) rfl (inb_in hin) hdg kk
def cpok (sp dp n : Int32) (a b : Nat) : Bool := decide (0 ≤ sp.toInt) && decide (0 ≤ dp.toInt) && decide (0 ≤ n.toInt) && decide (sp.toInt + n.toInt ≤ a) && decide (dp.toInt + n.toInt ≤ b)
theorem cpok_in {sp dp n : Int32} {a b : Nat} (h : cpok sp dp n a b = true) : ¬ sp < 0 ∧ ¬ dp < 0 ∧ ¬ n < 0 ∧ sp.toNatClampNeg + n.toNatClampNeg ≤ a ∧ dp.toNatClampNeg + n.toNatClampNeg ≤ b := by
  simp only [cpok, Bool.and_eq_true, decide_eq_true_eq] at h
  obtain ⟨⟨⟨⟨h1, h2⟩, h3⟩, h4⟩, h5⟩ := h
  have z : (0 : Int32).toInt = 0 := rfl
  refine ⟨?_, ?_, ?_, ?_, ?_⟩
  · rw [Int32.lt_iff_toInt_lt]; omega
  · rw [Int32.lt_iff_toInt_lt]; omega
  · rw [Int32.lt_iff_toInt_lt]; omega
  · show sp.toInt.toNat + n.toInt.toNat ≤ a; omega
  · show dp.toInt.toNat + n.toInt.toNat ≤ b; omega
theorem x_cpy (X : Cx p s m args c cc nL own g) (hP : va_P g.1 vwCl (WW g h k) H) (hS : va_S (inA g) s.heap H locs) (a b : Nat) (ha : isIA a = true) (hb : isIA b = true) (hsize : ls.size = nL) (hl : Cond.methodLink own index arraycopyName ∈ GG ∧ Cond.native arraycopyName ∈ GG ∧ Cond.static arraycopyName ∈ GG ∧ Cond.initialized "java/lang/System" ∈ GG) {sp dp n : Int32} (hok : cpok sp dp n (lenC a) (lenC b) = true)
    (hframes : 1 ≤ R.frames) (hlocals : (rest.map fun v => v.category).sum + (nativeFrameWords "java/lang/System" "arraycopy" 5 + 11) ≤ R.locals) (hdg : decode cc pc = .ok (.invokestatic index, 3))
    (kk : ∀ (H1 : Heap) (locs1 : List Loc) (h1 : Hp), h1 = va_up h b (va_cpy (h a) (h b) sp.toNatClampNeg dp.toNatClampNeg n.toNatClampNeg) → va_P g.1 vwCl (WW g h1 k) H1 → va_S (inA g) s.heap H1 locs1 → W p l e R s m args below meth c H1 locs1 cells slots Q (F0 m (pc + 3) ls rest)) : W p l e R s m args below meth c H locs cells slots Q (F0 m pc ls (.int n :: .int dp :: .ref (g.2.2 b) :: .int sp :: .ref (g.2.2 a) :: rest)) := by
  obtain ⟨o1, o2, o3, o4, o5⟩ := cpok_in hok
  have hts := X.2.2.2.2.1
  have hbl : b < 259 := Nat.lt_of_lt_of_le (isIA_lt hb) (by decide)
  refine va_copyi X.1 X.2.1 (X.2.2.1.trans hsize.symm) X.2.2.2.1 (hts _ hl.1) (hts _ hl.2.1) (hts _ hl.2.2.1) (hts _ hl.2.2.2) X.2.2.2.2.2.1.1 hP (WW_D X.2.2.2.2.2.2.1) hS a b 0 0 (ty := .int) (WW_get (Nat.lt_of_lt_of_le (isIA_lt ha) (by decide)) (cl_IA ha)) (WW_get hbl (cl_IA hb)) rfl rfl rfl o1 o2 o3 o4 o5 (fun _ _ => rfl) hframes hlocals hdg (fun H1 locs1 hP1 _ hS1 => ?_)
  rw [WW_set (h1 := va_up h b (va_cpy (h a) (h b) sp.toNatClampNeg dp.toNatClampNeg n.toNatClampNeg)) (k1 := k) hbl (by rw [cl_IA hb]; simp [va_up]) (fun q hq => cW_h (va_up_ne _ _ hq))] at hP1
  exact kk H1 locs1 _ rfl hP1 hS1
end XR
theorem sw_ne {x v : Int32} {j : Int} (hv : v.toInt = j) (h : ¬ x = v) : x.toInt ≠ j := fun q => h (Int32.toInt_inj.mp (q.trans hv.symm))
end
section
theorem tmp_x : True := trivial
end
