section
-- ===== PART A: goes FIRST, ahead of the names: the tables' words, and 'selects' of the private methods out of them =====
/-- a private method of a class that the tables say can be made, by its rows of tables_1 -/
def lw_okq (q : MethodName × Nat) : Prop := (q.1.cls ≠ "java/lang/invoke/MethodHandle" ∧ q.1.cls ≠ "java/lang/invoke/VarHandle") ∧ Cond.instantiable q.1.cls q.2 ∈ tables_1 ∧ Cond.privateMethod q.1 ∈ tables_1 ∧ Cond.instanceMethod q.1 ∈ tables_1
theorem lw_p0 : lw_okq (⟨"PaperCutter$Plan", "copyFrom", "(LPaperCutter$Plan;)V"⟩, 7) := ⟨⟨by decide +kernel, by decide +kernel⟩, List.mem_of_getElem? (i := 27) (by decide +kernel), List.mem_of_getElem? (i := 385) (by decide +kernel), List.mem_of_getElem? (i := 386) (by decide +kernel)⟩
theorem lw_p1 : lw_okq (⟨"PaperCutter$Order", "copyFrom", "(LPaperCutter$Order;)V"⟩, 8) := ⟨⟨by decide +kernel, by decide +kernel⟩, List.mem_of_getElem? (i := 47) (by decide +kernel), List.mem_of_getElem? (i := 392) (by decide +kernel), List.mem_of_getElem? (i := 393) (by decide +kernel)⟩
theorem lw_p2 : lw_okq (⟨"PaperCutter$Roll", "copyFrom", "(LPaperCutter$Roll;)V"⟩, 3) := ⟨⟨by decide +kernel, by decide +kernel⟩, List.mem_of_getElem? (i := 96) (by decide +kernel), List.mem_of_getElem? (i := 396) (by decide +kernel), List.mem_of_getElem? (i := 397) (by decide +kernel)⟩
theorem lw_p3 : lw_okq (⟨"PaperCutter$Run", "copyFrom", "(LPaperCutter$Run;)V"⟩, 8) := ⟨⟨by decide +kernel, by decide +kernel⟩, List.mem_of_getElem? (i := 117) (by decide +kernel), List.mem_of_getElem? (i := 400) (by decide +kernel), List.mem_of_getElem? (i := 401) (by decide +kernel)⟩
theorem lw_p4 : lw_okq (⟨"PaperCutter$Plan", "changeSetting", "(II)I"⟩, 7) := ⟨⟨by decide +kernel, by decide +kernel⟩, List.mem_of_getElem? (i := 27) (by decide +kernel), List.mem_of_getElem? (i := 405) (by decide +kernel), List.mem_of_getElem? (i := 406) (by decide +kernel)⟩
theorem lw_p5 : lw_okq (⟨"PaperCutter", "settled", "(I)I"⟩, 15) := ⟨⟨by decide +kernel, by decide +kernel⟩, List.mem_of_getElem? (i := 19) (by decide +kernel), List.mem_of_getElem? (i := 416) (by decide +kernel), List.mem_of_getElem? (i := 417) (by decide +kernel)⟩
theorem lw_p6 : lw_okq (⟨"PaperCutter$Plan", "putOrder", "(IIIIII)I"⟩, 7) := ⟨⟨by decide +kernel, by decide +kernel⟩, List.mem_of_getElem? (i := 27) (by decide +kernel), List.mem_of_getElem? (i := 424) (by decide +kernel), List.mem_of_getElem? (i := 425) (by decide +kernel)⟩
theorem lw_p7 : lw_okq (⟨"PaperCutter$Plan", "putRoll", "(III)I"⟩, 7) := ⟨⟨by decide +kernel, by decide +kernel⟩, List.mem_of_getElem? (i := 27) (by decide +kernel), List.mem_of_getElem? (i := 432) (by decide +kernel), List.mem_of_getElem? (i := 433) (by decide +kernel)⟩
theorem lw_p8 : lw_okq (⟨"PaperCutter$Plan", "storeRoll", "(III)I"⟩, 7) := ⟨⟨by decide +kernel, by decide +kernel⟩, List.mem_of_getElem? (i := 27) (by decide +kernel), List.mem_of_getElem? (i := 436) (by decide +kernel), List.mem_of_getElem? (i := 437) (by decide +kernel)⟩
theorem lw_p9 : lw_okq (⟨"PaperCutter$Plan", "hasOrder", "(I)Z"⟩, 7) := ⟨⟨by decide +kernel, by decide +kernel⟩, List.mem_of_getElem? (i := 27) (by decide +kernel), List.mem_of_getElem? (i := 444) (by decide +kernel), List.mem_of_getElem? (i := 445) (by decide +kernel)⟩
theorem lw_p10 : lw_okq (⟨"PaperCutter$Plan", "madeFor", "(I)I"⟩, 7) := ⟨⟨by decide +kernel, by decide +kernel⟩, List.mem_of_getElem? (i := 27) (by decide +kernel), List.mem_of_getElem? (i := 448) (by decide +kernel), List.mem_of_getElem? (i := 449) (by decide +kernel)⟩
theorem lw_p11 : lw_okq (⟨"PaperCutter$Plan", "roomOf", "(I)I"⟩, 7) := ⟨⟨by decide +kernel, by decide +kernel⟩, List.mem_of_getElem? (i := 27) (by decide +kernel), List.mem_of_getElem? (i := 452) (by decide +kernel), List.mem_of_getElem? (i := 453) (by decide +kernel)⟩
theorem lw_p12 : lw_okq (⟨"PaperCutter$Plan", "isMet", "(I)Z"⟩, 7) := ⟨⟨by decide +kernel, by decide +kernel⟩, List.mem_of_getElem? (i := 27) (by decide +kernel), List.mem_of_getElem? (i := 457) (by decide +kernel), List.mem_of_getElem? (i := 458) (by decide +kernel)⟩
theorem lw_p13 : lw_okq (⟨"PaperCutter$Plan", "runsFor", "(I)I"⟩, 7) := ⟨⟨by decide +kernel, by decide +kernel⟩, List.mem_of_getElem? (i := 27) (by decide +kernel), List.mem_of_getElem? (i := 461) (by decide +kernel), List.mem_of_getElem? (i := 462) (by decide +kernel)⟩
theorem lw_p14 : lw_okq (⟨"PaperCutter$Plan", "hasRoll", "(I)Z"⟩, 7) := ⟨⟨by decide +kernel, by decide +kernel⟩, List.mem_of_getElem? (i := 27) (by decide +kernel), List.mem_of_getElem? (i := 469) (by decide +kernel), List.mem_of_getElem? (i := 470) (by decide +kernel)⟩
theorem lw_p15 : lw_okq (⟨"PaperCutter$Plan", "leftOf", "(I)I"⟩, 7) := ⟨⟨by decide +kernel, by decide +kernel⟩, List.mem_of_getElem? (i := 27) (by decide +kernel), List.mem_of_getElem? (i := 473) (by decide +kernel), List.mem_of_getElem? (i := 474) (by decide +kernel)⟩
def lw_privs_1 : List (MethodName × Nat) := [(⟨"PaperCutter$Plan", "copyFrom", "(LPaperCutter$Plan;)V"⟩, 7), (⟨"PaperCutter$Order", "copyFrom", "(LPaperCutter$Order;)V"⟩, 8), (⟨"PaperCutter$Roll", "copyFrom", "(LPaperCutter$Roll;)V"⟩, 3), (⟨"PaperCutter$Run", "copyFrom", "(LPaperCutter$Run;)V"⟩, 8), (⟨"PaperCutter$Plan", "changeSetting", "(II)I"⟩, 7), (⟨"PaperCutter", "settled", "(I)I"⟩, 15), (⟨"PaperCutter$Plan", "putOrder", "(IIIIII)I"⟩, 7), (⟨"PaperCutter$Plan", "putRoll", "(III)I"⟩, 7), (⟨"PaperCutter$Plan", "storeRoll", "(III)I"⟩, 7), (⟨"PaperCutter$Plan", "hasOrder", "(I)Z"⟩, 7), (⟨"PaperCutter$Plan", "madeFor", "(I)I"⟩, 7), (⟨"PaperCutter$Plan", "roomOf", "(I)I"⟩, 7), (⟨"PaperCutter$Plan", "isMet", "(I)Z"⟩, 7), (⟨"PaperCutter$Plan", "runsFor", "(I)I"⟩, 7), (⟨"PaperCutter$Plan", "hasRoll", "(I)Z"⟩, 7), (⟨"PaperCutter$Plan", "leftOf", "(I)I"⟩, 7)]
theorem lw_r1 : ∀ q ∈ lw_privs_1, lw_okq q := List.forall_mem_cons.mpr ⟨lw_p0, List.forall_mem_cons.mpr ⟨lw_p1, List.forall_mem_cons.mpr ⟨lw_p2, List.forall_mem_cons.mpr ⟨lw_p3, List.forall_mem_cons.mpr ⟨lw_p4, List.forall_mem_cons.mpr ⟨lw_p5, List.forall_mem_cons.mpr ⟨lw_p6, List.forall_mem_cons.mpr ⟨lw_p7, List.forall_mem_cons.mpr ⟨lw_p8, List.forall_mem_cons.mpr ⟨lw_p9, List.forall_mem_cons.mpr ⟨lw_p10, List.forall_mem_cons.mpr ⟨lw_p11, List.forall_mem_cons.mpr ⟨lw_p12, List.forall_mem_cons.mpr ⟨lw_p13, List.forall_mem_cons.mpr ⟨lw_p14, List.forall_mem_cons.mpr ⟨lw_p15, fun _ h => absurd h List.not_mem_nil⟩⟩⟩⟩⟩⟩⟩⟩⟩⟩⟩⟩⟩⟩⟩⟩
theorem lw_p16 : lw_okq (⟨"PaperCutter$Plan", "runsOf", "(I)I"⟩, 7) := ⟨⟨by decide +kernel, by decide +kernel⟩, List.mem_of_getElem? (i := 27) (by decide +kernel), List.mem_of_getElem? (i := 477) (by decide +kernel), List.mem_of_getElem? (i := 478) (by decide +kernel)⟩
theorem lw_p17 : lw_okq (⟨"PaperCutter$Plan", "sourceOf", "(I)I"⟩, 7) := ⟨⟨by decide +kernel, by decide +kernel⟩, List.mem_of_getElem? (i := 27) (by decide +kernel), List.mem_of_getElem? (i := 481) (by decide +kernel), List.mem_of_getElem? (i := 482) (by decide +kernel)⟩
theorem lw_p18 : lw_okq (⟨"PaperCutter$Plan", "rankOf", "(I)I"⟩, 7) := ⟨⟨by decide +kernel, by decide +kernel⟩, List.mem_of_getElem? (i := 27) (by decide +kernel), List.mem_of_getElem? (i := 489) (by decide +kernel), List.mem_of_getElem? (i := 490) (by decide +kernel)⟩
theorem lw_p19 : lw_okq (⟨"PaperCutter$Order", "isAheadOf", "(LPaperCutter$Order;)Z"⟩, 8) := ⟨⟨by decide +kernel, by decide +kernel⟩, List.mem_of_getElem? (i := 47) (by decide +kernel), List.mem_of_getElem? (i := 493) (by decide +kernel), List.mem_of_getElem? (i := 494) (by decide +kernel)⟩
theorem lw_p20 : lw_okq (⟨"PaperCutter$Plan", "whyNotMet", "(I)I"⟩, 7) := ⟨⟨by decide +kernel, by decide +kernel⟩, List.mem_of_getElem? (i := 27) (by decide +kernel), List.mem_of_getElem? (i := 501) (by decide +kernel), List.mem_of_getElem? (i := 502) (by decide +kernel)⟩
theorem lw_p21 : lw_okq (⟨"PaperCutter$Roll", "canBeUsedFor", "(LPaperCutter$Order;)Z"⟩, 3) := ⟨⟨by decide +kernel, by decide +kernel⟩, List.mem_of_getElem? (i := 96) (by decide +kernel), List.mem_of_getElem? (i := 507) (by decide +kernel), List.mem_of_getElem? (i := 508) (by decide +kernel)⟩
theorem lw_p22 : lw_okq (⟨"PaperCutter$Plan", "mostStripsAlone", "(II)I"⟩, 7) := ⟨⟨by decide +kernel, by decide +kernel⟩, List.mem_of_getElem? (i := 27) (by decide +kernel), List.mem_of_getElem? (i := 511) (by decide +kernel), List.mem_of_getElem? (i := 512) (by decide +kernel)⟩
theorem lw_p23 : lw_okq (⟨"PaperCutter$Text", "add", "(I)I"⟩, 6) := ⟨⟨by decide +kernel, by decide +kernel⟩, List.mem_of_getElem? (i := 287) (by decide +kernel), List.mem_of_getElem? (i := 522) (by decide +kernel), List.mem_of_getElem? (i := 523) (by decide +kernel)⟩
theorem lw_p24 : lw_okq (⟨"PaperCutter$Plan", "findBest", "(ILPaperCutter$Search;)Z"⟩, 7) := ⟨⟨by decide +kernel, by decide +kernel⟩, List.mem_of_getElem? (i := 27) (by decide +kernel), List.mem_of_getElem? (i := 531) (by decide +kernel), List.mem_of_getElem? (i := 532) (by decide +kernel)⟩
theorem lw_p25 : lw_okq (⟨"PaperCutter$Plan", "describe", "(ILPaperCutter$Search;)V"⟩, 7) := ⟨⟨by decide +kernel, by decide +kernel⟩, List.mem_of_getElem? (i := 27) (by decide +kernel), List.mem_of_getElem? (i := 535) (by decide +kernel), List.mem_of_getElem? (i := 536) (by decide +kernel)⟩
theorem lw_p26 : lw_okq (⟨"PaperCutter$Plan", "limitOf", "(ILPaperCutter$Roll;)I"⟩, 7) := ⟨⟨by decide +kernel, by decide +kernel⟩, List.mem_of_getElem? (i := 27) (by decide +kernel), List.mem_of_getElem? (i := 539) (by decide +kernel), List.mem_of_getElem? (i := 540) (by decide +kernel)⟩
theorem lw_p27 : lw_okq (⟨"PaperCutter$Search", "seek", "(Z)I"⟩, 15) := ⟨⟨by decide +kernel, by decide +kernel⟩, List.mem_of_getElem? (i := 193) (by decide +kernel), List.mem_of_getElem? (i := 546) (by decide +kernel), List.mem_of_getElem? (i := 547) (by decide +kernel)⟩
theorem lw_p28 : lw_okq (⟨"PaperCutter$Search", "judge", "(II)V"⟩, 15) := ⟨⟨by decide +kernel, by decide +kernel⟩, List.mem_of_getElem? (i := 193) (by decide +kernel), List.mem_of_getElem? (i := 559) (by decide +kernel), List.mem_of_getElem? (i := 560) (by decide +kernel)⟩
theorem lw_p29 : lw_okq (⟨"PaperCutter$Search", "isHopeless", "(III)Z"⟩, 15) := ⟨⟨by decide +kernel, by decide +kernel⟩, List.mem_of_getElem? (i := 193) (by decide +kernel), List.mem_of_getElem? (i := 565) (by decide +kernel), List.mem_of_getElem? (i := 566) (by decide +kernel)⟩
theorem lw_p30 : lw_okq (⟨"PaperCutter$Plan", "greatestLength", "(I[I)I"⟩, 7) := ⟨⟨by decide +kernel, by decide +kernel⟩, List.mem_of_getElem? (i := 27) (by decide +kernel), List.mem_of_getElem? (i := 571) (by decide +kernel), List.mem_of_getElem? (i := 572) (by decide +kernel)⟩
theorem lw_p31 : lw_okq (⟨"PaperCutter$Search", "leastRestBySums", "()I"⟩, 15) := ⟨⟨by decide +kernel, by decide +kernel⟩, List.mem_of_getElem? (i := 193) (by decide +kernel), List.mem_of_getElem? (i := 581) (by decide +kernel), List.mem_of_getElem? (i := 582) (by decide +kernel)⟩
def lw_privs_2 : List (MethodName × Nat) := [(⟨"PaperCutter$Plan", "runsOf", "(I)I"⟩, 7), (⟨"PaperCutter$Plan", "sourceOf", "(I)I"⟩, 7), (⟨"PaperCutter$Plan", "rankOf", "(I)I"⟩, 7), (⟨"PaperCutter$Order", "isAheadOf", "(LPaperCutter$Order;)Z"⟩, 8), (⟨"PaperCutter$Plan", "whyNotMet", "(I)I"⟩, 7), (⟨"PaperCutter$Roll", "canBeUsedFor", "(LPaperCutter$Order;)Z"⟩, 3), (⟨"PaperCutter$Plan", "mostStripsAlone", "(II)I"⟩, 7), (⟨"PaperCutter$Text", "add", "(I)I"⟩, 6), (⟨"PaperCutter$Plan", "findBest", "(ILPaperCutter$Search;)Z"⟩, 7), (⟨"PaperCutter$Plan", "describe", "(ILPaperCutter$Search;)V"⟩, 7), (⟨"PaperCutter$Plan", "limitOf", "(ILPaperCutter$Roll;)I"⟩, 7), (⟨"PaperCutter$Search", "seek", "(Z)I"⟩, 15), (⟨"PaperCutter$Search", "judge", "(II)V"⟩, 15), (⟨"PaperCutter$Search", "isHopeless", "(III)Z"⟩, 15), (⟨"PaperCutter$Plan", "greatestLength", "(I[I)I"⟩, 7), (⟨"PaperCutter$Search", "leastRestBySums", "()I"⟩, 15)]
theorem lw_r2 : ∀ q ∈ lw_privs_2, lw_okq q := List.forall_mem_cons.mpr ⟨lw_p16, List.forall_mem_cons.mpr ⟨lw_p17, List.forall_mem_cons.mpr ⟨lw_p18, List.forall_mem_cons.mpr ⟨lw_p19, List.forall_mem_cons.mpr ⟨lw_p20, List.forall_mem_cons.mpr ⟨lw_p21, List.forall_mem_cons.mpr ⟨lw_p22, List.forall_mem_cons.mpr ⟨lw_p23, List.forall_mem_cons.mpr ⟨lw_p24, List.forall_mem_cons.mpr ⟨lw_p25, List.forall_mem_cons.mpr ⟨lw_p26, List.forall_mem_cons.mpr ⟨lw_p27, List.forall_mem_cons.mpr ⟨lw_p28, List.forall_mem_cons.mpr ⟨lw_p29, List.forall_mem_cons.mpr ⟨lw_p30, List.forall_mem_cons.mpr ⟨lw_p31, fun _ h => absurd h List.not_mem_nil⟩⟩⟩⟩⟩⟩⟩⟩⟩⟩⟩⟩⟩⟩⟩⟩
theorem lw_p32 : lw_okq (⟨"PaperCutter$Search", "reachSums", "(II)V"⟩, 15) := ⟨⟨by decide +kernel, by decide +kernel⟩, List.mem_of_getElem? (i := 193) (by decide +kernel), List.mem_of_getElem? (i := 585) (by decide +kernel), List.mem_of_getElem? (i := 586) (by decide +kernel)⟩
theorem lw_p33 : lw_okq (⟨"PaperCutter$Text", "readPattern", "()Z"⟩, 6) := ⟨⟨by decide +kernel, by decide +kernel⟩, List.mem_of_getElem? (i := 287) (by decide +kernel), List.mem_of_getElem? (i := 598) (by decide +kernel), List.mem_of_getElem? (i := 599) (by decide +kernel)⟩
theorem lw_p34 : lw_okq (⟨"PaperCutter$Text", "empty", "()V"⟩, 6) := ⟨⟨by decide +kernel, by decide +kernel⟩, List.mem_of_getElem? (i := 287) (by decide +kernel), List.mem_of_getElem? (i := 609) (by decide +kernel), List.mem_of_getElem? (i := 610) (by decide +kernel)⟩
theorem lw_p35 : lw_okq (⟨"PaperCutter$Plan", "refusalOf", "(II[I)I"⟩, 7) := ⟨⟨by decide +kernel, by decide +kernel⟩, List.mem_of_getElem? (i := 27) (by decide +kernel), List.mem_of_getElem? (i := 613) (by decide +kernel), List.mem_of_getElem? (i := 614) (by decide +kernel)⟩
theorem lw_p36 : lw_okq (⟨"PaperCutter$Plan", "makeRun", "(II[I)I"⟩, 7) := ⟨⟨by decide +kernel, by decide +kernel⟩, List.mem_of_getElem? (i := 27) (by decide +kernel), List.mem_of_getElem? (i := 621) (by decide +kernel), List.mem_of_getElem? (i := 622) (by decide +kernel)⟩
theorem lw_p37 : lw_okq (⟨"PaperCutter$Plan", "placeKnives", "(LPaperCutter$Run;)V"⟩, 7) := ⟨⟨by decide +kernel, by decide +kernel⟩, List.mem_of_getElem? (i := 27) (by decide +kernel), List.mem_of_getElem? (i := 625) (by decide +kernel), List.mem_of_getElem? (i := 626) (by decide +kernel)⟩
theorem lw_p38 : lw_okq (⟨"PaperCutter$Run", "addPosition", "(I)V"⟩, 8) := ⟨⟨by decide +kernel, by decide +kernel⟩, List.mem_of_getElem? (i := 117) (by decide +kernel), List.mem_of_getElem? (i := 629) (by decide +kernel), List.mem_of_getElem? (i := 630) (by decide +kernel)⟩
theorem lw_p39 : lw_okq (⟨"PaperCutter$Plan", "cutRoll", "(ILPaperCutter$Search;)I"⟩, 7) := ⟨⟨by decide +kernel, by decide +kernel⟩, List.mem_of_getElem? (i := 27) (by decide +kernel), List.mem_of_getElem? (i := 637) (by decide +kernel), List.mem_of_getElem? (i := 638) (by decide +kernel)⟩
theorem lw_p40 : lw_okq (⟨"PaperCutter$Plan", "cutEverything", "(LPaperCutter$Search;)I"⟩, 7) := ⟨⟨by decide +kernel, by decide +kernel⟩, List.mem_of_getElem? (i := 27) (by decide +kernel), List.mem_of_getElem? (i := 648) (by decide +kernel), List.mem_of_getElem? (i := 649) (by decide +kernel)⟩
theorem lw_p41 : lw_okq (⟨"PaperCutter$Plan", "rollToCut", "(LPaperCutter$Search;)I"⟩, 7) := ⟨⟨by decide +kernel, by decide +kernel⟩, List.mem_of_getElem? (i := 27) (by decide +kernel), List.mem_of_getElem? (i := 652) (by decide +kernel), List.mem_of_getElem? (i := 653) (by decide +kernel)⟩
theorem lw_p42 : lw_okq (⟨"PaperCutter$Plan", "takeOut", "(I)I"⟩, 7) := ⟨⟨by decide +kernel, by decide +kernel⟩, List.mem_of_getElem? (i := 27) (by decide +kernel), List.mem_of_getElem? (i := 661) (by decide +kernel), List.mem_of_getElem? (i := 662) (by decide +kernel)⟩
theorem lw_p43 : lw_okq (⟨"PaperCutter$Plan", "hasRun", "(I)Z"⟩, 7) := ⟨⟨by decide +kernel, by decide +kernel⟩, List.mem_of_getElem? (i := 27) (by decide +kernel), List.mem_of_getElem? (i := 665) (by decide +kernel), List.mem_of_getElem? (i := 666) (by decide +kernel)⟩
theorem lw_p44 : lw_okq (⟨"PaperCutter$Run", "isKept", "()Z"⟩, 8) := ⟨⟨by decide +kernel, by decide +kernel⟩, List.mem_of_getElem? (i := 117) (by decide +kernel), List.mem_of_getElem? (i := 669) (by decide +kernel), List.mem_of_getElem? (i := 670) (by decide +kernel)⟩
theorem lw_p45 : lw_okq (⟨"PaperCutter$Plan", "moveRun", "(II)V"⟩, 7) := ⟨⟨by decide +kernel, by decide +kernel⟩, List.mem_of_getElem? (i := 27) (by decide +kernel), List.mem_of_getElem? (i := 673) (by decide +kernel), List.mem_of_getElem? (i := 674) (by decide +kernel)⟩
theorem lw_p46 : lw_okq (⟨"PaperCutter$Plan", "setupBehind", "(II)I"⟩, 7) := ⟨⟨by decide +kernel, by decide +kernel⟩, List.mem_of_getElem? (i := 27) (by decide +kernel), List.mem_of_getElem? (i := 683) (by decide +kernel), List.mem_of_getElem? (i := 684) (by decide +kernel)⟩
theorem lw_p47 : lw_okq (⟨"PaperCutter$Run", "positionsBeyond", "(LPaperCutter$Run;)I"⟩, 8) := ⟨⟨by decide +kernel, by decide +kernel⟩, List.mem_of_getElem? (i := 117) (by decide +kernel), List.mem_of_getElem? (i := 687) (by decide +kernel), List.mem_of_getElem? (i := 688) (by decide +kernel)⟩
def lw_privs_3 : List (MethodName × Nat) := [(⟨"PaperCutter$Search", "reachSums", "(II)V"⟩, 15), (⟨"PaperCutter$Text", "readPattern", "()Z"⟩, 6), (⟨"PaperCutter$Text", "empty", "()V"⟩, 6), (⟨"PaperCutter$Plan", "refusalOf", "(II[I)I"⟩, 7), (⟨"PaperCutter$Plan", "makeRun", "(II[I)I"⟩, 7), (⟨"PaperCutter$Plan", "placeKnives", "(LPaperCutter$Run;)V"⟩, 7), (⟨"PaperCutter$Run", "addPosition", "(I)V"⟩, 8), (⟨"PaperCutter$Plan", "cutRoll", "(ILPaperCutter$Search;)I"⟩, 7), (⟨"PaperCutter$Plan", "cutEverything", "(LPaperCutter$Search;)I"⟩, 7), (⟨"PaperCutter$Plan", "rollToCut", "(LPaperCutter$Search;)I"⟩, 7), (⟨"PaperCutter$Plan", "takeOut", "(I)I"⟩, 7), (⟨"PaperCutter$Plan", "hasRun", "(I)Z"⟩, 7), (⟨"PaperCutter$Run", "isKept", "()Z"⟩, 8), (⟨"PaperCutter$Plan", "moveRun", "(II)V"⟩, 7), (⟨"PaperCutter$Plan", "setupBehind", "(II)I"⟩, 7), (⟨"PaperCutter$Run", "positionsBeyond", "(LPaperCutter$Run;)I"⟩, 8)]
theorem lw_r3 : ∀ q ∈ lw_privs_3, lw_okq q := List.forall_mem_cons.mpr ⟨lw_p32, List.forall_mem_cons.mpr ⟨lw_p33, List.forall_mem_cons.mpr ⟨lw_p34, List.forall_mem_cons.mpr ⟨lw_p35, List.forall_mem_cons.mpr ⟨lw_p36, List.forall_mem_cons.mpr ⟨lw_p37, List.forall_mem_cons.mpr ⟨lw_p38, List.forall_mem_cons.mpr ⟨lw_p39, List.forall_mem_cons.mpr ⟨lw_p40, List.forall_mem_cons.mpr ⟨lw_p41, List.forall_mem_cons.mpr ⟨lw_p42, List.forall_mem_cons.mpr ⟨lw_p43, List.forall_mem_cons.mpr ⟨lw_p44, List.forall_mem_cons.mpr ⟨lw_p45, List.forall_mem_cons.mpr ⟨lw_p46, List.forall_mem_cons.mpr ⟨lw_p47, fun _ h => absurd h List.not_mem_nil⟩⟩⟩⟩⟩⟩⟩⟩⟩⟩⟩⟩⟩⟩⟩⟩
theorem lw_p48 : lw_okq (⟨"PaperCutter$Run", "waste", "()I"⟩, 8) := ⟨⟨by decide +kernel, by decide +kernel⟩, List.mem_of_getElem? (i := 117) (by decide +kernel), List.mem_of_getElem? (i := 691) (by decide +kernel), List.mem_of_getElem? (i := 692) (by decide +kernel)⟩
theorem lw_p49 : lw_okq (⟨"PaperCutter$Run", "remnantWidth", "()I"⟩, 8) := ⟨⟨by decide +kernel, by decide +kernel⟩, List.mem_of_getElem? (i := 117) (by decide +kernel), List.mem_of_getElem? (i := 696) (by decide +kernel), List.mem_of_getElem? (i := 697) (by decide +kernel)⟩
theorem lw_p50 : lw_okq (⟨"PaperCutter$Plan", "exchange", "(II)I"⟩, 7) := ⟨⟨by decide +kernel, by decide +kernel⟩, List.mem_of_getElem? (i := 27) (by decide +kernel), List.mem_of_getElem? (i := 713) (by decide +kernel), List.mem_of_getElem? (i := 714) (by decide +kernel)⟩
theorem lw_p51 : lw_okq (⟨"PaperCutter$Plan", "sumOfSetups", "()I"⟩, 7) := ⟨⟨by decide +kernel, by decide +kernel⟩, List.mem_of_getElem? (i := 27) (by decide +kernel), List.mem_of_getElem? (i := 717) (by decide +kernel), List.mem_of_getElem? (i := 718) (by decide +kernel)⟩
theorem lw_p52 : lw_okq (⟨"PaperCutter$Plan", "divide", "(II)I"⟩, 7) := ⟨⟨by decide +kernel, by decide +kernel⟩, List.mem_of_getElem? (i := 27) (by decide +kernel), List.mem_of_getElem? (i := 726) (by decide +kernel), List.mem_of_getElem? (i := 727) (by decide +kernel)⟩
theorem lw_p53 : lw_okq (⟨"PaperCutter", "writeStrips", "(II)V"⟩, 15) := ⟨⟨by decide +kernel, by decide +kernel⟩, List.mem_of_getElem? (i := 19) (by decide +kernel), List.mem_of_getElem? (i := 734) (by decide +kernel), List.mem_of_getElem? (i := 735) (by decide +kernel)⟩
theorem lw_p54 : lw_okq (⟨"PaperCutter", "writeSign", "(C)V"⟩, 15) := ⟨⟨by decide +kernel, by decide +kernel⟩, List.mem_of_getElem? (i := 19) (by decide +kernel), List.mem_of_getElem? (i := 738) (by decide +kernel), List.mem_of_getElem? (i := 739) (by decide +kernel)⟩
theorem lw_p55 : lw_okq (⟨"PaperCutter$Plan", "putInOrder", "(ILPaperCutter$Arranger;)I"⟩, 7) := ⟨⟨by decide +kernel, by decide +kernel⟩, List.mem_of_getElem? (i := 27) (by decide +kernel), List.mem_of_getElem? (i := 750) (by decide +kernel), List.mem_of_getElem? (i := 751) (by decide +kernel)⟩
theorem lw_p56 : lw_okq (⟨"PaperCutter$Plan", "chainRuns", "()V"⟩, 7) := ⟨⟨by decide +kernel, by decide +kernel⟩, List.mem_of_getElem? (i := 27) (by decide +kernel), List.mem_of_getElem? (i := 754) (by decide +kernel), List.mem_of_getElem? (i := 755) (by decide +kernel)⟩
theorem lw_p57 : lw_okq (⟨"PaperCutter$Arranger", "look", "(LPaperCutter$Plan;)V"⟩, 7) := ⟨⟨by decide +kernel, by decide +kernel⟩, List.mem_of_getElem? (i := 256) (by decide +kernel), List.mem_of_getElem? (i := 758) (by decide +kernel), List.mem_of_getElem? (i := 759) (by decide +kernel)⟩
theorem lw_p58 : lw_okq (⟨"PaperCutter$Arranger", "seekLeast", "()V"⟩, 7) := ⟨⟨by decide +kernel, by decide +kernel⟩, List.mem_of_getElem? (i := 256) (by decide +kernel), List.mem_of_getElem? (i := 764) (by decide +kernel), List.mem_of_getElem? (i := 765) (by decide +kernel)⟩
theorem lw_p59 : lw_okq (⟨"PaperCutter$Arranger", "reorder", "([LPaperCutter$Run;)V"⟩, 7) := ⟨⟨by decide +kernel, by decide +kernel⟩, List.mem_of_getElem? (i := 256) (by decide +kernel), List.mem_of_getElem? (i := 772) (by decide +kernel), List.mem_of_getElem? (i := 773) (by decide +kernel)⟩
theorem lw_p60 : lw_okq (⟨"PaperCutter$Arranger", "leastBySets", "()I"⟩, 7) := ⟨⟨by decide +kernel, by decide +kernel⟩, List.mem_of_getElem? (i := 256) (by decide +kernel), List.mem_of_getElem? (i := 781) (by decide +kernel), List.mem_of_getElem? (i := 782) (by decide +kernel)⟩
theorem lw_p61 : lw_okq (⟨"PaperCutter$Arranger", "leastWithLast", "(II)I"⟩, 7) := ⟨⟨by decide +kernel, by decide +kernel⟩, List.mem_of_getElem? (i := 256) (by decide +kernel), List.mem_of_getElem? (i := 785) (by decide +kernel), List.mem_of_getElem? (i := 786) (by decide +kernel)⟩
theorem lw_p62 : lw_okq (⟨"PaperCutter$Arranger", "leastOf", "(II)I"⟩, 7) := ⟨⟨by decide +kernel, by decide +kernel⟩, List.mem_of_getElem? (i := 256) (by decide +kernel), List.mem_of_getElem? (i := 789) (by decide +kernel), List.mem_of_getElem? (i := 790) (by decide +kernel)⟩
theorem lw_p63 : lw_okq (⟨"PaperCutter$Plan", "keepRemnant", "(I)I"⟩, 7) := ⟨⟨by decide +kernel, by decide +kernel⟩, List.mem_of_getElem? (i := 27) (by decide +kernel), List.mem_of_getElem? (i := 797) (by decide +kernel), List.mem_of_getElem? (i := 798) (by decide +kernel)⟩
def lw_privs_4 : List (MethodName × Nat) := [(⟨"PaperCutter$Run", "waste", "()I"⟩, 8), (⟨"PaperCutter$Run", "remnantWidth", "()I"⟩, 8), (⟨"PaperCutter$Plan", "exchange", "(II)I"⟩, 7), (⟨"PaperCutter$Plan", "sumOfSetups", "()I"⟩, 7), (⟨"PaperCutter$Plan", "divide", "(II)I"⟩, 7), (⟨"PaperCutter", "writeStrips", "(II)V"⟩, 15), (⟨"PaperCutter", "writeSign", "(C)V"⟩, 15), (⟨"PaperCutter$Plan", "putInOrder", "(ILPaperCutter$Arranger;)I"⟩, 7), (⟨"PaperCutter$Plan", "chainRuns", "()V"⟩, 7), (⟨"PaperCutter$Arranger", "look", "(LPaperCutter$Plan;)V"⟩, 7), (⟨"PaperCutter$Arranger", "seekLeast", "()V"⟩, 7), (⟨"PaperCutter$Arranger", "reorder", "([LPaperCutter$Run;)V"⟩, 7), (⟨"PaperCutter$Arranger", "leastBySets", "()I"⟩, 7), (⟨"PaperCutter$Arranger", "leastWithLast", "(II)I"⟩, 7), (⟨"PaperCutter$Arranger", "leastOf", "(II)I"⟩, 7), (⟨"PaperCutter$Plan", "keepRemnant", "(I)I"⟩, 7)]
theorem lw_r4 : ∀ q ∈ lw_privs_4, lw_okq q := List.forall_mem_cons.mpr ⟨lw_p48, List.forall_mem_cons.mpr ⟨lw_p49, List.forall_mem_cons.mpr ⟨lw_p50, List.forall_mem_cons.mpr ⟨lw_p51, List.forall_mem_cons.mpr ⟨lw_p52, List.forall_mem_cons.mpr ⟨lw_p53, List.forall_mem_cons.mpr ⟨lw_p54, List.forall_mem_cons.mpr ⟨lw_p55, List.forall_mem_cons.mpr ⟨lw_p56, List.forall_mem_cons.mpr ⟨lw_p57, List.forall_mem_cons.mpr ⟨lw_p58, List.forall_mem_cons.mpr ⟨lw_p59, List.forall_mem_cons.mpr ⟨lw_p60, List.forall_mem_cons.mpr ⟨lw_p61, List.forall_mem_cons.mpr ⟨lw_p62, List.forall_mem_cons.mpr ⟨lw_p63, fun _ h => absurd h List.not_mem_nil⟩⟩⟩⟩⟩⟩⟩⟩⟩⟩⟩⟩⟩⟩⟩⟩
theorem lw_p64 : lw_okq (⟨"PaperCutter$Plan", "ordersMet", "()I"⟩, 7) := ⟨⟨by decide +kernel, by decide +kernel⟩, List.mem_of_getElem? (i := 27) (by decide +kernel), List.mem_of_getElem? (i := 806) (by decide +kernel), List.mem_of_getElem? (i := 807) (by decide +kernel)⟩
theorem lw_p65 : lw_okq (⟨"PaperCutter$Plan", "wasteOfAll", "()I"⟩, 7) := ⟨⟨by decide +kernel, by decide +kernel⟩, List.mem_of_getElem? (i := 27) (by decide +kernel), List.mem_of_getElem? (i := 810) (by decide +kernel), List.mem_of_getElem? (i := 811) (by decide +kernel)⟩
theorem lw_p66 : lw_okq (⟨"PaperCutter$Plan", "areaLeft", "()I"⟩, 7) := ⟨⟨by decide +kernel, by decide +kernel⟩, List.mem_of_getElem? (i := 27) (by decide +kernel), List.mem_of_getElem? (i := 816) (by decide +kernel), List.mem_of_getElem? (i := 817) (by decide +kernel)⟩
theorem lw_p67 : lw_okq (⟨"PaperCutter$Plan", "areaOfRolls", "()I"⟩, 7) := ⟨⟨by decide +kernel, by decide +kernel⟩, List.mem_of_getElem? (i := 27) (by decide +kernel), List.mem_of_getElem? (i := 824) (by decide +kernel), List.mem_of_getElem? (i := 825) (by decide +kernel)⟩
theorem lw_p68 : lw_okq (⟨"PaperCutter$Plan", "areaMade", "()I"⟩, 7) := ⟨⟨by decide +kernel, by decide +kernel⟩, List.mem_of_getElem? (i := 27) (by decide +kernel), List.mem_of_getElem? (i := 829) (by decide +kernel), List.mem_of_getElem? (i := 830) (by decide +kernel)⟩
theorem lw_p69 : lw_okq (⟨"PaperCutter$Plan", "areaKept", "()I"⟩, 7) := ⟨⟨by decide +kernel, by decide +kernel⟩, List.mem_of_getElem? (i := 27) (by decide +kernel), List.mem_of_getElem? (i := 833) (by decide +kernel), List.mem_of_getElem? (i := 834) (by decide +kernel)⟩
theorem lw_p70 : lw_okq (⟨"PaperCutter$Plan", "ordersOfGrade", "(I)I"⟩, 7) := ⟨⟨by decide +kernel, by decide +kernel⟩, List.mem_of_getElem? (i := 27) (by decide +kernel), List.mem_of_getElem? (i := 842) (by decide +kernel), List.mem_of_getElem? (i := 843) (by decide +kernel)⟩
theorem lw_p71 : lw_okq (⟨"PaperCutter$Plan", "metOfGrade", "(I)I"⟩, 7) := ⟨⟨by decide +kernel, by decide +kernel⟩, List.mem_of_getElem? (i := 27) (by decide +kernel), List.mem_of_getElem? (i := 846) (by decide +kernel), List.mem_of_getElem? (i := 847) (by decide +kernel)⟩
theorem lw_p72 : lw_okq (⟨"PaperCutter$Plan", "rollsLeftOfGrade", "(I)I"⟩, 7) := ⟨⟨by decide +kernel, by decide +kernel⟩, List.mem_of_getElem? (i := 27) (by decide +kernel), List.mem_of_getElem? (i := 850) (by decide +kernel), List.mem_of_getElem? (i := 851) (by decide +kernel)⟩
theorem lw_p73 : lw_okq (⟨"PaperCutter$Plan", "areaLeftOfGrade", "(I)I"⟩, 7) := ⟨⟨by decide +kernel, by decide +kernel⟩, List.mem_of_getElem? (i := 27) (by decide +kernel), List.mem_of_getElem? (i := 854) (by decide +kernel), List.mem_of_getElem? (i := 855) (by decide +kernel)⟩
theorem lw_p74 : lw_okq (⟨"PaperCutter$Plan", "wasteOfGrade", "(I)I"⟩, 7) := ⟨⟨by decide +kernel, by decide +kernel⟩, List.mem_of_getElem? (i := 27) (by decide +kernel), List.mem_of_getElem? (i := 858) (by decide +kernel), List.mem_of_getElem? (i := 859) (by decide +kernel)⟩
theorem lw_p75 : lw_okq (⟨"PaperCutter$Plan", "areaForWorse", "(I)I"⟩, 7) := ⟨⟨by decide +kernel, by decide +kernel⟩, List.mem_of_getElem? (i := 27) (by decide +kernel), List.mem_of_getElem? (i := 862) (by decide +kernel), List.mem_of_getElem? (i := 863) (by decide +kernel)⟩
theorem lw_p76 : lw_okq (⟨"PaperCutter$Plan", "areaForWorseIn", "(LPaperCutter$Run;I)I"⟩, 7) := ⟨⟨by decide +kernel, by decide +kernel⟩, List.mem_of_getElem? (i := 27) (by decide +kernel), List.mem_of_getElem? (i := 866) (by decide +kernel), List.mem_of_getElem? (i := 867) (by decide +kernel)⟩
theorem lw_p77 : lw_okq (⟨"PaperCutter$Text", "readCommands", "()Z"⟩, 6) := ⟨⟨by decide +kernel, by decide +kernel⟩, List.mem_of_getElem? (i := 287) (by decide +kernel), List.mem_of_getElem? (i := 874) (by decide +kernel), List.mem_of_getElem? (i := 875) (by decide +kernel)⟩
theorem lw_p78 : lw_okq (⟨"PaperCutter$Text", "readCommand", "(LPaperCutter$Command;)Z"⟩, 6) := ⟨⟨by decide +kernel, by decide +kernel⟩, List.mem_of_getElem? (i := 287) (by decide +kernel), List.mem_of_getElem? (i := 878) (by decide +kernel), List.mem_of_getElem? (i := 879) (by decide +kernel)⟩
theorem lw_p79 : lw_okq (⟨"PaperCutter$Text", "wordHere", "()I"⟩, 6) := ⟨⟨by decide +kernel, by decide +kernel⟩, List.mem_of_getElem? (i := 287) (by decide +kernel), List.mem_of_getElem? (i := 882) (by decide +kernel), List.mem_of_getElem? (i := 883) (by decide +kernel)⟩
def lw_privs_5 : List (MethodName × Nat) := [(⟨"PaperCutter$Plan", "ordersMet", "()I"⟩, 7), (⟨"PaperCutter$Plan", "wasteOfAll", "()I"⟩, 7), (⟨"PaperCutter$Plan", "areaLeft", "()I"⟩, 7), (⟨"PaperCutter$Plan", "areaOfRolls", "()I"⟩, 7), (⟨"PaperCutter$Plan", "areaMade", "()I"⟩, 7), (⟨"PaperCutter$Plan", "areaKept", "()I"⟩, 7), (⟨"PaperCutter$Plan", "ordersOfGrade", "(I)I"⟩, 7), (⟨"PaperCutter$Plan", "metOfGrade", "(I)I"⟩, 7), (⟨"PaperCutter$Plan", "rollsLeftOfGrade", "(I)I"⟩, 7), (⟨"PaperCutter$Plan", "areaLeftOfGrade", "(I)I"⟩, 7), (⟨"PaperCutter$Plan", "wasteOfGrade", "(I)I"⟩, 7), (⟨"PaperCutter$Plan", "areaForWorse", "(I)I"⟩, 7), (⟨"PaperCutter$Plan", "areaForWorseIn", "(LPaperCutter$Run;I)I"⟩, 7), (⟨"PaperCutter$Text", "readCommands", "()Z"⟩, 6), (⟨"PaperCutter$Text", "readCommand", "(LPaperCutter$Command;)Z"⟩, 6), (⟨"PaperCutter$Text", "wordHere", "()I"⟩, 6)]
theorem lw_r5 : ∀ q ∈ lw_privs_5, lw_okq q := List.forall_mem_cons.mpr ⟨lw_p64, List.forall_mem_cons.mpr ⟨lw_p65, List.forall_mem_cons.mpr ⟨lw_p66, List.forall_mem_cons.mpr ⟨lw_p67, List.forall_mem_cons.mpr ⟨lw_p68, List.forall_mem_cons.mpr ⟨lw_p69, List.forall_mem_cons.mpr ⟨lw_p70, List.forall_mem_cons.mpr ⟨lw_p71, List.forall_mem_cons.mpr ⟨lw_p72, List.forall_mem_cons.mpr ⟨lw_p73, List.forall_mem_cons.mpr ⟨lw_p74, List.forall_mem_cons.mpr ⟨lw_p75, List.forall_mem_cons.mpr ⟨lw_p76, List.forall_mem_cons.mpr ⟨lw_p77, List.forall_mem_cons.mpr ⟨lw_p78, List.forall_mem_cons.mpr ⟨lw_p79, fun _ h => absurd h List.not_mem_nil⟩⟩⟩⟩⟩⟩⟩⟩⟩⟩⟩⟩⟩⟩⟩⟩
theorem lw_p80 : lw_okq (⟨"PaperCutter$Text", "isHere", "(Ljava/lang/String;)Z"⟩, 6) := ⟨⟨by decide +kernel, by decide +kernel⟩, List.mem_of_getElem? (i := 287) (by decide +kernel), List.mem_of_getElem? (i := 894) (by decide +kernel), List.mem_of_getElem? (i := 895) (by decide +kernel)⟩
theorem lw_p81 : lw_okq (⟨"PaperCutter$Text", "readNumber", "(LPaperCutter$Command;I)Z"⟩, 6) := ⟨⟨by decide +kernel, by decide +kernel⟩, List.mem_of_getElem? (i := 287) (by decide +kernel), List.mem_of_getElem? (i := 949) (by decide +kernel), List.mem_of_getElem? (i := 950) (by decide +kernel)⟩
theorem lw_p82 : lw_okq (⟨"PaperCutter$Text", "stands", "(C)Z"⟩, 6) := ⟨⟨by decide +kernel, by decide +kernel⟩, List.mem_of_getElem? (i := 287) (by decide +kernel), List.mem_of_getElem? (i := 953) (by decide +kernel), List.mem_of_getElem? (i := 954) (by decide +kernel)⟩
theorem lw_p83 : lw_okq (⟨"PaperCutter$Text", "readBetter", "(LPaperCutter$Command;)Z"⟩, 6) := ⟨⟨by decide +kernel, by decide +kernel⟩, List.mem_of_getElem? (i := 287) (by decide +kernel), List.mem_of_getElem? (i := 957) (by decide +kernel), List.mem_of_getElem? (i := 958) (by decide +kernel)⟩
theorem lw_p84 : lw_okq (⟨"PaperCutterModel", "keepBefore", "()V"⟩, 31) := ⟨⟨by decide +kernel, by decide +kernel⟩, List.mem_of_getElem? (i := 983) (by decide +kernel), List.mem_of_getElem? (i := 1091) (by decide +kernel), List.mem_of_getElem? (i := 1092) (by decide +kernel)⟩
theorem lw_p85 : lw_okq (⟨"PaperCutterModel", "remember", "()V"⟩, 31) := ⟨⟨by decide +kernel, by decide +kernel⟩, List.mem_of_getElem? (i := 983) (by decide +kernel), List.mem_of_getElem? (i := 1095) (by decide +kernel), List.mem_of_getElem? (i := 1096) (by decide +kernel)⟩
theorem lw_p86 : lw_okq (⟨"PaperCutterModel", "layOrder", "(IIIIII)I"⟩, 31) := ⟨⟨by decide +kernel, by decide +kernel⟩, List.mem_of_getElem? (i := 983) (by decide +kernel), List.mem_of_getElem? (i := 1103) (by decide +kernel), List.mem_of_getElem? (i := 1104) (by decide +kernel)⟩
theorem lw_p87 : lw_okq (⟨"PaperCutterModel", "changed", "(I)I"⟩, 31) := ⟨⟨by decide +kernel, by decide +kernel⟩, List.mem_of_getElem? (i := 983) (by decide +kernel), List.mem_of_getElem? (i := 1107) (by decide +kernel), List.mem_of_getElem? (i := 1108) (by decide +kernel)⟩
theorem lw_p88 : lw_okq (⟨"PaperCutterModel", "layRoll", "(III)I"⟩, 31) := ⟨⟨by decide +kernel, by decide +kernel⟩, List.mem_of_getElem? (i := 983) (by decide +kernel), List.mem_of_getElem? (i := 1115) (by decide +kernel), List.mem_of_getElem? (i := 1116) (by decide +kernel)⟩
theorem lw_p89 : lw_okq (⟨"PaperCutterModel", "comesRoll", "(III)I"⟩, 31) := ⟨⟨by decide +kernel, by decide +kernel⟩, List.mem_of_getElem? (i := 983) (by decide +kernel), List.mem_of_getElem? (i := 1119) (by decide +kernel), List.mem_of_getElem? (i := 1120) (by decide +kernel)⟩
theorem lw_p90 : lw_okq (⟨"PaperCutterModel", "isOrder", "(I)Z"⟩, 31) := ⟨⟨by decide +kernel, by decide +kernel⟩, List.mem_of_getElem? (i := 983) (by decide +kernel), List.mem_of_getElem? (i := 1127) (by decide +kernel), List.mem_of_getElem? (i := 1128) (by decide +kernel)⟩
theorem lw_p91 : lw_okq (⟨"PaperCutterModel", "o", "(II)I"⟩, 31) := ⟨⟨by decide +kernel, by decide +kernel⟩, List.mem_of_getElem? (i := 983) (by decide +kernel), List.mem_of_getElem? (i := 1131) (by decide +kernel), List.mem_of_getElem? (i := 1132) (by decide +kernel)⟩
theorem lw_p92 : lw_okq (⟨"PaperCutterModel", "leastOf", "(I)I"⟩, 31) := ⟨⟨by decide +kernel, by decide +kernel⟩, List.mem_of_getElem? (i := 983) (by decide +kernel), List.mem_of_getElem? (i := 1135) (by decide +kernel), List.mem_of_getElem? (i := 1136) (by decide +kernel)⟩
theorem lw_p93 : lw_okq (⟨"PaperCutterModel", "allowance", "(I)I"⟩, 31) := ⟨⟨by decide +kernel, by decide +kernel⟩, List.mem_of_getElem? (i := 983) (by decide +kernel), List.mem_of_getElem? (i := 1139) (by decide +kernel), List.mem_of_getElem? (i := 1140) (by decide +kernel)⟩
theorem lw_p94 : lw_okq (⟨"PaperCutterModel", "madeFor", "(I)I"⟩, 31) := ⟨⟨by decide +kernel, by decide +kernel⟩, List.mem_of_getElem? (i := 983) (by decide +kernel), List.mem_of_getElem? (i := 1143) (by decide +kernel), List.mem_of_getElem? (i := 1144) (by decide +kernel)⟩
theorem lw_p95 : lw_okq (⟨"PaperCutterModel", "strips", "(II)I"⟩, 31) := ⟨⟨by decide +kernel, by decide +kernel⟩, List.mem_of_getElem? (i := 983) (by decide +kernel), List.mem_of_getElem? (i := 1147) (by decide +kernel), List.mem_of_getElem? (i := 1148) (by decide +kernel)⟩
def lw_privs_6 : List (MethodName × Nat) := [(⟨"PaperCutter$Text", "isHere", "(Ljava/lang/String;)Z"⟩, 6), (⟨"PaperCutter$Text", "readNumber", "(LPaperCutter$Command;I)Z"⟩, 6), (⟨"PaperCutter$Text", "stands", "(C)Z"⟩, 6), (⟨"PaperCutter$Text", "readBetter", "(LPaperCutter$Command;)Z"⟩, 6), (⟨"PaperCutterModel", "keepBefore", "()V"⟩, 31), (⟨"PaperCutterModel", "remember", "()V"⟩, 31), (⟨"PaperCutterModel", "layOrder", "(IIIIII)I"⟩, 31), (⟨"PaperCutterModel", "changed", "(I)I"⟩, 31), (⟨"PaperCutterModel", "layRoll", "(III)I"⟩, 31), (⟨"PaperCutterModel", "comesRoll", "(III)I"⟩, 31), (⟨"PaperCutterModel", "isOrder", "(I)Z"⟩, 31), (⟨"PaperCutterModel", "o", "(II)I"⟩, 31), (⟨"PaperCutterModel", "leastOf", "(I)I"⟩, 31), (⟨"PaperCutterModel", "allowance", "(I)I"⟩, 31), (⟨"PaperCutterModel", "madeFor", "(I)I"⟩, 31), (⟨"PaperCutterModel", "strips", "(II)I"⟩, 31)]
theorem lw_r6 : ∀ q ∈ lw_privs_6, lw_okq q := List.forall_mem_cons.mpr ⟨lw_p80, List.forall_mem_cons.mpr ⟨lw_p81, List.forall_mem_cons.mpr ⟨lw_p82, List.forall_mem_cons.mpr ⟨lw_p83, List.forall_mem_cons.mpr ⟨lw_p84, List.forall_mem_cons.mpr ⟨lw_p85, List.forall_mem_cons.mpr ⟨lw_p86, List.forall_mem_cons.mpr ⟨lw_p87, List.forall_mem_cons.mpr ⟨lw_p88, List.forall_mem_cons.mpr ⟨lw_p89, List.forall_mem_cons.mpr ⟨lw_p90, List.forall_mem_cons.mpr ⟨lw_p91, List.forall_mem_cons.mpr ⟨lw_p92, List.forall_mem_cons.mpr ⟨lw_p93, List.forall_mem_cons.mpr ⟨lw_p94, List.forall_mem_cons.mpr ⟨lw_p95, fun _ h => absurd h List.not_mem_nil⟩⟩⟩⟩⟩⟩⟩⟩⟩⟩⟩⟩⟩⟩⟩⟩
theorem lw_p96 : lw_okq (⟨"PaperCutterModel", "u", "(II)I"⟩, 31) := ⟨⟨by decide +kernel, by decide +kernel⟩, List.mem_of_getElem? (i := 983) (by decide +kernel), List.mem_of_getElem? (i := 1151) (by decide +kernel), List.mem_of_getElem? (i := 1152) (by decide +kernel)⟩
theorem lw_p97 : lw_okq (⟨"PaperCutterModel", "roomOf", "(I)I"⟩, 31) := ⟨⟨by decide +kernel, by decide +kernel⟩, List.mem_of_getElem? (i := 983) (by decide +kernel), List.mem_of_getElem? (i := 1155) (by decide +kernel), List.mem_of_getElem? (i := 1156) (by decide +kernel)⟩
theorem lw_p98 : lw_okq (⟨"PaperCutterModel", "isMet", "(I)Z"⟩, 31) := ⟨⟨by decide +kernel, by decide +kernel⟩, List.mem_of_getElem? (i := 983) (by decide +kernel), List.mem_of_getElem? (i := 1159) (by decide +kernel), List.mem_of_getElem? (i := 1160) (by decide +kernel)⟩
theorem lw_p99 : lw_okq (⟨"PaperCutterModel", "runsFor", "(I)I"⟩, 31) := ⟨⟨by decide +kernel, by decide +kernel⟩, List.mem_of_getElem? (i := 983) (by decide +kernel), List.mem_of_getElem? (i := 1163) (by decide +kernel), List.mem_of_getElem? (i := 1164) (by decide +kernel)⟩
theorem lw_p100 : lw_okq (⟨"PaperCutterModel", "isRoll", "(I)Z"⟩, 31) := ⟨⟨by decide +kernel, by decide +kernel⟩, List.mem_of_getElem? (i := 983) (by decide +kernel), List.mem_of_getElem? (i := 1171) (by decide +kernel), List.mem_of_getElem? (i := 1172) (by decide +kernel)⟩
theorem lw_p101 : lw_okq (⟨"PaperCutterModel", "r", "(II)I"⟩, 31) := ⟨⟨by decide +kernel, by decide +kernel⟩, List.mem_of_getElem? (i := 983) (by decide +kernel), List.mem_of_getElem? (i := 1175) (by decide +kernel), List.mem_of_getElem? (i := 1176) (by decide +kernel)⟩
theorem lw_p102 : lw_okq (⟨"PaperCutterModel", "leftOf", "(I)I"⟩, 31) := ⟨⟨by decide +kernel, by decide +kernel⟩, List.mem_of_getElem? (i := 983) (by decide +kernel), List.mem_of_getElem? (i := 1179) (by decide +kernel), List.mem_of_getElem? (i := 1180) (by decide +kernel)⟩
theorem lw_p103 : lw_okq (⟨"PaperCutterModel", "runsOf", "(I)I"⟩, 31) := ⟨⟨by decide +kernel, by decide +kernel⟩, List.mem_of_getElem? (i := 983) (by decide +kernel), List.mem_of_getElem? (i := 1183) (by decide +kernel), List.mem_of_getElem? (i := 1184) (by decide +kernel)⟩
theorem lw_p104 : lw_okq (⟨"PaperCutterModel", "remnantOf", "(I)I"⟩, 31) := ⟨⟨by decide +kernel, by decide +kernel⟩, List.mem_of_getElem? (i := 983) (by decide +kernel), List.mem_of_getElem? (i := 1187) (by decide +kernel), List.mem_of_getElem? (i := 1188) (by decide +kernel)⟩
theorem lw_p105 : lw_okq (⟨"PaperCutterModel", "isAhead", "(II)Z"⟩, 31) := ⟨⟨by decide +kernel, by decide +kernel⟩, List.mem_of_getElem? (i := 983) (by decide +kernel), List.mem_of_getElem? (i := 1195) (by decide +kernel), List.mem_of_getElem? (i := 1196) (by decide +kernel)⟩
theorem lw_p106 : lw_okq (⟨"PaperCutterModel", "canUse", "(II)Z"⟩, 31) := ⟨⟨by decide +kernel, by decide +kernel⟩, List.mem_of_getElem? (i := 983) (by decide +kernel), List.mem_of_getElem? (i := 1203) (by decide +kernel), List.mem_of_getElem? (i := 1204) (by decide +kernel)⟩
theorem lw_p107 : lw_okq (⟨"PaperCutterModel", "alone", "(II)I"⟩, 31) := ⟨⟨by decide +kernel, by decide +kernel⟩, List.mem_of_getElem? (i := 983) (by decide +kernel), List.mem_of_getElem? (i := 1207) (by decide +kernel), List.mem_of_getElem? (i := 1208) (by decide +kernel)⟩
theorem lw_p108 : lw_okq (⟨"PaperCutterModel", "isPossible", "(II)Z"⟩, 31) := ⟨⟨by decide +kernel, by decide +kernel⟩, List.mem_of_getElem? (i := 983) (by decide +kernel), List.mem_of_getElem? (i := 1211) (by decide +kernel), List.mem_of_getElem? (i := 1212) (by decide +kernel)⟩
theorem lw_p109 : lw_okq (⟨"PaperCutterModel", "hasBest", "(I)Z"⟩, 31) := ⟨⟨by decide +kernel, by decide +kernel⟩, List.mem_of_getElem? (i := 983) (by decide +kernel), List.mem_of_getElem? (i := 1226) (by decide +kernel), List.mem_of_getElem? (i := 1227) (by decide +kernel)⟩
theorem lw_p110 : lw_okq (⟨"PaperCutterModel", "looks", "(I)V"⟩, 31) := ⟨⟨by decide +kernel, by decide +kernel⟩, List.mem_of_getElem? (i := 983) (by decide +kernel), List.mem_of_getElem? (i := 1230) (by decide +kernel), List.mem_of_getElem? (i := 1231) (by decide +kernel)⟩
theorem lw_p111 : lw_okq (⟨"PaperCutterModel", "isWanting", "(I)Z"⟩, 31) := ⟨⟨by decide +kernel, by decide +kernel⟩, List.mem_of_getElem? (i := 983) (by decide +kernel), List.mem_of_getElem? (i := 1234) (by decide +kernel), List.mem_of_getElem? (i := 1235) (by decide +kernel)⟩
def lw_privs_7 : List (MethodName × Nat) := [(⟨"PaperCutterModel", "u", "(II)I"⟩, 31), (⟨"PaperCutterModel", "roomOf", "(I)I"⟩, 31), (⟨"PaperCutterModel", "isMet", "(I)Z"⟩, 31), (⟨"PaperCutterModel", "runsFor", "(I)I"⟩, 31), (⟨"PaperCutterModel", "isRoll", "(I)Z"⟩, 31), (⟨"PaperCutterModel", "r", "(II)I"⟩, 31), (⟨"PaperCutterModel", "leftOf", "(I)I"⟩, 31), (⟨"PaperCutterModel", "runsOf", "(I)I"⟩, 31), (⟨"PaperCutterModel", "remnantOf", "(I)I"⟩, 31), (⟨"PaperCutterModel", "isAhead", "(II)Z"⟩, 31), (⟨"PaperCutterModel", "canUse", "(II)Z"⟩, 31), (⟨"PaperCutterModel", "alone", "(II)I"⟩, 31), (⟨"PaperCutterModel", "isPossible", "(II)Z"⟩, 31), (⟨"PaperCutterModel", "hasBest", "(I)Z"⟩, 31), (⟨"PaperCutterModel", "looks", "(I)V"⟩, 31), (⟨"PaperCutterModel", "isWanting", "(I)Z"⟩, 31)]
theorem lw_r7 : ∀ q ∈ lw_privs_7, lw_okq q := List.forall_mem_cons.mpr ⟨lw_p96, List.forall_mem_cons.mpr ⟨lw_p97, List.forall_mem_cons.mpr ⟨lw_p98, List.forall_mem_cons.mpr ⟨lw_p99, List.forall_mem_cons.mpr ⟨lw_p100, List.forall_mem_cons.mpr ⟨lw_p101, List.forall_mem_cons.mpr ⟨lw_p102, List.forall_mem_cons.mpr ⟨lw_p103, List.forall_mem_cons.mpr ⟨lw_p104, List.forall_mem_cons.mpr ⟨lw_p105, List.forall_mem_cons.mpr ⟨lw_p106, List.forall_mem_cons.mpr ⟨lw_p107, List.forall_mem_cons.mpr ⟨lw_p108, List.forall_mem_cons.mpr ⟨lw_p109, List.forall_mem_cons.mpr ⟨lw_p110, List.forall_mem_cons.mpr ⟨lw_p111, fun _ h => absurd h List.not_mem_nil⟩⟩⟩⟩⟩⟩⟩⟩⟩⟩⟩⟩⟩⟩⟩⟩
theorem lw_p112 : lw_okq (⟨"PaperCutterModel", "tries", "(III)V"⟩, 31) := ⟨⟨by decide +kernel, by decide +kernel⟩, List.mem_of_getElem? (i := 983) (by decide +kernel), List.mem_of_getElem? (i := 1238) (by decide +kernel), List.mem_of_getElem? (i := 1239) (by decide +kernel)⟩
theorem lw_p113 : lw_okq (⟨"PaperCutterModel", "offers", "(II)V"⟩, 31) := ⟨⟨by decide +kernel, by decide +kernel⟩, List.mem_of_getElem? (i := 983) (by decide +kernel), List.mem_of_getElem? (i := 1242) (by decide +kernel), List.mem_of_getElem? (i := 1243) (by decide +kernel)⟩
theorem lw_p114 : lw_okq (⟨"PaperCutterModel", "bestLength", "(I)I"⟩, 31) := ⟨⟨by decide +kernel, by decide +kernel⟩, List.mem_of_getElem? (i := 983) (by decide +kernel), List.mem_of_getElem? (i := 1247) (by decide +kernel), List.mem_of_getElem? (i := 1248) (by decide +kernel)⟩
theorem lw_p115 : lw_okq (⟨"PaperCutterModel", "readsPattern", "()V"⟩, 31) := ⟨⟨by decide +kernel, by decide +kernel⟩, List.mem_of_getElem? (i := 983) (by decide +kernel), List.mem_of_getElem? (i := 1264) (by decide +kernel), List.mem_of_getElem? (i := 1265) (by decide +kernel)⟩
theorem lw_p116 : lw_okq (⟨"PaperCutterModel", "takesText", "()V"⟩, 31) := ⟨⟨by decide +kernel, by decide +kernel⟩, List.mem_of_getElem? (i := 983) (by decide +kernel), List.mem_of_getElem? (i := 1268) (by decide +kernel), List.mem_of_getElem? (i := 1269) (by decide +kernel)⟩
theorem lw_p117 : lw_okq (⟨"PaperCutterModel", "readsStrips", "()V"⟩, 31) := ⟨⟨by decide +kernel, by decide +kernel⟩, List.mem_of_getElem? (i := 983) (by decide +kernel), List.mem_of_getElem? (i := 1272) (by decide +kernel), List.mem_of_getElem? (i := 1273) (by decide +kernel)⟩
theorem lw_p118 : lw_okq (⟨"PaperCutterModel", "digit", "(C)I"⟩, 31) := ⟨⟨by decide +kernel, by decide +kernel⟩, List.mem_of_getElem? (i := 983) (by decide +kernel), List.mem_of_getElem? (i := 1276) (by decide +kernel), List.mem_of_getElem? (i := 1277) (by decide +kernel)⟩
theorem lw_p119 : lw_okq (⟨"PaperCutterModel", "isAt", "(CC)Z"⟩, 31) := ⟨⟨by decide +kernel, by decide +kernel⟩, List.mem_of_getElem? (i := 983) (by decide +kernel), List.mem_of_getElem? (i := 1280) (by decide +kernel), List.mem_of_getElem? (i := 1281) (by decide +kernel)⟩
theorem lw_p120 : lw_okq (⟨"PaperCutterModel", "expects", "(C)V"⟩, 31) := ⟨⟨by decide +kernel, by decide +kernel⟩, List.mem_of_getElem? (i := 983) (by decide +kernel), List.mem_of_getElem? (i := 1284) (by decide +kernel), List.mem_of_getElem? (i := 1285) (by decide +kernel)⟩
theorem lw_p121 : lw_okq (⟨"PaperCutterModel", "refusal", "(II)I"⟩, 31) := ⟨⟨by decide +kernel, by decide +kernel⟩, List.mem_of_getElem? (i := 983) (by decide +kernel), List.mem_of_getElem? (i := 1288) (by decide +kernel), List.mem_of_getElem? (i := 1289) (by decide +kernel)⟩
theorem lw_p122 : lw_okq (⟨"PaperCutterModel", "restOn", "(I)I"⟩, 31) := ⟨⟨by decide +kernel, by decide +kernel⟩, List.mem_of_getElem? (i := 983) (by decide +kernel), List.mem_of_getElem? (i := 1292) (by decide +kernel), List.mem_of_getElem? (i := 1293) (by decide +kernel)⟩
theorem lw_p123 : lw_okq (⟨"PaperCutterModel", "stripsIn", "()I"⟩, 31) := ⟨⟨by decide +kernel, by decide +kernel⟩, List.mem_of_getElem? (i := 983) (by decide +kernel), List.mem_of_getElem? (i := 1296) (by decide +kernel), List.mem_of_getElem? (i := 1297) (by decide +kernel)⟩
theorem lw_p124 : lw_okq (⟨"PaperCutterModel", "comesRun", "(II)I"⟩, 31) := ⟨⟨by decide +kernel, by decide +kernel⟩, List.mem_of_getElem? (i := 983) (by decide +kernel), List.mem_of_getElem? (i := 1300) (by decide +kernel), List.mem_of_getElem? (i := 1301) (by decide +kernel)⟩
theorem lw_p125 : lw_okq (⟨"PaperCutterModel", "tryCut", "(I)I"⟩, 31) := ⟨⟨by decide +kernel, by decide +kernel⟩, List.mem_of_getElem? (i := 983) (by decide +kernel), List.mem_of_getElem? (i := 1308) (by decide +kernel), List.mem_of_getElem? (i := 1309) (by decide +kernel)⟩
theorem lw_p126 : lw_okq (⟨"PaperCutterModel", "cuts", "(I)I"⟩, 31) := ⟨⟨by decide +kernel, by decide +kernel⟩, List.mem_of_getElem? (i := 983) (by decide +kernel), List.mem_of_getElem? (i := 1312) (by decide +kernel), List.mem_of_getElem? (i := 1313) (by decide +kernel)⟩
theorem lw_p127 : lw_okq (⟨"PaperCutterModel", "cutsAll", "()I"⟩, 31) := ⟨⟨by decide +kernel, by decide +kernel⟩, List.mem_of_getElem? (i := 983) (by decide +kernel), List.mem_of_getElem? (i := 1320) (by decide +kernel), List.mem_of_getElem? (i := 1321) (by decide +kernel)⟩
def lw_privs_8 : List (MethodName × Nat) := [(⟨"PaperCutterModel", "tries", "(III)V"⟩, 31), (⟨"PaperCutterModel", "offers", "(II)V"⟩, 31), (⟨"PaperCutterModel", "bestLength", "(I)I"⟩, 31), (⟨"PaperCutterModel", "readsPattern", "()V"⟩, 31), (⟨"PaperCutterModel", "takesText", "()V"⟩, 31), (⟨"PaperCutterModel", "readsStrips", "()V"⟩, 31), (⟨"PaperCutterModel", "digit", "(C)I"⟩, 31), (⟨"PaperCutterModel", "isAt", "(CC)Z"⟩, 31), (⟨"PaperCutterModel", "expects", "(C)V"⟩, 31), (⟨"PaperCutterModel", "refusal", "(II)I"⟩, 31), (⟨"PaperCutterModel", "restOn", "(I)I"⟩, 31), (⟨"PaperCutterModel", "stripsIn", "()I"⟩, 31), (⟨"PaperCutterModel", "comesRun", "(II)I"⟩, 31), (⟨"PaperCutterModel", "tryCut", "(I)I"⟩, 31), (⟨"PaperCutterModel", "cuts", "(I)I"⟩, 31), (⟨"PaperCutterModel", "cutsAll", "()I"⟩, 31)]
theorem lw_r8 : ∀ q ∈ lw_privs_8, lw_okq q := List.forall_mem_cons.mpr ⟨lw_p112, List.forall_mem_cons.mpr ⟨lw_p113, List.forall_mem_cons.mpr ⟨lw_p114, List.forall_mem_cons.mpr ⟨lw_p115, List.forall_mem_cons.mpr ⟨lw_p116, List.forall_mem_cons.mpr ⟨lw_p117, List.forall_mem_cons.mpr ⟨lw_p118, List.forall_mem_cons.mpr ⟨lw_p119, List.forall_mem_cons.mpr ⟨lw_p120, List.forall_mem_cons.mpr ⟨lw_p121, List.forall_mem_cons.mpr ⟨lw_p122, List.forall_mem_cons.mpr ⟨lw_p123, List.forall_mem_cons.mpr ⟨lw_p124, List.forall_mem_cons.mpr ⟨lw_p125, List.forall_mem_cons.mpr ⟨lw_p126, List.forall_mem_cons.mpr ⟨lw_p127, fun _ h => absurd h List.not_mem_nil⟩⟩⟩⟩⟩⟩⟩⟩⟩⟩⟩⟩⟩⟩⟩⟩
theorem lw_p128 : lw_okq (⟨"PaperCutterModel", "nextRoll", "()I"⟩, 31) := ⟨⟨by decide +kernel, by decide +kernel⟩, List.mem_of_getElem? (i := 983) (by decide +kernel), List.mem_of_getElem? (i := 1324) (by decide +kernel), List.mem_of_getElem? (i := 1325) (by decide +kernel)⟩
theorem lw_p129 : lw_okq (⟨"PaperCutterModel", "isRun", "(I)Z"⟩, 31) := ⟨⟨by decide +kernel, by decide +kernel⟩, List.mem_of_getElem? (i := 983) (by decide +kernel), List.mem_of_getElem? (i := 1332) (by decide +kernel), List.mem_of_getElem? (i := 1333) (by decide +kernel)⟩
theorem lw_p130 : lw_okq (⟨"PaperCutterModel", "exchanges", "(II)V"⟩, 31) := ⟨⟨by decide +kernel, by decide +kernel⟩, List.mem_of_getElem? (i := 983) (by decide +kernel), List.mem_of_getElem? (i := 1340) (by decide +kernel), List.mem_of_getElem? (i := 1341) (by decide +kernel)⟩
theorem lw_p131 : lw_okq (⟨"PaperCutterModel", "setups", "()I"⟩, 31) := ⟨⟨by decide +kernel, by decide +kernel⟩, List.mem_of_getElem? (i := 983) (by decide +kernel), List.mem_of_getElem? (i := 1344) (by decide +kernel), List.mem_of_getElem? (i := 1345) (by decide +kernel)⟩
theorem lw_p132 : lw_okq (⟨"PaperCutterModel", "setupOf", "(II)I"⟩, 31) := ⟨⟨by decide +kernel, by decide +kernel⟩, List.mem_of_getElem? (i := 983) (by decide +kernel), List.mem_of_getElem? (i := 1348) (by decide +kernel), List.mem_of_getElem? (i := 1349) (by decide +kernel)⟩
theorem lw_p133 : lw_okq (⟨"PaperCutterModel", "positionsOf", "(I)I"⟩, 31) := ⟨⟨by decide +kernel, by decide +kernel⟩, List.mem_of_getElem? (i := 983) (by decide +kernel), List.mem_of_getElem? (i := 1352) (by decide +kernel), List.mem_of_getElem? (i := 1353) (by decide +kernel)⟩
theorem lw_p134 : lw_okq (⟨"PaperCutterModel", "stripsOf", "(I)I"⟩, 31) := ⟨⟨by decide +kernel, by decide +kernel⟩, List.mem_of_getElem? (i := 983) (by decide +kernel), List.mem_of_getElem? (i := 1356) (by decide +kernel), List.mem_of_getElem? (i := 1357) (by decide +kernel)⟩
theorem lw_p135 : lw_okq (⟨"PaperCutterModel", "restOf", "(I)I"⟩, 31) := ⟨⟨by decide +kernel, by decide +kernel⟩, List.mem_of_getElem? (i := 983) (by decide +kernel), List.mem_of_getElem? (i := 1360) (by decide +kernel), List.mem_of_getElem? (i := 1361) (by decide +kernel)⟩
theorem lw_p136 : lw_okq (⟨"PaperCutterModel", "positionAt", "(II)I"⟩, 31) := ⟨⟨by decide +kernel, by decide +kernel⟩, List.mem_of_getElem? (i := 983) (by decide +kernel), List.mem_of_getElem? (i := 1364) (by decide +kernel), List.mem_of_getElem? (i := 1365) (by decide +kernel)⟩
theorem lw_p137 : lw_okq (⟨"PaperCutterModel", "hasPosition", "(II)Z"⟩, 31) := ⟨⟨by decide +kernel, by decide +kernel⟩, List.mem_of_getElem? (i := 983) (by decide +kernel), List.mem_of_getElem? (i := 1368) (by decide +kernel), List.mem_of_getElem? (i := 1369) (by decide +kernel)⟩
theorem lw_p138 : lw_okq (⟨"PaperCutterModel", "writes", "(I)V"⟩, 31) := ⟨⟨by decide +kernel, by decide +kernel⟩, List.mem_of_getElem? (i := 983) (by decide +kernel), List.mem_of_getElem? (i := 1380) (by decide +kernel), List.mem_of_getElem? (i := 1381) (by decide +kernel)⟩
theorem lw_p139 : lw_okq (⟨"PaperCutterModel", "wasteOf", "(I)I"⟩, 31) := ⟨⟨by decide +kernel, by decide +kernel⟩, List.mem_of_getElem? (i := 983) (by decide +kernel), List.mem_of_getElem? (i := 1392) (by decide +kernel), List.mem_of_getElem? (i := 1393) (by decide +kernel)⟩
theorem lw_p140 : lw_okq (⟨"PaperCutterModel", "remnantWidth", "(I)I"⟩, 31) := ⟨⟨by decide +kernel, by decide +kernel⟩, List.mem_of_getElem? (i := 983) (by decide +kernel), List.mem_of_getElem? (i := 1396) (by decide +kernel), List.mem_of_getElem? (i := 1397) (by decide +kernel)⟩
theorem lw_p141 : lw_okq (⟨"PaperCutterModel", "arrangesIn", "(I)I"⟩, 31) := ⟨⟨by decide +kernel, by decide +kernel⟩, List.mem_of_getElem? (i := 983) (by decide +kernel), List.mem_of_getElem? (i := 1412) (by decide +kernel), List.mem_of_getElem? (i := 1413) (by decide +kernel)⟩
theorem lw_p142 : lw_okq (⟨"PaperCutterModel", "findsSetups", "()V"⟩, 31) := ⟨⟨by decide +kernel, by decide +kernel⟩, List.mem_of_getElem? (i := 983) (by decide +kernel), List.mem_of_getElem? (i := 1416) (by decide +kernel), List.mem_of_getElem? (i := 1417) (by decide +kernel)⟩
theorem lw_p143 : lw_okq (⟨"PaperCutterModel", "arrangesByNearest", "()V"⟩, 31) := ⟨⟨by decide +kernel, by decide +kernel⟩, List.mem_of_getElem? (i := 983) (by decide +kernel), List.mem_of_getElem? (i := 1420) (by decide +kernel), List.mem_of_getElem? (i := 1421) (by decide +kernel)⟩
def lw_privs_9 : List (MethodName × Nat) := [(⟨"PaperCutterModel", "nextRoll", "()I"⟩, 31), (⟨"PaperCutterModel", "isRun", "(I)Z"⟩, 31), (⟨"PaperCutterModel", "exchanges", "(II)V"⟩, 31), (⟨"PaperCutterModel", "setups", "()I"⟩, 31), (⟨"PaperCutterModel", "setupOf", "(II)I"⟩, 31), (⟨"PaperCutterModel", "positionsOf", "(I)I"⟩, 31), (⟨"PaperCutterModel", "stripsOf", "(I)I"⟩, 31), (⟨"PaperCutterModel", "restOf", "(I)I"⟩, 31), (⟨"PaperCutterModel", "positionAt", "(II)I"⟩, 31), (⟨"PaperCutterModel", "hasPosition", "(II)Z"⟩, 31), (⟨"PaperCutterModel", "writes", "(I)V"⟩, 31), (⟨"PaperCutterModel", "wasteOf", "(I)I"⟩, 31), (⟨"PaperCutterModel", "remnantWidth", "(I)I"⟩, 31), (⟨"PaperCutterModel", "arrangesIn", "(I)I"⟩, 31), (⟨"PaperCutterModel", "findsSetups", "()V"⟩, 31), (⟨"PaperCutterModel", "arrangesByNearest", "()V"⟩, 31)]
theorem lw_r9 : ∀ q ∈ lw_privs_9, lw_okq q := List.forall_mem_cons.mpr ⟨lw_p128, List.forall_mem_cons.mpr ⟨lw_p129, List.forall_mem_cons.mpr ⟨lw_p130, List.forall_mem_cons.mpr ⟨lw_p131, List.forall_mem_cons.mpr ⟨lw_p132, List.forall_mem_cons.mpr ⟨lw_p133, List.forall_mem_cons.mpr ⟨lw_p134, List.forall_mem_cons.mpr ⟨lw_p135, List.forall_mem_cons.mpr ⟨lw_p136, List.forall_mem_cons.mpr ⟨lw_p137, List.forall_mem_cons.mpr ⟨lw_p138, List.forall_mem_cons.mpr ⟨lw_p139, List.forall_mem_cons.mpr ⟨lw_p140, List.forall_mem_cons.mpr ⟨lw_p141, List.forall_mem_cons.mpr ⟨lw_p142, List.forall_mem_cons.mpr ⟨lw_p143, fun _ h => absurd h List.not_mem_nil⟩⟩⟩⟩⟩⟩⟩⟩⟩⟩⟩⟩⟩⟩⟩⟩
theorem lw_p144 : lw_okq (⟨"PaperCutterModel", "findsBestOrder", "()V"⟩, 31) := ⟨⟨by decide +kernel, by decide +kernel⟩, List.mem_of_getElem? (i := 983) (by decide +kernel), List.mem_of_getElem? (i := 1424) (by decide +kernel), List.mem_of_getElem? (i := 1425) (by decide +kernel)⟩
theorem lw_p145 : lw_okq (⟨"PaperCutterModel", "arranges", "(III)V"⟩, 31) := ⟨⟨by decide +kernel, by decide +kernel⟩, List.mem_of_getElem? (i := 983) (by decide +kernel), List.mem_of_getElem? (i := 1428) (by decide +kernel), List.mem_of_getElem? (i := 1429) (by decide +kernel)⟩
theorem lw_p146 : lw_okq (⟨"PaperCutterModel", "metOrders", "()I"⟩, 31) := ⟨⟨by decide +kernel, by decide +kernel⟩, List.mem_of_getElem? (i := 983) (by decide +kernel), List.mem_of_getElem? (i := 1444) (by decide +kernel), List.mem_of_getElem? (i := 1445) (by decide +kernel)⟩
theorem lw_p147 : lw_okq (⟨"PaperCutterModel", "waste", "()I"⟩, 31) := ⟨⟨by decide +kernel, by decide +kernel⟩, List.mem_of_getElem? (i := 983) (by decide +kernel), List.mem_of_getElem? (i := 1448) (by decide +kernel), List.mem_of_getElem? (i := 1449) (by decide +kernel)⟩
theorem lw_p148 : lw_okq (⟨"PaperCutterModel", "areaLeft", "()I"⟩, 31) := ⟨⟨by decide +kernel, by decide +kernel⟩, List.mem_of_getElem? (i := 983) (by decide +kernel), List.mem_of_getElem? (i := 1452) (by decide +kernel), List.mem_of_getElem? (i := 1453) (by decide +kernel)⟩
theorem lw_p149 : lw_okq (⟨"PaperCutterModel", "goesBack", "()V"⟩, 31) := ⟨⟨by decide +kernel, by decide +kernel⟩, List.mem_of_getElem? (i := 983) (by decide +kernel), List.mem_of_getElem? (i := 1456) (by decide +kernel), List.mem_of_getElem? (i := 1457) (by decide +kernel)⟩
theorem lw_p150 : lw_okq (⟨"PaperCutterModel", "areaOf", "(Z)I"⟩, 31) := ⟨⟨by decide +kernel, by decide +kernel⟩, List.mem_of_getElem? (i := 983) (by decide +kernel), List.mem_of_getElem? (i := 1464) (by decide +kernel), List.mem_of_getElem? (i := 1465) (by decide +kernel)⟩
theorem lw_p151 : lw_okq (⟨"PaperCutterModel", "areaMade", "()I"⟩, 31) := ⟨⟨by decide +kernel, by decide +kernel⟩, List.mem_of_getElem? (i := 983) (by decide +kernel), List.mem_of_getElem? (i := 1468) (by decide +kernel), List.mem_of_getElem? (i := 1469) (by decide +kernel)⟩
theorem lw_p152 : lw_okq (⟨"PaperCutterModel", "ordersOf", "(IZ)I"⟩, 31) := ⟨⟨by decide +kernel, by decide +kernel⟩, List.mem_of_getElem? (i := 983) (by decide +kernel), List.mem_of_getElem? (i := 1476) (by decide +kernel), List.mem_of_getElem? (i := 1477) (by decide +kernel)⟩
theorem lw_p153 : lw_okq (⟨"PaperCutterModel", "rollsOf", "(IZ)I"⟩, 31) := ⟨⟨by decide +kernel, by decide +kernel⟩, List.mem_of_getElem? (i := 983) (by decide +kernel), List.mem_of_getElem? (i := 1480) (by decide +kernel), List.mem_of_getElem? (i := 1481) (by decide +kernel)⟩
theorem lw_p154 : lw_okq (⟨"PaperCutterModel", "wasteOfGrade", "(I)I"⟩, 31) := ⟨⟨by decide +kernel, by decide +kernel⟩, List.mem_of_getElem? (i := 983) (by decide +kernel), List.mem_of_getElem? (i := 1484) (by decide +kernel), List.mem_of_getElem? (i := 1485) (by decide +kernel)⟩
theorem lw_p155 : lw_okq (⟨"PaperCutterModel", "givenBy", "(I)I"⟩, 31) := ⟨⟨by decide +kernel, by decide +kernel⟩, List.mem_of_getElem? (i := 983) (by decide +kernel), List.mem_of_getElem? (i := 1488) (by decide +kernel), List.mem_of_getElem? (i := 1489) (by decide +kernel)⟩
theorem lw_p156 : lw_okq (⟨"PaperCutterModel", "commands", "(Z)I"⟩, 31) := ⟨⟨by decide +kernel, by decide +kernel⟩, List.mem_of_getElem? (i := 983) (by decide +kernel), List.mem_of_getElem? (i := 1496) (by decide +kernel), List.mem_of_getElem? (i := 1497) (by decide +kernel)⟩
theorem lw_p157 : lw_okq (⟨"PaperCutterModel", "command", "()I"⟩, 31) := ⟨⟨by decide +kernel, by decide +kernel⟩, List.mem_of_getElem? (i := 983) (by decide +kernel), List.mem_of_getElem? (i := 1500) (by decide +kernel), List.mem_of_getElem? (i := 1501) (by decide +kernel)⟩
theorem lw_p158 : lw_okq (⟨"PaperCutterModel", "word", "()I"⟩, 31) := ⟨⟨by decide +kernel, by decide +kernel⟩, List.mem_of_getElem? (i := 983) (by decide +kernel), List.mem_of_getElem? (i := 1504) (by decide +kernel), List.mem_of_getElem? (i := 1505) (by decide +kernel)⟩
theorem lw_p159 : lw_okq (⟨"PaperCutterModel", "number", "()I"⟩, 31) := ⟨⟨by decide +kernel, by decide +kernel⟩, List.mem_of_getElem? (i := 983) (by decide +kernel), List.mem_of_getElem? (i := 1511) (by decide +kernel), List.mem_of_getElem? (i := 1512) (by decide +kernel)⟩
def lw_privs_10 : List (MethodName × Nat) := [(⟨"PaperCutterModel", "findsBestOrder", "()V"⟩, 31), (⟨"PaperCutterModel", "arranges", "(III)V"⟩, 31), (⟨"PaperCutterModel", "metOrders", "()I"⟩, 31), (⟨"PaperCutterModel", "waste", "()I"⟩, 31), (⟨"PaperCutterModel", "areaLeft", "()I"⟩, 31), (⟨"PaperCutterModel", "goesBack", "()V"⟩, 31), (⟨"PaperCutterModel", "areaOf", "(Z)I"⟩, 31), (⟨"PaperCutterModel", "areaMade", "()I"⟩, 31), (⟨"PaperCutterModel", "ordersOf", "(IZ)I"⟩, 31), (⟨"PaperCutterModel", "rollsOf", "(IZ)I"⟩, 31), (⟨"PaperCutterModel", "wasteOfGrade", "(I)I"⟩, 31), (⟨"PaperCutterModel", "givenBy", "(I)I"⟩, 31), (⟨"PaperCutterModel", "commands", "(Z)I"⟩, 31), (⟨"PaperCutterModel", "command", "()I"⟩, 31), (⟨"PaperCutterModel", "word", "()I"⟩, 31), (⟨"PaperCutterModel", "number", "()I"⟩, 31)]
theorem lw_r10 : ∀ q ∈ lw_privs_10, lw_okq q := List.forall_mem_cons.mpr ⟨lw_p144, List.forall_mem_cons.mpr ⟨lw_p145, List.forall_mem_cons.mpr ⟨lw_p146, List.forall_mem_cons.mpr ⟨lw_p147, List.forall_mem_cons.mpr ⟨lw_p148, List.forall_mem_cons.mpr ⟨lw_p149, List.forall_mem_cons.mpr ⟨lw_p150, List.forall_mem_cons.mpr ⟨lw_p151, List.forall_mem_cons.mpr ⟨lw_p152, List.forall_mem_cons.mpr ⟨lw_p153, List.forall_mem_cons.mpr ⟨lw_p154, List.forall_mem_cons.mpr ⟨lw_p155, List.forall_mem_cons.mpr ⟨lw_p156, List.forall_mem_cons.mpr ⟨lw_p157, List.forall_mem_cons.mpr ⟨lw_p158, List.forall_mem_cons.mpr ⟨lw_p159, fun _ h => absurd h List.not_mem_nil⟩⟩⟩⟩⟩⟩⟩⟩⟩⟩⟩⟩⟩⟩⟩⟩
theorem lw_p160 : lw_okq (⟨"PaperCutterModel", "carriesOut", "(I)I"⟩, 31) := ⟨⟨by decide +kernel, by decide +kernel⟩, List.mem_of_getElem? (i := 983) (by decide +kernel), List.mem_of_getElem? (i := 1518) (by decide +kernel), List.mem_of_getElem? (i := 1519) (by decide +kernel)⟩
def lw_privs_11 : List (MethodName × Nat) := [(⟨"PaperCutterModel", "carriesOut", "(I)I"⟩, 31)]
theorem lw_r11 : ∀ q ∈ lw_privs_11, lw_okq q := List.forall_mem_cons.mpr ⟨lw_p160, fun _ h => absurd h List.not_mem_nil⟩
def lw_privs : List (MethodName × Nat) := lw_privs_1 ++ (lw_privs_2 ++ (lw_privs_3 ++ (lw_privs_4 ++ (lw_privs_5 ++ (lw_privs_6 ++ (lw_privs_7 ++ (lw_privs_8 ++ (lw_privs_9 ++ (lw_privs_10 ++ (lw_privs_11))))))))))
def lw_tbl : List Cond := k2_sels lw_privs ++ tables_1
theorem lw_privs_ok : ∀ q ∈ lw_privs, lw_okq q := by
  show ∀ q ∈ lw_privs_1 ++ (lw_privs_2 ++ (lw_privs_3 ++ (lw_privs_4 ++ (lw_privs_5 ++ (lw_privs_6 ++ (lw_privs_7 ++ (lw_privs_8 ++ (lw_privs_9 ++ (lw_privs_10 ++ (lw_privs_11)))))))))), lw_okq q
  exact List.forall_mem_append.mpr ⟨lw_r1, List.forall_mem_append.mpr ⟨lw_r2, List.forall_mem_append.mpr ⟨lw_r3, List.forall_mem_append.mpr ⟨lw_r4, List.forall_mem_append.mpr ⟨lw_r5, List.forall_mem_append.mpr ⟨lw_r6, List.forall_mem_append.mpr ⟨lw_r7, List.forall_mem_append.mpr ⟨lw_r8, List.forall_mem_append.mpr ⟨lw_r9, List.forall_mem_append.mpr ⟨lw_r10, lw_r11⟩⟩⟩⟩⟩⟩⟩⟩⟩⟩
-- ===== end of PART A; then your names; then what follows =====
/-! names of the classes and their fields -/
def RX0 : String := "PaperCutter$Arranger"
def TX0 : u_T := fun k => match k with
  | 0 => ("PaperCutter$Arranger", "runCount", "I", false)
  | 1 => ("PaperCutter$Arranger", "setups", "[[I", true)
  | 2 => ("PaperCutter$Arranger", "sequence", "[I", true)
  | 3 => ("PaperCutter$Arranger", "bestSequence", "[I", true)
  | 4 => ("PaperCutter$Arranger", "least", "[I", true)
  | 5 => ("PaperCutter$Arranger", "moved", "[LPaperCutter$Run;", true)
  | _ => ("PaperCutter$Arranger", "leastSum", "I", false)
def tyX0 : Nat → FieldType := fun k => match k with
  | 0 => .int
  | 1 => .array (.array .int)
  | 2 => .array .int
  | 3 => .array .int
  | 4 => .array .int
  | 5 => .array (.object "PaperCutter$Run")
  | _ => .int
abbrev wsX00 : List Cond := u_ws RX0 TX0 7
theorem nmX0 : ∀ a, a < 7 → ∀ b, b < 7 → a ≠ b → (TX0 a).2.1 ≠ (TX0 b).2.1 := by decide +kernel
theorem tyX0_ok : ∀ k, k < 7 → parseFieldDescriptor (TX0 k).2.2.1 = some (tyX0 k) := by decide +kernel
def RX1 : String := "PaperCutter$Command"
def TX1 : u_T := fun k => match k with
  | 0 => ("PaperCutter$Command", "word", "I", false)
  | _ => ("PaperCutter$Command", "numbers", "[I", true)
def tyX1 : Nat → FieldType := fun k => match k with
  | 0 => .int
  | _ => .array .int
abbrev wsX10 : List Cond := u_ws RX1 TX1 2
theorem nmX1 : ∀ a, a < 2 → ∀ b, b < 2 → a ≠ b → (TX1 a).2.1 ≠ (TX1 b).2.1 := by decide +kernel
theorem tyX1_ok : ∀ k, k < 2 → parseFieldDescriptor (TX1 k).2.2.1 = some (tyX1 k) := by decide +kernel
def RX2 : String := "PaperCutter$Order"
def TX2 : u_T := fun k => match k with
  | 0 => ("PaperCutter$Order", "grade", "I", false)
  | 1 => ("PaperCutter$Order", "width", "I", false)
  | 2 => ("PaperCutter$Order", "amount", "I", false)
  | 3 => ("PaperCutter$Order", "tolerance", "I", false)
  | 4 => ("PaperCutter$Order", "due", "I", false)
  | 5 => ("PaperCutter$Order", "better", "I", false)
  | 6 => ("PaperCutter$Order", "least", "I", false)
  | _ => ("PaperCutter$Order", "greatest", "I", false)
def tyX2 : Nat → FieldType := fun k => match k with
  | 0 => .int
  | 1 => .int
  | 2 => .int
  | 3 => .int
  | 4 => .int
  | 5 => .int
  | 6 => .int
  | _ => .int
abbrev wsX20 : List Cond := u_ws RX2 TX2 8
theorem nmX2 : ∀ a, a < 8 → ∀ b, b < 8 → a ≠ b → (TX2 a).2.1 ≠ (TX2 b).2.1 := by decide +kernel
theorem tyX2_ok : ∀ k, k < 8 → parseFieldDescriptor (TX2 k).2.2.1 = some (tyX2 k) := by decide +kernel
def RX3 : String := "PaperCutter$Plan"
def TX3 : u_T := fun k => match k with
  | 0 => ("PaperCutter$Plan", "settings", "[I", true)
  | 1 => ("PaperCutter$Plan", "orders", "[LPaperCutter$Order;", true)
  | 2 => ("PaperCutter$Plan", "rolls", "[LPaperCutter$Roll;", true)
  | 3 => ("PaperCutter$Plan", "runs", "[LPaperCutter$Run;", true)
  | 4 => ("PaperCutter$Plan", "orderCount", "I", false)
  | 5 => ("PaperCutter$Plan", "rollCount", "I", false)
  | _ => ("PaperCutter$Plan", "runCount", "I", false)
def tyX3 : Nat → FieldType := fun k => match k with
  | 0 => .array .int
  | 1 => .array (.object "PaperCutter$Order")
  | 2 => .array (.object "PaperCutter$Roll")
  | 3 => .array (.object "PaperCutter$Run")
  | 4 => .int
  | 5 => .int
  | _ => .int
abbrev wsX30 : List Cond := u_ws RX3 TX3 7
theorem nmX3 : ∀ a, a < 7 → ∀ b, b < 7 → a ≠ b → (TX3 a).2.1 ≠ (TX3 b).2.1 := by decide +kernel
theorem tyX3_ok : ∀ k, k < 7 → parseFieldDescriptor (TX3 k).2.2.1 = some (tyX3 k) := by decide +kernel
def RX4 : String := "PaperCutter$Roll"
def TX4 : u_T := fun k => match k with
  | 0 => ("PaperCutter$Roll", "grade", "I", false)
  | 1 => ("PaperCutter$Roll", "width", "I", false)
  | _ => ("PaperCutter$Roll", "length", "I", false)
def tyX4 : Nat → FieldType := fun k => match k with
  | 0 => .int
  | 1 => .int
  | _ => .int
abbrev wsX40 : List Cond := u_ws RX4 TX4 3
theorem nmX4 : ∀ a, a < 3 → ∀ b, b < 3 → a ≠ b → (TX4 a).2.1 ≠ (TX4 b).2.1 := by decide +kernel
theorem tyX4_ok : ∀ k, k < 3 → parseFieldDescriptor (TX4 k).2.2.1 = some (tyX4 k) := by decide +kernel
def RX5 : String := "PaperCutter$Run"
def TX5 : u_T := fun k => match k with
  | 0 => ("PaperCutter$Run", "roll", "I", false)
  | 1 => ("PaperCutter$Run", "length", "I", false)
  | 2 => ("PaperCutter$Run", "edge", "I", false)
  | 3 => ("PaperCutter$Run", "rest", "I", false)
  | 4 => ("PaperCutter$Run", "kept", "I", false)
  | 5 => ("PaperCutter$Run", "positionCount", "I", false)
  | 6 => ("PaperCutter$Run", "strips", "[I", true)
  | _ => ("PaperCutter$Run", "positions", "[I", true)
def tyX5 : Nat → FieldType := fun k => match k with
  | 0 => .int
  | 1 => .int
  | 2 => .int
  | 3 => .int
  | 4 => .int
  | 5 => .int
  | 6 => .array .int
  | _ => .array .int
abbrev wsX50 : List Cond := u_ws RX5 TX5 8
theorem nmX5 : ∀ a, a < 8 → ∀ b, b < 8 → a ≠ b → (TX5 a).2.1 ≠ (TX5 b).2.1 := by decide +kernel
theorem tyX5_ok : ∀ k, k < 8 → parseFieldDescriptor (TX5 k).2.2.1 = some (tyX5 k) := by decide +kernel
def RX6 : String := "PaperCutter$Search"
def TX6 : u_T := fun k => match k with
  | 0 => ("PaperCutter$Search", "width", "I", false)
  | 1 => ("PaperCutter$Search", "knives", "I", false)
  | 2 => ("PaperCutter$Search", "leastRest", "I", false)
  | 3 => ("PaperCutter$Search", "orderCount", "I", false)
  | 4 => ("PaperCutter$Search", "widths", "[I", true)
  | 5 => ("PaperCutter$Search", "limits", "[I", true)
  | 6 => ("PaperCutter$Search", "row", "[I", true)
  | 7 => ("PaperCutter$Search", "bestRow", "[I", true)
  | 8 => ("PaperCutter$Search", "widestFrom", "[I", true)
  | 9 => ("PaperCutter$Search", "fewest", "[I", true)
  | 10 => ("PaperCutter$Search", "counting", "Z", false)
  | 11 => ("PaperCutter$Search", "mostStrips", "I", false)
  | 12 => ("PaperCutter$Search", "found", "I", false)
  | 13 => ("PaperCutter$Search", "bestRest", "I", false)
  | _ => ("PaperCutter$Search", "bestStrips", "I", false)
def tyX6 : Nat → FieldType := fun k => match k with
  | 0 => .int
  | 1 => .int
  | 2 => .int
  | 3 => .int
  | 4 => .array .int
  | 5 => .array .int
  | 6 => .array .int
  | 7 => .array .int
  | 8 => .array .int
  | 9 => .array .int
  | 10 => .boolean
  | 11 => .int
  | 12 => .int
  | 13 => .int
  | _ => .int
abbrev wsX60 : List Cond := u_ws RX6 TX6 15
theorem nmX6 : ∀ a, a < 15 → ∀ b, b < 15 → a ≠ b → (TX6 a).2.1 ≠ (TX6 b).2.1 := by decide +kernel
theorem tyX6_ok : ∀ k, k < 15 → parseFieldDescriptor (TX6 k).2.2.1 = some (tyX6 k) := by decide +kernel
def RX7 : String := "PaperCutter$Text"
def TX7 : u_T := fun k => match k with
  | 0 => ("PaperCutter$Text", "signs", "[C", true)
  | 1 => ("PaperCutter$Text", "length", "I", false)
  | 2 => ("PaperCutter$Text", "at", "I", false)
  | 3 => ("PaperCutter$Text", "strips", "[I", true)
  | 4 => ("PaperCutter$Text", "commands", "[LPaperCutter$Command;", true)
  | _ => ("PaperCutter$Text", "commandCount", "I", false)
def tyX7 : Nat → FieldType := fun k => match k with
  | 0 => .array .char
  | 1 => .int
  | 2 => .int
  | 3 => .array .int
  | 4 => .array (.object "PaperCutter$Command")
  | _ => .int
abbrev wsX70 : List Cond := u_ws RX7 TX7 6
theorem nmX7 : ∀ a, a < 6 → ∀ b, b < 6 → a ≠ b → (TX7 a).2.1 ≠ (TX7 b).2.1 := by decide +kernel
theorem tyX7_ok : ∀ k, k < 6 → parseFieldDescriptor (TX7 k).2.2.1 = some (tyX7 k) := by decide +kernel
def RX8 : String := "PaperCutter"
def TX8 : u_T := fun k => match k with
  | 0 => ("PaperCutter", "plan", "LPaperCutter$Plan;", true)
  | 1 => ("PaperCutter", "earlier", "LPaperCutter$Plan;", true)
  | 2 => ("PaperCutter", "trial", "LPaperCutter$Plan;", true)
  | 3 => ("PaperCutter", "saved", "LPaperCutter$Plan;", true)
  | 4 => ("PaperCutter", "past", "[LPaperCutter$Plan;", true)
  | 5 => ("PaperCutter", "search", "LPaperCutter$Search;", true)
  | 6 => ("PaperCutter", "arranger", "LPaperCutter$Arranger;", true)
  | 7 => ("PaperCutter", "text", "LPaperCutter$Text;", true)
  | 8 => ("PaperCutter", "writtenSigns", "[C", true)
  | 9 => ("PaperCutter", "writtenLength", "I", false)
  | 10 => ("PaperCutter", "pastFirst", "I", false)
  | 11 => ("PaperCutter", "pastCount", "I", false)
  | 12 => ("PaperCutter", "hasSaved", "Z", false)
  | 13 => ("PaperCutter", "reasonCode", "I", false)
  | _ => ("PaperCutter", "reasonCommand", "I", false)
def tyX8 : Nat → FieldType := fun k => match k with
  | 0 => .object "PaperCutter$Plan"
  | 1 => .object "PaperCutter$Plan"
  | 2 => .object "PaperCutter$Plan"
  | 3 => .object "PaperCutter$Plan"
  | 4 => .array (.object "PaperCutter$Plan")
  | 5 => .object "PaperCutter$Search"
  | 6 => .object "PaperCutter$Arranger"
  | 7 => .object "PaperCutter$Text"
  | 8 => .array .char
  | 9 => .int
  | 10 => .int
  | 11 => .int
  | 12 => .boolean
  | 13 => .int
  | _ => .int
abbrev wsX80 : List Cond := u_ws RX8 TX8 15
theorem nmX8 : ∀ a, a < 15 → ∀ b, b < 15 → a ≠ b → (TX8 a).2.1 ≠ (TX8 b).2.1 := by decide +kernel
theorem tyX8_ok : ∀ k, k < 15 → parseFieldDescriptor (TX8 k).2.2.1 = some (tyX8 k) := by decide +kernel
def RX9 : String := "PaperCutterModel"
def TX9 : u_T := fun k => match k with
  | 0 => ("PaperCutterModel", "now", "[I", true)
  | 1 => ("PaperCutterModel", "past", "[I", true)
  | 2 => ("PaperCutterModel", "pastMany", "I", false)
  | 3 => ("PaperCutterModel", "saved", "[I", true)
  | 4 => ("PaperCutterModel", "isSaved", "Z", false)
  | 5 => ("PaperCutterModel", "before", "[I", true)
  | 6 => ("PaperCutterModel", "text", "[C", true)
  | 7 => ("PaperCutterModel", "typed", "I", false)
  | 8 => ("PaperCutterModel", "reason", "I", false)
  | 9 => ("PaperCutterModel", "reasonAt", "I", false)
  | 10 => ("PaperCutterModel", "tried", "[I", true)
  | 11 => ("PaperCutterModel", "bestRow", "[I", true)
  | 12 => ("PaperCutterModel", "bestRest", "I", false)
  | 13 => ("PaperCutterModel", "bestStrips", "I", false)
  | 14 => ("PaperCutterModel", "counted", "I", false)
  | 15 => ("PaperCutterModel", "rooms", "[I", true)
  | 16 => ("PaperCutterModel", "end", "I", false)
  | 17 => ("PaperCutterModel", "at", "I", false)
  | 18 => ("PaperCutterModel", "isWrong", "Z", false)
  | 19 => ("PaperCutterModel", "pattern", "[I", true)
  | 20 => ("PaperCutterModel", "paper", "[C", true)
  | 21 => ("PaperCutterModel", "writtenMany", "I", false)
  | 22 => ("PaperCutterModel", "chosen", "[I", true)
  | 23 => ("PaperCutterModel", "isChosen", "[Z", true)
  | 24 => ("PaperCutterModel", "bestOrder", "[I", true)
  | 25 => ("PaperCutterModel", "bestSum", "I", false)
  | 26 => ("PaperCutterModel", "between", "[I", true)
  | 27 => ("PaperCutterModel", "moved", "[I", true)
  | 28 => ("PaperCutterModel", "words", "[C", true)
  | 29 => ("PaperCutterModel", "numbers", "[I", true)
  | _ => ("PaperCutterModel", "isBetter", "Z", false)
def tyX9 : Nat → FieldType := fun k => match k with
  | 0 => .array .int
  | 1 => .array .int
  | 2 => .int
  | 3 => .array .int
  | 4 => .boolean
  | 5 => .array .int
  | 6 => .array .char
  | 7 => .int
  | 8 => .int
  | 9 => .int
  | 10 => .array .int
  | 11 => .array .int
  | 12 => .int
  | 13 => .int
  | 14 => .int
  | 15 => .array .int
  | 16 => .int
  | 17 => .int
  | 18 => .boolean
  | 19 => .array .int
  | 20 => .array .char
  | 21 => .int
  | 22 => .array .int
  | 23 => .array .boolean
  | 24 => .array .int
  | 25 => .int
  | 26 => .array .int
  | 27 => .array .int
  | 28 => .array .char
  | 29 => .array .int
  | _ => .boolean
abbrev wsX90 : List Cond := u_ws RX9 TX9 31
theorem nmX9 : ∀ a, a < 31 → ∀ b, b < 31 → a ≠ b → (TX9 a).2.1 ≠ (TX9 b).2.1 := by decide +kernel
theorem tyX9_ok : ∀ k, k < 31 → parseFieldDescriptor (TX9 k).2.2.1 = some (tyX9 k) := by decide +kernel
def RJx145de : String := "java/io/Serializable"
def TJx145de : u_T := fun k => match k with
  | _ => ("", "", "", false)
def tyJx145de : Nat → FieldType := fun k => match k with
  | _ => .int
abbrev wsJx145de0 : List Cond := u_ws RJx145de TJx145de 0
theorem nmJx145de : ∀ a, a < 0 → ∀ b, b < 0 → a ≠ b → (TJx145de a).2.1 ≠ (TJx145de b).2.1 := by decide +kernel
theorem tyJx145de_ok : ∀ k, k < 0 → parseFieldDescriptor (TJx145de k).2.2.1 = some (tyJx145de k) := by decide +kernel
def RJx9f9b0 : String := "java/lang/CharSequence"
def TJx9f9b0 : u_T := fun k => match k with
  | _ => ("", "", "", false)
def tyJx9f9b0 : Nat → FieldType := fun k => match k with
  | _ => .int
abbrev wsJx9f9b00 : List Cond := u_ws RJx9f9b0 TJx9f9b0 0
theorem nmJx9f9b0 : ∀ a, a < 0 → ∀ b, b < 0 → a ≠ b → (TJx9f9b0 a).2.1 ≠ (TJx9f9b0 b).2.1 := by decide +kernel
theorem tyJx9f9b0_ok : ∀ k, k < 0 → parseFieldDescriptor (TJx9f9b0 k).2.2.1 = some (tyJx9f9b0 k) := by decide +kernel
def RJx8e188 : String := "java/lang/Cloneable"
def TJx8e188 : u_T := fun k => match k with
  | _ => ("", "", "", false)
def tyJx8e188 : Nat → FieldType := fun k => match k with
  | _ => .int
abbrev wsJx8e1880 : List Cond := u_ws RJx8e188 TJx8e188 0
theorem nmJx8e188 : ∀ a, a < 0 → ∀ b, b < 0 → a ≠ b → (TJx8e188 a).2.1 ≠ (TJx8e188 b).2.1 := by decide +kernel
theorem tyJx8e188_ok : ∀ k, k < 0 → parseFieldDescriptor (TJx8e188 k).2.2.1 = some (tyJx8e188 k) := by decide +kernel
def RJxb160c : String := "java/lang/Comparable"
def TJxb160c : u_T := fun k => match k with
  | _ => ("", "", "", false)
def tyJxb160c : Nat → FieldType := fun k => match k with
  | _ => .int
abbrev wsJxb160c0 : List Cond := u_ws RJxb160c TJxb160c 0
theorem nmJxb160c : ∀ a, a < 0 → ∀ b, b < 0 → a ≠ b → (TJxb160c a).2.1 ≠ (TJxb160c b).2.1 := by decide +kernel
theorem tyJxb160c_ok : ∀ k, k < 0 → parseFieldDescriptor (TJxb160c k).2.2.1 = some (tyJxb160c k) := by decide +kernel
def RJ9 : String := "java/lang/Math"
def TJ9 : u_T := fun k => match k with
  | _ => ("", "", "", false)
def tyJ9 : Nat → FieldType := fun k => match k with
  | _ => .int
abbrev wsJ90 : List Cond := u_ws RJ9 TJ9 0
theorem nmJ9 : ∀ a, a < 0 → ∀ b, b < 0 → a ≠ b → (TJ9 a).2.1 ≠ (TJ9 b).2.1 := by decide +kernel
theorem tyJ9_ok : ∀ k, k < 0 → parseFieldDescriptor (TJ9 k).2.2.1 = some (tyJ9 k) := by decide +kernel
abbrev cJ9_max_7cf53 : ByteArray := prog_13_method_65_code
def yJ9_max_7cf53 : MethodName := ⟨RJ9, "max", "(II)I"⟩
abbrev cJ9_min_7cf53 : ByteArray := prog_13_method_69_code
def yJ9_min_7cf53 : MethodName := ⟨RJ9, "min", "(II)I"⟩
def RJ0 : String := "java/lang/String"
def TJ0 : u_T := fun k => match k with
  | _ => ("", "", "", false)
def tyJ0 : Nat → FieldType := fun k => match k with
  | _ => .int
abbrev wsJ00 : List Cond := u_ws RJ0 TJ0 0
theorem nmJ0 : ∀ a, a < 0 → ∀ b, b < 0 → a ≠ b → (TJ0 a).2.1 ≠ (TJ0 b).2.1 := by decide +kernel
theorem tyJ0_ok : ∀ k, k < 0 → parseFieldDescriptor (TJ0 k).2.2.1 = some (tyJ0 k) := by decide +kernel
abbrev cJ0_length_8abf5 : ByteArray := prog_14_method_54_code
def yJ0_length_8abf5 : MethodName := ⟨RJ0, "length", "()I"⟩
abbrev cJ0_charAt_5068e : ByteArray := prog_14_method_56_code
def yJ0_charAt_5068e : MethodName := ⟨RJ0, "charAt", "(I)C"⟩
abbrev cJ0_coder_7d493 : ByteArray := prog_14_method_152_code
def yJ0_coder_7d493 : MethodName := ⟨RJ0, "coder", "()B"⟩
abbrev cJ0_isLatin1_aae02 : ByteArray := prog_14_method_154_code
def yJ0_isLatin1_aae02 : MethodName := ⟨RJ0, "isLatin1", "()Z"⟩
abbrev cJ0_checkIndex_df160 : ByteArray := prog_14_method_155_code
def yJ0_checkIndex_df160 : MethodName := ⟨RJ0, "checkIndex", "(II)V"⟩
def RJ1 : String := "java/lang/StringLatin1"
def TJ1 : u_T := fun k => match k with
  | _ => ("", "", "", false)
def tyJ1 : Nat → FieldType := fun k => match k with
  | _ => .int
abbrev wsJ10 : List Cond := u_ws RJ1 TJ1 0
theorem nmJ1 : ∀ a, a < 0 → ∀ b, b < 0 → a ≠ b → (TJ1 a).2.1 ≠ (TJ1 b).2.1 := by decide +kernel
theorem tyJ1_ok : ∀ k, k < 0 → parseFieldDescriptor (TJ1 k).2.2.1 = some (tyJ1 k) := by decide +kernel
abbrev cJ1_charAt_3b067 : ByteArray := prog_15_method_2_code
def yJ1_charAt_3b067 : MethodName := ⟨RJ1, "charAt", "([BI)C"⟩
def RJ2 : String := "java/lang/StringUTF16"
def TJ2 : u_T := fun k => match k with
  | _ => ("", "", "", false)
def tyJ2 : Nat → FieldType := fun k => match k with
  | _ => .int
abbrev wsJ20 : List Cond := u_ws RJ2 TJ2 0
theorem nmJ2 : ∀ a, a < 0 → ∀ b, b < 0 → a ≠ b → (TJ2 a).2.1 ≠ (TJ2 b).2.1 := by decide +kernel
theorem tyJ2_ok : ∀ k, k < 0 → parseFieldDescriptor (TJ2 k).2.2.1 = some (tyJ2 k) := by decide +kernel
abbrev cJ2_getChar_3b067 : ByteArray := prog_16_method_5_code
def yJ2_getChar_3b067 : MethodName := ⟨RJ2, "getChar", "([BI)C"⟩
abbrev cJ2_length_9d52b : ByteArray := prog_16_method_6_code
def yJ2_length_9d52b : MethodName := ⟨RJ2, "length", "([B)I"⟩
abbrev cJ2_charAt_3b067 : ByteArray := prog_16_method_83_code
def yJ2_charAt_3b067 : MethodName := ⟨RJ2, "charAt", "([BI)C"⟩
abbrev cJ2_checkIndex_2214a : ByteArray := prog_16_method_91_code
def yJ2_checkIndex_2214a : MethodName := ⟨RJ2, "checkIndex", "(I[B)V"⟩
def RJ10 : String := "java/lang/System"
def TJ10 : u_T := fun k => match k with
  | _ => ("", "", "", false)
def tyJ10 : Nat → FieldType := fun k => match k with
  | _ => .int
abbrev wsJ100 : List Cond := u_ws RJ10 TJ10 0
theorem nmJ10 : ∀ a, a < 0 → ∀ b, b < 0 → a ≠ b → (TJ10 a).2.1 ≠ (TJ10 b).2.1 := by decide +kernel
theorem tyJ10_ok : ∀ k, k < 0 → parseFieldDescriptor (TJ10 k).2.2.1 = some (tyJ10 k) := by decide +kernel
def RJxfd54e : String := "java/lang/constant/Constable"
def TJxfd54e : u_T := fun k => match k with
  | _ => ("", "", "", false)
def tyJxfd54e : Nat → FieldType := fun k => match k with
  | _ => .int
abbrev wsJxfd54e0 : List Cond := u_ws RJxfd54e TJxfd54e 0
theorem nmJxfd54e : ∀ a, a < 0 → ∀ b, b < 0 → a ≠ b → (TJxfd54e a).2.1 ≠ (TJxfd54e b).2.1 := by decide +kernel
theorem tyJxfd54e_ok : ∀ k, k < 0 → parseFieldDescriptor (TJxfd54e k).2.2.1 = some (tyJxfd54e k) := by decide +kernel
def RJx3cf43 : String := "java/lang/constant/ConstantDesc"
def TJx3cf43 : u_T := fun k => match k with
  | _ => ("", "", "", false)
def tyJx3cf43 : Nat → FieldType := fun k => match k with
  | _ => .int
abbrev wsJx3cf430 : List Cond := u_ws RJx3cf43 TJx3cf43 0
theorem nmJx3cf43 : ∀ a, a < 0 → ∀ b, b < 0 → a ≠ b → (TJx3cf43 a).2.1 ≠ (TJx3cf43 b).2.1 := by decide +kernel
theorem tyJx3cf43_ok : ∀ k, k < 0 → parseFieldDescriptor (TJx3cf43 k).2.2.1 = some (tyJx3cf43 k) := by decide +kernel
def RJ7 : String := "java/util/Arrays"
def TJ7 : u_T := fun k => match k with
  | _ => ("", "", "", false)
def tyJ7 : Nat → FieldType := fun k => match k with
  | _ => .int
abbrev wsJ70 : List Cond := u_ws RJ7 TJ7 0
theorem nmJ7 : ∀ a, a < 0 → ∀ b, b < 0 → a ≠ b → (TJ7 a).2.1 ≠ (TJ7 b).2.1 := by decide +kernel
theorem tyJ7_ok : ∀ k, k < 0 → parseFieldDescriptor (TJ7 k).2.2.1 = some (tyJ7 k) := by decide +kernel
abbrev cJ7_fill_53178 : ByteArray := prog_18_method_103_code
def yJ7_fill_53178 : MethodName := ⟨RJ7, "fill", "([II)V"⟩
def RJ3 : String := "jdk/internal/util/Preconditions"
def TJ3 : u_T := fun k => match k with
  | _ => ("", "", "", false)
def tyJ3 : Nat → FieldType := fun k => match k with
  | _ => .int
abbrev wsJ30 : List Cond := u_ws RJ3 TJ3 0
theorem nmJ3 : ∀ a, a < 0 → ∀ b, b < 0 → a ≠ b → (TJ3 a).2.1 ≠ (TJ3 b).2.1 := by decide +kernel
theorem tyJ3_ok : ∀ k, k < 0 → parseFieldDescriptor (TJ3 k).2.2.1 = some (tyJ3 k) := by decide +kernel
abbrev cJ3_checkIndex_8e157 : ByteArray := prog_19_method_11_code
def yJ3_checkIndex_8e157 : MethodName := ⟨RJ3, "checkIndex", "(IILjava/util/function/BiFunction;)I"⟩
abbrev vwCl : List vw_C := [(RX0, TX0, 7), (RX1, TX1, 2), (RX2, TX2, 8), (RX3, TX3, 7), (RX4, TX4, 3), (RX5, TX5, 8), (RX6, TX6, 15), (RX7, TX7, 6), (RX8, TX8, 15), (RX9, TX9, 31)]
end
section
/-! the methods: class, name, code, locals, result, how many arguments, static; the instructions of each; what its pool entries name -/
def bRN : Nat → String := fun k => match k with
  | 0 => "PaperCutter$Arranger"
  | 1 => "PaperCutter$Command"
  | 2 => "PaperCutter$Order"
  | 3 => "PaperCutter$Plan"
  | 4 => "PaperCutter$Roll"
  | 5 => "PaperCutter$Run"
  | 6 => "PaperCutter$Search"
  | 7 => "PaperCutter$Text"
  | 8 => "PaperCutter"
  | 9 => "PaperCutterModel"
  | 10 => "java/lang/String"
  | 11 => "java/lang/StringLatin1"
  | 12 => "java/lang/StringUTF16"
  | 13 => "jdk/internal/util/Preconditions"
  | 14 => "java/util/Arrays"
  | 15 => "java/lang/Math"
  | 16 => "PaperCutterLaw"
  | 17 => "java/lang/Object"
  | _ => "java/lang/System"
abbrev bEnt : Type := Nat × MethodName × ByteArray × Nat × Option FieldType × Nat × Bool
def bIL_0 : List (Nat × Instr × Nat) := [(0, .new 7, 3), (3, .dup, 1), (4, .invokespecial 9, 3), (7, .astore_n 1, 1), (8, .new 10, 3), (11, .dup, 1), (12, .invokespecial 12, 3), (15, .astore_n 2, 1), (16, .iconst 0, 1), (17, .istore_n 3, 1), (18, .iload_n 3, 1), (19, .aload_n 0, 1), (20, .arraylength, 1), (21, .bipush 7, 2), (23, .isub, 1), (24, .if_icmp .gt 1070, 3), (27, .aload_n 0, 1), (28, .iload_n 3, 1), (29, .iaload, 1), (30, .bipush 63, 2), (32, .iand, 1), (33, .tableswitch 1055 0 33 #[151, 184, 259, 302, 335, 368, 391, 414, 437, 470, 493, 516, 549, 572, 585, 608, 641, 674, 707, 740, 773, 796, 819, 842, 855, 878, 901, 924, 957, 970, 993, 1006, 1019, 1032], 151), (184, .aload_n 1, 1), (185, .aload_n 0, 1), (186, .iload_n 3, 1), (187, .iconst 1, 1), (188, .iadd, 1), (189, .iaload, 1), (190, .aload_n 0, 1), (191, .iload_n 3, 1), (192, .iconst 2, 1), (193, .iadd, 1), (194, .iaload, 1), (195, .invokevirtual 13, 3), (198, .aload_n 2, 1), (199, .aload_n 0, 1), (200, .iload_n 3, 1), (201, .iconst 1, 1), (202, .iadd, 1), (203, .iaload, 1), (204, .aload_n 0, 1), (205, .iload_n 3, 1), (206, .iconst 2, 1), (207, .iadd, 1), (208, .iaload, 1), (209, .invokevirtual 17, 3), (212, .if_icmp .eq 876, 3), (215, .iconst 0, 1), (216, .ireturn, 1), (217, .aload_n 1, 1), (218, .aload_n 0, 1), (219, .iload_n 3, 1), (220, .iconst 1, 1), (221, .iadd, 1), (222, .iaload, 1), (223, .aload_n 0, 1), (224, .iload_n 3, 1), (225, .iconst 2, 1), (226, .iadd, 1), (227, .iaload, 1), (228, .aload_n 0, 1), (229, .iload_n 3, 1), (230, .iconst 3, 1), (231, .iadd, 1), (232, .iaload, 1), (233, .aload_n 0, 1), (234, .iload_n 3, 1), (235, .iconst 4, 1), (236, .iadd, 1), (237, .iaload, 1), (238, .aload_n 0, 1), (239, .iload_n 3, 1), (240, .iconst 5, 1), (241, .iadd, 1), (242, .iaload, 1), (243, .aload_n 0, 1), (244, .iload_n 3, 1), (245, .bipush 6, 2), (247, .iadd, 1), (248, .iaload, 1), (249, .invokevirtual 18, 3), (252, .aload_n 2, 1), (253, .aload_n 0, 1), (254, .iload_n 3, 1), (255, .iconst 1, 1), (256, .iadd, 1), (257, .iaload, 1), (258, .aload_n 0, 1), (259, .iload_n 3, 1), (260, .iconst 2, 1), (261, .iadd, 1), (262, .iaload, 1), (263, .aload_n 0, 1), (264, .iload_n 3, 1), (265, .iconst 3, 1), (266, .iadd, 1), (267, .iaload, 1), (268, .aload_n 0, 1), (269, .iload_n 3, 1), (270, .iconst 4, 1), (271, .iadd, 1), (272, .iaload, 1), (273, .aload_n 0, 1), (274, .iload_n 3, 1), (275, .iconst 5, 1), (276, .iadd, 1), (277, .iaload, 1), (278, .aload_n 0, 1), (279, .iload_n 3, 1), (280, .bipush 6, 2), (282, .iadd, 1), (283, .iaload, 1), (284, .invokevirtual 22, 3), (287, .if_icmp .eq 801, 3), (290, .iconst 0, 1), (291, .ireturn, 1), (292, .aload_n 1, 1), (293, .aload_n 0, 1), (294, .iload_n 3, 1), (295, .iconst 1, 1), (296, .iadd, 1), (297, .iaload, 1), (298, .aload_n 0, 1), (299, .iload_n 3, 1), (300, .iconst 2, 1), (301, .iadd, 1), (302, .iaload, 1), (303, .aload_n 0, 1), (304, .iload_n 3, 1), (305, .iconst 3, 1), (306, .iadd, 1), (307, .iaload, 1), (308, .invokevirtual 23, 3), (311, .aload_n 2, 1), (312, .aload_n 0, 1), (313, .iload_n 3, 1), (314, .iconst 1, 1), (315, .iadd, 1), (316, .iaload, 1), (317, .aload_n 0, 1), (318, .iload_n 3, 1), (319, .iconst 2, 1), (320, .iadd, 1), (321, .iaload, 1), (322, .aload_n 0, 1), (323, .iload_n 3, 1), (324, .iconst 3, 1), (325, .iadd, 1), (326, .iaload, 1), (327, .invokevirtual 27, 3), (330, .if_icmp .eq 758, 3), (333, .iconst 0, 1), (334, .ireturn, 1), (335, .aload_n 1, 1), (336, .aload_n 0, 1), (337, .iload_n 3, 1), (338, .iconst 1, 1), (339, .iadd, 1), (340, .iaload, 1), (341, .aload_n 0, 1), (342, .iload_n 3, 1), (343, .iconst 2, 1), (344, .iadd, 1), (345, .iaload, 1), (346, .invokevirtual 28, 3), (349, .aload_n 2, 1), (350, .aload_n 0, 1), (351, .iload_n 3, 1), (352, .iconst 1, 1), (353, .iadd, 1), (354, .iaload, 1), (355, .aload_n 0, 1), (356, .iload_n 3, 1), (357, .iconst 2, 1), (358, .iadd, 1), (359, .iaload, 1), (360, .invokevirtual 31, 3), (363, .if_icmp .eq 725, 3), (366, .iconst 0, 1), (367, .ireturn, 1), (368, .aload_n 1, 1)]
def bIL_1 : List (Nat × Instr × Nat) := [(369, .aload_n 0, 1), (370, .iload_n 3, 1), (371, .iconst 1, 1), (372, .iadd, 1), (373, .iaload, 1), (374, .aload_n 0, 1), (375, .iload_n 3, 1), (376, .iconst 2, 1), (377, .iadd, 1), (378, .iaload, 1), (379, .invokevirtual 32, 3), (382, .aload_n 2, 1), (383, .aload_n 0, 1), (384, .iload_n 3, 1), (385, .iconst 1, 1), (386, .iadd, 1), (387, .iaload, 1), (388, .aload_n 0, 1), (389, .iload_n 3, 1), (390, .iconst 2, 1), (391, .iadd, 1), (392, .iaload, 1), (393, .invokevirtual 35, 3), (396, .if_icmp .eq 692, 3), (399, .iconst 0, 1), (400, .ireturn, 1), (401, .aload_n 1, 1), (402, .aload_n 0, 1), (403, .iload_n 3, 1), (404, .iconst 1, 1), (405, .iadd, 1), (406, .iaload, 1), (407, .invokevirtual 36, 3), (410, .aload_n 2, 1), (411, .aload_n 0, 1), (412, .iload_n 3, 1), (413, .iconst 1, 1), (414, .iadd, 1), (415, .iaload, 1), (416, .invokevirtual 40, 3), (419, .if_icmp .eq 669, 3), (422, .iconst 0, 1), (423, .ireturn, 1), (424, .aload_n 1, 1), (425, .aload_n 0, 1), (426, .iload_n 3, 1), (427, .iconst 1, 1), (428, .iadd, 1), (429, .iaload, 1), (430, .invokevirtual 41, 3), (433, .aload_n 2, 1), (434, .aload_n 0, 1), (435, .iload_n 3, 1), (436, .iconst 1, 1), (437, .iadd, 1), (438, .iaload, 1), (439, .invokevirtual 44, 3), (442, .if_icmp .eq 646, 3), (445, .iconst 0, 1), (446, .ireturn, 1), (447, .aload_n 1, 1), (448, .aload_n 0, 1), (449, .iload_n 3, 1), (450, .iconst 1, 1), (451, .iadd, 1), (452, .iaload, 1), (453, .invokevirtual 45, 3), (456, .aload_n 2, 1), (457, .aload_n 0, 1), (458, .iload_n 3, 1), (459, .iconst 1, 1), (460, .iadd, 1), (461, .iaload, 1), (462, .invokevirtual 48, 3), (465, .if_icmp .eq 623, 3), (468, .iconst 0, 1), (469, .ireturn, 1), (470, .aload_n 1, 1), (471, .aload_n 0, 1), (472, .iload_n 3, 1), (473, .iconst 1, 1), (474, .iadd, 1), (475, .iaload, 1), (476, .aload_n 0, 1), (477, .iload_n 3, 1), (478, .iconst 2, 1), (479, .iadd, 1), (480, .iaload, 1), (481, .invokevirtual 49, 3), (484, .aload_n 2, 1), (485, .aload_n 0, 1), (486, .iload_n 3, 1), (487, .iconst 1, 1), (488, .iadd, 1), (489, .iaload, 1), (490, .aload_n 0, 1), (491, .iload_n 3, 1), (492, .iconst 2, 1), (493, .iadd, 1), (494, .iaload, 1), (495, .invokevirtual 52, 3), (498, .if_icmp .eq 590, 3), (501, .iconst 0, 1), (502, .ireturn, 1), (503, .aload_n 1, 1), (504, .aload_n 0, 1), (505, .iload_n 3, 1), (506, .iconst 1, 1), (507, .iadd, 1), (508, .iaload, 1), (509, .invokevirtual 53, 3), (512, .aload_n 2, 1), (513, .aload_n 0, 1), (514, .iload_n 3, 1), (515, .iconst 1, 1), (516, .iadd, 1), (517, .iaload, 1), (518, .invokevirtual 56, 3), (521, .if_icmp .eq 567, 3), (524, .iconst 0, 1), (525, .ireturn, 1), (526, .aload_n 1, 1), (527, .aload_n 0, 1), (528, .iload_n 3, 1), (529, .iconst 1, 1), (530, .iadd, 1), (531, .iaload, 1), (532, .invokevirtual 57, 3), (535, .aload_n 2, 1), (536, .aload_n 0, 1), (537, .iload_n 3, 1), (538, .iconst 1, 1), (539, .iadd, 1), (540, .iaload, 1), (541, .invokevirtual 60, 3), (544, .if_icmp .eq 544, 3), (547, .iconst 0, 1), (548, .ireturn, 1), (549, .aload_n 1, 1), (550, .aload_n 0, 1), (551, .iload_n 3, 1), (552, .iconst 1, 1), (553, .iadd, 1), (554, .iaload, 1), (555, .aload_n 0, 1), (556, .iload_n 3, 1), (557, .iconst 2, 1), (558, .iadd, 1), (559, .iaload, 1), (560, .invokevirtual 61, 3), (563, .aload_n 2, 1), (564, .aload_n 0, 1), (565, .iload_n 3, 1), (566, .iconst 1, 1), (567, .iadd, 1), (568, .iaload, 1), (569, .aload_n 0, 1), (570, .iload_n 3, 1), (571, .iconst 2, 1), (572, .iadd, 1), (573, .iaload, 1), (574, .invokevirtual 64, 3), (577, .if_icmp .eq 511, 3), (580, .iconst 0, 1), (581, .ireturn, 1), (582, .aload_n 1, 1), (583, .aload_n 0, 1), (584, .iload_n 3, 1), (585, .iconst 1, 1), (586, .iadd, 1), (587, .iaload, 1), (588, .invokevirtual 65, 3), (591, .aload_n 2, 1), (592, .aload_n 0, 1), (593, .iload_n 3, 1), (594, .iconst 1, 1), (595, .iadd, 1), (596, .iaload, 1), (597, .invokevirtual 68, 3), (600, .if_icmp .eq 488, 3), (603, .iconst 0, 1)]
def bIL_2 : List (Nat × Instr × Nat) := [(604, .ireturn, 1), (605, .aload_n 1, 1), (606, .invokevirtual 69, 3), (609, .aload_n 2, 1), (610, .invokevirtual 73, 3), (613, .if_icmp .eq 475, 3), (616, .iconst 0, 1), (617, .ireturn, 1), (618, .aload_n 1, 1), (619, .aload_n 0, 1), (620, .iload_n 3, 1), (621, .iconst 1, 1), (622, .iadd, 1), (623, .iaload, 1), (624, .invokevirtual 74, 3), (627, .aload_n 2, 1), (628, .aload_n 0, 1), (629, .iload_n 3, 1), (630, .iconst 1, 1), (631, .iadd, 1), (632, .iaload, 1), (633, .invokevirtual 77, 3), (636, .if_icmp .eq 452, 3), (639, .iconst 0, 1), (640, .ireturn, 1), (641, .aload_n 1, 1), (642, .aload_n 0, 1), (643, .iload_n 3, 1), (644, .iconst 1, 1), (645, .iadd, 1), (646, .iaload, 1), (647, .aload_n 0, 1), (648, .iload_n 3, 1), (649, .iconst 2, 1), (650, .iadd, 1), (651, .iaload, 1), (652, .invokevirtual 78, 3), (655, .aload_n 2, 1), (656, .aload_n 0, 1), (657, .iload_n 3, 1), (658, .iconst 1, 1), (659, .iadd, 1), (660, .iaload, 1), (661, .aload_n 0, 1), (662, .iload_n 3, 1), (663, .iconst 2, 1), (664, .iadd, 1), (665, .iaload, 1), (666, .invokevirtual 81, 3), (669, .if_icmp .eq 419, 3), (672, .iconst 0, 1), (673, .ireturn, 1), (674, .aload_n 1, 1), (675, .aload_n 0, 1), (676, .iload_n 3, 1), (677, .iconst 1, 1), (678, .iadd, 1), (679, .iaload, 1), (680, .aload_n 0, 1), (681, .iload_n 3, 1), (682, .iconst 2, 1), (683, .iadd, 1), (684, .iaload, 1), (685, .invokevirtual 82, 3), (688, .aload_n 2, 1), (689, .aload_n 0, 1), (690, .iload_n 3, 1), (691, .iconst 1, 1), (692, .iadd, 1), (693, .iaload, 1), (694, .aload_n 0, 1), (695, .iload_n 3, 1), (696, .iconst 2, 1), (697, .iadd, 1), (698, .iaload, 1), (699, .invokevirtual 85, 3), (702, .if_icmp .eq 386, 3), (705, .iconst 0, 1), (706, .ireturn, 1), (707, .aload_n 1, 1), (708, .aload_n 0, 1), (709, .iload_n 3, 1), (710, .iconst 1, 1), (711, .iadd, 1), (712, .iaload, 1), (713, .aload_n 0, 1), (714, .iload_n 3, 1), (715, .iconst 2, 1), (716, .iadd, 1), (717, .iaload, 1), (718, .invokevirtual 86, 3), (721, .aload_n 2, 1), (722, .aload_n 0, 1), (723, .iload_n 3, 1), (724, .iconst 1, 1), (725, .iadd, 1), (726, .iaload, 1), (727, .aload_n 0, 1), (728, .iload_n 3, 1), (729, .iconst 2, 1), (730, .iadd, 1), (731, .iaload, 1), (732, .invokevirtual 89, 3), (735, .if_icmp .eq 353, 3), (738, .iconst 0, 1), (739, .ireturn, 1), (740, .aload_n 1, 1), (741, .aload_n 0, 1), (742, .iload_n 3, 1), (743, .iconst 1, 1), (744, .iadd, 1), (745, .iaload, 1), (746, .aload_n 0, 1), (747, .iload_n 3, 1), (748, .iconst 2, 1), (749, .iadd, 1), (750, .iaload, 1), (751, .invokevirtual 90, 3), (754, .aload_n 2, 1), (755, .aload_n 0, 1), (756, .iload_n 3, 1), (757, .iconst 1, 1), (758, .iadd, 1), (759, .iaload, 1), (760, .aload_n 0, 1), (761, .iload_n 3, 1), (762, .iconst 2, 1), (763, .iadd, 1), (764, .iaload, 1), (765, .invokevirtual 93, 3), (768, .if_icmp .eq 320, 3), (771, .iconst 0, 1), (772, .ireturn, 1), (773, .aload_n 1, 1), (774, .aload_n 0, 1), (775, .iload_n 3, 1), (776, .iconst 1, 1), (777, .iadd, 1), (778, .iaload, 1), (779, .aload_n 0, 1), (780, .iload_n 3, 1), (781, .iconst 2, 1), (782, .iadd, 1), (783, .iaload, 1), (784, .invokevirtual 94, 3), (787, .aload_n 2, 1), (788, .aload_n 0, 1), (789, .iload_n 3, 1), (790, .iconst 1, 1), (791, .iadd, 1), (792, .iaload, 1), (793, .aload_n 0, 1), (794, .iload_n 3, 1), (795, .iconst 2, 1), (796, .iadd, 1), (797, .iaload, 1), (798, .invokevirtual 97, 3), (801, .if_icmp .eq 287, 3), (804, .iconst 0, 1), (805, .ireturn, 1), (806, .aload_n 1, 1), (807, .aload_n 0, 1), (808, .iload_n 3, 1), (809, .iconst 1, 1), (810, .iadd, 1), (811, .iaload, 1), (812, .invokevirtual 98, 3), (815, .aload_n 2, 1), (816, .aload_n 0, 1), (817, .iload_n 3, 1), (818, .iconst 1, 1), (819, .iadd, 1), (820, .iaload, 1), (821, .invokevirtual 101, 3), (824, .if_icmp .eq 264, 3), (827, .iconst 0, 1), (828, .ireturn, 1), (829, .aload_n 1, 1), (830, .aload_n 0, 1), (831, .iload_n 3, 1), (832, .iconst 1, 1)]
def bIL_3 : List (Nat × Instr × Nat) := [(833, .iadd, 1), (834, .iaload, 1), (835, .invokevirtual 102, 3), (838, .aload_n 2, 1), (839, .aload_n 0, 1), (840, .iload_n 3, 1), (841, .iconst 1, 1), (842, .iadd, 1), (843, .iaload, 1), (844, .invokevirtual 105, 3), (847, .if_icmp .eq 241, 3), (850, .iconst 0, 1), (851, .ireturn, 1), (852, .aload_n 1, 1), (853, .aload_n 0, 1), (854, .iload_n 3, 1), (855, .iconst 1, 1), (856, .iadd, 1), (857, .iaload, 1), (858, .invokevirtual 106, 3), (861, .aload_n 2, 1), (862, .aload_n 0, 1), (863, .iload_n 3, 1), (864, .iconst 1, 1), (865, .iadd, 1), (866, .iaload, 1), (867, .invokevirtual 109, 3), (870, .if_icmp .eq 218, 3), (873, .iconst 0, 1), (874, .ireturn, 1), (875, .aload_n 1, 1), (876, .invokevirtual 110, 3), (879, .aload_n 2, 1), (880, .invokevirtual 113, 3), (883, .if_icmp .eq 205, 3), (886, .iconst 0, 1), (887, .ireturn, 1), (888, .aload_n 1, 1), (889, .aload_n 0, 1), (890, .iload_n 3, 1), (891, .iconst 1, 1), (892, .iadd, 1), (893, .iaload, 1), (894, .invokevirtual 114, 3), (897, .aload_n 2, 1), (898, .aload_n 0, 1), (899, .iload_n 3, 1), (900, .iconst 1, 1), (901, .iadd, 1), (902, .iaload, 1), (903, .invokevirtual 117, 3), (906, .if_icmp .eq 182, 3), (909, .iconst 0, 1), (910, .ireturn, 1), (911, .aload_n 1, 1), (912, .aload_n 0, 1), (913, .iload_n 3, 1), (914, .iconst 1, 1), (915, .iadd, 1), (916, .iaload, 1), (917, .invokevirtual 118, 3), (920, .aload_n 2, 1), (921, .aload_n 0, 1), (922, .iload_n 3, 1), (923, .iconst 1, 1), (924, .iadd, 1), (925, .iaload, 1), (926, .invokevirtual 121, 3), (929, .if_icmp .eq 159, 3), (932, .iconst 0, 1), (933, .ireturn, 1), (934, .aload_n 1, 1), (935, .aload_n 0, 1), (936, .iload_n 3, 1), (937, .iconst 1, 1), (938, .iadd, 1), (939, .iaload, 1), (940, .invokevirtual 122, 3), (943, .aload_n 2, 1), (944, .aload_n 0, 1), (945, .iload_n 3, 1), (946, .iconst 1, 1), (947, .iadd, 1), (948, .iaload, 1), (949, .invokevirtual 125, 3), (952, .if_icmp .eq 136, 3), (955, .iconst 0, 1), (956, .ireturn, 1), (957, .aload_n 1, 1), (958, .aload_n 0, 1), (959, .iload_n 3, 1), (960, .iconst 1, 1), (961, .iadd, 1), (962, .iaload, 1), (963, .aload_n 0, 1), (964, .iload_n 3, 1), (965, .iconst 2, 1), (966, .iadd, 1), (967, .iaload, 1), (968, .invokevirtual 126, 3), (971, .aload_n 2, 1), (972, .aload_n 0, 1), (973, .iload_n 3, 1), (974, .iconst 1, 1), (975, .iadd, 1), (976, .iaload, 1), (977, .aload_n 0, 1), (978, .iload_n 3, 1), (979, .iconst 2, 1), (980, .iadd, 1), (981, .iaload, 1), (982, .invokevirtual 129, 3), (985, .if_icmp .eq 103, 3), (988, .iconst 0, 1), (989, .ireturn, 1), (990, .aload_n 1, 1), (991, .invokevirtual 130, 3), (994, .aload_n 2, 1), (995, .invokevirtual 133, 3), (998, .if_icmp .eq 90, 3), (1001, .iconst 0, 1), (1002, .ireturn, 1), (1003, .aload_n 1, 1), (1004, .aload_n 0, 1), (1005, .iload_n 3, 1), (1006, .iconst 1, 1), (1007, .iadd, 1), (1008, .iaload, 1), (1009, .invokevirtual 134, 3), (1012, .aload_n 2, 1), (1013, .aload_n 0, 1), (1014, .iload_n 3, 1), (1015, .iconst 1, 1), (1016, .iadd, 1), (1017, .iaload, 1), (1018, .invokevirtual 137, 3), (1021, .if_icmp .eq 67, 3), (1024, .iconst 0, 1), (1025, .ireturn, 1), (1026, .aload_n 1, 1), (1027, .invokevirtual 138, 3), (1030, .aload_n 2, 1), (1031, .invokevirtual 141, 3), (1034, .if_icmp .eq 54, 3), (1037, .iconst 0, 1), (1038, .ireturn, 1), (1039, .aload_n 1, 1), (1040, .invokevirtual 142, 3), (1043, .aload_n 2, 1), (1044, .invokevirtual 145, 3), (1047, .if_icmp .eq 41, 3), (1050, .iconst 0, 1), (1051, .ireturn, 1), (1052, .aload_n 1, 1), (1053, .invokevirtual 146, 3), (1056, .aload_n 2, 1), (1057, .invokevirtual 149, 3), (1060, .if_icmp .eq 28, 3), (1063, .iconst 0, 1), (1064, .ireturn, 1), (1065, .aload_n 1, 1), (1066, .aload_n 0, 1), (1067, .iload_n 3, 1), (1068, .iconst 1, 1), (1069, .iadd, 1), (1070, .iaload, 1), (1071, .invokevirtual 150, 3), (1074, .aload_n 2, 1), (1075, .aload_n 0, 1), (1076, .iload_n 3, 1), (1077, .iconst 1, 1), (1078, .iadd, 1), (1079, .iaload, 1), (1080, .invokevirtual 153, 3), (1083, .if_icmp .eq 5, 3), (1086, .iconst 0, 1), (1087, .ireturn, 1), (1088, .iinc 3 7, 3), (1091, .goto (-1073), 3), (1094, .iconst 1, 1), (1095, .ireturn, 1)]
def bI_0 : List (Nat × Instr × Nat) := [(0, .aload_n 0, 1), (1, .invokespecial 3, 3), (4, .aload_n 0, 1), (5, .bipush 8, 2), (7, .bipush 7, 2), (9, .multianewarray 9 2, 4), (13, .putfield 11, 3), (16, .aload_n 0, 1), (17, .bipush 7, 2), (19, .newarray .int, 2), (21, .putfield 16, 3), (24, .aload_n 0, 1), (25, .bipush 7, 2), (27, .newarray .int, 2), (29, .putfield 20, 3), (32, .aload_n 0, 1), (33, .sipush 896, 3), (36, .newarray .int, 2), (38, .putfield 23, 3), (41, .aload_n 0, 1), (42, .bipush 7, 2), (44, .anewarray 26, 3), (47, .putfield 28, 3), (50, .return_, 1)]
def bI_1 : List (Nat × Instr × Nat) := [(0, .aload_n 0, 1), (1, .aload_n 1, 1), (2, .getfield 32, 3), (5, .bipush 7, 2), (7, .invokestatic 38, 3), (10, .putfield 44, 3), (13, .iconst (-1), 1), (14, .istore_n 2, 1), (15, .iload_n 2, 1), (16, .aload_n 0, 1), (17, .getfield 44, 3), (20, .if_icmp .ge 41, 3), (23, .iconst 0, 1), (24, .istore_n 3, 1), (25, .iload_n 3, 1), (26, .aload_n 0, 1), (27, .getfield 44, 3), (30, .if_icmp .ge 25, 3), (33, .aload_n 0, 1), (34, .getfield 11, 3), (37, .iload_n 2, 1), (38, .iconst 1, 1), (39, .iadd, 1), (40, .aaload, 1), (41, .iload_n 3, 1), (42, .aload_n 1, 1), (43, .iload_n 3, 1), (44, .iload_n 2, 1), (45, .invokevirtual 45, 3), (48, .iastore, 1), (49, .iinc 3 1, 3), (52, .goto (-27), 3), (55, .iinc 2 1, 3), (58, .goto (-43), 3), (61, .return_, 1)]
def bI_2 : List (Nat × Instr × Nat) := [(0, .aload_n 0, 1), (1, .sipush 1000, 3), (4, .putfield 48, 3), (7, .aload_n 0, 1), (8, .iconst 0, 1), (9, .iconst 0, 1), (10, .iconst 0, 1), (11, .invokestatic 51, 3), (14, .return_, 1)]
def bI_3 : List (Nat × Instr × Nat) := [(0, .iload_n 3, 1), (1, .aload_n 0, 1), (2, .getfield 48, 3), (5, .if_icmp .lt 4, 3), (8, .return_, 1), (9, .iload_n 1, 1), (10, .aload_n 0, 1), (11, .getfield 44, 3), (14, .if_icmp .ge 9, 3), (17, .iload_n 1, 1), (18, .bipush 7, 2), (20, .if_icmp .lt 24, 3), (23, .aload_n 0, 1), (24, .iload_n 3, 1), (25, .putfield 48, 3), (28, .aload_n 0, 1), (29, .getfield 16, 3), (32, .iconst 0, 1), (33, .aload_n 0, 1), (34, .getfield 20, 3), (37, .iconst 0, 1), (38, .bipush 7, 2), (40, .invokestatic 55, 3), (43, .return_, 1), (44, .iload_n 1, 1), (45, .ifCond .ne 7, 3), (48, .iconst 0, 1), (49, .goto 13, 3), (52, .aload_n 0, 1), (53, .getfield 16, 3), (56, .iload_n 1, 1), (57, .iconst 1, 1), (58, .isub, 1), (59, .iaload, 1), (60, .iconst 1, 1), (61, .iadd, 1), (62, .istore 4, 2), (64, .iconst 0, 1), (65, .istore 5, 2), (67, .iload 5, 2), (69, .aload_n 0, 1), (70, .getfield 44, 3), (73, .if_icmp .ge 51, 3), (76, .iload_n 2, 1), (77, .iconst 1, 1), (78, .iload 5, 2), (80, .ishl, 1), (81, .iand, 1), (82, .ifCond .ne 36, 3), (85, .aload_n 0, 1), (86, .getfield 16, 3), (89, .iload_n 1, 1), (90, .iload 5, 2), (92, .iastore, 1), (93, .aload_n 0, 1), (94, .iload_n 1, 1), (95, .iconst 1, 1), (96, .iadd, 1), (97, .iload_n 2, 1), (98, .iconst 1, 1), (99, .iload 5, 2), (101, .ishl, 1), (102, .ior, 1), (103, .iload_n 3, 1), (104, .aload_n 0, 1), (105, .getfield 11, 3), (108, .iload 4, 2), (110, .aaload, 1), (111, .iload 5, 2), (113, .iaload, 1), (114, .iadd, 1), (115, .invokestatic 51, 3), (118, .iinc 5 1, 3), (121, .goto (-54), 3), (124, .return_, 1)]
def bI_4 : List (Nat × Instr × Nat) := [(0, .iconst 0, 1), (1, .istore_n 2, 1), (2, .iload_n 2, 1), (3, .aload_n 0, 1), (4, .getfield 44, 3), (7, .if_icmp .ge 23, 3), (10, .aload_n 0, 1), (11, .getfield 28, 3), (14, .iload_n 2, 1), (15, .aload_n 1, 1), (16, .aload_n 0, 1), (17, .getfield 20, 3), (20, .iload_n 2, 1), (21, .iaload, 1), (22, .aaload, 1), (23, .aastore, 1), (24, .iinc 2 1, 3), (27, .goto (-25), 3), (30, .iconst 0, 1), (31, .istore_n 2, 1), (32, .iload_n 2, 1), (33, .aload_n 0, 1), (34, .getfield 44, 3), (37, .if_icmp .ge 18, 3), (40, .aload_n 1, 1), (41, .iload_n 2, 1), (42, .aload_n 0, 1), (43, .getfield 28, 3), (46, .iload_n 2, 1), (47, .aaload, 1), (48, .aastore, 1), (49, .iinc 2 1, 3), (52, .goto (-20), 3), (55, .return_, 1)]
def bI_5 : List (Nat × Instr × Nat) := [(0, .iconst 1, 1), (1, .aload_n 0, 1), (2, .getfield 44, 3), (5, .ishl, 1), (6, .iconst 1, 1), (7, .isub, 1), (8, .istore_n 1, 1), (9, .iconst 1, 1), (10, .istore_n 2, 1), (11, .iload_n 2, 1), (12, .iload_n 1, 1), (13, .if_icmp .gt 50, 3), (16, .iconst 0, 1), (17, .istore_n 3, 1), (18, .iload_n 3, 1), (19, .aload_n 0, 1), (20, .getfield 44, 3), (23, .if_icmp .ge 34, 3), (26, .iload_n 2, 1), (27, .iconst 1, 1), (28, .iload_n 3, 1), (29, .ishl, 1), (30, .iand, 1), (31, .ifCond .eq 20, 3), (34, .aload_n 0, 1), (35, .getfield 23, 3), (38, .iload_n 2, 1), (39, .bipush 7, 2), (41, .imul, 1), (42, .iload_n 3, 1), (43, .iadd, 1), (44, .aload_n 0, 1), (45, .iload_n 2, 1), (46, .iload_n 3, 1), (47, .invokevirtual 61, 3), (50, .iastore, 1), (51, .iinc 3 1, 3), (54, .goto (-36), 3), (57, .iinc 2 1, 3), (60, .goto (-49), 3), (63, .aload_n 0, 1), (64, .getfield 44, 3), (67, .ifCond .ne 7, 3), (70, .iconst 0, 1), (71, .goto 9, 3), (74, .aload_n 0, 1), (75, .iload_n 1, 1), (76, .iconst (-1), 1), (77, .invokevirtual 64, 3), (80, .ireturn, 1)]
def bI_6 : List (Nat × Instr × Nat) := [(0, .iload_n 1, 1), (1, .iconst 1, 1), (2, .iload_n 2, 1), (3, .ishl, 1), (4, .iconst (-1), 1), (5, .ixor, 1), (6, .iand, 1), (7, .istore_n 3, 1), (8, .iload_n 3, 1), (9, .ifCond .ne 14, 3), (12, .aload_n 0, 1), (13, .getfield 11, 3), (16, .iconst 0, 1), (17, .aaload, 1), (18, .iload_n 2, 1), (19, .iaload, 1), (20, .goto 9, 3), (23, .aload_n 0, 1), (24, .iload_n 3, 1), (25, .iload_n 2, 1), (26, .invokevirtual 64, 3), (29, .ireturn, 1)]
def bI_7 : List (Nat × Instr × Nat) := [(0, .sipush 1000, 3), (3, .istore_n 3, 1), (4, .iconst 0, 1), (5, .istore 4, 2), (7, .iload 4, 2), (9, .aload_n 0, 1), (10, .getfield 44, 3), (13, .if_icmp .ge 59, 3), (16, .iload_n 1, 1), (17, .iconst 1, 1), (18, .iload 4, 2), (20, .ishl, 1), (21, .iand, 1), (22, .ifCond .eq 44, 3), (25, .iload_n 2, 1), (26, .ifCond .ge 7, 3), (29, .iconst 0, 1), (30, .goto 14, 3), (33, .aload_n 0, 1), (34, .getfield 11, 3), (37, .iload 4, 2), (39, .iconst 1, 1), (40, .iadd, 1), (41, .aaload, 1), (42, .iload_n 2, 1), (43, .iaload, 1), (44, .istore 5, 2), (46, .iload_n 3, 1), (47, .aload_n 0, 1), (48, .getfield 23, 3), (51, .iload_n 1, 1), (52, .bipush 7, 2), (54, .imul, 1), (55, .iload 4, 2), (57, .iadd, 1), (58, .iaload, 1), (59, .iload 5, 2), (61, .iadd, 1), (62, .invokestatic 38, 3), (65, .istore_n 3, 1), (66, .iinc 4 1, 3), (69, .goto (-62), 3), (72, .iload_n 3, 1), (73, .ireturn, 1)]
def bI_8 : List (Nat × Instr × Nat) := [(0, .aload_n 0, 1), (1, .invokespecial 1, 3), (4, .aload_n 0, 1), (5, .bipush 6, 2), (7, .newarray .int, 2), (9, .putfield 7, 3), (12, .return_, 1)]
def bI_9 : List (Nat × Instr × Nat) := [(0, .aload_n 0, 1), (1, .invokespecial 1, 3), (4, .return_, 1)]
def bI_10 : List (Nat × Instr × Nat) := [(0, .aload_n 0, 1), (1, .aload_n 1, 1), (2, .getfield 7, 3), (5, .putfield 7, 3), (8, .aload_n 0, 1), (9, .aload_n 1, 1), (10, .getfield 13, 3), (13, .putfield 13, 3), (16, .aload_n 0, 1), (17, .aload_n 1, 1), (18, .getfield 16, 3), (21, .putfield 16, 3), (24, .aload_n 0, 1), (25, .aload_n 1, 1), (26, .getfield 19, 3), (29, .putfield 19, 3), (32, .aload_n 0, 1), (33, .aload_n 1, 1), (34, .getfield 22, 3), (37, .putfield 22, 3), (40, .aload_n 0, 1), (41, .aload_n 1, 1), (42, .getfield 25, 3), (45, .putfield 25, 3), (48, .aload_n 0, 1), (49, .aload_n 1, 1), (50, .getfield 28, 3), (53, .putfield 28, 3), (56, .aload_n 0, 1), (57, .aload_n 1, 1), (58, .getfield 31, 3), (61, .putfield 31, 3), (64, .return_, 1)]
def bI_11 : List (Nat × Instr × Nat) := [(0, .aload_n 0, 1), (1, .getfield 22, 3), (4, .aload_n 1, 1), (5, .getfield 22, 3), (8, .if_icmp .eq 22, 3), (11, .aload_n 0, 1), (12, .getfield 22, 3), (15, .aload_n 1, 1), (16, .getfield 22, 3), (19, .if_icmp .ge 7, 3), (22, .iconst 1, 1), (23, .goto 23, 3), (26, .iconst 0, 1), (27, .goto 19, 3), (30, .aload_n 0, 1), (31, .getfield 13, 3), (34, .aload_n 1, 1), (35, .getfield 13, 3), (38, .if_icmp .le 7, 3), (41, .iconst 1, 1), (42, .goto 4, 3), (45, .iconst 0, 1), (46, .ireturn, 1)]
def bI_12 : List (Nat × Instr × Nat) := [(0, .aload_n 0, 1), (1, .invokespecial 3, 3), (4, .aload_n 0, 1), (5, .getstatic 9, 3), (8, .invokevirtual 13, 3), (11, .checkcast 14, 3), (14, .putfield 18, 3), (17, .aload_n 0, 1), (18, .bipush 8, 2), (20, .anewarray 23, 3), (23, .putfield 25, 3), (26, .aload_n 0, 1), (27, .bipush 12, 2), (29, .anewarray 29, 3), (32, .putfield 31, 3), (35, .aload_n 0, 1), (36, .bipush 16, 2), (38, .anewarray 35, 3), (41, .putfield 37, 3), (44, .aload_n 0, 1), (45, .iconst 0, 1), (46, .putfield 41, 3), (49, .aload_n 0, 1), (50, .iconst 0, 1), (51, .putfield 45, 3), (54, .aload_n 0, 1), (55, .iconst 0, 1), (56, .putfield 48, 3), (59, .iconst 0, 1), (60, .istore_n 1, 1), (61, .iload_n 1, 1), (62, .bipush 8, 2), (64, .if_icmp .ge 22, 3), (67, .aload_n 0, 1), (68, .getfield 25, 3), (71, .iload_n 1, 1), (72, .new 23, 3), (75, .dup, 1), (76, .invokespecial 51, 3), (79, .aastore, 1), (80, .iinc 1 1, 3), (83, .goto (-22), 3), (86, .iconst 0, 1), (87, .istore_n 1, 1), (88, .iload_n 1, 1), (89, .bipush 12, 2), (91, .if_icmp .ge 22, 3), (94, .aload_n 0, 1), (95, .getfield 31, 3), (98, .iload_n 1, 1), (99, .new 29, 3), (102, .dup, 1), (103, .invokespecial 52, 3), (106, .aastore, 1), (107, .iinc 1 1, 3), (110, .goto (-22), 3), (113, .iconst 0, 1), (114, .istore_n 1, 1), (115, .iload_n 1, 1), (116, .bipush 16, 2), (118, .if_icmp .ge 22, 3), (121, .aload_n 0, 1), (122, .getfield 37, 3), (125, .iload_n 1, 1), (126, .new 35, 3), (129, .dup, 1), (130, .invokespecial 53, 3), (133, .aastore, 1), (134, .iinc 1 1, 3), (137, .goto (-22), 3), (140, .return_, 1)]
def bI_13 : List (Nat × Instr × Nat) := [(0, .aload_n 1, 1), (1, .getfield 18, 3), (4, .iconst 0, 1), (5, .aload_n 0, 1), (6, .getfield 18, 3), (9, .iconst 0, 1), (10, .iconst 3, 1), (11, .invokestatic 54, 3), (14, .aload_n 0, 1), (15, .aload_n 1, 1), (16, .getfield 41, 3), (19, .putfield 41, 3), (22, .aload_n 0, 1), (23, .aload_n 1, 1), (24, .getfield 45, 3), (27, .putfield 45, 3), (30, .aload_n 0, 1), (31, .aload_n 1, 1), (32, .getfield 48, 3), (35, .putfield 48, 3), (38, .iconst 0, 1), (39, .istore_n 2, 1), (40, .iload_n 2, 1), (41, .aload_n 0, 1), (42, .getfield 41, 3), (45, .if_icmp .ge 24, 3), (48, .aload_n 0, 1), (49, .getfield 25, 3), (52, .iload_n 2, 1), (53, .aaload, 1), (54, .aload_n 1, 1), (55, .getfield 25, 3), (58, .iload_n 2, 1), (59, .aaload, 1), (60, .invokevirtual 60, 3), (63, .iinc 2 1, 3), (66, .goto (-26), 3), (69, .iconst 0, 1), (70, .istore_n 2, 1), (71, .iload_n 2, 1), (72, .aload_n 0, 1), (73, .getfield 45, 3), (76, .if_icmp .ge 24, 3), (79, .aload_n 0, 1), (80, .getfield 31, 3), (83, .iload_n 2, 1), (84, .aaload, 1), (85, .aload_n 1, 1), (86, .getfield 31, 3), (89, .iload_n 2, 1), (90, .aaload, 1), (91, .invokevirtual 64, 3), (94, .iinc 2 1, 3), (97, .goto (-26), 3), (100, .iconst 0, 1), (101, .istore_n 2, 1), (102, .iload_n 2, 1), (103, .aload_n 0, 1), (104, .getfield 48, 3), (107, .if_icmp .ge 24, 3), (110, .aload_n 0, 1), (111, .getfield 37, 3), (114, .iload_n 2, 1), (115, .aaload, 1), (116, .aload_n 1, 1), (117, .getfield 37, 3), (120, .iload_n 2, 1), (121, .aaload, 1), (122, .invokevirtual 67, 3), (125, .iinc 2 1, 3), (128, .goto (-26), 3), (131, .return_, 1)]
def bI_14 : List (Nat × Instr × Nat) := [(0, .iload_n 1, 1), (1, .ifCond .lt 15, 3), (4, .iload_n 1, 1), (5, .aload_n 0, 1), (6, .getfield 41, 3), (9, .if_icmp .ge 7, 3), (12, .iconst 1, 1), (13, .goto 4, 3), (16, .iconst 0, 1), (17, .ireturn, 1)]
def bI_15 : List (Nat × Instr × Nat) := [(0, .iload_n 1, 1), (1, .ifCond .lt 15, 3), (4, .iload_n 1, 1), (5, .aload_n 0, 1), (6, .getfield 45, 3), (9, .if_icmp .ge 7, 3), (12, .iconst 1, 1), (13, .goto 4, 3), (16, .iconst 0, 1), (17, .ireturn, 1)]
def bI_16 : List (Nat × Instr × Nat) := [(0, .iload_n 1, 1), (1, .ifCond .lt 15, 3), (4, .iload_n 1, 1), (5, .aload_n 0, 1), (6, .getfield 48, 3), (9, .if_icmp .ge 7, 3), (12, .iconst 1, 1), (13, .goto 4, 3), (16, .iconst 0, 1), (17, .ireturn, 1)]
def bI_17 : List (Nat × Instr × Nat) := [(0, .iload_n 1, 1), (1, .ifCond .lt 8, 3), (4, .iload_n 1, 1), (5, .iconst 3, 1), (6, .if_icmp .lt 6, 3), (9, .bipush (-2), 2), (11, .ireturn, 1), (12, .iload_n 2, 1), (13, .getstatic 70, 3), (16, .iload_n 1, 1), (17, .iaload, 1), (18, .getstatic 73, 3), (21, .iload_n 1, 1), (22, .iaload, 1), (23, .invokestatic 76, 3), (26, .ifCond .ne 6, 3), (29, .bipush (-2), 2), (31, .ireturn, 1), (32, .aload_n 0, 1), (33, .getfield 18, 3), (36, .iload_n 1, 1), (37, .iaload, 1), (38, .istore_n 3, 1), (39, .aload_n 0, 1), (40, .getfield 18, 3), (43, .iload_n 1, 1), (44, .iload_n 2, 1), (45, .iastore, 1), (46, .iload_n 3, 1), (47, .ireturn, 1)]
def bI_18 : List (Nat × Instr × Nat) := [(0, .iload_n 1, 1), (1, .iconst 0, 1), (2, .iconst 3, 1), (3, .invokestatic 76, 3), (6, .ifCond .eq 62, 3), (9, .iload_n 2, 1), (10, .bipush 10, 2), (12, .sipush 150, 3), (15, .invokestatic 76, 3), (18, .ifCond .eq 50, 3), (21, .iload_n 3, 1), (22, .iconst 1, 1), (23, .sipush 999, 3), (26, .invokestatic 76, 3), (29, .ifCond .eq 39, 3), (32, .iload 4, 2), (34, .iconst 0, 1), (35, .bipush 50, 2), (37, .invokestatic 76, 3), (40, .ifCond .eq 28, 3), (43, .iload 5, 2), (45, .iconst 0, 1), (46, .bipush 99, 2), (48, .invokestatic 76, 3), (51, .ifCond .eq 17, 3), (54, .iload 6, 2), (56, .iconst 0, 1), (57, .iconst 1, 1), (58, .invokestatic 76, 3), (61, .ifCond .eq 7, 3), (64, .iconst 1, 1), (65, .goto 4, 3), (68, .iconst 0, 1), (69, .istore 7, 2), (71, .iload 7, 2), (73, .ifCond .ne 6, 3), (76, .bipush (-2), 2), (78, .ireturn, 1), (79, .aload_n 0, 1), (80, .getfield 41, 3), (83, .bipush 8, 2), (85, .if_icmp .lt 6, 3), (88, .bipush (-3), 2), (90, .ireturn, 1), (91, .aload_n 0, 1), (92, .getfield 25, 3), (95, .aload_n 0, 1), (96, .getfield 41, 3), (99, .aaload, 1), (100, .astore 8, 2), (102, .iload_n 3, 1), (103, .iload 4, 2), (105, .imul, 1), (106, .bipush 100, 2), (108, .idiv, 1), (109, .istore 9, 2), (111, .aload 8, 2), (113, .iload_n 1, 1), (114, .putfield 80, 3), (117, .aload 8, 2), (119, .iload_n 2, 1), (120, .putfield 83, 3), (123, .aload 8, 2), (125, .iload_n 3, 1), (126, .putfield 86, 3), (129, .aload 8, 2), (131, .iload 4, 2), (133, .putfield 89, 3), (136, .aload 8, 2), (138, .iload 5, 2), (140, .putfield 92, 3), (143, .aload 8, 2), (145, .iload 6, 2), (147, .putfield 95, 3), (150, .aload 8, 2), (152, .iload_n 3, 1), (153, .iload 9, 2), (155, .isub, 1), (156, .putfield 98, 3), (159, .aload 8, 2), (161, .iload_n 3, 1), (162, .iload 9, 2), (164, .iadd, 1), (165, .putfield 101, 3), (168, .aload_n 0, 1), (169, .dup, 1), (170, .getfield 41, 3), (173, .iconst 1, 1), (174, .iadd, 1), (175, .putfield 41, 3), (178, .aload_n 0, 1), (179, .getfield 41, 3), (182, .iconst 1, 1), (183, .isub, 1), (184, .ireturn, 1)]
def bI_19 : List (Nat × Instr × Nat) := [(0, .iload_n 1, 1), (1, .iconst 0, 1), (2, .iconst 3, 1), (3, .invokestatic 76, 3), (6, .ifCond .eq 30, 3), (9, .iload_n 2, 1), (10, .bipush 50, 2), (12, .sipush 300, 3), (15, .invokestatic 76, 3), (18, .ifCond .eq 18, 3), (21, .iload_n 3, 1), (22, .iconst 1, 1), (23, .sipush 999, 3), (26, .invokestatic 76, 3), (29, .ifCond .eq 7, 3), (32, .iconst 1, 1), (33, .goto 4, 3), (36, .iconst 0, 1), (37, .istore 4, 2), (39, .iload 4, 2), (41, .ifCond .ne 6, 3), (44, .bipush (-2), 2), (46, .ireturn, 1), (47, .aload_n 0, 1), (48, .getfield 45, 3), (51, .bipush 12, 2), (53, .if_icmp .lt 8, 3), (56, .bipush (-3), 2), (58, .goto 10, 3), (61, .aload_n 0, 1), (62, .iload_n 1, 1), (63, .iload_n 2, 1), (64, .iload_n 3, 1), (65, .invokevirtual 104, 3), (68, .ireturn, 1)]
def bI_20 : List (Nat × Instr × Nat) := [(0, .aload_n 0, 1), (1, .getfield 31, 3), (4, .aload_n 0, 1), (5, .getfield 45, 3), (8, .aaload, 1), (9, .astore 4, 2), (11, .aload 4, 2), (13, .iload_n 1, 1), (14, .putfield 108, 3), (17, .aload 4, 2), (19, .iload_n 2, 1), (20, .putfield 109, 3), (23, .aload 4, 2), (25, .iload_n 3, 1), (26, .putfield 110, 3), (29, .aload_n 0, 1), (30, .dup, 1), (31, .getfield 45, 3), (34, .iconst 1, 1), (35, .iadd, 1), (36, .putfield 45, 3), (39, .aload_n 0, 1), (40, .getfield 45, 3), (43, .iconst 1, 1), (44, .isub, 1), (45, .ireturn, 1)]
def bI_21 : List (Nat × Instr × Nat) := [(0, .iconst 0, 1), (1, .istore_n 2, 1), (2, .iconst 0, 1), (3, .istore_n 3, 1), (4, .iload_n 3, 1), (5, .aload_n 0, 1), (6, .getfield 48, 3), (9, .if_icmp .ge 33, 3), (12, .iload_n 2, 1), (13, .aload_n 0, 1), (14, .getfield 37, 3), (17, .iload_n 3, 1), (18, .aaload, 1), (19, .getfield 113, 3), (22, .iload_n 1, 1), (23, .iaload, 1), (24, .aload_n 0, 1), (25, .getfield 37, 3), (28, .iload_n 3, 1), (29, .aaload, 1), (30, .getfield 116, 3), (33, .imul, 1), (34, .iadd, 1), (35, .istore_n 2, 1), (36, .iinc 3 1, 3), (39, .goto (-35), 3), (42, .iload_n 2, 1), (43, .ireturn, 1)]
def bI_22 : List (Nat × Instr × Nat) := [(0, .aload_n 0, 1), (1, .getfield 25, 3), (4, .iload_n 1, 1), (5, .aaload, 1), (6, .getfield 101, 3), (9, .aload_n 0, 1), (10, .iload_n 1, 1), (11, .invokevirtual 117, 3), (14, .isub, 1), (15, .ireturn, 1)]
def bI_23 : List (Nat × Instr × Nat) := [(0, .aload_n 0, 1), (1, .iload_n 1, 1), (2, .invokevirtual 117, 3), (5, .aload_n 0, 1), (6, .getfield 25, 3), (9, .iload_n 1, 1), (10, .aaload, 1), (11, .getfield 98, 3), (14, .if_icmp .lt 7, 3), (17, .iconst 1, 1), (18, .goto 4, 3), (21, .iconst 0, 1), (22, .ireturn, 1)]
def bI_24 : List (Nat × Instr × Nat) := [(0, .iconst 0, 1), (1, .istore_n 2, 1), (2, .iconst 0, 1), (3, .istore_n 3, 1), (4, .iload_n 3, 1), (5, .aload_n 0, 1), (6, .getfield 48, 3), (9, .if_icmp .ge 26, 3), (12, .aload_n 0, 1), (13, .getfield 37, 3), (16, .iload_n 3, 1), (17, .aaload, 1), (18, .getfield 113, 3), (21, .iload_n 1, 1), (22, .iaload, 1), (23, .ifCond .le 6, 3), (26, .iinc 2 1, 3), (29, .iinc 3 1, 3), (32, .goto (-28), 3), (35, .iload_n 2, 1), (36, .ireturn, 1)]
def bI_25 : List (Nat × Instr × Nat) := [(0, .iconst 0, 1), (1, .istore_n 2, 1), (2, .iconst 0, 1), (3, .istore_n 3, 1), (4, .iload_n 3, 1), (5, .aload_n 0, 1), (6, .getfield 41, 3), (9, .if_icmp .ge 61, 3), (12, .aload_n 0, 1), (13, .getfield 25, 3), (16, .iload_n 3, 1), (17, .aaload, 1), (18, .aload_n 0, 1), (19, .getfield 25, 3), (22, .iload_n 1, 1), (23, .aaload, 1), (24, .invokevirtual 121, 3), (27, .istore 4, 2), (29, .aload_n 0, 1), (30, .getfield 25, 3), (33, .iload_n 1, 1), (34, .aaload, 1), (35, .aload_n 0, 1), (36, .getfield 25, 3), (39, .iload_n 3, 1), (40, .aaload, 1), (41, .invokevirtual 121, 3), (44, .istore 5, 2), (46, .iload 4, 2), (48, .ifCond .ne 13, 3), (51, .iload 5, 2), (53, .ifCond .ne 11, 3), (56, .iload_n 3, 1), (57, .iload_n 1, 1), (58, .if_icmp .ge 6, 3), (61, .iinc 2 1, 3), (64, .iinc 3 1, 3), (67, .goto (-63), 3), (70, .iload_n 2, 1), (71, .ireturn, 1)]
def bI_26 : List (Nat × Instr × Nat) := [(0, .aload_n 0, 1), (1, .getfield 31, 3), (4, .iload_n 1, 1), (5, .aaload, 1), (6, .getfield 110, 3), (9, .istore_n 2, 1), (10, .iconst 0, 1), (11, .istore_n 3, 1), (12, .iload_n 3, 1), (13, .aload_n 0, 1), (14, .getfield 48, 3), (17, .if_icmp .ge 34, 3), (20, .aload_n 0, 1), (21, .getfield 37, 3), (24, .iload_n 3, 1), (25, .aaload, 1), (26, .getfield 125, 3), (29, .iload_n 1, 1), (30, .if_icmp .ne 15, 3), (33, .iload_n 2, 1), (34, .aload_n 0, 1), (35, .getfield 37, 3), (38, .iload_n 3, 1), (39, .aaload, 1), (40, .getfield 116, 3), (43, .isub, 1), (44, .istore_n 2, 1), (45, .iinc 3 1, 3), (48, .goto (-36), 3), (51, .iload_n 2, 1), (52, .ireturn, 1)]
def bI_27 : List (Nat × Instr × Nat) := [(0, .iconst 0, 1), (1, .istore_n 2, 1), (2, .iconst 0, 1), (3, .istore_n 3, 1), (4, .iload_n 3, 1), (5, .aload_n 0, 1), (6, .getfield 48, 3), (9, .if_icmp .ge 25, 3), (12, .aload_n 0, 1), (13, .getfield 37, 3), (16, .iload_n 3, 1), (17, .aaload, 1), (18, .getfield 125, 3), (21, .iload_n 1, 1), (22, .if_icmp .ne 6, 3), (25, .iinc 2 1, 3), (28, .iinc 3 1, 3), (31, .goto (-27), 3), (34, .iload_n 2, 1), (35, .ireturn, 1)]
def bI_28 : List (Nat × Instr × Nat) := [(0, .iconst 0, 1), (1, .istore_n 2, 1), (2, .iload_n 2, 1), (3, .aload_n 0, 1), (4, .getfield 48, 3), (7, .if_icmp .ge 24, 3), (10, .aload_n 0, 1), (11, .getfield 37, 3), (14, .iload_n 2, 1), (15, .aaload, 1), (16, .getfield 128, 3), (19, .iload_n 1, 1), (20, .if_icmp .ne 5, 3), (23, .iload_n 2, 1), (24, .ireturn, 1), (25, .iinc 2 1, 3), (28, .goto (-26), 3), (31, .bipush (-5), 2), (33, .ireturn, 1)]
def bI_29 : List (Nat × Instr × Nat) := [(0, .aload_n 0, 1), (1, .iload_n 1, 1), (2, .invokevirtual 131, 3), (5, .ifCond .eq 5, 3), (8, .iconst 0, 1), (9, .ireturn, 1), (10, .iconst 0, 1), (11, .istore_n 2, 1), (12, .iconst 0, 1), (13, .istore_n 3, 1), (14, .iconst 0, 1), (15, .istore 4, 2), (17, .iconst 0, 1), (18, .istore 5, 2), (20, .iload 5, 2), (22, .aload_n 0, 1), (23, .getfield 45, 3), (26, .if_icmp .ge 93, 3), (29, .aload_n 0, 1), (30, .iload 5, 2), (32, .invokevirtual 135, 3), (35, .istore 6, 2), (37, .iload 6, 2), (39, .ifCond .le 74, 3), (42, .aload_n 0, 1), (43, .getfield 31, 3), (46, .iload 5, 2), (48, .aaload, 1), (49, .aload_n 0, 1), (50, .getfield 25, 3), (53, .iload_n 1, 1), (54, .aaload, 1), (55, .invokevirtual 138, 3), (58, .ifCond .eq 55, 3), (61, .aload_n 0, 1), (62, .aload_n 0, 1), (63, .getfield 31, 3), (66, .iload 5, 2), (68, .aaload, 1), (69, .getfield 109, 3), (72, .aload_n 0, 1), (73, .getfield 25, 3), (76, .iload_n 1, 1), (77, .aaload, 1), (78, .getfield 83, 3), (81, .invokevirtual 141, 3), (84, .istore 7, 2), (86, .iconst 1, 1), (87, .istore_n 2, 1), (88, .iload_n 3, 1), (89, .ifCond .ne 8, 3), (92, .iload 7, 2), (94, .ifCond .le 7, 3), (97, .iconst 1, 1), (98, .goto 4, 3), (101, .iconst 0, 1), (102, .istore_n 3, 1), (103, .iload 4, 2), (105, .iload 7, 2), (107, .iload 6, 2), (109, .imul, 1), (110, .iadd, 1), (111, .istore 4, 2), (113, .iinc 5 1, 3), (116, .goto (-96), 3), (119, .iload_n 2, 1), (120, .ifCond .ne 5, 3), (123, .iconst 1, 1), (124, .ireturn, 1), (125, .iload_n 3, 1), (126, .ifCond .ne 5, 3), (129, .iconst 2, 1), (130, .ireturn, 1), (131, .iload 4, 2), (133, .aload_n 0, 1), (134, .getfield 25, 3), (137, .iload_n 1, 1), (138, .aaload, 1), (139, .getfield 98, 3), (142, .aload_n 0, 1), (143, .iload_n 1, 1), (144, .invokevirtual 117, 3), (147, .isub, 1), (148, .if_icmp .ge 7, 3), (151, .iconst 3, 1), (152, .goto 4, 3), (155, .iconst 4, 1), (156, .ireturn, 1)]
def bI_30 : List (Nat × Instr × Nat) := [(0, .bipush 8, 2), (2, .istore_n 3, 1), (3, .iload_n 3, 1), (4, .ifCond .le 46, 3), (7, .iload_n 1, 1), (8, .iload_n 3, 1), (9, .iload_n 2, 1), (10, .imul, 1), (11, .isub, 1), (12, .istore 4, 2), (14, .iload 4, 2), (16, .iconst 2, 1), (17, .aload_n 0, 1), (18, .getfield 18, 3), (21, .iconst 1, 1), (22, .iaload, 1), (23, .imul, 1), (24, .if_icmp .lt 20, 3), (27, .iload_n 3, 1), (28, .iload 4, 2), (30, .invokestatic 145, 3), (33, .aload_n 0, 1), (34, .getfield 18, 3), (37, .iconst 0, 1), (38, .iaload, 1), (39, .if_icmp .gt 5, 3), (42, .iload_n 3, 1), (43, .ireturn, 1), (44, .iinc 3 (-1), 3), (47, .goto (-44), 3), (50, .iconst 0, 1), (51, .ireturn, 1)]
def bI_31 : List (Nat × Instr × Nat) := [(0, .aload_n 2, 1), (1, .aload_n 0, 1), (2, .getfield 31, 3), (5, .iload_n 1, 1), (6, .aaload, 1), (7, .getfield 109, 3), (10, .putfield 148, 3), (13, .aload_n 2, 1), (14, .aload_n 0, 1), (15, .getfield 18, 3), (18, .iconst 0, 1), (19, .iaload, 1), (20, .putfield 151, 3), (23, .aload_n 2, 1), (24, .iconst 2, 1), (25, .aload_n 0, 1), (26, .getfield 18, 3), (29, .iconst 1, 1), (30, .iaload, 1), (31, .imul, 1), (32, .putfield 154, 3), (35, .aload_n 2, 1), (36, .aload_n 0, 1), (37, .getfield 41, 3), (40, .putfield 157, 3), (43, .iconst 0, 1), (44, .istore_n 3, 1), (45, .iload_n 3, 1), (46, .aload_n 0, 1), (47, .getfield 41, 3), (50, .if_icmp .ge 41, 3), (53, .aload_n 2, 1), (54, .getfield 158, 3), (57, .iload_n 3, 1), (58, .aload_n 0, 1), (59, .getfield 25, 3), (62, .iload_n 3, 1), (63, .aaload, 1), (64, .getfield 83, 3), (67, .iastore, 1), (68, .aload_n 2, 1), (69, .getfield 161, 3), (72, .iload_n 3, 1), (73, .aload_n 0, 1), (74, .iload_n 3, 1), (75, .aload_n 0, 1), (76, .getfield 31, 3), (79, .iload_n 1, 1), (80, .aaload, 1), (81, .invokevirtual 164, 3), (84, .iastore, 1), (85, .iinc 3 1, 3), (88, .goto (-43), 3), (91, .return_, 1)]
def bI_32 : List (Nat × Instr × Nat) := [(0, .aload_n 0, 1), (1, .iload_n 1, 1), (2, .invokevirtual 117, 3), (5, .istore_n 3, 1), (6, .iload_n 3, 1), (7, .aload_n 0, 1), (8, .getfield 25, 3), (11, .iload_n 1, 1), (12, .aaload, 1), (13, .getfield 86, 3), (16, .if_icmp .ge 16, 3), (19, .aload_n 2, 1), (20, .aload_n 0, 1), (21, .getfield 25, 3), (24, .iload_n 1, 1), (25, .aaload, 1), (26, .invokevirtual 138, 3), (29, .ifCond .ne 5, 3), (32, .iconst 0, 1), (33, .ireturn, 1), (34, .bipush 8, 2), (36, .aload_n 0, 1), (37, .getfield 25, 3), (40, .iload_n 1, 1), (41, .aaload, 1), (42, .getfield 101, 3), (45, .iload_n 3, 1), (46, .isub, 1), (47, .invokestatic 168, 3), (50, .ireturn, 1)]
def bI_33 : List (Nat × Instr × Nat) := [(0, .aload_n 0, 1), (1, .iload_n 1, 1), (2, .invokevirtual 135, 3), (5, .iconst 1, 1), (6, .if_icmp .ge 5, 3), (9, .iconst 0, 1), (10, .ireturn, 1), (11, .aload_n 0, 1), (12, .iload_n 1, 1), (13, .aload_n 2, 1), (14, .invokevirtual 173, 3), (17, .aload_n 2, 1), (18, .iconst 0, 1), (19, .invokevirtual 177, 3), (22, .ifCond .le 7, 3), (25, .iconst 1, 1), (26, .goto 4, 3), (29, .iconst 0, 1), (30, .ireturn, 1)]
def bI_34 : List (Nat × Instr × Nat) := [(0, .aload_n 0, 1), (1, .iload_n 1, 1), (2, .invokevirtual 135, 3), (5, .istore_n 3, 1), (6, .iconst 0, 1), (7, .istore 4, 2), (9, .iload 4, 2), (11, .aload_n 0, 1), (12, .getfield 41, 3), (15, .if_icmp .ge 32, 3), (18, .aload_n 2, 1), (19, .iload 4, 2), (21, .iaload, 1), (22, .ifCond .le 19, 3), (25, .iload_n 3, 1), (26, .aload_n 0, 1), (27, .iload 4, 2), (29, .invokevirtual 181, 3), (32, .aload_n 2, 1), (33, .iload 4, 2), (35, .iaload, 1), (36, .idiv, 1), (37, .invokestatic 168, 3), (40, .istore_n 3, 1), (41, .iinc 4 1, 3), (44, .goto (-35), 3), (47, .iload_n 3, 1), (48, .ireturn, 1)]
def bI_35 : List (Nat × Instr × Nat) := [(0, .aload_n 0, 1), (1, .iload_n 1, 1), (2, .invokevirtual 184, 3), (5, .ifCond .ne 5, 3), (8, .iconst (-1), 1), (9, .ireturn, 1), (10, .aload_n 0, 1), (11, .getfield 48, 3), (14, .bipush 16, 2), (16, .if_icmp .lt 6, 3), (19, .bipush (-3), 2), (21, .ireturn, 1), (22, .aload_n 0, 1), (23, .iload_n 1, 1), (24, .aload_n 2, 1), (25, .invokevirtual 187, 3), (28, .ifCond .ne 6, 3), (31, .bipush (-5), 2), (33, .ireturn, 1), (34, .aload_n 0, 1), (35, .iload_n 1, 1), (36, .aload_n 0, 1), (37, .iload_n 1, 1), (38, .aload_n 2, 1), (39, .getfield 191, 3), (42, .invokevirtual 194, 3), (45, .aload_n 2, 1), (46, .getfield 191, 3), (49, .invokevirtual 198, 3), (52, .ireturn, 1)]
def bI_36 : List (Nat × Instr × Nat) := [(0, .iconst 0, 1), (1, .istore_n 2, 1), (2, .iload_n 2, 1), (3, .bipush 16, 2), (5, .if_icmp .ge 38, 3), (8, .aload_n 0, 1), (9, .getfield 48, 3), (12, .bipush 16, 2), (14, .if_icmp .ge 29, 3), (17, .aload_n 0, 1), (18, .aload_n 1, 1), (19, .invokevirtual 202, 3), (22, .istore_n 3, 1), (23, .iload_n 3, 1), (24, .iconst (-1), 1), (25, .if_icmp .ne 5, 3), (28, .iload_n 2, 1), (29, .ireturn, 1), (30, .aload_n 0, 1), (31, .iload_n 3, 1), (32, .aload_n 1, 1), (33, .invokevirtual 206, 3), (36, .pop, 1), (37, .iinc 2 1, 3), (40, .goto (-38), 3), (43, .iload_n 2, 1), (44, .ireturn, 1)]
def bI_37 : List (Nat × Instr × Nat) := [(0, .iconst (-1), 1), (1, .istore_n 2, 1), (2, .iconst 0, 1), (3, .istore_n 3, 1), (4, .iconst 0, 1), (5, .istore 4, 2), (7, .iload 4, 2), (9, .aload_n 0, 1), (10, .getfield 45, 3), (13, .if_icmp .ge 82, 3), (16, .aload_n 0, 1), (17, .iload 4, 2), (19, .aload_n 1, 1), (20, .invokevirtual 187, 3), (23, .ifCond .eq 66, 3), (26, .iload_n 2, 1), (27, .iconst (-1), 1), (28, .if_icmp .eq 41, 3), (31, .aload_n 1, 1), (32, .getfield 210, 3), (35, .iload_n 3, 1), (36, .if_icmp .lt 33, 3), (39, .aload_n 1, 1), (40, .getfield 210, 3), (43, .iload_n 3, 1), (44, .if_icmp .ne 29, 3), (47, .aload_n 0, 1), (48, .getfield 31, 3), (51, .iload 4, 2), (53, .aaload, 1), (54, .getfield 109, 3), (57, .aload_n 0, 1), (58, .getfield 31, 3), (61, .iload_n 2, 1), (62, .aaload, 1), (63, .getfield 109, 3), (66, .if_icmp .ge 7, 3), (69, .iconst 1, 1), (70, .goto 4, 3), (73, .iconst 0, 1), (74, .istore 5, 2), (76, .iload 5, 2), (78, .ifCond .eq 11, 3), (81, .iload 4, 2), (83, .istore_n 2, 1), (84, .aload_n 1, 1), (85, .getfield 210, 3), (88, .istore_n 3, 1), (89, .iinc 4 1, 3), (92, .goto (-85), 3), (95, .iload_n 2, 1), (96, .ireturn, 1)]
def bI_38 : List (Nat × Instr × Nat) := [(0, .aload_n 0, 1), (1, .getfield 48, 3), (4, .bipush 16, 2), (6, .if_icmp .lt 5, 3), (9, .iconst 1, 1), (10, .ireturn, 1), (11, .aload_n 0, 1), (12, .getfield 41, 3), (15, .istore 4, 2), (17, .iload 4, 2), (19, .aload_n 3, 1), (20, .arraylength, 1), (21, .if_icmp .ge 18, 3), (24, .aload_n 3, 1), (25, .iload 4, 2), (27, .iaload, 1), (28, .ifCond .le 5, 3), (31, .iconst 2, 1), (32, .ireturn, 1), (33, .iinc 4 1, 3), (36, .goto (-19), 3), (39, .aload_n 0, 1), (40, .getfield 31, 3), (43, .iload_n 1, 1), (44, .aaload, 1), (45, .getfield 109, 3), (48, .istore 4, 2), (50, .iconst 0, 1), (51, .istore 5, 2), (53, .iload 5, 2), (55, .aload_n 0, 1), (56, .getfield 41, 3), (59, .if_icmp .ge 57, 3), (62, .aload_n 3, 1), (63, .iload 5, 2), (65, .iaload, 1), (66, .ifCond .le 24, 3), (69, .aload_n 0, 1), (70, .getfield 31, 3), (73, .iload_n 1, 1), (74, .aaload, 1), (75, .aload_n 0, 1), (76, .getfield 25, 3), (79, .iload 5, 2), (81, .aaload, 1), (82, .invokevirtual 138, 3), (85, .ifCond .ne 5, 3), (88, .iconst 3, 1), (89, .ireturn, 1), (90, .iload 4, 2), (92, .aload_n 3, 1), (93, .iload 5, 2), (95, .iaload, 1), (96, .aload_n 0, 1), (97, .getfield 25, 3), (100, .iload 5, 2), (102, .aaload, 1), (103, .getfield 83, 3), (106, .imul, 1), (107, .isub, 1), (108, .istore 4, 2), (110, .iinc 5 1, 3), (113, .goto (-60), 3), (116, .iload 4, 2), (118, .iconst 2, 1), (119, .aload_n 0, 1), (120, .getfield 18, 3), (123, .iconst 1, 1), (124, .iaload, 1), (125, .imul, 1), (126, .if_icmp .ge 5, 3), (129, .iconst 4, 1), (130, .ireturn, 1), (131, .aload_n 3, 1), (132, .invokestatic 213, 3), (135, .iload 4, 2), (137, .invokestatic 145, 3), (140, .aload_n 0, 1), (141, .getfield 18, 3), (144, .iconst 0, 1), (145, .iaload, 1), (146, .if_icmp .le 5, 3), (149, .iconst 5, 1), (150, .ireturn, 1), (151, .iload_n 2, 1), (152, .aload_n 0, 1), (153, .iload_n 1, 1), (154, .invokevirtual 135, 3), (157, .if_icmp .le 6, 3), (160, .bipush 6, 2), (162, .ireturn, 1), (163, .iload_n 2, 1), (164, .aload_n 0, 1), (165, .iload_n 1, 1), (166, .aload_n 3, 1), (167, .invokevirtual 194, 3), (170, .if_icmp .le 8, 3), (173, .bipush 7, 2), (175, .goto 4, 3), (178, .iconst 0, 1), (179, .ireturn, 1)]
def bI_39 : List (Nat × Instr × Nat) := [(0, .aload_n 0, 1), (1, .getfield 48, 3), (4, .bipush 16, 2), (6, .if_icmp .lt 6, 3), (9, .bipush (-3), 2), (11, .ireturn, 1), (12, .aload_n 0, 1), (13, .getfield 37, 3), (16, .aload_n 0, 1), (17, .getfield 48, 3), (20, .aaload, 1), (21, .astore 4, 2), (23, .aload 4, 2), (25, .iload_n 1, 1), (26, .putfield 125, 3), (29, .aload 4, 2), (31, .iload_n 2, 1), (32, .putfield 116, 3), (35, .aload 4, 2), (37, .aload_n 0, 1), (38, .getfield 18, 3), (41, .iconst 1, 1), (42, .iaload, 1), (43, .putfield 217, 3), (46, .aload 4, 2), (48, .bipush (-5), 2), (50, .putfield 128, 3), (53, .aload_n 3, 1), (54, .iconst 0, 1), (55, .aload 4, 2), (57, .getfield 113, 3), (60, .iconst 0, 1), (61, .bipush 8, 2), (63, .invokestatic 54, 3), (66, .aload 4, 2), (68, .aload_n 0, 1), (69, .getfield 31, 3), (72, .iload_n 1, 1), (73, .aaload, 1), (74, .getfield 109, 3), (77, .putfield 220, 3), (80, .iconst 0, 1), (81, .istore 5, 2), (83, .iload 5, 2), (85, .aload_n 0, 1), (86, .getfield 41, 3), (89, .if_icmp .ge 34, 3), (92, .aload 4, 2), (94, .dup, 1), (95, .getfield 220, 3), (98, .aload_n 3, 1), (99, .iload 5, 2), (101, .iaload, 1), (102, .aload_n 0, 1), (103, .getfield 25, 3), (106, .iload 5, 2), (108, .aaload, 1), (109, .getfield 83, 3), (112, .imul, 1), (113, .isub, 1), (114, .putfield 220, 3), (117, .iinc 5 1, 3), (120, .goto (-37), 3), (123, .aload_n 0, 1), (124, .aload 4, 2), (126, .invokevirtual 223, 3), (129, .aload_n 0, 1), (130, .dup, 1), (131, .getfield 48, 3), (134, .iconst 1, 1), (135, .iadd, 1), (136, .putfield 48, 3), (139, .aload_n 0, 1), (140, .getfield 48, 3), (143, .iconst 1, 1), (144, .isub, 1), (145, .ireturn, 1)]
def bI_40 : List (Nat × Instr × Nat) := [(0, .iconst 0, 1), (1, .istore_n 2, 1), (2, .aload_n 1, 1), (3, .iconst 0, 1), (4, .putfield 226, 3), (7, .aload_n 1, 1), (8, .getfield 220, 3), (11, .ifCond .le 13, 3), (14, .aload_n 1, 1), (15, .getfield 217, 3), (18, .istore_n 2, 1), (19, .aload_n 1, 1), (20, .iload_n 2, 1), (21, .invokevirtual 229, 3), (24, .iconst 0, 1), (25, .istore_n 3, 1), (26, .iload_n 3, 1), (27, .aload_n 0, 1), (28, .getfield 41, 3), (31, .if_icmp .ge 62, 3), (34, .iconst 0, 1), (35, .istore 4, 2), (37, .iload 4, 2), (39, .aload_n 1, 1), (40, .getfield 113, 3), (43, .iload_n 3, 1), (44, .iaload, 1), (45, .if_icmp .ge 42, 3), (48, .iload_n 2, 1), (49, .aload_n 0, 1), (50, .getfield 25, 3), (53, .iload_n 3, 1), (54, .aaload, 1), (55, .getfield 83, 3), (58, .iadd, 1), (59, .istore_n 2, 1), (60, .iload_n 2, 1), (61, .aload_n 0, 1), (62, .getfield 31, 3), (65, .aload_n 1, 1), (66, .getfield 125, 3), (69, .aaload, 1), (70, .getfield 109, 3), (73, .if_icmp .ge 8, 3), (76, .aload_n 1, 1), (77, .iload_n 2, 1), (78, .invokevirtual 229, 3), (81, .iinc 4 1, 3), (84, .goto (-47), 3), (87, .iinc 3 1, 3), (90, .goto (-64), 3), (93, .return_, 1)]
def bI_41 : List (Nat × Instr × Nat) := [(0, .aload_n 0, 1), (1, .iload_n 1, 1), (2, .invokevirtual 233, 3), (5, .ifCond .ne 5, 3), (8, .iconst (-1), 1), (9, .ireturn, 1), (10, .aload_n 0, 1), (11, .getfield 37, 3), (14, .iload_n 1, 1), (15, .aaload, 1), (16, .invokevirtual 236, 3), (19, .ifCond .eq 6, 3), (22, .bipush (-4), 2), (24, .ireturn, 1), (25, .aload_n 0, 1), (26, .iload_n 1, 1), (27, .aload_n 0, 1), (28, .getfield 48, 3), (31, .iconst 1, 1), (32, .isub, 1), (33, .invokevirtual 240, 3), (36, .aload_n 0, 1), (37, .dup, 1), (38, .getfield 48, 3), (41, .iconst 1, 1), (42, .isub, 1), (43, .putfield 48, 3), (46, .aload_n 0, 1), (47, .getfield 48, 3), (50, .ireturn, 1)]
def bI_42 : List (Nat × Instr × Nat) := [(0, .aload_n 0, 1), (1, .getfield 37, 3), (4, .iload_n 1, 1), (5, .aaload, 1), (6, .astore_n 3, 1), (7, .iload_n 1, 1), (8, .istore 4, 2), (10, .iload 4, 2), (12, .iload_n 2, 1), (13, .if_icmp .ge 25, 3), (16, .aload_n 0, 1), (17, .getfield 37, 3), (20, .iload 4, 2), (22, .aload_n 0, 1), (23, .getfield 37, 3), (26, .iload 4, 2), (28, .iconst 1, 1), (29, .iadd, 1), (30, .aaload, 1), (31, .aastore, 1), (32, .iinc 4 1, 3), (35, .goto (-25), 3), (38, .iload_n 1, 1), (39, .istore 4, 2), (41, .iload 4, 2), (43, .iload_n 2, 1), (44, .if_icmp .le 25, 3), (47, .aload_n 0, 1), (48, .getfield 37, 3), (51, .iload 4, 2), (53, .aload_n 0, 1), (54, .getfield 37, 3), (57, .iload 4, 2), (59, .iconst 1, 1), (60, .isub, 1), (61, .aaload, 1), (62, .aastore, 1), (63, .iinc 4 (-1), 3), (66, .goto (-25), 3), (69, .aload_n 0, 1), (70, .getfield 37, 3), (73, .iload_n 2, 1), (74, .aload_n 3, 1), (75, .aastore, 1), (76, .return_, 1)]
def bI_43 : List (Nat × Instr × Nat) := [(0, .aload_n 0, 1), (1, .iload_n 1, 1), (2, .invokevirtual 233, 3), (5, .ifCond .eq 11, 3), (8, .aload_n 0, 1), (9, .iload_n 2, 1), (10, .invokevirtual 233, 3), (13, .ifCond .ne 5, 3), (16, .iconst (-1), 1), (17, .ireturn, 1), (18, .aload_n 0, 1), (19, .getfield 37, 3), (22, .iload_n 1, 1), (23, .aaload, 1), (24, .astore_n 3, 1), (25, .aload_n 0, 1), (26, .getfield 37, 3), (29, .iload_n 1, 1), (30, .aload_n 0, 1), (31, .getfield 37, 3), (34, .iload_n 2, 1), (35, .aaload, 1), (36, .aastore, 1), (37, .aload_n 0, 1), (38, .getfield 37, 3), (41, .iload_n 2, 1), (42, .aload_n 3, 1), (43, .aastore, 1), (44, .aload_n 0, 1), (45, .invokevirtual 244, 3), (48, .ireturn, 1)]
def bI_44 : List (Nat × Instr × Nat) := [(0, .aload_n 0, 1), (1, .iload_n 1, 1), (2, .invokevirtual 233, 3), (5, .ifCond .ne 5, 3), (8, .iconst (-1), 1), (9, .ireturn, 1), (10, .aload_n 0, 1), (11, .getfield 37, 3), (14, .iload_n 1, 1), (15, .aaload, 1), (16, .astore_n 3, 1), (17, .iload_n 2, 1), (18, .iconst 1, 1), (19, .if_icmp .lt 11, 3), (22, .iload_n 2, 1), (23, .aload_n 3, 1), (24, .getfield 116, 3), (27, .if_icmp .lt 6, 3), (30, .bipush (-2), 2), (32, .ireturn, 1), (33, .aload_n 3, 1), (34, .invokevirtual 236, 3), (37, .ifCond .eq 6, 3), (40, .bipush (-4), 2), (42, .ireturn, 1), (43, .aload_n 0, 1), (44, .getfield 48, 3), (47, .bipush 16, 2), (49, .if_icmp .lt 6, 3), (52, .bipush (-3), 2), (54, .ireturn, 1), (55, .aload_n 0, 1), (56, .getfield 37, 3), (59, .aload_n 0, 1), (60, .getfield 48, 3), (63, .aaload, 1), (64, .astore 4, 2), (66, .aload 4, 2), (68, .aload_n 3, 1), (69, .invokevirtual 67, 3), (72, .aload 4, 2), (74, .aload_n 3, 1), (75, .getfield 116, 3), (78, .iload_n 2, 1), (79, .isub, 1), (80, .putfield 116, 3), (83, .aload_n 3, 1), (84, .iload_n 2, 1), (85, .putfield 116, 3), (88, .aload_n 0, 1), (89, .dup, 1), (90, .getfield 48, 3), (93, .iconst 1, 1), (94, .iadd, 1), (95, .putfield 48, 3), (98, .aload_n 0, 1), (99, .aload_n 0, 1), (100, .getfield 48, 3), (103, .iconst 1, 1), (104, .isub, 1), (105, .iload_n 1, 1), (106, .iconst 1, 1), (107, .iadd, 1), (108, .invokevirtual 240, 3), (111, .iload_n 1, 1), (112, .iconst 1, 1), (113, .iadd, 1), (114, .ireturn, 1)]
def bI_45 : List (Nat × Instr × Nat) := [(0, .aload_n 0, 1), (1, .iload_n 1, 1), (2, .invokevirtual 233, 3), (5, .ifCond .ne 5, 3), (8, .iconst (-1), 1), (9, .ireturn, 1), (10, .aload_n 0, 1), (11, .getfield 37, 3), (14, .iload_n 1, 1), (15, .aaload, 1), (16, .astore_n 2, 1), (17, .aload_n 2, 1), (18, .invokevirtual 236, 3), (21, .ifCond .ne 16, 3), (24, .aload_n 2, 1), (25, .invokevirtual 248, 3), (28, .aload_n 0, 1), (29, .getfield 18, 3), (32, .iconst 2, 1), (33, .iaload, 1), (34, .if_icmp .ge 6, 3), (37, .bipush (-4), 2), (39, .ireturn, 1), (40, .aload_n 0, 1), (41, .getfield 45, 3), (44, .bipush 12, 2), (46, .if_icmp .lt 6, 3), (49, .bipush (-3), 2), (51, .ireturn, 1), (52, .aload_n 2, 1), (53, .aload_n 0, 1), (54, .aload_n 0, 1), (55, .getfield 31, 3), (58, .aload_n 2, 1), (59, .getfield 125, 3), (62, .aaload, 1), (63, .getfield 108, 3), (66, .aload_n 2, 1), (67, .invokevirtual 248, 3), (70, .aload_n 2, 1), (71, .getfield 116, 3), (74, .invokevirtual 104, 3), (77, .putfield 128, 3), (80, .aload_n 2, 1), (81, .getfield 128, 3), (84, .ireturn, 1)]
def bI_46 : List (Nat × Instr × Nat) := [(0, .aload_n 0, 1), (1, .iload_n 2, 1), (2, .invokevirtual 233, 3), (5, .ifCond .ne 13, 3), (8, .aload_n 0, 1), (9, .getfield 37, 3), (12, .iload_n 1, 1), (13, .aaload, 1), (14, .getfield 226, 3), (17, .ireturn, 1), (18, .aload_n 0, 1), (19, .getfield 31, 3), (22, .aload_n 0, 1), (23, .getfield 37, 3), (26, .iload_n 1, 1), (27, .aaload, 1), (28, .getfield 125, 3), (31, .aaload, 1), (32, .getfield 108, 3), (35, .aload_n 0, 1), (36, .getfield 31, 3), (39, .aload_n 0, 1), (40, .getfield 37, 3), (43, .iload_n 2, 1), (44, .aaload, 1), (45, .getfield 125, 3), (48, .aaload, 1), (49, .getfield 108, 3), (52, .if_icmp .ne 7, 3), (55, .iconst 1, 1), (56, .goto 4, 3), (59, .iconst 0, 1), (60, .istore_n 3, 1), (61, .aload_n 0, 1), (62, .getfield 37, 3), (65, .iload_n 1, 1), (66, .aaload, 1), (67, .aload_n 0, 1), (68, .getfield 37, 3), (71, .iload_n 2, 1), (72, .aaload, 1), (73, .invokevirtual 251, 3), (76, .iload_n 3, 1), (77, .ifCond .eq 7, 3), (80, .iconst 0, 1), (81, .goto 4, 3), (84, .iconst 5, 1), (85, .iadd, 1), (86, .ireturn, 1)]
def bI_47 : List (Nat × Instr × Nat) := [(0, .iconst 0, 1), (1, .istore_n 1, 1), (2, .iconst 0, 1), (3, .istore_n 2, 1), (4, .iload_n 2, 1), (5, .aload_n 0, 1), (6, .getfield 48, 3), (9, .if_icmp .ge 20, 3), (12, .iload_n 1, 1), (13, .aload_n 0, 1), (14, .iload_n 2, 1), (15, .iload_n 2, 1), (16, .iconst 1, 1), (17, .isub, 1), (18, .invokevirtual 255, 3), (21, .iadd, 1), (22, .istore_n 1, 1), (23, .iinc 2 1, 3), (26, .goto (-22), 3), (29, .iload_n 1, 1), (30, .ireturn, 1)]
def bI_48 : List (Nat × Instr × Nat) := [(0, .iload_n 1, 1), (1, .ifCond .eq 11, 3), (4, .iload_n 1, 1), (5, .iconst 1, 1), (6, .if_icmp .eq 6, 3), (9, .bipush (-2), 2), (11, .ireturn, 1), (12, .iload_n 1, 1), (13, .ifCond .ne 12, 3), (16, .aload_n 0, 1), (17, .invokevirtual 258, 3), (20, .aload_n 0, 1), (21, .invokevirtual 244, 3), (24, .ireturn, 1), (25, .aload_n 0, 1), (26, .getfield 48, 3), (29, .bipush 7, 2), (31, .if_icmp .le 6, 3), (34, .bipush (-4), 2), (36, .ireturn, 1), (37, .aload_n 2, 1), (38, .aload_n 0, 1), (39, .invokevirtual 261, 3), (42, .aload_n 2, 1), (43, .invokevirtual 267, 3), (46, .aload_n 2, 1), (47, .aload_n 0, 1), (48, .getfield 37, 3), (51, .invokevirtual 270, 3), (54, .aload_n 0, 1), (55, .invokevirtual 244, 3), (58, .ireturn, 1)]
def bI_49 : List (Nat × Instr × Nat) := [(0, .iconst 0, 1), (1, .istore_n 1, 1), (2, .iload_n 1, 1), (3, .aload_n 0, 1), (4, .getfield 48, 3), (7, .if_icmp .ge 56, 3), (10, .iload_n 1, 1), (11, .istore_n 2, 1), (12, .iload_n 1, 1), (13, .iconst 1, 1), (14, .iadd, 1), (15, .istore_n 3, 1), (16, .iload_n 3, 1), (17, .aload_n 0, 1), (18, .getfield 48, 3), (21, .if_icmp .ge 30, 3), (24, .aload_n 0, 1), (25, .iload_n 3, 1), (26, .iload_n 1, 1), (27, .iconst 1, 1), (28, .isub, 1), (29, .invokevirtual 255, 3), (32, .aload_n 0, 1), (33, .iload_n 2, 1), (34, .iload_n 1, 1), (35, .iconst 1, 1), (36, .isub, 1), (37, .invokevirtual 255, 3), (40, .if_icmp .ge 5, 3), (43, .iload_n 3, 1), (44, .istore_n 2, 1), (45, .iinc 3 1, 3), (48, .goto (-32), 3), (51, .aload_n 0, 1), (52, .iload_n 2, 1), (53, .iload_n 1, 1), (54, .invokevirtual 240, 3), (57, .iinc 1 1, 3), (60, .goto (-58), 3), (63, .return_, 1)]
def bI_50 : List (Nat × Instr × Nat) := [(0, .iconst 0, 1), (1, .istore_n 1, 1), (2, .iconst 0, 1), (3, .istore_n 2, 1), (4, .iload_n 2, 1), (5, .aload_n 0, 1), (6, .getfield 45, 3), (9, .if_icmp .ge 41, 3), (12, .aload_n 0, 1), (13, .iload_n 2, 1), (14, .invokevirtual 274, 3), (17, .bipush (-5), 2), (19, .if_icmp .ne 25, 3), (22, .iload_n 1, 1), (23, .aload_n 0, 1), (24, .getfield 31, 3), (27, .iload_n 2, 1), (28, .aaload, 1), (29, .getfield 109, 3), (32, .aload_n 0, 1), (33, .getfield 31, 3), (36, .iload_n 2, 1), (37, .aaload, 1), (38, .getfield 110, 3), (41, .imul, 1), (42, .iadd, 1), (43, .istore_n 1, 1), (44, .iinc 2 1, 3), (47, .goto (-43), 3), (50, .iload_n 1, 1), (51, .ireturn, 1)]
def bI_51 : List (Nat × Instr × Nat) := [(0, .iconst 0, 1), (1, .istore_n 1, 1), (2, .iconst 0, 1), (3, .istore_n 2, 1), (4, .iload_n 2, 1), (5, .aload_n 0, 1), (6, .getfield 41, 3), (9, .if_icmp .ge 27, 3), (12, .iload_n 1, 1), (13, .aload_n 0, 1), (14, .getfield 25, 3), (17, .iload_n 2, 1), (18, .aaload, 1), (19, .getfield 83, 3), (22, .aload_n 0, 1), (23, .iload_n 2, 1), (24, .invokevirtual 117, 3), (27, .imul, 1), (28, .iadd, 1), (29, .istore_n 1, 1), (30, .iinc 2 1, 3), (33, .goto (-29), 3), (36, .iload_n 1, 1), (37, .ireturn, 1)]
def bI_52 : List (Nat × Instr × Nat) := [(0, .iconst 0, 1), (1, .istore_n 1, 1), (2, .iconst 0, 1), (3, .istore_n 2, 1), (4, .iload_n 2, 1), (5, .aload_n 0, 1), (6, .getfield 48, 3), (9, .if_icmp .ge 21, 3), (12, .iload_n 1, 1), (13, .aload_n 0, 1), (14, .getfield 37, 3), (17, .iload_n 2, 1), (18, .aaload, 1), (19, .invokevirtual 277, 3), (22, .iadd, 1), (23, .istore_n 1, 1), (24, .iinc 2 1, 3), (27, .goto (-23), 3), (30, .iload_n 1, 1), (31, .ireturn, 1)]
def bI_53 : List (Nat × Instr × Nat) := [(0, .iconst 0, 1), (1, .istore_n 1, 1), (2, .iconst 0, 1), (3, .istore_n 2, 1), (4, .iload_n 2, 1), (5, .aload_n 0, 1), (6, .getfield 45, 3), (9, .if_icmp .ge 27, 3), (12, .iload_n 1, 1), (13, .aload_n 0, 1), (14, .getfield 31, 3), (17, .iload_n 2, 1), (18, .aaload, 1), (19, .getfield 109, 3), (22, .aload_n 0, 1), (23, .iload_n 2, 1), (24, .invokevirtual 135, 3), (27, .imul, 1), (28, .iadd, 1), (29, .istore_n 1, 1), (30, .iinc 2 1, 3), (33, .goto (-29), 3), (36, .iload_n 1, 1), (37, .ireturn, 1)]
def bI_54 : List (Nat × Instr × Nat) := [(0, .iconst 0, 1), (1, .istore_n 1, 1), (2, .iconst 0, 1), (3, .istore_n 2, 1), (4, .iload_n 2, 1), (5, .aload_n 0, 1), (6, .getfield 48, 3), (9, .if_icmp .ge 43, 3), (12, .aload_n 0, 1), (13, .getfield 37, 3), (16, .iload_n 2, 1), (17, .aaload, 1), (18, .invokevirtual 236, 3), (21, .ifCond .eq 25, 3), (24, .iload_n 1, 1), (25, .aload_n 0, 1), (26, .getfield 37, 3), (29, .iload_n 2, 1), (30, .aaload, 1), (31, .invokevirtual 248, 3), (34, .aload_n 0, 1), (35, .getfield 37, 3), (38, .iload_n 2, 1), (39, .aaload, 1), (40, .getfield 116, 3), (43, .imul, 1), (44, .iadd, 1), (45, .istore_n 1, 1), (46, .iinc 2 1, 3), (49, .goto (-45), 3), (52, .iload_n 1, 1), (53, .ireturn, 1)]
def bI_55 : List (Nat × Instr × Nat) := [(0, .iconst 0, 1), (1, .istore_n 1, 1), (2, .iconst 0, 1), (3, .istore_n 2, 1), (4, .iload_n 2, 1), (5, .aload_n 0, 1), (6, .getfield 41, 3), (9, .if_icmp .ge 20, 3), (12, .aload_n 0, 1), (13, .iload_n 2, 1), (14, .invokevirtual 131, 3), (17, .ifCond .eq 6, 3), (20, .iinc 1 1, 3), (23, .iinc 2 1, 3), (26, .goto (-22), 3), (29, .iload_n 1, 1), (30, .ireturn, 1)]
def bI_56 : List (Nat × Instr × Nat) := [(0, .iconst 0, 1), (1, .istore_n 2, 1), (2, .iconst 0, 1), (3, .istore_n 3, 1), (4, .iload_n 3, 1), (5, .aload_n 0, 1), (6, .getfield 41, 3), (9, .if_icmp .ge 25, 3), (12, .aload_n 0, 1), (13, .getfield 25, 3), (16, .iload_n 3, 1), (17, .aaload, 1), (18, .getfield 80, 3), (21, .iload_n 1, 1), (22, .if_icmp .ne 6, 3), (25, .iinc 2 1, 3), (28, .iinc 3 1, 3), (31, .goto (-27), 3), (34, .iload_n 2, 1), (35, .ireturn, 1)]
def bI_57 : List (Nat × Instr × Nat) := [(0, .iconst 0, 1), (1, .istore_n 2, 1), (2, .iconst 0, 1), (3, .istore_n 3, 1), (4, .iload_n 3, 1), (5, .aload_n 0, 1), (6, .getfield 41, 3), (9, .if_icmp .ge 33, 3), (12, .aload_n 0, 1), (13, .getfield 25, 3), (16, .iload_n 3, 1), (17, .aaload, 1), (18, .getfield 80, 3), (21, .iload_n 1, 1), (22, .if_icmp .ne 14, 3), (25, .aload_n 0, 1), (26, .iload_n 3, 1), (27, .invokevirtual 131, 3), (30, .ifCond .eq 6, 3), (33, .iinc 2 1, 3), (36, .iinc 3 1, 3), (39, .goto (-35), 3), (42, .iload_n 2, 1), (43, .ireturn, 1)]
def bI_58 : List (Nat × Instr × Nat) := [(0, .iconst 0, 1), (1, .istore_n 2, 1), (2, .iconst 0, 1), (3, .istore_n 3, 1), (4, .iload_n 3, 1), (5, .aload_n 0, 1), (6, .getfield 45, 3), (9, .if_icmp .ge 33, 3), (12, .aload_n 0, 1), (13, .getfield 31, 3), (16, .iload_n 3, 1), (17, .aaload, 1), (18, .getfield 108, 3), (21, .iload_n 1, 1), (22, .if_icmp .ne 14, 3), (25, .aload_n 0, 1), (26, .iload_n 3, 1), (27, .invokevirtual 135, 3), (30, .ifCond .le 6, 3), (33, .iinc 2 1, 3), (36, .iinc 3 1, 3), (39, .goto (-35), 3), (42, .iload_n 2, 1), (43, .ireturn, 1)]
def bI_59 : List (Nat × Instr × Nat) := [(0, .iconst 0, 1), (1, .istore_n 2, 1), (2, .iconst 0, 1), (3, .istore_n 3, 1), (4, .iload_n 3, 1), (5, .aload_n 0, 1), (6, .getfield 45, 3), (9, .if_icmp .ge 40, 3), (12, .aload_n 0, 1), (13, .getfield 31, 3), (16, .iload_n 3, 1), (17, .aaload, 1), (18, .getfield 108, 3), (21, .iload_n 1, 1), (22, .if_icmp .ne 21, 3), (25, .iload_n 2, 1), (26, .aload_n 0, 1), (27, .getfield 31, 3), (30, .iload_n 3, 1), (31, .aaload, 1), (32, .getfield 109, 3), (35, .aload_n 0, 1), (36, .iload_n 3, 1), (37, .invokevirtual 135, 3), (40, .imul, 1), (41, .iadd, 1), (42, .istore_n 2, 1), (43, .iinc 3 1, 3), (46, .goto (-42), 3), (49, .iload_n 2, 1), (50, .ireturn, 1)]
def bI_60 : List (Nat × Instr × Nat) := [(0, .iconst 0, 1), (1, .istore_n 2, 1), (2, .iconst 0, 1), (3, .istore_n 3, 1), (4, .iload_n 3, 1), (5, .aload_n 0, 1), (6, .getfield 48, 3), (9, .if_icmp .ge 42, 3), (12, .aload_n 0, 1), (13, .getfield 31, 3), (16, .aload_n 0, 1), (17, .getfield 37, 3), (20, .iload_n 3, 1), (21, .aaload, 1), (22, .getfield 125, 3), (25, .aaload, 1), (26, .getfield 108, 3), (29, .iload_n 1, 1), (30, .if_icmp .ne 15, 3), (33, .iload_n 2, 1), (34, .aload_n 0, 1), (35, .getfield 37, 3), (38, .iload_n 3, 1), (39, .aaload, 1), (40, .invokevirtual 277, 3), (43, .iadd, 1), (44, .istore_n 2, 1), (45, .iinc 3 1, 3), (48, .goto (-44), 3), (51, .iload_n 2, 1), (52, .ireturn, 1)]
def bI_61 : List (Nat × Instr × Nat) := [(0, .iconst 0, 1), (1, .istore_n 2, 1), (2, .iconst 0, 1), (3, .istore_n 3, 1), (4, .iload_n 3, 1), (5, .aload_n 0, 1), (6, .getfield 48, 3), (9, .if_icmp .ge 44, 3), (12, .aload_n 0, 1), (13, .getfield 31, 3), (16, .aload_n 0, 1), (17, .getfield 37, 3), (20, .iload_n 3, 1), (21, .aaload, 1), (22, .getfield 125, 3), (25, .aaload, 1), (26, .getfield 108, 3), (29, .iload_n 1, 1), (30, .if_icmp .ne 17, 3), (33, .iload_n 2, 1), (34, .aload_n 0, 1), (35, .aload_n 0, 1), (36, .getfield 37, 3), (39, .iload_n 3, 1), (40, .aaload, 1), (41, .iload_n 1, 1), (42, .invokevirtual 280, 3), (45, .iadd, 1), (46, .istore_n 2, 1), (47, .iinc 3 1, 3), (50, .goto (-46), 3), (53, .iload_n 2, 1), (54, .ireturn, 1)]
def bI_62 : List (Nat × Instr × Nat) := [(0, .iconst 0, 1), (1, .istore_n 3, 1), (2, .iconst 0, 1), (3, .istore 4, 2), (5, .iload 4, 2), (7, .aload_n 0, 1), (8, .getfield 41, 3), (11, .if_icmp .ge 44, 3), (14, .aload_n 0, 1), (15, .getfield 25, 3), (18, .iload 4, 2), (20, .aaload, 1), (21, .getfield 80, 3), (24, .iload_n 2, 1), (25, .if_icmp .le 24, 3), (28, .iload_n 3, 1), (29, .aload_n 1, 1), (30, .getfield 113, 3), (33, .iload 4, 2), (35, .iaload, 1), (36, .aload_n 0, 1), (37, .getfield 25, 3), (40, .iload 4, 2), (42, .aaload, 1), (43, .getfield 83, 3), (46, .imul, 1), (47, .iadd, 1), (48, .istore_n 3, 1), (49, .iinc 4 1, 3), (52, .goto (-47), 3), (55, .iload_n 3, 1), (56, .aload_n 1, 1), (57, .getfield 116, 3), (60, .imul, 1), (61, .ireturn, 1)]
def bI_63 : List (Nat × Instr × Nat) := [(0, .aload_n 0, 1), (1, .invokespecial 1, 3), (4, .return_, 1)]
def bI_64 : List (Nat × Instr × Nat) := [(0, .aload_n 0, 1), (1, .aload_n 1, 1), (2, .getfield 7, 3), (5, .putfield 7, 3), (8, .aload_n 0, 1), (9, .aload_n 1, 1), (10, .getfield 13, 3), (13, .putfield 13, 3), (16, .aload_n 0, 1), (17, .aload_n 1, 1), (18, .getfield 16, 3), (21, .putfield 16, 3), (24, .return_, 1)]
def bI_65 : List (Nat × Instr × Nat) := [(0, .aload_n 0, 1), (1, .getfield 7, 3), (4, .aload_n 1, 1), (5, .getfield 19, 3), (8, .if_icmp .eq 22, 3), (11, .aload_n 0, 1), (12, .getfield 7, 3), (15, .aload_n 1, 1), (16, .getfield 19, 3), (19, .if_icmp .ge 15, 3), (22, .aload_n 1, 1), (23, .getfield 22, 3), (26, .iconst 1, 1), (27, .if_icmp .ne 7, 3), (30, .iconst 1, 1), (31, .goto 4, 3), (34, .iconst 0, 1), (35, .ireturn, 1)]
def bI_66 : List (Nat × Instr × Nat) := [(0, .aload_n 0, 1), (1, .invokespecial 3, 3), (4, .aload_n 0, 1), (5, .bipush 8, 2), (7, .newarray .int, 2), (9, .putfield 9, 3), (12, .aload_n 0, 1), (13, .bipush 7, 2), (15, .newarray .int, 2), (17, .putfield 15, 3), (20, .return_, 1)]
def bI_67 : List (Nat × Instr × Nat) := [(0, .aload_n 0, 1), (1, .aload_n 1, 1), (2, .getfield 18, 3), (5, .putfield 18, 3), (8, .aload_n 0, 1), (9, .aload_n 1, 1), (10, .getfield 22, 3), (13, .putfield 22, 3), (16, .aload_n 0, 1), (17, .aload_n 1, 1), (18, .getfield 25, 3), (21, .putfield 25, 3), (24, .aload_n 0, 1), (25, .aload_n 1, 1), (26, .getfield 28, 3), (29, .putfield 28, 3), (32, .aload_n 0, 1), (33, .aload_n 1, 1), (34, .getfield 31, 3), (37, .putfield 31, 3), (40, .aload_n 0, 1), (41, .aload_n 1, 1), (42, .getfield 34, 3), (45, .putfield 34, 3), (48, .aload_n 1, 1), (49, .getfield 9, 3), (52, .iconst 0, 1), (53, .aload_n 0, 1), (54, .getfield 9, 3), (57, .iconst 0, 1), (58, .bipush 8, 2), (60, .invokestatic 37, 3), (63, .aload_n 1, 1), (64, .getfield 15, 3), (67, .iconst 0, 1), (68, .aload_n 0, 1), (69, .getfield 15, 3), (72, .iconst 0, 1), (73, .bipush 7, 2), (75, .invokestatic 37, 3), (78, .return_, 1)]
def bI_68 : List (Nat × Instr × Nat) := [(0, .aload_n 0, 1), (1, .getfield 34, 3), (4, .bipush 7, 2), (6, .if_icmp .ge 23, 3), (9, .aload_n 0, 1), (10, .getfield 15, 3), (13, .aload_n 0, 1), (14, .getfield 34, 3), (17, .iload_n 1, 1), (18, .iastore, 1), (19, .aload_n 0, 1), (20, .dup, 1), (21, .getfield 34, 3), (24, .iconst 1, 1), (25, .iadd, 1), (26, .putfield 34, 3), (29, .return_, 1)]
def bI_69 : List (Nat × Instr × Nat) := [(0, .aload_n 0, 1), (1, .getfield 31, 3), (4, .ifCond .lt 7, 3), (7, .iconst 1, 1), (8, .goto 4, 3), (11, .iconst 0, 1), (12, .ireturn, 1)]
def bI_70 : List (Nat × Instr × Nat) := [(0, .aload_n 0, 1), (1, .getfield 28, 3), (4, .iconst 2, 1), (5, .aload_n 0, 1), (6, .getfield 25, 3), (9, .imul, 1), (10, .isub, 1), (11, .ireturn, 1)]
def bI_71 : List (Nat × Instr × Nat) := [(0, .aload_n 0, 1), (1, .getfield 22, 3), (4, .aload_n 0, 1), (5, .invokevirtual 43, 3), (8, .ifCond .eq 15, 3), (11, .aload_n 0, 1), (12, .getfield 28, 3), (15, .aload_n 0, 1), (16, .invokevirtual 47, 3), (19, .isub, 1), (20, .goto 7, 3), (23, .aload_n 0, 1), (24, .getfield 28, 3), (27, .imul, 1), (28, .ireturn, 1)]
def bI_72 : List (Nat × Instr × Nat) := [(0, .aload_n 0, 1), (1, .getfield 34, 3), (4, .istore_n 2, 1), (5, .iconst 0, 1), (6, .istore_n 3, 1), (7, .iload_n 3, 1), (8, .aload_n 0, 1), (9, .getfield 34, 3), (12, .if_icmp .ge 46, 3), (15, .iconst 0, 1), (16, .istore 4, 2), (18, .iload 4, 2), (20, .aload_n 1, 1), (21, .getfield 34, 3), (24, .if_icmp .ge 28, 3), (27, .aload_n 0, 1), (28, .getfield 15, 3), (31, .iload_n 3, 1), (32, .iaload, 1), (33, .aload_n 1, 1), (34, .getfield 15, 3), (37, .iload 4, 2), (39, .iaload, 1), (40, .if_icmp .ne 6, 3), (43, .iinc 2 (-1), 3), (46, .iinc 4 1, 3), (49, .goto (-31), 3), (52, .iinc 3 1, 3), (55, .goto (-48), 3), (58, .iload_n 2, 1), (59, .ireturn, 1)]
def bI_73 : List (Nat × Instr × Nat) := [(0, .aload_n 0, 1), (1, .invokespecial 3, 3), (4, .aload_n 0, 1), (5, .bipush 8, 2), (7, .newarray .int, 2), (9, .putfield 9, 3), (12, .aload_n 0, 1), (13, .bipush 8, 2), (15, .newarray .int, 2), (17, .putfield 15, 3), (20, .aload_n 0, 1), (21, .bipush 8, 2), (23, .newarray .int, 2), (25, .putfield 18, 3), (28, .aload_n 0, 1), (29, .bipush 8, 2), (31, .newarray .int, 2), (33, .putfield 21, 3), (36, .aload_n 0, 1), (37, .bipush 9, 2), (39, .newarray .int, 2), (41, .putfield 24, 3), (44, .aload_n 0, 1), (45, .sipush 301, 3), (48, .newarray .int, 2), (50, .putfield 27, 3), (53, .return_, 1)]
def bI_74 : List (Nat × Instr × Nat) := [(0, .aload_n 0, 1), (1, .iload_n 1, 1), (2, .putfield 30, 3), (5, .aload_n 0, 1), (6, .iconst 0, 1), (7, .putfield 34, 3), (10, .aload_n 0, 1), (11, .sipush 301, 3), (14, .putfield 38, 3), (17, .aload_n 0, 1), (18, .sipush 1000, 3), (21, .putfield 41, 3), (24, .aload_n 0, 1), (25, .aload_n 0, 1), (26, .getfield 44, 3), (29, .ifCond .ne 12, 3), (32, .aload_n 0, 1), (33, .getfield 47, 3), (36, .iconst 1, 1), (37, .iadd, 1), (38, .goto 9, 3), (41, .aload_n 0, 1), (42, .getfield 47, 3), (45, .iconst 1, 1), (46, .isub, 1), (47, .putfield 50, 3), (50, .aload_n 0, 1), (51, .getfield 18, 3), (54, .iconst 0, 1), (55, .invokestatic 53, 3), (58, .aload_n 0, 1), (59, .getfield 24, 3), (62, .aload_n 0, 1), (63, .getfield 59, 3), (66, .iconst 0, 1), (67, .iastore, 1), (68, .aload_n 0, 1), (69, .getfield 59, 3), (72, .iconst 1, 1), (73, .isub, 1), (74, .istore_n 2, 1), (75, .iload_n 2, 1), (76, .ifCond .lt 45, 3), (79, .aload_n 0, 1), (80, .getfield 24, 3), (83, .iload_n 2, 1), (84, .aload_n 0, 1), (85, .getfield 24, 3), (88, .iload_n 2, 1), (89, .iconst 1, 1), (90, .iadd, 1), (91, .iaload, 1), (92, .aload_n 0, 1), (93, .getfield 15, 3), (96, .iload_n 2, 1), (97, .iaload, 1), (98, .ifCond .le 12, 3), (101, .aload_n 0, 1), (102, .getfield 9, 3), (105, .iload_n 2, 1), (106, .iaload, 1), (107, .goto 4, 3), (110, .iconst 0, 1), (111, .invokestatic 62, 3), (114, .iastore, 1), (115, .iinc 2 (-1), 3), (118, .goto (-43), 3), (121, .aload_n 0, 1), (122, .getfield 68, 3), (125, .aload_n 0, 1), (126, .getfield 44, 3), (129, .if_icmp .lt 13, 3), (132, .aload_n 0, 1), (133, .iconst 0, 1), (134, .iconst 0, 1), (135, .aload_n 0, 1), (136, .getfield 68, 3), (139, .invokestatic 71, 3), (142, .aload_n 0, 1), (143, .getfield 34, 3), (146, .ireturn, 1)]
def bI_75 : List (Nat × Instr × Nat) := [(0, .iload_n 1, 1), (1, .aload_n 0, 1), (2, .getfield 59, 3), (5, .if_icmp .ge 9, 3), (8, .iload_n 1, 1), (9, .bipush 8, 2), (11, .if_icmp .lt 10, 3), (14, .aload_n 0, 1), (15, .iload_n 2, 1), (16, .iload_n 3, 1), (17, .invokevirtual 75, 3), (20, .return_, 1), (21, .aload_n 0, 1), (22, .getfield 30, 3), (25, .ifCond .ne 14, 3), (28, .aload_n 0, 1), (29, .iload_n 1, 1), (30, .iload_n 2, 1), (31, .iload_n 3, 1), (32, .invokevirtual 79, 3), (35, .ifCond .eq 4, 3), (38, .return_, 1), (39, .aload_n 0, 1), (40, .getfield 15, 3), (43, .iload_n 1, 1), (44, .iaload, 1), (45, .aload_n 0, 1), (46, .getfield 50, 3), (49, .iload_n 2, 1), (50, .isub, 1), (51, .invokestatic 83, 3), (54, .istore 4, 2), (56, .aload_n 0, 1), (57, .getfield 9, 3), (60, .iload_n 1, 1), (61, .iaload, 1), (62, .ifCond .le 23, 3), (65, .iload 4, 2), (67, .iload_n 3, 1), (68, .aload_n 0, 1), (69, .getfield 44, 3), (72, .isub, 1), (73, .aload_n 0, 1), (74, .getfield 9, 3), (77, .iload_n 1, 1), (78, .iaload, 1), (79, .idiv, 1), (80, .invokestatic 83, 3), (83, .istore 4, 2), (85, .iload 4, 2), (87, .istore 5, 2), (89, .iload 5, 2), (91, .ifCond .lt 39, 3), (94, .aload_n 0, 1), (95, .getfield 18, 3), (98, .iload_n 1, 1), (99, .iload 5, 2), (101, .iastore, 1), (102, .aload_n 0, 1), (103, .iload_n 1, 1), (104, .iconst 1, 1), (105, .iadd, 1), (106, .iload_n 2, 1), (107, .iload 5, 2), (109, .iadd, 1), (110, .iload_n 3, 1), (111, .iload 5, 2), (113, .aload_n 0, 1), (114, .getfield 9, 3), (117, .iload_n 1, 1), (118, .iaload, 1), (119, .imul, 1), (120, .isub, 1), (121, .invokestatic 71, 3), (124, .iinc 5 (-1), 3), (127, .goto (-38), 3), (130, .return_, 1)]
def bI_76 : List (Nat × Instr × Nat) := [(0, .iload_n 3, 1), (1, .aload_n 0, 1), (2, .getfield 50, 3), (5, .iload_n 2, 1), (6, .isub, 1), (7, .aload_n 0, 1), (8, .getfield 24, 3), (11, .iload_n 1, 1), (12, .iaload, 1), (13, .imul, 1), (14, .isub, 1), (15, .istore 4, 2), (17, .iload 4, 2), (19, .aload_n 0, 1), (20, .getfield 38, 3), (23, .if_icmp .gt 22, 3), (26, .aload_n 0, 1), (27, .getfield 38, 3), (30, .aload_n 0, 1), (31, .getfield 44, 3), (34, .if_icmp .ne 15, 3), (37, .iload_n 2, 1), (38, .aload_n 0, 1), (39, .getfield 41, 3), (42, .if_icmp .lt 7, 3), (45, .iconst 1, 1), (46, .goto 4, 3), (49, .iconst 0, 1), (50, .ireturn, 1)]
def bI_77 : List (Nat × Instr × Nat) := [(0, .iload_n 1, 1), (1, .iconst 1, 1), (2, .if_icmp .lt 23, 3), (5, .iload_n 2, 1), (6, .aload_n 0, 1), (7, .getfield 44, 3), (10, .if_icmp .lt 15, 3), (13, .iload_n 1, 1), (14, .iload_n 2, 1), (15, .invokestatic 86, 3), (18, .aload_n 0, 1), (19, .getfield 47, 3), (22, .if_icmp .le 4, 3), (25, .return_, 1), (26, .aload_n 0, 1), (27, .dup, 1), (28, .getfield 34, 3), (31, .iconst 1, 1), (32, .iadd, 1), (33, .putfield 34, 3), (36, .iload_n 2, 1), (37, .aload_n 0, 1), (38, .getfield 38, 3), (41, .if_icmp .lt 19, 3), (44, .iload_n 2, 1), (45, .aload_n 0, 1), (46, .getfield 38, 3), (49, .if_icmp .ne 36, 3), (52, .iload_n 1, 1), (53, .aload_n 0, 1), (54, .getfield 41, 3), (57, .if_icmp .ge 28, 3), (60, .aload_n 0, 1), (61, .iload_n 2, 1), (62, .putfield 38, 3), (65, .aload_n 0, 1), (66, .iload_n 1, 1), (67, .putfield 41, 3), (70, .aload_n 0, 1), (71, .getfield 18, 3), (74, .iconst 0, 1), (75, .aload_n 0, 1), (76, .getfield 21, 3), (79, .iconst 0, 1), (80, .bipush 8, 2), (82, .invokestatic 89, 3), (85, .return_, 1)]
def bI_78 : List (Nat × Instr × Nat) := [(0, .aload_n 0, 1), (1, .getfield 27, 3), (4, .sipush 1000, 3), (7, .invokestatic 53, 3), (10, .aload_n 0, 1), (11, .getfield 27, 3), (14, .iconst 0, 1), (15, .iconst 0, 1), (16, .iastore, 1), (17, .iconst 0, 1), (18, .istore_n 1, 1), (19, .iload_n 1, 1), (20, .aload_n 0, 1), (21, .getfield 59, 3), (24, .if_icmp .ge 25, 3), (27, .aload_n 0, 1), (28, .aload_n 0, 1), (29, .getfield 9, 3), (32, .iload_n 1, 1), (33, .iaload, 1), (34, .aload_n 0, 1), (35, .getfield 15, 3), (38, .iload_n 1, 1), (39, .iaload, 1), (40, .invokevirtual 95, 3), (43, .iinc 1 1, 3), (46, .goto (-27), 3), (49, .aload_n 0, 1), (50, .getfield 68, 3), (53, .aload_n 0, 1), (54, .getfield 44, 3), (57, .isub, 1), (58, .istore_n 1, 1), (59, .iload_n 1, 1), (60, .iconst 1, 1), (61, .if_icmp .lt 38, 3), (64, .aload_n 0, 1), (65, .getfield 27, 3), (68, .iload_n 1, 1), (69, .iaload, 1), (70, .aload_n 0, 1), (71, .getfield 68, 3), (74, .iload_n 1, 1), (75, .isub, 1), (76, .invokestatic 86, 3), (79, .aload_n 0, 1), (80, .getfield 47, 3), (83, .if_icmp .gt 10, 3), (86, .aload_n 0, 1), (87, .getfield 68, 3), (90, .iload_n 1, 1), (91, .isub, 1), (92, .ireturn, 1), (93, .iinc 1 (-1), 3), (96, .goto (-37), 3), (99, .bipush (-5), 2), (101, .ireturn, 1)]
def bI_79 : List (Nat × Instr × Nat) := [(0, .aload_n 0, 1), (1, .getfield 68, 3), (4, .istore_n 3, 1), (5, .iload_n 3, 1), (6, .iload_n 1, 1), (7, .if_icmp .lt 61, 3), (10, .iconst 1, 1), (11, .istore 4, 2), (13, .iload 4, 2), (15, .iload_n 2, 1), (16, .if_icmp .gt 46, 3), (19, .iload 4, 2), (21, .iload_n 1, 1), (22, .imul, 1), (23, .iload_n 3, 1), (24, .if_icmp .gt 38, 3), (27, .aload_n 0, 1), (28, .getfield 27, 3), (31, .iload_n 3, 1), (32, .aload_n 0, 1), (33, .getfield 27, 3), (36, .iload_n 3, 1), (37, .iaload, 1), (38, .aload_n 0, 1), (39, .getfield 27, 3), (42, .iload_n 3, 1), (43, .iload 4, 2), (45, .iload_n 1, 1), (46, .imul, 1), (47, .isub, 1), (48, .iaload, 1), (49, .iload 4, 2), (51, .iadd, 1), (52, .invokestatic 83, 3), (55, .iastore, 1), (56, .iinc 4 1, 3), (59, .goto (-46), 3), (62, .iinc 3 (-1), 3), (65, .goto (-60), 3), (68, .return_, 1)]
def bI_80 : List (Nat × Instr × Nat) := [(0, .aload_n 0, 1), (1, .invokespecial 3, 3), (4, .aload_n 0, 1), (5, .bipush 80, 2), (7, .newarray .char, 2), (9, .putfield 9, 3), (12, .aload_n 0, 1), (13, .iconst 0, 1), (14, .putfield 15, 3), (17, .aload_n 0, 1), (18, .iconst 0, 1), (19, .putfield 19, 3), (22, .aload_n 0, 1), (23, .bipush 10, 2), (25, .newarray .int, 2), (27, .putfield 22, 3), (30, .aload_n 0, 1), (31, .bipush 20, 2), (33, .anewarray 26, 3), (36, .putfield 28, 3), (39, .aload_n 0, 1), (40, .iconst 0, 1), (41, .putfield 32, 3), (44, .iconst 0, 1), (45, .istore_n 1, 1), (46, .iload_n 1, 1), (47, .bipush 20, 2), (49, .if_icmp .ge 22, 3), (52, .aload_n 0, 1), (53, .getfield 28, 3), (56, .iload_n 1, 1), (57, .new 26, 3), (60, .dup, 1), (61, .invokespecial 35, 3), (64, .aastore, 1), (65, .iinc 1 1, 3), (68, .goto (-22), 3), (71, .return_, 1)]
def bI_81 : List (Nat × Instr × Nat) := [(0, .iload_n 1, 1), (1, .bipush 32, 2), (3, .bipush 126, 2), (5, .invokestatic 36, 3), (8, .ifCond .ne 6, 3), (11, .bipush (-2), 2), (13, .ireturn, 1), (14, .aload_n 0, 1), (15, .getfield 15, 3), (18, .bipush 80, 2), (20, .if_icmp .lt 6, 3), (23, .bipush (-3), 2), (25, .ireturn, 1), (26, .aload_n 0, 1), (27, .getfield 9, 3), (30, .aload_n 0, 1), (31, .getfield 15, 3), (34, .iload_n 1, 1), (35, .i2c, 1), (36, .castore, 1), (37, .aload_n 0, 1), (38, .dup, 1), (39, .getfield 15, 3), (42, .iconst 1, 1), (43, .iadd, 1), (44, .putfield 15, 3), (47, .aload_n 0, 1), (48, .getfield 15, 3), (51, .ireturn, 1)]
def bI_82 : List (Nat × Instr × Nat) := [(0, .aload_n 0, 1), (1, .iconst 0, 1), (2, .putfield 15, 3), (5, .return_, 1)]
def bI_83 : List (Nat × Instr × Nat) := [(0, .aload_n 0, 1), (1, .getfield 19, 3), (4, .aload_n 0, 1), (5, .getfield 15, 3), (8, .if_icmp .ge 20, 3), (11, .aload_n 0, 1), (12, .getfield 9, 3), (15, .aload_n 0, 1), (16, .getfield 19, 3), (19, .caload, 1), (20, .iload_n 1, 1), (21, .if_icmp .ne 7, 3), (24, .iconst 1, 1), (25, .goto 4, 3), (28, .iconst 0, 1), (29, .ireturn, 1)]
def bI_84 : List (Nat × Instr × Nat) := [(0, .iload_n 0, 1), (1, .bipush 48, 2), (3, .if_icmp .lt 13, 3), (6, .iload_n 0, 1), (7, .bipush 57, 2), (9, .if_icmp .gt 7, 3), (12, .iconst 1, 1), (13, .goto 4, 3), (16, .iconst 0, 1), (17, .ireturn, 1)]
def bI_85 : List (Nat × Instr × Nat) := [(0, .aload_n 0, 1), (1, .getfield 22, 3), (4, .iconst 0, 1), (5, .invokestatic 40, 3), (8, .aload_n 0, 1), (9, .iconst 0, 1), (10, .putfield 19, 3), (13, .aload_n 0, 1), (14, .getfield 19, 3), (17, .aload_n 0, 1), (18, .getfield 15, 3), (21, .if_icmp .ge 83, 3), (24, .aload_n 0, 1), (25, .getfield 19, 3), (28, .iconst 4, 1), (29, .irem, 1), (30, .aload_n 0, 1), (31, .getfield 9, 3), (34, .aload_n 0, 1), (35, .getfield 19, 3), (38, .caload, 1), (39, .invokestatic 46, 3), (42, .ifCond .ne 5, 3), (45, .iconst 0, 1), (46, .ireturn, 1), (47, .aload_n 0, 1), (48, .getfield 19, 3), (51, .iconst 4, 1), (52, .irem, 1), (53, .iconst 2, 1), (54, .if_icmp .ne 37, 3), (57, .aload_n 0, 1), (58, .getfield 22, 3), (61, .aload_n 0, 1), (62, .getfield 9, 3), (65, .aload_n 0, 1), (66, .getfield 19, 3), (69, .caload, 1), (70, .bipush 48, 2), (72, .isub, 1), (73, .dup2, 1), (74, .iaload, 1), (75, .aload_n 0, 1), (76, .getfield 9, 3), (79, .aload_n 0, 1), (80, .getfield 19, 3), (83, .iconst 2, 1), (84, .isub, 1), (85, .caload, 1), (86, .bipush 48, 2), (88, .isub, 1), (89, .iadd, 1), (90, .iastore, 1), (91, .aload_n 0, 1), (92, .dup, 1), (93, .getfield 19, 3), (96, .iconst 1, 1), (97, .iadd, 1), (98, .putfield 19, 3), (101, .goto (-88), 3), (104, .aload_n 0, 1), (105, .getfield 15, 3), (108, .iconst 4, 1), (109, .irem, 1), (110, .iconst 3, 1), (111, .if_icmp .ne 7, 3), (114, .iconst 1, 1), (115, .goto 4, 3), (118, .iconst 0, 1), (119, .ireturn, 1)]
def bI_86 : List (Nat × Instr × Nat) := [(0, .iload_n 0, 1), (1, .tableswitch 63 0 2 #[27, 46, 58], 27), (28, .iload_n 1, 1), (29, .invokestatic 50, 3), (32, .ifCond .eq 13, 3), (35, .iload_n 1, 1), (36, .bipush 48, 2), (38, .if_icmp .eq 7, 3), (41, .iconst 1, 1), (42, .goto 4, 3), (45, .iconst 0, 1), (46, .ireturn, 1), (47, .iload_n 1, 1), (48, .bipush 120, 2), (50, .if_icmp .ne 7, 3), (53, .iconst 1, 1), (54, .goto 4, 3), (57, .iconst 0, 1), (58, .ireturn, 1), (59, .iload_n 1, 1), (60, .invokestatic 50, 3), (63, .ireturn, 1), (64, .iload_n 1, 1), (65, .bipush 43, 2), (67, .if_icmp .ne 7, 3), (70, .iconst 1, 1), (71, .goto 4, 3), (74, .iconst 0, 1), (75, .ireturn, 1)]
def bI_87 : List (Nat × Instr × Nat) := [(0, .aload_n 0, 1), (1, .iconst 0, 1), (2, .putfield 19, 3), (5, .aload_n 0, 1), (6, .iconst 0, 1), (7, .putfield 32, 3), (10, .aload_n 0, 1), (11, .getfield 32, 3), (14, .bipush 20, 2), (16, .if_icmp .ge 68, 3), (19, .aload_n 0, 1), (20, .aload_n 0, 1), (21, .getfield 28, 3), (24, .aload_n 0, 1), (25, .getfield 32, 3), (28, .aaload, 1), (29, .invokevirtual 54, 3), (32, .ifCond .ne 5, 3), (35, .iconst 0, 1), (36, .ireturn, 1), (37, .aload_n 0, 1), (38, .dup, 1), (39, .getfield 32, 3), (42, .iconst 1, 1), (43, .iadd, 1), (44, .putfield 32, 3), (47, .aload_n 0, 1), (48, .getfield 19, 3), (51, .aload_n 0, 1), (52, .getfield 15, 3), (55, .if_icmp .ne 5, 3), (58, .iconst 1, 1), (59, .ireturn, 1), (60, .aload_n 0, 1), (61, .bipush 59, 2), (63, .invokevirtual 58, 3), (66, .ifCond .ne 5, 3), (69, .iconst 0, 1), (70, .ireturn, 1), (71, .aload_n 0, 1), (72, .dup, 1), (73, .getfield 19, 3), (76, .iconst 1, 1), (77, .iadd, 1), (78, .putfield 19, 3), (81, .goto (-71), 3), (84, .iconst 0, 1), (85, .ireturn, 1)]
def bI_88 : List (Nat × Instr × Nat) := [(0, .aload_n 0, 1), (1, .invokevirtual 61, 3), (4, .istore_n 2, 1), (5, .iload_n 2, 1), (6, .iconst (-1), 1), (7, .if_icmp .ne 5, 3), (10, .iconst 0, 1), (11, .ireturn, 1), (12, .aload_n 1, 1), (13, .iload_n 2, 1), (14, .putfield 65, 3), (17, .aload_n 0, 1), (18, .dup, 1), (19, .getfield 19, 3), (22, .iload_n 2, 1), (23, .invokestatic 68, 3), (26, .invokevirtual 72, 3), (29, .iadd, 1), (30, .putfield 19, 3), (33, .iconst 0, 1), (34, .istore_n 3, 1), (35, .iload_n 3, 1), (36, .iload_n 2, 1), (37, .invokestatic 76, 3), (40, .if_icmp .ge 20, 3), (43, .aload_n 0, 1), (44, .aload_n 1, 1), (45, .iload_n 3, 1), (46, .invokevirtual 80, 3), (49, .ifCond .ne 5, 3), (52, .iconst 0, 1), (53, .ireturn, 1), (54, .iinc 3 1, 3), (57, .goto (-22), 3), (60, .iload_n 2, 1), (61, .ifCond .ne 11, 3), (64, .aload_n 0, 1), (65, .aload_n 1, 1), (66, .invokevirtual 84, 3), (69, .ifCond .eq 7, 3), (72, .iconst 1, 1), (73, .goto 4, 3), (76, .iconst 0, 1), (77, .ireturn, 1)]
def bI_89 : List (Nat × Instr × Nat) := [(0, .iconst 0, 1), (1, .istore_n 1, 1), (2, .iload_n 1, 1), (3, .iconst 5, 1), (4, .if_icmp .ge 22, 3), (7, .aload_n 0, 1), (8, .iload_n 1, 1), (9, .invokestatic 68, 3), (12, .invokevirtual 87, 3), (15, .ifCond .eq 5, 3), (18, .iload_n 1, 1), (19, .ireturn, 1), (20, .iinc 1 1, 3), (23, .goto (-21), 3), (26, .iconst (-1), 1), (27, .ireturn, 1)]
def bI_90 : List (Nat × Instr × Nat) := [(0, .aload_n 0, 1), (1, .getfield 19, 3), (4, .istore_n 2, 1), (5, .iload_n 2, 1), (6, .aload_n 0, 1), (7, .getfield 15, 3), (10, .if_icmp .ge 31, 3), (13, .aload_n 0, 1), (14, .getfield 9, 3), (17, .iload_n 2, 1), (18, .caload, 1), (19, .bipush 97, 2), (21, .if_icmp .lt 20, 3), (24, .aload_n 0, 1), (25, .getfield 9, 3), (28, .iload_n 2, 1), (29, .caload, 1), (30, .bipush 122, 2), (32, .if_icmp .gt 9, 3), (35, .iinc 2 1, 3), (38, .goto (-33), 3), (41, .iload_n 2, 1), (42, .aload_n 0, 1), (43, .getfield 19, 3), (46, .isub, 1), (47, .aload_n 1, 1), (48, .invokevirtual 72, 3), (51, .if_icmp .eq 5, 3), (54, .iconst 0, 1), (55, .ireturn, 1), (56, .aload_n 0, 1), (57, .getfield 19, 3), (60, .istore_n 3, 1), (61, .iload_n 3, 1), (62, .iload_n 2, 1), (63, .if_icmp .ge 30, 3), (66, .aload_n 0, 1), (67, .getfield 9, 3), (70, .iload_n 3, 1), (71, .caload, 1), (72, .aload_n 1, 1), (73, .iload_n 3, 1), (74, .aload_n 0, 1), (75, .getfield 19, 3), (78, .isub, 1), (79, .invokevirtual 91, 3), (82, .if_icmp .eq 5, 3), (85, .iconst 0, 1), (86, .ireturn, 1), (87, .iinc 3 1, 3), (90, .goto (-29), 3), (93, .iconst 1, 1), (94, .ireturn, 1)]
def bI_91 : List (Nat × Instr × Nat) := [(0, .iload_n 0, 1), (1, .tableswitch 43 0 3 #[31, 34, 37, 40], 31), (32, .ldc 95, 2), (34, .areturn, 1), (35, .ldc 97, 2), (37, .areturn, 1), (38, .ldc 99, 2), (40, .areturn, 1), (41, .ldc 101, 2), (43, .areturn, 1), (44, .ldc 103, 2), (46, .areturn, 1)]
def bI_92 : List (Nat × Instr × Nat) := [(0, .iload_n 0, 1), (1, .tableswitch 37 0 3 #[31, 33, 37, 35], 31), (32, .iconst 5, 1), (33, .ireturn, 1), (34, .iconst 3, 1), (35, .ireturn, 1), (36, .iconst 0, 1), (37, .ireturn, 1), (38, .iconst 1, 1), (39, .ireturn, 1)]
def bI_93 : List (Nat × Instr × Nat) := [(0, .aload_n 0, 1), (1, .bipush 32, 2), (3, .invokevirtual 58, 3), (6, .ifCond .ne 5, 3), (9, .iconst 0, 1), (10, .ireturn, 1), (11, .aload_n 0, 1), (12, .dup, 1), (13, .getfield 19, 3), (16, .iconst 1, 1), (17, .iadd, 1), (18, .putfield 19, 3), (21, .iconst 0, 1), (22, .istore_n 3, 1), (23, .iconst 0, 1), (24, .istore 4, 2), (26, .iload 4, 2), (28, .iconst 3, 1), (29, .if_icmp .ge 63, 3), (32, .aload_n 0, 1), (33, .getfield 19, 3), (36, .aload_n 0, 1), (37, .getfield 15, 3), (40, .if_icmp .ge 52, 3), (43, .aload_n 0, 1), (44, .getfield 9, 3), (47, .aload_n 0, 1), (48, .getfield 19, 3), (51, .caload, 1), (52, .invokestatic 50, 3), (55, .ifCond .eq 37, 3), (58, .bipush 10, 2), (60, .iload_n 3, 1), (61, .imul, 1), (62, .aload_n 0, 1), (63, .getfield 9, 3), (66, .aload_n 0, 1), (67, .getfield 19, 3), (70, .caload, 1), (71, .bipush 48, 2), (73, .isub, 1), (74, .iadd, 1), (75, .istore_n 3, 1), (76, .aload_n 0, 1), (77, .dup, 1), (78, .getfield 19, 3), (81, .iconst 1, 1), (82, .iadd, 1), (83, .putfield 19, 3), (86, .iinc 4 1, 3), (89, .goto (-63), 3), (92, .aload_n 1, 1), (93, .getfield 105, 3), (96, .iload_n 2, 1), (97, .iload_n 3, 1), (98, .iastore, 1), (99, .iload 4, 2), (101, .ifCond .le 7, 3), (104, .iconst 1, 1), (105, .goto 4, 3), (108, .iconst 0, 1), (109, .ireturn, 1)]
def bI_94 : List (Nat × Instr × Nat) := [(0, .aload_n 1, 1), (1, .getfield 105, 3), (4, .iconst 5, 1), (5, .iconst 0, 1), (6, .iastore, 1), (7, .aload_n 0, 1), (8, .bipush 32, 2), (10, .invokevirtual 58, 3), (13, .ifCond .ne 5, 3), (16, .iconst 1, 1), (17, .ireturn, 1), (18, .aload_n 0, 1), (19, .dup, 1), (20, .getfield 19, 3), (23, .iconst 1, 1), (24, .iadd, 1), (25, .putfield 19, 3), (28, .aload_n 0, 1), (29, .ldc 108, 2), (31, .invokevirtual 87, 3), (34, .ifCond .ne 5, 3), (37, .iconst 0, 1), (38, .ireturn, 1), (39, .aload_n 0, 1), (40, .dup, 1), (41, .getfield 19, 3), (44, .ldc 108, 2), (46, .invokevirtual 72, 3), (49, .iadd, 1), (50, .putfield 19, 3), (53, .aload_n 1, 1), (54, .getfield 105, 3), (57, .iconst 5, 1), (58, .iconst 1, 1), (59, .iastore, 1), (60, .iconst 1, 1), (61, .ireturn, 1)]
def bI_95 : List (Nat × Instr × Nat) := [(0, .aload_n 0, 1), (1, .invokespecial 3, 3), (4, .aload_n 0, 1), (5, .new 9, 3), (8, .dup, 1), (9, .invokespecial 11, 3), (12, .putfield 12, 3), (15, .aload_n 0, 1), (16, .new 9, 3), (19, .dup, 1), (20, .invokespecial 11, 3), (23, .putfield 16, 3), (26, .aload_n 0, 1), (27, .new 9, 3), (30, .dup, 1), (31, .invokespecial 11, 3), (34, .putfield 19, 3), (37, .aload_n 0, 1), (38, .new 9, 3), (41, .dup, 1), (42, .invokespecial 11, 3), (45, .putfield 22, 3), (48, .aload_n 0, 1), (49, .bipush 8, 2), (51, .anewarray 9, 3), (54, .putfield 25, 3), (57, .aload_n 0, 1), (58, .new 29, 3), (61, .dup, 1), (62, .invokespecial 31, 3), (65, .putfield 32, 3), (68, .aload_n 0, 1), (69, .new 36, 3), (72, .dup, 1), (73, .invokespecial 38, 3), (76, .putfield 39, 3), (79, .aload_n 0, 1), (80, .new 43, 3), (83, .dup, 1), (84, .invokespecial 45, 3), (87, .putfield 46, 3), (90, .aload_n 0, 1), (91, .bipush 31, 2), (93, .newarray .char, 2), (95, .putfield 50, 3), (98, .aload_n 0, 1), (99, .iconst 0, 1), (100, .putfield 54, 3), (103, .aload_n 0, 1), (104, .iconst 0, 1), (105, .putfield 58, 3), (108, .aload_n 0, 1), (109, .iconst 0, 1), (110, .putfield 61, 3), (113, .aload_n 0, 1), (114, .iconst 0, 1), (115, .putfield 64, 3), (118, .aload_n 0, 1), (119, .bipush (-5), 2), (121, .putfield 68, 3), (124, .aload_n 0, 1), (125, .bipush (-5), 2), (127, .putfield 71, 3), (130, .iconst 0, 1), (131, .istore_n 1, 1), (132, .iload_n 1, 1), (133, .bipush 8, 2), (135, .if_icmp .ge 22, 3), (138, .aload_n 0, 1), (139, .getfield 25, 3), (142, .iload_n 1, 1), (143, .new 9, 3), (146, .dup, 1), (147, .invokespecial 11, 3), (150, .aastore, 1), (151, .iinc 1 1, 3), (154, .goto (-22), 3), (157, .return_, 1)]
def bI_96 : List (Nat × Instr × Nat) := [(0, .aload_n 0, 1), (1, .getfield 16, 3), (4, .aload_n 0, 1), (5, .getfield 12, 3), (8, .invokevirtual 74, 3), (11, .aload_n 0, 1), (12, .aload_n 0, 1), (13, .getfield 12, 3), (16, .iload_n 1, 1), (17, .iload_n 2, 1), (18, .invokevirtual 78, 3), (21, .invokevirtual 82, 3), (24, .ireturn, 1)]
def bI_97 : List (Nat × Instr × Nat) := [(0, .aload_n 0, 1), (1, .getfield 16, 3), (4, .aload_n 0, 1), (5, .getfield 12, 3), (8, .invokevirtual 74, 3), (11, .aload_n 0, 1), (12, .aload_n 0, 1), (13, .getfield 12, 3), (16, .iload_n 1, 1), (17, .iload_n 2, 1), (18, .iload_n 3, 1), (19, .iload 4, 2), (21, .iload 5, 2), (23, .iload 6, 2), (25, .invokevirtual 86, 3), (28, .invokevirtual 82, 3), (31, .ireturn, 1)]
def bI_98 : List (Nat × Instr × Nat) := [(0, .aload_n 0, 1), (1, .getfield 16, 3), (4, .aload_n 0, 1), (5, .getfield 12, 3), (8, .invokevirtual 74, 3), (11, .aload_n 0, 1), (12, .aload_n 0, 1), (13, .getfield 12, 3), (16, .iload_n 1, 1), (17, .iload_n 2, 1), (18, .iload_n 3, 1), (19, .invokevirtual 90, 3), (22, .invokevirtual 82, 3), (25, .ireturn, 1)]
def bI_99 : List (Nat × Instr × Nat) := [(0, .aload_n 0, 1), (1, .getfield 12, 3), (4, .iload_n 1, 1), (5, .invokevirtual 94, 3), (8, .ifCond .ne 5, 3), (11, .iconst (-1), 1), (12, .ireturn, 1), (13, .aload_n 0, 1), (14, .getfield 12, 3), (17, .getfield 98, 3), (20, .iload_n 1, 1), (21, .aaload, 1), (22, .astore_n 3, 1), (23, .iload_n 2, 1), (24, .tableswitch 148 0 11 #[64, 69, 74, 79, 84, 89, 94, 99, 104, 113, 122, 139], 64), (88, .aload_n 3, 1), (89, .getfield 102, 3), (92, .ireturn, 1), (93, .aload_n 3, 1), (94, .getfield 107, 3), (97, .ireturn, 1), (98, .aload_n 3, 1), (99, .getfield 110, 3), (102, .ireturn, 1), (103, .aload_n 3, 1), (104, .getfield 113, 3), (107, .ireturn, 1), (108, .aload_n 3, 1), (109, .getfield 116, 3), (112, .ireturn, 1), (113, .aload_n 3, 1), (114, .getfield 119, 3), (117, .ireturn, 1), (118, .aload_n 3, 1), (119, .getfield 122, 3), (122, .ireturn, 1), (123, .aload_n 3, 1), (124, .getfield 125, 3), (127, .ireturn, 1), (128, .aload_n 0, 1), (129, .getfield 12, 3), (132, .iload_n 1, 1), (133, .invokevirtual 128, 3), (136, .ireturn, 1), (137, .aload_n 0, 1), (138, .getfield 12, 3), (141, .iload_n 1, 1), (142, .invokevirtual 131, 3), (145, .ireturn, 1), (146, .aload_n 0, 1), (147, .getfield 12, 3), (150, .iload_n 1, 1), (151, .invokevirtual 134, 3), (154, .ifCond .eq 7, 3), (157, .iconst 1, 1), (158, .goto 4, 3), (161, .iconst 0, 1), (162, .ireturn, 1), (163, .aload_n 0, 1), (164, .getfield 12, 3), (167, .iload_n 1, 1), (168, .invokevirtual 137, 3), (171, .ireturn, 1), (172, .bipush (-2), 2), (174, .ireturn, 1)]
def bI_100 : List (Nat × Instr × Nat) := [(0, .aload_n 0, 1), (1, .getfield 12, 3), (4, .iload_n 1, 1), (5, .invokevirtual 140, 3), (8, .ifCond .ne 5, 3), (11, .iconst (-1), 1), (12, .ireturn, 1), (13, .aload_n 0, 1), (14, .getfield 12, 3), (17, .getfield 143, 3), (20, .iload_n 1, 1), (21, .aaload, 1), (22, .astore_n 3, 1), (23, .iload_n 2, 1), (24, .tableswitch 82 0 5 #[40, 45, 50, 55, 64, 73], 40), (64, .aload_n 3, 1), (65, .getfield 147, 3), (68, .ireturn, 1), (69, .aload_n 3, 1), (70, .getfield 150, 3), (73, .ireturn, 1), (74, .aload_n 3, 1), (75, .getfield 151, 3), (78, .ireturn, 1), (79, .aload_n 0, 1), (80, .getfield 12, 3), (83, .iload_n 1, 1), (84, .invokevirtual 154, 3), (87, .ireturn, 1), (88, .aload_n 0, 1), (89, .getfield 12, 3), (92, .iload_n 1, 1), (93, .invokevirtual 157, 3), (96, .ireturn, 1), (97, .aload_n 0, 1), (98, .getfield 12, 3), (101, .iload_n 1, 1), (102, .invokevirtual 160, 3), (105, .ireturn, 1), (106, .bipush (-2), 2), (108, .ireturn, 1)]
def bI_101 : List (Nat × Instr × Nat) := [(0, .iconst 0, 1), (1, .istore_n 2, 1), (2, .iload_n 2, 1), (3, .aload_n 0, 1), (4, .getfield 12, 3), (7, .getfield 163, 3), (10, .if_icmp .ge 23, 3), (13, .aload_n 0, 1), (14, .getfield 12, 3), (17, .iload_n 2, 1), (18, .invokevirtual 166, 3), (21, .iload_n 1, 1), (22, .if_icmp .ne 5, 3), (25, .iload_n 2, 1), (26, .ireturn, 1), (27, .iinc 2 1, 3), (30, .goto (-28), 3), (33, .iconst (-1), 1), (34, .ireturn, 1)]
def bI_102 : List (Nat × Instr × Nat) := [(0, .aload_n 0, 1), (1, .getfield 12, 3), (4, .iload_n 1, 1), (5, .invokevirtual 94, 3), (8, .ifCond .eq 14, 3), (11, .aload_n 0, 1), (12, .getfield 12, 3), (15, .iload_n 1, 1), (16, .invokevirtual 169, 3), (19, .goto 4, 3), (22, .iconst (-1), 1), (23, .ireturn, 1)]
def bI_103 : List (Nat × Instr × Nat) := [(0, .aload_n 0, 1), (1, .getfield 46, 3), (4, .iload_n 1, 1), (5, .invokevirtual 172, 3), (8, .ireturn, 1)]
def bI_104 : List (Nat × Instr × Nat) := [(0, .aload_n 0, 1), (1, .getfield 12, 3), (4, .iload_n 1, 1), (5, .invokevirtual 140, 3), (8, .ifCond .ne 5, 3), (11, .iconst (-1), 1), (12, .ireturn, 1), (13, .aload_n 0, 1), (14, .getfield 12, 3), (17, .iload_n 2, 1), (18, .bipush 10, 2), (20, .isub, 1), (21, .invokevirtual 94, 3), (24, .istore_n 3, 1), (25, .iload_n 3, 1), (26, .ifCond .ne 15, 3), (29, .iload_n 2, 1), (30, .ifCond .lt 8, 3), (33, .iload_n 2, 1), (34, .iconst 3, 1), (35, .if_icmp .le 6, 3), (38, .bipush (-2), 2), (40, .ireturn, 1), (41, .aload_n 0, 1), (42, .getfield 12, 3), (45, .iload_n 1, 1), (46, .aload_n 0, 1), (47, .getfield 32, 3), (50, .invokevirtual 175, 3), (53, .ifCond .ne 6, 3), (56, .bipush (-5), 2), (58, .ireturn, 1), (59, .iload_n 2, 1), (60, .tableswitch 82 0 3 #[32, 40, 48, 66], 32), (92, .aload_n 0, 1), (93, .getfield 32, 3), (96, .getfield 179, 3), (99, .ireturn, 1), (100, .aload_n 0, 1), (101, .getfield 32, 3), (104, .getfield 182, 3), (107, .ireturn, 1), (108, .aload_n 0, 1), (109, .getfield 32, 3), (112, .getfield 182, 3), (115, .aload_n 0, 1), (116, .getfield 32, 3), (119, .getfield 179, 3), (122, .invokestatic 185, 3), (125, .ireturn, 1), (126, .aload_n 0, 1), (127, .getfield 12, 3), (130, .iload_n 1, 1), (131, .aload_n 0, 1), (132, .getfield 32, 3), (135, .getfield 188, 3), (138, .invokevirtual 192, 3), (141, .ireturn, 1), (142, .iload_n 3, 1), (143, .ifCond .eq 18, 3), (146, .aload_n 0, 1), (147, .getfield 32, 3), (150, .getfield 188, 3), (153, .iload_n 2, 1), (154, .bipush 10, 2), (156, .isub, 1), (157, .iaload, 1), (158, .goto 5, 3), (161, .bipush (-2), 2), (163, .ireturn, 1)]
def bI_105 : List (Nat × Instr × Nat) := [(0, .aload_n 0, 1), (1, .getfield 12, 3), (4, .iload_n 1, 1), (5, .invokevirtual 140, 3), (8, .ifCond .ne 5, 3), (11, .iconst (-1), 1), (12, .ireturn, 1), (13, .aload_n 0, 1), (14, .getfield 12, 3), (17, .iload_n 1, 1), (18, .invokevirtual 154, 3), (21, .iconst 1, 1), (22, .if_icmp .ge 6, 3), (25, .bipush (-5), 2), (27, .ireturn, 1), (28, .aload_n 0, 1), (29, .getfield 12, 3), (32, .iload_n 1, 1), (33, .aload_n 0, 1), (34, .getfield 32, 3), (37, .invokevirtual 196, 3), (40, .aload_n 0, 1), (41, .getfield 32, 3), (44, .invokevirtual 200, 3), (47, .ireturn, 1)]
def bI_106 : List (Nat × Instr × Nat) := [(0, .aload_n 0, 1), (1, .getfield 12, 3), (4, .iload_n 1, 1), (5, .invokevirtual 140, 3), (8, .ifCond .ne 5, 3), (11, .iconst (-1), 1), (12, .ireturn, 1), (13, .aload_n 0, 1), (14, .getfield 12, 3), (17, .iload_n 1, 1), (18, .aload_n 0, 1), (19, .getfield 32, 3), (22, .invokevirtual 196, 3), (25, .aload_n 0, 1), (26, .getfield 32, 3), (29, .iconst 1, 1), (30, .invokevirtual 204, 3), (33, .ireturn, 1)]
def bI_107 : List (Nat × Instr × Nat) := [(0, .aload_n 0, 1), (1, .getfield 46, 3), (4, .invokevirtual 208, 3), (7, .istore_n 3, 1), (8, .aload_n 0, 1), (9, .getfield 46, 3), (12, .invokevirtual 212, 3), (15, .aload_n 0, 1), (16, .getfield 12, 3), (19, .iload_n 1, 1), (20, .invokevirtual 140, 3), (23, .ifCond .ne 5, 3), (26, .iconst (-1), 1), (27, .ireturn, 1), (28, .iload_n 2, 1), (29, .iconst 1, 1), (30, .if_icmp .ge 6, 3), (33, .bipush (-2), 2), (35, .ireturn, 1), (36, .iload_n 3, 1), (37, .ifCond .ne 15, 3), (40, .sipush (-1000), 3), (43, .aload_n 0, 1), (44, .getfield 46, 3), (47, .getfield 215, 3), (50, .isub, 1), (51, .ireturn, 1), (52, .aload_n 0, 1), (53, .getfield 12, 3), (56, .iload_n 1, 1), (57, .iload_n 2, 1), (58, .aload_n 0, 1), (59, .getfield 46, 3), (62, .getfield 218, 3), (65, .invokevirtual 221, 3), (68, .istore 4, 2), (70, .iload 4, 2), (72, .ifCond .eq 18, 3), (75, .aload_n 0, 1), (76, .iload 4, 2), (78, .putfield 68, 3), (81, .aload_n 0, 1), (82, .bipush (-5), 2), (84, .putfield 71, 3), (87, .bipush (-4), 2), (89, .ireturn, 1), (90, .aload_n 0, 1), (91, .getfield 16, 3), (94, .aload_n 0, 1), (95, .getfield 12, 3), (98, .invokevirtual 74, 3), (101, .aload_n 0, 1), (102, .aload_n 0, 1), (103, .getfield 12, 3), (106, .iload_n 1, 1), (107, .iload_n 2, 1), (108, .aload_n 0, 1), (109, .getfield 46, 3), (112, .getfield 218, 3), (115, .invokevirtual 225, 3), (118, .invokevirtual 82, 3), (121, .ireturn, 1)]
def bI_108 : List (Nat × Instr × Nat) := [(0, .aload_n 0, 1), (1, .getfield 16, 3), (4, .aload_n 0, 1), (5, .getfield 12, 3), (8, .invokevirtual 74, 3), (11, .aload_n 0, 1), (12, .aload_n 0, 1), (13, .getfield 12, 3), (16, .iload_n 1, 1), (17, .aload_n 0, 1), (18, .getfield 32, 3), (21, .invokevirtual 228, 3), (24, .invokevirtual 82, 3), (27, .ireturn, 1)]
def bI_109 : List (Nat × Instr × Nat) := [(0, .aload_n 0, 1), (1, .getfield 16, 3), (4, .aload_n 0, 1), (5, .getfield 12, 3), (8, .invokevirtual 74, 3), (11, .aload_n 0, 1), (12, .aload_n 0, 1), (13, .getfield 12, 3), (16, .aload_n 0, 1), (17, .getfield 32, 3), (20, .invokevirtual 232, 3), (23, .invokevirtual 82, 3), (26, .ireturn, 1)]
def bI_110 : List (Nat × Instr × Nat) := [(0, .aload_n 0, 1), (1, .getfield 16, 3), (4, .aload_n 0, 1), (5, .getfield 12, 3), (8, .invokevirtual 74, 3), (11, .aload_n 0, 1), (12, .aload_n 0, 1), (13, .getfield 12, 3), (16, .iload_n 1, 1), (17, .invokevirtual 236, 3), (20, .invokevirtual 82, 3), (23, .ireturn, 1)]
def bI_111 : List (Nat × Instr × Nat) := [(0, .aload_n 0, 1), (1, .getfield 12, 3), (4, .iload_n 1, 1), (5, .invokevirtual 239, 3), (8, .ifCond .ne 5, 3), (11, .iconst (-1), 1), (12, .ireturn, 1), (13, .aload_n 0, 1), (14, .getfield 12, 3), (17, .getfield 242, 3), (20, .iload_n 1, 1), (21, .aaload, 1), (22, .astore_n 3, 1), (23, .iload_n 2, 1), (24, .tableswitch 107 0 8 #[52, 57, 62, 70, 75, 80, 92, 97, 102], 52), (76, .aload_n 3, 1), (77, .getfield 246, 3), (80, .ireturn, 1), (81, .aload_n 3, 1), (82, .getfield 251, 3), (85, .ireturn, 1), (86, .aload_n 3, 1), (87, .getfield 252, 3), (90, .invokestatic 253, 3), (93, .ireturn, 1), (94, .aload_n 3, 1), (95, .getfield 257, 3), (98, .ireturn, 1), (99, .aload_n 3, 1), (100, .getfield 260, 3), (103, .ireturn, 1), (104, .aload_n 0, 1), (105, .getfield 12, 3), (108, .iload_n 1, 1), (109, .iload_n 1, 1), (110, .iconst 1, 1), (111, .isub, 1), (112, .invokevirtual 263, 3), (115, .ireturn, 1), (116, .aload_n 3, 1), (117, .invokevirtual 266, 3), (120, .ireturn, 1), (121, .aload_n 3, 1), (122, .getfield 269, 3), (125, .ireturn, 1), (126, .aload_n 3, 1), (127, .invokevirtual 272, 3), (130, .ireturn, 1), (131, .aload_n 0, 1), (132, .getfield 12, 3), (135, .iload_n 2, 1), (136, .bipush 10, 2), (138, .isub, 1), (139, .invokevirtual 94, 3), (142, .ifCond .eq 15, 3), (145, .aload_n 3, 1), (146, .getfield 252, 3), (149, .iload_n 2, 1), (150, .bipush 10, 2), (152, .isub, 1), (153, .iaload, 1), (154, .goto 5, 3), (157, .bipush (-2), 2), (159, .ireturn, 1)]
def bI_112 : List (Nat × Instr × Nat) := [(0, .aload_n 0, 1), (1, .getfield 12, 3), (4, .iload_n 1, 1), (5, .invokevirtual 239, 3), (8, .ifCond .ne 5, 3), (11, .iconst (-1), 1), (12, .ireturn, 1), (13, .aload_n 0, 1), (14, .getfield 12, 3), (17, .getfield 242, 3), (20, .iload_n 1, 1), (21, .aaload, 1), (22, .astore_n 3, 1), (23, .iload_n 2, 1), (24, .ifCond .lt 20, 3), (27, .iload_n 2, 1), (28, .aload_n 3, 1), (29, .getfield 260, 3), (32, .if_icmp .ge 12, 3), (35, .aload_n 3, 1), (36, .getfield 275, 3), (39, .iload_n 2, 1), (40, .iaload, 1), (41, .goto 4, 3), (44, .iconst (-1), 1), (45, .ireturn, 1)]
def bI_113 : List (Nat × Instr × Nat) := [(0, .aload_n 0, 1), (1, .getfield 12, 3), (4, .iload_n 1, 1), (5, .invokevirtual 239, 3), (8, .ifCond .eq 8, 3), (11, .iload_n 1, 1), (12, .iload_n 2, 1), (13, .if_icmp .ne 5, 3), (16, .iconst (-1), 1), (17, .ireturn, 1), (18, .iload_n 2, 1), (19, .iconst (-1), 1), (20, .if_icmp .eq 16, 3), (23, .aload_n 0, 1), (24, .getfield 12, 3), (27, .iload_n 2, 1), (28, .invokevirtual 239, 3), (31, .ifCond .ne 5, 3), (34, .iconst (-1), 1), (35, .ireturn, 1), (36, .aload_n 0, 1), (37, .getfield 12, 3), (40, .iload_n 1, 1), (41, .iload_n 2, 1), (42, .invokevirtual 263, 3), (45, .ireturn, 1)]
def bI_114 : List (Nat × Instr × Nat) := [(0, .aload_n 0, 1), (1, .getfield 16, 3), (4, .aload_n 0, 1), (5, .getfield 12, 3), (8, .invokevirtual 74, 3), (11, .aload_n 0, 1), (12, .aload_n 0, 1), (13, .getfield 12, 3), (16, .iload_n 1, 1), (17, .iload_n 2, 1), (18, .invokevirtual 278, 3), (21, .invokevirtual 82, 3), (24, .ireturn, 1)]
def bI_115 : List (Nat × Instr × Nat) := [(0, .aload_n 0, 1), (1, .getfield 16, 3), (4, .aload_n 0, 1), (5, .getfield 12, 3), (8, .invokevirtual 74, 3), (11, .aload_n 0, 1), (12, .aload_n 0, 1), (13, .getfield 12, 3), (16, .iload_n 1, 1), (17, .iload_n 2, 1), (18, .invokevirtual 281, 3), (21, .invokevirtual 82, 3), (24, .ireturn, 1)]
def bI_116 : List (Nat × Instr × Nat) := [(0, .aload_n 0, 1), (1, .getfield 12, 3), (4, .iload_n 1, 1), (5, .invokevirtual 239, 3), (8, .ifCond .ne 5, 3), (11, .iconst (-1), 1), (12, .ireturn, 1), (13, .aload_n 0, 1), (14, .getfield 12, 3), (17, .getfield 242, 3), (20, .iload_n 1, 1), (21, .aaload, 1), (22, .getfield 252, 3), (25, .astore_n 2, 1), (26, .aload_n 0, 1), (27, .iconst 0, 1), (28, .putfield 54, 3), (31, .iconst 0, 1), (32, .istore_n 3, 1), (33, .iload_n 3, 1), (34, .bipush 8, 2), (36, .if_icmp .ge 23, 3), (39, .aload_n 2, 1), (40, .iload_n 3, 1), (41, .iaload, 1), (42, .ifCond .le 11, 3), (45, .aload_n 0, 1), (46, .aload_n 2, 1), (47, .iload_n 3, 1), (48, .iaload, 1), (49, .iload_n 3, 1), (50, .invokevirtual 284, 3), (53, .iinc 3 1, 3), (56, .goto (-23), 3), (59, .aload_n 0, 1), (60, .getfield 54, 3), (63, .ireturn, 1)]
def bI_117 : List (Nat × Instr × Nat) := [(0, .iload_n 1, 1), (1, .ifCond .lt 20, 3), (4, .iload_n 1, 1), (5, .aload_n 0, 1), (6, .getfield 54, 3), (9, .if_icmp .ge 12, 3), (12, .aload_n 0, 1), (13, .getfield 50, 3), (16, .iload_n 1, 1), (17, .caload, 1), (18, .goto 4, 3), (21, .iconst (-1), 1), (22, .ireturn, 1)]
def bI_118 : List (Nat × Instr × Nat) := [(0, .aload_n 0, 1), (1, .getfield 16, 3), (4, .aload_n 0, 1), (5, .getfield 12, 3), (8, .invokevirtual 74, 3), (11, .aload_n 0, 1), (12, .aload_n 0, 1), (13, .getfield 12, 3), (16, .iload_n 1, 1), (17, .aload_n 0, 1), (18, .getfield 39, 3), (21, .invokevirtual 288, 3), (24, .invokevirtual 82, 3), (27, .ireturn, 1)]
def bI_119 : List (Nat × Instr × Nat) := [(0, .aload_n 0, 1), (1, .getfield 12, 3), (4, .getfield 292, 3), (7, .bipush 7, 2), (9, .if_icmp .le 6, 3), (12, .bipush (-4), 2), (14, .ireturn, 1), (15, .aload_n 0, 1), (16, .getfield 39, 3), (19, .aload_n 0, 1), (20, .getfield 12, 3), (23, .invokevirtual 295, 3), (26, .aload_n 0, 1), (27, .getfield 39, 3), (30, .invokevirtual 298, 3), (33, .ireturn, 1)]
def bI_120 : List (Nat × Instr × Nat) := [(0, .aload_n 0, 1), (1, .getfield 16, 3), (4, .aload_n 0, 1), (5, .getfield 12, 3), (8, .invokevirtual 74, 3), (11, .aload_n 0, 1), (12, .aload_n 0, 1), (13, .getfield 12, 3), (16, .iload_n 1, 1), (17, .invokevirtual 301, 3), (20, .invokevirtual 82, 3), (23, .ireturn, 1)]
def bI_121 : List (Nat × Instr × Nat) := [(0, .iload_n 1, 1), (1, .ifCond .lt 8, 3), (4, .iload_n 1, 1), (5, .iconst 4, 1), (6, .if_icmp .le 6, 3), (9, .bipush (-2), 2), (11, .ireturn, 1), (12, .aload_n 0, 1), (13, .getfield 19, 3), (16, .aload_n 0, 1), (17, .getfield 12, 3), (20, .invokevirtual 74, 3), (23, .aload_n 0, 1), (24, .getfield 19, 3), (27, .aload_n 0, 1), (28, .getfield 32, 3), (31, .invokevirtual 232, 3), (34, .istore_n 2, 1), (35, .iload_n 1, 1), (36, .tableswitch 58 0 3 #[32, 34, 42, 50], 32), (68, .iload_n 2, 1), (69, .ireturn, 1), (70, .aload_n 0, 1), (71, .getfield 19, 3), (74, .invokevirtual 304, 3), (77, .ireturn, 1), (78, .aload_n 0, 1), (79, .getfield 19, 3), (82, .invokevirtual 307, 3), (85, .ireturn, 1), (86, .aload_n 0, 1), (87, .getfield 19, 3), (90, .invokevirtual 310, 3), (93, .ireturn, 1), (94, .aload_n 0, 1), (95, .getfield 19, 3), (98, .invokevirtual 313, 3), (101, .ireturn, 1)]
def bI_122 : List (Nat × Instr × Nat) := [(0, .iload_n 1, 1), (1, .tableswitch 135 0 9 #[55, 63, 71, 79, 87, 95, 103, 111, 119, 127], 55), (56, .aload_n 0, 1), (57, .getfield 12, 3), (60, .invokevirtual 316, 3), (63, .ireturn, 1), (64, .aload_n 0, 1), (65, .getfield 12, 3), (68, .invokevirtual 319, 3), (71, .ireturn, 1), (72, .aload_n 0, 1), (73, .getfield 12, 3), (76, .invokevirtual 307, 3), (79, .ireturn, 1), (80, .aload_n 0, 1), (81, .getfield 12, 3), (84, .invokevirtual 313, 3), (87, .ireturn, 1), (88, .aload_n 0, 1), (89, .getfield 12, 3), (92, .invokevirtual 310, 3), (95, .ireturn, 1), (96, .aload_n 0, 1), (97, .getfield 12, 3), (100, .invokevirtual 322, 3), (103, .ireturn, 1), (104, .aload_n 0, 1), (105, .getfield 12, 3), (108, .invokevirtual 304, 3), (111, .ireturn, 1), (112, .aload_n 0, 1), (113, .getfield 12, 3), (116, .getfield 292, 3), (119, .ireturn, 1), (120, .aload_n 0, 1), (121, .getfield 12, 3), (124, .getfield 325, 3), (127, .ireturn, 1), (128, .aload_n 0, 1), (129, .getfield 12, 3), (132, .getfield 163, 3), (135, .ireturn, 1), (136, .bipush (-2), 2), (138, .ireturn, 1)]
def bI_123 : List (Nat × Instr × Nat) := [(0, .iload_n 1, 1), (1, .iconst 0, 1), (2, .iconst 3, 1), (3, .invokestatic 328, 3), (6, .ifCond .ne 6, 3), (9, .bipush (-2), 2), (11, .ireturn, 1), (12, .iload_n 2, 1), (13, .tableswitch 93 0 5 #[39, 48, 57, 66, 75, 84], 39), (52, .aload_n 0, 1), (53, .getfield 12, 3), (56, .iload_n 1, 1), (57, .invokevirtual 332, 3), (60, .ireturn, 1), (61, .aload_n 0, 1), (62, .getfield 12, 3), (65, .iload_n 1, 1), (66, .invokevirtual 335, 3), (69, .ireturn, 1), (70, .aload_n 0, 1), (71, .getfield 12, 3), (74, .iload_n 1, 1), (75, .invokevirtual 338, 3), (78, .ireturn, 1), (79, .aload_n 0, 1), (80, .getfield 12, 3), (83, .iload_n 1, 1), (84, .invokevirtual 341, 3), (87, .ireturn, 1), (88, .aload_n 0, 1), (89, .getfield 12, 3), (92, .iload_n 1, 1), (93, .invokevirtual 344, 3), (96, .ireturn, 1), (97, .aload_n 0, 1), (98, .getfield 12, 3), (101, .iload_n 1, 1), (102, .invokevirtual 347, 3), (105, .ireturn, 1), (106, .bipush (-2), 2), (108, .ireturn, 1)]
def bI_124 : List (Nat × Instr × Nat) := [(0, .aload_n 0, 1), (1, .getfield 46, 3), (4, .invokevirtual 350, 3), (7, .istore_n 1, 1), (8, .aload_n 0, 1), (9, .getfield 46, 3), (12, .invokevirtual 212, 3), (15, .iload_n 1, 1), (16, .ifCond .ne 15, 3), (19, .sipush (-1000), 3), (22, .aload_n 0, 1), (23, .getfield 46, 3), (26, .getfield 215, 3), (29, .isub, 1), (30, .ireturn, 1), (31, .aload_n 0, 1), (32, .getfield 16, 3), (35, .aload_n 0, 1), (36, .getfield 12, 3), (39, .invokevirtual 74, 3), (42, .iconst 0, 1), (43, .istore_n 2, 1), (44, .iload_n 2, 1), (45, .aload_n 0, 1), (46, .getfield 46, 3), (49, .getfield 353, 3), (52, .if_icmp .ge 198, 3), (55, .aload_n 0, 1), (56, .getfield 46, 3), (59, .getfield 356, 3), (62, .iload_n 2, 1), (63, .aaload, 1), (64, .getfield 360, 3), (67, .astore_n 3, 1), (68, .aload_n 0, 1), (69, .getfield 46, 3), (72, .getfield 356, 3), (75, .iload_n 2, 1), (76, .aaload, 1), (77, .getfield 365, 3), (80, .tableswitch 118 0 3 #[32, 62, 83, 102], 32), (112, .aload_n 0, 1), (113, .getfield 12, 3), (116, .aload_n 3, 1), (117, .iconst 0, 1), (118, .iaload, 1), (119, .aload_n 3, 1), (120, .iconst 1, 1), (121, .iaload, 1), (122, .aload_n 3, 1), (123, .iconst 2, 1), (124, .iaload, 1), (125, .aload_n 3, 1), (126, .iconst 3, 1), (127, .iaload, 1), (128, .aload_n 3, 1), (129, .iconst 4, 1), (130, .iaload, 1), (131, .aload_n 3, 1), (132, .iconst 5, 1), (133, .iaload, 1), (134, .invokevirtual 86, 3), (137, .istore 4, 2), (139, .goto 75, 3), (142, .aload_n 0, 1), (143, .getfield 12, 3), (146, .aload_n 3, 1), (147, .iconst 0, 1), (148, .iaload, 1), (149, .aload_n 3, 1), (150, .iconst 1, 1), (151, .iaload, 1), (152, .aload_n 3, 1), (153, .iconst 2, 1), (154, .iaload, 1), (155, .invokevirtual 90, 3), (158, .istore 4, 2), (160, .goto 54, 3), (163, .aload_n 0, 1), (164, .getfield 12, 3), (167, .aload_n 3, 1), (168, .iconst 0, 1), (169, .iaload, 1), (170, .aload_n 0, 1), (171, .getfield 32, 3), (174, .invokevirtual 228, 3), (177, .istore 4, 2), (179, .goto 35, 3), (182, .aload_n 0, 1), (183, .getfield 12, 3), (186, .aload_n 0, 1), (187, .getfield 32, 3), (190, .invokevirtual 232, 3), (193, .istore 4, 2), (195, .goto 19, 3), (198, .aload_n 0, 1), (199, .getfield 12, 3), (202, .aload_n 3, 1), (203, .iconst 0, 1), (204, .iaload, 1), (205, .aload_n 0, 1), (206, .getfield 39, 3), (209, .invokevirtual 288, 3), (212, .istore 4, 2), (214, .iload 4, 2), (216, .ifCond .ge 28, 3), (219, .aload_n 0, 1), (220, .getfield 12, 3), (223, .aload_n 0, 1), (224, .getfield 16, 3), (227, .invokevirtual 74, 3), (230, .aload_n 0, 1), (231, .iload 4, 2), (233, .putfield 68, 3), (236, .aload_n 0, 1), (237, .iload_n 2, 1), (238, .putfield 71, 3), (241, .bipush (-4), 2), (243, .ireturn, 1), (244, .iinc 2 1, 3), (247, .goto (-203), 3), (250, .aload_n 0, 1), (251, .aload_n 0, 1), (252, .getfield 46, 3), (255, .getfield 353, 3), (258, .invokevirtual 82, 3), (261, .ireturn, 1)]
def bI_125 : List (Nat × Instr × Nat) := [(0, .iload_n 1, 1), (1, .ifCond .eq 11, 3), (4, .iload_n 1, 1), (5, .iconst 1, 1), (6, .if_icmp .eq 6, 3), (9, .bipush (-2), 2), (11, .ireturn, 1), (12, .iload_n 1, 1), (13, .ifCond .ne 10, 3), (16, .aload_n 0, 1), (17, .getfield 68, 3), (20, .goto 7, 3), (23, .aload_n 0, 1), (24, .getfield 71, 3), (27, .ireturn, 1)]
def bI_126 : List (Nat × Instr × Nat) := [(0, .aload_n 0, 1), (1, .getfield 61, 3), (4, .ifCond .ne 6, 3), (7, .bipush (-5), 2), (9, .ireturn, 1), (10, .aload_n 0, 1), (11, .dup, 1), (12, .getfield 61, 3), (15, .iconst 1, 1), (16, .isub, 1), (17, .putfield 61, 3), (20, .aload_n 0, 1), (21, .getfield 12, 3), (24, .aload_n 0, 1), (25, .getfield 25, 3), (28, .aload_n 0, 1), (29, .getfield 58, 3), (32, .aload_n 0, 1), (33, .getfield 61, 3), (36, .iadd, 1), (37, .bipush 8, 2), (39, .irem, 1), (40, .aaload, 1), (41, .invokevirtual 74, 3), (44, .aload_n 0, 1), (45, .getfield 61, 3), (48, .ireturn, 1)]
def bI_127 : List (Nat × Instr × Nat) := [(0, .aload_n 0, 1), (1, .getfield 22, 3), (4, .aload_n 0, 1), (5, .getfield 12, 3), (8, .invokevirtual 74, 3), (11, .aload_n 0, 1), (12, .iconst 1, 1), (13, .putfield 64, 3), (16, .aload_n 0, 1), (17, .getfield 12, 3), (20, .getfield 292, 3), (23, .ireturn, 1)]
def bI_128 : List (Nat × Instr × Nat) := [(0, .aload_n 0, 1), (1, .getfield 64, 3), (4, .ifCond .ne 6, 3), (7, .bipush (-5), 2), (9, .ireturn, 1), (10, .aload_n 0, 1), (11, .getfield 12, 3), (14, .aload_n 0, 1), (15, .getfield 22, 3), (18, .invokevirtual 74, 3), (21, .aload_n 0, 1), (22, .iconst 0, 1), (23, .putfield 61, 3), (26, .aload_n 0, 1), (27, .getfield 12, 3), (30, .getfield 292, 3), (33, .ireturn, 1)]
def bI_129 : List (Nat × Instr × Nat) := [(0, .iload_n 1, 1), (1, .tableswitch 78 0 4 #[35, 40, 48, 58, 68], 35), (36, .aload_n 0, 1), (37, .getfield 61, 3), (40, .ireturn, 1), (41, .aload_n 0, 1), (42, .getfield 46, 3), (45, .getfield 368, 3), (48, .ireturn, 1), (49, .aload_n 0, 1), (50, .getfield 12, 3), (53, .getfield 369, 3), (56, .iconst 0, 1), (57, .iaload, 1), (58, .ireturn, 1), (59, .aload_n 0, 1), (60, .getfield 12, 3), (63, .getfield 369, 3), (66, .iconst 1, 1), (67, .iaload, 1), (68, .ireturn, 1), (69, .aload_n 0, 1), (70, .getfield 12, 3), (73, .getfield 369, 3), (76, .iconst 2, 1), (77, .iaload, 1), (78, .ireturn, 1), (79, .bipush (-2), 2), (81, .ireturn, 1)]
def bI_130 : List (Nat × Instr × Nat) := [(0, .iload_n 1, 1), (1, .ifCond .ge 5, 3), (4, .iload_n 1, 1), (5, .ireturn, 1), (6, .aload_n 0, 1), (7, .getfield 61, 3), (10, .bipush 8, 2), (12, .if_icmp .ne 26, 3), (15, .aload_n 0, 1), (16, .aload_n 0, 1), (17, .getfield 58, 3), (20, .iconst 1, 1), (21, .iadd, 1), (22, .bipush 8, 2), (24, .irem, 1), (25, .putfield 58, 3), (28, .aload_n 0, 1), (29, .dup, 1), (30, .getfield 61, 3), (33, .iconst 1, 1), (34, .isub, 1), (35, .putfield 61, 3), (38, .aload_n 0, 1), (39, .getfield 25, 3), (42, .aload_n 0, 1), (43, .getfield 58, 3), (46, .aload_n 0, 1), (47, .getfield 61, 3), (50, .iadd, 1), (51, .bipush 8, 2), (53, .irem, 1), (54, .aaload, 1), (55, .aload_n 0, 1), (56, .getfield 16, 3), (59, .invokevirtual 74, 3), (62, .aload_n 0, 1), (63, .dup, 1), (64, .getfield 61, 3), (67, .iconst 1, 1), (68, .iadd, 1), (69, .putfield 61, 3), (72, .iload_n 1, 1), (73, .ireturn, 1)]
def bI_131 : List (Nat × Instr × Nat) := [(0, .aload_n 0, 1), (1, .getfield 54, 3), (4, .ifCond .le 9, 3), (7, .aload_n 0, 1), (8, .bipush 43, 2), (10, .invokevirtual 372, 3), (13, .aload_n 0, 1), (14, .bipush 48, 2), (16, .iload_n 1, 1), (17, .iadd, 1), (18, .i2c, 1), (19, .invokevirtual 372, 3), (22, .aload_n 0, 1), (23, .bipush 120, 2), (25, .invokevirtual 372, 3), (28, .aload_n 0, 1), (29, .bipush 48, 2), (31, .iload_n 2, 1), (32, .iadd, 1), (33, .i2c, 1), (34, .invokevirtual 372, 3), (37, .return_, 1)]
def bI_132 : List (Nat × Instr × Nat) := [(0, .aload_n 0, 1), (1, .getfield 54, 3), (4, .bipush 31, 2), (6, .if_icmp .ge 23, 3), (9, .aload_n 0, 1), (10, .getfield 50, 3), (13, .aload_n 0, 1), (14, .getfield 54, 3), (17, .iload_n 1, 1), (18, .castore, 1), (19, .aload_n 0, 1), (20, .dup, 1), (21, .getfield 54, 3), (24, .iconst 1, 1), (25, .iadd, 1), (26, .putfield 54, 3), (29, .return_, 1)]
def bI_133 : List (Nat × Instr × Nat) := [(0, .iload_n 0, 1), (1, .iload_n 1, 1), (2, .if_icmp .lt 12, 3), (5, .iload_n 0, 1), (6, .iload_n 2, 1), (7, .if_icmp .gt 7, 3), (10, .iconst 1, 1), (11, .goto 4, 3), (14, .iconst 0, 1), (15, .ireturn, 1)]
def bI_134 : List (Nat × Instr × Nat) := [(0, .iload_n 1, 1), (1, .ifCond .ne 9, 3), (4, .iload_n 0, 1), (5, .iconst 1, 1), (6, .isub, 1), (7, .goto 6, 3), (10, .iload_n 0, 1), (11, .iconst 1, 1), (12, .iadd, 1), (13, .ireturn, 1)]
def bI_135 : List (Nat × Instr × Nat) := [(0, .iconst 0, 1), (1, .istore_n 1, 1), (2, .aload_n 0, 1), (3, .astore_n 2, 1), (4, .aload_n 2, 1), (5, .arraylength, 1), (6, .istore_n 3, 1), (7, .iconst 0, 1), (8, .istore 4, 2), (10, .iload 4, 2), (12, .iload_n 3, 1), (13, .if_icmp .ge 20, 3), (16, .aload_n 2, 1), (17, .iload 4, 2), (19, .iaload, 1), (20, .istore 5, 2), (22, .iload_n 1, 1), (23, .iload 5, 2), (25, .iadd, 1), (26, .istore_n 1, 1), (27, .iinc 4 1, 3), (30, .goto (-20), 3), (33, .iload_n 1, 1), (34, .ireturn, 1)]
def bI_136 : List (Nat × Instr × Nat) := [(0, .aload_n 0, 1), (1, .invokespecial 1, 3), (4, .aload_n 0, 1), (5, .sipush 282, 3), (8, .newarray .int, 2), (10, .putfield 9, 3), (13, .aload_n 0, 1), (14, .sipush 2256, 3), (17, .newarray .int, 2), (19, .putfield 13, 3), (22, .aload_n 0, 1), (23, .sipush 282, 3), (26, .newarray .int, 2), (28, .putfield 16, 3), (31, .aload_n 0, 1), (32, .sipush 282, 3), (35, .newarray .int, 2), (37, .putfield 19, 3), (40, .aload_n 0, 1), (41, .bipush 80, 2), (43, .newarray .char, 2), (45, .putfield 22, 3), (48, .aload_n 0, 1), (49, .bipush (-5), 2), (51, .putfield 26, 3), (54, .aload_n 0, 1), (55, .bipush (-5), 2), (57, .putfield 30, 3), (60, .aload_n 0, 1), (61, .bipush 8, 2), (63, .newarray .int, 2), (65, .putfield 33, 3), (68, .aload_n 0, 1), (69, .bipush 8, 2), (71, .newarray .int, 2), (73, .putfield 36, 3), (76, .aload_n 0, 1), (77, .bipush 8, 2), (79, .newarray .int, 2), (81, .putfield 39, 3), (84, .aload_n 0, 1), (85, .bipush 10, 2), (87, .newarray .int, 2), (89, .putfield 42, 3), (92, .aload_n 0, 1), (93, .bipush 40, 2), (95, .newarray .char, 2), (97, .putfield 45, 3), (100, .aload_n 0, 1), (101, .bipush 16, 2), (103, .newarray .int, 2), (105, .putfield 48, 3), (108, .aload_n 0, 1), (109, .bipush 16, 2), (111, .newarray .boolean, 2), (113, .putfield 51, 3), (116, .aload_n 0, 1), (117, .bipush 16, 2), (119, .newarray .int, 2), (121, .putfield 55, 3), (124, .aload_n 0, 1), (125, .sipush 272, 3), (128, .newarray .int, 2), (130, .putfield 58, 3), (133, .aload_n 0, 1), (134, .sipush 192, 3), (137, .newarray .int, 2), (139, .putfield 61, 3), (142, .aload_n 0, 1), (143, .bipush 34, 2), (145, .newarray .char, 2), (147, .dup, 1), (148, .iconst 0, 1), (149, .bipush 111, 2), (151, .castore, 1), (152, .dup, 1), (153, .iconst 1, 1), (154, .bipush 114, 2), (156, .castore, 1), (157, .dup, 1), (158, .iconst 2, 1), (159, .bipush 100, 2), (161, .castore, 1), (162, .dup, 1), (163, .iconst 3, 1), (164, .bipush 101, 2), (166, .castore, 1), (167, .dup, 1), (168, .iconst 4, 1), (169, .bipush 114, 2), (171, .castore, 1), (172, .dup, 1), (173, .iconst 5, 1), (174, .bipush 32, 2), (176, .castore, 1), (177, .dup, 1), (178, .bipush 6, 2), (180, .bipush 114, 2), (182, .castore, 1), (183, .dup, 1), (184, .bipush 7, 2), (186, .bipush 111, 2), (188, .castore, 1), (189, .dup, 1), (190, .bipush 8, 2), (192, .bipush 108, 2), (194, .castore, 1), (195, .dup, 1), (196, .bipush 9, 2), (198, .bipush 108, 2), (200, .castore, 1), (201, .dup, 1), (202, .bipush 10, 2), (204, .bipush 32, 2), (206, .castore, 1), (207, .dup, 1), (208, .bipush 11, 2), (210, .bipush 99, 2), (212, .castore, 1), (213, .dup, 1), (214, .bipush 12, 2), (216, .bipush 117, 2), (218, .castore, 1), (219, .dup, 1), (220, .bipush 13, 2), (222, .bipush 116, 2), (224, .castore, 1), (225, .dup, 1), (226, .bipush 14, 2), (228, .bipush 32, 2), (230, .castore, 1), (231, .dup, 1), (232, .bipush 15, 2), (234, .bipush 97, 2), (236, .castore, 1), (237, .dup, 1), (238, .bipush 16, 2), (240, .bipush 108, 2), (242, .castore, 1), (243, .dup, 1), (244, .bipush 17, 2), (246, .bipush 108, 2), (248, .castore, 1), (249, .dup, 1), (250, .bipush 18, 2), (252, .bipush 32, 2), (254, .castore, 1), (255, .dup, 1), (256, .bipush 19, 2), (258, .bipush 97, 2), (260, .castore, 1), (261, .dup, 1), (262, .bipush 20, 2), (264, .bipush 114, 2), (266, .castore, 1), (267, .dup, 1), (268, .bipush 21, 2), (270, .bipush 114, 2), (272, .castore, 1), (273, .dup, 1), (274, .bipush 22, 2), (276, .bipush 97, 2), (278, .castore, 1), (279, .dup, 1), (280, .bipush 23, 2), (282, .bipush 110, 2), (284, .castore, 1), (285, .dup, 1), (286, .bipush 24, 2), (288, .bipush 103, 2), (290, .castore, 1), (291, .dup, 1), (292, .bipush 25, 2), (294, .bipush 101, 2), (296, .castore, 1), (297, .dup, 1), (298, .bipush 26, 2), (300, .bipush 32, 2), (302, .castore, 1), (303, .dup, 1), (304, .bipush 27, 2), (306, .bipush 98, 2), (308, .castore, 1), (309, .dup, 1), (310, .bipush 28, 2), (312, .bipush 101, 2), (314, .castore, 1), (315, .dup, 1), (316, .bipush 29, 2), (318, .bipush 116, 2), (320, .castore, 1), (321, .dup, 1), (322, .bipush 30, 2), (324, .bipush 116, 2), (326, .castore, 1), (327, .dup, 1), (328, .bipush 31, 2), (330, .bipush 101, 2), (332, .castore, 1), (333, .dup, 1), (334, .bipush 32, 2), (336, .bipush 114, 2), (338, .castore, 1), (339, .dup, 1), (340, .bipush 33, 2), (342, .bipush 32, 2), (344, .castore, 1), (345, .putfield 64, 3), (348, .aload_n 0, 1), (349, .iconst 5, 1), (350, .newarray .int, 2), (352, .putfield 67, 3), (355, .aload_n 0, 1), (356, .getfield 9, 3), (359, .iconst 0, 1), (360, .bipush 6, 2), (362, .iastore, 1), (363, .aload_n 0, 1), (364, .getfield 9, 3), (367, .iconst 1, 1), (368, .iconst 3, 1), (369, .iastore, 1), (370, .aload_n 0, 1), (371, .getfield 9, 3), (374, .iconst 2, 1), (375, .bipush 20, 2), (377, .iastore, 1), (378, .return_, 1)]
def bI_137 : List (Nat × Instr × Nat) := [(0, .iload_n 0, 1), (1, .iload_n 1, 1), (2, .if_icmp .lt 12, 3), (5, .iload_n 0, 1), (6, .iload_n 2, 1), (7, .if_icmp .gt 7, 3), (10, .iconst 1, 1), (11, .goto 4, 3), (14, .iconst 0, 1), (15, .ireturn, 1)]
def bI_138 : List (Nat × Instr × Nat) := [(0, .iconst 0, 1), (1, .istore_n 1, 1), (2, .iload_n 1, 1), (3, .sipush 282, 3), (6, .if_icmp .ge 21, 3), (9, .aload_n 0, 1), (10, .getfield 19, 3), (13, .iload_n 1, 1), (14, .aload_n 0, 1), (15, .getfield 9, 3), (18, .iload_n 1, 1), (19, .iaload, 1), (20, .iastore, 1), (21, .iinc 1 1, 3), (24, .goto (-22), 3), (27, .return_, 1)]
def bI_139 : List (Nat × Instr × Nat) := [(0, .iconst 0, 1), (1, .istore_n 1, 1), (2, .iload_n 1, 1), (3, .sipush 282, 3), (6, .if_icmp .ge 21, 3), (9, .aload_n 0, 1), (10, .getfield 9, 3), (13, .iload_n 1, 1), (14, .aload_n 0, 1), (15, .getfield 19, 3), (18, .iload_n 1, 1), (19, .iaload, 1), (20, .iastore, 1), (21, .iinc 1 1, 3), (24, .goto (-22), 3), (27, .return_, 1)]
def bI_140 : List (Nat × Instr × Nat) := [(0, .aload_n 0, 1), (1, .getfield 70, 3), (4, .bipush 8, 2), (6, .if_icmp .ne 49, 3), (9, .aload_n 0, 1), (10, .dup, 1), (11, .getfield 70, 3), (14, .iconst 1, 1), (15, .isub, 1), (16, .putfield 70, 3), (19, .iconst 0, 1), (20, .istore_n 1, 1), (21, .iload_n 1, 1), (22, .sipush 282, 3), (25, .aload_n 0, 1), (26, .getfield 70, 3), (29, .imul, 1), (30, .if_icmp .ge 25, 3), (33, .aload_n 0, 1), (34, .getfield 13, 3), (37, .iload_n 1, 1), (38, .aload_n 0, 1), (39, .getfield 13, 3), (42, .iload_n 1, 1), (43, .sipush 282, 3), (46, .iadd, 1), (47, .iaload, 1), (48, .iastore, 1), (49, .iinc 1 1, 3), (52, .goto (-31), 3), (55, .iconst 0, 1), (56, .istore_n 1, 1), (57, .iload_n 1, 1), (58, .sipush 282, 3), (61, .if_icmp .ge 30, 3), (64, .aload_n 0, 1), (65, .getfield 13, 3), (68, .sipush 282, 3), (71, .aload_n 0, 1), (72, .getfield 70, 3), (75, .imul, 1), (76, .iload_n 1, 1), (77, .iadd, 1), (78, .aload_n 0, 1), (79, .getfield 19, 3), (82, .iload_n 1, 1), (83, .iaload, 1), (84, .iastore, 1), (85, .iinc 1 1, 3), (88, .goto (-31), 3), (91, .aload_n 0, 1), (92, .dup, 1), (93, .getfield 70, 3), (96, .iconst 1, 1), (97, .iadd, 1), (98, .putfield 70, 3), (101, .return_, 1)]
def bI_141 : List (Nat × Instr × Nat) := [(0, .aload_n 0, 1), (1, .getfield 9, 3), (4, .bipush 6, 2), (6, .bipush 6, 2), (8, .iload_n 1, 1), (9, .imul, 1), (10, .iadd, 1), (11, .iload_n 2, 1), (12, .iadd, 1), (13, .iaload, 1), (14, .ireturn, 1)]
def bI_142 : List (Nat × Instr × Nat) := [(0, .aload_n 0, 1), (1, .getfield 9, 3), (4, .bipush 54, 2), (6, .iconst 3, 1), (7, .iload_n 1, 1), (8, .imul, 1), (9, .iadd, 1), (10, .iload_n 2, 1), (11, .iadd, 1), (12, .iaload, 1), (13, .ireturn, 1)]
def bI_143 : List (Nat × Instr × Nat) := [(0, .aload_n 0, 1), (1, .getfield 9, 3), (4, .bipush 90, 2), (6, .bipush 12, 2), (8, .iload_n 1, 1), (9, .imul, 1), (10, .iadd, 1), (11, .iload_n 2, 1), (12, .iadd, 1), (13, .iaload, 1), (14, .ireturn, 1)]
def bI_144 : List (Nat × Instr × Nat) := [(0, .aload_n 0, 1), (1, .iload_n 1, 1), (2, .iconst 4, 1), (3, .iload_n 2, 1), (4, .iadd, 1), (5, .invokevirtual 73, 3), (8, .ireturn, 1)]
def bI_145 : List (Nat × Instr × Nat) := [(0, .iload_n 1, 1), (1, .iconst 0, 1), (2, .aload_n 0, 1), (3, .getfield 9, 3), (6, .iconst 3, 1), (7, .iaload, 1), (8, .iconst 1, 1), (9, .isub, 1), (10, .invokestatic 77, 3), (13, .ireturn, 1)]
def bI_146 : List (Nat × Instr × Nat) := [(0, .iload_n 1, 1), (1, .iconst 0, 1), (2, .aload_n 0, 1), (3, .getfield 9, 3), (6, .iconst 4, 1), (7, .iaload, 1), (8, .iconst 1, 1), (9, .isub, 1), (10, .invokestatic 77, 3), (13, .ireturn, 1)]
def bI_147 : List (Nat × Instr × Nat) := [(0, .iload_n 1, 1), (1, .iconst 0, 1), (2, .aload_n 0, 1), (3, .getfield 9, 3), (6, .iconst 5, 1), (7, .iaload, 1), (8, .iconst 1, 1), (9, .isub, 1), (10, .invokestatic 77, 3), (13, .ireturn, 1)]
def bI_148 : List (Nat × Instr × Nat) := [(0, .iconst 0, 1), (1, .istore_n 2, 1), (2, .iconst 0, 1), (3, .istore_n 3, 1), (4, .iload_n 3, 1), (5, .aload_n 0, 1), (6, .getfield 9, 3), (9, .iconst 5, 1), (10, .iaload, 1), (11, .if_icmp .ge 25, 3), (14, .iload_n 2, 1), (15, .aload_n 0, 1), (16, .iload_n 3, 1), (17, .iload_n 1, 1), (18, .invokevirtual 81, 3), (21, .aload_n 0, 1), (22, .iload_n 3, 1), (23, .iconst 1, 1), (24, .invokevirtual 73, 3), (27, .imul, 1), (28, .iadd, 1), (29, .istore_n 2, 1), (30, .iinc 3 1, 3), (33, .goto (-29), 3), (36, .iload_n 2, 1), (37, .ireturn, 1)]
def bI_149 : List (Nat × Instr × Nat) := [(0, .aload_n 0, 1), (1, .iload_n 1, 1), (2, .iconst 2, 1), (3, .invokevirtual 84, 3), (6, .aload_n 0, 1), (7, .iload_n 1, 1), (8, .iconst 3, 1), (9, .invokevirtual 84, 3), (12, .imul, 1), (13, .bipush 100, 2), (15, .idiv, 1), (16, .ireturn, 1)]
def bI_150 : List (Nat × Instr × Nat) := [(0, .aload_n 0, 1), (1, .iload_n 1, 1), (2, .iconst 2, 1), (3, .invokevirtual 84, 3), (6, .aload_n 0, 1), (7, .iload_n 1, 1), (8, .invokevirtual 87, 3), (11, .isub, 1), (12, .ireturn, 1)]
def bI_151 : List (Nat × Instr × Nat) := [(0, .aload_n 0, 1), (1, .iload_n 1, 1), (2, .iconst 2, 1), (3, .invokevirtual 84, 3), (6, .aload_n 0, 1), (7, .iload_n 1, 1), (8, .invokevirtual 87, 3), (11, .iadd, 1), (12, .aload_n 0, 1), (13, .iload_n 1, 1), (14, .invokevirtual 91, 3), (17, .isub, 1), (18, .ireturn, 1)]
def bI_152 : List (Nat × Instr × Nat) := [(0, .aload_n 0, 1), (1, .iload_n 1, 1), (2, .invokevirtual 91, 3), (5, .aload_n 0, 1), (6, .iload_n 1, 1), (7, .invokevirtual 94, 3), (10, .if_icmp .lt 7, 3), (13, .iconst 1, 1), (14, .goto 4, 3), (17, .iconst 0, 1), (18, .ireturn, 1)]
def bI_153 : List (Nat × Instr × Nat) := [(0, .aload_n 0, 1), (1, .iload_n 1, 1), (2, .invokevirtual 91, 3), (5, .aload_n 0, 1), (6, .iload_n 1, 1), (7, .iconst 2, 1), (8, .invokevirtual 84, 3), (11, .if_icmp .ge 7, 3), (14, .iconst 1, 1), (15, .goto 4, 3), (18, .iconst 0, 1), (19, .ireturn, 1)]
def bI_154 : List (Nat × Instr × Nat) := [(0, .aload_n 0, 1), (1, .iload_n 1, 1), (2, .iconst 2, 1), (3, .invokevirtual 97, 3), (6, .istore_n 2, 1), (7, .iconst 0, 1), (8, .istore_n 3, 1), (9, .iload_n 3, 1), (10, .aload_n 0, 1), (11, .getfield 9, 3), (14, .iconst 5, 1), (15, .iaload, 1), (16, .if_icmp .ge 32, 3), (19, .iload_n 2, 1), (20, .aload_n 0, 1), (21, .iload_n 3, 1), (22, .iconst 0, 1), (23, .invokevirtual 73, 3), (26, .iload_n 1, 1), (27, .if_icmp .ne 12, 3), (30, .aload_n 0, 1), (31, .iload_n 3, 1), (32, .iconst 1, 1), (33, .invokevirtual 73, 3), (36, .goto 4, 3), (39, .iconst 0, 1), (40, .isub, 1), (41, .istore_n 2, 1), (42, .iinc 3 1, 3), (45, .goto (-36), 3), (48, .iload_n 2, 1), (49, .ireturn, 1)]
def bI_155 : List (Nat × Instr × Nat) := [(0, .aload_n 0, 1), (1, .iload_n 1, 1), (2, .iconst 0, 1), (3, .invokevirtual 97, 3), (6, .aload_n 0, 1), (7, .iload_n 2, 1), (8, .iconst 0, 1), (9, .invokevirtual 84, 3), (12, .if_icmp .eq 28, 3), (15, .aload_n 0, 1), (16, .iload_n 1, 1), (17, .iconst 0, 1), (18, .invokevirtual 97, 3), (21, .aload_n 0, 1), (22, .iload_n 2, 1), (23, .iconst 0, 1), (24, .invokevirtual 84, 3), (27, .if_icmp .ge 17, 3), (30, .aload_n 0, 1), (31, .iload_n 2, 1), (32, .iconst 5, 1), (33, .invokevirtual 84, 3), (36, .iconst 1, 1), (37, .if_icmp .ne 7, 3), (40, .iconst 1, 1), (41, .goto 4, 3), (44, .iconst 0, 1), (45, .ireturn, 1)]
def bI_156 : List (Nat × Instr × Nat) := [(0, .iconst 0, 1), (1, .istore_n 2, 1), (2, .iload_n 2, 1), (3, .aload_n 0, 1), (4, .getfield 9, 3), (7, .iconst 5, 1), (8, .iaload, 1), (9, .if_icmp .ge 21, 3), (12, .aload_n 0, 1), (13, .iload_n 2, 1), (14, .iconst 3, 1), (15, .invokevirtual 73, 3), (18, .iload_n 1, 1), (19, .if_icmp .ne 5, 3), (22, .iload_n 2, 1), (23, .ireturn, 1), (24, .iinc 2 1, 3), (27, .goto (-25), 3), (30, .bipush (-5), 2), (32, .ireturn, 1)]
def bI_157 : List (Nat × Instr × Nat) := [(0, .iload_n 1, 1), (1, .ifCond .ne 7, 3), (4, .iconst 2, 1), (5, .goto 14, 3), (8, .iload_n 1, 1), (9, .iconst 1, 1), (10, .if_icmp .ne 7, 3), (13, .iconst 0, 1), (14, .goto 5, 3), (17, .bipush 10, 2), (19, .istore_n 3, 1), (20, .iload_n 1, 1), (21, .ifCond .ne 8, 3), (24, .bipush 7, 2), (26, .goto 15, 3), (29, .iload_n 1, 1), (30, .iconst 1, 1), (31, .if_icmp .ne 8, 3), (34, .bipush 20, 2), (36, .goto 5, 3), (39, .bipush 99, 2), (41, .istore 4, 2), (43, .iload_n 1, 1), (44, .iconst 0, 1), (45, .iconst 2, 1), (46, .invokestatic 77, 3), (49, .ifCond .eq 13, 3), (52, .iload_n 2, 1), (53, .iload_n 3, 1), (54, .iload 4, 2), (56, .invokestatic 77, 3), (59, .ifCond .ne 6, 3), (62, .bipush (-2), 2), (64, .ireturn, 1), (65, .aload_n 0, 1), (66, .invokevirtual 100, 3), (69, .aload_n 0, 1), (70, .invokevirtual 103, 3), (73, .aload_n 0, 1), (74, .getfield 9, 3), (77, .iload_n 1, 1), (78, .iaload, 1), (79, .istore 5, 2), (81, .aload_n 0, 1), (82, .getfield 9, 3), (85, .iload_n 1, 1), (86, .iload_n 2, 1), (87, .iastore, 1), (88, .iload 5, 2), (90, .ireturn, 1)]
def bI_158 : List (Nat × Instr × Nat) := [(0, .iload_n 1, 1), (1, .iconst 0, 1), (2, .iconst 3, 1), (3, .invokestatic 77, 3), (6, .ifCond .eq 58, 3), (9, .iload_n 2, 1), (10, .bipush 10, 2), (12, .sipush 150, 3), (15, .invokestatic 77, 3), (18, .ifCond .eq 46, 3), (21, .iload_n 3, 1), (22, .iconst 1, 1), (23, .sipush 999, 3), (26, .invokestatic 77, 3), (29, .ifCond .eq 35, 3), (32, .iload 4, 2), (34, .iconst 0, 1), (35, .bipush 50, 2), (37, .invokestatic 77, 3), (40, .ifCond .eq 24, 3), (43, .iload 5, 2), (45, .iconst 0, 1), (46, .bipush 99, 2), (48, .invokestatic 77, 3), (51, .ifCond .eq 13, 3), (54, .iload 6, 2), (56, .iconst 0, 1), (57, .iconst 1, 1), (58, .invokestatic 77, 3), (61, .ifCond .ne 6, 3), (64, .bipush (-2), 2), (66, .ireturn, 1), (67, .aload_n 0, 1), (68, .getfield 9, 3), (71, .iconst 3, 1), (72, .iaload, 1), (73, .bipush 8, 2), (75, .if_icmp .ne 6, 3), (78, .bipush (-3), 2), (80, .ireturn, 1), (81, .bipush 6, 2), (83, .bipush 6, 2), (85, .aload_n 0, 1), (86, .getfield 9, 3), (89, .iconst 3, 1), (90, .iaload, 1), (91, .imul, 1), (92, .iadd, 1), (93, .istore 7, 2), (95, .aload_n 0, 1), (96, .getfield 9, 3), (99, .iload 7, 2), (101, .iload_n 1, 1), (102, .iastore, 1), (103, .aload_n 0, 1), (104, .getfield 9, 3), (107, .iload 7, 2), (109, .iconst 1, 1), (110, .iadd, 1), (111, .iload_n 2, 1), (112, .iastore, 1), (113, .aload_n 0, 1), (114, .getfield 9, 3), (117, .iload 7, 2), (119, .iconst 2, 1), (120, .iadd, 1), (121, .iload_n 3, 1), (122, .iastore, 1), (123, .aload_n 0, 1), (124, .getfield 9, 3), (127, .iload 7, 2), (129, .iconst 3, 1), (130, .iadd, 1), (131, .iload 4, 2), (133, .iastore, 1), (134, .aload_n 0, 1), (135, .getfield 9, 3), (138, .iload 7, 2), (140, .iconst 4, 1), (141, .iadd, 1), (142, .iload 5, 2), (144, .iastore, 1), (145, .aload_n 0, 1), (146, .getfield 9, 3), (149, .iload 7, 2), (151, .iconst 5, 1), (152, .iadd, 1), (153, .iload 6, 2), (155, .iastore, 1), (156, .aload_n 0, 1), (157, .getfield 9, 3), (160, .iconst 3, 1), (161, .dup2, 1), (162, .iaload, 1), (163, .iconst 1, 1), (164, .iadd, 1), (165, .iastore, 1), (166, .aload_n 0, 1), (167, .getfield 9, 3), (170, .iconst 3, 1), (171, .iaload, 1), (172, .iconst 1, 1), (173, .isub, 1), (174, .ireturn, 1)]
def bI_159 : List (Nat × Instr × Nat) := [(0, .bipush 54, 2), (2, .iconst 3, 1), (3, .aload_n 0, 1), (4, .getfield 9, 3), (7, .iconst 4, 1), (8, .iaload, 1), (9, .imul, 1), (10, .iadd, 1), (11, .istore 4, 2), (13, .aload_n 0, 1), (14, .getfield 9, 3), (17, .iload 4, 2), (19, .iload_n 1, 1), (20, .iastore, 1), (21, .aload_n 0, 1), (22, .getfield 9, 3), (25, .iload 4, 2), (27, .iconst 1, 1), (28, .iadd, 1), (29, .iload_n 2, 1), (30, .iastore, 1), (31, .aload_n 0, 1), (32, .getfield 9, 3), (35, .iload 4, 2), (37, .iconst 2, 1), (38, .iadd, 1), (39, .iload_n 3, 1), (40, .iastore, 1), (41, .aload_n 0, 1), (42, .getfield 9, 3), (45, .iconst 4, 1), (46, .dup2, 1), (47, .iaload, 1), (48, .iconst 1, 1), (49, .iadd, 1), (50, .iastore, 1), (51, .aload_n 0, 1), (52, .getfield 9, 3), (55, .iconst 4, 1), (56, .iaload, 1), (57, .iconst 1, 1), (58, .isub, 1), (59, .ireturn, 1)]
def bI_160 : List (Nat × Instr × Nat) := [(0, .iload_n 1, 1), (1, .iconst 0, 1), (2, .iconst 3, 1), (3, .invokestatic 77, 3), (6, .ifCond .eq 26, 3), (9, .iload_n 2, 1), (10, .bipush 50, 2), (12, .sipush 300, 3), (15, .invokestatic 77, 3), (18, .ifCond .eq 14, 3), (21, .iload_n 3, 1), (22, .iconst 1, 1), (23, .sipush 999, 3), (26, .invokestatic 77, 3), (29, .ifCond .ne 6, 3), (32, .bipush (-2), 2), (34, .ireturn, 1), (35, .aload_n 0, 1), (36, .getfield 9, 3), (39, .iconst 4, 1), (40, .iaload, 1), (41, .bipush 12, 2), (43, .if_icmp .ne 8, 3), (46, .bipush (-3), 2), (48, .goto 10, 3), (51, .aload_n 0, 1), (52, .iload_n 1, 1), (53, .iload_n 2, 1), (54, .iload_n 3, 1), (55, .invokevirtual 106, 3), (58, .ireturn, 1)]
def bI_161 : List (Nat × Instr × Nat) := [(0, .iload_n 1, 1), (1, .ifCond .lt 7, 3), (4, .aload_n 0, 1), (5, .invokevirtual 103, 3), (8, .iload_n 1, 1), (9, .ireturn, 1)]
def bI_162 : List (Nat × Instr × Nat) := [(0, .aload_n 0, 1), (1, .invokevirtual 100, 3), (4, .aload_n 0, 1), (5, .aload_n 0, 1), (6, .iload_n 1, 1), (7, .iload_n 2, 1), (8, .iload_n 3, 1), (9, .iload 4, 2), (11, .iload 5, 2), (13, .iload 6, 2), (15, .invokevirtual 110, 3), (18, .invokevirtual 114, 3), (21, .ireturn, 1)]
def bI_163 : List (Nat × Instr × Nat) := [(0, .aload_n 0, 1), (1, .invokevirtual 100, 3), (4, .aload_n 0, 1), (5, .aload_n 0, 1), (6, .iload_n 1, 1), (7, .iload_n 2, 1), (8, .iload_n 3, 1), (9, .invokevirtual 117, 3), (12, .invokevirtual 114, 3), (15, .ireturn, 1)]
def bI_164 : List (Nat × Instr × Nat) := [(0, .iconst 0, 1), (1, .istore_n 2, 1), (2, .iconst 0, 1), (3, .istore_n 3, 1), (4, .iload_n 3, 1), (5, .aload_n 0, 1), (6, .getfield 9, 3), (9, .iconst 5, 1), (10, .iaload, 1), (11, .if_icmp .ge 26, 3), (14, .iload_n 2, 1), (15, .aload_n 0, 1), (16, .iload_n 3, 1), (17, .iload_n 1, 1), (18, .invokevirtual 81, 3), (21, .ifCond .le 7, 3), (24, .iconst 1, 1), (25, .goto 4, 3), (28, .iconst 0, 1), (29, .iadd, 1), (30, .istore_n 2, 1), (31, .iinc 3 1, 3), (34, .goto (-30), 3), (37, .iload_n 2, 1), (38, .ireturn, 1)]
def bI_165 : List (Nat × Instr × Nat) := [(0, .aload_n 0, 1), (1, .iload_n 1, 1), (2, .invokevirtual 120, 3), (5, .ifCond .ne 5, 3), (8, .iconst (-1), 1), (9, .ireturn, 1), (10, .iload_n 2, 1), (11, .iconst 0, 1), (12, .iconst 5, 1), (13, .invokestatic 77, 3), (16, .ifCond .eq 10, 3), (19, .aload_n 0, 1), (20, .iload_n 1, 1), (21, .iload_n 2, 1), (22, .invokevirtual 84, 3), (25, .ireturn, 1), (26, .iload_n 2, 1), (27, .tableswitch 88 6 11 #[37, 43, 56, 62, 68, 82], 37), (64, .aload_n 0, 1), (65, .iload_n 1, 1), (66, .invokevirtual 94, 3), (69, .ireturn, 1), (70, .aload_n 0, 1), (71, .iload_n 1, 1), (72, .iconst 2, 1), (73, .invokevirtual 84, 3), (76, .aload_n 0, 1), (77, .iload_n 1, 1), (78, .invokevirtual 87, 3), (81, .iadd, 1), (82, .ireturn, 1), (83, .aload_n 0, 1), (84, .iload_n 1, 1), (85, .invokevirtual 91, 3), (88, .ireturn, 1), (89, .aload_n 0, 1), (90, .iload_n 1, 1), (91, .invokevirtual 124, 3), (94, .ireturn, 1), (95, .aload_n 0, 1), (96, .iload_n 1, 1), (97, .invokevirtual 127, 3), (100, .ifCond .eq 7, 3), (103, .iconst 1, 1), (104, .goto 4, 3), (107, .iconst 0, 1), (108, .ireturn, 1), (109, .aload_n 0, 1), (110, .iload_n 1, 1), (111, .invokevirtual 130, 3), (114, .ireturn, 1), (115, .bipush (-2), 2), (117, .ireturn, 1)]
def bI_166 : List (Nat × Instr × Nat) := [(0, .iconst 0, 1), (1, .istore_n 2, 1), (2, .iconst 0, 1), (3, .istore_n 3, 1), (4, .iload_n 3, 1), (5, .aload_n 0, 1), (6, .getfield 9, 3), (9, .iconst 5, 1), (10, .iaload, 1), (11, .if_icmp .ge 27, 3), (14, .iload_n 2, 1), (15, .aload_n 0, 1), (16, .iload_n 3, 1), (17, .iconst 0, 1), (18, .invokevirtual 73, 3), (21, .iload_n 1, 1), (22, .if_icmp .ne 7, 3), (25, .iconst 1, 1), (26, .goto 4, 3), (29, .iconst 0, 1), (30, .iadd, 1), (31, .istore_n 2, 1), (32, .iinc 3 1, 3), (35, .goto (-31), 3), (38, .iload_n 2, 1), (39, .ireturn, 1)]
def bI_167 : List (Nat × Instr × Nat) := [(0, .aload_n 0, 1), (1, .iload_n 1, 1), (2, .invokevirtual 133, 3), (5, .ifCond .ne 5, 3), (8, .iconst (-1), 1), (9, .ireturn, 1), (10, .iload_n 2, 1), (11, .iconst 0, 1), (12, .iconst 2, 1), (13, .invokestatic 77, 3), (16, .ifCond .eq 10, 3), (19, .aload_n 0, 1), (20, .iload_n 1, 1), (21, .iload_n 2, 1), (22, .invokevirtual 97, 3), (25, .ireturn, 1), (26, .iload_n 2, 1), (27, .iconst 3, 1), (28, .if_icmp .ne 11, 3), (31, .aload_n 0, 1), (32, .iload_n 1, 1), (33, .invokevirtual 136, 3), (36, .goto 31, 3), (39, .iload_n 2, 1), (40, .iconst 4, 1), (41, .if_icmp .ne 11, 3), (44, .aload_n 0, 1), (45, .iload_n 1, 1), (46, .invokevirtual 139, 3), (49, .goto 18, 3), (52, .iload_n 2, 1), (53, .iconst 5, 1), (54, .if_icmp .ne 11, 3), (57, .aload_n 0, 1), (58, .iload_n 1, 1), (59, .invokevirtual 142, 3), (62, .goto 5, 3), (65, .bipush (-2), 2), (67, .ireturn, 1)]
def bI_168 : List (Nat × Instr × Nat) := [(0, .aload_n 0, 1), (1, .iload_n 1, 1), (2, .iconst 4, 1), (3, .invokevirtual 84, 3), (6, .aload_n 0, 1), (7, .iload_n 2, 1), (8, .iconst 4, 1), (9, .invokevirtual 84, 3), (12, .if_icmp .eq 24, 3), (15, .aload_n 0, 1), (16, .iload_n 1, 1), (17, .iconst 4, 1), (18, .invokevirtual 84, 3), (21, .aload_n 0, 1), (22, .iload_n 2, 1), (23, .iconst 4, 1), (24, .invokevirtual 84, 3), (27, .if_icmp .ge 7, 3), (30, .iconst 1, 1), (31, .goto 4, 3), (34, .iconst 0, 1), (35, .ireturn, 1), (36, .aload_n 0, 1), (37, .iload_n 1, 1), (38, .iconst 1, 1), (39, .invokevirtual 84, 3), (42, .aload_n 0, 1), (43, .iload_n 2, 1), (44, .iconst 1, 1), (45, .invokevirtual 84, 3), (48, .if_icmp .eq 26, 3), (51, .aload_n 0, 1), (52, .iload_n 1, 1), (53, .iconst 1, 1), (54, .invokevirtual 84, 3), (57, .aload_n 0, 1), (58, .iload_n 2, 1), (59, .iconst 1, 1), (60, .invokevirtual 84, 3), (63, .if_icmp .le 7, 3), (66, .iconst 1, 1), (67, .goto 17, 3), (70, .iconst 0, 1), (71, .goto 13, 3), (74, .iload_n 1, 1), (75, .iload_n 2, 1), (76, .if_icmp .ge 7, 3), (79, .iconst 1, 1), (80, .goto 4, 3), (83, .iconst 0, 1), (84, .ireturn, 1)]
def bI_169 : List (Nat × Instr × Nat) := [(0, .iconst 0, 1), (1, .istore_n 2, 1), (2, .iload_n 2, 1), (3, .aload_n 0, 1), (4, .getfield 9, 3), (7, .iconst 3, 1), (8, .iaload, 1), (9, .if_icmp .ge 56, 3), (12, .iconst 0, 1), (13, .istore_n 3, 1), (14, .iconst 0, 1), (15, .istore 4, 2), (17, .iload 4, 2), (19, .aload_n 0, 1), (20, .getfield 9, 3), (23, .iconst 3, 1), (24, .iaload, 1), (25, .if_icmp .ge 27, 3), (28, .iload_n 3, 1), (29, .aload_n 0, 1), (30, .iload 4, 2), (32, .iload_n 2, 1), (33, .invokevirtual 145, 3), (36, .ifCond .eq 7, 3), (39, .iconst 1, 1), (40, .goto 4, 3), (43, .iconst 0, 1), (44, .iadd, 1), (45, .istore_n 3, 1), (46, .iinc 4 1, 3), (49, .goto (-32), 3), (52, .iload_n 3, 1), (53, .iload_n 1, 1), (54, .if_icmp .ne 5, 3), (57, .iload_n 2, 1), (58, .ireturn, 1), (59, .iinc 2 1, 3), (62, .goto (-60), 3), (65, .iconst (-1), 1), (66, .ireturn, 1)]
def bI_170 : List (Nat × Instr × Nat) := [(0, .iload_n 1, 1), (1, .ifCond .ne 9, 3), (4, .iload_n 0, 1), (5, .iconst 1, 1), (6, .isub, 1), (7, .goto 6, 3), (10, .iload_n 0, 1), (11, .iconst 1, 1), (12, .iadd, 1), (13, .ireturn, 1)]
def bI_171 : List (Nat × Instr × Nat) := [(0, .iload_n 1, 1), (1, .ifCond .le 33, 3), (4, .iload_n 2, 1), (5, .iconst 2, 1), (6, .aload_n 0, 1), (7, .getfield 9, 3), (10, .iconst 1, 1), (11, .iaload, 1), (12, .imul, 1), (13, .if_icmp .lt 21, 3), (16, .iload_n 1, 1), (17, .iload_n 2, 1), (18, .invokestatic 149, 3), (21, .aload_n 0, 1), (22, .getfield 9, 3), (25, .iconst 0, 1), (26, .iaload, 1), (27, .if_icmp .gt 7, 3), (30, .iconst 1, 1), (31, .goto 4, 3), (34, .iconst 0, 1), (35, .ireturn, 1)]
def bI_172 : List (Nat × Instr × Nat) := [(0, .iconst 0, 1), (1, .istore_n 3, 1), (2, .iconst 1, 1), (3, .istore 4, 2), (5, .iload 4, 2), (7, .aload_n 0, 1), (8, .iload_n 2, 1), (9, .iconst 1, 1), (10, .invokevirtual 84, 3), (13, .imul, 1), (14, .aload_n 0, 1), (15, .iload_n 1, 1), (16, .iconst 1, 1), (17, .invokevirtual 97, 3), (20, .if_icmp .gt 41, 3), (23, .aload_n 0, 1), (24, .iload 4, 2), (26, .aload_n 0, 1), (27, .iload_n 1, 1), (28, .iconst 1, 1), (29, .invokevirtual 97, 3), (32, .iload 4, 2), (34, .aload_n 0, 1), (35, .iload_n 2, 1), (36, .iconst 1, 1), (37, .invokevirtual 84, 3), (40, .imul, 1), (41, .isub, 1), (42, .invokevirtual 152, 3), (45, .ifCond .eq 8, 3), (48, .iload 4, 2), (50, .goto 4, 3), (53, .iload_n 3, 1), (54, .istore_n 3, 1), (55, .iinc 4 1, 3), (58, .goto (-53), 3), (61, .iload_n 3, 1), (62, .ireturn, 1)]
def bI_173 : List (Nat × Instr × Nat) := [(0, .aload_n 0, 1), (1, .iload_n 1, 1), (2, .invokevirtual 120, 3), (5, .ifCond .ne 5, 3), (8, .iconst (-1), 1), (9, .ireturn, 1), (10, .aload_n 0, 1), (11, .iload_n 1, 1), (12, .invokevirtual 127, 3), (15, .ifCond .eq 5, 3), (18, .iconst 0, 1), (19, .ireturn, 1), (20, .iconst 0, 1), (21, .istore_n 2, 1), (22, .iconst 0, 1), (23, .istore_n 3, 1), (24, .iconst 0, 1), (25, .istore 4, 2), (27, .iconst 0, 1), (28, .istore 5, 2), (30, .iload 5, 2), (32, .aload_n 0, 1), (33, .getfield 9, 3), (36, .iconst 4, 1), (37, .iaload, 1), (38, .if_icmp .ge 67, 3), (41, .aload_n 0, 1), (42, .iload 5, 2), (44, .iload_n 1, 1), (45, .invokevirtual 155, 3), (48, .ifCond .eq 51, 3), (51, .aload_n 0, 1), (52, .iload 5, 2), (54, .invokevirtual 136, 3), (57, .ifCond .le 42, 3), (60, .iconst 1, 1), (61, .istore_n 2, 1), (62, .iload_n 3, 1), (63, .aload_n 0, 1), (64, .iload 5, 2), (66, .iload_n 1, 1), (67, .invokevirtual 158, 3), (70, .ifCond .le 7, 3), (73, .iconst 1, 1), (74, .goto 4, 3), (77, .iconst 0, 1), (78, .ior, 1), (79, .istore_n 3, 1), (80, .iload 4, 2), (82, .aload_n 0, 1), (83, .iload 5, 2), (85, .iload_n 1, 1), (86, .invokevirtual 158, 3), (89, .aload_n 0, 1), (90, .iload 5, 2), (92, .invokevirtual 136, 3), (95, .imul, 1), (96, .iadd, 1), (97, .istore 4, 2), (99, .iinc 5 1, 3), (102, .goto (-72), 3), (105, .iload_n 2, 1), (106, .ifCond .ne 7, 3), (109, .iconst 1, 1), (110, .goto 32, 3), (113, .iload_n 3, 1), (114, .ifCond .ne 7, 3), (117, .iconst 2, 1), (118, .goto 24, 3), (121, .iload 4, 2), (123, .aload_n 0, 1), (124, .iload_n 1, 1), (125, .invokevirtual 94, 3), (128, .aload_n 0, 1), (129, .iload_n 1, 1), (130, .invokevirtual 91, 3), (133, .isub, 1), (134, .if_icmp .ge 7, 3), (137, .iconst 3, 1), (138, .goto 4, 3), (141, .iconst 4, 1), (142, .ireturn, 1)]
def bI_174 : List (Nat × Instr × Nat) := [(0, .iload_n 1, 1), (1, .bipush 32, 2), (3, .bipush 126, 2), (5, .invokestatic 77, 3), (8, .ifCond .ne 6, 3), (11, .bipush (-2), 2), (13, .ireturn, 1), (14, .aload_n 0, 1), (15, .getfield 161, 3), (18, .bipush 80, 2), (20, .if_icmp .ne 6, 3), (23, .bipush (-3), 2), (25, .ireturn, 1), (26, .aload_n 0, 1), (27, .getfield 22, 3), (30, .aload_n 0, 1), (31, .getfield 161, 3), (34, .iload_n 1, 1), (35, .i2c, 1), (36, .castore, 1), (37, .aload_n 0, 1), (38, .dup, 1), (39, .getfield 161, 3), (42, .iconst 1, 1), (43, .iadd, 1), (44, .putfield 161, 3), (47, .aload_n 0, 1), (48, .getfield 161, 3), (51, .ireturn, 1)]
def bI_175 : List (Nat × Instr × Nat) := [(0, .iload_n 1, 1), (1, .aload_n 0, 1), (2, .getfield 9, 3), (5, .iconst 3, 1), (6, .iaload, 1), (7, .if_icmp .ne 10, 3), (10, .aload_n 0, 1), (11, .iload_n 2, 1), (12, .iload_n 3, 1), (13, .invokevirtual 164, 3), (16, .return_, 1), (17, .aload_n 0, 1), (18, .getfield 39, 3), (21, .iload_n 1, 1), (22, .iaload, 1), (23, .bipush 8, 2), (25, .iload_n 2, 1), (26, .isub, 1), (27, .iload_n 3, 1), (28, .aload_n 0, 1), (29, .iload_n 1, 1), (30, .iconst 1, 1), (31, .invokevirtual 84, 3), (34, .idiv, 1), (35, .invokestatic 168, 3), (38, .invokestatic 168, 3), (41, .istore 4, 2), (43, .iload 4, 2), (45, .istore 5, 2), (47, .iload 5, 2), (49, .ifCond .lt 39, 3), (52, .aload_n 0, 1), (53, .getfield 33, 3), (56, .iload_n 1, 1), (57, .iload 5, 2), (59, .iastore, 1), (60, .aload_n 0, 1), (61, .iload_n 1, 1), (62, .iconst 1, 1), (63, .iadd, 1), (64, .iload_n 2, 1), (65, .iload 5, 2), (67, .iadd, 1), (68, .iload_n 3, 1), (69, .iload 5, 2), (71, .aload_n 0, 1), (72, .iload_n 1, 1), (73, .iconst 1, 1), (74, .invokevirtual 84, 3), (77, .imul, 1), (78, .isub, 1), (79, .invokevirtual 173, 3), (82, .iinc 5 (-1), 3), (85, .goto (-38), 3), (88, .aload_n 0, 1), (89, .getfield 33, 3), (92, .iload_n 1, 1), (93, .iconst 0, 1), (94, .iastore, 1), (95, .return_, 1)]
def bI_176 : List (Nat × Instr × Nat) := [(0, .aload_n 0, 1), (1, .iload_n 1, 1), (2, .iload_n 2, 1), (3, .invokevirtual 152, 3), (6, .ifCond .ne 4, 3), (9, .return_, 1), (10, .aload_n 0, 1), (11, .dup, 1), (12, .getfield 177, 3), (15, .iconst 1, 1), (16, .iadd, 1), (17, .putfield 177, 3), (20, .aload_n 0, 1), (21, .getfield 180, 3), (24, .ifCond .eq 27, 3), (27, .iload_n 2, 1), (28, .aload_n 0, 1), (29, .getfield 183, 3), (32, .if_icmp .lt 19, 3), (35, .iload_n 2, 1), (36, .aload_n 0, 1), (37, .getfield 183, 3), (40, .if_icmp .ne 47, 3), (43, .iload_n 1, 1), (44, .aload_n 0, 1), (45, .getfield 180, 3), (48, .if_icmp .ge 39, 3), (51, .aload_n 0, 1), (52, .iload_n 2, 1), (53, .putfield 183, 3), (56, .aload_n 0, 1), (57, .iload_n 1, 1), (58, .putfield 180, 3), (61, .iconst 0, 1), (62, .istore_n 3, 1), (63, .iload_n 3, 1), (64, .bipush 8, 2), (66, .if_icmp .ge 21, 3), (69, .aload_n 0, 1), (70, .getfield 36, 3), (73, .iload_n 3, 1), (74, .aload_n 0, 1), (75, .getfield 33, 3), (78, .iload_n 3, 1), (79, .iaload, 1), (80, .iastore, 1), (81, .iinc 3 1, 3), (84, .goto (-21), 3), (87, .return_, 1)]
def bI_177 : List (Nat × Instr × Nat) := [(0, .aload_n 0, 1), (1, .iconst 0, 1), (2, .putfield 177, 3), (5, .aload_n 0, 1), (6, .iconst 0, 1), (7, .putfield 180, 3), (10, .aload_n 0, 1), (11, .iconst 0, 1), (12, .putfield 183, 3), (15, .iconst 0, 1), (16, .istore_n 2, 1), (17, .iload_n 2, 1), (18, .bipush 8, 2), (20, .if_icmp .ge 56, 3), (23, .aload_n 0, 1), (24, .getfield 33, 3), (27, .iload_n 2, 1), (28, .iconst 0, 1), (29, .iastore, 1), (30, .aload_n 0, 1), (31, .getfield 39, 3), (34, .iload_n 2, 1), (35, .aload_n 0, 1), (36, .iload_n 2, 1), (37, .invokevirtual 120, 3), (40, .ifCond .eq 28, 3), (43, .aload_n 0, 1), (44, .iload_n 2, 1), (45, .invokevirtual 186, 3), (48, .ifCond .eq 20, 3), (51, .aload_n 0, 1), (52, .iload_n 1, 1), (53, .iload_n 2, 1), (54, .invokevirtual 155, 3), (57, .ifCond .eq 11, 3), (60, .aload_n 0, 1), (61, .iload_n 2, 1), (62, .invokevirtual 124, 3), (65, .goto 4, 3), (68, .iconst 0, 1), (69, .iastore, 1), (70, .iinc 2 1, 3), (73, .goto (-56), 3), (76, .aload_n 0, 1), (77, .iconst 0, 1), (78, .iconst 0, 1), (79, .aload_n 0, 1), (80, .iload_n 1, 1), (81, .iconst 1, 1), (82, .invokevirtual 97, 3), (85, .invokevirtual 173, 3), (88, .return_, 1)]
def bI_178 : List (Nat × Instr × Nat) := [(0, .aload_n 0, 1), (1, .iload_n 1, 1), (2, .invokevirtual 189, 3), (5, .aload_n 0, 1), (6, .getfield 180, 3), (9, .ifCond .le 15, 3), (12, .aload_n 0, 1), (13, .iload_n 1, 1), (14, .invokevirtual 136, 3), (17, .ifCond .le 7, 3), (20, .iconst 1, 1), (21, .goto 4, 3), (24, .iconst 0, 1), (25, .ireturn, 1)]
def bI_179 : List (Nat × Instr × Nat) := [(0, .aload_n 0, 1), (1, .iload_n 1, 1), (2, .invokevirtual 136, 3), (5, .istore_n 2, 1), (6, .iconst 0, 1), (7, .istore_n 3, 1), (8, .iload_n 3, 1), (9, .aload_n 0, 1), (10, .getfield 9, 3), (13, .iconst 3, 1), (14, .iaload, 1), (15, .if_icmp .ge 40, 3), (18, .aload_n 0, 1), (19, .getfield 36, 3), (22, .iload_n 3, 1), (23, .iaload, 1), (24, .ifCond .le 23, 3), (27, .iload_n 2, 1), (28, .aload_n 0, 1), (29, .getfield 39, 3), (32, .iload_n 3, 1), (33, .iaload, 1), (34, .aload_n 0, 1), (35, .getfield 36, 3), (38, .iload_n 3, 1), (39, .iaload, 1), (40, .idiv, 1), (41, .invokestatic 168, 3), (44, .goto 4, 3), (47, .iload_n 2, 1), (48, .istore_n 2, 1), (49, .iinc 3 1, 3), (52, .goto (-44), 3), (55, .iload_n 2, 1), (56, .ireturn, 1)]
def bI_180 : List (Nat × Instr × Nat) := [(0, .aload_n 0, 1), (1, .iload_n 1, 1), (2, .invokevirtual 133, 3), (5, .ifCond .ne 5, 3), (8, .iconst (-1), 1), (9, .ireturn, 1), (10, .iload_n 2, 1), (11, .iconst 0, 1), (12, .iconst 3, 1), (13, .invokestatic 77, 3), (16, .ifCond .ne 17, 3), (19, .aload_n 0, 1), (20, .iload_n 2, 1), (21, .bipush 10, 2), (23, .isub, 1), (24, .invokevirtual 120, 3), (27, .ifCond .ne 6, 3), (30, .bipush (-2), 2), (32, .ireturn, 1), (33, .aload_n 0, 1), (34, .iload_n 1, 1), (35, .invokevirtual 193, 3), (38, .ifCond .ne 6, 3), (41, .bipush (-5), 2), (43, .ireturn, 1), (44, .iload_n 2, 1), (45, .tableswitch 59 0 3 #[31, 36, 41, 53], 31), (76, .aload_n 0, 1), (77, .getfield 183, 3), (80, .ireturn, 1), (81, .aload_n 0, 1), (82, .getfield 180, 3), (85, .ireturn, 1), (86, .aload_n 0, 1), (87, .getfield 180, 3), (90, .aload_n 0, 1), (91, .getfield 183, 3), (94, .invokestatic 149, 3), (97, .ireturn, 1), (98, .aload_n 0, 1), (99, .iload_n 1, 1), (100, .invokevirtual 196, 3), (103, .ireturn, 1), (104, .aload_n 0, 1), (105, .getfield 36, 3), (108, .iload_n 2, 1), (109, .bipush 10, 2), (111, .isub, 1), (112, .iaload, 1), (113, .ireturn, 1)]
def bI_181 : List (Nat × Instr × Nat) := [(0, .aload_n 0, 1), (1, .iload_n 1, 1), (2, .iconst 0, 1), (3, .invokevirtual 199, 3), (6, .ireturn, 1)]
def bI_182 : List (Nat × Instr × Nat) := [(0, .aload_n 0, 1), (1, .iload_n 1, 1), (2, .invokevirtual 133, 3), (5, .ifCond .ne 5, 3), (8, .iconst (-1), 1), (9, .ireturn, 1), (10, .aload_n 0, 1), (11, .iload_n 1, 1), (12, .invokevirtual 189, 3), (15, .aload_n 0, 1), (16, .getfield 177, 3), (19, .ireturn, 1)]
def bI_183 : List (Nat × Instr × Nat) := [(0, .aload_n 0, 1), (1, .aload_n 0, 1), (2, .getfield 161, 3), (5, .putfield 202, 3), (8, .aload_n 0, 1), (9, .iconst 0, 1), (10, .putfield 161, 3), (13, .aload_n 0, 1), (14, .iconst 0, 1), (15, .putfield 205, 3), (18, .aload_n 0, 1), (19, .iconst 0, 1), (20, .putfield 208, 3), (23, .return_, 1)]
def bI_184 : List (Nat × Instr × Nat) := [(0, .aload_n 0, 1), (1, .getfield 208, 3), (4, .ifCond .ne 35, 3), (7, .aload_n 0, 1), (8, .getfield 205, 3), (11, .aload_n 0, 1), (12, .getfield 202, 3), (15, .if_icmp .ge 24, 3), (18, .aload_n 0, 1), (19, .getfield 22, 3), (22, .aload_n 0, 1), (23, .getfield 205, 3), (26, .caload, 1), (27, .iload_n 1, 1), (28, .iload_n 2, 1), (29, .invokestatic 77, 3), (32, .ifCond .eq 7, 3), (35, .iconst 1, 1), (36, .goto 4, 3), (39, .iconst 0, 1), (40, .ireturn, 1)]
def bI_185 : List (Nat × Instr × Nat) := [(0, .aload_n 0, 1), (1, .iload_n 1, 1), (2, .iload_n 1, 1), (3, .invokevirtual 212, 3), (6, .ifCond .eq 16, 3), (9, .aload_n 0, 1), (10, .dup, 1), (11, .getfield 205, 3), (14, .iconst 1, 1), (15, .iadd, 1), (16, .putfield 205, 3), (19, .goto 8, 3), (22, .aload_n 0, 1), (23, .iconst 1, 1), (24, .putfield 208, 3), (27, .return_, 1)]
def bI_186 : List (Nat × Instr × Nat) := [(0, .aload_n 0, 1), (1, .iload_n 1, 1), (2, .bipush 57, 2), (4, .invokevirtual 212, 3), (7, .ifCond .ne 10, 3), (10, .aload_n 0, 1), (11, .iconst 1, 1), (12, .putfield 208, 3), (15, .iconst 0, 1), (16, .ireturn, 1), (17, .aload_n 0, 1), (18, .dup, 1), (19, .getfield 205, 3), (22, .iconst 1, 1), (23, .iadd, 1), (24, .putfield 205, 3), (27, .aload_n 0, 1), (28, .getfield 22, 3), (31, .aload_n 0, 1), (32, .getfield 205, 3), (35, .iconst 1, 1), (36, .isub, 1), (37, .caload, 1), (38, .bipush 48, 2), (40, .isub, 1), (41, .ireturn, 1)]
def bI_187 : List (Nat × Instr × Nat) := [(0, .aload_n 0, 1), (1, .bipush 49, 2), (3, .invokevirtual 216, 3), (6, .istore_n 1, 1), (7, .aload_n 0, 1), (8, .bipush 120, 2), (10, .invokevirtual 220, 3), (13, .aload_n 0, 1), (14, .bipush 48, 2), (16, .invokevirtual 216, 3), (19, .istore_n 2, 1), (20, .aload_n 0, 1), (21, .getfield 42, 3), (24, .iload_n 2, 1), (25, .dup2, 1), (26, .iaload, 1), (27, .aload_n 0, 1), (28, .getfield 208, 3), (31, .ifCond .eq 7, 3), (34, .iconst 0, 1), (35, .goto 4, 3), (38, .iload_n 1, 1), (39, .iadd, 1), (40, .iastore, 1), (41, .return_, 1)]
def bI_188 : List (Nat × Instr × Nat) := [(0, .aload_n 0, 1), (1, .invokevirtual 224, 3), (4, .iconst 0, 1), (5, .istore_n 1, 1), (6, .iload_n 1, 1), (7, .bipush 10, 2), (9, .if_icmp .ge 16, 3), (12, .aload_n 0, 1), (13, .getfield 42, 3), (16, .iload_n 1, 1), (17, .iconst 0, 1), (18, .iastore, 1), (19, .iinc 1 1, 3), (22, .goto (-16), 3), (25, .aload_n 0, 1), (26, .invokevirtual 227, 3), (29, .aload_n 0, 1), (30, .getfield 208, 3), (33, .ifCond .ne 34, 3), (36, .aload_n 0, 1), (37, .getfield 205, 3), (40, .aload_n 0, 1), (41, .getfield 202, 3), (44, .if_icmp .ge 23, 3), (47, .aload_n 0, 1), (48, .bipush 43, 2), (50, .invokevirtual 220, 3), (53, .aload_n 0, 1), (54, .getfield 208, 3), (57, .ifCond .ne (-28), 3), (60, .aload_n 0, 1), (61, .invokevirtual 227, 3), (64, .goto (-35), 3), (67, .return_, 1)]
def bI_189 : List (Nat × Instr × Nat) := [(0, .iconst 0, 1), (1, .istore_n 1, 1), (2, .iconst 0, 1), (3, .istore_n 2, 1), (4, .iload_n 2, 1), (5, .bipush 10, 2), (7, .if_icmp .ge 18, 3), (10, .iload_n 1, 1), (11, .aload_n 0, 1), (12, .getfield 42, 3), (15, .iload_n 2, 1), (16, .iaload, 1), (17, .iadd, 1), (18, .istore_n 1, 1), (19, .iinc 2 1, 3), (22, .goto (-18), 3), (25, .iload_n 1, 1), (26, .ireturn, 1)]
def bI_190 : List (Nat × Instr × Nat) := [(0, .aload_n 0, 1), (1, .iload_n 1, 1), (2, .iconst 1, 1), (3, .invokevirtual 97, 3), (6, .istore_n 2, 1), (7, .iconst 0, 1), (8, .istore_n 3, 1), (9, .iload_n 3, 1), (10, .aload_n 0, 1), (11, .getfield 9, 3), (14, .iconst 3, 1), (15, .iaload, 1), (16, .if_icmp .ge 25, 3), (19, .iload_n 2, 1), (20, .aload_n 0, 1), (21, .getfield 42, 3), (24, .iload_n 3, 1), (25, .iaload, 1), (26, .aload_n 0, 1), (27, .iload_n 3, 1), (28, .iconst 1, 1), (29, .invokevirtual 84, 3), (32, .imul, 1), (33, .isub, 1), (34, .istore_n 2, 1), (35, .iinc 3 1, 3), (38, .goto (-29), 3), (41, .iload_n 2, 1), (42, .ireturn, 1)]
def bI_191 : List (Nat × Instr × Nat) := [(0, .aload_n 0, 1), (1, .getfield 9, 3), (4, .iconst 5, 1), (5, .iaload, 1), (6, .bipush 16, 2), (8, .if_icmp .ne 5, 3), (11, .iconst 1, 1), (12, .ireturn, 1), (13, .iconst 1, 1), (14, .istore_n 3, 1), (15, .iconst 1, 1), (16, .istore 4, 2), (18, .iconst 1, 1), (19, .istore 5, 2), (21, .iconst 0, 1), (22, .istore 6, 2), (24, .iload 6, 2), (26, .bipush 10, 2), (28, .if_icmp .ge 128, 3), (31, .aload_n 0, 1), (32, .getfield 42, 3), (35, .iload 6, 2), (37, .iaload, 1), (38, .ifCond .le 7, 3), (41, .iconst 1, 1), (42, .goto 4, 3), (45, .iconst 0, 1), (46, .istore 7, 2), (48, .iload_n 3, 1), (49, .iload 7, 2), (51, .ifCond .eq 12, 3), (54, .aload_n 0, 1), (55, .iload 6, 2), (57, .invokevirtual 120, 3), (60, .ifCond .eq 7, 3), (63, .iconst 1, 1), (64, .goto 4, 3), (67, .iconst 0, 1), (68, .iand, 1), (69, .istore_n 3, 1), (70, .iload 4, 2), (72, .iload 7, 2), (74, .ifCond .eq 22, 3), (77, .aload_n 0, 1), (78, .iload 6, 2), (80, .invokevirtual 120, 3), (83, .ifCond .eq 13, 3), (86, .aload_n 0, 1), (87, .iload_n 1, 1), (88, .iload 6, 2), (90, .invokevirtual 155, 3), (93, .ifCond .eq 7, 3), (96, .iconst 1, 1), (97, .goto 4, 3), (100, .iconst 0, 1), (101, .iand, 1), (102, .istore 4, 2), (104, .iload 5, 2), (106, .iload 7, 2), (108, .ifCond .eq 34, 3), (111, .aload_n 0, 1), (112, .iload 6, 2), (114, .invokevirtual 120, 3), (117, .ifCond .eq 25, 3), (120, .aload_n 0, 1), (121, .getfield 42, 3), (124, .iload 6, 2), (126, .iaload, 1), (127, .i2l, 1), (128, .iload_n 2, 1), (129, .i2l, 1), (130, .lmul, 1), (131, .aload_n 0, 1), (132, .iload 6, 2), (134, .invokevirtual 124, 3), (137, .i2l, 1), (138, .lcmp, 1), (139, .ifCond .gt 7, 3), (142, .iconst 1, 1), (143, .goto 4, 3), (146, .iconst 0, 1), (147, .iand, 1), (148, .istore 5, 2), (150, .iinc 6 1, 3), (153, .goto (-129), 3), (156, .iload_n 3, 1), (157, .ifCond .ne 5, 3), (160, .iconst 2, 1), (161, .ireturn, 1), (162, .iload 4, 2), (164, .ifCond .ne 5, 3), (167, .iconst 3, 1), (168, .ireturn, 1), (169, .aload_n 0, 1), (170, .iload_n 1, 1), (171, .invokevirtual 230, 3), (174, .istore 6, 2), (176, .iload 6, 2), (178, .iconst 2, 1), (179, .aload_n 0, 1), (180, .getfield 9, 3), (183, .iconst 1, 1), (184, .iaload, 1), (185, .imul, 1), (186, .if_icmp .ge 5, 3), (189, .iconst 4, 1), (190, .ireturn, 1), (191, .aload_n 0, 1), (192, .invokevirtual 233, 3), (195, .iload 6, 2), (197, .invokestatic 149, 3), (200, .aload_n 0, 1), (201, .getfield 9, 3), (204, .iconst 0, 1), (205, .iaload, 1), (206, .if_icmp .le 5, 3), (209, .iconst 5, 1), (210, .ireturn, 1), (211, .iload_n 2, 1), (212, .aload_n 0, 1), (213, .iload_n 1, 1), (214, .invokevirtual 136, 3), (217, .if_icmp .le 8, 3), (220, .bipush 6, 2), (222, .goto 14, 3), (225, .iload 5, 2), (227, .ifCond .ne 8, 3), (230, .bipush 7, 2), (232, .goto 4, 3), (235, .iconst 0, 1), (236, .ireturn, 1)]
def bI_192 : List (Nat × Instr × Nat) := [(0, .bipush 90, 2), (2, .bipush 12, 2), (4, .aload_n 0, 1), (5, .getfield 9, 3), (8, .iconst 5, 1), (9, .iaload, 1), (10, .imul, 1), (11, .iadd, 1), (12, .istore_n 3, 1), (13, .aload_n 0, 1), (14, .getfield 9, 3), (17, .iload_n 3, 1), (18, .iload_n 1, 1), (19, .iastore, 1), (20, .aload_n 0, 1), (21, .getfield 9, 3), (24, .iload_n 3, 1), (25, .iconst 1, 1), (26, .iadd, 1), (27, .iload_n 2, 1), (28, .iastore, 1), (29, .aload_n 0, 1), (30, .getfield 9, 3), (33, .iload_n 3, 1), (34, .iconst 2, 1), (35, .iadd, 1), (36, .aload_n 0, 1), (37, .getfield 9, 3), (40, .iconst 1, 1), (41, .iaload, 1), (42, .iastore, 1), (43, .aload_n 0, 1), (44, .getfield 9, 3), (47, .iload_n 3, 1), (48, .iconst 3, 1), (49, .iadd, 1), (50, .bipush (-5), 2), (52, .iastore, 1), (53, .iconst 0, 1), (54, .istore 4, 2), (56, .iload 4, 2), (58, .bipush 8, 2), (60, .if_icmp .ge 27, 3), (63, .aload_n 0, 1), (64, .getfield 9, 3), (67, .iload_n 3, 1), (68, .iconst 4, 1), (69, .iadd, 1), (70, .iload 4, 2), (72, .iadd, 1), (73, .aload_n 0, 1), (74, .getfield 42, 3), (77, .iload 4, 2), (79, .iaload, 1), (80, .iastore, 1), (81, .iinc 4 1, 3), (84, .goto (-28), 3), (87, .aload_n 0, 1), (88, .getfield 9, 3), (91, .iconst 5, 1), (92, .dup2, 1), (93, .iaload, 1), (94, .iconst 1, 1), (95, .iadd, 1), (96, .iastore, 1), (97, .aload_n 0, 1), (98, .getfield 9, 3), (101, .iconst 5, 1), (102, .iaload, 1), (103, .iconst 1, 1), (104, .isub, 1), (105, .ireturn, 1)]
def bI_193 : List (Nat × Instr × Nat) := [(0, .aload_n 0, 1), (1, .invokevirtual 237, 3), (4, .aload_n 0, 1), (5, .iload_n 1, 1), (6, .invokevirtual 133, 3), (9, .ifCond .ne 5, 3), (12, .iconst (-1), 1), (13, .ireturn, 1), (14, .iload_n 2, 1), (15, .iconst 1, 1), (16, .if_icmp .ge 6, 3), (19, .bipush (-2), 2), (21, .ireturn, 1), (22, .aload_n 0, 1), (23, .getfield 208, 3), (26, .ifCond .eq 12, 3), (29, .sipush (-1000), 3), (32, .aload_n 0, 1), (33, .getfield 205, 3), (36, .isub, 1), (37, .ireturn, 1), (38, .aload_n 0, 1), (39, .iload_n 1, 1), (40, .iload_n 2, 1), (41, .invokevirtual 240, 3), (44, .istore_n 3, 1), (45, .iload_n 3, 1), (46, .ifCond .eq 17, 3), (49, .aload_n 0, 1), (50, .iload_n 3, 1), (51, .putfield 26, 3), (54, .aload_n 0, 1), (55, .bipush (-5), 2), (57, .putfield 30, 3), (60, .bipush (-4), 2), (62, .ireturn, 1), (63, .aload_n 0, 1), (64, .invokevirtual 100, 3), (67, .aload_n 0, 1), (68, .invokevirtual 103, 3), (71, .aload_n 0, 1), (72, .iload_n 1, 1), (73, .iload_n 2, 1), (74, .invokevirtual 243, 3), (77, .ireturn, 1)]
def bI_194 : List (Nat × Instr × Nat) := [(0, .aload_n 0, 1), (1, .iload_n 1, 1), (2, .invokevirtual 189, 3), (5, .aload_n 0, 1), (6, .iload_n 1, 1), (7, .invokevirtual 196, 3), (10, .istore_n 2, 1), (11, .iconst 0, 1), (12, .istore_n 3, 1), (13, .iload_n 3, 1), (14, .bipush 10, 2), (16, .if_icmp .ge 31, 3), (19, .aload_n 0, 1), (20, .getfield 42, 3), (23, .iload_n 3, 1), (24, .iload_n 3, 1), (25, .bipush 8, 2), (27, .if_icmp .ge 12, 3), (30, .aload_n 0, 1), (31, .getfield 36, 3), (34, .iload_n 3, 1), (35, .iaload, 1), (36, .goto 4, 3), (39, .iconst 0, 1), (40, .iastore, 1), (41, .iinc 3 1, 3), (44, .goto (-31), 3), (47, .aload_n 0, 1), (48, .iload_n 1, 1), (49, .iload_n 2, 1), (50, .invokevirtual 243, 3), (53, .ireturn, 1)]
def bI_195 : List (Nat × Instr × Nat) := [(0, .aload_n 0, 1), (1, .iload_n 1, 1), (2, .invokevirtual 133, 3), (5, .ifCond .ne 5, 3), (8, .iconst (-1), 1), (9, .ireturn, 1), (10, .aload_n 0, 1), (11, .getfield 9, 3), (14, .iconst 5, 1), (15, .iaload, 1), (16, .bipush 16, 2), (18, .if_icmp .ne 8, 3), (21, .bipush (-3), 2), (23, .goto 21, 3), (26, .aload_n 0, 1), (27, .iload_n 1, 1), (28, .invokevirtual 193, 3), (31, .ifCond .ne 8, 3), (34, .bipush (-5), 2), (36, .goto 8, 3), (39, .aload_n 0, 1), (40, .iload_n 1, 1), (41, .invokevirtual 246, 3), (44, .ireturn, 1)]
def bI_196 : List (Nat × Instr × Nat) := [(0, .aload_n 0, 1), (1, .invokevirtual 100, 3), (4, .aload_n 0, 1), (5, .aload_n 0, 1), (6, .iload_n 1, 1), (7, .invokevirtual 249, 3), (10, .invokevirtual 114, 3), (13, .ireturn, 1)]
def bI_197 : List (Nat × Instr × Nat) := [(0, .iconst (-1), 1), (1, .istore_n 1, 1), (2, .iconst 0, 1), (3, .istore_n 2, 1), (4, .iconst 0, 1), (5, .istore_n 3, 1), (6, .iload_n 3, 1), (7, .aload_n 0, 1), (8, .getfield 9, 3), (11, .iconst 4, 1), (12, .iaload, 1), (13, .if_icmp .ge 60, 3), (16, .aload_n 0, 1), (17, .iload_n 3, 1), (18, .invokevirtual 193, 3), (21, .ifCond .eq 46, 3), (24, .iload_n 1, 1), (25, .iconst (-1), 1), (26, .if_icmp .eq 34, 3), (29, .aload_n 0, 1), (30, .getfield 183, 3), (33, .iload_n 2, 1), (34, .if_icmp .lt 26, 3), (37, .aload_n 0, 1), (38, .getfield 183, 3), (41, .iload_n 2, 1), (42, .if_icmp .ne 25, 3), (45, .aload_n 0, 1), (46, .iload_n 3, 1), (47, .iconst 1, 1), (48, .invokevirtual 97, 3), (51, .aload_n 0, 1), (52, .iload_n 1, 1), (53, .iconst 1, 1), (54, .invokevirtual 97, 3), (57, .if_icmp .ge 10, 3), (60, .iload_n 3, 1), (61, .istore_n 1, 1), (62, .aload_n 0, 1), (63, .getfield 183, 3), (66, .istore_n 2, 1), (67, .iinc 3 1, 3), (70, .goto (-64), 3), (73, .iload_n 1, 1), (74, .ireturn, 1)]
def bI_198 : List (Nat × Instr × Nat) := [(0, .iconst 0, 1), (1, .istore_n 1, 1), (2, .aload_n 0, 1), (3, .getfield 9, 3), (6, .iconst 5, 1), (7, .iaload, 1), (8, .bipush 16, 2), (10, .if_icmp .ne 7, 3), (13, .iconst (-1), 1), (14, .goto 7, 3), (17, .aload_n 0, 1), (18, .invokevirtual 252, 3), (21, .istore_n 2, 1), (22, .iload_n 2, 1), (23, .iconst (-1), 1), (24, .if_icmp .eq 42, 3), (27, .iload_n 1, 1), (28, .aload_n 0, 1), (29, .iload_n 2, 1), (30, .invokevirtual 246, 3), (33, .ifCond .lt 7, 3), (36, .iconst 1, 1), (37, .goto 4, 3), (40, .iconst 0, 1), (41, .iadd, 1), (42, .istore_n 1, 1), (43, .aload_n 0, 1), (44, .getfield 9, 3), (47, .iconst 5, 1), (48, .iaload, 1), (49, .bipush 16, 2), (51, .if_icmp .ne 7, 3), (54, .iconst (-1), 1), (55, .goto 7, 3), (58, .aload_n 0, 1), (59, .invokevirtual 252, 3), (62, .istore_n 2, 1), (63, .goto (-41), 3), (66, .iload_n 1, 1), (67, .ireturn, 1)]
def bI_199 : List (Nat × Instr × Nat) := [(0, .aload_n 0, 1), (1, .invokevirtual 100, 3), (4, .aload_n 0, 1), (5, .aload_n 0, 1), (6, .invokevirtual 255, 3), (9, .invokevirtual 114, 3), (12, .ireturn, 1)]
def bI_200 : List (Nat × Instr × Nat) := [(0, .aload_n 0, 1), (1, .iload_n 1, 1), (2, .invokevirtual 258, 3), (5, .ifCond .ne 5, 3), (8, .iconst (-1), 1), (9, .ireturn, 1), (10, .aload_n 0, 1), (11, .iload_n 1, 1), (12, .iconst 3, 1), (13, .invokevirtual 73, 3), (16, .bipush (-5), 2), (18, .if_icmp .eq 6, 3), (21, .bipush (-4), 2), (23, .ireturn, 1), (24, .aload_n 0, 1), (25, .invokevirtual 100, 3), (28, .aload_n 0, 1), (29, .invokevirtual 103, 3), (32, .bipush 90, 2), (34, .bipush 12, 2), (36, .iload_n 1, 1), (37, .imul, 1), (38, .iadd, 1), (39, .istore_n 2, 1), (40, .iload_n 2, 1), (41, .bipush 90, 2), (43, .bipush 12, 2), (45, .aload_n 0, 1), (46, .getfield 9, 3), (49, .iconst 5, 1), (50, .iaload, 1), (51, .iconst 1, 1), (52, .isub, 1), (53, .imul, 1), (54, .iadd, 1), (55, .if_icmp .ge 24, 3), (58, .aload_n 0, 1), (59, .getfield 9, 3), (62, .iload_n 2, 1), (63, .aload_n 0, 1), (64, .getfield 9, 3), (67, .iload_n 2, 1), (68, .bipush 12, 2), (70, .iadd, 1), (71, .iaload, 1), (72, .iastore, 1), (73, .iinc 2 1, 3), (76, .goto (-36), 3), (79, .aload_n 0, 1), (80, .getfield 9, 3), (83, .iconst 5, 1), (84, .dup2, 1), (85, .iaload, 1), (86, .iconst 1, 1), (87, .isub, 1), (88, .iastore, 1), (89, .aload_n 0, 1), (90, .getfield 9, 3), (93, .iconst 5, 1), (94, .iaload, 1), (95, .ireturn, 1)]
def bI_201 : List (Nat × Instr × Nat) := [(0, .iconst 0, 1), (1, .istore_n 3, 1), (2, .iload_n 3, 1), (3, .bipush 12, 2), (5, .if_icmp .ge 69, 3), (8, .aload_n 0, 1), (9, .getfield 9, 3), (12, .bipush 90, 2), (14, .bipush 12, 2), (16, .iload_n 1, 1), (17, .imul, 1), (18, .iadd, 1), (19, .iload_n 3, 1), (20, .iadd, 1), (21, .iaload, 1), (22, .istore 4, 2), (24, .aload_n 0, 1), (25, .getfield 9, 3), (28, .bipush 90, 2), (30, .bipush 12, 2), (32, .iload_n 1, 1), (33, .imul, 1), (34, .iadd, 1), (35, .iload_n 3, 1), (36, .iadd, 1), (37, .aload_n 0, 1), (38, .getfield 9, 3), (41, .bipush 90, 2), (43, .bipush 12, 2), (45, .iload_n 2, 1), (46, .imul, 1), (47, .iadd, 1), (48, .iload_n 3, 1), (49, .iadd, 1), (50, .iaload, 1), (51, .iastore, 1), (52, .aload_n 0, 1), (53, .getfield 9, 3), (56, .bipush 90, 2), (58, .bipush 12, 2), (60, .iload_n 2, 1), (61, .imul, 1), (62, .iadd, 1), (63, .iload_n 3, 1), (64, .iadd, 1), (65, .iload 4, 2), (67, .iastore, 1), (68, .iinc 3 1, 3), (71, .goto (-69), 3), (74, .return_, 1)]
def bI_202 : List (Nat × Instr × Nat) := [(0, .aload_n 0, 1), (1, .iload_n 1, 1), (2, .invokevirtual 258, 3), (5, .ifCond .eq 11, 3), (8, .aload_n 0, 1), (9, .iload_n 2, 1), (10, .invokevirtual 258, 3), (13, .ifCond .ne 5, 3), (16, .iconst (-1), 1), (17, .ireturn, 1), (18, .aload_n 0, 1), (19, .invokevirtual 100, 3), (22, .aload_n 0, 1), (23, .invokevirtual 103, 3), (26, .aload_n 0, 1), (27, .iload_n 1, 1), (28, .iload_n 2, 1), (29, .invokevirtual 261, 3), (32, .aload_n 0, 1), (33, .invokevirtual 264, 3), (36, .ireturn, 1)]
def bI_203 : List (Nat × Instr × Nat) := [(0, .aload_n 0, 1), (1, .iload_n 1, 1), (2, .invokevirtual 258, 3), (5, .ifCond .ne 5, 3), (8, .iconst (-1), 1), (9, .ireturn, 1), (10, .iload_n 2, 1), (11, .iconst 1, 1), (12, .if_icmp .lt 13, 3), (15, .iload_n 2, 1), (16, .aload_n 0, 1), (17, .iload_n 1, 1), (18, .iconst 1, 1), (19, .invokevirtual 73, 3), (22, .if_icmp .lt 6, 3), (25, .bipush (-2), 2), (27, .ireturn, 1), (28, .aload_n 0, 1), (29, .iload_n 1, 1), (30, .iconst 3, 1), (31, .invokevirtual 73, 3), (34, .bipush (-5), 2), (36, .if_icmp .eq 6, 3), (39, .bipush (-4), 2), (41, .ireturn, 1), (42, .aload_n 0, 1), (43, .getfield 9, 3), (46, .iconst 5, 1), (47, .iaload, 1), (48, .bipush 16, 2), (50, .if_icmp .ne 6, 3), (53, .bipush (-3), 2), (55, .ireturn, 1), (56, .aload_n 0, 1), (57, .invokevirtual 100, 3), (60, .aload_n 0, 1), (61, .invokevirtual 103, 3), (64, .bipush 90, 2), (66, .bipush 12, 2), (68, .aload_n 0, 1), (69, .getfield 9, 3), (72, .iconst 5, 1), (73, .iaload, 1), (74, .imul, 1), (75, .iadd, 1), (76, .iconst 1, 1), (77, .isub, 1), (78, .istore_n 3, 1), (79, .iload_n 3, 1), (80, .bipush 90, 2), (82, .bipush 12, 2), (84, .iload_n 1, 1), (85, .imul, 1), (86, .iadd, 1), (87, .if_icmp .lt 24, 3), (90, .aload_n 0, 1), (91, .getfield 9, 3), (94, .iload_n 3, 1), (95, .bipush 12, 2), (97, .iadd, 1), (98, .aload_n 0, 1), (99, .getfield 9, 3), (102, .iload_n 3, 1), (103, .iaload, 1), (104, .iastore, 1), (105, .iinc 3 (-1), 3), (108, .goto (-29), 3), (111, .aload_n 0, 1), (112, .getfield 9, 3), (115, .iconst 5, 1), (116, .dup2, 1), (117, .iaload, 1), (118, .iconst 1, 1), (119, .iadd, 1), (120, .iastore, 1), (121, .aload_n 0, 1), (122, .getfield 9, 3), (125, .bipush 90, 2), (127, .bipush 12, 2), (129, .iload_n 1, 1), (130, .iconst 1, 1), (131, .iadd, 1), (132, .imul, 1), (133, .iadd, 1), (134, .iconst 1, 1), (135, .iadd, 1), (136, .dup2, 1), (137, .iaload, 1), (138, .iload_n 2, 1), (139, .isub, 1), (140, .iastore, 1), (141, .aload_n 0, 1), (142, .getfield 9, 3), (145, .bipush 90, 2), (147, .bipush 12, 2), (149, .iload_n 1, 1), (150, .imul, 1), (151, .iadd, 1), (152, .iconst 1, 1), (153, .iadd, 1), (154, .iload_n 2, 1), (155, .iastore, 1), (156, .iload_n 1, 1), (157, .iconst 1, 1), (158, .iadd, 1), (159, .ireturn, 1)]
def bI_204 : List (Nat × Instr × Nat) := [(0, .aload_n 0, 1), (1, .getfield 45, 3), (4, .aload_n 0, 1), (5, .getfield 267, 3), (8, .iload_n 1, 1), (9, .i2c, 1), (10, .castore, 1), (11, .aload_n 0, 1), (12, .dup, 1), (13, .getfield 267, 3), (16, .iconst 1, 1), (17, .iadd, 1), (18, .putfield 267, 3), (21, .return_, 1)]
def bI_205 : List (Nat × Instr × Nat) := [(0, .aload_n 0, 1), (1, .iload_n 1, 1), (2, .invokevirtual 258, 3), (5, .ifCond .ne 5, 3), (8, .iconst (-1), 1), (9, .ireturn, 1), (10, .aload_n 0, 1), (11, .iconst 0, 1), (12, .putfield 267, 3), (15, .iconst 0, 1), (16, .istore_n 2, 1), (17, .iload_n 2, 1), (18, .bipush 8, 2), (20, .if_icmp .ge 58, 3), (23, .aload_n 0, 1), (24, .iload_n 1, 1), (25, .iload_n 2, 1), (26, .invokevirtual 81, 3), (29, .ifCond .le 43, 3), (32, .aload_n 0, 1), (33, .getfield 267, 3), (36, .ifCond .le 9, 3), (39, .aload_n 0, 1), (40, .bipush 43, 2), (42, .invokevirtual 270, 3), (45, .aload_n 0, 1), (46, .bipush 48, 2), (48, .aload_n 0, 1), (49, .iload_n 1, 1), (50, .iload_n 2, 1), (51, .invokevirtual 81, 3), (54, .iadd, 1), (55, .invokevirtual 270, 3), (58, .aload_n 0, 1), (59, .bipush 120, 2), (61, .invokevirtual 270, 3), (64, .aload_n 0, 1), (65, .bipush 48, 2), (67, .iload_n 2, 1), (68, .iadd, 1), (69, .invokevirtual 270, 3), (72, .iinc 2 1, 3), (75, .goto (-58), 3), (78, .aload_n 0, 1), (79, .getfield 267, 3), (82, .ireturn, 1)]
def bI_206 : List (Nat × Instr × Nat) := [(0, .iload_n 1, 1), (1, .iconst 0, 1), (2, .aload_n 0, 1), (3, .getfield 267, 3), (6, .iconst 1, 1), (7, .isub, 1), (8, .invokestatic 77, 3), (11, .ifCond .eq 12, 3), (14, .aload_n 0, 1), (15, .getfield 45, 3), (18, .iload_n 1, 1), (19, .caload, 1), (20, .goto 4, 3), (23, .iconst (-1), 1), (24, .ireturn, 1)]
def bI_207 : List (Nat × Instr × Nat) := [(0, .aload_n 0, 1), (1, .aload_n 0, 1), (2, .iload_n 1, 1), (3, .iconst 0, 1), (4, .invokevirtual 73, 3), (7, .iconst 1, 1), (8, .invokevirtual 97, 3), (11, .istore_n 2, 1), (12, .iconst 0, 1), (13, .istore_n 3, 1), (14, .iload_n 3, 1), (15, .bipush 8, 2), (17, .if_icmp .ge 38, 3), (20, .iload_n 2, 1), (21, .aload_n 0, 1), (22, .iload_n 1, 1), (23, .iload_n 3, 1), (24, .invokevirtual 81, 3), (27, .ifCond .ne 7, 3), (30, .iconst 0, 1), (31, .goto 16, 3), (34, .aload_n 0, 1), (35, .iload_n 1, 1), (36, .iload_n 3, 1), (37, .invokevirtual 81, 3), (40, .aload_n 0, 1), (41, .iload_n 3, 1), (42, .iconst 1, 1), (43, .invokevirtual 84, 3), (46, .imul, 1), (47, .isub, 1), (48, .istore_n 2, 1), (49, .iinc 3 1, 3), (52, .goto (-38), 3), (55, .iload_n 2, 1), (56, .ireturn, 1)]
def bI_208 : List (Nat × Instr × Nat) := [(0, .iconst 0, 1), (1, .istore_n 2, 1), (2, .iconst 0, 1), (3, .istore_n 3, 1), (4, .iload_n 3, 1), (5, .bipush 8, 2), (7, .if_icmp .ge 18, 3), (10, .iload_n 2, 1), (11, .aload_n 0, 1), (12, .iload_n 1, 1), (13, .iload_n 3, 1), (14, .invokevirtual 81, 3), (17, .iadd, 1), (18, .istore_n 2, 1), (19, .iinc 3 1, 3), (22, .goto (-18), 3), (25, .iload_n 2, 1), (26, .ireturn, 1)]
def bI_209 : List (Nat × Instr × Nat) := [(0, .aload_n 0, 1), (1, .iload_n 1, 1), (2, .invokevirtual 273, 3), (5, .aload_n 0, 1), (6, .iload_n 1, 1), (7, .invokevirtual 276, 3), (10, .invokestatic 149, 3), (13, .ireturn, 1)]
def bI_210 : List (Nat × Instr × Nat) := [(0, .aload_n 0, 1), (1, .iload_n 1, 1), (2, .invokevirtual 276, 3), (5, .ifCond .ne 9, 3), (8, .iload_n 2, 1), (9, .iconst 1, 1), (10, .iadd, 1), (11, .goto 4, 3), (14, .iload_n 2, 1), (15, .istore_n 3, 1), (16, .aload_n 0, 1), (17, .iload_n 1, 1), (18, .invokevirtual 276, 3), (21, .ifCond .ne 7, 3), (24, .iconst 0, 1), (25, .goto 9, 3), (28, .aload_n 0, 1), (29, .iload_n 1, 1), (30, .iconst 2, 1), (31, .invokevirtual 73, 3), (34, .istore 4, 2), (36, .iconst 0, 1), (37, .istore 5, 2), (39, .iload 5, 2), (41, .bipush 8, 2), (43, .if_icmp .ge 51, 3), (46, .iload_n 3, 1), (47, .aload_n 0, 1), (48, .iload_n 1, 1), (49, .iload 5, 2), (51, .invokevirtual 81, 3), (54, .invokestatic 168, 3), (57, .istore 6, 2), (59, .iload 4, 2), (61, .iload 6, 2), (63, .ifCond .ne 7, 3), (66, .iconst 0, 1), (67, .goto 13, 3), (70, .iload 6, 2), (72, .aload_n 0, 1), (73, .iload 5, 2), (75, .iconst 1, 1), (76, .invokevirtual 84, 3), (79, .imul, 1), (80, .iadd, 1), (81, .istore 4, 2), (83, .iload_n 3, 1), (84, .iload 6, 2), (86, .isub, 1), (87, .istore_n 3, 1), (88, .iinc 5 1, 3), (91, .goto (-52), 3), (94, .iload 4, 2), (96, .ireturn, 1)]
def bI_211 : List (Nat × Instr × Nat) := [(0, .iconst 0, 1), (1, .istore_n 3, 1), (2, .iload_n 3, 1), (3, .aload_n 0, 1), (4, .iload_n 1, 1), (5, .invokevirtual 279, 3), (8, .if_icmp .ge 21, 3), (11, .aload_n 0, 1), (12, .iload_n 1, 1), (13, .iload_n 3, 1), (14, .invokevirtual 282, 3), (17, .iload_n 2, 1), (18, .if_icmp .ne 5, 3), (21, .iconst 1, 1), (22, .ireturn, 1), (23, .iinc 3 1, 3), (26, .goto (-24), 3), (29, .iconst 0, 1), (30, .ireturn, 1)]
def bI_212 : List (Nat × Instr × Nat) := [(0, .iload_n 2, 1), (1, .iconst (-1), 1), (2, .if_icmp .ne 9, 3), (5, .aload_n 0, 1), (6, .iload_n 1, 1), (7, .invokevirtual 279, 3), (10, .ireturn, 1), (11, .aload_n 0, 1), (12, .aload_n 0, 1), (13, .iload_n 1, 1), (14, .iconst 0, 1), (15, .invokevirtual 73, 3), (18, .iconst 0, 1), (19, .invokevirtual 97, 3), (22, .aload_n 0, 1), (23, .aload_n 0, 1), (24, .iload_n 2, 1), (25, .iconst 0, 1), (26, .invokevirtual 73, 3), (29, .iconst 0, 1), (30, .invokevirtual 97, 3), (33, .if_icmp .ne 7, 3), (36, .iconst 0, 1), (37, .goto 4, 3), (40, .iconst 5, 1), (41, .istore_n 3, 1), (42, .iconst 0, 1), (43, .istore 4, 2), (45, .iload 4, 2), (47, .aload_n 0, 1), (48, .iload_n 1, 1), (49, .invokevirtual 279, 3), (52, .if_icmp .ge 32, 3), (55, .iload_n 3, 1), (56, .aload_n 0, 1), (57, .iload_n 2, 1), (58, .aload_n 0, 1), (59, .iload_n 1, 1), (60, .iload 4, 2), (62, .invokevirtual 282, 3), (65, .invokevirtual 285, 3), (68, .ifCond .eq 7, 3), (71, .iconst 0, 1), (72, .goto 4, 3), (75, .iconst 1, 1), (76, .iadd, 1), (77, .istore_n 3, 1), (78, .iinc 4 1, 3), (81, .goto (-36), 3), (84, .iload_n 3, 1), (85, .ireturn, 1)]
def bI_213 : List (Nat × Instr × Nat) := [(0, .iconst 0, 1), (1, .istore_n 1, 1), (2, .iconst 0, 1), (3, .istore_n 2, 1), (4, .iload_n 2, 1), (5, .aload_n 0, 1), (6, .getfield 9, 3), (9, .iconst 5, 1), (10, .iaload, 1), (11, .if_icmp .ge 20, 3), (14, .iload_n 1, 1), (15, .aload_n 0, 1), (16, .iload_n 2, 1), (17, .iload_n 2, 1), (18, .iconst 1, 1), (19, .isub, 1), (20, .invokevirtual 288, 3), (23, .iadd, 1), (24, .istore_n 1, 1), (25, .iinc 2 1, 3), (28, .goto (-24), 3), (31, .iload_n 1, 1), (32, .ireturn, 1)]
def bI_214 : List (Nat × Instr × Nat) := [(0, .aload_n 0, 1), (1, .iload_n 1, 1), (2, .invokevirtual 276, 3), (5, .iconst 2, 1), (6, .aload_n 0, 1), (7, .iload_n 1, 1), (8, .iconst 2, 1), (9, .invokevirtual 73, 3), (12, .imul, 1), (13, .isub, 1), (14, .ireturn, 1)]
def bI_215 : List (Nat × Instr × Nat) := [(0, .aload_n 0, 1), (1, .iload_n 1, 1), (2, .iconst 1, 1), (3, .invokevirtual 73, 3), (6, .aload_n 0, 1), (7, .iload_n 1, 1), (8, .invokevirtual 276, 3), (11, .aload_n 0, 1), (12, .iload_n 1, 1), (13, .iconst 3, 1), (14, .invokevirtual 73, 3), (17, .bipush (-5), 2), (19, .if_icmp .ne 7, 3), (22, .iconst 0, 1), (23, .goto 8, 3), (26, .aload_n 0, 1), (27, .iload_n 1, 1), (28, .invokevirtual 291, 3), (31, .isub, 1), (32, .imul, 1), (33, .ireturn, 1)]
def bI_216 : List (Nat × Instr × Nat) := [(0, .aload_n 0, 1), (1, .iload_n 1, 1), (2, .invokevirtual 258, 3), (5, .ifCond .ne 5, 3), (8, .iconst (-1), 1), (9, .ireturn, 1), (10, .iload_n 2, 1), (11, .tableswitch 102 0 8 #[49, 49, 56, 62, 68, 74, 83, 89, 96], 49), (60, .aload_n 0, 1), (61, .iload_n 1, 1), (62, .iload_n 2, 1), (63, .invokevirtual 73, 3), (66, .ireturn, 1), (67, .aload_n 0, 1), (68, .iload_n 1, 1), (69, .invokevirtual 273, 3), (72, .ireturn, 1), (73, .aload_n 0, 1), (74, .iload_n 1, 1), (75, .invokevirtual 276, 3), (78, .ireturn, 1), (79, .aload_n 0, 1), (80, .iload_n 1, 1), (81, .invokevirtual 279, 3), (84, .ireturn, 1), (85, .aload_n 0, 1), (86, .iload_n 1, 1), (87, .iload_n 1, 1), (88, .iconst 1, 1), (89, .isub, 1), (90, .invokevirtual 288, 3), (93, .ireturn, 1), (94, .aload_n 0, 1), (95, .iload_n 1, 1), (96, .invokevirtual 294, 3), (99, .ireturn, 1), (100, .aload_n 0, 1), (101, .iload_n 1, 1), (102, .iconst 3, 1), (103, .invokevirtual 73, 3), (106, .ireturn, 1), (107, .aload_n 0, 1), (108, .iload_n 1, 1), (109, .invokevirtual 291, 3), (112, .ireturn, 1), (113, .aload_n 0, 1), (114, .iload_n 2, 1), (115, .bipush 10, 2), (117, .isub, 1), (118, .invokevirtual 120, 3), (121, .ifCond .eq 15, 3), (124, .aload_n 0, 1), (125, .iload_n 1, 1), (126, .iload_n 2, 1), (127, .bipush 10, 2), (129, .isub, 1), (130, .invokevirtual 81, 3), (133, .goto 5, 3), (136, .bipush (-2), 2), (138, .ireturn, 1)]
def bI_217 : List (Nat × Instr × Nat) := [(0, .aload_n 0, 1), (1, .iload_n 1, 1), (2, .invokevirtual 258, 3), (5, .ifCond .eq 27, 3), (8, .iload_n 2, 1), (9, .iconst 0, 1), (10, .aload_n 0, 1), (11, .iload_n 1, 1), (12, .invokevirtual 279, 3), (15, .iconst 1, 1), (16, .isub, 1), (17, .invokestatic 77, 3), (20, .ifCond .eq 12, 3), (23, .aload_n 0, 1), (24, .iload_n 1, 1), (25, .iload_n 2, 1), (26, .invokevirtual 282, 3), (29, .goto 4, 3), (32, .iconst (-1), 1), (33, .ireturn, 1)]
def bI_218 : List (Nat × Instr × Nat) := [(0, .aload_n 0, 1), (1, .iload_n 1, 1), (2, .invokevirtual 258, 3), (5, .ifCond .eq 30, 3), (8, .iload_n 1, 1), (9, .iload_n 2, 1), (10, .if_icmp .eq 25, 3), (13, .iload_n 2, 1), (14, .iconst (-1), 1), (15, .if_icmp .eq 11, 3), (18, .aload_n 0, 1), (19, .iload_n 2, 1), (20, .invokevirtual 258, 3), (23, .ifCond .eq 12, 3), (26, .aload_n 0, 1), (27, .iload_n 1, 1), (28, .iload_n 2, 1), (29, .invokevirtual 288, 3), (32, .goto 4, 3), (35, .iconst (-1), 1), (36, .ireturn, 1)]
def bI_219 : List (Nat × Instr × Nat) := [(0, .iconst 0, 1), (1, .istore_n 1, 1), (2, .iload_n 1, 1), (3, .aload_n 0, 1), (4, .getfield 9, 3), (7, .iconst 5, 1), (8, .iaload, 1), (9, .if_icmp .ge 53, 3), (12, .aload_n 0, 1), (13, .getfield 51, 3), (16, .iload_n 1, 1), (17, .iconst 0, 1), (18, .bastore, 1), (19, .iconst (-1), 1), (20, .istore_n 2, 1), (21, .iload_n 2, 1), (22, .aload_n 0, 1), (23, .getfield 9, 3), (26, .iconst 5, 1), (27, .iaload, 1), (28, .if_icmp .ge 28, 3), (31, .aload_n 0, 1), (32, .getfield 58, 3), (35, .bipush 16, 2), (37, .iload_n 2, 1), (38, .iconst 1, 1), (39, .iadd, 1), (40, .imul, 1), (41, .iload_n 1, 1), (42, .iadd, 1), (43, .aload_n 0, 1), (44, .iload_n 1, 1), (45, .iload_n 2, 1), (46, .invokevirtual 288, 3), (49, .iastore, 1), (50, .iinc 2 1, 3), (53, .goto (-32), 3), (56, .iinc 1 1, 3), (59, .goto (-57), 3), (62, .return_, 1)]
def bI_220 : List (Nat × Instr × Nat) := [(0, .iconst (-1), 1), (1, .istore_n 1, 1), (2, .iconst 0, 1), (3, .istore_n 2, 1), (4, .iload_n 2, 1), (5, .aload_n 0, 1), (6, .getfield 9, 3), (9, .iconst 5, 1), (10, .iaload, 1), (11, .if_icmp .ge 111, 3), (14, .iconst (-1), 1), (15, .istore_n 3, 1), (16, .iconst 0, 1), (17, .istore 4, 2), (19, .iload 4, 2), (21, .aload_n 0, 1), (22, .getfield 9, 3), (25, .iconst 5, 1), (26, .iaload, 1), (27, .if_icmp .ge 73, 3), (30, .aload_n 0, 1), (31, .getfield 51, 3), (34, .iload 4, 2), (36, .baload, 1), (37, .ifCond .ne 42, 3), (40, .iload_n 3, 1), (41, .iconst (-1), 1), (42, .if_icmp .eq 33, 3), (45, .aload_n 0, 1), (46, .getfield 58, 3), (49, .bipush 16, 2), (51, .iload_n 1, 1), (52, .iconst 1, 1), (53, .iadd, 1), (54, .imul, 1), (55, .iload 4, 2), (57, .iadd, 1), (58, .iaload, 1), (59, .aload_n 0, 1), (60, .getfield 58, 3), (63, .bipush 16, 2), (65, .iload_n 1, 1), (66, .iconst 1, 1), (67, .iadd, 1), (68, .imul, 1), (69, .iload_n 3, 1), (70, .iadd, 1), (71, .iaload, 1), (72, .if_icmp .ge 7, 3), (75, .iconst 1, 1), (76, .goto 4, 3), (79, .iconst 0, 1), (80, .istore 5, 2), (82, .iload 5, 2), (84, .ifCond .eq 8, 3), (87, .iload 4, 2), (89, .goto 4, 3), (92, .iload_n 3, 1), (93, .istore_n 3, 1), (94, .iinc 4 1, 3), (97, .goto (-78), 3), (100, .aload_n 0, 1), (101, .getfield 51, 3), (104, .iload_n 3, 1), (105, .iconst 1, 1), (106, .bastore, 1), (107, .aload_n 0, 1), (108, .getfield 55, 3), (111, .iload_n 2, 1), (112, .iload_n 3, 1), (113, .iastore, 1), (114, .iload_n 3, 1), (115, .istore_n 1, 1), (116, .iinc 2 1, 3), (119, .goto (-115), 3), (122, .return_, 1)]
def bI_221 : List (Nat × Instr × Nat) := [(0, .iload_n 1, 1), (1, .aload_n 0, 1), (2, .getfield 9, 3), (5, .iconst 5, 1), (6, .iaload, 1), (7, .if_icmp .ne 53, 3), (10, .aload_n 0, 1), (11, .getfield 297, 3), (14, .ifCond .lt 11, 3), (17, .iload_n 3, 1), (18, .aload_n 0, 1), (19, .getfield 297, 3), (22, .if_icmp .ge 37, 3), (25, .aload_n 0, 1), (26, .iload_n 3, 1), (27, .putfield 297, 3), (30, .iconst 0, 1), (31, .istore 4, 2), (33, .iload 4, 2), (35, .iload_n 1, 1), (36, .if_icmp .ge 23, 3), (39, .aload_n 0, 1), (40, .getfield 55, 3), (43, .iload 4, 2), (45, .aload_n 0, 1), (46, .getfield 48, 3), (49, .iload 4, 2), (51, .iaload, 1), (52, .iastore, 1), (53, .iinc 4 1, 3), (56, .goto (-23), 3), (59, .return_, 1), (60, .iconst 0, 1), (61, .istore 4, 2), (63, .iload 4, 2), (65, .aload_n 0, 1), (66, .getfield 9, 3), (69, .iconst 5, 1), (70, .iaload, 1), (71, .if_icmp .ge 68, 3), (74, .aload_n 0, 1), (75, .getfield 51, 3), (78, .iload 4, 2), (80, .baload, 1), (81, .ifCond .ne 52, 3), (84, .aload_n 0, 1), (85, .getfield 51, 3), (88, .iload 4, 2), (90, .iconst 1, 1), (91, .bastore, 1), (92, .aload_n 0, 1), (93, .getfield 48, 3), (96, .iload_n 1, 1), (97, .iload 4, 2), (99, .iastore, 1), (100, .aload_n 0, 1), (101, .iload_n 1, 1), (102, .iconst 1, 1), (103, .iadd, 1), (104, .iload 4, 2), (106, .iload_n 3, 1), (107, .aload_n 0, 1), (108, .getfield 58, 3), (111, .bipush 16, 2), (113, .iload_n 2, 1), (114, .iconst 1, 1), (115, .iadd, 1), (116, .imul, 1), (117, .iload 4, 2), (119, .iadd, 1), (120, .iaload, 1), (121, .iadd, 1), (122, .invokevirtual 300, 3), (125, .aload_n 0, 1), (126, .getfield 51, 3), (129, .iload 4, 2), (131, .iconst 0, 1), (132, .bastore, 1), (133, .iinc 4 1, 3), (136, .goto (-73), 3), (139, .return_, 1)]
def bI_222 : List (Nat × Instr × Nat) := [(0, .aload_n 0, 1), (1, .invokevirtual 303, 3), (4, .aload_n 0, 1), (5, .iconst (-1), 1), (6, .putfield 297, 3), (9, .aload_n 0, 1), (10, .iconst 0, 1), (11, .iconst (-1), 1), (12, .iconst 0, 1), (13, .invokevirtual 300, 3), (16, .return_, 1)]
def bI_223 : List (Nat × Instr × Nat) := [(0, .iload_n 1, 1), (1, .iconst 0, 1), (2, .iconst 1, 1), (3, .invokestatic 77, 3), (6, .ifCond .ne 6, 3), (9, .bipush (-2), 2), (11, .ireturn, 1), (12, .iload_n 1, 1), (13, .iconst 1, 1), (14, .if_icmp .ne 17, 3), (17, .aload_n 0, 1), (18, .getfield 9, 3), (21, .iconst 5, 1), (22, .iaload, 1), (23, .bipush 7, 2), (25, .if_icmp .le 6, 3), (28, .bipush (-4), 2), (30, .ireturn, 1), (31, .iload_n 1, 1), (32, .ifCond .ne 14, 3), (35, .aload_n 0, 1), (36, .invokevirtual 303, 3), (39, .aload_n 0, 1), (40, .invokevirtual 306, 3), (43, .goto 7, 3), (46, .aload_n 0, 1), (47, .invokevirtual 309, 3), (50, .iconst 0, 1), (51, .istore_n 2, 1), (52, .iload_n 2, 1), (53, .bipush 12, 2), (55, .aload_n 0, 1), (56, .getfield 9, 3), (59, .iconst 5, 1), (60, .iaload, 1), (61, .imul, 1), (62, .if_icmp .ge 40, 3), (65, .aload_n 0, 1), (66, .getfield 61, 3), (69, .iload_n 2, 1), (70, .aload_n 0, 1), (71, .getfield 9, 3), (74, .bipush 90, 2), (76, .bipush 12, 2), (78, .aload_n 0, 1), (79, .getfield 55, 3), (82, .iload_n 2, 1), (83, .bipush 12, 2), (85, .idiv, 1), (86, .iaload, 1), (87, .imul, 1), (88, .iadd, 1), (89, .iload_n 2, 1), (90, .bipush 12, 2), (92, .irem, 1), (93, .iadd, 1), (94, .iaload, 1), (95, .iastore, 1), (96, .iinc 2 1, 3), (99, .goto (-47), 3), (102, .iconst 0, 1), (103, .istore_n 2, 1), (104, .iload_n 2, 1), (105, .bipush 12, 2), (107, .aload_n 0, 1), (108, .getfield 9, 3), (111, .iconst 5, 1), (112, .iaload, 1), (113, .imul, 1), (114, .if_icmp .ge 24, 3), (117, .aload_n 0, 1), (118, .getfield 9, 3), (121, .bipush 90, 2), (123, .iload_n 2, 1), (124, .iadd, 1), (125, .aload_n 0, 1), (126, .getfield 61, 3), (129, .iload_n 2, 1), (130, .iaload, 1), (131, .iastore, 1), (132, .iinc 2 1, 3), (135, .goto (-31), 3), (138, .aload_n 0, 1), (139, .invokevirtual 264, 3), (142, .ireturn, 1)]
def bI_224 : List (Nat × Instr × Nat) := [(0, .aload_n 0, 1), (1, .invokevirtual 100, 3), (4, .aload_n 0, 1), (5, .aload_n 0, 1), (6, .iload_n 1, 1), (7, .invokevirtual 312, 3), (10, .invokevirtual 114, 3), (13, .ireturn, 1)]
def bI_225 : List (Nat × Instr × Nat) := [(0, .aload_n 0, 1), (1, .getfield 9, 3), (4, .iconst 5, 1), (5, .iaload, 1), (6, .bipush 7, 2), (8, .if_icmp .le 6, 3), (11, .bipush (-4), 2), (13, .ireturn, 1), (14, .aload_n 0, 1), (15, .invokevirtual 309, 3), (18, .aload_n 0, 1), (19, .getfield 297, 3), (22, .ireturn, 1)]
def bI_226 : List (Nat × Instr × Nat) := [(0, .aload_n 0, 1), (1, .iload_n 1, 1), (2, .invokevirtual 258, 3), (5, .ifCond .ne 5, 3), (8, .iconst (-1), 1), (9, .ireturn, 1), (10, .aload_n 0, 1), (11, .iload_n 1, 1), (12, .iconst 3, 1), (13, .invokevirtual 73, 3), (16, .bipush (-5), 2), (18, .if_icmp .ne 17, 3), (21, .aload_n 0, 1), (22, .iload_n 1, 1), (23, .invokevirtual 291, 3), (26, .aload_n 0, 1), (27, .getfield 9, 3), (30, .iconst 2, 1), (31, .iaload, 1), (32, .if_icmp .ge 6, 3), (35, .bipush (-4), 2), (37, .ireturn, 1), (38, .aload_n 0, 1), (39, .getfield 9, 3), (42, .iconst 4, 1), (43, .iaload, 1), (44, .bipush 12, 2), (46, .if_icmp .ne 6, 3), (49, .bipush (-3), 2), (51, .ireturn, 1), (52, .aload_n 0, 1), (53, .invokevirtual 100, 3), (56, .aload_n 0, 1), (57, .invokevirtual 103, 3), (60, .aload_n 0, 1), (61, .aload_n 0, 1), (62, .aload_n 0, 1), (63, .iload_n 1, 1), (64, .iconst 0, 1), (65, .invokevirtual 73, 3), (68, .iconst 0, 1), (69, .invokevirtual 97, 3), (72, .aload_n 0, 1), (73, .iload_n 1, 1), (74, .invokevirtual 291, 3), (77, .aload_n 0, 1), (78, .iload_n 1, 1), (79, .iconst 1, 1), (80, .invokevirtual 73, 3), (83, .invokevirtual 106, 3), (86, .istore_n 2, 1), (87, .aload_n 0, 1), (88, .getfield 9, 3), (91, .bipush 90, 2), (93, .bipush 12, 2), (95, .iload_n 1, 1), (96, .imul, 1), (97, .iadd, 1), (98, .iconst 3, 1), (99, .iadd, 1), (100, .iload_n 2, 1), (101, .iastore, 1), (102, .iload_n 2, 1), (103, .ireturn, 1)]
def bI_227 : List (Nat × Instr × Nat) := [(0, .iconst 0, 1), (1, .istore_n 1, 1), (2, .iconst 0, 1), (3, .istore_n 2, 1), (4, .iload_n 2, 1), (5, .aload_n 0, 1), (6, .getfield 9, 3), (9, .iconst 3, 1), (10, .iaload, 1), (11, .if_icmp .ge 25, 3), (14, .iload_n 1, 1), (15, .aload_n 0, 1), (16, .iload_n 2, 1), (17, .invokevirtual 127, 3), (20, .ifCond .eq 7, 3), (23, .iconst 1, 1), (24, .goto 4, 3), (27, .iconst 0, 1), (28, .iadd, 1), (29, .istore_n 1, 1), (30, .iinc 2 1, 3), (33, .goto (-29), 3), (36, .iload_n 1, 1), (37, .ireturn, 1)]
def bI_228 : List (Nat × Instr × Nat) := [(0, .iconst 0, 1), (1, .istore_n 1, 1), (2, .iconst 0, 1), (3, .istore_n 2, 1), (4, .iload_n 2, 1), (5, .aload_n 0, 1), (6, .getfield 9, 3), (9, .iconst 5, 1), (10, .iaload, 1), (11, .if_icmp .ge 17, 3), (14, .iload_n 1, 1), (15, .aload_n 0, 1), (16, .iload_n 2, 1), (17, .invokevirtual 294, 3), (20, .iadd, 1), (21, .istore_n 1, 1), (22, .iinc 2 1, 3), (25, .goto (-21), 3), (28, .iload_n 1, 1), (29, .ireturn, 1)]
def bI_229 : List (Nat × Instr × Nat) := [(0, .iconst 0, 1), (1, .istore_n 1, 1), (2, .iconst 0, 1), (3, .istore_n 2, 1), (4, .iload_n 2, 1), (5, .aload_n 0, 1), (6, .getfield 9, 3), (9, .iconst 4, 1), (10, .iaload, 1), (11, .if_icmp .ge 24, 3), (14, .iload_n 1, 1), (15, .aload_n 0, 1), (16, .iload_n 2, 1), (17, .iconst 1, 1), (18, .invokevirtual 97, 3), (21, .aload_n 0, 1), (22, .iload_n 2, 1), (23, .invokevirtual 136, 3), (26, .imul, 1), (27, .iadd, 1), (28, .istore_n 1, 1), (29, .iinc 2 1, 3), (32, .goto (-28), 3), (35, .iload_n 1, 1), (36, .ireturn, 1)]
def bI_230 : List (Nat × Instr × Nat) := [(0, .iload_n 1, 1), (1, .iconst 0, 1), (2, .iconst 4, 1), (3, .invokestatic 77, 3), (6, .ifCond .ne 6, 3), (9, .bipush (-2), 2), (11, .ireturn, 1), (12, .aload_n 0, 1), (13, .invokevirtual 100, 3), (16, .aload_n 0, 1), (17, .invokevirtual 255, 3), (20, .istore_n 2, 1), (21, .iload_n 1, 1), (22, .ifCond .ne 7, 3), (25, .iload_n 2, 1), (26, .goto 43, 3), (29, .iload_n 1, 1), (30, .iconst 1, 1), (31, .if_icmp .ne 10, 3), (34, .aload_n 0, 1), (35, .invokevirtual 315, 3), (38, .goto 31, 3), (41, .iload_n 1, 1), (42, .iconst 2, 1), (43, .if_icmp .ne 10, 3), (46, .aload_n 0, 1), (47, .invokevirtual 318, 3), (50, .goto 19, 3), (53, .iload_n 1, 1), (54, .iconst 3, 1), (55, .if_icmp .ne 10, 3), (58, .aload_n 0, 1), (59, .invokevirtual 264, 3), (62, .goto 7, 3), (65, .aload_n 0, 1), (66, .invokevirtual 321, 3), (69, .istore_n 3, 1), (70, .aload_n 0, 1), (71, .invokevirtual 324, 3), (74, .iload_n 3, 1), (75, .ireturn, 1)]
def bI_231 : List (Nat × Instr × Nat) := [(0, .iconst 0, 1), (1, .istore_n 2, 1), (2, .iconst 0, 1), (3, .istore_n 3, 1), (4, .iload_n 3, 1), (5, .aload_n 0, 1), (6, .getfield 9, 3), (9, .iconst 4, 1), (10, .iaload, 1), (11, .if_icmp .ge 48, 3), (14, .iload_n 2, 1), (15, .aload_n 0, 1), (16, .iload_n 3, 1), (17, .invokevirtual 142, 3), (20, .bipush (-5), 2), (22, .if_icmp .eq 7, 3), (25, .iconst 1, 1), (26, .goto 4, 3), (29, .iconst 0, 1), (30, .iload_n 1, 1), (31, .if_icmp .ne 19, 3), (34, .aload_n 0, 1), (35, .iload_n 3, 1), (36, .iconst 1, 1), (37, .invokevirtual 97, 3), (40, .aload_n 0, 1), (41, .iload_n 3, 1), (42, .iconst 2, 1), (43, .invokevirtual 97, 3), (46, .imul, 1), (47, .goto 4, 3), (50, .iconst 0, 1), (51, .iadd, 1), (52, .istore_n 2, 1), (53, .iinc 3 1, 3), (56, .goto (-52), 3), (59, .iload_n 2, 1), (60, .ireturn, 1)]
def bI_232 : List (Nat × Instr × Nat) := [(0, .iconst 0, 1), (1, .istore_n 1, 1), (2, .iconst 0, 1), (3, .istore_n 2, 1), (4, .iload_n 2, 1), (5, .aload_n 0, 1), (6, .getfield 9, 3), (9, .iconst 3, 1), (10, .iaload, 1), (11, .if_icmp .ge 24, 3), (14, .iload_n 1, 1), (15, .aload_n 0, 1), (16, .iload_n 2, 1), (17, .iconst 1, 1), (18, .invokevirtual 84, 3), (21, .aload_n 0, 1), (22, .iload_n 2, 1), (23, .invokevirtual 91, 3), (26, .imul, 1), (27, .iadd, 1), (28, .istore_n 1, 1), (29, .iinc 2 1, 3), (32, .goto (-28), 3), (35, .iload_n 1, 1), (36, .ireturn, 1)]
def bI_233 : List (Nat × Instr × Nat) := [(0, .iload_n 1, 1), (1, .tableswitch 113 0 9 #[55, 61, 66, 71, 76, 81, 87, 92, 99, 106], 55), (56, .aload_n 0, 1), (57, .iconst 0, 1), (58, .invokevirtual 327, 3), (61, .ireturn, 1), (62, .aload_n 0, 1), (63, .invokevirtual 331, 3), (66, .ireturn, 1), (67, .aload_n 0, 1), (68, .invokevirtual 318, 3), (71, .ireturn, 1), (72, .aload_n 0, 1), (73, .invokevirtual 321, 3), (76, .ireturn, 1), (77, .aload_n 0, 1), (78, .invokevirtual 264, 3), (81, .ireturn, 1), (82, .aload_n 0, 1), (83, .iconst 1, 1), (84, .invokevirtual 327, 3), (87, .ireturn, 1), (88, .aload_n 0, 1), (89, .invokevirtual 315, 3), (92, .ireturn, 1), (93, .aload_n 0, 1), (94, .getfield 9, 3), (97, .iconst 5, 1), (98, .iaload, 1), (99, .ireturn, 1), (100, .aload_n 0, 1), (101, .getfield 9, 3), (104, .iconst 4, 1), (105, .iaload, 1), (106, .ireturn, 1), (107, .aload_n 0, 1), (108, .getfield 9, 3), (111, .iconst 3, 1), (112, .iaload, 1), (113, .ireturn, 1), (114, .bipush (-2), 2), (116, .ireturn, 1)]
def bI_234 : List (Nat × Instr × Nat) := [(0, .iconst 0, 1), (1, .istore_n 3, 1), (2, .iconst 0, 1), (3, .istore 4, 2), (5, .iload 4, 2), (7, .aload_n 0, 1), (8, .getfield 9, 3), (11, .iconst 3, 1), (12, .iaload, 1), (13, .if_icmp .ge 41, 3), (16, .iload_n 3, 1), (17, .aload_n 0, 1), (18, .iload 4, 2), (20, .iconst 0, 1), (21, .invokevirtual 84, 3), (24, .iload_n 1, 1), (25, .if_icmp .ne 20, 3), (28, .iload_n 2, 1), (29, .ifCond .eq 12, 3), (32, .aload_n 0, 1), (33, .iload 4, 2), (35, .invokevirtual 127, 3), (38, .ifCond .eq 7, 3), (41, .iconst 1, 1), (42, .goto 4, 3), (45, .iconst 0, 1), (46, .iadd, 1), (47, .istore_n 3, 1), (48, .iinc 4 1, 3), (51, .goto (-46), 3), (54, .iload_n 3, 1), (55, .ireturn, 1)]
def bI_235 : List (Nat × Instr × Nat) := [(0, .iconst 0, 1), (1, .istore_n 3, 1), (2, .iconst 0, 1), (3, .istore 4, 2), (5, .iload 4, 2), (7, .aload_n 0, 1), (8, .getfield 9, 3), (11, .iconst 4, 1), (12, .iaload, 1), (13, .if_icmp .ge 66, 3), (16, .iload_n 2, 1), (17, .ifCond .eq 20, 3), (20, .aload_n 0, 1), (21, .iload 4, 2), (23, .iconst 1, 1), (24, .invokevirtual 97, 3), (27, .aload_n 0, 1), (28, .iload 4, 2), (30, .invokevirtual 136, 3), (33, .imul, 1), (34, .goto 17, 3), (37, .aload_n 0, 1), (38, .iload 4, 2), (40, .invokevirtual 136, 3), (43, .ifCond .le 7, 3), (46, .iconst 1, 1), (47, .goto 4, 3), (50, .iconst 0, 1), (51, .istore 5, 2), (53, .iload_n 3, 1), (54, .aload_n 0, 1), (55, .iload 4, 2), (57, .iconst 0, 1), (58, .invokevirtual 97, 3), (61, .iload_n 1, 1), (62, .if_icmp .ne 8, 3), (65, .iload 5, 2), (67, .goto 4, 3), (70, .iconst 0, 1), (71, .iadd, 1), (72, .istore_n 3, 1), (73, .iinc 4 1, 3), (76, .goto (-71), 3), (79, .iload_n 3, 1), (80, .ireturn, 1)]
def bI_236 : List (Nat × Instr × Nat) := [(0, .iconst 0, 1), (1, .istore_n 2, 1), (2, .iconst 0, 1), (3, .istore_n 3, 1), (4, .iload_n 3, 1), (5, .aload_n 0, 1), (6, .getfield 9, 3), (9, .iconst 5, 1), (10, .iaload, 1), (11, .if_icmp .ge 36, 3), (14, .iload_n 2, 1), (15, .aload_n 0, 1), (16, .aload_n 0, 1), (17, .iload_n 3, 1), (18, .iconst 0, 1), (19, .invokevirtual 73, 3), (22, .iconst 0, 1), (23, .invokevirtual 97, 3), (26, .iload_n 1, 1), (27, .if_icmp .ne 11, 3), (30, .aload_n 0, 1), (31, .iload_n 3, 1), (32, .invokevirtual 294, 3), (35, .goto 4, 3), (38, .iconst 0, 1), (39, .iadd, 1), (40, .istore_n 2, 1), (41, .iinc 3 1, 3), (44, .goto (-40), 3), (47, .iload_n 2, 1), (48, .ireturn, 1)]
def bI_237 : List (Nat × Instr × Nat) := [(0, .iconst 0, 1), (1, .istore_n 2, 1), (2, .iconst 0, 1), (3, .istore_n 3, 1), (4, .iload_n 3, 1), (5, .aload_n 0, 1), (6, .getfield 9, 3), (9, .iconst 5, 1), (10, .iaload, 1), (11, .if_icmp .ge 96, 3), (14, .iconst 0, 1), (15, .istore 4, 2), (17, .iload 4, 2), (19, .aload_n 0, 1), (20, .getfield 9, 3), (23, .iconst 3, 1), (24, .iaload, 1), (25, .if_icmp .ge 76, 3), (28, .aload_n 0, 1), (29, .aload_n 0, 1), (30, .iload_n 3, 1), (31, .iconst 0, 1), (32, .invokevirtual 73, 3), (35, .iconst 0, 1), (36, .invokevirtual 97, 3), (39, .iload_n 1, 1), (40, .if_icmp .ne 18, 3), (43, .aload_n 0, 1), (44, .iload 4, 2), (46, .iconst 0, 1), (47, .invokevirtual 84, 3), (50, .iload_n 1, 1), (51, .if_icmp .le 7, 3), (54, .iconst 1, 1), (55, .goto 4, 3), (58, .iconst 0, 1), (59, .istore 5, 2), (61, .iload_n 2, 1), (62, .iload 5, 2), (64, .ifCond .eq 28, 3), (67, .aload_n 0, 1), (68, .iload_n 3, 1), (69, .iload 4, 2), (71, .invokevirtual 81, 3), (74, .aload_n 0, 1), (75, .iload_n 3, 1), (76, .iconst 1, 1), (77, .invokevirtual 73, 3), (80, .imul, 1), (81, .aload_n 0, 1), (82, .iload 4, 2), (84, .iconst 1, 1), (85, .invokevirtual 84, 3), (88, .imul, 1), (89, .goto 4, 3), (92, .iconst 0, 1), (93, .iadd, 1), (94, .istore_n 2, 1), (95, .iinc 4 1, 3), (98, .goto (-81), 3), (101, .iinc 3 1, 3), (104, .goto (-100), 3), (107, .iload_n 2, 1), (108, .ireturn, 1)]
def bI_238 : List (Nat × Instr × Nat) := [(0, .iload_n 1, 1), (1, .iconst 0, 1), (2, .iconst 3, 1), (3, .invokestatic 77, 3), (6, .ifCond .ne 6, 3), (9, .bipush (-2), 2), (11, .ireturn, 1), (12, .iload_n 2, 1), (13, .tableswitch 83 0 5 #[39, 39, 55, 55, 71, 77], 39), (52, .aload_n 0, 1), (53, .iload_n 1, 1), (54, .iload_n 2, 1), (55, .iconst 1, 1), (56, .if_icmp .ne 7, 3), (59, .iconst 1, 1), (60, .goto 4, 3), (63, .iconst 0, 1), (64, .invokevirtual 334, 3), (67, .ireturn, 1), (68, .aload_n 0, 1), (69, .iload_n 1, 1), (70, .iload_n 2, 1), (71, .iconst 3, 1), (72, .if_icmp .ne 7, 3), (75, .iconst 1, 1), (76, .goto 4, 3), (79, .iconst 0, 1), (80, .invokevirtual 338, 3), (83, .ireturn, 1), (84, .aload_n 0, 1), (85, .iload_n 1, 1), (86, .invokevirtual 341, 3), (89, .ireturn, 1), (90, .aload_n 0, 1), (91, .iload_n 1, 1), (92, .invokevirtual 344, 3), (95, .ireturn, 1), (96, .bipush (-2), 2), (98, .ireturn, 1)]
def bI_239 : List (Nat × Instr × Nat) := [(0, .aload_n 0, 1), (1, .getfield 205, 3), (4, .istore_n 1, 1), (5, .aload_n 0, 1), (6, .bipush 97, 2), (8, .bipush 122, 2), (10, .invokevirtual 212, 3), (13, .ifCond .eq 16, 3), (16, .aload_n 0, 1), (17, .dup, 1), (18, .getfield 205, 3), (21, .iconst 1, 1), (22, .iadd, 1), (23, .putfield 205, 3), (26, .goto (-21), 3), (29, .iconst 0, 1), (30, .istore_n 2, 1), (31, .iconst 0, 1), (32, .istore_n 3, 1), (33, .iload_n 3, 1), (34, .bipush 6, 2), (36, .if_icmp .ge 104, 3), (39, .iload_n 2, 1), (40, .istore 4, 2), (42, .iconst 1, 1), (43, .istore 5, 2), (45, .aload_n 0, 1), (46, .getfield 64, 3), (49, .iload 4, 2), (51, .caload, 1), (52, .bipush 32, 2), (54, .if_icmp .eq 55, 3), (57, .iload 5, 2), (59, .ifCond .eq 41, 3), (62, .iload_n 1, 1), (63, .iload 4, 2), (65, .iadd, 1), (66, .iload_n 2, 1), (67, .isub, 1), (68, .aload_n 0, 1), (69, .getfield 205, 3), (72, .if_icmp .ge 28, 3), (75, .aload_n 0, 1), (76, .getfield 22, 3), (79, .iload_n 1, 1), (80, .iload 4, 2), (82, .iadd, 1), (83, .iload_n 2, 1), (84, .isub, 1), (85, .caload, 1), (86, .aload_n 0, 1), (87, .getfield 64, 3), (90, .iload 4, 2), (92, .caload, 1), (93, .if_icmp .ne 7, 3), (96, .iconst 1, 1), (97, .goto 4, 3), (100, .iconst 0, 1), (101, .istore 5, 2), (103, .iinc 4 1, 3), (106, .goto (-61), 3), (109, .iload 5, 2), (111, .ifCond .eq 18, 3), (114, .iload 4, 2), (116, .iload_n 2, 1), (117, .isub, 1), (118, .aload_n 0, 1), (119, .getfield 205, 3), (122, .iload_n 1, 1), (123, .isub, 1), (124, .if_icmp .ne 5, 3), (127, .iload_n 3, 1), (128, .ireturn, 1), (129, .iload 4, 2), (131, .iconst 1, 1), (132, .iadd, 1), (133, .istore_n 2, 1), (134, .iinc 3 1, 3), (137, .goto (-104), 3), (140, .aload_n 0, 1), (141, .iload_n 1, 1), (142, .putfield 205, 3), (145, .iconst (-1), 1), (146, .ireturn, 1)]
def bI_240 : List (Nat × Instr × Nat) := [(0, .aload_n 0, 1), (1, .bipush 48, 2), (3, .invokevirtual 216, 3), (6, .istore_n 1, 1), (7, .iconst 1, 1), (8, .istore_n 2, 1), (9, .iload_n 2, 1), (10, .iconst 3, 1), (11, .if_icmp .ge 32, 3), (14, .aload_n 0, 1), (15, .bipush 48, 2), (17, .bipush 57, 2), (19, .invokevirtual 212, 3), (22, .ifCond .eq 21, 3), (25, .bipush 10, 2), (27, .iload_n 1, 1), (28, .imul, 1), (29, .aload_n 0, 1), (30, .bipush 48, 2), (32, .invokevirtual 216, 3), (35, .iadd, 1), (36, .istore_n 1, 1), (37, .iinc 2 1, 3), (40, .goto (-31), 3), (43, .iload_n 1, 1), (44, .ireturn, 1)]
def bI_241 : List (Nat × Instr × Nat) := [(0, .iload_n 0, 1), (1, .ifCond .ne 7, 3), (4, .iconst 5, 1), (5, .goto 22, 3), (8, .iload_n 0, 1), (9, .iconst 1, 1), (10, .if_icmp .ne 7, 3), (13, .iconst 3, 1), (14, .goto 13, 3), (17, .iload_n 0, 1), (18, .iconst 3, 1), (19, .if_icmp .ne 7, 3), (22, .iconst 0, 1), (23, .goto 4, 3), (26, .iconst 1, 1), (27, .ireturn, 1)]
def bI_242 : List (Nat × Instr × Nat) := [(0, .aload_n 0, 1), (1, .invokevirtual 347, 3), (4, .istore_n 1, 1), (5, .iload_n 1, 1), (6, .iconst 0, 1), (7, .iconst 4, 1), (8, .invokestatic 77, 3), (11, .ifCond .ne 30, 3), (14, .aload_n 0, 1), (15, .dup, 1), (16, .getfield 205, 3), (19, .iload_n 1, 1), (20, .iconst 5, 1), (21, .if_icmp .ne 8, 3), (24, .bipush 6, 2), (26, .goto 4, 3), (29, .iconst 0, 1), (30, .isub, 1), (31, .putfield 205, 3), (34, .aload_n 0, 1), (35, .iconst 1, 1), (36, .putfield 208, 3), (39, .iconst (-1), 1), (40, .ireturn, 1), (41, .iconst 0, 1), (42, .istore_n 2, 1), (43, .iload_n 2, 1), (44, .iload_n 1, 1), (45, .invokestatic 350, 3), (48, .if_icmp .ge 43, 3), (51, .aload_n 0, 1), (52, .getfield 208, 3), (55, .ifCond .ne 36, 3), (58, .aload_n 0, 1), (59, .bipush 32, 2), (61, .invokevirtual 220, 3), (64, .aload_n 0, 1), (65, .getfield 67, 3), (68, .iload_n 2, 1), (69, .aload_n 0, 1), (70, .getfield 208, 3), (73, .ifCond .eq 7, 3), (76, .iconst 0, 1), (77, .goto 7, 3), (80, .aload_n 0, 1), (81, .invokevirtual 353, 3), (84, .iastore, 1), (85, .iinc 2 1, 3), (88, .goto (-45), 3), (91, .aload_n 0, 1), (92, .iconst 0, 1), (93, .putfield 356, 3), (96, .iload_n 1, 1), (97, .ifCond .ne 85, 3), (100, .aload_n 0, 1), (101, .bipush 32, 2), (103, .bipush 32, 2), (105, .invokevirtual 212, 3), (108, .ifCond .eq 74, 3), (111, .aload_n 0, 1), (112, .dup, 1), (113, .getfield 205, 3), (116, .iconst 1, 1), (117, .iadd, 1), (118, .putfield 205, 3), (121, .aload_n 0, 1), (122, .invokevirtual 347, 3), (125, .istore_n 2, 1), (126, .aload_n 0, 1), (127, .dup, 1), (128, .getfield 205, 3), (131, .iload_n 2, 1), (132, .iconst 0, 1), (133, .iconst 4, 1), (134, .invokestatic 77, 3), (137, .ifCond .eq 10, 3), (140, .iload_n 2, 1), (141, .invokestatic 359, 3), (144, .goto 4, 3), (147, .iconst 0, 1), (148, .isub, 1), (149, .putfield 205, 3), (152, .aload_n 0, 1), (153, .iload_n 2, 1), (154, .iconst 5, 1), (155, .if_icmp .ne 7, 3), (158, .iconst 1, 1), (159, .goto 4, 3), (162, .iconst 0, 1), (163, .putfield 356, 3), (166, .aload_n 0, 1), (167, .aload_n 0, 1), (168, .getfield 356, 3), (171, .ifCond .ne 7, 3), (174, .iconst 1, 1), (175, .goto 4, 3), (178, .iconst 0, 1), (179, .putfield 208, 3), (182, .iload_n 1, 1), (183, .ireturn, 1)]
def bI_243 : List (Nat × Instr × Nat) := [(0, .iload_n 0, 1), (1, .ifCond .ne 7, 3), (4, .iconst 5, 1), (5, .goto 23, 3), (8, .iload_n 0, 1), (9, .iconst 1, 1), (10, .if_icmp .ne 7, 3), (13, .iconst 4, 1), (14, .goto 14, 3), (17, .iload_n 0, 1), (18, .iconst 4, 1), (19, .if_icmp .ne 8, 3), (22, .bipush 7, 2), (24, .goto 4, 3), (27, .iconst 3, 1), (28, .ireturn, 1)]
def bI_244 : List (Nat × Instr × Nat) := [(0, .iload_n 1, 1), (1, .tableswitch 117 0 3 #[31, 78, 101, 112], 31), (32, .aload_n 0, 1), (33, .aload_n 0, 1), (34, .getfield 67, 3), (37, .iconst 0, 1), (38, .iaload, 1), (39, .aload_n 0, 1), (40, .getfield 67, 3), (43, .iconst 1, 1), (44, .iaload, 1), (45, .aload_n 0, 1), (46, .getfield 67, 3), (49, .iconst 2, 1), (50, .iaload, 1), (51, .aload_n 0, 1), (52, .getfield 67, 3), (55, .iconst 3, 1), (56, .iaload, 1), (57, .aload_n 0, 1), (58, .getfield 67, 3), (61, .iconst 4, 1), (62, .iaload, 1), (63, .aload_n 0, 1), (64, .getfield 356, 3), (67, .ifCond .eq 7, 3), (70, .iconst 1, 1), (71, .goto 4, 3), (74, .iconst 0, 1), (75, .invokevirtual 110, 3), (78, .ireturn, 1), (79, .aload_n 0, 1), (80, .aload_n 0, 1), (81, .getfield 67, 3), (84, .iconst 0, 1), (85, .iaload, 1), (86, .aload_n 0, 1), (87, .getfield 67, 3), (90, .iconst 1, 1), (91, .iaload, 1), (92, .aload_n 0, 1), (93, .getfield 67, 3), (96, .iconst 2, 1), (97, .iaload, 1), (98, .invokevirtual 117, 3), (101, .ireturn, 1), (102, .aload_n 0, 1), (103, .aload_n 0, 1), (104, .getfield 67, 3), (107, .iconst 0, 1), (108, .iaload, 1), (109, .invokevirtual 249, 3), (112, .ireturn, 1), (113, .aload_n 0, 1), (114, .invokevirtual 255, 3), (117, .ireturn, 1), (118, .aload_n 0, 1), (119, .aload_n 0, 1), (120, .getfield 67, 3), (123, .iconst 0, 1), (124, .iaload, 1), (125, .invokevirtual 312, 3), (128, .ireturn, 1)]
def bI_245 : List (Nat × Instr × Nat) := [(0, .iconst 0, 1), (1, .istore_n 2, 1), (2, .iconst 0, 1), (3, .istore_n 3, 1), (4, .iconst 1, 1), (5, .istore 4, 2), (7, .iload 4, 2), (9, .ifCond .eq 109, 3), (12, .aload_n 0, 1), (13, .getfield 208, 3), (16, .ifCond .ne 102, 3), (19, .iload_n 3, 1), (20, .ifCond .lt 98, 3), (23, .aload_n 0, 1), (24, .invokevirtual 362, 3), (27, .istore 5, 2), (29, .aload_n 0, 1), (30, .getfield 208, 3), (33, .ifCond .ne 7, 3), (36, .iload_n 1, 1), (37, .ifCond .ne 7, 3), (40, .iconst 0, 1), (41, .goto 9, 3), (44, .aload_n 0, 1), (45, .iload 5, 2), (47, .invokevirtual 365, 3), (50, .istore_n 3, 1), (51, .aload_n 0, 1), (52, .bipush 59, 2), (54, .bipush 59, 2), (56, .invokevirtual 212, 3), (59, .istore 4, 2), (61, .aload_n 0, 1), (62, .aload_n 0, 1), (63, .getfield 208, 3), (66, .ifCond .ne 19, 3), (69, .iload 4, 2), (71, .ifCond .ne 18, 3), (74, .aload_n 0, 1), (75, .getfield 205, 3), (78, .aload_n 0, 1), (79, .getfield 202, 3), (82, .if_icmp .ge 7, 3), (85, .iconst 1, 1), (86, .goto 4, 3), (89, .iconst 0, 1), (90, .putfield 208, 3), (93, .aload_n 0, 1), (94, .dup, 1), (95, .getfield 205, 3), (98, .iload 4, 2), (100, .ifCond .eq 7, 3), (103, .iconst 1, 1), (104, .goto 4, 3), (107, .iconst 0, 1), (108, .iadd, 1), (109, .putfield 205, 3), (112, .iinc 2 1, 3), (115, .goto (-108), 3), (118, .iload_n 3, 1), (119, .ifCond .ge 18, 3), (122, .aload_n 0, 1), (123, .iload_n 3, 1), (124, .putfield 26, 3), (127, .aload_n 0, 1), (128, .iload_n 2, 1), (129, .iconst 1, 1), (130, .isub, 1), (131, .putfield 30, 3), (134, .bipush (-4), 2), (136, .ireturn, 1), (137, .iload_n 2, 1), (138, .ireturn, 1)]
def bI_246 : List (Nat × Instr × Nat) := [(0, .aload_n 0, 1), (1, .invokevirtual 224, 3), (4, .aload_n 0, 1), (5, .iconst 0, 1), (6, .invokevirtual 368, 3), (9, .istore_n 1, 1), (10, .aload_n 0, 1), (11, .getfield 208, 3), (14, .ifCond .eq 12, 3), (17, .sipush (-1000), 3), (20, .aload_n 0, 1), (21, .getfield 205, 3), (24, .isub, 1), (25, .ireturn, 1), (26, .aload_n 0, 1), (27, .invokevirtual 100, 3), (30, .aload_n 0, 1), (31, .iconst 0, 1), (32, .putfield 205, 3), (35, .aload_n 0, 1), (36, .iconst 1, 1), (37, .invokevirtual 368, 3), (40, .istore_n 2, 1), (41, .iload_n 2, 1), (42, .bipush (-4), 2), (44, .if_icmp .ne 10, 3), (47, .aload_n 0, 1), (48, .invokevirtual 324, 3), (51, .bipush (-4), 2), (53, .ireturn, 1), (54, .aload_n 0, 1), (55, .invokevirtual 103, 3), (58, .iload_n 1, 1), (59, .ireturn, 1)]
def bI_247 : List (Nat × Instr × Nat) := [(0, .iload_n 1, 1), (1, .iconst 0, 1), (2, .iconst 1, 1), (3, .invokestatic 77, 3), (6, .ifCond .ne 6, 3), (9, .bipush (-2), 2), (11, .ireturn, 1), (12, .iload_n 1, 1), (13, .ifCond .ne 10, 3), (16, .aload_n 0, 1), (17, .getfield 26, 3), (20, .goto 7, 3), (23, .aload_n 0, 1), (24, .getfield 30, 3), (27, .ireturn, 1)]
def bI_248 : List (Nat × Instr × Nat) := [(0, .aload_n 0, 1), (1, .getfield 70, 3), (4, .ifCond .ne 6, 3), (7, .bipush (-5), 2), (9, .ireturn, 1), (10, .aload_n 0, 1), (11, .dup, 1), (12, .getfield 70, 3), (15, .iconst 1, 1), (16, .isub, 1), (17, .putfield 70, 3), (20, .iconst 0, 1), (21, .istore_n 1, 1), (22, .iload_n 1, 1), (23, .sipush 282, 3), (26, .if_icmp .ge 30, 3), (29, .aload_n 0, 1), (30, .getfield 9, 3), (33, .iload_n 1, 1), (34, .aload_n 0, 1), (35, .getfield 13, 3), (38, .sipush 282, 3), (41, .aload_n 0, 1), (42, .getfield 70, 3), (45, .imul, 1), (46, .iload_n 1, 1), (47, .iadd, 1), (48, .iaload, 1), (49, .iastore, 1), (50, .iinc 1 1, 3), (53, .goto (-31), 3), (56, .aload_n 0, 1), (57, .getfield 70, 3), (60, .ireturn, 1)]
def bI_249 : List (Nat × Instr × Nat) := [(0, .aload_n 0, 1), (1, .iconst 1, 1), (2, .putfield 371, 3), (5, .iconst 0, 1), (6, .istore_n 1, 1), (7, .iload_n 1, 1), (8, .sipush 282, 3), (11, .if_icmp .ge 21, 3), (14, .aload_n 0, 1), (15, .getfield 16, 3), (18, .iload_n 1, 1), (19, .aload_n 0, 1), (20, .getfield 9, 3), (23, .iload_n 1, 1), (24, .iaload, 1), (25, .iastore, 1), (26, .iinc 1 1, 3), (29, .goto (-22), 3), (32, .aload_n 0, 1), (33, .getfield 9, 3), (36, .iconst 5, 1), (37, .iaload, 1), (38, .ireturn, 1)]
def bI_250 : List (Nat × Instr × Nat) := [(0, .aload_n 0, 1), (1, .getfield 371, 3), (4, .ifCond .ne 6, 3), (7, .bipush (-5), 2), (9, .ireturn, 1), (10, .iconst 0, 1), (11, .istore_n 1, 1), (12, .iload_n 1, 1), (13, .sipush 282, 3), (16, .if_icmp .ge 21, 3), (19, .aload_n 0, 1), (20, .getfield 9, 3), (23, .iload_n 1, 1), (24, .aload_n 0, 1), (25, .getfield 16, 3), (28, .iload_n 1, 1), (29, .iaload, 1), (30, .iastore, 1), (31, .iinc 1 1, 3), (34, .goto (-22), 3), (37, .aload_n 0, 1), (38, .iconst 0, 1), (39, .putfield 70, 3), (42, .aload_n 0, 1), (43, .getfield 9, 3), (46, .iconst 5, 1), (47, .iaload, 1), (48, .ireturn, 1)]
def bI_251 : List (Nat × Instr × Nat) := [(0, .iload_n 1, 1), (1, .tableswitch 66 0 4 #[35, 40, 45, 52, 59], 35), (36, .aload_n 0, 1), (37, .getfield 70, 3), (40, .ireturn, 1), (41, .aload_n 0, 1), (42, .getfield 161, 3), (45, .ireturn, 1), (46, .aload_n 0, 1), (47, .getfield 9, 3), (50, .iconst 0, 1), (51, .iaload, 1), (52, .ireturn, 1), (53, .aload_n 0, 1), (54, .getfield 9, 3), (57, .iconst 1, 1), (58, .iaload, 1), (59, .ireturn, 1), (60, .aload_n 0, 1), (61, .getfield 9, 3), (64, .iconst 2, 1), (65, .iaload, 1), (66, .ireturn, 1), (67, .bipush (-2), 2), (69, .ireturn, 1)]
def bI_252 : List (Nat × Instr × Nat) := [(0, .aload_n 0, 1), (1, .getfield 9, 3), (4, .arraylength, 1), (5, .aload_n 0, 1), (6, .invokevirtual 335, 3), (9, .ishr, 1), (10, .ireturn, 1)]
def bI_253 : List (Nat × Instr × Nat) := [(0, .aload_n 0, 1), (1, .invokevirtual 492, 3), (4, .ifCond .eq 12, 3), (7, .aload_n 0, 1), (8, .getfield 9, 3), (11, .iload_n 1, 1), (12, .invokestatic 495, 3), (15, .ireturn, 1), (16, .aload_n 0, 1), (17, .getfield 9, 3), (20, .iload_n 1, 1), (21, .invokestatic 498, 3), (24, .ireturn, 1)]
def bI_254 : List (Nat × Instr × Nat) := [(0, .getstatic 38, 3), (3, .ifCond .eq 10, 3), (6, .aload_n 0, 1), (7, .getfield 15, 3), (10, .goto 4, 3), (13, .iconst 1, 1), (14, .ireturn, 1)]
def bI_255 : List (Nat × Instr × Nat) := [(0, .getstatic 38, 3), (3, .ifCond .eq 14, 3), (6, .aload_n 0, 1), (7, .getfield 15, 3), (10, .ifCond .ne 7, 3), (13, .iconst 1, 1), (14, .goto 4, 3), (17, .iconst 0, 1), (18, .ireturn, 1)]
def bI_256 : List (Nat × Instr × Nat) := [(0, .iload_n 0, 1), (1, .iload_n 1, 1), (2, .getstatic 1053, 3), (5, .invokestatic 1059, 3), (8, .pop, 1), (9, .return_, 1)]
def bI_257 : List (Nat × Instr × Nat) := [(0, .iload_n 1, 1), (1, .aload_n 0, 1), (2, .arraylength, 1), (3, .invokestatic 9, 3), (6, .aload_n 0, 1), (7, .iload_n 1, 1), (8, .baload, 1), (9, .sipush 255, 3), (12, .iand, 1), (13, .i2c, 1), (14, .ireturn, 1)]
def bI_258 : List (Nat × Instr × Nat) := [(0, .getstatic 44, 3), (3, .ifCond .ne 25, 3), (6, .iload_n 1, 1), (7, .ifCond .lt 11, 3), (10, .iload_n 1, 1), (11, .aload_n 0, 1), (12, .invokestatic 48, 3), (15, .if_icmp .lt 13, 3), (18, .new 52, 3), (21, .dup, 1), (22, .ldc 54, 2), (24, .invokespecial 56, 3), (27, .athrow, 1), (28, .iload_n 1, 1), (29, .iconst 1, 1), (30, .ishl, 1), (31, .istore_n 1, 1), (32, .aload_n 0, 1), (33, .iload_n 1, 1), (34, .iinc 1 1, 3), (37, .baload, 1), (38, .sipush 255, 3), (41, .iand, 1), (42, .getstatic 59, 3), (45, .ishl, 1), (46, .aload_n 0, 1), (47, .iload_n 1, 1), (48, .baload, 1), (49, .sipush 255, 3), (52, .iand, 1), (53, .getstatic 63, 3), (56, .ishl, 1), (57, .ior, 1), (58, .i2c, 1), (59, .ireturn, 1)]
def bI_259 : List (Nat × Instr × Nat) := [(0, .aload_n 0, 1), (1, .arraylength, 1), (2, .iconst 1, 1), (3, .ishr, 1), (4, .ireturn, 1)]
def bI_260 : List (Nat × Instr × Nat) := [(0, .iload_n 1, 1), (1, .aload_n 0, 1), (2, .invokestatic 67, 3), (5, .aload_n 0, 1), (6, .iload_n 1, 1), (7, .invokestatic 71, 3), (10, .ireturn, 1)]
def bI_261 : List (Nat × Instr × Nat) := [(0, .iload_n 0, 1), (1, .aload_n 1, 1), (2, .invokestatic 48, 3), (5, .invokestatic 414, 3), (8, .return_, 1)]
def bI_262 : List (Nat × Instr × Nat) := [(0, .iload_n 0, 1), (1, .ifCond .lt 8, 3), (4, .iload_n 0, 1), (5, .iload_n 1, 1), (6, .if_icmp .lt 10, 3), (9, .aload_n 2, 1), (10, .iload_n 0, 1), (11, .iload_n 1, 1), (12, .invokestatic 95, 3), (15, .athrow, 1), (16, .iload_n 0, 1), (17, .ireturn, 1)]
def bI_263 : List (Nat × Instr × Nat) := [(0, .iconst 0, 1), (1, .istore_n 2, 1), (2, .aload_n 0, 1), (3, .arraylength, 1), (4, .istore_n 3, 1), (5, .iload_n 2, 1), (6, .iload_n 3, 1), (7, .if_icmp .ge 13, 3), (10, .aload_n 0, 1), (11, .iload_n 2, 1), (12, .iload_n 1, 1), (13, .iastore, 1), (14, .iinc 2 1, 3), (17, .goto (-12), 3), (20, .return_, 1)]
def bI_264 : List (Nat × Instr × Nat) := [(0, .iload_n 0, 1), (1, .iload_n 1, 1), (2, .if_icmp .lt 7, 3), (5, .iload_n 0, 1), (6, .goto 4, 3), (9, .iload_n 1, 1), (10, .ireturn, 1)]
def bI_265 : List (Nat × Instr × Nat) := [(0, .iload_n 0, 1), (1, .iload_n 1, 1), (2, .if_icmp .gt 7, 3), (5, .iload_n 0, 1), (6, .goto 4, 3), (9, .iload_n 1, 1), (10, .ireturn, 1)]
def bI_266 : List (Nat × Instr × Nat) := bIL_0 ++ (bIL_1 ++ (bIL_2 ++ bIL_3))
def bM_0 : List bEnt := [(0, ⟨"PaperCutter$Arranger", "<init>", "()V"⟩, prog_2_method_1_code, 1, .none, 1, false), (0, ⟨"PaperCutter$Arranger", "look", "(LPaperCutter$Plan;)V"⟩, prog_2_method_2_code, 4, .none, 2, false), (0, ⟨"PaperCutter$Arranger", "seekLeast", "()V"⟩, prog_2_method_3_code, 1, .none, 1, false), (0, ⟨"PaperCutter$Arranger", "trySequences", "(LPaperCutter$Arranger;III)V"⟩, prog_2_method_4_code, 6, .none, 4, true), (0, ⟨"PaperCutter$Arranger", "reorder", "([LPaperCutter$Run;)V"⟩, prog_2_method_5_code, 3, .none, 2, false), (0, ⟨"PaperCutter$Arranger", "leastBySets", "()I"⟩, prog_2_method_6_code, 4, .some .int, 1, false), (0, ⟨"PaperCutter$Arranger", "leastWithLast", "(II)I"⟩, prog_2_method_7_code, 4, .some .int, 3, false), (0, ⟨"PaperCutter$Arranger", "leastOf", "(II)I"⟩, prog_2_method_8_code, 6, .some .int, 3, false), (1, ⟨"PaperCutter$Command", "<init>", "()V"⟩, prog_3_method_1_code, 1, .none, 1, false), (2, ⟨"PaperCutter$Order", "<init>", "()V"⟩, prog_4_method_1_code, 1, .none, 1, false), (2, ⟨"PaperCutter$Order", "copyFrom", "(LPaperCutter$Order;)V"⟩, prog_4_method_2_code, 2, .none, 2, false), (2, ⟨"PaperCutter$Order", "isAheadOf", "(LPaperCutter$Order;)Z"⟩, prog_4_method_3_code, 2, .some .boolean, 2, false), (3, ⟨"PaperCutter$Plan", "<init>", "()V"⟩, prog_5_method_1_code, 2, .none, 1, false), (3, ⟨"PaperCutter$Plan", "copyFrom", "(LPaperCutter$Plan;)V"⟩, prog_5_method_2_code, 3, .none, 2, false), (3, ⟨"PaperCutter$Plan", "hasOrder", "(I)Z"⟩, prog_5_method_3_code, 2, .some .boolean, 2, false), (3, ⟨"PaperCutter$Plan", "hasRoll", "(I)Z"⟩, prog_5_method_4_code, 2, .some .boolean, 2, false), (3, ⟨"PaperCutter$Plan", "hasRun", "(I)Z"⟩, prog_5_method_5_code, 2, .some .boolean, 2, false), (3, ⟨"PaperCutter$Plan", "changeSetting", "(II)I"⟩, prog_5_method_6_code, 4, .some .int, 3, false), (3, ⟨"PaperCutter$Plan", "putOrder", "(IIIIII)I"⟩, prog_5_method_7_code, 10, .some .int, 7, false), (3, ⟨"PaperCutter$Plan", "putRoll", "(III)I"⟩, prog_5_method_8_code, 5, .some .int, 4, false)]
def bT_0 : List (List (Nat × Instr × Nat)) := [bI_0, bI_1, bI_2, bI_3, bI_4, bI_5, bI_6, bI_7, bI_8, bI_9, bI_10, bI_11, bI_12, bI_13, bI_14, bI_15, bI_16, bI_17, bI_18, bI_19]
def bM_1 : List bEnt := [(3, ⟨"PaperCutter$Plan", "storeRoll", "(III)I"⟩, prog_5_method_9_code, 5, .some .int, 4, false), (3, ⟨"PaperCutter$Plan", "madeFor", "(I)I"⟩, prog_5_method_10_code, 4, .some .int, 2, false), (3, ⟨"PaperCutter$Plan", "roomOf", "(I)I"⟩, prog_5_method_11_code, 2, .some .int, 2, false), (3, ⟨"PaperCutter$Plan", "isMet", "(I)Z"⟩, prog_5_method_12_code, 2, .some .boolean, 2, false), (3, ⟨"PaperCutter$Plan", "runsFor", "(I)I"⟩, prog_5_method_13_code, 4, .some .int, 2, false), (3, ⟨"PaperCutter$Plan", "rankOf", "(I)I"⟩, prog_5_method_14_code, 6, .some .int, 2, false), (3, ⟨"PaperCutter$Plan", "leftOf", "(I)I"⟩, prog_5_method_15_code, 4, .some .int, 2, false), (3, ⟨"PaperCutter$Plan", "runsOf", "(I)I"⟩, prog_5_method_16_code, 4, .some .int, 2, false), (3, ⟨"PaperCutter$Plan", "sourceOf", "(I)I"⟩, prog_5_method_17_code, 3, .some .int, 2, false), (3, ⟨"PaperCutter$Plan", "whyNotMet", "(I)I"⟩, prog_5_method_18_code, 8, .some .int, 2, false), (3, ⟨"PaperCutter$Plan", "mostStripsAlone", "(II)I"⟩, prog_5_method_19_code, 5, .some .int, 3, false), (3, ⟨"PaperCutter$Plan", "describe", "(ILPaperCutter$Search;)V"⟩, prog_5_method_20_code, 4, .none, 3, false), (3, ⟨"PaperCutter$Plan", "limitOf", "(ILPaperCutter$Roll;)I"⟩, prog_5_method_21_code, 4, .some .int, 3, false), (3, ⟨"PaperCutter$Plan", "findBest", "(ILPaperCutter$Search;)Z"⟩, prog_5_method_22_code, 3, .some .boolean, 3, false), (3, ⟨"PaperCutter$Plan", "greatestLength", "(I[I)I"⟩, prog_5_method_23_code, 5, .some .int, 3, false), (3, ⟨"PaperCutter$Plan", "cutRoll", "(ILPaperCutter$Search;)I"⟩, prog_5_method_24_code, 3, .some .int, 3, false), (3, ⟨"PaperCutter$Plan", "cutEverything", "(LPaperCutter$Search;)I"⟩, prog_5_method_25_code, 4, .some .int, 2, false), (3, ⟨"PaperCutter$Plan", "rollToCut", "(LPaperCutter$Search;)I"⟩, prog_5_method_26_code, 6, .some .int, 2, false), (3, ⟨"PaperCutter$Plan", "refusalOf", "(II[I)I"⟩, prog_5_method_27_code, 6, .some .int, 4, false), (3, ⟨"PaperCutter$Plan", "makeRun", "(II[I)I"⟩, prog_5_method_28_code, 6, .some .int, 4, false)]
def bT_1 : List (List (Nat × Instr × Nat)) := [bI_20, bI_21, bI_22, bI_23, bI_24, bI_25, bI_26, bI_27, bI_28, bI_29, bI_30, bI_31, bI_32, bI_33, bI_34, bI_35, bI_36, bI_37, bI_38, bI_39]
def bM_2 : List bEnt := [(3, ⟨"PaperCutter$Plan", "placeKnives", "(LPaperCutter$Run;)V"⟩, prog_5_method_29_code, 5, .none, 2, false), (3, ⟨"PaperCutter$Plan", "takeOut", "(I)I"⟩, prog_5_method_30_code, 2, .some .int, 2, false), (3, ⟨"PaperCutter$Plan", "moveRun", "(II)V"⟩, prog_5_method_31_code, 5, .none, 3, false), (3, ⟨"PaperCutter$Plan", "exchange", "(II)I"⟩, prog_5_method_32_code, 4, .some .int, 3, false), (3, ⟨"PaperCutter$Plan", "divide", "(II)I"⟩, prog_5_method_33_code, 5, .some .int, 3, false), (3, ⟨"PaperCutter$Plan", "keepRemnant", "(I)I"⟩, prog_5_method_34_code, 3, .some .int, 2, false), (3, ⟨"PaperCutter$Plan", "setupBehind", "(II)I"⟩, prog_5_method_35_code, 4, .some .int, 3, false), (3, ⟨"PaperCutter$Plan", "sumOfSetups", "()I"⟩, prog_5_method_36_code, 3, .some .int, 1, false), (3, ⟨"PaperCutter$Plan", "putInOrder", "(ILPaperCutter$Arranger;)I"⟩, prog_5_method_37_code, 3, .some .int, 3, false), (3, ⟨"PaperCutter$Plan", "chainRuns", "()V"⟩, prog_5_method_38_code, 4, .none, 1, false), (3, ⟨"PaperCutter$Plan", "areaOfRolls", "()I"⟩, prog_5_method_39_code, 3, .some .int, 1, false), (3, ⟨"PaperCutter$Plan", "areaMade", "()I"⟩, prog_5_method_40_code, 3, .some .int, 1, false), (3, ⟨"PaperCutter$Plan", "wasteOfAll", "()I"⟩, prog_5_method_41_code, 3, .some .int, 1, false), (3, ⟨"PaperCutter$Plan", "areaLeft", "()I"⟩, prog_5_method_42_code, 3, .some .int, 1, false), (3, ⟨"PaperCutter$Plan", "areaKept", "()I"⟩, prog_5_method_43_code, 3, .some .int, 1, false), (3, ⟨"PaperCutter$Plan", "ordersMet", "()I"⟩, prog_5_method_44_code, 3, .some .int, 1, false), (3, ⟨"PaperCutter$Plan", "ordersOfGrade", "(I)I"⟩, prog_5_method_45_code, 4, .some .int, 2, false), (3, ⟨"PaperCutter$Plan", "metOfGrade", "(I)I"⟩, prog_5_method_46_code, 4, .some .int, 2, false), (3, ⟨"PaperCutter$Plan", "rollsLeftOfGrade", "(I)I"⟩, prog_5_method_47_code, 4, .some .int, 2, false), (3, ⟨"PaperCutter$Plan", "areaLeftOfGrade", "(I)I"⟩, prog_5_method_48_code, 4, .some .int, 2, false)]
def bT_2 : List (List (Nat × Instr × Nat)) := [bI_40, bI_41, bI_42, bI_43, bI_44, bI_45, bI_46, bI_47, bI_48, bI_49, bI_50, bI_51, bI_52, bI_53, bI_54, bI_55, bI_56, bI_57, bI_58, bI_59]
def bM_3 : List bEnt := [(3, ⟨"PaperCutter$Plan", "wasteOfGrade", "(I)I"⟩, prog_5_method_49_code, 4, .some .int, 2, false), (3, ⟨"PaperCutter$Plan", "areaForWorse", "(I)I"⟩, prog_5_method_50_code, 4, .some .int, 2, false), (3, ⟨"PaperCutter$Plan", "areaForWorseIn", "(LPaperCutter$Run;I)I"⟩, prog_5_method_51_code, 5, .some .int, 3, false), (4, ⟨"PaperCutter$Roll", "<init>", "()V"⟩, prog_6_method_1_code, 1, .none, 1, false), (4, ⟨"PaperCutter$Roll", "copyFrom", "(LPaperCutter$Roll;)V"⟩, prog_6_method_2_code, 2, .none, 2, false), (4, ⟨"PaperCutter$Roll", "canBeUsedFor", "(LPaperCutter$Order;)Z"⟩, prog_6_method_3_code, 2, .some .boolean, 2, false), (5, ⟨"PaperCutter$Run", "<init>", "()V"⟩, prog_7_method_1_code, 1, .none, 1, false), (5, ⟨"PaperCutter$Run", "copyFrom", "(LPaperCutter$Run;)V"⟩, prog_7_method_2_code, 2, .none, 2, false), (5, ⟨"PaperCutter$Run", "addPosition", "(I)V"⟩, prog_7_method_3_code, 2, .none, 2, false), (5, ⟨"PaperCutter$Run", "isKept", "()Z"⟩, prog_7_method_4_code, 1, .some .boolean, 1, false), (5, ⟨"PaperCutter$Run", "remnantWidth", "()I"⟩, prog_7_method_5_code, 1, .some .int, 1, false), (5, ⟨"PaperCutter$Run", "waste", "()I"⟩, prog_7_method_6_code, 1, .some .int, 1, false), (5, ⟨"PaperCutter$Run", "positionsBeyond", "(LPaperCutter$Run;)I"⟩, prog_7_method_7_code, 5, .some .int, 2, false), (6, ⟨"PaperCutter$Search", "<init>", "()V"⟩, prog_8_method_1_code, 1, .none, 1, false), (6, ⟨"PaperCutter$Search", "seek", "(Z)I"⟩, prog_8_method_2_code, 3, .some .int, 2, false), (6, ⟨"PaperCutter$Search", "tryStrips", "(LPaperCutter$Search;III)V"⟩, prog_8_method_3_code, 6, .none, 4, true), (6, ⟨"PaperCutter$Search", "isHopeless", "(III)Z"⟩, prog_8_method_4_code, 5, .some .boolean, 4, false), (6, ⟨"PaperCutter$Search", "judge", "(II)V"⟩, prog_8_method_5_code, 3, .none, 3, false), (6, ⟨"PaperCutter$Search", "leastRestBySums", "()I"⟩, prog_8_method_6_code, 2, .some .int, 1, false), (6, ⟨"PaperCutter$Search", "reachSums", "(II)V"⟩, prog_8_method_7_code, 5, .none, 3, false)]
def bT_3 : List (List (Nat × Instr × Nat)) := [bI_60, bI_61, bI_62, bI_63, bI_64, bI_65, bI_66, bI_67, bI_68, bI_69, bI_70, bI_71, bI_72, bI_73, bI_74, bI_75, bI_76, bI_77, bI_78, bI_79]
def bM_4 : List bEnt := [(7, ⟨"PaperCutter$Text", "<init>", "()V"⟩, prog_9_method_1_code, 2, .none, 1, false), (7, ⟨"PaperCutter$Text", "add", "(I)I"⟩, prog_9_method_2_code, 2, .some .int, 2, false), (7, ⟨"PaperCutter$Text", "empty", "()V"⟩, prog_9_method_3_code, 1, .none, 1, false), (7, ⟨"PaperCutter$Text", "stands", "(C)Z"⟩, prog_9_method_4_code, 2, .some .boolean, 2, false), (7, ⟨"PaperCutter$Text", "isDigit", "(C)Z"⟩, prog_9_method_5_code, 1, .some .boolean, 1, true), (7, ⟨"PaperCutter$Text", "readPattern", "()Z"⟩, prog_9_method_6_code, 1, .some .boolean, 1, false), (7, ⟨"PaperCutter$Text", "fitsPattern", "(IC)Z"⟩, prog_9_method_7_code, 2, .some .boolean, 2, true), (7, ⟨"PaperCutter$Text", "readCommands", "()Z"⟩, prog_9_method_8_code, 1, .some .boolean, 1, false), (7, ⟨"PaperCutter$Text", "readCommand", "(LPaperCutter$Command;)Z"⟩, prog_9_method_9_code, 4, .some .boolean, 2, false), (7, ⟨"PaperCutter$Text", "wordHere", "()I"⟩, prog_9_method_10_code, 2, .some .int, 1, false), (7, ⟨"PaperCutter$Text", "isHere", "(Ljava/lang/String;)Z"⟩, prog_9_method_11_code, 4, .some .boolean, 2, false), (7, ⟨"PaperCutter$Text", "nameOf", "(I)Ljava/lang/String;"⟩, prog_9_method_12_code, 1, .some (.object "java/lang/String"), 1, true), (7, ⟨"PaperCutter$Text", "numbersOf", "(I)I"⟩, prog_9_method_13_code, 1, .some .int, 1, true), (7, ⟨"PaperCutter$Text", "readNumber", "(LPaperCutter$Command;I)Z"⟩, prog_9_method_14_code, 5, .some .boolean, 3, false), (7, ⟨"PaperCutter$Text", "readBetter", "(LPaperCutter$Command;)Z"⟩, prog_9_method_15_code, 2, .some .boolean, 2, false), (8, ⟨"PaperCutter", "<init>", "()V"⟩, prog_1_method_1_code, 2, .none, 1, false), (8, ⟨"PaperCutter", "set", "(II)I"⟩, prog_1_method_2_code, 3, .some .int, 3, false), (8, ⟨"PaperCutter", "addOrder", "(IIIIII)I"⟩, prog_1_method_3_code, 7, .some .int, 7, false), (8, ⟨"PaperCutter", "addRoll", "(III)I"⟩, prog_1_method_4_code, 4, .some .int, 4, false), (8, ⟨"PaperCutter", "order", "(II)I"⟩, prog_1_method_5_code, 4, .some .int, 3, false)]
def bT_4 : List (List (Nat × Instr × Nat)) := [bI_80, bI_81, bI_82, bI_83, bI_84, bI_85, bI_86, bI_87, bI_88, bI_89, bI_90, bI_91, bI_92, bI_93, bI_94, bI_95, bI_96, bI_97, bI_98, bI_99]
def bM_5 : List bEnt := [(8, ⟨"PaperCutter", "roll", "(II)I"⟩, prog_1_method_6_code, 4, .some .int, 3, false), (8, ⟨"PaperCutter", "ranked", "(I)I"⟩, prog_1_method_7_code, 3, .some .int, 2, false), (8, ⟨"PaperCutter", "explain", "(I)I"⟩, prog_1_method_8_code, 2, .some .int, 2, false), (8, ⟨"PaperCutter", "append", "(I)I"⟩, prog_1_method_9_code, 2, .some .int, 2, false), (8, ⟨"PaperCutter", "best", "(II)I"⟩, prog_1_method_10_code, 4, .some .int, 3, false), (8, ⟨"PaperCutter", "again", "(I)I"⟩, prog_1_method_11_code, 2, .some .int, 2, false), (8, ⟨"PaperCutter", "patterns", "(I)I"⟩, prog_1_method_12_code, 2, .some .int, 2, false), (8, ⟨"PaperCutter", "run", "(II)I"⟩, prog_1_method_13_code, 5, .some .int, 3, false), (8, ⟨"PaperCutter", "cut", "(I)I"⟩, prog_1_method_14_code, 2, .some .int, 2, false), (8, ⟨"PaperCutter", "cutAll", "()I"⟩, prog_1_method_15_code, 1, .some .int, 1, false), (8, ⟨"PaperCutter", "remove", "(I)I"⟩, prog_1_method_16_code, 2, .some .int, 2, false), (8, ⟨"PaperCutter", "made", "(II)I"⟩, prog_1_method_17_code, 4, .some .int, 3, false), (8, ⟨"PaperCutter", "position", "(II)I"⟩, prog_1_method_18_code, 4, .some .int, 3, false), (8, ⟨"PaperCutter", "setup", "(II)I"⟩, prog_1_method_19_code, 3, .some .int, 3, false), (8, ⟨"PaperCutter", "swap", "(II)I"⟩, prog_1_method_20_code, 3, .some .int, 3, false), (8, ⟨"PaperCutter", "split", "(II)I"⟩, prog_1_method_21_code, 3, .some .int, 3, false), (8, ⟨"PaperCutter", "write", "(I)I"⟩, prog_1_method_22_code, 4, .some .int, 2, false), (8, ⟨"PaperCutter", "written", "(I)I"⟩, prog_1_method_23_code, 2, .some .int, 2, false), (8, ⟨"PaperCutter", "arrange", "(I)I"⟩, prog_1_method_24_code, 2, .some .int, 2, false), (8, ⟨"PaperCutter", "leastSetups", "()I"⟩, prog_1_method_25_code, 1, .some .int, 1, false)]
def bT_5 : List (List (Nat × Instr × Nat)) := [bI_100, bI_101, bI_102, bI_103, bI_104, bI_105, bI_106, bI_107, bI_108, bI_109, bI_110, bI_111, bI_112, bI_113, bI_114, bI_115, bI_116, bI_117, bI_118, bI_119]
def bM_6 : List bEnt := [(8, ⟨"PaperCutter", "keep", "(I)I"⟩, prog_1_method_26_code, 2, .some .int, 2, false), (8, ⟨"PaperCutter", "ifAll", "(I)I"⟩, prog_1_method_27_code, 3, .some .int, 2, false), (8, ⟨"PaperCutter", "account", "(I)I"⟩, prog_1_method_28_code, 2, .some .int, 2, false), (8, ⟨"PaperCutter", "grade", "(II)I"⟩, prog_1_method_29_code, 3, .some .int, 3, false), (8, ⟨"PaperCutter", "execute", "()I"⟩, prog_1_method_30_code, 5, .some .int, 1, false), (8, ⟨"PaperCutter", "reason", "(I)I"⟩, prog_1_method_31_code, 2, .some .int, 2, false), (8, ⟨"PaperCutter", "undo", "()I"⟩, prog_1_method_32_code, 1, .some .int, 1, false), (8, ⟨"PaperCutter", "save", "()I"⟩, prog_1_method_33_code, 1, .some .int, 1, false), (8, ⟨"PaperCutter", "restore", "()I"⟩, prog_1_method_34_code, 1, .some .int, 1, false), (8, ⟨"PaperCutter", "count", "(I)I"⟩, prog_1_method_35_code, 2, .some .int, 2, false), (8, ⟨"PaperCutter", "settled", "(I)I"⟩, prog_1_method_36_code, 2, .some .int, 2, false), (8, ⟨"PaperCutter", "writeStrips", "(II)V"⟩, prog_1_method_37_code, 3, .none, 3, false), (8, ⟨"PaperCutter", "writeSign", "(C)V"⟩, prog_1_method_38_code, 2, .none, 2, false), (8, ⟨"PaperCutter", "inRange", "(III)Z"⟩, prog_1_method_39_code, 3, .some .boolean, 3, true), (8, ⟨"PaperCutter", "knivesFor", "(II)I"⟩, prog_1_method_40_code, 2, .some .int, 2, true), (8, ⟨"PaperCutter", "stripsIn", "([I)I"⟩, prog_1_method_41_code, 6, .some .int, 1, true), (9, ⟨"PaperCutterModel", "<init>", "()V"⟩, prog_11_method_1_code, 1, .none, 1, false), (9, ⟨"PaperCutterModel", "isIn", "(III)Z"⟩, prog_11_method_2_code, 3, .some .boolean, 3, true), (9, ⟨"PaperCutterModel", "keepBefore", "()V"⟩, prog_11_method_3_code, 2, .none, 1, false), (9, ⟨"PaperCutterModel", "goesBack", "()V"⟩, prog_11_method_4_code, 2, .none, 1, false)]
def bT_6 : List (List (Nat × Instr × Nat)) := [bI_120, bI_121, bI_122, bI_123, bI_124, bI_125, bI_126, bI_127, bI_128, bI_129, bI_130, bI_131, bI_132, bI_133, bI_134, bI_135, bI_136, bI_137, bI_138, bI_139]
def bM_7 : List bEnt := [(9, ⟨"PaperCutterModel", "remember", "()V"⟩, prog_11_method_5_code, 2, .none, 1, false), (9, ⟨"PaperCutterModel", "o", "(II)I"⟩, prog_11_method_6_code, 3, .some .int, 3, false), (9, ⟨"PaperCutterModel", "r", "(II)I"⟩, prog_11_method_7_code, 3, .some .int, 3, false), (9, ⟨"PaperCutterModel", "u", "(II)I"⟩, prog_11_method_8_code, 3, .some .int, 3, false), (9, ⟨"PaperCutterModel", "strips", "(II)I"⟩, prog_11_method_9_code, 3, .some .int, 3, false), (9, ⟨"PaperCutterModel", "isOrder", "(I)Z"⟩, prog_11_method_10_code, 2, .some .boolean, 2, false), (9, ⟨"PaperCutterModel", "isRoll", "(I)Z"⟩, prog_11_method_11_code, 2, .some .boolean, 2, false), (9, ⟨"PaperCutterModel", "isRun", "(I)Z"⟩, prog_11_method_12_code, 2, .some .boolean, 2, false), (9, ⟨"PaperCutterModel", "madeFor", "(I)I"⟩, prog_11_method_13_code, 4, .some .int, 2, false), (9, ⟨"PaperCutterModel", "allowance", "(I)I"⟩, prog_11_method_14_code, 2, .some .int, 2, false), (9, ⟨"PaperCutterModel", "leastOf", "(I)I"⟩, prog_11_method_15_code, 2, .some .int, 2, false), (9, ⟨"PaperCutterModel", "roomOf", "(I)I"⟩, prog_11_method_16_code, 2, .some .int, 2, false), (9, ⟨"PaperCutterModel", "isMet", "(I)Z"⟩, prog_11_method_17_code, 2, .some .boolean, 2, false), (9, ⟨"PaperCutterModel", "isWanting", "(I)Z"⟩, prog_11_method_18_code, 2, .some .boolean, 2, false), (9, ⟨"PaperCutterModel", "leftOf", "(I)I"⟩, prog_11_method_19_code, 4, .some .int, 2, false), (9, ⟨"PaperCutterModel", "canUse", "(II)Z"⟩, prog_11_method_20_code, 3, .some .boolean, 3, false), (9, ⟨"PaperCutterModel", "remnantOf", "(I)I"⟩, prog_11_method_21_code, 3, .some .int, 2, false), (9, ⟨"PaperCutterModel", "set", "(II)I"⟩, prog_11_method_22_code, 6, .some .int, 3, false), (9, ⟨"PaperCutterModel", "layOrder", "(IIIIII)I"⟩, prog_11_method_23_code, 8, .some .int, 7, false), (9, ⟨"PaperCutterModel", "comesRoll", "(III)I"⟩, prog_11_method_24_code, 5, .some .int, 4, false)]
def bT_7 : List (List (Nat × Instr × Nat)) := [bI_140, bI_141, bI_142, bI_143, bI_144, bI_145, bI_146, bI_147, bI_148, bI_149, bI_150, bI_151, bI_152, bI_153, bI_154, bI_155, bI_156, bI_157, bI_158, bI_159]
def bM_8 : List bEnt := [(9, ⟨"PaperCutterModel", "layRoll", "(III)I"⟩, prog_11_method_25_code, 4, .some .int, 4, false), (9, ⟨"PaperCutterModel", "changed", "(I)I"⟩, prog_11_method_26_code, 2, .some .int, 2, false), (9, ⟨"PaperCutterModel", "addOrder", "(IIIIII)I"⟩, prog_11_method_27_code, 7, .some .int, 7, false), (9, ⟨"PaperCutterModel", "addRoll", "(III)I"⟩, prog_11_method_28_code, 4, .some .int, 4, false), (9, ⟨"PaperCutterModel", "runsFor", "(I)I"⟩, prog_11_method_29_code, 4, .some .int, 2, false), (9, ⟨"PaperCutterModel", "order", "(II)I"⟩, prog_11_method_30_code, 3, .some .int, 3, false), (9, ⟨"PaperCutterModel", "runsOf", "(I)I"⟩, prog_11_method_31_code, 4, .some .int, 2, false), (9, ⟨"PaperCutterModel", "roll", "(II)I"⟩, prog_11_method_32_code, 3, .some .int, 3, false), (9, ⟨"PaperCutterModel", "isAhead", "(II)Z"⟩, prog_11_method_33_code, 3, .some .boolean, 3, false), (9, ⟨"PaperCutterModel", "ranked", "(I)I"⟩, prog_11_method_34_code, 5, .some .int, 2, false), (9, ⟨"PaperCutterModel", "knivesFor", "(II)I"⟩, prog_11_method_35_code, 2, .some .int, 2, true), (9, ⟨"PaperCutterModel", "isPossible", "(II)Z"⟩, prog_11_method_36_code, 3, .some .boolean, 3, false), (9, ⟨"PaperCutterModel", "alone", "(II)I"⟩, prog_11_method_37_code, 5, .some .int, 3, false), (9, ⟨"PaperCutterModel", "explain", "(I)I"⟩, prog_11_method_38_code, 6, .some .int, 2, false), (9, ⟨"PaperCutterModel", "append", "(I)I"⟩, prog_11_method_39_code, 2, .some .int, 2, false), (9, ⟨"PaperCutterModel", "tries", "(III)V"⟩, prog_11_method_40_code, 6, .none, 4, false), (9, ⟨"PaperCutterModel", "offers", "(II)V"⟩, prog_11_method_41_code, 4, .none, 3, false), (9, ⟨"PaperCutterModel", "looks", "(I)V"⟩, prog_11_method_42_code, 3, .none, 2, false), (9, ⟨"PaperCutterModel", "hasBest", "(I)Z"⟩, prog_11_method_43_code, 2, .some .boolean, 2, false), (9, ⟨"PaperCutterModel", "bestLength", "(I)I"⟩, prog_11_method_44_code, 4, .some .int, 2, false)]
def bT_8 : List (List (Nat × Instr × Nat)) := [bI_160, bI_161, bI_162, bI_163, bI_164, bI_165, bI_166, bI_167, bI_168, bI_169, bI_170, bI_171, bI_172, bI_173, bI_174, bI_175, bI_176, bI_177, bI_178, bI_179]
def bM_9 : List bEnt := [(9, ⟨"PaperCutterModel", "best", "(II)I"⟩, prog_11_method_45_code, 3, .some .int, 3, false), (9, ⟨"PaperCutterModel", "again", "(I)I"⟩, prog_11_method_46_code, 2, .some .int, 2, false), (9, ⟨"PaperCutterModel", "patterns", "(I)I"⟩, prog_11_method_47_code, 2, .some .int, 2, false), (9, ⟨"PaperCutterModel", "takesText", "()V"⟩, prog_11_method_48_code, 1, .none, 1, false), (9, ⟨"PaperCutterModel", "isAt", "(CC)Z"⟩, prog_11_method_49_code, 3, .some .boolean, 3, false), (9, ⟨"PaperCutterModel", "expects", "(C)V"⟩, prog_11_method_50_code, 2, .none, 2, false), (9, ⟨"PaperCutterModel", "digit", "(C)I"⟩, prog_11_method_51_code, 2, .some .int, 2, false), (9, ⟨"PaperCutterModel", "readsStrips", "()V"⟩, prog_11_method_52_code, 3, .none, 1, false), (9, ⟨"PaperCutterModel", "readsPattern", "()V"⟩, prog_11_method_53_code, 2, .none, 1, false), (9, ⟨"PaperCutterModel", "stripsIn", "()I"⟩, prog_11_method_54_code, 3, .some .int, 1, false), (9, ⟨"PaperCutterModel", "restOn", "(I)I"⟩, prog_11_method_55_code, 4, .some .int, 2, false), (9, ⟨"PaperCutterModel", "refusal", "(II)I"⟩, prog_11_method_56_code, 8, .some .int, 3, false), (9, ⟨"PaperCutterModel", "comesRun", "(II)I"⟩, prog_11_method_57_code, 5, .some .int, 3, false), (9, ⟨"PaperCutterModel", "run", "(II)I"⟩, prog_11_method_58_code, 4, .some .int, 3, false), (9, ⟨"PaperCutterModel", "cuts", "(I)I"⟩, prog_11_method_59_code, 4, .some .int, 2, false), (9, ⟨"PaperCutterModel", "tryCut", "(I)I"⟩, prog_11_method_60_code, 2, .some .int, 2, false), (9, ⟨"PaperCutterModel", "cut", "(I)I"⟩, prog_11_method_61_code, 2, .some .int, 2, false), (9, ⟨"PaperCutterModel", "nextRoll", "()I"⟩, prog_11_method_62_code, 4, .some .int, 1, false), (9, ⟨"PaperCutterModel", "cutsAll", "()I"⟩, prog_11_method_63_code, 3, .some .int, 1, false), (9, ⟨"PaperCutterModel", "cutAll", "()I"⟩, prog_11_method_64_code, 1, .some .int, 1, false)]
def bT_9 : List (List (Nat × Instr × Nat)) := [bI_180, bI_181, bI_182, bI_183, bI_184, bI_185, bI_186, bI_187, bI_188, bI_189, bI_190, bI_191, bI_192, bI_193, bI_194, bI_195, bI_196, bI_197, bI_198, bI_199]
def bM_10 : List bEnt := [(9, ⟨"PaperCutterModel", "remove", "(I)I"⟩, prog_11_method_65_code, 3, .some .int, 2, false), (9, ⟨"PaperCutterModel", "exchanges", "(II)V"⟩, prog_11_method_66_code, 5, .none, 3, false), (9, ⟨"PaperCutterModel", "swap", "(II)I"⟩, prog_11_method_67_code, 3, .some .int, 3, false), (9, ⟨"PaperCutterModel", "split", "(II)I"⟩, prog_11_method_68_code, 4, .some .int, 3, false), (9, ⟨"PaperCutterModel", "writes", "(I)V"⟩, prog_11_method_69_code, 2, .none, 2, false), (9, ⟨"PaperCutterModel", "write", "(I)I"⟩, prog_11_method_70_code, 3, .some .int, 2, false), (9, ⟨"PaperCutterModel", "written", "(I)I"⟩, prog_11_method_71_code, 2, .some .int, 2, false), (9, ⟨"PaperCutterModel", "restOf", "(I)I"⟩, prog_11_method_72_code, 4, .some .int, 2, false), (9, ⟨"PaperCutterModel", "stripsOf", "(I)I"⟩, prog_11_method_73_code, 4, .some .int, 2, false), (9, ⟨"PaperCutterModel", "positionsOf", "(I)I"⟩, prog_11_method_74_code, 2, .some .int, 2, false), (9, ⟨"PaperCutterModel", "positionAt", "(II)I"⟩, prog_11_method_75_code, 7, .some .int, 3, false), (9, ⟨"PaperCutterModel", "hasPosition", "(II)Z"⟩, prog_11_method_76_code, 4, .some .boolean, 3, false), (9, ⟨"PaperCutterModel", "setupOf", "(II)I"⟩, prog_11_method_77_code, 5, .some .int, 3, false), (9, ⟨"PaperCutterModel", "setups", "()I"⟩, prog_11_method_78_code, 3, .some .int, 1, false), (9, ⟨"PaperCutterModel", "remnantWidth", "(I)I"⟩, prog_11_method_79_code, 2, .some .int, 2, false), (9, ⟨"PaperCutterModel", "wasteOf", "(I)I"⟩, prog_11_method_80_code, 2, .some .int, 2, false), (9, ⟨"PaperCutterModel", "made", "(II)I"⟩, prog_11_method_81_code, 3, .some .int, 3, false), (9, ⟨"PaperCutterModel", "position", "(II)I"⟩, prog_11_method_82_code, 3, .some .int, 3, false), (9, ⟨"PaperCutterModel", "setup", "(II)I"⟩, prog_11_method_83_code, 3, .some .int, 3, false), (9, ⟨"PaperCutterModel", "findsSetups", "()V"⟩, prog_11_method_84_code, 3, .none, 1, false)]
def bT_10 : List (List (Nat × Instr × Nat)) := [bI_200, bI_201, bI_202, bI_203, bI_204, bI_205, bI_206, bI_207, bI_208, bI_209, bI_210, bI_211, bI_212, bI_213, bI_214, bI_215, bI_216, bI_217, bI_218, bI_219]
def bM_11 : List bEnt := [(9, ⟨"PaperCutterModel", "arrangesByNearest", "()V"⟩, prog_11_method_85_code, 6, .none, 1, false), (9, ⟨"PaperCutterModel", "arranges", "(III)V"⟩, prog_11_method_86_code, 5, .none, 4, false), (9, ⟨"PaperCutterModel", "findsBestOrder", "()V"⟩, prog_11_method_87_code, 1, .none, 1, false), (9, ⟨"PaperCutterModel", "arrangesIn", "(I)I"⟩, prog_11_method_88_code, 3, .some .int, 2, false), (9, ⟨"PaperCutterModel", "arrange", "(I)I"⟩, prog_11_method_89_code, 2, .some .int, 2, false), (9, ⟨"PaperCutterModel", "leastSetups", "()I"⟩, prog_11_method_90_code, 1, .some .int, 1, false), (9, ⟨"PaperCutterModel", "keep", "(I)I"⟩, prog_11_method_91_code, 3, .some .int, 2, false), (9, ⟨"PaperCutterModel", "metOrders", "()I"⟩, prog_11_method_92_code, 3, .some .int, 1, false), (9, ⟨"PaperCutterModel", "waste", "()I"⟩, prog_11_method_93_code, 3, .some .int, 1, false), (9, ⟨"PaperCutterModel", "areaLeft", "()I"⟩, prog_11_method_94_code, 3, .some .int, 1, false), (9, ⟨"PaperCutterModel", "ifAll", "(I)I"⟩, prog_11_method_95_code, 4, .some .int, 2, false), (9, ⟨"PaperCutterModel", "areaOf", "(Z)I"⟩, prog_11_method_96_code, 4, .some .int, 2, false), (9, ⟨"PaperCutterModel", "areaMade", "()I"⟩, prog_11_method_97_code, 3, .some .int, 1, false), (9, ⟨"PaperCutterModel", "account", "(I)I"⟩, prog_11_method_98_code, 2, .some .int, 2, false), (9, ⟨"PaperCutterModel", "ordersOf", "(IZ)I"⟩, prog_11_method_99_code, 5, .some .int, 3, false), (9, ⟨"PaperCutterModel", "rollsOf", "(IZ)I"⟩, prog_11_method_100_code, 6, .some .int, 3, false), (9, ⟨"PaperCutterModel", "wasteOfGrade", "(I)I"⟩, prog_11_method_101_code, 4, .some .int, 2, false), (9, ⟨"PaperCutterModel", "givenBy", "(I)I"⟩, prog_11_method_102_code, 6, .some .int, 2, false), (9, ⟨"PaperCutterModel", "grade", "(II)I"⟩, prog_11_method_103_code, 3, .some .int, 3, false), (9, ⟨"PaperCutterModel", "word", "()I"⟩, prog_11_method_104_code, 6, .some .int, 1, false)]
def bT_11 : List (List (Nat × Instr × Nat)) := [bI_220, bI_221, bI_222, bI_223, bI_224, bI_225, bI_226, bI_227, bI_228, bI_229, bI_230, bI_231, bI_232, bI_233, bI_234, bI_235, bI_236, bI_237, bI_238, bI_239]
def bM_12 : List bEnt := [(9, ⟨"PaperCutterModel", "number", "()I"⟩, prog_11_method_105_code, 3, .some .int, 1, false), (9, ⟨"PaperCutterModel", "numbersOf", "(I)I"⟩, prog_11_method_106_code, 1, .some .int, 1, true), (9, ⟨"PaperCutterModel", "command", "()I"⟩, prog_11_method_107_code, 3, .some .int, 1, false), (9, ⟨"PaperCutterModel", "lengthOf", "(I)I"⟩, prog_11_method_108_code, 1, .some .int, 1, true), (9, ⟨"PaperCutterModel", "carriesOut", "(I)I"⟩, prog_11_method_109_code, 2, .some .int, 2, false), (9, ⟨"PaperCutterModel", "commands", "(Z)I"⟩, prog_11_method_110_code, 6, .some .int, 2, false), (9, ⟨"PaperCutterModel", "execute", "()I"⟩, prog_11_method_111_code, 3, .some .int, 1, false), (9, ⟨"PaperCutterModel", "reason", "(I)I"⟩, prog_11_method_112_code, 2, .some .int, 2, false), (9, ⟨"PaperCutterModel", "undo", "()I"⟩, prog_11_method_113_code, 2, .some .int, 1, false), (9, ⟨"PaperCutterModel", "save", "()I"⟩, prog_11_method_114_code, 2, .some .int, 1, false), (9, ⟨"PaperCutterModel", "restore", "()I"⟩, prog_11_method_115_code, 2, .some .int, 1, false), (9, ⟨"PaperCutterModel", "count", "(I)I"⟩, prog_11_method_116_code, 2, .some .int, 2, false), (10, ⟨"java/lang/String", "length", "()I"⟩, prog_14_method_54_code, 1, .some .int, 1, false), (10, ⟨"java/lang/String", "charAt", "(I)C"⟩, prog_14_method_56_code, 2, .some .char, 2, false), (10, ⟨"java/lang/String", "coder", "()B"⟩, prog_14_method_152_code, 1, .some .byte, 1, false), (10, ⟨"java/lang/String", "isLatin1", "()Z"⟩, prog_14_method_154_code, 1, .some .boolean, 1, false), (10, ⟨"java/lang/String", "checkIndex", "(II)V"⟩, prog_14_method_155_code, 2, .none, 2, true), (11, ⟨"java/lang/StringLatin1", "charAt", "([BI)C"⟩, prog_15_method_2_code, 2, .some .char, 2, true), (12, ⟨"java/lang/StringUTF16", "getChar", "([BI)C"⟩, prog_16_method_5_code, 2, .some .char, 2, true), (12, ⟨"java/lang/StringUTF16", "length", "([B)I"⟩, prog_16_method_6_code, 1, .some .int, 1, true)]
def bT_12 : List (List (Nat × Instr × Nat)) := [bI_240, bI_241, bI_242, bI_243, bI_244, bI_245, bI_246, bI_247, bI_248, bI_249, bI_250, bI_251, bI_252, bI_253, bI_254, bI_255, bI_256, bI_257, bI_258, bI_259]
def bM_13 : List bEnt := [(12, ⟨"java/lang/StringUTF16", "charAt", "([BI)C"⟩, prog_16_method_83_code, 2, .some .char, 2, true), (12, ⟨"java/lang/StringUTF16", "checkIndex", "(I[B)V"⟩, prog_16_method_91_code, 2, .none, 2, true), (13, ⟨"jdk/internal/util/Preconditions", "checkIndex", "(IILjava/util/function/BiFunction;)I"⟩, prog_19_method_11_code, 3, .some .int, 3, true), (14, ⟨"java/util/Arrays", "fill", "([II)V"⟩, prog_18_method_103_code, 4, .none, 2, true), (15, ⟨"java/lang/Math", "max", "(II)I"⟩, prog_13_method_65_code, 2, .some .int, 2, true), (15, ⟨"java/lang/Math", "min", "(II)I"⟩, prog_13_method_69_code, 2, .some .int, 2, true)]
def bT_13 : List (List (Nat × Instr × Nat)) := [bI_260, bI_261, bI_262, bI_263, bI_264, bI_265]
def bM_14 : List bEnt := [(16, ⟨"PaperCutterLaw", "law", "([I)Z"⟩, code, 4, .some .boolean, 1, true)]
def bT_14 : List (List (Nat × Instr × Nat)) := [bI_266]
def bMt : List bEnt := bM_0 ++ (bM_1 ++ (bM_2 ++ (bM_3 ++ (bM_4 ++ (bM_5 ++ (bM_6 ++ (bM_7 ++ (bM_8 ++ (bM_9 ++ (bM_10 ++ (bM_11 ++ (bM_12 ++ (bM_13 ++ (bM_14))))))))))))))
def bTt : List (List (Nat × Instr × Nat)) := bT_0 ++ (bT_1 ++ (bT_2 ++ (bT_3 ++ (bT_4 ++ (bT_5 ++ (bT_6 ++ (bT_7 ++ (bT_8 ++ (bT_9 ++ (bT_10 ++ (bT_11 ++ (bT_12 ++ (bT_13 ++ (bT_14))))))))))))))
def bdk (c : ByteArray) (e : Nat × Instr × Nat) : Bool := match decode c e.1 with
  | .ok r => decide (r = e.2)
  | .error _ => false
def bck (ts : List (List (Nat × Instr × Nat))) (ms : List bEnt) : Bool := match ts, ms with
  | [], [] => true
  | t :: ts, m :: ms => t.all (bdk m.2.2.1) && bck ts ms
  | _, _ => false
end
section
set_option maxRecDepth 100000 in
theorem bck_0 : bck bT_0 bM_0 = true := by decide +kernel
set_option maxRecDepth 100000 in
theorem bck_1 : bck bT_1 bM_1 = true := by decide +kernel
set_option maxRecDepth 100000 in
theorem bck_2 : bck bT_2 bM_2 = true := by decide +kernel
set_option maxRecDepth 100000 in
theorem bck_3 : bck bT_3 bM_3 = true := by decide +kernel
set_option maxRecDepth 100000 in
theorem bck_4 : bck bT_4 bM_4 = true := by decide +kernel
set_option maxRecDepth 100000 in
theorem bck_5 : bck bT_5 bM_5 = true := by decide +kernel
set_option maxRecDepth 100000 in
theorem bck_6 : bck bT_6 bM_6 = true := by decide +kernel
set_option maxRecDepth 100000 in
theorem bck_7 : bck bT_7 bM_7 = true := by decide +kernel
set_option maxRecDepth 100000 in
theorem bck_8 : bck bT_8 bM_8 = true := by decide +kernel
set_option maxRecDepth 100000 in
theorem bck_9 : bck bT_9 bM_9 = true := by decide +kernel
set_option maxRecDepth 100000 in
theorem bck_10 : bck bT_10 bM_10 = true := by decide +kernel
set_option maxRecDepth 100000 in
theorem bck_11 : bck bT_11 bM_11 = true := by decide +kernel
set_option maxRecDepth 100000 in
theorem bck_12 : bck bT_12 bM_12 = true := by decide +kernel
set_option maxRecDepth 100000 in
theorem bck_13 : bck bT_13 bM_13 = true := by decide +kernel
end
section
set_option maxRecDepth 100000 in
theorem bckL_0 : bIL_0.all (bdk code) = true := by decide +kernel
end
section
set_option maxRecDepth 100000 in
theorem bckL_1 : bIL_1.all (bdk code) = true := by decide +kernel
end
section
set_option maxRecDepth 100000 in
theorem bckL_2 : bIL_2.all (bdk code) = true := by decide +kernel
end
section
set_option maxRecDepth 100000 in
theorem bckL_3 : bIL_3.all (bdk code) = true := by decide +kernel
end
section
theorem bck_14 : bck bT_14 bM_14 = true := by
  have h : (bI_266.all (bdk code)) = true := by
    simp only [bI_266, List.all_append, bckL_0, bckL_1, bckL_2, bckL_3, Bool.and_self]
  simp only [bT_14, bM_14, bck, h, Bool.and_self]
theorem bck_app {ts us : List (List (Nat × Instr × Nat))} {ms ns : List bEnt} (h1 : bck ts ms = true) (h2 : bck us ns = true) : bck (ts ++ us) (ms ++ ns) = true := by
  induction ts generalizing ms with
  | nil => cases ms with
    | nil => exact h2
    | cons m ms => exact absurd h1 (by simp [bck])
  | cons t ts ih => cases ms with
    | nil => exact absurd h1 (by simp [bck])
    | cons m ms =>
      simp only [bck, Bool.and_eq_true] at h1
      simp only [List.cons_append, bck, Bool.and_eq_true]
      exact ⟨h1.1, ih h1.2⟩
theorem bck_all : bck bTt bMt = true := bck_app bck_0 (bck_app bck_1 (bck_app bck_2 (bck_app bck_3 (bck_app bck_4 (bck_app bck_5 (bck_app bck_6 (bck_app bck_7 (bck_app bck_8 (bck_app bck_9 (bck_app bck_10 (bck_app bck_11 (bck_app bck_12 (bck_app bck_13 (bck_14))))))))))))))
theorem bck_get {ts : List (List (Nat × Instr × Nat))} {ms : List bEnt} (h : bck ts ms = true) {k : Nat} {t : List (Nat × Instr × Nat)} (ht : ts[k]? = some t) : ∃ m, ms[k]? = some m ∧ t.all (bdk m.2.2.1) = true := by
  induction ts generalizing ms k with
  | nil => simp at ht
  | cons t0 ts ih => cases ms with
    | nil => exact absurd h (by simp [bck])
    | cons m0 ms =>
      simp only [bck, Bool.and_eq_true] at h
      cases k with
      | zero => cases ht; exact ⟨m0, rfl, h.1⟩
      | succ k => exact ih h.2 (by simpa using ht)
def ins (k pc : Nat) : Option (Instr × Nat) := match bTt[k]? with
  | none => none
  | some l => match l.find? (fun e => e.1 == pc) with
    | none => none
    | some e => some e.2
theorem ins_ok {k pc : Nat} {x : Instr} {n : Nat} (h : ins k pc = some (x, n)) : ∃ m, bMt[k]? = some m ∧ decode m.2.2.1 pc = .ok (x, n) := by
  unfold ins at h
  cases ht : bTt[k]? with
  | none => rw [ht] at h; cases h
  | some l =>
    rw [ht] at h
    obtain ⟨m, hm, ha⟩ := bck_get bck_all ht
    refine ⟨m, hm, ?_⟩
    cases hf : l.find? (fun e => e.1 == pc) with
    | none => simp only [hf] at h; cases h
    | some e =>
      simp only [hf] at h
      obtain ⟨e1, e2⟩ := e
      have he := List.mem_of_find?_eq_some hf
      have hp : e1 = pc := by simpa using List.find?_some hf
      have h2 : e2 = (x, n) := Option.some.inj h
      subst hp; subst h2
      have h3 := List.all_eq_true.mp ha _ he
      unfold bdk at h3
      split at h3
      · rename_i r hr
        rw [hr, of_decide_eq_true h3]
      · cases h3
def blen (x : Instr) (n : Nat) : Bool := match x with
  | .tableswitch _ _ _ _ => true
  | .iload _ => n == 2
  | .aload _ => n == 2
  | .istore _ => n == 2
  | .astore _ => n == 2
  | .bipush _ => n == 2
  | .ldc _ => n == 2
  | .newarray _ => n == 2
  | .sipush _ => n == 3
  | .iinc _ _ => n == 3
  | .ifCond _ _ => n == 3
  | .if_icmp _ _ => n == 3
  | .goto _ => n == 3
  | .getfield _ => n == 3
  | .putfield _ => n == 3
  | .getstatic _ => n == 3
  | .invokevirtual _ => n == 3
  | .invokestatic _ => n == 3
  | .invokespecial _ => n == 3
  | .new _ => n == 3
  | .anewarray _ => n == 3
  | .checkcast _ => n == 3
  | .multianewarray _ _ => n == 4
  | _ => n == 1
set_option maxRecDepth 100000 in
theorem bln_0 : ∀ t ∈ bT_0, t.all (fun e => blen e.2.1 e.2.2) = true := by decide +kernel
set_option maxRecDepth 100000 in
theorem bln_1 : ∀ t ∈ bT_1, t.all (fun e => blen e.2.1 e.2.2) = true := by decide +kernel
set_option maxRecDepth 100000 in
theorem bln_2 : ∀ t ∈ bT_2, t.all (fun e => blen e.2.1 e.2.2) = true := by decide +kernel
set_option maxRecDepth 100000 in
theorem bln_3 : ∀ t ∈ bT_3, t.all (fun e => blen e.2.1 e.2.2) = true := by decide +kernel
set_option maxRecDepth 100000 in
theorem bln_4 : ∀ t ∈ bT_4, t.all (fun e => blen e.2.1 e.2.2) = true := by decide +kernel
set_option maxRecDepth 100000 in
theorem bln_5 : ∀ t ∈ bT_5, t.all (fun e => blen e.2.1 e.2.2) = true := by decide +kernel
set_option maxRecDepth 100000 in
theorem bln_6 : ∀ t ∈ bT_6, t.all (fun e => blen e.2.1 e.2.2) = true := by decide +kernel
set_option maxRecDepth 100000 in
theorem bln_7 : ∀ t ∈ bT_7, t.all (fun e => blen e.2.1 e.2.2) = true := by decide +kernel
set_option maxRecDepth 100000 in
theorem bln_8 : ∀ t ∈ bT_8, t.all (fun e => blen e.2.1 e.2.2) = true := by decide +kernel
set_option maxRecDepth 100000 in
theorem bln_9 : ∀ t ∈ bT_9, t.all (fun e => blen e.2.1 e.2.2) = true := by decide +kernel
set_option maxRecDepth 100000 in
theorem bln_10 : ∀ t ∈ bT_10, t.all (fun e => blen e.2.1 e.2.2) = true := by decide +kernel
set_option maxRecDepth 100000 in
theorem bln_11 : ∀ t ∈ bT_11, t.all (fun e => blen e.2.1 e.2.2) = true := by decide +kernel
set_option maxRecDepth 100000 in
theorem bln_12 : ∀ t ∈ bT_12, t.all (fun e => blen e.2.1 e.2.2) = true := by decide +kernel
set_option maxRecDepth 100000 in
theorem bln_13 : ∀ t ∈ bT_13, t.all (fun e => blen e.2.1 e.2.2) = true := by decide +kernel
set_option maxRecDepth 100000 in
theorem bln_14 : ∀ t ∈ bT_14, t.all (fun e => blen e.2.1 e.2.2) = true := by decide +kernel
theorem bln : ∀ t ∈ bTt, t.all (fun e => blen e.2.1 e.2.2) = true := List.forall_mem_append.mpr ⟨bln_0, List.forall_mem_append.mpr ⟨bln_1, List.forall_mem_append.mpr ⟨bln_2, List.forall_mem_append.mpr ⟨bln_3, List.forall_mem_append.mpr ⟨bln_4, List.forall_mem_append.mpr ⟨bln_5, List.forall_mem_append.mpr ⟨bln_6, List.forall_mem_append.mpr ⟨bln_7, List.forall_mem_append.mpr ⟨bln_8, List.forall_mem_append.mpr ⟨bln_9, List.forall_mem_append.mpr ⟨bln_10, List.forall_mem_append.mpr ⟨bln_11, List.forall_mem_append.mpr ⟨bln_12, List.forall_mem_append.mpr ⟨bln_13, bln_14⟩⟩⟩⟩⟩⟩⟩⟩⟩⟩⟩⟩⟩⟩
theorem ins_len {k pc : Nat} {x : Instr} {n : Nat} (h : ins k pc = some (x, n)) : blen x n = true := by
  unfold ins at h
  cases ht : bTt[k]? with
  | none => rw [ht] at h; cases h
  | some l =>
    rw [ht] at h
    cases hf : l.find? (fun e => e.1 == pc) with
    | none => simp only [hf] at h; cases h
    | some e =>
      simp only [hf] at h
      have he := List.mem_of_find?_eq_some hf
      have h3 := List.all_eq_true.mp (bln l (List.mem_of_getElem? ht)) _ he
      rw [Option.some.inj h] at h3
      exact h3
end
section
def bTX : Nat → u_T := fun k => match k with
  | 0 => TX0
  | 1 => TX1
  | 2 => TX2
  | 3 => TX3
  | 4 => TX4
  | 5 => TX5
  | 6 => TX6
  | 7 => TX7
  | 8 => TX8
  | _ => TX9
def bF_0 : List (Nat × Nat × Nat × Nat × Bool) := [(0, 11, 0, 1, false), (0, 16, 0, 2, false), (0, 20, 0, 3, false), (0, 23, 0, 4, false), (0, 28, 0, 5, false), (0, 32, 3, 6, true), (0, 44, 0, 0, false), (0, 48, 0, 6, false), (1, 7, 1, 1, false), (2, 7, 2, 0, false), (2, 13, 2, 1, false), (2, 16, 2, 2, false), (2, 19, 2, 3, false), (2, 22, 2, 4, false), (2, 25, 2, 5, false), (2, 28, 2, 6, false), (2, 31, 2, 7, false), (3, 18, 3, 0, false), (3, 25, 3, 1, false), (3, 31, 3, 2, false), (3, 37, 3, 3, false), (3, 41, 3, 4, false), (3, 45, 3, 5, false), (3, 48, 3, 6, false), (3, 80, 2, 0, true), (3, 83, 2, 1, true), (3, 86, 2, 2, true), (3, 89, 2, 3, true), (3, 92, 2, 4, true), (3, 95, 2, 5, true)]
def bFi_0 : List Nat := [265, 266, 267, 268, 269, 174, 264, 270, 301, 52, 56, 59, 62, 65, 68, 72, 75, 161, 163, 165, 167, 169, 171, 173, 55, 58, 61, 64, 67, 71]
def bF_1 : List (Nat × Nat × Nat × Nat × Bool) := [(3, 98, 2, 6, true), (3, 101, 2, 7, true), (3, 108, 4, 0, true), (3, 109, 4, 1, true), (3, 110, 4, 2, true), (3, 113, 5, 6, true), (3, 116, 5, 1, true), (3, 125, 5, 0, true), (3, 128, 5, 4, true), (3, 148, 6, 0, true), (3, 151, 6, 1, true), (3, 154, 6, 2, true), (3, 157, 6, 3, true), (3, 158, 6, 4, true), (3, 161, 6, 5, true), (3, 191, 6, 7, true), (3, 210, 6, 13, true), (3, 217, 5, 2, true), (3, 220, 5, 3, true), (3, 226, 5, 5, true), (4, 7, 4, 0, false), (4, 13, 4, 1, false), (4, 16, 4, 2, false), (4, 19, 2, 0, true), (4, 22, 2, 5, true), (5, 9, 5, 6, false), (5, 15, 5, 7, false), (5, 18, 5, 0, false), (5, 22, 5, 1, false), (5, 25, 5, 2, false)]
def bFi_1 : List Nat := [74, 77, 103, 106, 109, 140, 126, 123, 134, 199, 201, 203, 205, 207, 209, 213, 221, 129, 132, 138, 101, 104, 107, 53, 69, 139, 142, 122, 125, 128]
def bF_2 : List (Nat × Nat × Nat × Nat × Bool) := [(5, 28, 5, 3, false), (5, 31, 5, 4, false), (5, 34, 5, 5, false), (6, 9, 6, 4, false), (6, 15, 6, 5, false), (6, 18, 6, 6, false), (6, 21, 6, 7, false), (6, 24, 6, 8, false), (6, 27, 6, 9, false), (6, 30, 6, 10, false), (6, 34, 6, 12, false), (6, 38, 6, 13, false), (6, 41, 6, 14, false), (6, 44, 6, 2, false), (6, 47, 6, 1, false), (6, 50, 6, 11, false), (6, 59, 6, 3, false), (6, 68, 6, 0, false), (7, 9, 7, 0, false), (7, 15, 7, 1, false), (7, 19, 7, 2, false), (7, 22, 7, 3, false), (7, 28, 7, 4, false), (7, 32, 7, 5, false), (7, 65, 1, 0, true), (7, 105, 1, 1, true), (8, 12, 8, 0, false), (8, 16, 8, 1, false), (8, 19, 8, 2, false), (8, 22, 8, 3, false)]
def bFi_2 : List Nat := [130, 133, 136, 206, 208, 210, 211, 214, 215, 216, 218, 219, 222, 202, 200, 217, 204, 198, 310, 311, 313, 315, 317, 319, 299, 302, 334, 335, 336, 337]
def bF_3 : List (Nat × Nat × Nat × Nat × Bool) := [(8, 25, 8, 4, false), (8, 32, 8, 5, false), (8, 39, 8, 6, false), (8, 46, 8, 7, false), (8, 50, 8, 8, false), (8, 54, 8, 9, false), (8, 58, 8, 10, false), (8, 61, 8, 11, false), (8, 64, 8, 12, false), (8, 68, 8, 13, false), (8, 71, 8, 14, false), (8, 98, 3, 1, true), (8, 102, 2, 0, true), (8, 107, 2, 1, true), (8, 110, 2, 2, true), (8, 113, 2, 3, true), (8, 116, 2, 4, true), (8, 119, 2, 5, true), (8, 122, 2, 6, true), (8, 125, 2, 7, true), (8, 143, 3, 2, true), (8, 147, 4, 0, true), (8, 150, 4, 1, true), (8, 151, 4, 2, true), (8, 163, 3, 4, true), (8, 179, 6, 13, true), (8, 182, 6, 14, true), (8, 188, 6, 7, true), (8, 215, 7, 2, true), (8, 218, 7, 3, true)]
def bFi_3 : List Nat := [338, 339, 340, 341, 342, 343, 344, 345, 346, 347, 348, 164, 54, 57, 60, 63, 66, 70, 73, 76, 166, 102, 105, 108, 170, 220, 223, 212, 314, 316]
def bF_4 : List (Nat × Nat × Nat × Nat × Bool) := [(8, 242, 3, 3, true), (8, 246, 5, 0, true), (8, 251, 5, 1, true), (8, 252, 5, 6, true), (8, 257, 5, 3, true), (8, 260, 5, 5, true), (8, 269, 5, 4, true), (8, 275, 5, 7, true), (8, 292, 3, 6, true), (8, 325, 3, 5, true), (8, 353, 7, 5, true), (8, 356, 7, 4, true), (8, 360, 1, 1, true), (8, 365, 1, 0, true), (8, 368, 7, 1, true), (8, 369, 3, 0, true), (9, 9, 9, 0, false), (9, 13, 9, 1, false), (9, 16, 9, 3, false), (9, 19, 9, 5, false), (9, 22, 9, 6, false), (9, 26, 9, 8, false), (9, 30, 9, 9, false), (9, 33, 9, 10, false), (9, 36, 9, 11, false), (9, 39, 9, 15, false), (9, 42, 9, 19, false), (9, 45, 9, 20, false), (9, 48, 9, 22, false), (9, 51, 9, 23, false)]
def bFi_4 : List Nat := [168, 124, 127, 141, 131, 137, 135, 143, 175, 172, 320, 318, 303, 300, 312, 162, 988, 989, 991, 993, 994, 996, 997, 998, 999, 1003, 1007, 1008, 1010, 1011]
def bF_5 : List (Nat × Nat × Nat × Nat × Bool) := [(9, 55, 9, 24, false), (9, 58, 9, 26, false), (9, 61, 9, 27, false), (9, 64, 9, 28, false), (9, 67, 9, 29, false), (9, 70, 9, 2, false), (9, 161, 9, 7, false), (9, 177, 9, 14, false), (9, 180, 9, 13, false), (9, 183, 9, 12, false), (9, 202, 9, 16, false), (9, 205, 9, 17, false), (9, 208, 9, 18, false), (9, 267, 9, 21, false), (9, 297, 9, 25, false), (9, 356, 9, 30, false), (9, 371, 9, 4, false)]
def bFi_5 : List Nat := [1012, 1014, 1015, 1016, 1017, 990, 995, 1002, 1001, 1000, 1004, 1005, 1006, 1009, 1013, 1018, 992]
def bFt : List (Nat × Nat × Nat × Nat × Bool) := bF_0 ++ (bF_1 ++ (bF_2 ++ (bF_3 ++ (bF_4 ++ (bF_5)))))
def bFc (e : Nat × Nat × Nat × Nat × Bool) : Cond := if e.2.2.2.2 = true then .fieldLinkNest (bRN e.1) e.2.1 (bRN e.2.2.1) (bTX e.2.2.1 e.2.2.2.1).2.1 (bTX e.2.2.1 e.2.2.2.1).2.2.1 "PaperCutter" else .fieldLink (bRN e.1) e.2.1 (bRN e.2.2.1) (bTX e.2.2.1 e.2.2.2.1).2.1 (bTX e.2.2.1 e.2.2.2.1).2.2.1
/-- membership by place: a list of places, what stands there -/
def bix (is : List Nat) (cs : List Jvm.Cond) : Bool := match is, cs with
  | i :: is, c :: cs => decide (tables_1[i]? = some c) && bix is cs
  | _, [] => true
  | [], _ :: _ => false
theorem bix_mem {is : List Nat} {cs : List Jvm.Cond} (h : bix is cs = true) : ∀ c ∈ cs, c ∈ tables_1 := by
  induction cs generalizing is with
  | nil => intro c hc; cases hc
  | cons c0 cs ih => cases is with
    | nil => exact absurd h (by simp [bix])
    | cons i is =>
      simp only [bix, Bool.and_eq_true, decide_eq_true_eq] at h
      intro c hc
      rcases List.mem_cons.mp hc with rfl | hc
      · exact List.mem_of_getElem? h.1
      · exact ih h.2 c hc
def bNF : Nat → Nat := fun k => match k with
  | 0 => 7
  | 1 => 2
  | 2 => 8
  | 3 => 7
  | 4 => 3
  | 5 => 8
  | 6 => 15
  | 7 => 6
  | 8 => 15
  | _ => 31
theorem bix_F (is : List Nat) (es : List (Nat × Nat × Nat × Nat × Bool)) (h : (bix is (es.map bFc) && es.all (fun e => decide (e.2.2.1 < 10) && decide (e.2.2.2.1 < bNF e.2.2.1))) = true) : ∀ e ∈ es, bFc e ∈ tables_1 ∧ e.2.2.1 < 10 ∧ e.2.2.2.1 < bNF e.2.2.1 := by
  intro e he
  simp only [Bool.and_eq_true] at h
  have h2 := List.all_eq_true.mp h.2 e he
  simp only [Bool.and_eq_true, decide_eq_true_eq] at h2
  exact ⟨bix_mem h.1 _ (List.mem_map.mpr ⟨e, he, rfl⟩), h2.1, h2.2⟩
set_option maxRecDepth 100000 in
theorem bFk_0 : ∀ e ∈ bF_0, bFc e ∈ tables_1 ∧ e.2.2.1 < 10 ∧ e.2.2.2.1 < bNF e.2.2.1 := bix_F bFi_0 bF_0 (by decide +kernel)
set_option maxRecDepth 100000 in
theorem bFk_1 : ∀ e ∈ bF_1, bFc e ∈ tables_1 ∧ e.2.2.1 < 10 ∧ e.2.2.2.1 < bNF e.2.2.1 := bix_F bFi_1 bF_1 (by decide +kernel)
set_option maxRecDepth 100000 in
theorem bFk_2 : ∀ e ∈ bF_2, bFc e ∈ tables_1 ∧ e.2.2.1 < 10 ∧ e.2.2.2.1 < bNF e.2.2.1 := bix_F bFi_2 bF_2 (by decide +kernel)
set_option maxRecDepth 100000 in
theorem bFk_3 : ∀ e ∈ bF_3, bFc e ∈ tables_1 ∧ e.2.2.1 < 10 ∧ e.2.2.2.1 < bNF e.2.2.1 := bix_F bFi_3 bF_3 (by decide +kernel)
set_option maxRecDepth 100000 in
theorem bFk_4 : ∀ e ∈ bF_4, bFc e ∈ tables_1 ∧ e.2.2.1 < 10 ∧ e.2.2.2.1 < bNF e.2.2.1 := bix_F bFi_4 bF_4 (by decide +kernel)
set_option maxRecDepth 100000 in
theorem bFk_5 : ∀ e ∈ bF_5, bFc e ∈ tables_1 ∧ e.2.2.1 < 10 ∧ e.2.2.2.1 < bNF e.2.2.1 := bix_F bFi_5 bF_5 (by decide +kernel)
theorem bFk : ∀ e ∈ bFt, bFc e ∈ tables_1 ∧ e.2.2.1 < 10 ∧ e.2.2.2.1 < bNF e.2.2.1 := List.forall_mem_append.mpr ⟨bFk_0, List.forall_mem_append.mpr ⟨bFk_1, List.forall_mem_append.mpr ⟨bFk_2, List.forall_mem_append.mpr ⟨bFk_3, List.forall_mem_append.mpr ⟨bFk_4, bFk_5⟩⟩⟩⟩⟩
def bF (own idx : Nat) : Option (Nat × Nat × Bool) := match bFt.find? (fun e => e.1 == own && e.2.1 == idx) with
  | none => none
  | some e => some e.2.2
def bC_0 : List (Nat × Nat × Nat × Bool) := [(0, 38, 265, false), (0, 45, 46, true), (0, 51, 3, false), (0, 61, 6, false), (0, 64, 7, false), (3, 60, 10, true), (3, 64, 64, true), (3, 67, 67, true), (3, 76, 133, true), (3, 104, 20, false), (3, 117, 21, false), (3, 121, 11, true), (3, 131, 23, false), (3, 135, 26, false), (3, 138, 65, true), (3, 141, 30, false), (3, 145, 134, true), (3, 164, 32, false), (3, 168, 265, false), (3, 173, 31, false), (3, 177, 74, true), (3, 181, 22, false), (3, 184, 15, false), (3, 187, 33, false), (3, 194, 34, false), (3, 198, 39, false), (3, 202, 37, false), (3, 206, 35, false), (3, 213, 135, true), (3, 223, 40, false), (3, 229, 68, true), (3, 233, 16, false), (3, 236, 69, true), (3, 240, 42, false), (3, 244, 47, false), (3, 248, 70, true), (3, 251, 72, true), (3, 255, 46, false), (3, 258, 49, false), (3, 261, 1, true)]
def bCi_0 : List Nat := [761, 762, 767, 784, 788, 391, 395, 399, 412, 435, 455, 492, 504, 505, 506, 510, 514, 538, 542, 534, 545, 574, 640, 641, 619, 642, 651, 655, 616, 624, 628, 664, 668, 672, 716, 800, 686, 720, 753, 757]
def bC_1 : List (Nat × Nat × Nat × Bool) := [(3, 267, 2, true), (3, 270, 4, true), (3, 274, 28, false), (3, 277, 71, true), (3, 280, 62, false), (5, 43, 69, false), (5, 47, 70, false), (6, 53, 263, false), (6, 62, 264, false), (6, 71, 75, false), (6, 75, 77, false), (6, 79, 76, false), (6, 83, 265, false), (6, 86, 134, true), (6, 95, 79, false), (7, 36, 133, true), (7, 40, 263, false), (7, 46, 86, false), (7, 50, 84, false), (7, 54, 88, false), (7, 58, 83, false), (7, 61, 89, false), (7, 68, 91, false), (7, 72, 252, false), (7, 76, 92, false), (7, 80, 93, false), (7, 84, 94, false), (7, 87, 90, false), (7, 91, 253, false), (8, 74, 13, true), (8, 78, 17, true), (8, 82, 130, false), (8, 86, 18, true), (8, 90, 19, true), (8, 94, 14, true), (8, 128, 21, true), (8, 131, 22, true), (8, 134, 23, true), (8, 137, 24, true), (8, 140, 15, true)]
def bCi_1 : List Nat := [763, 771, 827, 813, 865, 694, 695, 549, 552, 555, 558, 564, 568, 562, 584, 525, 601, 602, 605, 877, 952, 881, 885, 897, 945, 948, 956, 893, 907, 384, 404, 415, 423, 431, 443, 447, 451, 456, 460, 468]
def bC_2 : List (Nat × Nat × Nat × Bool) := [(8, 154, 26, true), (8, 157, 27, true), (8, 160, 28, true), (8, 166, 25, true), (8, 169, 29, true), (8, 172, 81, true), (8, 175, 33, true), (8, 185, 134, false), (8, 192, 34, true), (8, 196, 31, true), (8, 200, 78, true), (8, 204, 74, true), (8, 208, 85, true), (8, 212, 82, true), (8, 221, 38, true), (8, 225, 39, true), (8, 228, 35, true), (8, 232, 36, true), (8, 236, 41, true), (8, 239, 16, true), (8, 253, 135, false), (8, 263, 46, true), (8, 266, 71, true), (8, 272, 70, true), (8, 278, 43, true), (8, 281, 44, true), (8, 284, 131, false), (8, 288, 48, true), (8, 295, 1, true), (8, 298, 5, true), (8, 301, 45, true), (8, 304, 55, true), (8, 307, 52, true), (8, 310, 47, true), (8, 313, 53, true), (8, 316, 50, true), (8, 319, 51, true), (8, 322, 54, true), (8, 328, 133, false), (8, 332, 56, true)]
def bCi_2 : List Nat := [472, 476, 480, 488, 500, 521, 530, 569, 570, 579, 580, 592, 597, 608, 612, 620, 636, 647, 660, 680, 681, 682, 690, 699, 712, 725, 733, 749, 779, 780, 796, 805, 809, 814, 815, 823, 828, 832, 840, 841]
def bC_3 : List (Nat × Nat × Nat × Bool) := [(8, 335, 57, true), (8, 338, 58, true), (8, 341, 59, true), (8, 344, 60, true), (8, 347, 61, true), (8, 350, 87, true), (8, 372, 132, false), (9, 73, 143, false), (9, 77, 137, false), (9, 81, 144, false), (9, 84, 141, false), (9, 87, 149, false), (9, 91, 148, false), (9, 94, 150, false), (9, 97, 142, false), (9, 100, 138, false), (9, 103, 140, false), (9, 106, 159, false), (9, 110, 158, false), (9, 114, 161, false), (9, 117, 160, false), (9, 120, 145, false), (9, 124, 151, false), (9, 127, 152, false), (9, 130, 164, false), (9, 133, 146, false), (9, 136, 154, false), (9, 139, 166, false), (9, 142, 156, false), (9, 145, 168, false), (9, 149, 170, false), (9, 152, 171, false), (9, 155, 155, false), (9, 158, 172, false), (9, 164, 176, false), (9, 168, 265, false), (9, 173, 175, false), (9, 186, 153, false), (9, 189, 177, false), (9, 193, 178, false)]
def bCi_3 : List Nat := [845, 849, 853, 857, 861, 873, 737, 1150, 1087, 1146, 1130, 1138, 1142, 1134, 1174, 1090, 1094, 1118, 1102, 1106, 1114, 1126, 1154, 1158, 1162, 1170, 1178, 1182, 1186, 1194, 1214, 1210, 1202, 1206, 1241, 1245, 1237, 1233, 1229, 1225]
def bC_4 : List (Nat × Nat × Nat × Bool) := [(9, 196, 179, false), (9, 199, 180, false), (9, 212, 184, false), (9, 216, 186, false), (9, 220, 185, false), (9, 224, 183, false), (9, 227, 187, false), (9, 230, 190, false), (9, 233, 189, false), (9, 237, 188, false), (9, 240, 191, false), (9, 243, 192, false), (9, 246, 194, false), (9, 249, 195, false), (9, 252, 197, false), (9, 255, 198, false), (9, 258, 147, false), (9, 261, 201, false), (9, 264, 213, false), (9, 270, 204, false), (9, 273, 208, false), (9, 276, 207, false), (9, 279, 209, false), (9, 282, 210, false), (9, 285, 211, false), (9, 288, 212, false), (9, 291, 214, false), (9, 294, 215, false), (9, 300, 221, false), (9, 303, 219, false), (9, 306, 220, false), (9, 309, 222, false), (9, 312, 223, false), (9, 315, 227, false), (9, 318, 228, false), (9, 321, 229, false), (9, 324, 139, false), (9, 327, 231, false), (9, 331, 232, false), (9, 334, 234, false)]
def bCi_4 : List Nat := [1246, 1254, 1279, 1275, 1283, 1267, 1271, 1291, 1295, 1263, 1287, 1299, 1311, 1307, 1323, 1319, 1331, 1339, 1343, 1379, 1355, 1359, 1351, 1363, 1367, 1347, 1395, 1391, 1427, 1415, 1419, 1423, 1411, 1443, 1447, 1451, 1455, 1463, 1467, 1475]
def bC_5 : List (Nat × Nat × Nat × Bool) := [(9, 338, 235, false), (9, 341, 236, false), (9, 344, 237, false), (9, 347, 239, false), (9, 350, 241, false), (9, 353, 240, false), (9, 359, 243, false), (9, 362, 242, false), (9, 365, 244, false), (9, 368, 245, false), (10, 335, 254, false), (10, 492, 255, false), (10, 495, 257, false), (10, 498, 260, false), (10, 1059, 262, false), (11, 9, 256, false), (12, 48, 259, false), (12, 67, 261, false), (12, 71, 258, false), (12, 414, 256, false), (16, 13, 96, false), (16, 17, 157, false), (16, 18, 97, false), (16, 22, 162, false), (16, 23, 98, false), (16, 27, 163, false), (16, 28, 99, false), (16, 31, 165, false), (16, 32, 100, false), (16, 35, 167, false), (16, 36, 101, false), (16, 40, 169, false), (16, 41, 102, false), (16, 44, 173, false), (16, 45, 103, false), (16, 48, 174, false), (16, 49, 104, false), (16, 52, 180, false), (16, 53, 105, false), (16, 56, 181, false)]
def bCi_5 : List Nat := [1479, 1483, 1487, 1503, 1507, 1510, 1514, 1499, 1517, 1495, 901, 911, 915, 926, 923, 918, 932, 929, 936, 935, 380, 1083, 419, 1098, 427, 1110, 439, 1122, 464, 1166, 484, 1190, 496, 1198, 517, 1217, 526, 1221, 575, 1250]
def bC_6 : List (Nat × Nat × Nat × Bool) := [(16, 57, 106, false), (16, 60, 182, false), (16, 61, 107, false), (16, 64, 193, false), (16, 65, 108, false), (16, 68, 196, false), (16, 69, 109, false), (16, 73, 199, false), (16, 74, 110, false), (16, 77, 200, false), (16, 78, 111, false), (16, 81, 216, false), (16, 82, 112, false), (16, 85, 217, false), (16, 86, 113, false), (16, 89, 218, false), (16, 90, 114, false), (16, 93, 202, false), (16, 94, 115, false), (16, 97, 203, false), (16, 98, 116, false), (16, 101, 205, false), (16, 102, 117, false), (16, 105, 206, false), (16, 106, 118, false), (16, 109, 224, false), (16, 110, 119, false), (16, 113, 225, false), (16, 114, 120, false), (16, 117, 226, false), (16, 118, 121, false), (16, 121, 230, false), (16, 122, 122, false), (16, 125, 233, false), (16, 126, 123, false), (16, 129, 238, false), (16, 130, 124, false), (16, 133, 246, false), (16, 134, 125, false), (16, 137, 247, false)]
def bCi_6 : List Nat := [588, 1255, 593, 1259, 632, 1303, 643, 1315, 656, 1327, 676, 1387, 700, 1399, 704, 1403, 708, 1335, 721, 1371, 729, 1375, 741, 1383, 745, 1407, 775, 1431, 792, 1435, 801, 1439, 819, 1459, 836, 1471, 869, 1491, 962, 1521]
def bC_7 : List (Nat × Nat × Nat × Bool) := [(16, 138, 126, false), (16, 141, 248, false), (16, 142, 127, false), (16, 145, 249, false), (16, 146, 128, false), (16, 149, 250, false), (16, 150, 129, false), (16, 153, 251, false)]
def bCi_7 : List Nat := [966, 1525, 970, 1529, 974, 1533, 978, 1537]
def bCt : List (Nat × Nat × Nat × Bool) := bC_0 ++ (bC_1 ++ (bC_2 ++ (bC_3 ++ (bC_4 ++ (bC_5 ++ (bC_6 ++ (bC_7)))))))
def bE0 : bEnt := (0, ⟨"", "", ""⟩, ⟨#[]⟩, 0, none, 0, false)
def bCe (k : Nat) : bEnt := bMt.getD k bE0
def bCc (e : Nat × Nat × Nat × Bool) : Cond := if e.2.2.2 = true then .methodLinkNest (bRN e.1) e.2.1 (bCe e.2.2.1).2.1 "PaperCutter" else .methodLink (bRN e.1) e.2.1 (bCe e.2.2.1).2.1
def bC (own idx : Nat) : Option (Nat × Bool) := match bCt.find? (fun e => e.1 == own && e.2.1 == idx) with
  | none => none
  | some e => some e.2.2
theorem bix_C (is : List Nat) (es : List (Nat × Nat × Nat × Bool)) (h : (bix is (es.map bCc) && es.all (fun e => decide (e.2.2.1 < 267))) = true) : ∀ e ∈ es, bCc e ∈ tables_1 ∧ e.2.2.1 < 267 := by
  intro e he
  simp only [Bool.and_eq_true] at h
  have h2 := List.all_eq_true.mp h.2 e he
  simp only [decide_eq_true_eq] at h2
  exact ⟨bix_mem h.1 _ (List.mem_map.mpr ⟨e, he, rfl⟩), h2⟩
set_option maxRecDepth 100000 in
theorem bCk_0 : ∀ e ∈ bC_0, bCc e ∈ tables_1 ∧ e.2.2.1 < 267 := bix_C bCi_0 bC_0 (by decide +kernel)
set_option maxRecDepth 100000 in
theorem bCk_1 : ∀ e ∈ bC_1, bCc e ∈ tables_1 ∧ e.2.2.1 < 267 := bix_C bCi_1 bC_1 (by decide +kernel)
set_option maxRecDepth 100000 in
theorem bCk_2 : ∀ e ∈ bC_2, bCc e ∈ tables_1 ∧ e.2.2.1 < 267 := bix_C bCi_2 bC_2 (by decide +kernel)
set_option maxRecDepth 100000 in
theorem bCk_3 : ∀ e ∈ bC_3, bCc e ∈ tables_1 ∧ e.2.2.1 < 267 := bix_C bCi_3 bC_3 (by decide +kernel)
set_option maxRecDepth 100000 in
theorem bCk_4 : ∀ e ∈ bC_4, bCc e ∈ tables_1 ∧ e.2.2.1 < 267 := bix_C bCi_4 bC_4 (by decide +kernel)
set_option maxRecDepth 100000 in
theorem bCk_5 : ∀ e ∈ bC_5, bCc e ∈ tables_1 ∧ e.2.2.1 < 267 := bix_C bCi_5 bC_5 (by decide +kernel)
set_option maxRecDepth 100000 in
theorem bCk_6 : ∀ e ∈ bC_6, bCc e ∈ tables_1 ∧ e.2.2.1 < 267 := bix_C bCi_6 bC_6 (by decide +kernel)
set_option maxRecDepth 100000 in
theorem bCk_7 : ∀ e ∈ bC_7, bCc e ∈ tables_1 ∧ e.2.2.1 < 267 := bix_C bCi_7 bC_7 (by decide +kernel)
theorem bCk : ∀ e ∈ bCt, bCc e ∈ tables_1 ∧ e.2.2.1 < 267 := List.forall_mem_append.mpr ⟨bCk_0, List.forall_mem_append.mpr ⟨bCk_1, List.forall_mem_append.mpr ⟨bCk_2, List.forall_mem_append.mpr ⟨bCk_3, List.forall_mem_append.mpr ⟨bCk_4, List.forall_mem_append.mpr ⟨bCk_5, List.forall_mem_append.mpr ⟨bCk_6, bCk_7⟩⟩⟩⟩⟩⟩⟩
/-- a method's own words, by their places: code, initialized, static or instanceMethod, selects (of the private ones: by lw_privs) -/
def bMw (m : bEnt) : List Jvm.Cond := [.code m.2.1 m.2.2.1 m.2.2.2.1 m.2.2.2.2.1, .initialized m.2.1.cls, if m.2.2.2.2.2.2 = true then .static m.2.1 else .instanceMethod m.2.1]
def bMb (m : bEnt) : Bool := decide (m.2.1.cls = bRN m.1) && plainFor m.2.1 && decide (m.2.1.cls ≠ "java/lang/invoke/MethodHandle") && decide (m.2.1.cls ≠ "java/lang/invoke/VarHandle") && decide (m.2.2.2.1 ≤ 12) && decide ((parseMethodDescriptor m.2.1.desc).map (fun d => d.parameters.length) = some (if m.2.2.2.2.2.2 = true then m.2.2.2.2.2.1 else m.2.2.2.2.2.1 - 1)) && (m.2.2.2.2.2.2 || decide (0 < m.2.2.2.2.2.1))
def bMs (sp : List Nat) (ms : List bEnt) : Bool := match sp, ms with
  | _, [] => true
  | i :: sp, m :: ms => (m.2.2.2.2.2.2 || m.2.1.name == "<init>" || decide (lw_tbl[i]? = some (Cond.selects m.2.1.cls m.2.1 m.2.1))) && bMs sp ms
  | [], _ :: _ => false
theorem bMs_mem {sp : List Nat} {ms : List bEnt} (h : bMs sp ms = true) : ∀ m ∈ ms, m.2.2.2.2.2.2 = true ∨ m.2.1.name = "<init>" ∨ Cond.selects m.2.1.cls m.2.1 m.2.1 ∈ lw_tbl := by
  induction ms generalizing sp with
  | nil => intro c hc; cases hc
  | cons m0 ms ih => cases sp with
    | nil => exact absurd h (by simp [bMs])
    | cons i sp =>
      simp only [bMs, Bool.and_eq_true, Bool.or_eq_true, beq_iff_eq, decide_eq_true_eq] at h
      intro c hc
      rcases List.mem_cons.mp hc with rfl | hc
      · rcases h.1 with (h1 | h1) | h1
        · exact Or.inl h1
        · exact Or.inr (Or.inl h1)
        · exact Or.inr (Or.inr (List.mem_of_getElem? h1))
      · exact ih h.2 c hc
def bMk1 (m : bEnt) : Prop := (∀ w ∈ bMw m, w ∈ tables_1) ∧ bMb m = true ∧ (m.2.2.2.2.2.2 = true ∨ m.2.1.name = "<init>" ∨ Cond.selects m.2.1.cls m.2.1 m.2.1 ∈ lw_tbl)
theorem bMk_of (is sp : List Nat) (ms : List bEnt) (h : (bix is (ms.flatMap bMw) && ms.all bMb) = true) (h2 : bMs sp ms = true) : ∀ m ∈ ms, bMk1 m := by
  intro m hm
  simp only [Bool.and_eq_true] at h
  exact ⟨fun w hw => bix_mem h.1 w (List.mem_flatMap.mpr ⟨m, hm, hw⟩), List.all_eq_true.mp h.2 m hm, bMs_mem h2 m hm⟩
def bMi_0 : List Nat := [259, 7, 258, 760, 7, 759, 766, 7, 765, 769, 7, 768, 774, 7, 773, 783, 7, 782, 787, 7, 786, 791, 7, 790, 297, 9, 296, 50, 3, 49, 394, 3, 393, 495, 3, 494, 30, 2, 29, 387, 2, 386, 446, 2, 445, 471, 2, 470, 667, 2, 666, 407, 2, 406, 426, 2, 425, 434, 2, 433]
def bMj_0 : List Nat := [0, 57, 58, 0, 59, 60, 61, 62, 0, 0, 1, 19, 0, 0, 9, 14, 43, 4, 6, 7]
set_option maxRecDepth 100000 in
theorem bMk_0 : ∀ m ∈ bM_0, bMk1 m := bMk_of bMi_0 bMj_0 bM_0 (by decide +kernel) (by decide +kernel)
def bMi_1 : List Nat := [438, 2, 437, 450, 2, 449, 454, 2, 453, 459, 2, 458, 463, 2, 462, 491, 2, 490, 475, 2, 474, 479, 2, 478, 483, 2, 482, 503, 2, 502, 513, 2, 512, 537, 2, 536, 541, 2, 540, 533, 2, 532, 573, 2, 572, 639, 2, 638, 650, 2, 649, 654, 2, 653, 615, 2, 614, 623, 2, 622]
def bMj_1 : List Nat := [8, 10, 11, 12, 13, 18, 15, 16, 17, 20, 22, 25, 26, 24, 30, 39, 40, 41, 35, 36]
set_option maxRecDepth 100000 in
theorem bMk_1 : ∀ m ∈ bM_1, bMk1 m := bMk_of bMi_1 bMj_1 bM_1 (by decide +kernel) (by decide +kernel)
def bMi_2 : List Nat := [627, 2, 626, 663, 2, 662, 675, 2, 674, 715, 2, 714, 728, 2, 727, 799, 2, 798, 685, 2, 684, 719, 2, 718, 752, 2, 751, 756, 2, 755, 826, 2, 825, 831, 2, 830, 812, 2, 811, 818, 2, 817, 835, 2, 834, 808, 2, 807, 844, 2, 843, 848, 2, 847, 852, 2, 851, 856, 2, 855]
def bMj_2 : List Nat := [37, 42, 45, 50, 52, 63, 46, 51, 55, 56, 67, 68, 65, 66, 69, 64, 70, 71, 72, 73]
set_option maxRecDepth 100000 in
theorem bMk_2 : ∀ m ∈ bM_2, bMk1 m := bMk_of bMi_2 bMj_2 bM_2 (by decide +kernel) (by decide +kernel)
def bMi_3 : List Nat := [860, 2, 859, 864, 2, 863, 868, 2, 867, 99, 4, 98, 398, 4, 397, 509, 4, 508, 120, 5, 119, 402, 5, 401, 631, 5, 630, 671, 5, 670, 698, 5, 697, 693, 5, 692, 689, 5, 688, 196, 6, 195, 548, 6, 547, 557, 6, 556, 567, 6, 566, 561, 6, 560, 583, 6, 582, 587, 6, 586]
def bMj_3 : List Nat := [74, 75, 76, 0, 2, 21, 0, 3, 38, 44, 49, 48, 47, 0, 27, 0, 29, 28, 31, 32]
set_option maxRecDepth 100000 in
theorem bMk_3 : ∀ m ∈ bM_3, bMk1 m := bMk_of bMi_3 bMj_3 bM_3 (by decide +kernel) (by decide +kernel)
def bMi_4 : List Nat := [290, 8, 289, 524, 8, 523, 611, 8, 610, 955, 8, 954, 607, 8, 606, 600, 8, 599, 604, 8, 603, 876, 8, 875, 880, 8, 879, 884, 8, 883, 896, 8, 895, 887, 8, 886, 947, 8, 946, 951, 8, 950, 959, 8, 958, 22, 1, 21, 383, 1, 381, 422, 1, 420, 430, 1, 428, 442, 1, 440]
def bMj_4 : List Nat := [0, 23, 34, 82, 0, 33, 0, 77, 78, 79, 80, 0, 0, 81, 83, 0, 543, 582, 590, 602]
set_option maxRecDepth 100000 in
theorem bMk_4 : ∀ m ∈ bM_4, bMk1 m := bMk_of bMi_4 bMj_4 bM_4 (by decide +kernel) (by decide +kernel)
def bMi_5 : List Nat := [467, 1, 465, 487, 1, 485, 499, 1, 497, 520, 1, 518, 529, 1, 527, 578, 1, 576, 591, 1, 589, 596, 1, 594, 635, 1, 633, 646, 1, 644, 659, 1, 657, 679, 1, 677, 703, 1, 701, 707, 1, 705, 711, 1, 709, 724, 1, 722, 732, 1, 730, 744, 1, 742, 748, 1, 746, 778, 1, 776]
def bMj_5 : List Nat := [627, 647, 659, 680, 689, 738, 751, 756, 795, 806, 819, 839, 863, 867, 871, 884, 892, 904, 908, 938]
set_option maxRecDepth 100000 in
theorem bMk_5 : ∀ m ∈ bM_5, bMk1 m := bMk_of bMi_5 bMj_5 bM_5 (by decide +kernel) (by decide +kernel)
def bMi_6 : List Nat := [795, 1, 793, 804, 1, 802, 822, 1, 820, 839, 1, 837, 872, 1, 870, 965, 1, 963, 969, 1, 967, 973, 1, 971, 977, 1, 975, 981, 1, 979, 418, 1, 417, 736, 1, 735, 740, 1, 739, 414, 1, 413, 516, 1, 515, 618, 1, 617, 986, 10, 985, 1089, 10, 1088, 1093, 10, 1092, 1458, 10, 1457]
def bMj_6 : List Nat := [955, 964, 982, 999, 1032, 1125, 1129, 1133, 1137, 1141, 5, 53, 54, 0, 0, 0, 0, 0, 84, 149]
set_option maxRecDepth 100000 in
theorem bMk_6 : ∀ m ∈ bM_6, bMk1 m := bMk_of bMi_6 bMj_6 bM_6 (by decide +kernel) (by decide +kernel)
def bMi_7 : List Nat := [1097, 10, 1096, 1133, 10, 1132, 1177, 10, 1176, 1153, 10, 1152, 1149, 10, 1148, 1129, 10, 1128, 1173, 10, 1172, 1334, 10, 1333, 1145, 10, 1144, 1141, 10, 1140, 1137, 10, 1136, 1157, 10, 1156, 1161, 10, 1160, 1236, 10, 1235, 1181, 10, 1180, 1205, 10, 1204, 1189, 10, 1188, 1086, 10, 1084, 1105, 10, 1104, 1121, 10, 1120]
def bMj_7 : List Nat := [85, 91, 101, 96, 95, 90, 100, 129, 94, 93, 92, 97, 98, 111, 102, 106, 104, 1246, 86, 89]
set_option maxRecDepth 100000 in
theorem bMk_7 : ∀ m ∈ bM_7, bMk1 m := bMk_of bMi_7 bMj_7 bM_7 (by decide +kernel) (by decide +kernel)
def bMi_8 : List Nat := [1117, 10, 1116, 1109, 10, 1108, 1101, 10, 1099, 1113, 10, 1111, 1165, 10, 1164, 1125, 10, 1123, 1185, 10, 1184, 1169, 10, 1167, 1197, 10, 1196, 1193, 10, 1191, 1216, 10, 1215, 1213, 10, 1212, 1209, 10, 1208, 1201, 10, 1199, 1220, 10, 1218, 1240, 10, 1239, 1244, 10, 1243, 1232, 10, 1231, 1228, 10, 1227, 1249, 10, 1248]
def bMj_8 : List Nat := [88, 87, 1261, 1273, 99, 1285, 103, 1329, 105, 1353, 0, 108, 107, 1361, 1380, 112, 113, 110, 109, 114]
set_option maxRecDepth 100000 in
theorem bMk_8 : ∀ m ∈ bM_8, bMk1 m := bMk_of bMi_8 bMj_8 bM_8 (by decide +kernel) (by decide +kernel)
def bMi_9 : List Nat := [1224, 10, 1222, 1253, 10, 1251, 1258, 10, 1256, 1270, 10, 1269, 1282, 10, 1281, 1286, 10, 1285, 1278, 10, 1277, 1274, 10, 1273, 1266, 10, 1265, 1298, 10, 1297, 1294, 10, 1293, 1290, 10, 1289, 1302, 10, 1301, 1262, 10, 1260, 1314, 10, 1313, 1310, 10, 1309, 1306, 10, 1304, 1326, 10, 1325, 1322, 10, 1321, 1318, 10, 1316]
def bMj_9 : List Nat := [1384, 1413, 1418, 116, 119, 120, 118, 117, 115, 123, 122, 121, 124, 1422, 126, 125, 1466, 128, 127, 1478]
set_option maxRecDepth 100000 in
theorem bMk_9 : ∀ m ∈ bM_9, bMk1 m := bMk_of bMi_9 bMj_9 bM_9 (by decide +kernel) (by decide +kernel)
def bMi_10 : List Nat := [1330, 10, 1328, 1342, 10, 1341, 1338, 10, 1336, 1374, 10, 1372, 1382, 10, 1381, 1378, 10, 1376, 1386, 10, 1384, 1362, 10, 1361, 1358, 10, 1357, 1354, 10, 1353, 1366, 10, 1365, 1370, 10, 1369, 1350, 10, 1349, 1346, 10, 1345, 1398, 10, 1397, 1394, 10, 1393, 1390, 10, 1388, 1402, 10, 1400, 1406, 10, 1404, 1418, 10, 1417]
def bMj_10 : List Nat := [1490, 130, 1498, 1534, 138, 1538, 1546, 135, 134, 133, 136, 137, 132, 131, 140, 139, 1550, 1562, 1566, 142]
set_option maxRecDepth 100000 in
theorem bMk_10 : ∀ m ∈ bM_10, bMk1 m := bMk_of bMi_10 bMj_10 bM_10 (by decide +kernel) (by decide +kernel)
def bMi_11 : List Nat := [1422, 10, 1421, 1430, 10, 1429, 1426, 10, 1425, 1414, 10, 1413, 1410, 10, 1408, 1434, 10, 1432, 1438, 10, 1436, 1446, 10, 1445, 1450, 10, 1449, 1454, 10, 1453, 1442, 10, 1440, 1466, 10, 1465, 1470, 10, 1469, 1462, 10, 1460, 1478, 10, 1477, 1482, 10, 1481, 1486, 10, 1485, 1490, 10, 1489, 1474, 10, 1472, 1506, 10, 1505]
def bMj_11 : List Nat := [143, 145, 144, 141, 1570, 1594, 1598, 146, 147, 148, 1602, 150, 151, 1622, 152, 153, 154, 155, 1634, 158]
set_option maxRecDepth 100000 in
theorem bMk_11 : ∀ m ∈ bM_11, bMk1 m := bMk_of bMi_11 bMj_11 bM_11 (by decide +kernel) (by decide +kernel)
def bMi_12 : List Nat := [1513, 10, 1512, 1509, 10, 1508, 1502, 10, 1501, 1516, 10, 1515, 1520, 10, 1519, 1498, 10, 1497, 1494, 10, 1492, 1524, 10, 1522, 1528, 10, 1526, 1532, 10, 1530, 1536, 10, 1534, 1540, 10, 1538, 900, 14, 898, 910, 14, 908, 904, 14, 902, 914, 14, 912, 920, 14, 919, 917, 15, 916, 938, 17, 937, 934, 17, 933]
def bMj_12 : List Nat := [159, 0, 157, 0, 160, 156, 1654, 1684, 1688, 1692, 1696, 1700, 1060, 1070, 1064, 1074, 0, 0, 0, 0]
set_option maxRecDepth 100000 in
theorem bMk_12 : ∀ m ∈ bM_12, bMk1 m := bMk_of bMi_12 bMj_12 bM_12 (by decide +kernel) (by decide +kernel)
def bMi_13 : List Nat := [928, 17, 927, 931, 17, 930, 925, 16, 924, 551, 13, 550, 554, 12, 553, 544, 12, 543]
def bMj_13 : List Nat := [0, 0, 0, 0, 0, 0]
set_option maxRecDepth 100000 in
theorem bMk_13 : ∀ m ∈ bM_13, bMk1 m := bMk_of bMi_13 bMj_13 bM_13 (by decide +kernel) (by decide +kernel)
theorem bMk_l : ∀ m ∈ bM_14, m.1 = 16 ∨ bMk1 m := by
  intro m hm
  simp only [bM_14, List.mem_singleton] at hm
  subst hm
  exact Or.inl rfl
theorem bMk : ∀ m ∈ bMt, m.1 = 16 ∨ bMk1 m := List.forall_mem_append.mpr ⟨fun m h => Or.inr (bMk_0 m h), List.forall_mem_append.mpr ⟨fun m h => Or.inr (bMk_1 m h), List.forall_mem_append.mpr ⟨fun m h => Or.inr (bMk_2 m h), List.forall_mem_append.mpr ⟨fun m h => Or.inr (bMk_3 m h), List.forall_mem_append.mpr ⟨fun m h => Or.inr (bMk_4 m h), List.forall_mem_append.mpr ⟨fun m h => Or.inr (bMk_5 m h), List.forall_mem_append.mpr ⟨fun m h => Or.inr (bMk_6 m h), List.forall_mem_append.mpr ⟨fun m h => Or.inr (bMk_7 m h), List.forall_mem_append.mpr ⟨fun m h => Or.inr (bMk_8 m h), List.forall_mem_append.mpr ⟨fun m h => Or.inr (bMk_9 m h), List.forall_mem_append.mpr ⟨fun m h => Or.inr (bMk_10 m h), List.forall_mem_append.mpr ⟨fun m h => Or.inr (bMk_11 m h), List.forall_mem_append.mpr ⟨fun m h => Or.inr (bMk_12 m h), List.forall_mem_append.mpr ⟨fun m h => Or.inr (bMk_13 m h), bMk_l⟩⟩⟩⟩⟩⟩⟩⟩⟩⟩⟩⟩⟩⟩
end
section
/-! THE ABSTRACT MACHINE: the same bytecode over a typed memory. An address is (kind, i, j); the memory gives each slot of each address an Int32. -/
abbrev bAd : Type := Nat × Nat × Nat
abbrev bV : Type := Int32 ⊕ (bAd ⊕ Int64)
abbrev bSt : Type := Nat → Nat → Nat → Nat → Int32
abbrev bFr : Type := Nat × List (Option bV) × List bV × bSt
abbrev vI (x : Int32) : bV := .inl x
abbrev vR (k i j : Nat) : bV := .inr (.inl (k, i, j))
abbrev vL (x : Int64) : bV := .inr (.inr x)
/-- one slot written -/
def sUp (S : bSt) (k i j n : Nat) (x : Int32) : bSt := fun k' i' j' n' => if k' = k ∧ i' = i ∧ j' = j ∧ n' = n then x else S k' i' j' n'
/-- a stretch copied from one address to another -/
def sCp (S : bSt) (a b : bAd) (sp dp n : Nat) : bSt := fun k' i' j' n' => if k' = b.1 ∧ i' = b.2.1 ∧ j' = b.2.2 ∧ dp ≤ n' ∧ n' < dp + n then S a.1 a.2.1 a.2.2 (sp + (n' - dp)) else S k' i' j' n'
/-- kinds that are objects: their class -/
def kObj : Nat → Option Nat := fun k => match k with
  | 0 => some 8
  | 1 => some 3
  | 4 => some 2
  | 6 => some 4
  | 8 => some 5
  | 12 => some 6
  | 19 => some 0
  | 26 => some 7
  | 30 => some 1
  | 40 => some 9
  | _ => none
/-- kinds that are arrays: what they hold (0 int, 1 char, 2 boolean, 3 Order, 4 Roll, 5 Run, 6 Plan, 7 Command, 8 int[]), how many -/
def kArr : Nat → Option (Nat × Nat) := fun k => match k with
  | 2 => some (0, 3)
  | 3 => some (3, 8)
  | 5 => some (4, 12)
  | 7 => some (5, 16)
  | 9 => some (0, 8)
  | 10 => some (0, 7)
  | 11 => some (6, 8)
  | 13 => some (0, 8)
  | 14 => some (0, 8)
  | 15 => some (0, 8)
  | 16 => some (0, 8)
  | 17 => some (0, 9)
  | 18 => some (0, 301)
  | 20 => some (8, 8)
  | 21 => some (0, 7)
  | 22 => some (0, 7)
  | 23 => some (0, 7)
  | 24 => some (0, 896)
  | 25 => some (5, 7)
  | 27 => some (1, 80)
  | 28 => some (0, 10)
  | 29 => some (7, 20)
  | 31 => some (0, 6)
  | 32 => some (1, 31)
  | 41 => some (0, 282)
  | 42 => some (0, 2256)
  | 43 => some (0, 282)
  | 44 => some (0, 282)
  | 45 => some (1, 80)
  | 46 => some (0, 8)
  | 47 => some (0, 8)
  | 48 => some (0, 8)
  | 49 => some (0, 10)
  | 50 => some (1, 40)
  | 51 => some (0, 16)
  | 52 => some (2, 16)
  | 53 => some (0, 16)
  | 54 => some (0, 272)
  | 55 => some (0, 192)
  | 56 => some (1, 33)
  | 57 => some (0, 5)
  | _ => none
/-- how many addresses of a kind there are: i and j below -/
def kDim : Nat → Nat × Nat := fun k => match k with
  | 1 => (12, 1)
  | 2 => (12, 1)
  | 3 => (12, 1)
  | 4 => (12, 8)
  | 5 => (12, 1)
  | 6 => (12, 12)
  | 7 => (12, 1)
  | 8 => (12, 16)
  | 9 => (12, 16)
  | 10 => (12, 16)
  | 21 => (8, 1)
  | 30 => (20, 1)
  | 31 => (20, 1)
  | _ => if (kObj k).isSome || (kArr k).isSome then (1, 1) else (0, 0)
def bok (k i j : Nat) : Bool := decide (i < (kDim k).1) && decide (j < (kDim k).2)
/-- fields that hold a reference: which address -/
def fRef (k i j f : Nat) : Option bAd := match k with
  | 0 => match f with
    | 0 => some (1, 0, 0)
    | 1 => some (1, 1, 0)
    | 2 => some (1, 2, 0)
    | 3 => some (1, 3, 0)
    | 4 => some (11, 0, 0)
    | 5 => some (12, 0, 0)
    | 6 => some (19, 0, 0)
    | 7 => some (26, 0, 0)
    | 8 => some (32, 0, 0)
    | _ => none
  | 1 => match f with
    | 0 => some (2, i, 0)
    | 1 => some (3, i, 0)
    | 2 => some (5, i, 0)
    | 3 => some (7, i, 0)
    | _ => none
  | 8 => match f with
    | 6 => some (9, i, j)
    | 7 => some (10, i, j)
    | _ => none
  | 12 => match f with
    | 4 => some (13, 0, 0)
    | 5 => some (14, 0, 0)
    | 6 => some (15, 0, 0)
    | 7 => some (16, 0, 0)
    | 8 => some (17, 0, 0)
    | 9 => some (18, 0, 0)
    | _ => none
  | 19 => match f with
    | 1 => some (20, 0, 0)
    | 2 => some (22, 0, 0)
    | 3 => some (23, 0, 0)
    | 4 => some (24, 0, 0)
    | 5 => some (25, 0, 0)
    | _ => none
  | 26 => match f with
    | 0 => some (27, 0, 0)
    | 3 => some (28, 0, 0)
    | 4 => some (29, 0, 0)
    | _ => none
  | 30 => match f with
    | 1 => some (31, i, 0)
    | _ => none
  | 40 => match f with
    | 0 => some (41, 0, 0)
    | 1 => some (42, 0, 0)
    | 3 => some (43, 0, 0)
    | 5 => some (44, 0, 0)
    | 6 => some (45, 0, 0)
    | 10 => some (46, 0, 0)
    | 11 => some (47, 0, 0)
    | 15 => some (48, 0, 0)
    | 19 => some (49, 0, 0)
    | 20 => some (50, 0, 0)
    | 22 => some (51, 0, 0)
    | 23 => some (52, 0, 0)
    | 24 => some (53, 0, 0)
    | 26 => some (54, 0, 0)
    | 27 => some (55, 0, 0)
    | 28 => some (56, 0, 0)
    | 29 => some (57, 0, 0)
    | _ => none
  | _ => none
/-- what an element of an array of references is, by the Int32 that the memory keeps there -/
def eRef (k i n : Nat) (v : Int32) : Option bAd := match k with
  | 3 => some (4, i, n)
  | 5 => some (6, i, n)
  | 7 => some (8, i, v.toNatClampNeg)
  | 11 => some (1, n + 4, 0)
  | 20 => some (21, n, 0)
  | 25 => if v < 0 then none else some (8, 0, v.toNatClampNeg)
  | 29 => some (30, n, 0)
  | _ => none
/-- which Int32 is kept for a reference that is stored -/
def eCode (k i : Nat) (a : bAd) : Option Int32 := match k with
  | 7 => if a.1 = 8 ∧ a.2.1 = i ∧ a.2.2 < 16 then some (Int32.ofNat a.2.2) else none
  | 25 => if a.1 = 8 ∧ a.2.1 = 0 ∧ a.2.2 < 16 then some (Int32.ofNat a.2.2) else none
  | _ => none
def bArr (k t : Nat) : Bool := match kArr k with
  | some q => q.1 == t
  | none => false
def bLen (k : Nat) : Nat := match kArr k with
  | some q => q.2
  | none => 0
/-- arrays that are only read: three statics, the script -/
def bRO (k : Nat) : Bool := k == 33 || k == 34 || k == 35 || k == 36
def bROl (S : bSt) (k : Nat) : Nat := if k = 36 then (S 36 1 0 0).toNatClampNeg else 3
/-- the string constants: order roll cut all arrange better -/
def bTx : List (List Int32) := [[111, 114, 100, 101, 114], [114, 111, 108, 108], [99, 117, 116], [97, 108, 108], [97, 114, 114, 97, 110, 103, 101], [98, 101, 116, 116, 101, 114]]
def bTl : List Nat := [5, 4, 3, 3, 7, 6]
def bStr : Nat → String := fun n => match n with
  | 0 => "order"
  | 1 => "roll"
  | 2 => "cut"
  | 3 => "all"
  | 4 => "arrange"
  | _ => "better"
def bLdc (own idx : Nat) : Option Nat := if own = 7 then (match idx with
  | 95 => some 0
  | 97 => some 1
  | 99 => some 2
  | 101 => some 3
  | 103 => some 4
  | 108 => some 5
  | _ => none) else none
/-- static arrays of PaperCutter, as Plan's pool names them; System.arraycopy as the pools name it -/
def bSf (own idx : Nat) : Option Nat := if own = 3 then (match idx with
  | 9 => some 33
  | 70 => some 34
  | 73 => some 35
  | _ => none) else none
def bAcp (own idx : Nat) : Bool := (own == 3 && idx == 54) || (own == 5 && idx == 37) || (own == 6 && idx == 89) || (own == 0 && idx == 55)
def bH (c : Jvm.ClassFile.Cond) (x y : Int32) : Bool := match c with
  | .eq => decide (x = y)
  | .ne => !decide (x = y)
  | .lt => decide (x < y)
  | .ge => decide (y ≤ x)
  | .gt => decide (y < x)
  | .le => decide (x ≤ y)
def bTg (pc : Nat) (off : Int) : Nat := ((pc : Int) + off).toNat
/-- the type of a field that a method may write: 1 int, 2 boolean -/
def bFw (ci f : Nat) : Nat := if (bTX ci f).2.2.2 = true then 0 else if (bTX ci f).2.2.1 = "I" then 1 else if (bTX ci f).2.2.1 = "Z" then 2 else 0
def bXld (t pc : Nat) (ls : List (Option bV)) (st : List bV) (S : bSt) : Option (Prop × bFr) := match st with
  | .inl n :: .inr (.inl (k, i, j)) :: st' =>
    if bArr k t = true then some (bok k i j = true ∧ vp_in n (bLen k), pc + 1, ls, vI (S k i j n.toNatClampNeg) :: st', S)
    else if t = 0 ∧ bRO k = true ∧ i = 0 ∧ j = 0 then some (vp_in n (bROl S k), pc + 1, ls, vI (S k 0 0 n.toNatClampNeg) :: st', S)
    else if t = 9 ∧ k = 38 ∧ j = 0 then some (i < 6 ∧ vp_in n (bTl.getD i 0), pc + 1, ls, vI ((bTx.getD i []).getD n.toNatClampNeg 0) :: st', S)
    else none
  | _ => none
def bXst (t pc : Nat) (ls : List (Option bV)) (st : List bV) (S : bSt) : Option (Prop × bFr) := match st with
  | .inl x :: .inl n :: .inr (.inl (k, i, j)) :: st' =>
    if bArr k t = true then some (bok k i j = true ∧ vp_in n (bLen k) ∧ (t = 1 → narrow .char (.int x) = .int x) ∧ (t = 2 → x = 0 ∨ x = 1), pc + 1, ls, st', sUp S k i j n.toNatClampNeg x)
    else none
  | _ => none
def bLd (r : Bool) (n pc : Nat) (ls : List (Option bV)) (st : List bV) (S : bSt) : Option (Prop × bFr) := match ls[n]? with
  | some (some (.inl x)) => if r = true then none else some (True, pc, ls, vI x :: st, S)
  | some (some (.inr (.inl a))) => if r = true ∧ a.1 ≠ 39 then some (True, pc, ls, .inr (.inl a) :: st, S) else none
  | _ => none
def bSv (r : Bool) (n pc : Nat) (ls : List (Option bV)) (st : List bV) (S : bSt) : Option (Prop × bFr) := match st with
  | .inl x :: st' => if r = false ∧ n < ls.length then some (True, pc, ls.set n (some (vI x)), st', S) else none
  | .inr (.inl a) :: st' => if r = true ∧ a.1 ≠ 39 ∧ n < ls.length then some (True, pc, ls.set n (some (.inr (.inl a))), st', S) else none
  | _ => none
def bBin (op : Int32 → Int32 → Int32) (P : Int32 → Prop) (pc : Nat) (ls : List (Option bV)) (st : List bV) (S : bSt) : Option (Prop × bFr) := match st with
  | .inl y :: .inl x :: st' => some (P y, pc + 1, ls, vI (op x y) :: st', S)
  | _ => none
def bCat (v : bV) : Nat := match v with
  | .inr (.inr _) => 2
  | _ => 1
/-- an instruction that is no call and no return: what must hold, and the next frame -/
def stp (own : Nat) (x : Instr) (f : bFr) : Option (Prop × bFr) := match f with
  | (pc, ls, st, S) => match x with
  | .iconst c => some (True, pc + 1, ls, vI (Int32.ofInt c) :: st, S)
  | .bipush c => some (True, pc + 2, ls, vI (Int8.ofInt c).toInt32 :: st, S)
  | .sipush c => some (True, pc + 3, ls, vI (Int16.ofInt c).toInt32 :: st, S)
  | .iload_n n => bLd false n (pc + 1) ls st S
  | .iload n => bLd false n (pc + 2) ls st S
  | .aload_n n => bLd true n (pc + 1) ls st S
  | .aload n => bLd true n (pc + 2) ls st S
  | .istore_n n => bSv false n (pc + 1) ls st S
  | .istore n => bSv false n (pc + 2) ls st S
  | .astore_n n => bSv true n (pc + 1) ls st S
  | .astore n => bSv true n (pc + 2) ls st S
  | .iinc n c => match ls[n]? with
    | some (some (.inl v)) => some (True, pc + 3, ls.set n (some (vI (v + Int32.ofInt c))), st, S)
    | _ => none
  | .iadd => bBin (fun x y => x + y) (fun _ => True) pc ls st S
  | .isub => bBin (fun x y => x - y) (fun _ => True) pc ls st S
  | .imul => bBin (fun x y => x * y) (fun _ => True) pc ls st S
  | .iand => bBin (fun x y => x &&& y) (fun _ => True) pc ls st S
  | .ior => bBin (fun x y => x ||| y) (fun _ => True) pc ls st S
  | .ixor => bBin (fun x y => x ^^^ y) (fun _ => True) pc ls st S
  | .ishl => bBin (fun x y => x <<< (y &&& 31)) (fun _ => True) pc ls st S
  | .ishr => bBin (fun x y => x >>> (y &&& 31)) (fun _ => True) pc ls st S
  | .idiv => bBin (fun x y => x / y) (fun y => ¬ y = 0) pc ls st S
  | .irem => bBin (fun x y => x - x / y * y) (fun y => ¬ y = 0) pc ls st S
  | .i2c => match st with
    | .inl v :: st' => some (True, pc + 1, ls, vI (v.toUInt32 % 65536).toInt32 :: st', S)
    | _ => none
  | .i2l => match st with
    | .inl v :: st' => some (True, pc + 1, ls, vL v.toInt64 :: st', S)
    | _ => none
  | .lmul => match st with
    | .inr (.inr w) :: .inr (.inr v) :: st' => some (True, pc + 1, ls, vL (v * w) :: st', S)
    | _ => none
  | .lcmp => match st with
    | .inr (.inr w) :: .inr (.inr v) :: st' => some (True, pc + 1, ls, vI (lg_cmp v w) :: st', S)
    | _ => none
  | .ifCond c off => match st with
    | .inl v :: st' => some (0 ≤ (pc : Int) + off, if bH c v 0 = true then bTg pc off else pc + 3, ls, st', S)
    | _ => none
  | .if_icmp c off => match st with
    | .inl w :: .inl v :: st' => some (0 ≤ (pc : Int) + off, if bH c v w = true then bTg pc off else pc + 3, ls, st', S)
    | _ => none
  | .goto off => some (0 ≤ (pc : Int) + off, bTg pc off, ls, st, S)
  | .tableswitch d lo hi offs => match st with
    | .inl v :: st' => some ((v.toInt < lo ∨ hi < v.toInt → 0 ≤ (pc : Int) + d) ∧ (¬ v.toInt < lo → ¬ hi < v.toInt → (v.toInt - lo).toNat < offs.size ∧ 0 ≤ (pc : Int) + offs.getD (v.toInt - lo).toNat 0), if v.toInt < lo ∨ hi < v.toInt then bTg pc d else bTg pc (offs.getD (v.toInt - lo).toNat 0), ls, st', S)
    | _ => none
  | .dup => match st with
    | v :: st' => if bCat v = 1 then some (True, pc + 1, ls, v :: v :: st', S) else none
    | _ => none
  | .dup2 => match st with
    | v :: w :: st' => if bCat v = 1 ∧ bCat w = 1 then some (True, pc + 1, ls, v :: w :: v :: w :: st', S) else none
    | _ => none
  | .pop => match st with
    | v :: st' => if bCat v = 1 then some (True, pc + 1, ls, st', S) else none
    | _ => none
  | .getfield idx => match st with
    | .inr (.inl (k, i, j)) :: st' =>
      if own = 10 then (if k = 37 ∧ idx = 9 ∧ j = 0 then some (i < 6, pc + 3, ls, vR 38 i 0 :: st', S) else if k = 37 ∧ idx = 15 ∧ j = 0 then some (i < 6, pc + 3, ls, vI 0 :: st', S) else none)
      else match bF own idx with
        | some (ci, f, _) => if kObj k = some ci then some (bok k i j = true, pc + 3, ls, (match fRef k i j f with
          | some a => .inr (.inl a)
          | none => vI (S k i j f)) :: st', S) else none
        | none => none
    | _ => none
  | .putfield idx => match st with
    | .inl v :: .inr (.inl (k, i, j)) :: st' => match bF own idx with
      | some (ci, f, _) => if kObj k = some ci ∧ fRef k i j f = none ∧ bFw ci f ≠ 0 then some (bok k i j = true ∧ (bFw ci f = 2 → v = 0 ∨ v = 1), pc + 3, ls, st', sUp S k i j f v) else none
      | none => none
    | _ => none
  | .iaload => bXld 0 pc ls st S
  | .caload => bXld 1 pc ls st S
  | .baload => match bXld 2 pc ls st S with
    | some r => some r
    | none => bXld 9 pc ls st S
  | .iastore => bXst 0 pc ls st S
  | .castore => bXst 1 pc ls st S
  | .bastore => bXst 2 pc ls st S
  | .aaload => match st with
    | .inl n :: .inr (.inl (k, i, j)) :: st' => if 3 ≤ ((kArr k).getD (0, 0)).1 then (match eRef k i n.toNatClampNeg (S k i j n.toNatClampNeg) with
      | some a => some (bok k i j = true ∧ vp_in n (bLen k), pc + 1, ls, .inr (.inl a) :: st', S)
      | none => none) else none
    | _ => none
  | .aastore => match st with
    | .inr (.inl a) :: .inl n :: .inr (.inl (k, i, j)) :: st' => if bArr k 5 = true then (match eCode k i a with
      | some v => some (bok k i j = true ∧ bok a.1 a.2.1 a.2.2 = true ∧ vp_in n (bLen k), pc + 1, ls, st', sUp S k i j n.toNatClampNeg v)
      | none => none) else none
    | _ => none
  | .arraylength => match st with
    | .inr (.inl (k, i, j)) :: st' => if (kArr k).isSome = true then some (bok k i j = true, pc + 1, ls, vI (Int32.ofNat (bLen k)) :: st', S)
      else if bRO k = true ∧ i = 0 ∧ j = 0 then some (True, pc + 1, ls, vI (Int32.ofNat (bROl S k)) :: st', S)
      else if k = 38 ∧ j = 0 then some (i < 6, pc + 1, ls, vI (Int32.ofNat (bTl.getD i 0)) :: st', S) else none
    | _ => none
  | .getstatic idx => if own = 10 then (if idx = 38 then some (True, pc + 3, ls, vI 1 :: st, S) else if idx = 1053 then some (True, pc + 3, ls, vR 39 0 0 :: st, S) else none)
      else match bSf own idx with
        | some k => some (True, pc + 3, ls, vR k 0 0 :: st, S)
        | none => none
  | .ldc idx => match bLdc own idx with
    | some n => some (True, pc + 2, ls, vR 37 n 0 :: st, S)
    | none => none
  | .invokestatic idx => if bAcp own idx = true then (match st with
      | .inl n :: .inl dp :: .inr (.inl (k2, i2, j2)) :: .inl sp :: .inr (.inl (k, i, j)) :: st' =>
        if bArr k 0 = true ∧ bArr k2 0 = true ∧ (st'.map bCat).sum ≤ 8 then some (bok k i j = true ∧ bok k2 i2 j2 = true ∧ ¬ (k, i, j) = (k2, i2, j2) ∧ ¬ sp < 0 ∧ ¬ dp < 0 ∧ ¬ n < 0 ∧ sp.toNatClampNeg + n.toNatClampNeg ≤ bLen k ∧ dp.toNatClampNeg + n.toNatClampNeg ≤ bLen k2, pc + 3, ls, st', sCp S (k, i, j) (k2, i2, j2) sp.toNatClampNeg dp.toNatClampNeg n.toNatClampNeg) else none
      | _ => none) else none
  | _ => none
/-- a return: what must hold, and what is returned -/
def bret (rt : Option FieldType) (x : Instr) (f : bFr) : Option (Prop × Option bV) := match x with
  | .ireturn => match f.2.2.1 with
    | [.inl v] => match rt with
      | some ty => some (narrow ty (.int v) = .int v, some (vI v))
      | none => none
    | _ => none
  | .areturn => match f.2.2.1 with
    | [.inr (.inl a)] => if a.1 = 39 then none else (match rt with
      | some (.object _) => some (True, some (.inr (.inl a)))
      | some (.array _) => some (True, some (.inr (.inl a)))
      | _ => none)
    | _ => none
  | .return_ => match f.2.2.1 with
    | [] => match rt with
      | none => some (True, none)
      | some _ => none
    | _ => none
  | _ => none
/-- a call: what must hold, the method, the arguments (the receiver first), the rest of the stack -/
def bcall (own : Nat) (x : Instr) (f : bFr) : Option (Prop × Nat × List bV × List bV) := match x with
  | .invokestatic idx => match bC own idx with
    | none => none
    | some (k, _) => if (bCe k).2.2.2.2.2.2 = true ∧ (bCe k).2.2.2.2.2.1 ≤ f.2.2.1.length ∧ ((f.2.2.1.take (bCe k).2.2.2.2.2.1).map bCat).sum = (bCe k).2.2.2.2.2.1 ∧ (bCe k).2.2.2.2.2.1 ≤ (bCe k).2.2.2.1 ∧ ((f.2.2.1.drop (bCe k).2.2.2.2.2.1).map bCat).sum ≤ 8 then
        some (True, k, (f.2.2.1.take (bCe k).2.2.2.2.2.1).reverse, f.2.2.1.drop (bCe k).2.2.2.2.2.1) else none
  | .invokevirtual idx => match bC own idx with
    | none => none
    | some (k, _) => if (bCe k).2.2.2.2.2.2 = false ∧ (bCe k).2.1.name ≠ "<init>" ∧ (bCe k).2.2.2.2.2.1 ≤ f.2.2.1.length ∧ ((f.2.2.1.take (bCe k).2.2.2.2.2.1).map bCat).sum = (bCe k).2.2.2.2.2.1 ∧ (bCe k).2.2.2.2.2.1 ≤ (bCe k).2.2.2.1 ∧ ((f.2.2.1.drop (bCe k).2.2.2.2.2.1).map bCat).sum ≤ 8 then
        (match (f.2.2.1.take (bCe k).2.2.2.2.2.1).reverse with
          | .inr (.inl (kk, i, j)) :: As => if (kObj kk = some (bCe k).1 ∧ bok kk i j = true) ∨ (kk = 37 ∧ (bCe k).1 = 10 ∧ i < 6 ∧ j = 0) then some (True, k, .inr (.inl (kk, i, j)) :: As, f.2.2.1.drop (bCe k).2.2.2.2.2.1) else none
          | _ => none) else none
  | _ => none
/-- a method's first frame -/
def bent (k : Nat) (as : List bV) (S : bSt) : bFr := (0, as.map some ++ List.replicate ((bCe k).2.2.2.1 - as.length) none, [], S)
/-- with n steps of fuel, at most d calls deep: the method k comes from the frame to its end, and Q holds of what it returns and of the memory -/
def bwp : Nat → Nat → Nat → bFr → (Option bV → bSt → Prop) → Prop
  | 0, _, _, _, _ => False
  | n + 1, d, k, f, Q => match ins k f.1 with
    | none => False
    | some (x, _) => match stp (bCe k).1 x f with
      | some (P, f') => P ∧ bwp n d k f' Q
      | none => match bret (bCe k).2.2.2.2.1 x f with
        | some (P, r) => P ∧ Q r f.2.2.2
        | none => match bcall (bCe k).1 x f with
          | some (P, k', as, st') => P ∧ 0 < d ∧ bwp n (d - 1) k' (bent k' as f.2.2.2) (fun r S' => bwp n d k (f.1 + 3, f.2.1, r.toList ++ st', S') Q)
          | none => False
end
section
/-! SOUNDNESS, part 1: the relation between the typed memory and the heap, and one instruction that is no call -/
def bTys (cy : Nat → ClassId) : List (ClassId × FieldType) := [(cy 0, .int), (cy 1, .char), (cy 2, .boolean), (cy 3, .object "PaperCutter$Order"), (cy 4, .object "PaperCutter$Roll"), (cy 5, .object "PaperCutter$Run"), (cy 6, .object "PaperCutter$Plan"), (cy 7, .object "PaperCutter$Command"), (cy 8, .array .int)]
abbrev bAdT : Type := Nat → Nat → Nat → Nat
def bVal (ad : bAdT) (oq : Value) : bV → Value := fun v => match v with
  | .inl x => .int x
  | .inr (.inl a) => if a.1 = 39 then oq else .ref (ad a.1 a.2.1 a.2.2)
  | .inr (.inr y) => .long y
/-- a field's value -/
def bFv (k i j f : Nat) (x : Int32) : bV := match fRef k i j f with
  | some a => .inr (.inl a)
  | none => .inl x
def bCell (cy : Nat → ClassId) (ad : bAdT) (oq : Value) (k i j : Nat) (r : Nat → Int32) : va_E := match kObj k with
  | some ci => .inr (ci, (List.range (bNF ci)).map fun f => bVal ad oq (bFv k i j f (r f)))
  | none => match kArr k with
    | some q => if q.1 < 3 then .inl (cy q.1, q.2, .inl r) else .inl (cy q.1, q.2, .inr (.inr (.inr (.inr fun m => (eRef k i m (r m)).map fun a => ad a.1 a.2.1 a.2.2))))
    | none => .inr (0, [])
/-- the cells of the memory -/
def bA (ad : bAdT) : Nat → Prop := fun q => ∃ k i j, bok k i j = true ∧ q = ad k i j
def bInj (ad : bAdT) : Prop := ∀ k i j k' i' j', bok k i j = true → bok k' i' j' = true → ad k i j = ad k' i' j' → k = k' ∧ i = i' ∧ j = j'
def bHR (D : va_G) (cy : Nat → ClassId) (ad : bAdT) (oq : Value) (S : bSt) (U : State) (H : Heap) : Prop :=
  (∀ k i j, bok k i j = true → va_at D vwCl (ad k i j, bCell cy ad oq k i j (S k i j)) H) ∧
  (∀ k, bRO k = true → va_T .int (ad k 0 0) (bROl S k) (fun n => .int (S k 0 0 n)) (bA ad) U H) ∧
  (va_Z "PaperCutter" "FIRST_SETTING" "[I" (.ref (ad 33 0 0)) (bA ad) U H ∧ va_Z "PaperCutter" "LOWEST_SETTING" "[I" (.ref (ad 34 0 0)) (bA ad) U H ∧ va_Z "PaperCutter" "HIGHEST_SETTING" "[I" (.ref (ad 35 0 0)) (bA ad) U H) ∧
  (va_Z "java/lang/String" "COMPACT_STRINGS" "Z" (.int 1) (bA ad) U H ∧ va_Z "jdk/internal/util/Preconditions" "SIOOBE_FORMATTER" "Ljava/util/function/BiFunction;" oq (bA ad) U H) ∧
  vk_S 6 bTl bTx (fun i => ad 37 i 0) (fun i => ad 38 i 0) (bA ad) U H
def bNest : Jvm.Cond → Bool := fun w => match w with
  | .fieldLinkNest _ _ _ _ _ _ => true
  | .methodLinkNest _ _ _ _ => true
  | _ => false
def bKN (D : va_G) (cy : Nat → ClassId) (ad : bAdT) (U : State) : Prop := va_K D vwCl (bTys cy) U ∧ (∀ w ∈ tables_1, bNest w = true → va_Nw w U) ∧ ∀ idx n, bLdc 7 idx = some n → vk_R "PaperCutter$Text" idx (bStr n) (ad 37 n 0) U
def bGW : List Jvm.Cond := lw_tbl.filter goodWord
theorem bGW_in {w : Jvm.Cond} (h : w ∈ tables_1) (hg : goodWord w = true) : w ∈ bGW := List.mem_filter.mpr ⟨List.mem_append_right _ h, hg⟩
/-- the locals -/
def bLR (ad : bAdT) (oq : Value) (ls : List (Option bV)) (lsR : Array Slot) (nL : Nat) : Prop := ls.length = nL ∧ ∃ lv, lv_has lsR nL lv ∧ ∀ i v, ls[i]? = some (some v) → bCat v = 1 ∧ (i, bVal ad oq v) ∈ lv
theorem bcl : ∀ ci : Nat, ci < 10 → vwCl[ci]? = some (bRN ci, bTX ci, bNF ci)
  | 0, _ => rfl
  | 1, _ => rfl
  | 2, _ => rfl
  | 3, _ => rfl
  | 4, _ => rfl
  | 5, _ => rfl
  | 6, _ => rfl
  | 7, _ => rfl
  | 8, _ => rfl
  | 9, _ => rfl
  | n + 10, h => absurd h (by omega)
theorem bcw_0 : ∀ w ∈ u_ws (bRN 0) (bTX 0) (bNF 0), w ∈ tables_1 ∧ goodWord w = true := by decide +kernel
theorem bcw_1 : ∀ w ∈ u_ws (bRN 1) (bTX 1) (bNF 1), w ∈ tables_1 ∧ goodWord w = true := by decide +kernel
theorem bcw_2 : ∀ w ∈ u_ws (bRN 2) (bTX 2) (bNF 2), w ∈ tables_1 ∧ goodWord w = true := by decide +kernel
theorem bcw_3 : ∀ w ∈ u_ws (bRN 3) (bTX 3) (bNF 3), w ∈ tables_1 ∧ goodWord w = true := by decide +kernel
theorem bcw_4 : ∀ w ∈ u_ws (bRN 4) (bTX 4) (bNF 4), w ∈ tables_1 ∧ goodWord w = true := by decide +kernel
theorem bcw_5 : ∀ w ∈ u_ws (bRN 5) (bTX 5) (bNF 5), w ∈ tables_1 ∧ goodWord w = true := by decide +kernel
theorem bcw_6 : ∀ w ∈ u_ws (bRN 6) (bTX 6) (bNF 6), w ∈ tables_1 ∧ goodWord w = true := by decide +kernel
theorem bcw_7 : ∀ w ∈ u_ws (bRN 7) (bTX 7) (bNF 7), w ∈ tables_1 ∧ goodWord w = true := by decide +kernel
theorem bcw_8 : ∀ w ∈ u_ws (bRN 8) (bTX 8) (bNF 8), w ∈ tables_1 ∧ goodWord w = true := by decide +kernel
theorem bcw_9 : ∀ w ∈ u_ws (bRN 9) (bTX 9) (bNF 9), w ∈ tables_1 ∧ goodWord w = true := by decide +kernel
theorem bcw : ∀ ci : Nat, ci < 10 → ∀ w ∈ u_ws (bRN ci) (bTX ci) (bNF ci), w ∈ bGW
  | 0, _ => fun w h => bGW_in (bcw_0 w h).1 (bcw_0 w h).2
  | 1, _ => fun w h => bGW_in (bcw_1 w h).1 (bcw_1 w h).2
  | 2, _ => fun w h => bGW_in (bcw_2 w h).1 (bcw_2 w h).2
  | 3, _ => fun w h => bGW_in (bcw_3 w h).1 (bcw_3 w h).2
  | 4, _ => fun w h => bGW_in (bcw_4 w h).1 (bcw_4 w h).2
  | 5, _ => fun w h => bGW_in (bcw_5 w h).1 (bcw_5 w h).2
  | 6, _ => fun w h => bGW_in (bcw_6 w h).1 (bcw_6 w h).2
  | 7, _ => fun w h => bGW_in (bcw_7 w h).1 (bcw_7 w h).2
  | 8, _ => fun w h => bGW_in (bcw_8 w h).1 (bcw_8 w h).2
  | 9, _ => fun w h => bGW_in (bcw_9 w h).1 (bcw_9 w h).2
  | n + 10, h => absurd h (by omega)
def btyX : Nat → Nat → FieldType := fun ci => match ci with
  | 0 => tyX0
  | 1 => tyX1
  | 2 => tyX2
  | 3 => tyX3
  | 4 => tyX4
  | 5 => tyX5
  | 6 => tyX6
  | 7 => tyX7
  | 8 => tyX8
  | _ => tyX9
theorem btyX_ok : ∀ ci : Nat, ci < 10 → ∀ k, k < bNF ci → parseFieldDescriptor (bTX ci k).2.2.1 = some (btyX ci k)
  | 0, _ => tyX0_ok
  | 1, _ => tyX1_ok
  | 2, _ => tyX2_ok
  | 3, _ => tyX3_ok
  | 4, _ => tyX4_ok
  | 5, _ => tyX5_ok
  | 6, _ => tyX6_ok
  | 7, _ => tyX7_ok
  | 8, _ => tyX8_ok
  | 9, _ => tyX9_ok
  | n + 10, h => absurd h (by omega)
theorem bnmX : ∀ ci : Nat, ci < 10 → ∀ a, a < bNF ci → ∀ b, b < bNF ci → a ≠ b → (bTX ci a).2.1 ≠ (bTX ci b).2.1
  | 0, _ => nmX0
  | 1, _ => nmX1
  | 2, _ => nmX2
  | 3, _ => nmX3
  | 4, _ => nmX4
  | 5, _ => nmX5
  | 6, _ => nmX6
  | 7, _ => nmX7
  | 8, _ => nmX8
  | 9, _ => nmX9
  | n + 10, h => absurd h (by omega)
theorem bow : ∀ ci : Nat, ci < 10 → ∀ k, k < bNF ci → (bTX ci k).1 = bRN ci
  | 0, _ => by decide +kernel
  | 1, _ => by decide +kernel
  | 2, _ => by decide +kernel
  | 3, _ => by decide +kernel
  | 4, _ => by decide +kernel
  | 5, _ => by decide +kernel
  | 6, _ => by decide +kernel
  | 7, _ => by decide +kernel
  | 8, _ => by decide +kernel
  | 9, _ => by decide +kernel
  | n + 10, h => absurd h (by omega)
theorem bF_ok {own idx ci f : Nat} {b : Bool} (h : bF own idx = some (ci, f, b)) : bFc (own, idx, ci, f, b) ∈ tables_1 ∧ ci < 10 ∧ f < bNF ci := by
  unfold bF at h
  cases hf : bFt.find? (fun e => e.1 == own && e.2.1 == idx) with
  | none => rw [hf] at h; cases h
  | some e =>
    rw [hf] at h
    have he := List.mem_of_find?_eq_some hf
    have hp := List.find?_some hf
    simp only [Bool.and_eq_true, beq_iff_eq] at hp
    obtain ⟨e1, e2, e3, e4, e5⟩ := e
    obtain ⟨rfl, rfl⟩ := hp
    cases h
    exact bFk _ he
theorem bC_ok {own idx k : Nat} {b : Bool} (h : bC own idx = some (k, b)) : bCc (own, idx, k, b) ∈ tables_1 ∧ k < 267 := by
  unfold bC at h
  cases hf : bCt.find? (fun e => e.1 == own && e.2.1 == idx) with
  | none => rw [hf] at h; cases h
  | some e =>
    rw [hf] at h
    have he := List.mem_of_find?_eq_some hf
    have hp := List.find?_some hf
    simp only [Bool.and_eq_true, beq_iff_eq] at hp
    obtain ⟨e1, e2, e3, e4⟩ := e
    obtain ⟨rfl, rfl⟩ := hp
    cases h
    exact bCk _ he
theorem bmg_0 : bMt.length = 267 := by decide +kernel
theorem bmg {k : Nat} (h : k < 267) : bCe k ∈ bMt := by
  unfold bCe
  have : k < bMt.length := by rw [bmg_0]; exact h
  simp [List.getD_eq_getElem?_getD, this]
theorem bCe_of {k : Nat} {m : bEnt} (h : bMt[k]? = some m) : bCe k = m := by
  unfold bCe
  simp [List.getD_eq_getElem?_getD, h]
theorem bdec {k pc n : Nat} {x : Instr} (h : ins k pc = some (x, n)) : decode (bCe k).2.2.1 pc = .ok (x, n) ∧ blen x n = true := by
  obtain ⟨m, h1, h2⟩ := ins_ok h
  rw [bCe_of h1]
  exact ⟨h2, ins_len h⟩
/-- the heap's view changes at one address alone -/
theorem bHR_put {D : va_G} {cy : Nat → ClassId} {ad : bAdT} {oq : Value} {S S' : bSt} {U : State} {H H1 : Heap} {k i j : Nat} (hinj : bInj ad) (hk : bok k i j = true) (h : bHR D cy ad oq S U H)
    (hS : ∀ k' i' j', ¬ (k' = k ∧ i' = i ∧ j' = j) → S' k' i' j' = S k' i' j') (hat : va_at D vwCl (ad k i j, bCell cy ad oq k i j (S' k i j)) H1) (oq1 : ∀ q : Nat, q ≠ ad k i j → H1[q]? = H[q]?) : bHR D cy ad oq S' U H1 := by
  obtain ⟨h1, h2, ⟨z1, z2, z3⟩, ⟨z4, z5⟩, h3⟩ := h
  have hq : ∀ a : Nat, a < H.size → ¬ bA ad a → H1[a]? = H[a]? := fun a _ ha => oq1 a (fun z => ha ⟨k, i, j, hk, z⟩)
  refine ⟨fun k' i' j' hk' => ?_, fun k' hk' => ?_, ⟨z1.kept hq, z2.kept hq, z3.kept hq⟩, ⟨z4.kept hq, z5.kept hq⟩, h3.kept hq⟩
  · by_cases e : k' = k ∧ i' = i ∧ j' = j
    · obtain ⟨rfl, rfl, rfl⟩ := e
      exact hat
    · rw [hS k' i' j' e]
      exact (h1 k' i' j' hk').kept (oq1 _ (fun z => e (hinj _ _ _ _ _ _ hk' hk z)))
  · have hn : ∀ i' j', ¬ (k' = k ∧ i' = i ∧ j' = j) := by
      intro i' j' e
      obtain ⟨rfl, -, -⟩ := e
      have hk9 : k' = 33 ∨ k' = 34 ∨ k' = 35 ∨ k' = 36 := by
        simp only [bRO, Bool.or_eq_true, beq_iff_eq] at hk'
        omega
      have : bok k' i j = false := by
        rcases hk9 with rfl | rfl | rfl | rfl <;> simp [bok, kDim, kObj, kArr]
      rw [this] at hk
      cases hk
    have e1 : bROl S' k' = bROl S k' := by
      unfold bROl
      split
      · rename_i e
        rw [e] at hn
        rw [hS 36 1 0 (hn 1 0)]
      · rfl
    rw [e1, hS k' 0 0 (hn 0 0)]
    exact (h2 k' hk').kept hq
theorem sUp_ne {S : bSt} {k i j n : Nat} {x : Int32} : ∀ k' i' j', ¬ (k' = k ∧ i' = i ∧ j' = j) → sUp S k i j n x k' i' j' = S k' i' j' := by
  intro k' i' j' h
  funext n'
  unfold sUp
  rw [if_neg]
  rintro ⟨h1, h2, h3, -⟩
  exact h ⟨h1, h2, h3⟩
theorem sUp_at {S : bSt} {k i j n : Nat} {x : Int32} : sUp S k i j n x k i j = upd (S k i j) n x := by
  funext n'
  unfold sUp upd
  by_cases h : n' = n <;> simp [h]
theorem sCp_ne {S : bSt} {a : bAd} {k i j sp dp n : Nat} : ∀ k' i' j', ¬ (k' = k ∧ i' = i ∧ j' = j) → sCp S a (k, i, j) sp dp n k' i' j' = S k' i' j' := by
  intro k' i' j' h
  funext n'
  unfold sCp
  rw [if_neg]
  rintro ⟨h1, h2, h3, -⟩
  exact h ⟨h1, h2, h3⟩
theorem sCp_at {S : bSt} {k0 i0 j0 k i j sp dp n : Nat} : sCp S (k0, i0, j0) (k, i, j) sp dp n k i j = va_cpy (S k0 i0 j0) (S k i j) sp dp n := by
  funext n'
  unfold sCp va_cpy
  by_cases h : dp ≤ n' ∧ n' < dp + n <;> simp [h]
theorem bcell_o {cy : Nat → ClassId} {ad : bAdT} {oq : Value} {k i j ci : Nat} {r : Nat → Int32} (h : kObj k = some ci) : bCell cy ad oq k i j r = .inr (ci, (List.range (bNF ci)).map fun f => bVal ad oq (bFv k i j f (r f))) := by
  unfold bCell
  rw [h]
theorem kObj_kArr {k : Nat} {q : Nat × Nat} (h : kArr k = some q) : kObj k = none := by
  unfold kArr at h
  split at h <;> first | rfl | cases h
theorem bcell_a {cy : Nat → ClassId} {ad : bAdT} {oq : Value} {k i j t n : Nat} {r : Nat → Int32} (h : kArr k = some (t, n)) (ht : t < 3) : bCell cy ad oq k i j r = .inl (cy t, n, .inl r) := by
  unfold bCell
  rw [kObj_kArr h, h]
  exact if_pos ht
theorem bcell_q {cy : Nat → ClassId} {ad : bAdT} {oq : Value} {k i j t n : Nat} {r : Nat → Int32} (h : kArr k = some (t, n)) (ht : ¬ t < 3) : bCell cy ad oq k i j r = .inl (cy t, n, .inr (.inr (.inr (.inr fun m => (eRef k i m (r m)).map fun a => ad a.1 a.2.1 a.2.2)))) := by
  unfold bCell
  rw [kObj_kArr h, h]
  exact if_neg ht
theorem bArr_eq {k t : Nat} (h : bArr k t = true) : kArr k = some (t, bLen k) := by
  unfold bArr at h
  unfold bLen
  cases hk : kArr k with
  | none => rw [hk] at h; cases h
  | some q =>
    rw [hk] at h
    have : q.1 = t := by simpa using h
    subst this
    rfl
theorem eRef_39 {k i n : Nat} {v : Int32} {a : bAd} (h : eRef k i n v = some a) : a.1 ≠ 39 := by
  unfold eRef at h
  split at h
  all_goals first | (cases h; simp; done) | (split at h <;> (cases h; try simp); done) | cases h
section BSND
variable {p : Program} {l : Launch} {e : Env} {R : Room} {s : State} {m : MethodId} {args : Array Value} {below : List Frame} {meth : Method} {c : Code} {H : Heap} {locs : List Loc} {cells slots : Nat} {Z : State → Prop}
variable {D : va_G} {cy : Nat → ClassId} {ad : bAdT} {oq : Value} {A0 : Nat → Prop} {H0 : Heap} {k pc : Nat} {ls ls' : List (Option bV)} {lsR : Array Slot} {st : List bV} {S : bSt} {P : Prop} {f' : bFr}
/-- what every row of a method's walk leans on -/
def bCx (p : Program) (R : Room) (s : State) (m : MethodId) (args : Array Value) (c : Code) (D : va_G) (cy : Nat → ClassId) (ad : bAdT) (oq : Value) (A0 : Nat → Prop) (k : Nat) : Prop :=
  p.tables.exec = Jvm.exec ∧ c.code = (bCe k).2.2.1 ∧ c.maxLocals = (bCe k).2.2.2.1 ∧ s.vm.findClass (bRN (bCe k).1) = some m.cls ∧ (∀ w ∈ bGW, w.before args s = true) ∧ bKN D cy ad s ∧ bInj ad ∧ (∀ q, bA ad q → A0 q) ∧ oq.category = 1 ∧ 1 ≤ R.frames ∧ 100 ≤ R.locals
/-- the goal behind an instruction -/
def bGo (p : Program) (l : Launch) (e : Env) (R : Room) (s : State) (m : MethodId) (args : Array Value) (below : List Frame) (meth : Method) (c : Code) (cells slots : Nat) (Z : State → Prop) (D : va_G) (cy : Nat → ClassId) (ad : bAdT) (oq : Value) (A0 : Nat → Prop) (H0 : Heap) (f : bFr) : Prop :=
  ∀ (H : Heap) (locs : List Loc) (lsR : Array Slot), bLR ad oq f.2.1 lsR c.maxLocals → bHR D cy ad oq f.2.2.2 s H → va_S A0 H0 H locs → W p l e R s m args below meth c H locs cells slots Z (F0 m f.1 lsR (f.2.2.1.map (bVal ad oq)))
theorem bLR_at (h : bLR ad oq ls lsR c.maxLocals) {i : Nat} {v : bV} (hv : ls[i]? = some (some v)) : lsR[i]? = some (.val (bVal ad oq v)) := by
  obtain ⟨-, lv, h1, h2⟩ := h
  exact h1.2.2 _ (h2 i v hv).2
theorem bcat_val (ho : oq.category = 1) (v : bV) : (bVal ad oq v).category = bCat v := by
  rcases v with x | a | y
  · rfl
  · show (if a.1 = 39 then oq else Value.ref _).category = 1
    split
    · exact ho
    · rfl
  · rfl
theorem bLR_set {nL i : Nat} {v : bV} {lv : List (Nat × Value)} {lsR' : Array Slot} (ho : oq.category = 1) (hn : ls.length = nL) (h2 : ∀ i v, ls[i]? = some (some v) → bCat v = 1 ∧ (i, bVal ad oq v) ∈ lv) (hc : bCat v = 1)
    (h : lv_has lsR' nL ((i, bVal ad oq v) :: lv.filter (fun q => !(q.1 == i) && !(q.1 + 1 == i && q.2.category == 2)))) : bLR ad oq (ls.set i (some v)) lsR' nL := by
  refine ⟨by simpa using hn, _, h, fun j w hj => ?_⟩
  by_cases hji : j = i
  · subst hji
    have hl : j < ls.length := by
      have := (List.getElem?_eq_some_iff.mp hj).1
      simpa using this
    rw [List.getElem?_set_self hl] at hj
    cases hj
    exact ⟨hc, List.mem_cons_self⟩
  · rw [List.getElem?_set_ne (Ne.symm hji)] at hj
    obtain ⟨g1, g2⟩ := h2 j w hj
    refine ⟨g1, List.mem_cons_of_mem _ (List.mem_filter.mpr ⟨g2, ?_⟩)⟩
    simp only [bcat_val ho, g1]
    simp [hji]
theorem bh_ld {r : Bool} {n pc' : Nat} (hs : bLd r n pc' ls st S = some (P, f')) : ∃ v, ls[n]? = some (some v) ∧ f' = (pc', ls, v :: st, S) ∧ ((r = false ∧ ∃ x, v = .inl x) ∨ (r = true ∧ ∃ a : bAd, v = .inr (.inl a) ∧ a.1 ≠ 39)) := by
  unfold bLd at hs
  split at hs
  · rename_i x hx
    split at hs
    · cases hs
    · rename_i hr
      cases hs
      exact ⟨_, hx, rfl, Or.inl ⟨by simpa using hr, x, rfl⟩⟩
  · rename_i a ha
    split at hs
    · rename_i hr
      cases hs
      exact ⟨_, ha, rfl, Or.inr ⟨hr.1, a, rfl, hr.2⟩⟩
    · cases hs
  · cases hs
theorem bh_sv {r : Bool} {n pc' : Nat} (hs : bSv r n pc' ls st S = some (P, f')) : ∃ v st', st = v :: st' ∧ n < ls.length ∧ f' = (pc', ls.set n (some v), st', S) ∧ ((r = false ∧ ∃ x, v = .inl x) ∨ (r = true ∧ ∃ a : bAd, v = .inr (.inl a) ∧ a.1 ≠ 39)) := by
  unfold bSv at hs
  split at hs
  · split at hs
    · rename_i x st' hr
      cases hs
      exact ⟨_, _, rfl, hr.2, rfl, Or.inl ⟨hr.1, x, rfl⟩⟩
    · cases hs
  · split at hs
    · rename_i a st' hr
      cases hs
      exact ⟨_, _, rfl, hr.2.2, rfl, Or.inr ⟨hr.1, a, rfl, hr.2.1⟩⟩
    · cases hs
  · cases hs
theorem bh_bin {op : Int32 → Int32 → Int32} {Pr : Int32 → Prop} (hs : bBin op Pr pc ls st S = some (P, f')) : ∃ x y st', st = .inl y :: .inl x :: st' ∧ P = Pr y ∧ f' = (pc + 1, ls, vI (op x y) :: st', S) := by
  unfold bBin at hs
  split at hs
  · cases hs
    exact ⟨_, _, _, rfl, rfl, rfl⟩
  · cases hs
theorem bh_xst {t : Nat} (hs : bXst t pc ls st S = some (P, f')) : ∃ x n k0 i0 j0 st', st = .inl x :: .inl n :: .inr (.inl (k0, i0, j0)) :: st' ∧ bArr k0 t = true ∧ P = (bok k0 i0 j0 = true ∧ vp_in n (bLen k0) ∧ (t = 1 → narrow .char (.int x) = .int x) ∧ (t = 2 → x = 0 ∨ x = 1)) ∧ f' = (pc + 1, ls, st', sUp S k0 i0 j0 n.toNatClampNeg x) := by
  unfold bXst at hs
  split at hs
  · split at hs
    · rename_i h
      cases hs
      exact ⟨_, _, _, _, _, _, rfl, h, rfl, rfl⟩
    · cases hs
  · cases hs
theorem barr_at (hH : bHR D cy ad oq S s H) {k0 i0 j0 t : Nat} (ht : bArr k0 t = true) (h3 : t < 3) (hok : bok k0 i0 j0 = true) : H[ad k0 i0 j0]? = some (vp_cell (cy t) (bLen k0, .inl (S k0 i0 j0))) := by
  have h := hH.1 k0 i0 j0 hok
  rw [bcell_a (bArr_eq ht) h3] at h
  exact h
theorem bbok_ne {k0 i0 j0 : Nat} (h : bok k0 i0 j0 = true) : k0 ≠ 39 := by
  rintro rfl
  simp [bok, kDim, kObj, kArr] at h
theorem bval_ok {k0 i0 j0 : Nat} (h : k0 ≠ 39) : bVal ad oq (.inr (.inl (k0, i0, j0))) = .ref (ad k0 i0 j0) := if_neg h
theorem bty_get {t : Nat} {ty : FieldType} (hK : bKN D cy ad s) (h : (bTys cy)[t]? = some (cy t, ty)) : ArrOfT s (cy t) ty := (hK.1.2 t _ h).1
theorem bxst_int (C : bCx p R s m args c D cy ad oq A0 k) (hdg : decode (bCe k).2.2.1 pc = .ok (.iastore, 1)) {x n : Int32} {k0 i0 j0 : Nat} {st' : List bV} (ht : bArr k0 0 = true) (hok : bok k0 i0 j0 = true) (hin : vp_in n (bLen k0)) (hL : bLR ad oq ls lsR c.maxLocals) (hH : bHR D cy ad oq S s H) (hS : va_S A0 H0 H locs)
    (kk : bGo p l e R s m args below meth c cells slots Z D cy ad oq A0 H0 (pc + 1, ls, st', sUp S k0 i0 j0 n.toNatClampNeg x)) : W p l e R s m args below meth c H locs cells slots Z (F0 m pc lsR (.int x :: .int n :: .ref (ad k0 i0 j0) :: st'.map (bVal ad oq))) := by
  obtain ⟨hx, hb, -, -, -, hK, hinj, hA, -⟩ := C
  have ha := barr_at hH ht (by decide) hok
  refine W.iast hx hb ha (bty_get (t := 0) hK rfl (bLen k0) (fun j => .int (S k0 i0 j0 j))) (fun q => by cases q) (by show ¬ (n < 0 ∨ (arrV _ _ _).slots.size ≤ _); rw [arrV_size]; exact hin) rfl rfl hdg fun H1 e1 z1 oq1 => ?_
  refine kk H1 _ lsR hL (bHR_put hinj hok hH sUp_ne ?_ oq1) (hS.put z1 oq1 (hA _ ⟨k0, i0, j0, hok, rfl⟩))
  dsimp only
  rw [bcell_a (bArr_eq ht) (by decide), sUp_at]
  show H1[_]? = some (vp_cell _ _)
  rw [e1, vp_cell_i, vp_cell_i, arrV_store]
  congr 2
  funext q
  by_cases hq : q = n.toNatClampNeg
  · subst hq
    simp [updV, upd]
  · simp [updV, upd, hq]
theorem bxst_char (C : bCx p R s m args c D cy ad oq A0 k) (hdg : decode (bCe k).2.2.1 pc = .ok (.castore, 1)) {x n : Int32} {k0 i0 j0 : Nat} {st' : List bV} (ht : bArr k0 1 = true) (hok : bok k0 i0 j0 = true) (hin : vp_in n (bLen k0)) (hnr : narrow .char (.int x) = .int x) (hL : bLR ad oq ls lsR c.maxLocals) (hH : bHR D cy ad oq S s H) (hS : va_S A0 H0 H locs)
    (kk : bGo p l e R s m args below meth c cells slots Z D cy ad oq A0 H0 (pc + 1, ls, st', sUp S k0 i0 j0 n.toNatClampNeg x)) : W p l e R s m args below meth c H locs cells slots Z (F0 m pc lsR (.int x :: .int n :: .ref (ad k0 i0 j0) :: st'.map (bVal ad oq))) := by
  obtain ⟨hx, hb, -, -, -, hK, hinj, hA, -⟩ := C
  have ha := barr_at hH ht (by decide) hok
  refine W.cast hx hb ha (bty_get (t := 1) hK rfl (bLen k0) (fun j => .int (S k0 i0 j0 j))) (fun q => by cases q) (by show ¬ (n < 0 ∨ (arrV _ _ _).slots.size ≤ _); rw [arrV_size]; exact hin) rfl rfl hdg fun H1 e1 z1 oq1 => ?_
  refine kk H1 _ lsR hL (bHR_put hinj hok hH sUp_ne ?_ oq1) (hS.put z1 oq1 (hA _ ⟨k0, i0, j0, hok, rfl⟩))
  dsimp only
  rw [bcell_a (bArr_eq ht) (by decide), sUp_at]
  show H1[_]? = some (vp_cell _ _)
  rw [e1, hnr, vp_cell_i, vp_cell_i, arrV_store]
  congr 2
  funext q
  by_cases hq : q = n.toNatClampNeg
  · subst hq
    simp [updV, upd]
  · simp [updV, upd, hq]
theorem bnz {x : Int32} (h : x = 0 ∨ x = 1) : narrow .boolean (.int x) = .int x ∧ fits .boolean (.int x) = true := by
  rcases h with rfl | rfl <;> exact ⟨rfl, rfl⟩
theorem bxst_bool (C : bCx p R s m args c D cy ad oq A0 k) (hdg : decode (bCe k).2.2.1 pc = .ok (.bastore, 1)) {x n : Int32} {k0 i0 j0 : Nat} {st' : List bV} (ht : bArr k0 2 = true) (hok : bok k0 i0 j0 = true) (hin : vp_in n (bLen k0)) (hz : x = 0 ∨ x = 1) (hL : bLR ad oq ls lsR c.maxLocals) (hH : bHR D cy ad oq S s H) (hS : va_S A0 H0 H locs)
    (kk : bGo p l e R s m args below meth c cells slots Z D cy ad oq A0 H0 (pc + 1, ls, st', sUp S k0 i0 j0 n.toNatClampNeg x)) : W p l e R s m args below meth c H locs cells slots Z (F0 m pc lsR (.int x :: .int n :: .ref (ad k0 i0 j0) :: st'.map (bVal ad oq))) := by
  obtain ⟨hx, hb, -, -, -, hK, hinj, hA, -⟩ := C
  have ha := barr_at hH ht (by decide) hok
  refine W.zast hx hb ha (bty_get (t := 2) hK rfl (bLen k0) (fun j => .int (S k0 i0 j0 j))) (fun q => by cases q) (by show ¬ (n < 0 ∨ (arrV _ _ _).slots.size ≤ _); rw [arrV_size]; exact hin) rfl rfl hdg fun H1 e1 z1 oq1 => ?_
  refine kk H1 _ lsR hL (bHR_put hinj hok hH sUp_ne ?_ oq1) (hS.put z1 oq1 (hA _ ⟨k0, i0, j0, hok, rfl⟩))
  dsimp only
  rw [bcell_a (bArr_eq ht) (by decide), sUp_at]
  show H1[_]? = some (vp_cell _ _)
  rw [e1, (bnz hz).1, vp_cell_i, vp_cell_i, arrV_store]
  congr 2
  funext q
  by_cases hq : q = n.toNatClampNeg
  · subst hq
    simp [updV, upd]
  · simp [updV, upd, hq]
theorem bh_xld {t : Nat} (hs : bXld t pc ls st S = some (P, f')) : ∃ n k0 i0 j0 st', st = .inl n :: .inr (.inl (k0, i0, j0)) :: st' ∧
    ((bArr k0 t = true ∧ P = (bok k0 i0 j0 = true ∧ vp_in n (bLen k0)) ∧ f' = (pc + 1, ls, vI (S k0 i0 j0 n.toNatClampNeg) :: st', S)) ∨
     (t = 0 ∧ bRO k0 = true ∧ i0 = 0 ∧ j0 = 0 ∧ P = vp_in n (bROl S k0) ∧ f' = (pc + 1, ls, vI (S k0 0 0 n.toNatClampNeg) :: st', S)) ∨
     (t = 9 ∧ k0 = 38 ∧ j0 = 0 ∧ P = (i0 < 6 ∧ vp_in n (bTl.getD i0 0)) ∧ f' = (pc + 1, ls, vI ((bTx.getD i0 []).getD n.toNatClampNeg 0) :: st', S))) := by
  unfold bXld at hs
  split at hs
  · split at hs
    · rename_i h
      cases hs
      exact ⟨_, _, _, _, _, rfl, Or.inl ⟨h, rfl, rfl⟩⟩
    · split at hs
      · rename_i h
        cases hs
        exact ⟨_, _, _, _, _, rfl, Or.inr (Or.inl ⟨h.1, h.2.1, h.2.2.1, h.2.2.2, rfl, rfl⟩)⟩
      · split at hs
        · rename_i h
          cases hs
          exact ⟨_, _, _, _, _, rfl, Or.inr (Or.inr ⟨h.1, h.2.1, h.2.2, rfl, rfl⟩)⟩
        · cases hs
  · cases hs
theorem bro_ne {k0 : Nat} (h : bRO k0 = true) : k0 ≠ 39 := by
  rintro rfl
  simp [bRO] at h
end BSND
end
section
section BSTP
variable {p : Program} {l : Launch} {e : Env} {R : Room} {s : State} {m : MethodId} {args : Array Value} {below : List Frame} {meth : Method} {c : Code} {H : Heap} {locs : List Loc} {cells slots : Nat} {Z : State → Prop}
variable {D : va_G} {cy : Nat → ClassId} {ad : bAdT} {oq : Value} {A0 : Nat → Prop} {H0 : Heap} {k pc : Nat} {ls ls' : List (Option bV)} {lsR : Array Slot} {st : List bV} {S : bSt} {P : Prop} {f' : bFr}
theorem btg_ok {pc : Nat} {off : Int} (h : 0 ≤ (pc : Int) + off) : (pc : Int) + off = (bTg pc off : Nat) := (Int.toNat_of_nonneg h).symm
theorem bgetf (C : bCx p R s m args c D cy ad oq A0 k) {idx : Nat} (hdg : decode (bCe k).2.2.1 pc = .ok (.getfield idx, 3)) {k0 i0 j0 ci f : Nat} {b : Bool} {st' : List bV} (hf : bF (bCe k).1 idx = some (ci, f, b)) (ho : kObj k0 = some ci) (hok : bok k0 i0 j0 = true) (hL : bLR ad oq ls lsR c.maxLocals) (hH : bHR D cy ad oq S s H) (hS : va_S A0 H0 H locs)
    (kk : bGo p l e R s m args below meth c cells slots Z D cy ad oq A0 H0 (pc + 3, ls, bFv k0 i0 j0 f (S k0 i0 j0 f) :: st', S)) : W p l e R s m args below meth c H locs cells slots Z (F0 m pc lsR (.ref (ad k0 i0 j0) :: st'.map (bVal ad oq))) := by
  obtain ⟨hx, hb, -, hown, hts, hK, -⟩ := C
  obtain ⟨h1, h2, h3⟩ := bF_ok hf
  have hP : va_P D vwCl [(ad k0 i0 j0, .inr (ci, (List.range (bNF ci)).map fun f => bVal ad oq (bFv k0 i0 j0 f (S k0 i0 j0 f))))] H := by
    intro q x hq
    have h := hH.1 k0 i0 j0 hok
    rw [bcell_o ho] at h
    cases q with
    | zero => cases hq; exact h
    | succ q => simp at hq
  have hsame : ∀ x, s.fieldFound? (bTX ci f).1 (bTX ci f).2.1 (bTX ci f).2.2.1 = some x → s.fieldFound? (bRN ci) (bTX ci f).2.1 (bTX ci f).2.2.1 = some x := fun x hx => by rw [← bow ci h2 f h3]; exact hx
  have hv : ((List.range (bNF ci)).map fun f => bVal ad oq (bFv k0 i0 j0 f (S k0 i0 j0 f)))[f]? = some (bVal ad oq (bFv k0 i0 j0 f (S k0 i0 j0 f))) := by
    simp [h3]
  cases b with
  | false =>
    exact va_get (ci := ci) (ref := bRN ci) (index := idx) hx hb hts (bcw ci h2) hown hK.1 hP 0 rfl (bcl ci h2) f h3 (hts _ (bGW_in h1 rfl)) hsame hv hdg (kk H locs lsR hL hH hS)
  | true =>
    exact va_getN (ci := ci) (ref := bRN ci) (index := idx) (host := "PaperCutter") hx hb hts (bcw ci h2) hown hK.1 hP 0 rfl (bcl ci h2) f h3 (va_Nw.use rfl (hK.2.1 _ h1 rfl)) hsame hv hdg (kk H locs lsR hL hH hS)
theorem bputf (C : bCx p R s m args c D cy ad oq A0 k) {idx : Nat} (hdg : decode (bCe k).2.2.1 pc = .ok (.putfield idx, 3)) {k0 i0 j0 ci f : Nat} {b : Bool} {x : Int32} {st' : List bV} (hf : bF (bCe k).1 idx = some (ci, f, b)) (ho : kObj k0 = some ci) (hr : fRef k0 i0 j0 f = none) (hfk : bFw ci f ≠ 0) (hok : bok k0 i0 j0 = true) (hnr : bFw ci f = 2 → x = 0 ∨ x = 1) (hL : bLR ad oq ls lsR c.maxLocals) (hH : bHR D cy ad oq S s H) (hS : va_S A0 H0 H locs)
    (kk : bGo p l e R s m args below meth c cells slots Z D cy ad oq A0 H0 (pc + 3, ls, st', sUp S k0 i0 j0 f x)) : W p l e R s m args below meth c H locs cells slots Z (F0 m pc lsR (.int x :: .ref (ad k0 i0 j0) :: st'.map (bVal ad oq))) := by
  obtain ⟨hx, hb, -, hown, hts, hK, hinj, hA, -⟩ := C
  obtain ⟨h1, h2, h3⟩ := bF_ok hf
  have hat := hH.1 k0 i0 j0 hok
  rw [bcell_o ho] at hat
  obtain ⟨r, g1, cell, q1, q2, q3, q4⟩ := hat
  have hrr : r = (bRN ci, bTX ci, bNF ci) := Option.some.inj (g1.symm.trans (bcl ci h2))
  subst hrr
  have hap := va_apart (own := bRN (bCe k).1) hts (bcw ci h2) (btyX ci) (btyX_ok ci h2) (bnmX ci h2) hK.1 (bcl ci h2)
  obtain ⟨hSl, hfc, kC, hkC, hkind⟩ := hK.1.1 ci _ (bcl ci h2)
  obtain ⟨cf, kf, fi, fd, hi, hsl⟩ := hSl f h3
  have hfin : (bTX ci f).2.2.2 = false := by
    by_cases h9 : (bTX ci f).2.2.2 = true
    · exact absurd (if_pos h9) hfk
    · simpa using h9
  have hlay := hts _ (bcw ci h2 _ (u_in_lay h3))
  unfold u_lay at hlay
  rw [if_neg (by rw [hfin]; decide)] at hlay
  have hst := (u_facts hfc hkC (u_lays hts (bcw ci h2) h3) hi).1
  have h6 : k2_Sd s fd (D.1 ci) (.int x) := by
    by_cases e1 : (bTX ci f).2.2.1 = "I"
    · exact u_store (ty := .int) hfc hkC hkind hlay hi (by rw [e1]; decide +kernel) rfl rfl
    · by_cases e2 : (bTX ci f).2.2.1 = "Z"
      · have e3 : bFw ci f = 2 := by
          unfold bFw
          rw [if_neg (by rw [hfin]; decide), if_neg e1, if_pos e2]
        exact u_store (ty := .boolean) hfc hkC hkind hlay hi (by rw [e2]; decide +kernel) (bnz (hnr e3)).1 (bnz (hnr e3)).2
      · exact absurd (by unfold bFw; rw [if_neg (by rw [hfin]; decide), if_neg e1, if_neg e2]) hfk
  have hsame : s.fieldFound? (bRN ci) (bTX ci f).2.1 (bTX ci f).2.2.1 = some (cf, kf, fi, fd) := by rw [← bow ci h2 f h3]; exact hi
  have key : ∀ H' : Heap, H'[ad k0 i0 j0]? = some (cell.setSlot fd.slot (.int x)) → H'.size = H.size → (∀ q, q ≠ ad k0 i0 j0 → H'[q]? = H[q]?) → W p l e R s m args below meth c H' (locs ++ [⟨ad k0 i0 j0, fd.slot⟩]) cells slots Z (F0 m (pc + 3) lsR (st'.map (bVal ad oq))) := by
    intro H' e1 e2 e3
    refine kk H' _ lsR hL (bHR_put hinj hok hH sUp_ne ?_ e3) (hS.put e2 e3 (hA _ ⟨k0, i0, j0, hok, rfl⟩))
    dsimp only
    rw [bcell_o ho, sUp_at]
    rw [hsl] at e1
    refine ⟨_, bcl ci h2, t_OB.to (V := updV (vp_V ((List.range (bNF ci)).map fun f => bVal ad oq (bFv k0 i0 j0 f (S k0 i0 j0 f)))) f (.int x)) ⟨_, e1, q2, q3, t_set q4 hap h3 (.int x)⟩ (fun j hj => ?_)⟩
    by_cases hjf : j = f
    · subst hjf
      have : bFv k0 i0 j0 j x = .inl x := by unfold bFv; rw [hr]
      simp [updV, vp_V, upd, hj, this, bVal]
    · simp [updV, vp_V, upd, hj, hjf]
  cases b with
  | false =>
    exact W.putK (own := bRN (bCe k).1) (ref := bRN ci) (name := (bTX ci f).2.1) (desc := (bTX ci f).2.2.1) (index := idx) hx hb (f := fd) ⟨hown, hts _ (bGW_in h1 rfl), ⟨_, _, _, hsame⟩, hst⟩ (by rw [q2]; exact h6) q1 q3 (by rw [hsl]; exact k2_hasslot (q4 f h3)) rfl rfl hdg key
  | true =>
    exact va_WputK (own := bRN (bCe k).1) (ref := bRN ci) (name := (bTX ci f).2.1) (desc := (bTX ci f).2.2.1) (host := "PaperCutter") (index := idx) hx hb (f := fd) hown (va_Nw.use rfl (hK.2.1 _ h1 rfl)) hsame hst (by rw [q2]; exact h6) q1 q3 (by rw [hsl]; exact k2_hasslot (q4 f h3)) rfl rfl hdg key
theorem bxld_ro (C : bCx p R s m args c D cy ad oq A0 k) (hdg : decode (bCe k).2.2.1 pc = .ok (.iaload, 1)) {n : Int32} {k0 : Nat} {st' : List bV} (hro : bRO k0 = true) (hin : vp_in n (bROl S k0)) (hL : bLR ad oq ls lsR c.maxLocals) (hH : bHR D cy ad oq S s H) (hS : va_S A0 H0 H locs)
    (kk : bGo p l e R s m args below meth c cells slots Z D cy ad oq A0 H0 (pc + 1, ls, vI (S k0 0 0 n.toNatClampNeg) :: st', S)) : W p l e R s m args below meth c H locs cells slots Z (F0 m pc lsR (.int n :: .ref (ad k0 0 0) :: st'.map (bVal ad oq))) := by
  obtain ⟨hx, hb, -⟩ := C
  obtain ⟨cell, h1, h2, h3, h4, h5, h6, h7⟩ := hH.2.1 k0 hro
  have hlt : n.toNatClampNeg < bROl S k0 := Nat.not_le.mp fun q => hin (Or.inr q)
  exact W.iald (v := .int (S k0 0 0 n.toNatClampNeg)) hx hb h1 h2 h3 (fun q => q.elim (fun q => hin (Or.inl q)) (fun q => by omega)) (h6 _ hlt) rfl rfl hdg (kk H locs lsR hL hH hS)
theorem bxld_sb (C : bCx p R s m args c D cy ad oq A0 k) (hdg : decode (bCe k).2.2.1 pc = .ok (.baload, 1)) {n : Int32} {i0 : Nat} {st' : List bV} (hi6 : i0 < 6) (hin : vp_in n (bTl.getD i0 0)) (hL : bLR ad oq ls lsR c.maxLocals) (hH : bHR D cy ad oq S s H) (hS : va_S A0 H0 H locs)
    (kk : bGo p l e R s m args below meth c cells slots Z D cy ad oq A0 H0 (pc + 1, ls, vI ((bTx.getD i0 []).getD n.toNatClampNeg 0) :: st', S)) : W p l e R s m args below meth c H locs cells slots Z (F0 m pc lsR (.int n :: .ref (ad 38 i0 0) :: st'.map (bVal ad oq))) := by
  obtain ⟨hx, hb, -⟩ := C
  obtain ⟨cell, h1, h2, h3, h4, h5, h6, h7⟩ := (hH.2.2.2.2.1 i0 hi6).2.2.2
  have hlt : n.toNatClampNeg < bTl.getD i0 0 := Nat.not_le.mp fun q => hin (Or.inr q)
  exact W.bald (v := .int ((bTx.getD i0 []).getD n.toNatClampNeg 0)) hx hb h1 h2 h3 (fun q => q.elim (fun q => hin (Or.inl q)) (fun q => by omega)) (h6 _ hlt) rfl rfl hdg (kk H locs lsR hL hH hS)
theorem bP1 {a : Nat} {x : va_E} {H : Heap} (h : va_at D vwCl (a, x) H) : va_P D vwCl [(a, x)] H := by
  intro q y hq
  cases q with
  | zero => cases hq; exact h
  | succ q => simp at hq
theorem barr_P (hH : bHR D cy ad oq S s H) {k0 i0 j0 t : Nat} (ht : bArr k0 t = true) (h3 : t < 3) (hok : bok k0 i0 j0 = true) : va_P D vwCl [(ad k0 i0 j0, .inl (cy t, bLen k0, .inl (S k0 i0 j0)))] H := by
  have h := hH.1 k0 i0 j0 hok
  rw [bcell_a (bArr_eq ht) h3] at h
  exact bP1 h
theorem bref_ty {t n k0 : Nat} (h : kArr k0 = some (t, n)) (h3 : 3 ≤ t) : ∃ ty : FieldType, (∀ cy : Nat → ClassId, (bTys cy)[t]? = some (cy t, ty)) ∧ ty.isReference = true := by
  unfold kArr at h
  split at h <;> first | (cases h; done) | (cases h; first | (omega) | exact ⟨_, fun _ => rfl, rfl⟩)
theorem baald (C : bCx p R s m args c D cy ad oq A0 k) (hdg : decode (bCe k).2.2.1 pc = .ok (.aaload, 1)) {n : Int32} {k0 i0 j0 : Nat} {a : bAd} {st' : List bV} (ht : 3 ≤ ((kArr k0).getD (0, 0)).1) (ha : eRef k0 i0 n.toNatClampNeg (S k0 i0 j0 n.toNatClampNeg) = some a) (hok : bok k0 i0 j0 = true) (hin : vp_in n (bLen k0)) (hL : bLR ad oq ls lsR c.maxLocals) (hH : bHR D cy ad oq S s H) (hS : va_S A0 H0 H locs)
    (kk : bGo p l e R s m args below meth c cells slots Z D cy ad oq A0 H0 (pc + 1, ls, .inr (.inl a) :: st', S)) : W p l e R s m args below meth c H locs cells slots Z (F0 m pc lsR (.int n :: .ref (ad k0 i0 j0) :: st'.map (bVal ad oq))) := by
  obtain ⟨hx, hb, -, -, -, hK, -⟩ := C
  cases hk : kArr k0 with
  | none => rw [hk] at ht; simp at ht
  | some q =>
    obtain ⟨t, N⟩ := q
    rw [hk] at ht
    have h3 : 3 ≤ t := ht
    have hN : bLen k0 = N := by unfold bLen; rw [hk]
    rw [hN] at hin
    have hat := hH.1 k0 i0 j0 hok
    rw [bcell_q hk (by omega)] at hat
    obtain ⟨ty, hty, hre⟩ := bref_ty hk h3
    have hlt : n.toNatClampNeg < N := Nat.not_le.mp fun q => hin (Or.inr q)
    have h9 := eRef_39 ha
    have kk' := kk H locs lsR hL hH hS
    have e9 : bVal ad oq (.inr (.inl a)) = .ref (ad a.1 a.2.1 a.2.2) := if_neg h9
    simp only [List.map_cons, e9] at kk'
    exact W.aald (v := .ref (ad a.1 a.2.1 a.2.2)) (ty := ty) hx hb hat ((hK.1.2 t _ (hty cy)).1 N (fun j => va_rf ((eRef k0 i0 j (S k0 i0 j0 j)).map fun a => ad a.1 a.2.1 a.2.2))) hre (fun q => by cases q) (by show ¬ (n < 0 ∨ (arrV _ _ _).slots.size ≤ _); rw [arrV_size]; exact hin)
      (by show (arrV _ _ _).slots[_]? = _; rw [arrV_read _ _ hlt]; show some (va_rf (Option.map _ (eRef k0 i0 n.toNatClampNeg (S k0 i0 j0 n.toNatClampNeg)))) = _; rw [ha]; rfl) rfl rfl hdg kk'
theorem bcode_ref {k0 i0 : Nat} {a : bAd} {v : Int32} (h : eCode k0 i0 a = some v) (n : Nat) : eRef k0 i0 n v = some a ∧ a.1 = 8 := by
  obtain ⟨a1, a2, a3⟩ := a
  unfold eCode at h
  split at h
  · split at h
    · rename_i hc
      obtain ⟨h1, h2, h3⟩ := hc
      dsimp only at h1 h2 h3
      subst h1; subst h2
      cases h
      refine ⟨?_, rfl⟩
      show some (8, a2, (Int32.ofNat a3).toNatClampNeg) = some (8, a2, a3)
      rw [Int32.toNatClampNeg_ofNat_of_lt (by omega)]
    · cases h
  · split at h
    · rename_i hc
      obtain ⟨h1, h2, h3⟩ := hc
      dsimp only at h1 h2 h3
      subst h1; subst h2
      cases h
      refine ⟨?_, rfl⟩
      show (if Int32.ofNat a3 < 0 then none else some (8, 0, (Int32.ofNat a3).toNatClampNeg)) = some (8, 0, a3)
      rw [if_neg (show ¬ Int32.ofNat a3 < 0 from nI_pos (n := a3) (by omega)), Int32.toNatClampNeg_ofNat_of_lt (by omega)]
    · cases h
  · cases h
theorem baast (C : bCx p R s m args c D cy ad oq A0 k) (hdg : decode (bCe k).2.2.1 pc = .ok (.aastore, 1)) {n v : Int32} {k0 i0 j0 : Nat} {a : bAd} {st' : List bV} (ht : bArr k0 5 = true) (hv : eCode k0 i0 a = some v) (hok : bok k0 i0 j0 = true) (hoka : bok a.1 a.2.1 a.2.2 = true) (hin : vp_in n (bLen k0)) (hL : bLR ad oq ls lsR c.maxLocals) (hH : bHR D cy ad oq S s H) (hS : va_S A0 H0 H locs)
    (kk : bGo p l e R s m args below meth c cells slots Z D cy ad oq A0 H0 (pc + 1, ls, st', sUp S k0 i0 j0 n.toNatClampNeg v)) : W p l e R s m args below meth c H locs cells slots Z (F0 m pc lsR (bVal ad oq (.inr (.inl a)) :: .int n :: .ref (ad k0 i0 j0) :: st'.map (bVal ad oq))) := by
  obtain ⟨hx, hb, -, -, -, hK, hinj, hA, -⟩ := C
  obtain ⟨hr, h8⟩ := bcode_ref hv n.toNatClampNeg
  have hk := bArr_eq ht
  have hat := hH.1 k0 i0 j0 hok
  rw [bcell_q hk (by omega)] at hat
  have hatv := hH.1 a.1 a.2.1 a.2.2 hoka
  rw [bcell_o (ci := 5) (by rw [h8]; rfl)] at hatv
  obtain ⟨r', hr', cellV, g1, g2, g3, -⟩ := hatv
  have hlt : n.toNatClampNeg < bLen k0 := Nat.not_le.mp fun q => hin (Or.inr q)
  have h0 : ¬ n < 0 := fun q => hin (Or.inl q)
  have hcls := (hK.1.1 5 _ (bcl 5 (by decide))).2
  obtain ⟨kA, comp, k1, k2, k3, -⟩ := (hK.1.2 5 (cy 5, .object "PaperCutter$Run") rfl).2
  have hcomp : comp = D.1 5 := Option.some.inj (k3.symm.trans hcls.1)
  subst hcomp
  obtain ⟨kC, hkC, -⟩ := hcls.2
  rw [show bVal ad oq (.inr (.inl a)) = .ref (ad a.1 a.2.1 a.2.2) from if_neg (bbok_ne hoka)]
  refine W.aast hx hb hat (fun q h => by cases h) (fun h => by cases h) k1 k2 rfl hkC ⟨h0, by show _ < (arrV _ _ _).slots.size; rw [arrV_size]; exact hlt⟩ g1 (fun q h => by rw [g3] at h; cases h) (by rw [g2]; exact hkC) (by rw [g2]; exact va_assign hcls) rfl rfl hdg fun H1 e1 z1 oq1 => ?_
  refine kk H1 _ lsR hL (bHR_put hinj hok hH sUp_ne ?_ oq1) (hS.put z1 oq1 (hA _ ⟨k0, i0, j0, hok, rfl⟩))
  dsimp only
  rw [bcell_q hk (by omega), sUp_at]
  show H1[_]? = some (vp_cell _ _)
  rw [e1, vp_cell_q, vp_cell_q, arrV_store]
  congr 2
  funext q
  by_cases hq : q = n.toNatClampNeg
  · subst hq
    simp [updV, upd, hr, va_rf]
  · simp [updV, upd, hq]
end BSTP
end
section
section BSTQ
variable {p : Program} {l : Launch} {e : Env} {R : Room} {s : State} {m : MethodId} {args : Array Value} {below : List Frame} {meth : Method} {c : Code} {H : Heap} {locs : List Loc} {cells slots : Nat} {Z : State → Prop}
variable {D : va_G} {cy : Nat → ClassId} {ad : bAdT} {oq : Value} {A0 : Nat → Prop} {H0 : Heap} {k pc : Nat} {ls ls' : List (Option bV)} {lsR : Array Slot} {st : List bV} {S : bSt} {P : Prop} {f' : bFr}
theorem bacp_w : ∀ own idx : Nat, bAcp own idx = true → Jvm.Cond.methodLink (bRN own) idx arraycopyName ∈ tables_1 := by
  intro own idx h
  simp only [bAcp, Bool.or_eq_true, Bool.and_eq_true, beq_iff_eq] at h
  rcases h with ((⟨rfl, rfl⟩ | ⟨rfl, rfl⟩) | ⟨rfl, rfl⟩) | ⟨rfl, rfl⟩
  · exact List.mem_of_getElem? (i := 388) (by decide +kernel)
  · exact List.mem_of_getElem? (i := 403) (by decide +kernel)
  · exact List.mem_of_getElem? (i := 563) (by decide +kernel)
  · exact List.mem_of_getElem? (i := 770) (by decide +kernel)
theorem bcopy (C : bCx p R s m args c D cy ad oq A0 k) {idx : Nat} (hdg : decode (bCe k).2.2.1 pc = .ok (.invokestatic idx, 3)) (hac : bAcp (bCe k).1 idx = true) {n dp sp : Int32} {k0 i0 j0 k2 i2 j2 : Nat} {st' : List bV} (ht : bArr k0 0 = true) (ht2 : bArr k2 0 = true) (hsum : (st'.map bCat).sum ≤ 8) (hok : bok k0 i0 j0 = true) (hok2 : bok k2 i2 j2 = true) (hne : ¬ (k0, i0, j0) = (k2, i2, j2)) (g1 : ¬ sp < 0) (g2 : ¬ dp < 0) (g3 : ¬ n < 0) (g4 : sp.toNatClampNeg + n.toNatClampNeg ≤ bLen k0) (g5 : dp.toNatClampNeg + n.toNatClampNeg ≤ bLen k2) (hL : bLR ad oq ls lsR c.maxLocals) (hH : bHR D cy ad oq S s H) (hS : va_S A0 H0 H locs)
    (kk : bGo p l e R s m args below meth c cells slots Z D cy ad oq A0 H0 (pc + 3, ls, st', sCp S (k0, i0, j0) (k2, i2, j2) sp.toNatClampNeg dp.toNatClampNeg n.toNatClampNeg)) : W p l e R s m args below meth c H locs cells slots Z (F0 m pc lsR (.int n :: .int dp :: .ref (ad k2 i2 j2) :: .int sp :: .ref (ad k0 i0 j0) :: st'.map (bVal ad oq))) := by
  obtain ⟨hx, hb, -, hown, hts, hK, hinj, hA, ho, hR1, hR2⟩ := C
  have nn : ∀ z : Int32, ¬ z < 0 → z.toInt = (z.toNatClampNeg : Int) := by
    intro z hz
    have hz0 : (0 : Int) ≤ z.toInt := by
      have := Int32.not_lt.mp hz
      simpa using Int32.le_iff_toInt_le.mp this
    show z.toInt = ((z.toInt.toNat : Nat) : Int)
    omega
  have hc0 : H[ad k0 i0 j0]? = some (vp_cell (cy 0) (bLen k0, .inl (S k0 i0 j0))) := barr_at hH ht (by decide) hok
  have hc1 : H[ad k2 i2 j2]? = some (vp_cell (cy 0) (bLen k2, .inl (S k2 i2 j2))) := barr_at hH ht2 (by decide) hok2
  have hT0 : ArrOfT s (cy 0) .int := bty_get (t := 0) hK rfl
  obtain ⟨-, q0, hk0, cm0, hkk0⟩ := hT0 (bLen k0) (fun j => .int (S k0 i0 j0 j))
  obtain ⟨-, q1, hk1, cm1, hkk1⟩ := hT0 (bLen k2) (fun j => .int (S k2 i2 j2 j))
  have hml : lsR.size = c.maxLocals := by obtain ⟨-, lv, h, -⟩ := hL; exact h.1
  have hsum2 : ((st'.map (bVal ad oq)).map fun v => v.category).sum ≤ 8 := by
    rw [List.map_map]
    have : (List.map ((fun v => Value.category v) ∘ bVal ad oq) st') = st'.map bCat := List.map_congr_left (fun v _ => bcat_val ho v)
    rw [this]
    exact hsum
  intro T hT X
  obtain ⟨vm', X', step⟩ := X.arraycopy hx hown (hts _ (bGW_in (bacp_w _ _ hac) rfl)) (hts _ (bGW_in (List.mem_of_getElem? (i := 390) (by decide +kernel)) rfl)) (hts _ (bGW_in (List.mem_of_getElem? (i := 389) (by decide +kernel)) rfl)) (hts _ (bGW_in (List.mem_of_getElem? (i := 11) (by decide +kernel)) rfl)) (src := ad k0 i0 j0) (dst := ad k2 i2 j2) (cs := vp_cell (cy 0) (bLen k0, .inl (S k0 i0 j0))) (cd := vp_cell (cy 0) (bLen k2, .inl (S k2 i2 j2))) (srcPos := sp) (destPos := dp) (n := n) (by rw [hT]; exact hc0) (by rw [hT]; exact hc1)
    (fun _ h => by cases h) (fun _ h => by cases h) (fun h => by cases h) (fun h => by cases h) hk0 hk1 hkk0 hkk1 (by simp [refKind]) g1 g2 g3
    (by rw [nn sp g1, nn n g3]; show ¬ _ > ((arrV (cy 0) (bLen k0) (fun j => .int (S k0 i0 j0 j))).slots.size : Int); rw [arrV_size]; omega)
    (by rw [nn dp g2, nn n g3]; show ¬ _ > ((arrV (cy 0) (bLen k2) (fun j => .int (S k2 i2 j2 j))).slots.size : Int); rw [arrV_size]; omega)
    (fun vm₁ _ i hi => by
      have e : (vp_cell (cy 0) (bLen k0, .inl (S k0 i0 j0))).slots.getD (sp.toNatClampNeg + i) .null = .int (S k0 i0 j0 (sp.toNatClampNeg + i)) := by
        show (arrV (cy 0) (bLen k0) (fun j => .int (S k0 i0 j0 j))).slots.getD _ _ = _
        rw [Array.getD_eq_getD_getElem?, arrV_read _ _ (by omega)]
        rfl
      refine ⟨?_, ?_⟩
      · rw [e]
        rfl
      · rw [e]
        exact trivial)
    (g := F0 m pc lsR (.int n :: .int dp :: .ref (ad k2 i2 j2) :: .int sp :: .ref (ad k0 i0 j0) :: st'.map (bVal ad oq))) rfl (by rw [← hml]) (rest := st'.map (bVal ad oq)) rfl (by rw [hb]; exact hdg) hR1 (by show 2 * 0 + _ + _ ≤ _; have h9 : nativeFrameWords "java/lang/System" "arraycopy" 5 ≤ 40 := (by decide +kernel); omega)
  have e1 : copied (vp_cell (cy 0) (bLen k0, .inl (S k0 i0 j0))) (vp_cell (cy 0) (bLen k2, .inl (S k2 i2 j2))) sp dp n = vp_cell (cy 0) (bLen k2, .inl (va_cpy (S k0 i0 j0) (S k2 i2 j2) sp.toNatClampNeg dp.toNatClampNeg n.toNatClampNeg)) := va_copied (fun z => .int z) (cy 0) (cy 0) (S k0 i0 j0) (S k2 i2 j2) g4
  rw [e1] at X' step
  have hl : ad k2 i2 j2 < H.size := (Array.getElem?_eq_some_iff.mp hc1).1
  have oq1 : ∀ q : Nat, q ≠ ad k2 i2 j2 → (H.setIfInBounds (ad k2 i2 j2) (vp_cell (cy 0) (bLen k2, .inl (va_cpy (S k0 i0 j0) (S k2 i2 j2) sp.toNatClampNeg dp.toNatClampNeg n.toNatClampNeg))))[q]? = H[q]? := fun q hq => by simp [Array.getElem?_setIfInBounds, Ne.symm hq]
  have hheap : ((T.setVm vm').setCell (ad k2 i2 j2) (vp_cell (cy 0) (bLen k2, .inl (va_cpy (S k0 i0 j0) (S k2 i2 j2) sp.toNatClampNeg dp.toNatClampNeg n.toNatClampNeg)))).heap = H.setIfInBounds (ad k2 i2 j2) (vp_cell (cy 0) (bLen k2, .inl (va_cpy (S k0 i0 j0) (S k2 i2 j2) sp.toNatClampNeg dp.toNatClampNeg n.toNatClampNeg))) := by rw [← hT]; rfl
  obtain ⟨t, a1, b1⟩ := kk (H.setIfInBounds (ad k2 i2 j2) (vp_cell (cy 0) (bLen k2, .inl (va_cpy (S k0 i0 j0) (S k2 i2 j2) sp.toNatClampNeg dp.toNatClampNeg n.toNatClampNeg)))) _ lsR hL (bHR_put hinj hok2 hH sCp_ne (by
      dsimp only
      rw [bcell_a (bArr_eq ht2) (by decide), sCp_at]
      show (H.setIfInBounds _ _)[_]? = some _
      simp [Array.getElem?_setIfInBounds, hl]) oq1)
    ⟨by simp; exact hS.1, fun q h1 h2 => by
      rw [oq1 q (fun e => h2 (by rw [e]; exact hA _ ⟨k2, i2, j2, hok2, rfl⟩))]
      exact hS.2.1 q h1 h2, fun q hq => by
      rcases List.mem_append.mp hq with h | h
      · exact hS.2.2 q h
      · obtain ⟨z, -, hz⟩ := List.mem_map.mp h
        rw [← hz]
        exact hA _ ⟨k2, i2, j2, hok2, rfl⟩⟩ _ hheap X'
  exact ⟨t, step t a1, b1⟩
theorem bstp (C : bCx p R s m args c D cy ad oq A0 k) {x : Instr} {len : Nat} (hi : ins k pc = some (x, len)) (hs : stp (bCe k).1 x (pc, ls, st, S) = some (P, f')) (hP : P) (hL : bLR ad oq ls lsR c.maxLocals) (hH : bHR D cy ad oq S s H) (hS : va_S A0 H0 H locs) (kk : bGo p l e R s m args below meth c cells slots Z D cy ad oq A0 H0 f') : W p l e R s m args below meth c H locs cells slots Z (F0 m pc lsR (st.map (bVal ad oq))) := by
  obtain ⟨hdg, hlen⟩ := bdec hi
  have hx := C.1
  have hb := C.2.1
  have ho : oq.category = 1 := C.2.2.2.2.2.2.2.2.1
  cases x
  case iconst c0 =>
    have hl0 : len = 1 := by simpa [blen] using hlen
    subst hl0
    simp only [stp] at hs
    simp only [Option.some.injEq, Prod.mk.injEq] at hs
    obtain ⟨rfl, rfl⟩ := hs
    exact lv_iconst hx hb hdg rfl (kk H locs lsR hL hH hS)
  case bipush c0 =>
    have hl0 : len = 2 := by simpa [blen] using hlen
    subst hl0
    simp only [stp] at hs
    simp only [Option.some.injEq, Prod.mk.injEq] at hs
    obtain ⟨rfl, rfl⟩ := hs
    exact lv_bipush hx hb hdg rfl (kk H locs lsR hL hH hS)
  case sipush c0 =>
    have hl0 : len = 3 := by simpa [blen] using hlen
    subst hl0
    simp only [stp] at hs
    simp only [Option.some.injEq, Prod.mk.injEq] at hs
    obtain ⟨rfl, rfl⟩ := hs
    exact lv_sipush hx hb hdg rfl (kk H locs lsR hL hH hS)
  case iload_n n0 =>
    have hl0 : len = 1 := by simpa [blen] using hlen
    subst hl0
    simp only [stp] at hs
    obtain ⟨v, hv, rfl, h⟩ := bh_ld hs
    rcases h with ⟨-, x, rfl⟩ | ⟨h, -⟩
    · exact lv_iload_n hx hb hdg rfl (bLR_at hL hv) (kk H locs lsR hL hH hS)
    · cases h
  case iload n0 =>
    have hl0 : len = 2 := by simpa [blen] using hlen
    subst hl0
    simp only [stp] at hs
    obtain ⟨v, hv, rfl, h⟩ := bh_ld hs
    rcases h with ⟨-, x, rfl⟩ | ⟨h, -⟩
    · exact lv_iload hx hb hdg (bLR_at hL hv) (kk H locs lsR hL hH hS)
    · cases h
  case aload_n n0 =>
    have hl0 : len = 1 := by simpa [blen] using hlen
    subst hl0
    simp only [stp] at hs
    obtain ⟨v, hv, rfl, h⟩ := bh_ld hs
    rcases h with ⟨h, -⟩ | ⟨-, a, rfl, h9⟩
    · cases h
    · have hr := bLR_at hL hv
      have kk' := kk H locs lsR hL hH hS
      have e9 : bVal ad oq (.inr (.inl a)) = .ref (ad a.1 a.2.1 a.2.2) := if_neg h9
      simp only [List.map_cons, e9] at kk'
      rw [e9] at hr
      exact lv_aload_n hx hb hdg rfl hr kk'
  case aload n0 =>
    have hl0 : len = 2 := by simpa [blen] using hlen
    subst hl0
    simp only [stp] at hs
    obtain ⟨v, hv, rfl, h⟩ := bh_ld hs
    rcases h with ⟨h, -⟩ | ⟨-, a, rfl, h9⟩
    · cases h
    · have hr := bLR_at hL hv
      have kk' := kk H locs lsR hL hH hS
      have e9 : bVal ad oq (.inr (.inl a)) = .ref (ad a.1 a.2.1 a.2.2) := if_neg h9
      simp only [List.map_cons, e9] at kk'
      rw [e9] at hr
      exact lv_aload hx hb hdg hr kk'
  case istore_n n0 =>
    have hl0 : len = 1 := by simpa [blen] using hlen
    subst hl0
    simp only [stp] at hs
    obtain ⟨v, st', rfl, hn, rfl, h⟩ := bh_sv hs
    rcases h with ⟨-, x, rfl⟩ | ⟨h, -⟩
    · obtain ⟨hLn, lv, h1, h2⟩ := hL
      exact lv_istore_n (x := x) hx hb hdg rfl h1 (by rw [← hLn]; exact hn) rfl (fun lsR' hl' => kk H locs lsR' (bLR_set ho hLn h2 rfl hl') hH hS)
    · cases h
  case istore n0 =>
    have hl0 : len = 2 := by simpa [blen] using hlen
    subst hl0
    simp only [stp] at hs
    obtain ⟨v, st', rfl, hn, rfl, h⟩ := bh_sv hs
    rcases h with ⟨-, x, rfl⟩ | ⟨h, -⟩
    · obtain ⟨hLn, lv, h1, h2⟩ := hL
      exact lv_istore (x := x) hx hb hdg h1 (by rw [← hLn]; exact hn) rfl (fun lsR' hl' => kk H locs lsR' (bLR_set ho hLn h2 rfl hl') hH hS)
    · cases h
  case astore_n n0 =>
    have hl0 : len = 1 := by simpa [blen] using hlen
    subst hl0
    simp only [stp] at hs
    obtain ⟨v, st', rfl, hn, rfl, h⟩ := bh_sv hs
    rcases h with ⟨h, -⟩ | ⟨-, a, rfl, h9⟩
    · cases h
    · obtain ⟨hLn, lv, h1, h2⟩ := hL
      have e9 : bVal ad oq (.inr (.inl a)) = .ref (ad a.1 a.2.1 a.2.2) := if_neg h9
      rw [List.map_cons, e9]
      exact lv_astore_n hx hb hdg rfl h1 (by rw [← hLn]; exact hn) rfl (fun lsR' hl' => kk H locs lsR' (bLR_set (v := .inr (.inl a)) ho hLn h2 rfl (by rw [e9]; exact hl')) hH hS)
  case astore n0 =>
    have hl0 : len = 2 := by simpa [blen] using hlen
    subst hl0
    simp only [stp] at hs
    obtain ⟨v, st', rfl, hn, rfl, h⟩ := bh_sv hs
    rcases h with ⟨h, -⟩ | ⟨-, a, rfl, h9⟩
    · cases h
    · obtain ⟨hLn, lv, h1, h2⟩ := hL
      have e9 : bVal ad oq (.inr (.inl a)) = .ref (ad a.1 a.2.1 a.2.2) := if_neg h9
      rw [List.map_cons, e9]
      exact lv_astore hx hb hdg h1 (by rw [← hLn]; exact hn) rfl (fun lsR' hl' => kk H locs lsR' (bLR_set (v := .inr (.inl a)) ho hLn h2 rfl (by rw [e9]; exact hl')) hH hS)
  case iinc n0 c0 =>
    have hl0 : len = 3 := by simpa [blen] using hlen
    subst hl0
    simp only [stp] at hs
    split at hs
    · rename_i v hv
      simp only [Option.some.injEq, Prod.mk.injEq] at hs
      obtain ⟨rfl, rfl⟩ := hs
      have hn : n0 < ls.length := (List.getElem?_eq_some_iff.mp hv).1
      obtain ⟨hLn, lv, h1, h2⟩ := hL
      obtain ⟨q, hq⟩ := List.getElem?_of_mem (h2 _ _ hv).2
      exact lv_iinc hx hb hdg h1 hq rfl (by rw [← hLn]; exact hn) rfl (fun lsR' hl' => kk H locs lsR' (bLR_set ho hLn h2 rfl hl') hH hS)
    · cases hs
  case iadd =>
    have hl0 : len = 1 := by simpa [blen] using hlen
    subst hl0
    simp only [stp] at hs
    obtain ⟨x, y, st', rfl, rfl, rfl⟩ := bh_bin hs
    exact lv_iadd hx hb hdg (kk H locs lsR hL hH hS)
  case isub =>
    have hl0 : len = 1 := by simpa [blen] using hlen
    subst hl0
    simp only [stp] at hs
    obtain ⟨x, y, st', rfl, rfl, rfl⟩ := bh_bin hs
    exact lv_isub hx hb hdg (kk H locs lsR hL hH hS)
  case imul =>
    have hl0 : len = 1 := by simpa [blen] using hlen
    subst hl0
    simp only [stp] at hs
    obtain ⟨x, y, st', rfl, rfl, rfl⟩ := bh_bin hs
    exact lv_imul hx hb hdg (kk H locs lsR hL hH hS)
  case iand =>
    have hl0 : len = 1 := by simpa [blen] using hlen
    subst hl0
    simp only [stp] at hs
    obtain ⟨x, y, st', rfl, rfl, rfl⟩ := bh_bin hs
    exact lv_iand hx hb hdg (kk H locs lsR hL hH hS)
  case ior =>
    have hl0 : len = 1 := by simpa [blen] using hlen
    subst hl0
    simp only [stp] at hs
    obtain ⟨x, y, st', rfl, rfl, rfl⟩ := bh_bin hs
    exact lv_ior hx hb hdg (kk H locs lsR hL hH hS)
  case ixor =>
    have hl0 : len = 1 := by simpa [blen] using hlen
    subst hl0
    simp only [stp] at hs
    obtain ⟨x, y, st', rfl, rfl, rfl⟩ := bh_bin hs
    exact lv_ixor hx hb hdg (kk H locs lsR hL hH hS)
  case ishl =>
    have hl0 : len = 1 := by simpa [blen] using hlen
    subst hl0
    simp only [stp] at hs
    obtain ⟨x, y, st', rfl, rfl, rfl⟩ := bh_bin hs
    exact lv_ishl hx hb hdg (kk H locs lsR hL hH hS)
  case ishr =>
    have hl0 : len = 1 := by simpa [blen] using hlen
    subst hl0
    simp only [stp] at hs
    obtain ⟨x, y, st', rfl, rfl, rfl⟩ := bh_bin hs
    exact lv_ishr hx hb hdg (kk H locs lsR hL hH hS)
  case idiv =>
    have hl0 : len = 1 := by simpa [blen] using hlen
    subst hl0
    simp only [stp] at hs
    obtain ⟨x, y, st', rfl, rfl, rfl⟩ := bh_bin hs
    exact lv_idiv hx hb hdg hP (kk H locs lsR hL hH hS)
  case irem =>
    have hl0 : len = 1 := by simpa [blen] using hlen
    subst hl0
    simp only [stp] at hs
    obtain ⟨x, y, st', rfl, rfl, rfl⟩ := bh_bin hs
    exact lv_irem hx hb hdg hP (kk H locs lsR hL hH hS)
  case i2c =>
    have hl0 : len = 1 := by simpa [blen] using hlen
    subst hl0
    simp only [stp] at hs
    split at hs
    · simp only [Option.some.injEq, Prod.mk.injEq] at hs
      obtain ⟨rfl, rfl⟩ := hs
      exact lv_i2c hx hb hdg rfl (kk H locs lsR hL hH hS)
    · cases hs
  case i2l =>
    have hl0 : len = 1 := by simpa [blen] using hlen
    subst hl0
    simp only [stp] at hs
    split at hs
    · simp only [Option.some.injEq, Prod.mk.injEq] at hs
      obtain ⟨rfl, rfl⟩ := hs
      exact lv_i2l hx hb hdg rfl (kk H locs lsR hL hH hS)
    · cases hs
  case lmul =>
    have hl0 : len = 1 := by simpa [blen] using hlen
    subst hl0
    simp only [stp] at hs
    split at hs
    · simp only [Option.some.injEq, Prod.mk.injEq] at hs
      obtain ⟨rfl, rfl⟩ := hs
      exact lv_lmul hx hb hdg (kk H locs lsR hL hH hS)
    · cases hs
  case lcmp =>
    have hl0 : len = 1 := by simpa [blen] using hlen
    subst hl0
    simp only [stp] at hs
    split at hs
    · simp only [Option.some.injEq, Prod.mk.injEq] at hs
      obtain ⟨rfl, rfl⟩ := hs
      exact W.lcmp hx hb hdg (kk H locs lsR hL hH hS)
    · cases hs
  case ifCond c0 off =>
    have hl0 : len = 3 := by simpa [blen] using hlen
    subst hl0
    simp only [stp] at hs
    split at hs
    · simp only [Option.some.injEq, Prod.mk.injEq] at hs
      obtain ⟨rfl, rfl⟩ := hs
      have ht := btg_ok hP
      have kk' := kk H locs lsR hL hH hS
      dsimp only at kk'
      cases c0
      case eq => exact lv_if_eq hx hb hdg ht (fun h => by simpa [bH, h] using kk') (fun h => by simpa [bH, h] using kk')
      case ne => exact lv_if_ne hx hb hdg ht (fun h => by simpa [bH, h] using kk') (fun h => by simpa [bH, h] using kk')
      case lt => exact lv_if_lt hx hb hdg ht (fun h => by simpa [bH, h] using kk') (fun h => by simpa [bH, h] using kk')
      case ge => exact lv_if_ge hx hb hdg ht (fun h => by simpa [bH, h] using kk') (fun h => by simpa [bH, h] using kk')
      case gt => exact lv_if_gt hx hb hdg ht (fun h => by simpa [bH, h] using kk') (fun h => by simpa [bH, h] using kk')
      case le => exact lv_if_le hx hb hdg ht (fun h => by simpa [bH, h] using kk') (fun h => by simpa [bH, h] using kk')
    · cases hs
  case if_icmp c0 off =>
    have hl0 : len = 3 := by simpa [blen] using hlen
    subst hl0
    simp only [stp] at hs
    split at hs
    · simp only [Option.some.injEq, Prod.mk.injEq] at hs
      obtain ⟨rfl, rfl⟩ := hs
      have ht := btg_ok hP
      have kk' := kk H locs lsR hL hH hS
      dsimp only at kk'
      cases c0
      case eq => exact lv_icmp_eq hx hb hdg ht (fun h => by simpa [bH, h] using kk') (fun h => by simpa [bH, h] using kk')
      case ne => exact lv_icmp_ne hx hb hdg ht (fun h => by simpa [bH, h] using kk') (fun h => by simpa [bH, h] using kk')
      case lt => exact lv_icmp_lt hx hb hdg ht (fun h => by simpa [bH, h] using kk') (fun h => by simpa [bH, h] using kk')
      case ge => exact lv_icmp_ge hx hb hdg ht (fun h => by simpa [bH, h] using kk') (fun h => by simpa [bH, h] using kk')
      case gt => exact lv_icmp_gt hx hb hdg ht (fun h => by simpa [bH, h] using kk') (fun h => by simpa [bH, h] using kk')
      case le => exact lv_icmp_le hx hb hdg ht (fun h => by simpa [bH, h] using kk') (fun h => by simpa [bH, h] using kk')
    · cases hs
  case goto off =>
    have hl0 : len = 3 := by simpa [blen] using hlen
    subst hl0
    simp only [stp] at hs
    simp only [Option.some.injEq, Prod.mk.injEq] at hs
    obtain ⟨rfl, rfl⟩ := hs
    exact lv_goto hx hb hdg (btg_ok hP) (kk H locs lsR hL hH hS)
  case tableswitch d lo up offs =>
    simp only [stp] at hs
    split at hs
    · rename_i v st'
      simp only [Option.some.injEq, Prod.mk.injEq] at hs
      obtain ⟨rfl, rfl⟩ := hs
      have kk' := kk H locs lsR hL hH hS
      dsimp only at kk'
      by_cases h : v.toInt < lo ∨ up < v.toInt
      · rw [if_pos h] at kk'
        exact lv_tableOut hx hb hdg h (btg_ok (hP.1 h)) kk'
      · rw [if_neg h] at kk'
        have h1 : ¬ v.toInt < lo := fun q => h (Or.inl q)
        have h2 : ¬ up < v.toInt := fun q => h (Or.inr q)
        obtain ⟨g1, g2⟩ := hP.2 h1 h2
        exact lv_tableIn hx hb hdg h1 h2 (off := offs.getD (v.toInt - lo).toNat 0) (by simp [Array.getD, g1]) (btg_ok g2) kk'
    · cases hs
  case dup =>
    have hl0 : len = 1 := by simpa [blen] using hlen
    subst hl0
    simp only [stp] at hs
    split at hs
    · split at hs
      · rename_i h
        simp only [Option.some.injEq, Prod.mk.injEq] at hs
        obtain ⟨rfl, rfl⟩ := hs
        exact lv_dup hx hb hdg (by rw [bcat_val ho]; exact h) (kk H locs lsR hL hH hS)
      · cases hs
    · cases hs
  case dup2 =>
    have hl0 : len = 1 := by simpa [blen] using hlen
    subst hl0
    simp only [stp] at hs
    split at hs
    · split at hs
      · rename_i h
        simp only [Option.some.injEq, Prod.mk.injEq] at hs
        obtain ⟨rfl, rfl⟩ := hs
        exact lv_dup2_11 hx hb hdg (by rw [bcat_val ho]; exact h.1) (by rw [bcat_val ho]; exact h.2) (kk H locs lsR hL hH hS)
      · cases hs
    · cases hs
  case pop =>
    have hl0 : len = 1 := by simpa [blen] using hlen
    subst hl0
    simp only [stp] at hs
    split at hs
    · split at hs
      · rename_i h
        simp only [Option.some.injEq, Prod.mk.injEq] at hs
        obtain ⟨rfl, rfl⟩ := hs
        exact lv_pop hx hb hdg (by rw [bcat_val ho]; exact h) (kk H locs lsR hL hH hS)
      · cases hs
    · cases hs
  case getfield idx =>
    have hl0 : len = 3 := by simpa [blen] using hlen
    subst hl0
    simp only [stp] at hs
    have hown := C.2.2.2.1
    have hts := C.2.2.2.2.1
    split at hs
    · rename_i k0 i0 j0 st'
      split at hs
      · rename_i h10
        rw [h10] at hown
        split at hs
        · rename_i h
          obtain ⟨rfl, rfl, rfl⟩ := h
          simp only [Option.some.injEq, Prod.mk.injEq] at hs
          obtain ⟨rfl, rfl⟩ := hs
          obtain ⟨cf, kf, fi, fd, cell, h1, h2, h3, h4, h5, h6⟩ := (hH.2.2.2.2.1 i0 hP).2.2.1
          exact W.getf (own := "java/lang/String") (ref := "java/lang/String") (name := "value") (desc := "[B") (index := 9) hx hb hown (hts _ (bGW_in (List.mem_of_getElem? (i := 1541) (by decide +kernel)) rfl)) h1 h2 h3 h4 h5 rfl rfl hdg (kk H locs lsR hL hH hS)
        · split at hs
          · rename_i h
            obtain ⟨rfl, rfl, rfl⟩ := h
            simp only [Option.some.injEq, Prod.mk.injEq] at hs
            obtain ⟨rfl, rfl⟩ := hs
            obtain ⟨cf, kf, fi, fd, cell, h1, h2, h3, h4, h5, h6⟩ := (hH.2.2.2.2.1 i0 hP).2.1
            exact W.getf (own := "java/lang/String") (ref := "java/lang/String") (name := "coder") (desc := "B") (index := 15) hx hb hown (hts _ (bGW_in (List.mem_of_getElem? (i := 1542) (by decide +kernel)) rfl)) h1 h2 h3 h4 h5 rfl rfl hdg (kk H locs lsR hL hH hS)
          · cases hs
      · split at hs
        · rename_i ci f b hf
          split at hs
          · rename_i hk
            simp only [Option.some.injEq, Prod.mk.injEq] at hs
            obtain ⟨rfl, rfl⟩ := hs
            rw [List.map_cons, bval_ok (bbok_ne hP)]
            exact bgetf C hdg hf hk hP hL hH hS kk
          · cases hs
        · cases hs
    · cases hs
  case putfield idx =>
    have hl0 : len = 3 := by simpa [blen] using hlen
    subst hl0
    simp only [stp] at hs
    split at hs
    · rename_i v k0 i0 j0 st'
      split at hs
      · rename_i ci f b hf
        split at hs
        · rename_i hk
          simp only [Option.some.injEq, Prod.mk.injEq] at hs
          obtain ⟨rfl, rfl⟩ := hs
          rw [List.map_cons, List.map_cons, bval_ok (bbok_ne hP.1)]
          exact bputf C hdg hf hk.1 hk.2.1 hk.2.2 hP.1 hP.2 hL hH hS kk
        · cases hs
      · cases hs
    · cases hs
  case iaload =>
    have hl0 : len = 1 := by simpa [blen] using hlen
    subst hl0
    simp only [stp] at hs
    obtain ⟨n, k0, i0, j0, st', rfl, h⟩ := bh_xld hs
    rcases h with ⟨ht, rfl, rfl⟩ | ⟨-, hro, rfl, rfl, rfl, rfl⟩ | ⟨h, -⟩
    · rw [List.map_cons, List.map_cons, bval_ok (bbok_ne hP.1)]
      exact va_iald hx hb C.2.2.2.2.2.1.1 (barr_P hH ht (by decide) hP.1) 0 0 rfl rfl hP.2 hdg (kk H locs lsR hL hH hS)
    · rw [List.map_cons, List.map_cons, bval_ok (bro_ne hro)]
      exact bxld_ro C hdg hro hP hL hH hS kk
    · cases h
  case caload =>
    have hl0 : len = 1 := by simpa [blen] using hlen
    subst hl0
    simp only [stp] at hs
    obtain ⟨n, k0, i0, j0, st', rfl, h⟩ := bh_xld hs
    rcases h with ⟨ht, rfl, rfl⟩ | ⟨h, -⟩ | ⟨h, -⟩
    · rw [List.map_cons, List.map_cons, bval_ok (bbok_ne hP.1)]
      exact va_cald hx hb C.2.2.2.2.2.1.1 (barr_P hH ht (by decide) hP.1) 0 1 rfl rfl hP.2 hdg (kk H locs lsR hL hH hS)
    · cases h
    · cases h
  case baload =>
    have hl0 : len = 1 := by simpa [blen] using hlen
    subst hl0
    simp only [stp] at hs
    split at hs
    · rename_i r hr
      have hs2 : bXld 2 pc ls st S = some (P, f') := by rw [hr]; exact hs
      obtain ⟨n, k0, i0, j0, st', rfl, h⟩ := bh_xld hs2
      rcases h with ⟨ht, rfl, rfl⟩ | ⟨h, -⟩ | ⟨h, -⟩
      · rw [List.map_cons, List.map_cons, bval_ok (bbok_ne hP.1)]
        exact va_zald hx hb C.2.2.2.2.2.1.1 (barr_P hH ht (by decide) hP.1) 0 2 rfl rfl hP.2 hdg (kk H locs lsR hL hH hS)
      · cases h
      · cases h
    · obtain ⟨n, k0, i0, j0, st', rfl, h⟩ := bh_xld hs
      rcases h with ⟨ht, -⟩ | ⟨h, -⟩ | ⟨-, rfl, rfl, rfl, rfl⟩
      · exfalso
        have h9 := bArr_eq ht
        unfold kArr at h9
        split at h9 <;> first | (cases h9; done) | (simp at h9; done)
      · cases h
      · rw [List.map_cons, List.map_cons, bval_ok (by decide)]
        exact bxld_sb C hdg hP.1 hP.2 hL hH hS kk
  case iastore =>
    have hl0 : len = 1 := by simpa [blen] using hlen
    subst hl0
    simp only [stp] at hs
    obtain ⟨x, n, k0, i0, j0, st', rfl, ht, rfl, rfl⟩ := bh_xst hs
    rw [List.map_cons, List.map_cons, List.map_cons, bval_ok (bbok_ne hP.1)]
    exact bxst_int C hdg ht hP.1 hP.2.1 hL hH hS kk
  case castore =>
    have hl0 : len = 1 := by simpa [blen] using hlen
    subst hl0
    simp only [stp] at hs
    obtain ⟨x, n, k0, i0, j0, st', rfl, ht, rfl, rfl⟩ := bh_xst hs
    rw [List.map_cons, List.map_cons, List.map_cons, bval_ok (bbok_ne hP.1)]
    exact bxst_char C hdg ht hP.1 hP.2.1 (hP.2.2.1 rfl) hL hH hS kk
  case bastore =>
    have hl0 : len = 1 := by simpa [blen] using hlen
    subst hl0
    simp only [stp] at hs
    obtain ⟨x, n, k0, i0, j0, st', rfl, ht, rfl, rfl⟩ := bh_xst hs
    rw [List.map_cons, List.map_cons, List.map_cons, bval_ok (bbok_ne hP.1)]
    exact bxst_bool C hdg ht hP.1 hP.2.1 (hP.2.2.2 rfl) hL hH hS kk
  case aaload =>
    have hl0 : len = 1 := by simpa [blen] using hlen
    subst hl0
    simp only [stp] at hs
    split at hs
    · split at hs
      · rename_i n k0 i0 j0 st' h3
        split at hs
        · rename_i a ha
          simp only [Option.some.injEq, Prod.mk.injEq] at hs
          obtain ⟨rfl, rfl⟩ := hs
          rw [List.map_cons, List.map_cons, bval_ok (bbok_ne hP.1)]
          exact baald C hdg h3 ha hP.1 hP.2 hL hH hS kk
        · cases hs
      · cases hs
    · cases hs
  case aastore =>
    have hl0 : len = 1 := by simpa [blen] using hlen
    subst hl0
    simp only [stp] at hs
    split at hs
    · split at hs
      · rename_i a n k0 i0 j0 st' h3
        split at hs
        · rename_i v hv
          simp only [Option.some.injEq, Prod.mk.injEq] at hs
          obtain ⟨rfl, rfl⟩ := hs
          rw [List.map_cons, List.map_cons, List.map_cons, bval_ok (k0 := k0) (bbok_ne hP.1)]
          exact baast C hdg h3 hv hP.1 hP.2.1 hP.2.2 hL hH hS kk
        · cases hs
      · cases hs
    · cases hs
  case arraylength =>
    have hl0 : len = 1 := by simpa [blen] using hlen
    subst hl0
    simp only [stp] at hs
    split at hs
    · rename_i k0 i0 j0 st'
      split at hs
      · rename_i h
        simp only [Option.some.injEq, Prod.mk.injEq] at hs
        obtain ⟨rfl, rfl⟩ := hs
        rw [List.map_cons, bval_ok (bbok_ne hP)]
        cases hk : kArr k0 with
        | none => rw [hk] at h; cases h
        | some q =>
          obtain ⟨t, N⟩ := q
          have hN : bLen k0 = N := by unfold bLen; rw [hk]
          have hat := hH.1 k0 i0 j0 hP
          by_cases h3 : t < 3
          · rw [bcell_a hk h3] at hat
            have hty : ∃ ty : FieldType, (bTys cy)[t]? = some (cy t, ty) := by
              match t, h3 with
              | 0, _ => exact ⟨_, rfl⟩
              | 1, _ => exact ⟨_, rfl⟩
              | 2, _ => exact ⟨_, rfl⟩
            obtain ⟨ty, hty⟩ := hty
            exact va_alen hx hb C.2.2.2.2.2.1.1 (bP1 hat) 0 t rfl hty (by rw [hN]) hdg (kk H locs lsR hL hH hS)
          · rw [bcell_q hk h3] at hat
            obtain ⟨ty, hty, -⟩ := bref_ty hk (by omega)
            exact va_alen hx hb C.2.2.2.2.2.1.1 (bP1 hat) 0 t rfl (hty cy) (by rw [hN]) hdg (kk H locs lsR hL hH hS)
      · split at hs
        · rename_i h
          obtain ⟨hro, rfl, rfl⟩ := h
          simp only [Option.some.injEq, Prod.mk.injEq] at hs
          obtain ⟨rfl, rfl⟩ := hs
          rw [List.map_cons, bval_ok (bro_ne hro)]
          obtain ⟨cell, h1, h2, h3, h4, h5, h6, h7⟩ := hH.2.1 k0 hro
          exact W.alen (n := Int32.ofNat (bROl S k0)) hx hb h1 h2 h5 rfl rfl hdg (kk H locs lsR hL hH hS)
        · split at hs
          · rename_i h
            obtain ⟨rfl, rfl⟩ := h
            simp only [Option.some.injEq, Prod.mk.injEq] at hs
            obtain ⟨rfl, rfl⟩ := hs
            rw [List.map_cons, bval_ok (by decide)]
            obtain ⟨cell, h1, h2, h3, h4, h5, h6, h7⟩ := (hH.2.2.2.2.1 i0 hP).2.2.2
            exact W.alen (n := Int32.ofNat (bTl.getD i0 0)) hx hb h1 h2 h5 rfl rfl hdg (kk H locs lsR hL hH hS)
          · cases hs
    · cases hs
  case getstatic idx =>
    have hl0 : len = 3 := by simpa [blen] using hlen
    subst hl0
    simp only [stp] at hs
    have hown := C.2.2.2.1
    have hts := C.2.2.2.2.1
    have hK := C.2.2.2.2.2.1
    split at hs
    · rename_i h10
      rw [h10] at hown
      split at hs
      · rename_i h
        subst h
        simp only [Option.some.injEq, Prod.mk.injEq] at hs
        obtain ⟨rfl, rfl⟩ := hs
        obtain ⟨cf, kf, fi, f, a, cell, h1, h2, h3, h4, h5, h6, h7, h8⟩ := hH.2.2.2.1.1
        exact W.gets (own := "java/lang/String") (ref := "java/lang/String") (name := "COMPACT_STRINGS") (desc := "Z") (index := 38) hx hb hown (hts _ (bGW_in (List.mem_of_getElem? (i := 905) (by decide +kernel)) rfl)) h1 h2 h3 h4 h5 (fun e => by rw [e] at h6; cases h6) h7 rfl hdg (kk H locs lsR hL hH hS)
      · split at hs
        · rename_i h
          subst h
          simp only [Option.some.injEq, Prod.mk.injEq] at hs
          obtain ⟨rfl, rfl⟩ := hs
          obtain ⟨cf, kf, fi, f, a, cell, h1, h2, h3, h4, h5, h6, h7, h8⟩ := hH.2.2.2.1.2
          exact W.gets (own := "java/lang/String") (ref := "jdk/internal/util/Preconditions") (name := "SIOOBE_FORMATTER") (desc := "Ljava/util/function/BiFunction;") (index := 1053) hx hb hown (hts _ (bGW_in (List.mem_of_getElem? (i := 921) (by decide +kernel)) rfl)) h1 h2 h3 h4 h5 (fun e => by rw [e] at h6; cases h6) h7 rfl hdg (kk H locs lsR hL hH hS)
        · cases hs
    · split at hs
      · rename_i k0 hk0
        simp only [Option.some.injEq, Prod.mk.injEq] at hs
        obtain ⟨rfl, rfl⟩ := hs
        unfold bSf at hk0
        split at hk0
        · rename_i h3
          rw [h3] at hown
          split at hk0
          · cases hk0
            obtain ⟨cf, kf, fi, f, a, cell, h1, h2, h3, h4, h5, h6, h7, h8⟩ := hH.2.2.1.1
            exact va_WgetsN (own := "PaperCutter$Plan") (ref := "PaperCutter") (name := "FIRST_SETTING") (desc := "[I") (host := "PaperCutter") (index := 9) hx hb hown (va_Nw.use rfl (hK.2.1 _ (List.mem_of_getElem? (i := 32) (by decide +kernel)) rfl)) h1 h2 h3 h4 h5 (fun e => by rw [e] at h6; cases h6) h7 rfl hdg (kk H locs lsR hL hH hS)
          · cases hk0
            obtain ⟨cf, kf, fi, f, a, cell, h1, h2, h3, h4, h5, h6, h7, h8⟩ := hH.2.2.1.2.1
            exact va_WgetsN (own := "PaperCutter$Plan") (ref := "PaperCutter") (name := "LOWEST_SETTING") (desc := "[I") (host := "PaperCutter") (index := 70) hx hb hown (va_Nw.use rfl (hK.2.1 _ (List.mem_of_getElem? (i := 408) (by decide +kernel)) rfl)) h1 h2 h3 h4 h5 (fun e => by rw [e] at h6; cases h6) h7 rfl hdg (kk H locs lsR hL hH hS)
          · cases hk0
            obtain ⟨cf, kf, fi, f, a, cell, h1, h2, h3, h4, h5, h6, h7, h8⟩ := hH.2.2.1.2.2
            exact va_WgetsN (own := "PaperCutter$Plan") (ref := "PaperCutter") (name := "HIGHEST_SETTING") (desc := "[I") (host := "PaperCutter") (index := 73) hx hb hown (va_Nw.use rfl (hK.2.1 _ (List.mem_of_getElem? (i := 410) (by decide +kernel)) rfl)) h1 h2 h3 h4 h5 (fun e => by rw [e] at h6; cases h6) h7 rfl hdg (kk H locs lsR hL hH hS)
          · cases hk0
        · cases hk0
      · cases hs
  case ldc idx =>
    have hl0 : len = 2 := by simpa [blen] using hlen
    subst hl0
    simp only [stp] at hs
    have hown := C.2.2.2.1
    split at hs
    · rename_i n0 hn0
      simp only [Option.some.injEq, Prod.mk.injEq] at hs
      obtain ⟨rfl, rfl⟩ := hs
      have h7 : (bCe k).1 = 7 := by
        unfold bLdc at hn0
        split at hn0
        · rename_i h; exact h
        · cases hn0
      rw [h7] at hn0 hown
      exact va_ldcS (own := "PaperCutter$Text") hx hb hown (C.2.2.2.2.2.1.2.2 idx n0 hn0) hdg (kk H locs lsR hL hH hS)
    · cases hs
  case invokestatic idx =>
    have hl0 : len = 3 := by simpa [blen] using hlen
    subst hl0
    simp only [stp] at hs
    split at hs
    · rename_i hac
      split at hs
      · rename_i n dp k2 i2 j2 sp k0 i0 j0 st'
        split at hs
        · rename_i h
          simp only [Option.some.injEq, Prod.mk.injEq] at hs
          obtain ⟨rfl, rfl⟩ := hs
          obtain ⟨p1, p2, p3, p4, p5, p6, p7, p8⟩ := hP
          simp only [List.map_cons]
          rw [bval_ok (bbok_ne p1), bval_ok (bbok_ne p2)]
          exact bcopy C hdg hac h.1 h.2.1 h.2.2 p1 p2 (fun z => p3 (by simp only [Prod.mk.injEq] at z; exact z)) p4 p5 p6 p7 p8 hL hH hS kk
        · cases hs
      · cases hs
    · cases hs
  all_goals exact absurd hs (by simp [stp])
end BSTQ
end
section
/-! SOUNDNESS, part 2: calls, returns, a whole method -/
theorem bHR.moved {D : va_G} {cy : Nat → ClassId} {ad : bAdT} {oq : Value} {S : bSt} {u U : State} {H : Heap} (hvm : u.vm.Alike U.vm) (h : bHR D cy ad oq S u H) : bHR D cy ad oq S U H := by
  obtain ⟨h1, h2, ⟨z1, z2, z3⟩, ⟨z4, z5⟩, h3⟩ := h
  exact ⟨h1, fun k hk => (h2 k hk).moved hvm, ⟨z1.moved hvm, z2.moved hvm, z3.moved hvm⟩, ⟨z4.moved hvm, z5.moved hvm⟩, h3.moved hvm⟩
theorem bKN.same {D : va_G} {cy : Nat → ClassId} {ad : bAdT} {u U : State} (hvm : u.vm = U.vm) (h : bKN D cy ad u) : bKN D cy ad U := by
  obtain ⟨h1, h2, h3⟩ := h
  refine ⟨va_K.moved (by rw [hvm]; exact Vm.Alike.refl _) h1, fun w hw hn => ?_, fun idx n hn => vk_R.same hvm.symm (h3 idx n hn)⟩
  refine va_Nw.same ?_ hvm (h2 w hw hn)
  cases w <;> first | rfl | cases hn
theorem bKN.warm {D : va_G} {cy : Nat → ClassId} {ad : bAdT} {s U : State} (hW : s.WarmedH U.vm) (h : bKN D cy ad s) : bKN D cy ad U := by
  obtain ⟨h1, h2, h3⟩ := h
  refine ⟨va_K.moved hW.alike h1, fun w hw hn => ?_, fun idx n hn => vk_R.warm hW (h3 idx n hn)⟩
  have h9 := h2 w hw hn
  cases w <;> first | exact va_Nw.warmF hW h9 | exact va_Nw.warmM hW h9 | cases hn
def bPc (D : va_G) (cy : Nat → ClassId) (ad : bAdT) (oq : Value) (vs : List Value) (S : bSt) : Array Value → State → Prop := va_Pc vs (fun U => bHR D cy ad oq S U U.heap ∧ bKN D cy ad U)
def bQc (D : va_G) (cy : Nat → ClassId) (ad : bAdT) (oq : Value) (Q : Option bV → bSt → Prop) : Array Value → State → Outcome → State → Prop := fun _ st o t => (∃ r S', o = .returned (r.map (bVal ad oq)) ∧ Q r S' ∧ bHR D cy ad oq S' t t.heap) ∧ va_F (bA ad) st t
theorem bPc_blind {D : va_G} {cy : Nat → ClassId} {ad : bAdT} {oq : Value} {vs : List Value} {S : bSt} : FrameBlind (bPc D cy ad oq vs S) := by
  intro a U g mk h
  obtain ⟨h1, h2, h3⟩ := h
  exact ⟨h1, bHR.moved (Vm.Alike.refl U.vm) h2, bKN.same (u := U) (U := U.calling g mk a) rfl h3⟩
def bRm (d : Nat) : Room := { frames := d + 2, cells := 0, slots := 0, locals := 40 * (d + 3) }
def bWS (k : Nat) : List Jvm.Cond := Jvm.Cond.code (bCe k).2.1 (bCe k).2.2.1 (bCe k).2.2.2.1 (bCe k).2.2.2.2.1 :: bGW
theorem bmk {k : Nat} (h : k < 267) (h16 : (bCe k).1 ≠ 16) : bMk1 (bCe k) := (bMk _ (bmg h)).resolve_left h16
theorem bC_16 : ∀ e ∈ bCt, (bCe e.2.2.1).1 ≠ 16 := by decide +kernel
theorem bC_n16 {own idx k : Nat} {b : Bool} (h : bC own idx = some (k, b)) : (bCe k).1 ≠ 16 := by
  unfold bC at h
  cases hf : bCt.find? (fun e => e.1 == own && e.2.1 == idx) with
  | none => rw [hf] at h; cases h
  | some e =>
    rw [hf] at h
    have he := List.mem_of_find?_eq_some hf
    obtain ⟨e1, e2, e3, e4⟩ := e
    cases h
    exact bC_16 _ he
theorem bmk_code {k : Nat} (h : bMk1 (bCe k)) : Jvm.Cond.code (bCe k).2.1 (bCe k).2.2.1 (bCe k).2.2.2.1 (bCe k).2.2.2.2.1 ∈ bGW := bGW_in (h.1 _ (by simp [bMw])) rfl
theorem bmk_ini {k : Nat} (h : bMk1 (bCe k)) : Jvm.Cond.initialized (bCe k).2.1.cls ∈ bGW := bGW_in (h.1 _ (by simp [bMw])) rfl
theorem bWS_good {k : Nat} (h : bMk1 (bCe k)) : GoodIn bGW (bWS k) := by
  intro w hw
  have h1 : w ∈ bGW := by
    rcases List.mem_cons.mp hw with rfl | hw
    · exact bmk_code h
    · exact hw
  exact ⟨h1, good_of_word (List.mem_filter.mp h1).2⟩
theorem bMb_spec {m : bEnt} (h : bMb m = true) : m.2.1.cls = bRN m.1 ∧ plainFor m.2.1 = true ∧ m.2.1.cls ≠ "java/lang/invoke/MethodHandle" ∧ m.2.1.cls ≠ "java/lang/invoke/VarHandle" ∧ m.2.2.2.1 ≤ 12 ∧ (parseMethodDescriptor m.2.1.desc).map (fun d => d.parameters.length) = some (if m.2.2.2.2.2.2 = true then m.2.2.2.2.2.1 else m.2.2.2.2.2.1 - 1) ∧ (m.2.2.2.2.2.2 = true ∨ 0 < m.2.2.2.2.2.1) := by
  unfold bMb at h
  simp only [Bool.and_eq_true, Bool.or_eq_true, decide_eq_true_eq] at h
  obtain ⟨⟨⟨⟨⟨⟨h1, h2⟩, h3⟩, h4⟩, h5⟩, h6⟩, h7⟩ := h
  exact ⟨h1, h2, h3, h4, h5, h6, h7⟩
section BCALL
variable {p : Program} {l : Launch} {e : Env} {R : Room} {s : State} {m : MethodId} {args : Array Value} {below : List Frame} {meth : Method} {c : Code} {H : Heap} {locs : List Loc} {cells slots : Nat} {Z : State → Prop}
variable {D : va_G} {cy : Nat → ClassId} {ad : bAdT} {oq : Value} {A0 : Nat → Prop} {H0 : Heap} {k pc : Nat} {ls ls' : List (Option bV)} {lsR : Array Slot} {st : List bV} {S : bSt} {P : Prop} {f' : bFr}
/-- behind a call -/
theorem bback (C : bCx p R s m args c D cy ad oq A0 k) {Q' : Option bV → bSt → Prop} {a : Array Value} {st0 : List Value} {st' : List bV} (hr : va_Run p l e R s m args below meth c H locs cells slots 0 0 (F0 m pc lsR st0) (st'.map (bVal ad oq)) (bQc D cy ad oq Q' a) (bA ad)) (hL : bLR ad oq ls lsR c.maxLocals) (hS : va_S A0 H0 H locs)
    (kk : ∀ r S', Q' r S' → bGo p l e R s m args below meth c cells slots Z D cy ad oq A0 H0 (pc + 3, ls, r.toList ++ st', S')) : W p l e R s m args below meth c H locs cells slots Z (F0 m pc lsR st0) := by
  have hA := C.2.2.2.2.2.2.2.1
  intro T hT X
  obtain ⟨v, st₀, t, T', L, h0, X', hL2, e1, e2, ⟨⟨r, S', hv, hQ, hb⟩, hz, hk⟩, st⟩ := hr T hT X
  have hv2 : v = r.map (bVal ad oq) := by cases hv; rfl
  subst hv2
  rw [h0] at hz hk
  have hB : bHR D cy ad oq S' s T'.heap := by
    rw [e1]
    exact bHR.moved (by rw [← e2]; exact X'.warmed.alike.symm) hb
  obtain ⟨t2, a1, b1⟩ := kk r S' hQ T'.heap (locs ++ L) lsR hL hB
    ⟨Nat.le_trans hS.1 (by rw [e1]; exact hz), fun q h1 h2 => by rw [e1, hk q (Nat.lt_of_lt_of_le h1 hS.1) (fun z => h2 (hA q z))]; exact hS.2.1 q h1 h2, fun q hq => by
      rcases List.mem_append.mp hq with h | h
      · exact hS.2.2 q h
      · exact hA _ (hL2 q h)⟩ T' rfl X'
  refine ⟨t2, st t2 ?_, b1⟩
  have e9 : (r.map (bVal ad oq)).toList ++ st'.map (bVal ad oq) = (r.toList ++ st').map (bVal ad oq) := by
    cases r <;> simp
  show Steps p.tables e below (T'.setTop (F0 m (pc + 3) lsR ((r.map (bVal ad oq)).toList ++ st'.map (bVal ad oq)))) t2
  rw [e9]
  exact a1
theorem bsum_le (ho : oq.category = 1) (l : List bV) : ((l.map (bVal ad oq)).map fun v => v.category).sum = (l.map bCat).sum := by
  rw [List.map_map]
  have : (List.map ((fun v => Value.category v) ∘ bVal ad oq) l) = l.map bCat := List.map_congr_left (fun v _ => bcat_val ho v)
  rw [this]
/-- a call, its callee's contract at hand -/
theorem bcallW (C : bCx p R s m args c D cy ad oq A0 k) {d len : Nat} {x : Instr} (hi : ins k pc = some (x, len)) {k' : Nat} {as st' : List bV} (hs : bcall (bCe k).1 x (pc, ls, st, S) = some (P, k', as, st')) (hd : 0 < d) (hR1 : d + 2 ≤ R.frames) (hR2 : 40 * (d + 3) ≤ R.locals) (hc : cells ≤ R.cells) (hsl : slots ≤ R.slots) {Q' : Option bV → bSt → Prop}
    (hM : Met l (bCe k').2.1 (bWS k') (bRm (d - 1)) (bPc D cy ad oq (as.map (bVal ad oq)) S) (bQc D cy ad oq Q') 0 0 (bA ad)) (hL : bLR ad oq ls lsR c.maxLocals) (hH : bHR D cy ad oq S s H) (hS : va_S A0 H0 H locs)
    (kk : ∀ r S', Q' r S' → bGo p l e R s m args below meth c cells slots Z D cy ad oq A0 H0 (pc + 3, ls, r.toList ++ st', S')) : W p l e R s m args below meth c H locs cells slots Z (F0 m pc lsR (st.map (bVal ad oq))) := by
  obtain ⟨hdg, hlen⟩ := bdec hi
  have C0 := C
  obtain ⟨hx, hb, hml, hown, hts, hK, hinj, hA, ho, -, -⟩ := C
  have hsz : lsR.size = (bCe k).2.2.2.1 := by
    obtain ⟨-, lv, h, -⟩ := hL
    rw [← hml]
    exact h.1
  have hroom : ∀ {N : Nat}, N ≤ 12 → (bRm (d - 1)).frames + 1 ≤ R.frames ∧ 8 + (N + 11) + (bRm (d - 1)).locals ≤ R.locals := by
    intro N hN
    refine ⟨?_, ?_⟩
    · show d - 1 + 2 + 1 ≤ R.frames
      omega
    · show 8 + (N + 11) + 40 * (d - 1 + 3) ≤ R.locals
      omega
  have hpre : ∀ U : State, U.heap = H → s.WarmedH U.vm → bHR D cy ad oq S U U.heap ∧ bKN D cy ad U := fun U hU hW => ⟨by rw [hU]; exact bHR.moved hW.alike hH, bKN.warm hW hK⟩
  cases x
  case invokestatic idx =>
    have hl0 : len = 3 := by simpa [blen] using hlen
    subst hl0
    simp only [bcall] at hs
    split at hs
    · cases hs
    · rename_i k2 b2 hC
      split at hs
      · rename_i hcd
        simp only [Option.some.injEq, Prod.mk.injEq] at hs
        obtain ⟨-, rfl, rfl, rfl⟩ := hs
        obtain ⟨q1, q2, q3, q4, q5⟩ := hcd
        obtain ⟨w1, w2⟩ := bC_ok hC
        have hmk := bmk w2 (bC_n16 hC)
        obtain ⟨b1, b2', b3, b4, b5, b6, b7⟩ := bMb_spec hmk.2.1
        rw [if_pos q1] at b6
        have hstt : (Jvm.Cond.static (bCe k2).2.1).before args s = true := hts _ (bGW_in (hmk.1 _ (by simp [bMw, q1])) rfl)
        have hini := hts _ (bmk_ini hmk)
        have hPS : PreS s H (bPc D cy ad oq (((st.take (bCe k2).2.2.2.2.2.1).reverse).map (bVal ad oq)) S) (((st.take (bCe k2).2.2.2.2.2.1).reverse).map (bVal ad oq)) := ⟨bPc_blind, fun U hU hW => ⟨rfl, hpre U hU hW⟩⟩
        have hstk : (F0 m pc lsR (st.map (bVal ad oq))).stack = (((st.take (bCe k2).2.2.2.2.2.1).reverse).map (bVal ad oq)).reverse ++ (st.drop (bCe k2).2.2.2.2.2.1).map (bVal ad oq) := by
          show st.map (bVal ad oq) = _
          rw [← List.map_reverse, List.reverse_reverse, ← List.map_append, List.take_append_drop]
        have hlenA : (((st.take (bCe k2).2.2.2.2.2.1).reverse).map (bVal ad oq)).length = (bCe k2).2.2.2.2.2.1 := by
          simp
          omega
        cases b2 with
        | false =>
          exact bback C0 (va_runS (own := bRN (bCe k).1) ⟨hx, hb, hml, hown, hts⟩ hM ⟨callB_of _ hts (bWS_good hmk) rfl rfl rfl hini (hts _ (bGW_in w1 rfl)) ⟨b3, b4, b6⟩ (hroom b5), hstt⟩ hPS rfl hlenA hsz hstk (by show 2 * 0 + _ ≤ 8; rw [bsum_le ho]; omega) hdg ⟨hc, hsl⟩) hL hS kk
        | true =>
          exact bback C0 (va_runSN (own := bRN (bCe k).1) (host := "PaperCutter") ⟨hx, hb, hml, hown, hts⟩ hM ⟨va_cnB _ hts (bWS_good hmk) rfl rfl rfl (hK.2.1 _ w1 rfl) hini ⟨b3, b4, b6⟩ (hroom b5), hstt, trivial⟩ hPS rfl hlenA hsz hstk (by show 2 * 0 + _ ≤ 8; rw [bsum_le ho]; omega) hdg ⟨hc, hsl⟩) hL hS kk
      · cases hs
  case invokevirtual idx =>
    have hl0 : len = 3 := by simpa [blen] using hlen
    subst hl0
    simp only [bcall] at hs
    split at hs
    · cases hs
    · rename_i k2 b2 hC
      split at hs
      · rename_i hcd
        obtain ⟨q1, qn, q2, q3, q4, q5⟩ := hcd
        split at hs
        · rename_i kk0 i0 j0 As hAs
          split at hs
          · rename_i hrec
            simp only [Option.some.injEq, Prod.mk.injEq] at hs
            obtain ⟨-, rfl, rfl, rfl⟩ := hs
            obtain ⟨w1, w2⟩ := bC_ok hC
            have hmk := bmk w2 (bC_n16 hC)
            obtain ⟨b1, b2', b3, b4, b5, b6, b7⟩ := bMb_spec hmk.2.1
            rw [if_neg (by rw [q1]; decide)] at b6
            have hini := hts _ (bmk_ini hmk)
            have hins : (Jvm.Cond.instanceMethod (bCe k2).2.1).before args s = true := hts _ (bGW_in (hmk.1 _ (by simp [bMw, q1])) rfl)
            have hsel : (Jvm.Cond.selects (bCe k2).2.1.cls (bCe k2).2.1 (bCe k2).2.1).before args s = true := by
              rcases hmk.2.2 with h | h | h
              · rw [q1] at h; cases h
              · exact absurd h qn
              · exact hts _ (List.mem_filter.mpr ⟨h, rfl⟩)
            have hne : kk0 ≠ 39 := by
              rcases hrec with ⟨-, h⟩ | ⟨h, -⟩
              · exact bbok_ne h
              · rw [h]; decide
            have hcell : ∃ cellB : Cell, H[ad kk0 i0 j0]? = some cellB ∧ cellB.vm.isStatics = false ∧ s.vm.findClass (bCe k2).2.1.cls = some cellB.cls := by
              rcases hrec with ⟨h1, h2⟩ | ⟨rfl, h2, h3, rfl⟩
              · have hat := hH.1 kk0 i0 j0 h2
                rw [bcell_o h1] at hat
                obtain ⟨r, g1, cell, g2, g3, g4, -⟩ := hat
                refine ⟨cell, g2, by rw [g4]; rfl, ?_⟩
                have hr10 : (bCe k2).1 < 10 := by
                  have := (List.getElem?_eq_some_iff.mp g1).1
                  simpa [vwCl] using this
                have hcl := (hK.1.1 _ _ (bcl _ hr10)).2.1
                rw [b1, g3]
                exact hcl
              · obtain ⟨cell, g1, g2, g3, -⟩ := (hH.2.2.2.2.1 i0 h3).1
                refine ⟨cell, g1, g2, ?_⟩
                rw [b1, h2]
                exact g3
            have hmap : ((Sum.inr (Sum.inl (kk0, i0, j0)) : bV) :: As).map (bVal ad oq) = .ref (ad kk0 i0 j0) :: As.map (bVal ad oq) := by
              rw [List.map_cons, bval_ok hne]
            rw [hmap] at hM
            have hPV : PreV s H (bCe k2).2.1.cls (ad kk0 i0 j0) (bPc D cy ad oq (.ref (ad kk0 i0 j0) :: As.map (bVal ad oq)) S) (As.map (bVal ad oq)) := ⟨bPc_blind, hcell, fun U hU hW => ⟨rfl, hpre U hU hW⟩⟩
            have htk : st.take (bCe k2).2.2.2.2.2.1 = As.reverse ++ [.inr (.inl (kk0, i0, j0))] := by
              have := congrArg List.reverse hAs
              rw [List.reverse_reverse] at this
              rw [this, List.reverse_cons]
            have hstk : (F0 m pc lsR (st.map (bVal ad oq))).stack = (As.map (bVal ad oq)).reverse ++ .ref (ad kk0 i0 j0) :: (st.drop (bCe k2).2.2.2.2.2.1).map (bVal ad oq) := by
              show st.map (bVal ad oq) = _
              conv => lhs; rw [← List.take_append_drop (bCe k2).2.2.2.2.2.1 st, htk]
              rw [List.map_append, List.map_append, List.map_cons, List.map_nil, bval_ok hne, List.map_reverse]
              simp
            have hlenA : (As.map (bVal ad oq)).length = (bCe k2).2.2.2.2.2.1 - 1 := by
              have h1 := congrArg List.length htk
              simp at h1 ⊢
              omega
            cases b2 with
            | false =>
              exact bback C0 (va_runV (own := bRN (bCe k).1) (C := (bCe k2).2.1.cls) ⟨hx, hb, hml, hown, hts⟩ hM ⟨callB_of _ hts (bWS_good hmk) rfl rfl rfl hini (hts _ (bGW_in w1 rfl)) ⟨b3, b4, b6⟩ (hroom b5), hins, hsel⟩ hPV rfl hlenA hsz hstk (by show 2 * 0 + _ ≤ 8; rw [bsum_le ho]; omega) hdg ⟨hc, hsl⟩) hL hS kk
            | true =>
              exact bback C0 (va_runVN (own := bRN (bCe k).1) (C := (bCe k2).2.1.cls) (host := "PaperCutter") ⟨hx, hb, hml, hown, hts⟩ hM ⟨va_cnB _ hts (bWS_good hmk) rfl rfl rfl (hK.2.1 _ w1 rfl) hini ⟨b3, b4, b6⟩ (hroom b5), hins, hsel⟩ hPV rfl hlenA hsz hstk (by show 2 * 0 + _ ≤ 8; rw [bsum_le ho]; omega) hdg ⟨hc, hsl⟩) hL hS kk
          · cases hs
        · cases hs
      · cases hs
  all_goals exact absurd hs (by simp [bcall])
/-- a return of an ordinary method -/
theorem bretW (C : bCx p R s m args c D cy ad oq (bA ad) k) (hr : meth.sig.returnType = (bCe k).2.2.2.2.1) (hlocks : meth.locks = false) {len : Nat} {x : Instr} (hi : ins k pc = some (x, len)) {r : Option bV} (hs : bret (bCe k).2.2.2.2.1 x (pc, ls, st, S) = some (P, r)) (hP : P) {Q : Option bV → bSt → Prop} (hQ : Q r S) (hH : bHR D cy ad oq S s H) (hS : va_S (bA ad) s.heap H locs) : W p l e R s m args below meth c H locs cells slots (MQ below (bQc D cy ad oq Q) args s cells slots (bA ad)) (F0 m pc lsR (st.map (bVal ad oq))) := by
  obtain ⟨hdg, hlen⟩ := bdec hi
  obtain ⟨hx, hb, -⟩ := C
  have key : ∀ (v : Option Value), v = r.map (bVal ad oq) → ∀ t : State, t.heap = H → s.WarmedH t.vm → bQc D cy ad oq Q args s (.returned v) t := by
    intro v hv t ht hW
    subst hv
    exact ⟨⟨r, S, rfl, hQ, by rw [ht]; exact bHR.moved hW.alike hH⟩, hS.F ht⟩
  cases x
  case ireturn =>
    have hl0 : len = 1 := by simpa [blen] using hlen
    subst hl0
    simp only [bret] at hs
    split at hs
    · rename_i v
      split at hs
      · rename_i ty hty
        simp only [Option.some.injEq, Prod.mk.injEq] at hs
        obtain ⟨rfl, rfl⟩ := hs
        exact W.zret hx hb (hr.trans hty) hP (key _ rfl) hS.2.2 hdg hlocks
      · cases hs
    · cases hs
  case areturn =>
    have hl0 : len = 1 := by simpa [blen] using hlen
    subst hl0
    simp only [bret] at hs
    split at hs
    · rename_i a
      split at hs
      · cases hs
      · rename_i h9
        have e9 : bVal ad oq (.inr (.inl a)) = .ref (ad a.1 a.2.1 a.2.2) := if_neg h9
        split at hs
        · rename_i nn hty
          simp only [Option.some.injEq, Prod.mk.injEq] at hs
          obtain ⟨rfl, rfl⟩ := hs
          rw [List.map_cons, e9]
          exact W.aret hx hb (hr.trans hty) (Or.inl ⟨_, rfl⟩) (Or.inr ⟨_, rfl⟩) (key _ (by rw [Option.map_some, e9])) hS.2.2 hdg hlocks
        · rename_i nn hty
          simp only [Option.some.injEq, Prod.mk.injEq] at hs
          obtain ⟨rfl, rfl⟩ := hs
          rw [List.map_cons, e9]
          exact W.aret hx hb (hr.trans hty) (Or.inr ⟨_, rfl⟩) (Or.inr ⟨_, rfl⟩) (key _ (by rw [Option.map_some, e9])) hS.2.2 hdg hlocks
        · cases hs
    · cases hs
  case return_ =>
    have hl0 : len = 1 := by simpa [blen] using hlen
    subst hl0
    simp only [bret] at hs
    split at hs
    · split at hs
      · rename_i hty
        simp only [Option.some.injEq, Prod.mk.injEq] at hs
        obtain ⟨rfl, rfl⟩ := hs
        exact W.vret hx hb (hr.trans hty) (key _ rfl) hS.2.2 hdg hlocks
      · cases hs
    · cases hs
  all_goals exact absurd hs (by simp [bret])
end BCALL
theorem bofW {l : Launch} {y : MethodName} {ws ws' : List Jvm.Cond} {rm : Room} {Pc : Array Value → State → Prop} {Qc : Array Value → State → Outcome → State → Prop} {mc ms : Nat} {free : Addr → Prop} {cc : ByteArray} {maxL : Nat} {ret : Option FieldType}
    (hy : plainFor y = true) (hw : ws = Jvm.Cond.code y cc maxL ret :: ws')
    (body : ∀ p e s m args below meth c s₁, BodyLoose p l y (headSpec ws rm) cc maxL ret e s m args below meth c s₁ → c.maxLocals = maxL → Pc args s →
      W p l e (headSpec ws rm).room s m args below meth c s.heap [] 0 0 (MQ below Qc args s mc ms free) (entryFrame m args maxL)) : Met l y ws rm Pc Qc mc ms free := by
  refine MetFree.of_bodySF (code := cc) (maxLocals := maxL) (ret := ret) hy ?_ ?_
  · intro args s m h hn
    obtain ⟨meth, c, h1, h2, h3, h4, h5, h6, -, -⟩ := Cond.code_spec hn (atoms_spec (ws := ws) h _ (by rw [hw]; exact List.mem_cons_self))
    exact ⟨meth, c, h1, h2, h3, h4, h5, h6⟩
  · intro p e s m args below meth c s₁ B hml hP _
    have hh0 : s₁.heap = s.heap := by rw [B.state]; rfl
    obtain ⟨t, a1, o, b1, b2, b3⟩ := body p e s m args below meth c s₁ B hml hP s₁ hh0 (Stand.of_body B)
    exact ⟨t, o, a1, b1, b2, ⟨b3.1, b3.2⟩⟩
theorem bLR_entry {ad : bAdT} {oq : Value} (ho : oq.category = 1) {as : List bV} {n : Nat} (hc : (as.map bCat).sum = as.length) (hn : as.length ≤ n) (mi : MethodId) : ∃ lsR : Array Slot, entryFrame mi (as.map (bVal ad oq)).toArray n = F0 mi 0 lsR [] ∧ bLR ad oq (as.map some ++ List.replicate (n - as.length) none) lsR n := by
  have hcat : ∀ v ∈ as, bCat v = 1 := by
    clear hn
    induction as with
    | nil => intro v hv; cases hv
    | cons a as ih =>
      have h1 : 1 ≤ bCat a := by unfold bCat; split <;> omega
      have h2 : as.length ≤ (as.map bCat).sum := by
        clear ih hc
        induction as with
        | nil => simp
        | cons b as ih2 =>
          have : 1 ≤ bCat b := by unfold bCat; split <;> omega
          simp only [List.map_cons, List.sum_cons, List.length_cons]
          omega
      simp only [List.map_cons, List.sum_cons, List.length_cons] at hc
      intro v hv
      rcases List.mem_cons.mp hv with rfl | hv
      · omega
      · exact ih (by omega) v hv
  have hsl : ∀ l : List bV, (∀ v ∈ l, bCat v = 1) → lg_sl (l.map (bVal ad oq)) = l.map (fun v => Slot.val (bVal ad oq v)) := by
    intro l hl
    induction l with
    | nil => rfl
    | cons a l ih =>
      have h1 : (bVal ad oq a).category = 1 := by rw [bcat_val ho]; exact hl a List.mem_cons_self
      have h2 := ih (fun v hv => hl v (List.mem_cons_of_mem _ hv))
      unfold lg_sl at h2 ⊢
      rw [List.map_cons, List.flatMap_cons, h2, h1]
      rfl
  have hla : ∀ (l : List bV) (i0 : Nat), (∀ v ∈ l, bCat v = 1) → ∀ (i : Nat) (v : bV), l[i]? = some v → (i0 + i, bVal ad oq v) ∈ lv_args i0 (l.map (bVal ad oq)) := by
    intro l
    induction l with
    | nil => intro i0 _ i v h; simp at h
    | cons a l ih =>
      intro i0 hl i v h
      have h1 : (bVal ad oq a).category = 1 := by rw [bcat_val ho]; exact hl a List.mem_cons_self
      simp only [List.map_cons, lv_args, h1]
      cases i with
      | zero =>
        cases h
        exact List.mem_cons_self
      | succ i =>
        refine List.mem_cons_of_mem _ ?_
        have := ih (i0 + 1) (fun v hv => hl v (List.mem_cons_of_mem _ hv)) i v (by simpa using h)
        rw [show i0 + (i + 1) = i0 + 1 + i by omega]
        exact this
  have hlen : (lg_sl (as.map (bVal ad oq))).length = as.length := by rw [hsl as hcat]; simp
  refine ⟨_, lg_entry_eq mi (as.map (bVal ad oq)) n, ?_, _, lv_entry (as.map (bVal ad oq)) (by rw [hlen]; exact hn), fun i v hv => ?_⟩
  · simp
    omega
  · by_cases hi : i < as.length
    · rw [List.getElem?_append_left (by simpa using hi)] at hv
      have hv2 : as[i]? = some v := by
        rw [List.getElem?_map] at hv
        cases ha : as[i]? with
        | none => rw [ha] at hv; cases hv
        | some w => rw [ha] at hv; cases hv; rfl
      refine ⟨hcat v (List.mem_of_getElem? hv2), ?_⟩
      have := hla as 0 hcat i v hv2
      rwa [Nat.zero_add] at this
    · rw [List.getElem?_append_right (by simpa using hi)] at hv
      have := List.mem_of_getElem? hv
      simp at this
/-- THE SOUNDNESS: what the abstract machine comes to, the machine comes to -/
theorem bsound {l : Launch} {D : va_G} {cy : Nat → ClassId} {ad : bAdT} {oq : Value} : ∀ (n d k : Nat) (f : bFr) (Q : Option bV → bSt → Prop), bwp n d k f Q → ∀ {p : Program} {e : Env} {R : Room} {s : State} {m : MethodId} {args : Array Value} {below : List Frame} {meth : Method} {c : Code} {cells slots : Nat} {Z : State → Prop} {A0 : Nat → Prop} {H0 : Heap},
    bCx p R s m args c D cy ad oq A0 k → d + 2 ≤ R.frames → 40 * (d + 3) ≤ R.locals → cells ≤ R.cells → slots ≤ R.slots →
    (∀ (x : Instr) (len pc : Nat) (ls : List (Option bV)) (st : List bV) (S : bSt) (P : Prop) (r : Option bV) (H : Heap) (locs : List Loc) (lsR : Array Slot), ins k pc = some (x, len) → bret (bCe k).2.2.2.2.1 x (pc, ls, st, S) = some (P, r) → P → Q r S → bLR ad oq ls lsR c.maxLocals → bHR D cy ad oq S s H → va_S A0 H0 H locs → W p l e R s m args below meth c H locs cells slots Z (F0 m pc lsR (st.map (bVal ad oq)))) →
    bGo p l e R s m args below meth c cells slots Z D cy ad oq A0 H0 f := by
  intro n
  induction n with
  | zero => intro d k f Q h; exact h.elim
  | succ n ih =>
    intro d k f Q h p e R s m args below meth c cells slots Z A0 H0 C hR1 hR2 hc hsl hret H locs lsR hL hH hS
    obtain ⟨pc, ls, st, S⟩ := f
    simp only [bwp] at h
    split at h
    · exact h.elim
    · rename_i x len hi
      split at h
      · rename_i P f' hs
        exact bstp C hi hs h.1 hL hH hS (ih d k f' Q h.2 C hR1 hR2 hc hsl hret)
      · split at h
        · rename_i P r hs
          exact hret x len pc ls st S P r H locs lsR hi hs h.1 h.2 hL hH hS
        · split at h
          · rename_i P k' as st' hs
            obtain ⟨hP, hd, hw⟩ := h
            refine bcallW C hi hs hd hR1 hR2 hc hsl (Q' := fun r S' => bwp n d k (pc + 3, ls, r.toList ++ st', S') Q) ?_ hL hH hS (fun r S' hq => ih d k _ Q hq C hR1 hR2 hc hsl hret)
            -- the callee's contract
            have hk' : k' < 267 ∧ (bCe k').1 ≠ 16 ∧ as.length ≤ (bCe k').2.2.2.1 ∧ (as.map bCat).sum = as.length := by
              cases x
              case invokestatic idx =>
                simp only [bcall] at hs
                split at hs
                · cases hs
                · rename_i k2 b2 hC
                  split at hs
                  · rename_i hcd
                    simp only [Option.some.injEq, Prod.mk.injEq] at hs
                    obtain ⟨-, rfl, rfl, rfl⟩ := hs
                    refine ⟨(bC_ok hC).2, bC_n16 hC, ?_, ?_⟩
                    · simp
                      omega
                    · rw [List.map_reverse, List.sum_reverse, hcd.2.2.1]
                      simp
                      omega
                  · cases hs
              case invokevirtual idx =>
                simp only [bcall] at hs
                split at hs
                · cases hs
                · rename_i k2 b2 hC
                  split at hs
                  · rename_i hcd
                    split at hs
                    · rename_i kk0 i0 j0 As hAs
                      split at hs
                      · simp only [Option.some.injEq, Prod.mk.injEq] at hs
                        obtain ⟨-, rfl, rfl, rfl⟩ := hs
                        rw [← hAs]
                        refine ⟨(bC_ok hC).2, bC_n16 hC, ?_, ?_⟩
                        · simp
                          omega
                        · rw [List.map_reverse, List.sum_reverse, hcd.2.2.2.1]
                          simp
                          omega
                      · cases hs
                    · cases hs
                  · cases hs
              all_goals exact absurd hs (by simp [bcall])
            obtain ⟨g1, g2, g3, g4⟩ := hk'
            have hmk := bmk g1 g2
            obtain ⟨b1, b2', b3, b4, b5, b6, b7⟩ := bMb_spec hmk.2.1
            have hinj := C.2.2.2.2.2.2.1
            have ho := C.2.2.2.2.2.2.2.2.1
            refine bofW (cc := (bCe k').2.2.1) (maxL := (bCe k').2.2.2.1) (ret := (bCe k').2.2.2.2.1) b2' rfl ?_
            intro p2 e2 s2 m2 args2 below2 meth2 c2 s₁ B hml hv
            obtain ⟨rfl, hH2, hK2⟩ := hv
            obtain ⟨lsR2, he, hL2⟩ := bLR_entry (ad := ad) ho g4 g3 m2
            rw [he]
            have hts := atoms_spec (ws := bWS k') B.pre
            have hcls : s2.vm.findClass (bRN (bCe k').1) = some m2.cls := by
              rw [← b1]
              exact findClass_of_methodNamed B.named
            have C2 : bCx p2 (bRm (d - 1)) s2 m2 (as.map (bVal ad oq)).toArray c2 D cy ad oq (bA ad) k' := ⟨B.exec, B.bytes, hml, hcls, fun w hw => hts w (List.mem_cons_of_mem _ hw), hK2, hinj, fun _ h => h, ho, by show 1 ≤ d - 1 + 2; omega, by show 100 ≤ 40 * (d - 1 + 3); omega⟩
            have hgo := ih (d - 1) k' (bent k' as S) _ hw (Z := MQ below2 (bQc D cy ad oq (fun r S' => bwp n d k (pc + 3, ls, r.toList ++ st', S') Q)) (as.map (bVal ad oq)).toArray s2 0 0 (bA ad)) (below := below2) (meth := meth2) (e := e2) (cells := 0) (slots := 0) (H0 := s2.heap) C2 (Nat.le_refl _) (Nat.le_refl _) (Nat.zero_le _) (Nat.zero_le _)
              (fun x len pc ls st S P r H locs lsR hi hs hP hQ _ hH hS => bretW C2 B.returns B.notSynchronized hi hs hP hQ hH hS)
            exact hgo s2.heap [] lsR2 (by rw [hml]; exact hL2) hH2 va_S.rf
          · exact h.elim
end
section
/-! WHAT A METHOD COMES TO, without fuel: Wp from a frame, Wm from a method's entry; and the equations that unfold them -/
theorem bwp_mono {n d k : Nat} {f : bFr} {Q Q' : Option bV → bSt → Prop} (h : bwp n d k f Q) (hq : ∀ r S, Q r S → Q' r S) : bwp n d k f Q' := by
  induction n generalizing d k f Q Q' with
  | zero => exact h.elim
  | succ n ih =>
    simp only [bwp] at h ⊢
    split at h
    · exact h.elim
    · split at h
      · exact ⟨h.1, ih h.2 hq⟩
      · split at h
        · exact ⟨h.1, hq _ _ h.2⟩
        · split at h
          · exact ⟨h.1, h.2.1, ih h.2.2 (fun r S hr => ih hr hq)⟩
          · exact h.elim
theorem bwp_succ {n d k : Nat} {f : bFr} {Q : Option bV → bSt → Prop} (h : bwp n d k f Q) : bwp (n + 1) d k f Q := by
  induction n generalizing d k f Q with
  | zero => exact h.elim
  | succ n ih =>
    rw [bwp] at h ⊢
    split at h
    · exact h.elim
    · split at h
      · exact ⟨h.1, ih h.2⟩
      · split at h
        · exact h
        · split at h
          · exact ⟨h.1, h.2.1, ih (bwp_mono h.2.2 (fun r S hr => ih hr))⟩
          · exact h.elim
theorem bwp_le {n n' d k : Nat} {f : bFr} {Q : Option bV → bSt → Prop} (hn : n ≤ n') (h : bwp n d k f Q) : bwp n' d k f Q := by
  induction hn with
  | refl => exact h
  | step _ ih => exact bwp_succ ih
theorem bwp_det {n d k : Nat} {f : bFr} {Q : Option bV → bSt → Prop} (h : bwp n d k f Q) : ∃ r S, Q r S ∧ ∀ Q' : Option bV → bSt → Prop, Q' r S → bwp n d k f Q' := by
  induction n generalizing d k f Q with
  | zero => exact h.elim
  | succ n ih =>
    rw [bwp] at h
    split at h
    · exact h.elim
    · rename_i x len hi
      split at h
      · rename_i P f' hs
        obtain ⟨r, S, h1, h2⟩ := ih h.2
        refine ⟨r, S, h1, fun Q' hq => ?_⟩
        rw [bwp]
        simp only [hi, hs]
        exact ⟨h.1, h2 Q' hq⟩
      · rename_i hs
        split at h
        · rename_i P r hr
          refine ⟨r, _, h.2, fun Q' hq => ?_⟩
          rw [bwp]
          simp only [hi, hs, hr]
          exact ⟨h.1, hq⟩
        · rename_i hr
          split at h
          · rename_i P k' as st' hc
            obtain ⟨r1, S1, h1, h2⟩ := ih h.2.2
            obtain ⟨r, S, h3, h4⟩ := ih h1
            refine ⟨r, S, h3, fun Q' hq => ?_⟩
            rw [bwp]
            simp only [hi, hs, hr, hc]
            exact ⟨h.1, h.2.1, h2 _ (h4 Q' hq)⟩
          · exact h.elim
/-- from a frame -/
def Wp (d k pc : Nat) (ls : List (Option bV)) (st : List bV) (S : bSt) (Q : Option bV → bSt → Prop) : Prop := ∃ n, bwp n d k (pc, ls, st, S) Q
/-- from a method's entry -/
def Wm (d k : Nat) (as : List bV) (S : bSt) (Q : Option bV → bSt → Prop) : Prop := ∃ n, bwp n d k (bent k as S) Q
/-- a method's answer, and the memory behind it -/
def Ret (d k : Nat) (as : List bV) (S : bSt) (r : Option bV) (S' : bSt) : Prop := Wm d k as S (fun r1 S1 => r1 = r ∧ S1 = S')
theorem Wp_step {d k pc len : Nat} {ls ls' : List (Option bV)} {st st' : List bV} {S S' : bSt} {Q : Option bV → bSt → Prop} {x : Instr} {P : Prop} {pc' : Nat} (hi : ins k pc = some (x, len)) (hs : stp (bCe k).1 x (pc, ls, st, S) = some (P, pc', ls', st', S')) (hP : P) : Wp d k pc ls st S Q ↔ Wp d k pc' ls' st' S' Q := by
  constructor
  · rintro ⟨n, h⟩
    cases n with
    | zero => exact h.elim
    | succ n =>
      rw [bwp] at h
      simp only [hi, hs] at h
      exact ⟨n, h.2⟩
  · rintro ⟨n, h⟩
    refine ⟨n + 1, ?_⟩
    rw [bwp]
    simp only [hi, hs]
    exact ⟨hP, h⟩
theorem Wp_ret {d k pc len : Nat} {ls : List (Option bV)} {st : List bV} {S : bSt} {Q : Option bV → bSt → Prop} {x : Instr} {P : Prop} {r : Option bV} (hi : ins k pc = some (x, len)) (hs : stp (bCe k).1 x (pc, ls, st, S) = none) (hr : bret (bCe k).2.2.2.2.1 x (pc, ls, st, S) = some (P, r)) (hP : P) : Wp d k pc ls st S Q ↔ Q r S := by
  constructor
  · rintro ⟨n, h⟩
    cases n with
    | zero => exact h.elim
    | succ n =>
      rw [bwp] at h
      simp only [hi, hs, hr] at h
      exact h.2
  · intro h
    refine ⟨1, ?_⟩
    rw [bwp]
    simp only [hi, hs, hr]
    exact ⟨hP, h⟩
theorem Wp_call {d k pc len : Nat} {ls : List (Option bV)} {st st' : List bV} {S : bSt} {Q : Option bV → bSt → Prop} {x : Instr} {P : Prop} {k' : Nat} {as : List bV} (hd : 0 < d) (hi : ins k pc = some (x, len)) (hs : stp (bCe k).1 x (pc, ls, st, S) = none) (hr : bret (bCe k).2.2.2.2.1 x (pc, ls, st, S) = none) (hc : bcall (bCe k).1 x (pc, ls, st, S) = some (P, k', as, st')) (hP : P) : Wp d k pc ls st S Q ↔ Wm (d - 1) k' as S (fun r S' => Wp d k (pc + 3) ls (r.toList ++ st') S' Q) := by
  constructor
  · rintro ⟨n, h⟩
    cases n with
    | zero => exact h.elim
    | succ n =>
      rw [bwp] at h
      simp only [hi, hs, hr, hc] at h
      exact ⟨n, bwp_mono h.2.2 (fun r S hr => ⟨n, hr⟩)⟩
  · rintro ⟨n, h⟩
    obtain ⟨r, S1, ⟨n2, h1⟩, h2⟩ := bwp_det h
    refine ⟨max n n2 + 1, ?_⟩
    rw [bwp]
    simp only [hi, hs, hr, hc]
    exact ⟨hP, hd, bwp_le (Nat.le_max_left _ _) (h2 _ (bwp_le (Nat.le_max_right _ _) h1))⟩
theorem Wm_iff {d k : Nat} {as : List bV} {S S' : bSt} {r : Option bV} (h : Ret d k as S r S') (Q : Option bV → bSt → Prop) : Wm d k as S Q ↔ Q r S' := by
  obtain ⟨n, h⟩ := h
  obtain ⟨r1, S1, ⟨h1, h2⟩, h3⟩ := bwp_det h
  subst h1; subst h2
  constructor
  · rintro ⟨n2, g⟩
    obtain ⟨r2, S2, g1, g2⟩ := bwp_det g
    have a := bwp_le (Nat.le_max_left n n2) (h3 (fun r S => r = r1 ∧ S = S1) ⟨rfl, rfl⟩)
    have b := bwp_le (Nat.le_max_right n n2) (g2 (fun r S => r = r2 ∧ S = S2) ⟨rfl, rfl⟩)
    obtain ⟨r3, S3, ⟨e1, e2⟩, a3⟩ := bwp_det a
    obtain ⟨r4, S4, ⟨e3, e4⟩, b3⟩ := bwp_det b
    subst e1; subst e2; subst e3; subst e4
    -- both answers are the machine's
    have key : ∀ (n d k : Nat) (f : bFr) (ra rb : Option bV) (Sa Sb : bSt), bwp n d k f (fun r S => r = ra ∧ S = Sa) → bwp n d k f (fun r S => r = rb ∧ S = Sb) → ra = rb ∧ Sa = Sb := by
      intro n
      induction n with
      | zero => intro d k f ra rb Sa Sb h; exact h.elim
      | succ n ih =>
        intro d k f ra rb Sa Sb ha hb
        rw [bwp] at ha hb
        split at ha
        · exact ha.elim
        · rename_i x len hi
          simp only [hi] at hb
          split at ha
          · rename_i P f' hs
            simp only [hs] at hb
            exact ih _ _ _ _ _ _ _ ha.2 hb.2
          · rename_i hs
            simp only [hs] at hb
            split at ha
            · rename_i P r hr
              simp only [hr] at hb
              exact ⟨ha.2.1.symm.trans hb.2.1, ha.2.2.symm.trans hb.2.2⟩
            · rename_i hr
              simp only [hr] at hb
              split at ha
              · rename_i P k' as st' hc
                simp only [hc] at hb
                obtain ⟨ra1, Sa1, qa, ca⟩ := bwp_det ha.2.2
                obtain ⟨rb1, Sb1, qb, cb⟩ := bwp_det hb.2.2
                obtain ⟨z1, z2⟩ := ih _ _ _ _ _ _ _ (ca (fun r S => r = ra1 ∧ S = Sa1) ⟨rfl, rfl⟩) (cb (fun r S => r = rb1 ∧ S = Sb1) ⟨rfl, rfl⟩)
                subst z1; subst z2
                exact ih _ _ _ _ _ _ _ qa qb
              · exact ha.elim
    obtain ⟨z1, z2⟩ := key _ _ _ _ _ _ _ _ a b
    subst z1; subst z2
    exact g1
  · intro g
    exact ⟨n, h3 Q g⟩
theorem Ret_intro {d k : Nat} {as : List bV} {S S' : bSt} {r : Option bV} (h : Wm d k as S (fun r1 S1 => r1 = r ∧ S1 = S')) : Ret d k as S r S' := h
theorem Wm_entry {d k : Nat} {as : List bV} {S : bSt} {Q : Option bV → bSt → Prop} {ls : List (Option bV)} (h : as.map some ++ List.replicate ((bCe k).2.2.2.1 - as.length) none = ls) : Wm d k as S Q ↔ Wp d k 0 ls [] S Q := by
  subst h
  exact Iff.rfl
/-- a method with a smaller depth does with a greater one -/
theorem bwp_deep {n d d' k : Nat} {f : bFr} {Q : Option bV → bSt → Prop} (hd : d ≤ d') (h : bwp n d k f Q) : bwp n d' k f Q := by
  induction n generalizing d d' k f Q with
  | zero => exact h.elim
  | succ n ih =>
    rw [bwp] at h ⊢
    split at h
    · exact h.elim
    · split at h
      · exact ⟨h.1, ih hd h.2⟩
      · split at h
        · exact h
        · split at h
          · exact ⟨h.1, by omega, bwp_mono (ih (by omega) h.2.2) (fun r S hr => ih hd hr)⟩
          · exact h.elim
theorem Ret_deep {d d' k : Nat} {as : List bV} {S S' : bSt} {r : Option bV} (hd : d ≤ d') (h : Ret d k as S r S') : Ret d' k as S r S' := by
  obtain ⟨n, h⟩ := h
  exact ⟨n, bwp_deep hd h⟩
end
section
/-! ONE INSTRUCTION, as an equation of Wp -/
section WROW
variable {d k pc : Nat} {ls ls' : List (Option bV)} {st st' : List bV} {S S' : bSt} {Q : Option bV → bSt → Prop} {x y : Int32} {v w : bV} {n n' i0 j0 k0 : Nat}
theorem nI_vp {len : Nat} (h : n < len) (hl : len < 2 ^ 31) : vp_in (nI n) len := nI_in h hl
theorem bLen_lt : ∀ k0 : Nat, bLen k0 < 2 ^ 31 := by
  intro k0
  unfold bLen
  cases h : kArr k0 with
  | none => decide
  | some q =>
    unfold kArr at h
    split at h <;> first | (cases h; done) | (cases h; decide)
theorem w_iconst {c : Int} (hi : ins k pc = some (.iconst c, 1)) (hv : Int32.ofInt c = x) : Wp d k pc ls st S Q ↔ Wp d k (pc + 1) ls (vI x :: st) S Q := by
  subst hv
  exact Wp_step hi rfl trivial
theorem w_bipush {c : Int} (hi : ins k pc = some (.bipush c, 2)) (hv : (Int8.ofInt c).toInt32 = x) : Wp d k pc ls st S Q ↔ Wp d k (pc + 2) ls (vI x :: st) S Q := by
  subst hv
  exact Wp_step hi rfl trivial
theorem w_sipush {c : Int} (hi : ins k pc = some (.sipush c, 3)) (hv : (Int16.ofInt c).toInt32 = x) : Wp d k pc ls st S Q ↔ Wp d k (pc + 3) ls (vI x :: st) S Q := by
  subst hv
  exact Wp_step hi rfl trivial
theorem w_iload_n {c : Fin 4} (hi : ins k pc = some (.iload_n c, 1)) (hl : ls[(c : Nat)]? = some (some (vI x))) : Wp d k pc ls st S Q ↔ Wp d k (pc + 1) ls (vI x :: st) S Q :=
  Wp_step (P := True) hi (by simp [stp, bLd, hl]) trivial
theorem w_iload (hi : ins k pc = some (.iload n, 2)) (hl : ls[n]? = some (some (vI x))) : Wp d k pc ls st S Q ↔ Wp d k (pc + 2) ls (vI x :: st) S Q :=
  Wp_step (P := True) hi (by simp [stp, bLd, hl]) trivial
theorem w_aload_n {c : Fin 4} (hi : ins k pc = some (.aload_n c, 1)) (hl : ls[(c : Nat)]? = some (some (vR k0 i0 j0))) (h9 : k0 ≠ 39) : Wp d k pc ls st S Q ↔ Wp d k (pc + 1) ls (vR k0 i0 j0 :: st) S Q :=
  Wp_step (P := True) hi (by simp [stp, bLd, hl, h9]) trivial
theorem w_aload (hi : ins k pc = some (.aload n, 2)) (hl : ls[n]? = some (some (vR k0 i0 j0))) (h9 : k0 ≠ 39) : Wp d k pc ls st S Q ↔ Wp d k (pc + 2) ls (vR k0 i0 j0 :: st) S Q :=
  Wp_step (P := True) hi (by simp [stp, bLd, hl, h9]) trivial
theorem w_istore_n {c : Fin 4} (hi : ins k pc = some (.istore_n c, 1)) (hn : (c : Nat) < ls.length) (hs : ls.set (c : Nat) (some (vI x)) = ls') : Wp d k pc ls (vI x :: st) S Q ↔ Wp d k (pc + 1) ls' st S Q := by
  subst hs
  exact Wp_step (P := True) hi (by simp [stp, bSv, hn]) trivial
theorem w_istore (hi : ins k pc = some (.istore n, 2)) (hn : n < ls.length) (hs : ls.set n (some (vI x)) = ls') : Wp d k pc ls (vI x :: st) S Q ↔ Wp d k (pc + 2) ls' st S Q := by
  subst hs
  exact Wp_step (P := True) hi (by simp [stp, bSv, hn]) trivial
theorem w_astore_n {c : Fin 4} (hi : ins k pc = some (.astore_n c, 1)) (h9 : k0 ≠ 39) (hn : (c : Nat) < ls.length) (hs : ls.set (c : Nat) (some (vR k0 i0 j0)) = ls') : Wp d k pc ls (vR k0 i0 j0 :: st) S Q ↔ Wp d k (pc + 1) ls' st S Q := by
  subst hs
  exact Wp_step (P := True) hi (by simp [stp, bSv, hn, h9]) trivial
theorem w_astore (hi : ins k pc = some (.astore n, 2)) (h9 : k0 ≠ 39) (hn : n < ls.length) (hs : ls.set n (some (vR k0 i0 j0)) = ls') : Wp d k pc ls (vR k0 i0 j0 :: st) S Q ↔ Wp d k (pc + 2) ls' st S Q := by
  subst hs
  exact Wp_step (P := True) hi (by simp [stp, bSv, hn, h9]) trivial
theorem w_iinc {c : Int} (hi : ins k pc = some (.iinc n c, 3)) (hl : ls[n]? = some (some (vI x))) (hc : Int32.ofInt c = y) (hs : ls.set n (some (vI (x + y))) = ls') : Wp d k pc ls st S Q ↔ Wp d k (pc + 3) ls' st S Q := by
  subst hs; subst hc
  exact Wp_step (P := True) hi (by simp [stp, hl]) trivial
theorem w_iadd (hi : ins k pc = some (.iadd, 1)) : Wp d k pc ls (vI y :: vI x :: st) S Q ↔ Wp d k (pc + 1) ls (vI (x + y) :: st) S Q := Wp_step hi rfl trivial
theorem w_isub (hi : ins k pc = some (.isub, 1)) : Wp d k pc ls (vI y :: vI x :: st) S Q ↔ Wp d k (pc + 1) ls (vI (x - y) :: st) S Q := Wp_step hi rfl trivial
theorem w_imul (hi : ins k pc = some (.imul, 1)) : Wp d k pc ls (vI y :: vI x :: st) S Q ↔ Wp d k (pc + 1) ls (vI (x * y) :: st) S Q := Wp_step hi rfl trivial
theorem w_iand (hi : ins k pc = some (.iand, 1)) : Wp d k pc ls (vI y :: vI x :: st) S Q ↔ Wp d k (pc + 1) ls (vI (x &&& y) :: st) S Q := Wp_step hi rfl trivial
theorem w_ior (hi : ins k pc = some (.ior, 1)) : Wp d k pc ls (vI y :: vI x :: st) S Q ↔ Wp d k (pc + 1) ls (vI (x ||| y) :: st) S Q := Wp_step hi rfl trivial
theorem w_ixor (hi : ins k pc = some (.ixor, 1)) : Wp d k pc ls (vI y :: vI x :: st) S Q ↔ Wp d k (pc + 1) ls (vI (x ^^^ y) :: st) S Q := Wp_step hi rfl trivial
theorem w_ishl (hi : ins k pc = some (.ishl, 1)) : Wp d k pc ls (vI y :: vI x :: st) S Q ↔ Wp d k (pc + 1) ls (vI (x <<< (y &&& 31)) :: st) S Q := Wp_step hi rfl trivial
theorem w_ishr (hi : ins k pc = some (.ishr, 1)) : Wp d k pc ls (vI y :: vI x :: st) S Q ↔ Wp d k (pc + 1) ls (vI (x >>> (y &&& 31)) :: st) S Q := Wp_step hi rfl trivial
theorem w_idiv (hi : ins k pc = some (.idiv, 1)) (h0 : ¬ y = 0) : Wp d k pc ls (vI y :: vI x :: st) S Q ↔ Wp d k (pc + 1) ls (vI (x / y) :: st) S Q := Wp_step hi rfl h0
theorem w_irem (hi : ins k pc = some (.irem, 1)) (h0 : ¬ y = 0) : Wp d k pc ls (vI y :: vI x :: st) S Q ↔ Wp d k (pc + 1) ls (vI (x - x / y * y) :: st) S Q := Wp_step hi rfl h0
theorem w_i2c (hi : ins k pc = some (.i2c, 1)) : Wp d k pc ls (vI x :: st) S Q ↔ Wp d k (pc + 1) ls (vI (x.toUInt32 % 65536).toInt32 :: st) S Q := Wp_step hi rfl trivial
theorem w_i2l (hi : ins k pc = some (.i2l, 1)) : Wp d k pc ls (vI x :: st) S Q ↔ Wp d k (pc + 1) ls (vL x.toInt64 :: st) S Q := Wp_step hi rfl trivial
theorem w_lmul {a b : Int64} (hi : ins k pc = some (.lmul, 1)) : Wp d k pc ls (vL b :: vL a :: st) S Q ↔ Wp d k (pc + 1) ls (vL (a * b) :: st) S Q := Wp_step hi rfl trivial
theorem w_lcmp {a b : Int64} (hi : ins k pc = some (.lcmp, 1)) : Wp d k pc ls (vL b :: vL a :: st) S Q ↔ Wp d k (pc + 1) ls (vI (lg_cmp a b) :: st) S Q := Wp_step hi rfl trivial
theorem w_dup (hi : ins k pc = some (.dup, 1)) (hc : bCat v = 1) : Wp d k pc ls (v :: st) S Q ↔ Wp d k (pc + 1) ls (v :: v :: st) S Q :=
  Wp_step (P := True) hi (by simp [stp, hc]) trivial
theorem w_dup2 (hi : ins k pc = some (.dup2, 1)) (hc : bCat v = 1) (hw : bCat w = 1) : Wp d k pc ls (v :: w :: st) S Q ↔ Wp d k (pc + 1) ls (v :: w :: v :: w :: st) S Q :=
  Wp_step (P := True) hi (by simp [stp, hc, hw]) trivial
theorem w_pop (hi : ins k pc = some (.pop, 1)) (hc : bCat v = 1) : Wp d k pc ls (v :: st) S Q ↔ Wp d k (pc + 1) ls st S Q :=
  Wp_step (P := True) hi (by simp [stp, hc]) trivial
theorem w_goto {off : Int} {t : Nat} (hi : ins k pc = some (.goto off, 3)) (ht : (pc : Int) + off = (t : Nat)) : Wp d k pc ls st S Q ↔ Wp d k t ls st S Q := by
  have e : bTg pc off = t := by unfold bTg; rw [ht]; rfl
  rw [← e]
  exact Wp_step hi rfl (by rw [ht]; omega)
theorem w_ite {c : Prop} [Decidable c] {b : Bool} {t f : Nat} (hb : b = decide c) : Wp d k (if b = true then t else f) ls st S Q ↔ if c then Wp d k t ls st S Q else Wp d k f ls st S Q := by
  subst hb
  by_cases h : c
  · rw [if_pos h, if_pos (decide_eq_true h)]
  · rw [if_neg h, if_neg (by simp [h])]
theorem w_ifeq {off : Int} {t : Nat} (hi : ins k pc = some (.ifCond .eq off, 3)) (ht : (pc : Int) + off = (t : Nat)) : Wp d k pc ls (vI x :: st) S Q ↔ if x = 0 then Wp d k t ls st S Q else Wp d k (pc + 3) ls st S Q := by
  have e : bTg pc off = t := by unfold bTg; rw [ht]; rfl
  rw [← e, Wp_step hi rfl (by rw [ht]; omega)]
  exact w_ite rfl
theorem w_ifne {off : Int} {t : Nat} (hi : ins k pc = some (.ifCond .ne off, 3)) (ht : (pc : Int) + off = (t : Nat)) : Wp d k pc ls (vI x :: st) S Q ↔ if x = 0 then Wp d k (pc + 3) ls st S Q else Wp d k t ls st S Q := by
  have e : bTg pc off = t := by unfold bTg; rw [ht]; rfl
  rw [← e, Wp_step hi rfl (by rw [ht]; omega)]
  by_cases h : x = 0 <;> simp [bH, h]
theorem w_iflt {off : Int} {t : Nat} (hi : ins k pc = some (.ifCond .lt off, 3)) (ht : (pc : Int) + off = (t : Nat)) : Wp d k pc ls (vI x :: st) S Q ↔ if x < 0 then Wp d k t ls st S Q else Wp d k (pc + 3) ls st S Q := by
  have e : bTg pc off = t := by unfold bTg; rw [ht]; rfl
  rw [← e, Wp_step hi rfl (by rw [ht]; omega)]
  exact w_ite rfl
theorem w_ifge {off : Int} {t : Nat} (hi : ins k pc = some (.ifCond .ge off, 3)) (ht : (pc : Int) + off = (t : Nat)) : Wp d k pc ls (vI x :: st) S Q ↔ if 0 ≤ x then Wp d k t ls st S Q else Wp d k (pc + 3) ls st S Q := by
  have e : bTg pc off = t := by unfold bTg; rw [ht]; rfl
  rw [← e, Wp_step hi rfl (by rw [ht]; omega)]
  exact w_ite rfl
theorem w_ifgt {off : Int} {t : Nat} (hi : ins k pc = some (.ifCond .gt off, 3)) (ht : (pc : Int) + off = (t : Nat)) : Wp d k pc ls (vI x :: st) S Q ↔ if 0 < x then Wp d k t ls st S Q else Wp d k (pc + 3) ls st S Q := by
  have e : bTg pc off = t := by unfold bTg; rw [ht]; rfl
  rw [← e, Wp_step hi rfl (by rw [ht]; omega)]
  exact w_ite rfl
theorem w_ifle {off : Int} {t : Nat} (hi : ins k pc = some (.ifCond .le off, 3)) (ht : (pc : Int) + off = (t : Nat)) : Wp d k pc ls (vI x :: st) S Q ↔ if x ≤ 0 then Wp d k t ls st S Q else Wp d k (pc + 3) ls st S Q := by
  have e : bTg pc off = t := by unfold bTg; rw [ht]; rfl
  rw [← e, Wp_step hi rfl (by rw [ht]; omega)]
  exact w_ite rfl
theorem w_icmpeq {off : Int} {t : Nat} (hi : ins k pc = some (.if_icmp .eq off, 3)) (ht : (pc : Int) + off = (t : Nat)) : Wp d k pc ls (vI y :: vI x :: st) S Q ↔ if x = y then Wp d k t ls st S Q else Wp d k (pc + 3) ls st S Q := by
  have e : bTg pc off = t := by unfold bTg; rw [ht]; rfl
  rw [← e, Wp_step hi rfl (by rw [ht]; omega)]
  exact w_ite rfl
theorem w_icmpne {off : Int} {t : Nat} (hi : ins k pc = some (.if_icmp .ne off, 3)) (ht : (pc : Int) + off = (t : Nat)) : Wp d k pc ls (vI y :: vI x :: st) S Q ↔ if x = y then Wp d k (pc + 3) ls st S Q else Wp d k t ls st S Q := by
  have e : bTg pc off = t := by unfold bTg; rw [ht]; rfl
  rw [← e, Wp_step hi rfl (by rw [ht]; omega)]
  by_cases h : x = y <;> simp [bH, h]
theorem w_icmplt {off : Int} {t : Nat} (hi : ins k pc = some (.if_icmp .lt off, 3)) (ht : (pc : Int) + off = (t : Nat)) : Wp d k pc ls (vI y :: vI x :: st) S Q ↔ if x < y then Wp d k t ls st S Q else Wp d k (pc + 3) ls st S Q := by
  have e : bTg pc off = t := by unfold bTg; rw [ht]; rfl
  rw [← e, Wp_step hi rfl (by rw [ht]; omega)]
  exact w_ite rfl
theorem w_icmpge {off : Int} {t : Nat} (hi : ins k pc = some (.if_icmp .ge off, 3)) (ht : (pc : Int) + off = (t : Nat)) : Wp d k pc ls (vI y :: vI x :: st) S Q ↔ if y ≤ x then Wp d k t ls st S Q else Wp d k (pc + 3) ls st S Q := by
  have e : bTg pc off = t := by unfold bTg; rw [ht]; rfl
  rw [← e, Wp_step hi rfl (by rw [ht]; omega)]
  exact w_ite rfl
theorem w_icmpgt {off : Int} {t : Nat} (hi : ins k pc = some (.if_icmp .gt off, 3)) (ht : (pc : Int) + off = (t : Nat)) : Wp d k pc ls (vI y :: vI x :: st) S Q ↔ if y < x then Wp d k t ls st S Q else Wp d k (pc + 3) ls st S Q := by
  have e : bTg pc off = t := by unfold bTg; rw [ht]; rfl
  rw [← e, Wp_step hi rfl (by rw [ht]; omega)]
  exact w_ite rfl
theorem w_icmple {off : Int} {t : Nat} (hi : ins k pc = some (.if_icmp .le off, 3)) (ht : (pc : Int) + off = (t : Nat)) : Wp d k pc ls (vI y :: vI x :: st) S Q ↔ if x ≤ y then Wp d k t ls st S Q else Wp d k (pc + 3) ls st S Q := by
  have e : bTg pc off = t := by unfold bTg; rw [ht]; rfl
  rw [← e, Wp_step hi rfl (by rw [ht]; omega)]
  exact w_ite rfl
/-- a switch: inside by the place of the offset, outside the default -/
theorem w_switch_in {dd lo hh : Int} {offs : Array Int} {len t m : Nat} (hi : ins k pc = some (.tableswitch dd lo hh offs, len)) (h1 : ¬ x.toInt < lo) (h2 : ¬ hh < x.toInt) (hm : (x.toInt - lo).toNat = m) (h3 : m < offs.size) (ht : (pc : Int) + offs.getD m 0 = (t : Nat)) : Wp d k pc ls (vI x :: st) S Q ↔ Wp d k t ls st S Q := by
  subst hm
  have e : bTg pc (offs.getD (x.toInt - lo).toNat 0) = t := by unfold bTg; rw [ht]; rfl
  have := Wp_step (d := d) (ls := ls) (S := S) (Q := Q) (st := vI x :: st) hi rfl ⟨fun h => (h.elim h1 h2).elim, fun _ _ => ⟨h3, by rw [ht]; omega⟩⟩
  rw [this, if_neg (fun h => h.elim h1 h2), e]
theorem w_switch_out {dd lo hh : Int} {offs : Array Int} {len t : Nat} (hi : ins k pc = some (.tableswitch dd lo hh offs, len)) (h : x.toInt < lo ∨ hh < x.toInt) (ht : (pc : Int) + dd = (t : Nat)) : Wp d k pc ls (vI x :: st) S Q ↔ Wp d k t ls st S Q := by
  have e : bTg pc dd = t := by unfold bTg; rw [ht]; rfl
  have := Wp_step (d := d) (ls := ls) (S := S) (Q := Q) (st := vI x :: st) hi rfl ⟨fun _ => by rw [ht]; omega, fun h1 h2 => (h.elim h1 h2).elim⟩
  rw [this, if_pos h, e]
theorem w_geti {own idx ci f : Nat} {b : Bool} (hi : ins k pc = some (.getfield idx, 3)) (ho : (bCe k).1 = own) (h10 : own ≠ 10) (hf : bF own idx = some (ci, f, b)) (hk : kObj k0 = some ci) (hr : fRef k0 i0 j0 f = none) (hok : bok k0 i0 j0 = true) : Wp d k pc ls (vR k0 i0 j0 :: st) S Q ↔ Wp d k (pc + 3) ls (vI (S k0 i0 j0 f) :: st) S Q := by
  subst ho
  exact Wp_step (P := bok k0 i0 j0 = true) hi (by simp [stp, h10, hf, hk, hr]) hok
theorem w_geta {own idx ci f k1 i1 j1 : Nat} {b : Bool} (hi : ins k pc = some (.getfield idx, 3)) (ho : (bCe k).1 = own) (h10 : own ≠ 10) (hf : bF own idx = some (ci, f, b)) (hk : kObj k0 = some ci) (hr : fRef k0 i0 j0 f = some (k1, i1, j1)) (hok : bok k0 i0 j0 = true) : Wp d k pc ls (vR k0 i0 j0 :: st) S Q ↔ Wp d k (pc + 3) ls (vR k1 i1 j1 :: st) S Q := by
  subst ho
  exact Wp_step (P := bok k0 i0 j0 = true) hi (by simp [stp, h10, hf, hk, hr]) hok
theorem w_putf {own idx ci f : Nat} {b : Bool} (hi : ins k pc = some (.putfield idx, 3)) (ho : (bCe k).1 = own) (hf : bF own idx = some (ci, f, b)) (hk : kObj k0 = some ci) (hr : fRef k0 i0 j0 f = none) (hw : bFw ci f = 1) (hok : bok k0 i0 j0 = true) : Wp d k pc ls (vI x :: vR k0 i0 j0 :: st) S Q ↔ Wp d k (pc + 3) ls st (sUp S k0 i0 j0 f x) Q := by
  subst ho
  exact Wp_step (P := bok k0 i0 j0 = true ∧ (bFw ci f = 2 → x = 0 ∨ x = 1)) hi (by simp [stp, hf, hk, hr, hw]) ⟨hok, fun h => by rw [hw] at h; cases h⟩
theorem w_putz {own idx ci f : Nat} {b : Bool} (hi : ins k pc = some (.putfield idx, 3)) (ho : (bCe k).1 = own) (hf : bF own idx = some (ci, f, b)) (hk : kObj k0 = some ci) (hr : fRef k0 i0 j0 f = none) (hw : bFw ci f = 2) (hok : bok k0 i0 j0 = true) (hx : x = 0 ∨ x = 1) : Wp d k pc ls (vI x :: vR k0 i0 j0 :: st) S Q ↔ Wp d k (pc + 3) ls st (sUp S k0 i0 j0 f x) Q := by
  subst ho
  exact Wp_step (P := bok k0 i0 j0 = true ∧ (bFw ci f = 2 → x = 0 ∨ x = 1)) hi (by simp [stp, hf, hk, hr, hw]) ⟨hok, fun _ => hx⟩
theorem w_iald (hi : ins k pc = some (.iaload, 1)) (ha : bArr k0 0 = true) (hok : bok k0 i0 j0 = true) (hx : x = nI n) (hn : n < bLen k0) : Wp d k pc ls (vI x :: vR k0 i0 j0 :: st) S Q ↔ Wp d k (pc + 1) ls (vI (S k0 i0 j0 n) :: st) S Q := by
  subst hx
  have hl := bLen_lt k0
  have := Wp_step (d := d) (ls := ls) (S := S) (Q := Q) (P := bok k0 i0 j0 = true ∧ vp_in (nI n) (bLen k0)) (st := vI (nI n) :: vR k0 i0 j0 :: st) hi (by simp [stp, bXld, ha]; exact ⟨rfl, rfl, rfl, rfl⟩) ⟨hok, nI_vp hn hl⟩
  rw [nI_clamp (by omega)] at this
  exact this
theorem w_cald (hi : ins k pc = some (.caload, 1)) (ha : bArr k0 1 = true) (hok : bok k0 i0 j0 = true) (hx : x = nI n) (hn : n < bLen k0) : Wp d k pc ls (vI x :: vR k0 i0 j0 :: st) S Q ↔ Wp d k (pc + 1) ls (vI (S k0 i0 j0 n) :: st) S Q := by
  subst hx
  have hl := bLen_lt k0
  have := Wp_step (d := d) (ls := ls) (S := S) (Q := Q) (P := bok k0 i0 j0 = true ∧ vp_in (nI n) (bLen k0)) (st := vI (nI n) :: vR k0 i0 j0 :: st) hi (by simp [stp, bXld, ha]; exact ⟨rfl, rfl, rfl, rfl⟩) ⟨hok, nI_vp hn hl⟩
  rw [nI_clamp (by omega)] at this
  exact this
theorem w_zald (hi : ins k pc = some (.baload, 1)) (ha : bArr k0 2 = true) (hok : bok k0 i0 j0 = true) (hx : x = nI n) (hn : n < bLen k0) : Wp d k pc ls (vI x :: vR k0 i0 j0 :: st) S Q ↔ Wp d k (pc + 1) ls (vI (S k0 i0 j0 n) :: st) S Q := by
  subst hx
  have hl := bLen_lt k0
  have := Wp_step (d := d) (ls := ls) (S := S) (Q := Q) (P := bok k0 i0 j0 = true ∧ vp_in (nI n) (bLen k0)) (st := vI (nI n) :: vR k0 i0 j0 :: st) hi (by simp [stp, bXld, ha]; exact ⟨rfl, rfl, rfl, rfl⟩) ⟨hok, nI_vp hn hl⟩
  rw [nI_clamp (by omega)] at this
  exact this
/-- a static array or the script -/
theorem w_rald (hi : ins k pc = some (.iaload, 1)) (ha : bArr k0 0 = false) (hr : bRO k0 = true) (hx : x = nI n) (hn : n < bROl S k0) (hl : bROl S k0 < 2 ^ 31) : Wp d k pc ls (vI x :: vR k0 0 0 :: st) S Q ↔ Wp d k (pc + 1) ls (vI (S k0 0 0 n) :: st) S Q := by
  subst hx
  have := Wp_step (d := d) (ls := ls) (S := S) (Q := Q) (P := vp_in (nI n) (bROl S k0)) (st := vI (nI n) :: vR k0 0 0 :: st) hi (by simp [stp, bXld, ha, hr]; exact ⟨rfl, rfl, rfl, rfl⟩) (nI_vp hn hl)
  rw [nI_clamp (by omega)] at this
  exact this
theorem w_sbld (hi : ins k pc = some (.baload, 1)) (hx : x = nI n) (h6 : i0 < 6) (hn : n < bTl.getD i0 0) : Wp d k pc ls (vI x :: vR 38 i0 0 :: st) S Q ↔ Wp d k (pc + 1) ls (vI ((bTx.getD i0 []).getD n 0) :: st) S Q := by
  subst hx
  have hl : ∀ i, i < 6 → bTl.getD i 0 < 2 ^ 31 := by decide
  have h31 := hl i0 h6
  have := Wp_step (d := d) (ls := ls) (S := S) (Q := Q) (P := i0 < 6 ∧ vp_in (nI n) (bTl.getD i0 0)) (st := vI (nI n) :: vR 38 i0 0 :: st) hi (show stp (bCe k).1 .baload (pc, ls, vI (nI n) :: vR 38 i0 0 :: st, S) = some (_, pc + 1, ls, vI ((bTx.getD i0 []).getD (nI n).toNatClampNeg 0) :: st, S) from rfl) ⟨h6, nI_vp hn h31⟩
  rw [nI_clamp (by omega)] at this
  exact this
theorem w_iast (hi : ins k pc = some (.iastore, 1)) (ha : bArr k0 0 = true) (hok : bok k0 i0 j0 = true) (hx : x = nI n) (hn : n < bLen k0) : Wp d k pc ls (vI y :: vI x :: vR k0 i0 j0 :: st) S Q ↔ Wp d k (pc + 1) ls st (sUp S k0 i0 j0 n y) Q := by
  subst hx
  have hl := bLen_lt k0
  have := Wp_step (d := d) (ls := ls) (S := S) (Q := Q) (st := vI y :: vI (nI n) :: vR k0 i0 j0 :: st) (P := bok k0 i0 j0 = true ∧ vp_in (nI n) (bLen k0) ∧ ((0 : Nat) = 1 → narrow .char (.int y) = .int y) ∧ ((0 : Nat) = 2 → y = 0 ∨ y = 1)) hi (by simp [stp, bXst, ha]; exact ⟨rfl, rfl, rfl, rfl⟩) ⟨hok, nI_vp hn hl, fun h => (by cases h), fun h => (by cases h)⟩
  rw [nI_clamp (by omega)] at this
  exact this
theorem w_cast (hi : ins k pc = some (.castore, 1)) (ha : bArr k0 1 = true) (hok : bok k0 i0 j0 = true) (hx : x = nI n) (hn : n < bLen k0) (hy : narrow .char (.int y) = .int y) : Wp d k pc ls (vI y :: vI x :: vR k0 i0 j0 :: st) S Q ↔ Wp d k (pc + 1) ls st (sUp S k0 i0 j0 n y) Q := by
  subst hx
  have hl := bLen_lt k0
  have := Wp_step (d := d) (ls := ls) (S := S) (Q := Q) (st := vI y :: vI (nI n) :: vR k0 i0 j0 :: st) (P := bok k0 i0 j0 = true ∧ vp_in (nI n) (bLen k0) ∧ ((1 : Nat) = 1 → narrow .char (.int y) = .int y) ∧ ((1 : Nat) = 2 → y = 0 ∨ y = 1)) hi (by simp [stp, bXst, ha]; exact ⟨rfl, rfl, rfl, rfl⟩) ⟨hok, nI_vp hn hl, fun _ => hy, fun h => (by cases h)⟩
  rw [nI_clamp (by omega)] at this
  exact this
theorem w_zast (hi : ins k pc = some (.bastore, 1)) (ha : bArr k0 2 = true) (hok : bok k0 i0 j0 = true) (hx : x = nI n) (hn : n < bLen k0) (hy : y = 0 ∨ y = 1) : Wp d k pc ls (vI y :: vI x :: vR k0 i0 j0 :: st) S Q ↔ Wp d k (pc + 1) ls st (sUp S k0 i0 j0 n y) Q := by
  subst hx
  have hl := bLen_lt k0
  have := Wp_step (d := d) (ls := ls) (S := S) (Q := Q) (st := vI y :: vI (nI n) :: vR k0 i0 j0 :: st) (P := bok k0 i0 j0 = true ∧ vp_in (nI n) (bLen k0) ∧ ((2 : Nat) = 1 → narrow .char (.int y) = .int y) ∧ ((2 : Nat) = 2 → y = 0 ∨ y = 1)) hi (by simp [stp, bXst, ha]; exact ⟨rfl, rfl, rfl, rfl⟩) ⟨hok, nI_vp hn hl, fun h => (by cases h), fun _ => hy⟩
  rw [nI_clamp (by omega)] at this
  exact this
theorem w_aald {k1 i1 j1 : Nat} (hi : ins k pc = some (.aaload, 1)) (ha : 3 ≤ ((kArr k0).getD (0, 0)).1) (hok : bok k0 i0 j0 = true) (hx : x = nI n) (hn : n < bLen k0) (he : eRef k0 i0 n (S k0 i0 j0 n) = some (k1, i1, j1)) : Wp d k pc ls (vI x :: vR k0 i0 j0 :: st) S Q ↔ Wp d k (pc + 1) ls (vR k1 i1 j1 :: st) S Q := by
  subst hx
  have hl := bLen_lt k0
  exact Wp_step (P := bok k0 i0 j0 = true ∧ vp_in (nI n) (bLen k0)) hi (by simp [stp, ha, nI_clamp (show n < 2 ^ 31 by omega), he]) ⟨hok, nI_vp hn hl⟩
theorem w_aast {k1 i1 j1 : Nat} (hi : ins k pc = some (.aastore, 1)) (ha : bArr k0 5 = true) (hok : bok k0 i0 j0 = true) (hok1 : bok k1 i1 j1 = true) (hx : x = nI n) (hn : n < bLen k0) (he : eCode k0 i0 (k1, i1, j1) = some y) : Wp d k pc ls (vR k1 i1 j1 :: vI x :: vR k0 i0 j0 :: st) S Q ↔ Wp d k (pc + 1) ls st (sUp S k0 i0 j0 n y) Q := by
  subst hx
  have hl := bLen_lt k0
  exact Wp_step (P := bok k0 i0 j0 = true ∧ bok k1 i1 j1 = true ∧ vp_in (nI n) (bLen k0)) hi (by simp [stp, ha, nI_clamp (show n < 2 ^ 31 by omega), he]) ⟨hok, hok1, nI_vp hn hl⟩
theorem w_alen (hi : ins k pc = some (.arraylength, 1)) (ha : (kArr k0).isSome = true) (hok : bok k0 i0 j0 = true) : Wp d k pc ls (vR k0 i0 j0 :: st) S Q ↔ Wp d k (pc + 1) ls (vI (nI (bLen k0)) :: st) S Q :=
  Wp_step (P := bok k0 i0 j0 = true) hi (by simp [stp, ha]; rfl) hok
theorem w_ralen (hi : ins k pc = some (.arraylength, 1)) (ha : (kArr k0).isSome = false) (hr : bRO k0 = true) : Wp d k pc ls (vR k0 0 0 :: st) S Q ↔ Wp d k (pc + 1) ls (vI (nI (bROl S k0)) :: st) S Q :=
  Wp_step (P := True) hi (by simp [stp, ha, hr]; rfl) trivial
theorem w_slen (hi : ins k pc = some (.arraylength, 1)) (h6 : i0 < 6) : Wp d k pc ls (vR 38 i0 0 :: st) S Q ↔ Wp d k (pc + 1) ls (vI (nI (bTl.getD i0 0)) :: st) S Q :=
  Wp_step (P := i0 < 6) hi rfl h6
theorem w_getst {own idx k1 : Nat} (hi : ins k pc = some (.getstatic idx, 3)) (ho : (bCe k).1 = own) (h10 : own ≠ 10) (hs : bSf own idx = some k1) : Wp d k pc ls st S Q ↔ Wp d k (pc + 3) ls (vR k1 0 0 :: st) S Q := by
  subst ho
  exact Wp_step (P := True) hi (by simp [stp, h10, hs]) trivial
theorem w_ldc {own idx m : Nat} (hi : ins k pc = some (.ldc idx, 2)) (ho : (bCe k).1 = own) (hs : bLdc own idx = some m) : Wp d k pc ls st S Q ↔ Wp d k (pc + 2) ls (vR 37 m 0 :: st) S Q := by
  subst ho
  exact Wp_step (P := True) hi (by simp [stp, hs]) trivial
theorem w_copy {idx k1 i1 j1 sp dp m : Nat} {a b c : Int32} (hi : ins k pc = some (.invokestatic idx, 3)) (hac : bAcp (bCe k).1 idx = true) (h0 : bArr k0 0 = true) (h1 : bArr k1 0 = true) (hsum : (st.map bCat).sum ≤ 8) (hok0 : bok k0 i0 j0 = true) (hok1 : bok k1 i1 j1 = true) (hne : ¬ (k0 = k1 ∧ i0 = i1 ∧ j0 = j1)) (ha : a = nI sp) (hb : b = nI dp) (hc : c = nI m) (hs : sp + m ≤ bLen k0) (hd : dp + m ≤ bLen k1) : Wp d k pc ls (vI c :: vI b :: vR k1 i1 j1 :: vI a :: vR k0 i0 j0 :: st) S Q ↔ Wp d k (pc + 3) ls st (sCp S (k0, i0, j0) (k1, i1, j1) sp dp m) Q := by
  subst ha; subst hb; subst hc
  have l0 := bLen_lt k0
  have l1 := bLen_lt k1
  have e1 := nI_clamp (show sp < 2 ^ 31 by omega)
  have e2 := nI_clamp (show dp < 2 ^ 31 by omega)
  have e3 := nI_clamp (show m < 2 ^ 31 by omega)
  have := Wp_step (d := d) (ls := ls) (S := S) (Q := Q) (st := vI (nI m) :: vI (nI dp) :: vR k1 i1 j1 :: vI (nI sp) :: vR k0 i0 j0 :: st) (P := bok k0 i0 j0 = true ∧ bok k1 i1 j1 = true ∧ ¬ (k0, i0, j0) = (k1, i1, j1) ∧ ¬ nI sp < 0 ∧ ¬ nI dp < 0 ∧ ¬ nI m < 0 ∧ (nI sp).toNatClampNeg + (nI m).toNatClampNeg ≤ bLen k0 ∧ (nI dp).toNatClampNeg + (nI m).toNatClampNeg ≤ bLen k1) (pc' := pc + 3) (ls' := ls) (st' := st) (S' := sCp S (k0, i0, j0) (k1, i1, j1) (nI sp).toNatClampNeg (nI dp).toNatClampNeg (nI m).toNatClampNeg) hi (by simp only [stp]; rw [if_pos hac, if_pos ⟨h0, h1, hsum⟩]) ⟨hok0, hok1, fun h => hne (by simpa using h), nI_pos (by omega), nI_pos (by omega), nI_pos (by omega), by rw [e1, e3]; exact hs, by rw [e2, e3]; exact hd⟩
  rw [e1, e2, e3] at this
  exact this
/-- what is decided of a call once -/
def bck1 (k idx k' na : Nat) (sta : Bool) : Bool := (match bC (bCe k).1 idx with
  | some q => q.1 == k'
  | none => false) && (bCe k').2.2.2.2.2.2 == sta && (sta || (bCe k').2.1.name != "<init>") && (bCe k').2.2.2.2.2.1 == na && decide (na ≤ (bCe k').2.2.2.1) && (!sta || !bAcp (bCe k).1 idx)
theorem bck1_spec {k idx k' na : Nat} {sta : Bool} (h : bck1 k idx k' na sta = true) : (∃ b, bC (bCe k).1 idx = some (k', b)) ∧ (bCe k').2.2.2.2.2.2 = sta ∧ (sta = true ∨ (bCe k').2.1.name ≠ "<init>") ∧ (bCe k').2.2.2.2.2.1 = na ∧ na ≤ (bCe k').2.2.2.1 ∧ (sta = false ∨ bAcp (bCe k).1 idx = false) := by
  unfold bck1 at h
  simp only [Bool.and_eq_true, Bool.or_eq_true, bne_iff_ne, ne_eq, beq_iff_eq, decide_eq_true_eq, Bool.not_eq_true'] at h
  obtain ⟨⟨⟨⟨⟨h1, h2⟩, h3⟩, h4⟩, h5⟩, h6⟩ := h
  refine ⟨?_, h2, h3, h4, h5, h6⟩
  cases hb : bC (bCe k).1 idx with
  | none => rw [hb] at h1; cases h1
  | some q =>
    rw [hb] at h1
    obtain ⟨q1, q2⟩ := q
    simp only [beq_iff_eq] at h1
    subst h1
    exact ⟨q2, rfl⟩
theorem bcallS {idx k' : Nat} {as : List bV} (hk : bck1 k idx k' as.length true = true) (hst : st = as.reverse ++ st') (hc : (as.map bCat).sum = as.length) (hs : (st'.map bCat).sum ≤ 8) : bcall (bCe k).1 (.invokestatic idx) (pc, ls, st, S) = some (True, k', as, st') := by
  obtain ⟨⟨b, h1⟩, h2, -, h4, h5, h6⟩ := bck1_spec hk
  subst hst
  have e1 : (as.reverse ++ st').take as.length = as.reverse := by simp
  have e2 : (as.reverse ++ st').drop as.length = st' := by simp
  simp only [bcall, h1, h4, h2, e1, e2]
  rw [if_pos]
  · simp
  · refine ⟨trivial, by simp, by rw [List.map_reverse, List.sum_reverse, hc], h5, hs⟩
theorem bcallV {idx k' : Nat} {As : List bV} (hk : bck1 k idx k' (As.length + 1) false = true) (hst : st = As.reverse ++ vR k0 i0 j0 :: st') (hc : (As.map bCat).sum = As.length) (hs : (st'.map bCat).sum ≤ 8) (hr : (kObj k0 = some (bCe k').1 ∧ bok k0 i0 j0 = true) ∨ (k0 = 37 ∧ (bCe k').1 = 10 ∧ i0 < 6 ∧ j0 = 0)) : bcall (bCe k).1 (.invokevirtual idx) (pc, ls, st, S) = some (True, k', vR k0 i0 j0 :: As, st') := by
  obtain ⟨⟨b, h1⟩, h2, h3, h4, h5, -⟩ := bck1_spec hk
  have h3' : (bCe k').2.1.name ≠ "<init>" := h3.resolve_left (by decide)
  subst hst
  have e0 : As.reverse ++ vR k0 i0 j0 :: st' = (As.reverse ++ [vR k0 i0 j0]) ++ st' := by simp
  have e1 : (As.reverse ++ vR k0 i0 j0 :: st').take (As.length + 1) = As.reverse ++ [vR k0 i0 j0] := by
    rw [e0]
    exact List.take_left' (by simp)
  have e2 : (As.reverse ++ vR k0 i0 j0 :: st').drop (As.length + 1) = st' := by
    rw [e0]
    exact List.drop_left' (by simp)
  simp only [bcall, h1, h4, h2, e1, e2]
  rw [if_pos]
  · simp only [List.reverse_append, List.reverse_cons, List.reverse_nil, List.nil_append, List.reverse_reverse, List.singleton_append]
    rw [if_pos hr]
  · refine ⟨trivial, h3', by simp, ?_, h5, hs⟩
    rw [List.map_append, List.map_reverse, List.sum_append, List.sum_reverse, hc]
    simp [bCat]
theorem w_callS {idx k' : Nat} {as : List bV} (hd : 0 < d) (hi : ins k pc = some (.invokestatic idx, 3)) (hk : bck1 k idx k' as.length true = true) (hst : st = as.reverse ++ st') (hc : (as.map bCat).sum = as.length) (hs : (st'.map bCat).sum ≤ 8) {r : Option bV} (hr : Ret (d - 1) k' as S r S') : Wp d k pc ls st S Q ↔ Wp d k (pc + 3) ls (r.toList ++ st') S' Q := by
  have h6 := (bck1_spec hk).2.2.2.2.2.resolve_left (by decide)
  rw [Wp_call (P := True) (k' := k') (as := as) (st' := st') hd hi (by simp [stp, h6]) rfl (bcallS hk hst hc hs) trivial]
  exact Wm_iff hr _
theorem w_callV {idx k' : Nat} {As : List bV} (hd : 0 < d) (hi : ins k pc = some (.invokevirtual idx, 3)) (hk : bck1 k idx k' (As.length + 1) false = true) (hst : st = As.reverse ++ vR k0 i0 j0 :: st') (hc : (As.map bCat).sum = As.length) (hs : (st'.map bCat).sum ≤ 8) (ho : kObj k0 = some (bCe k').1) (hok : bok k0 i0 j0 = true) {r : Option bV} (hr : Ret (d - 1) k' (vR k0 i0 j0 :: As) S r S') : Wp d k pc ls st S Q ↔ Wp d k (pc + 3) ls (r.toList ++ st') S' Q := by
  rw [Wp_call (P := True) (k' := k') (as := vR k0 i0 j0 :: As) (st' := st') hd hi rfl rfl (bcallV hk hst hc hs (Or.inl ⟨ho, hok⟩)) trivial]
  exact Wm_iff hr _
theorem w_iret (hi : ins k pc = some (.ireturn, 1)) (ht : (bCe k).2.2.2.2.1 = some .int) : Wp d k pc ls [vI x] S Q ↔ Q (some (vI x)) S :=
  Wp_ret (P := narrow .int (.int x) = .int x) hi rfl (by simp only [bret, ht]) rfl
theorem w_zret (hi : ins k pc = some (.ireturn, 1)) (ht : (bCe k).2.2.2.2.1 = some .boolean) (hx : x = 0 ∨ x = 1) : Wp d k pc ls [vI x] S Q ↔ Q (some (vI x)) S :=
  Wp_ret (P := narrow .boolean (.int x) = .int x) hi rfl (by simp only [bret, ht]) (bnz hx).1
theorem w_tret {ty : FieldType} (hi : ins k pc = some (.ireturn, 1)) (ht : (bCe k).2.2.2.2.1 = some ty) (hx : narrow ty (.int x) = .int x) : Wp d k pc ls [vI x] S Q ↔ Q (some (vI x)) S :=
  Wp_ret (P := narrow ty (.int x) = .int x) hi rfl (by simp only [bret, ht]) hx
theorem w_aret {nn : String} (hi : ins k pc = some (.areturn, 1)) (ht : (bCe k).2.2.2.2.1 = some (.object nn)) (h9 : k0 ≠ 39) : Wp d k pc ls [vR k0 i0 j0] S Q ↔ Q (some (vR k0 i0 j0)) S :=
  Wp_ret (P := True) hi rfl (by simp [bret, ht, h9]) trivial
theorem w_vret (hi : ins k pc = some (.return_, 1)) (ht : (bCe k).2.2.2.2.1 = none) : Wp d k pc ls [] S Q ↔ Q none S :=
  Wp_ret (P := True) hi rfl (by simp only [bret, ht]) trivial
end WROW
end
