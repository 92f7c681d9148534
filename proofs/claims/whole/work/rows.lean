section
-- ===== PART A: goes FIRST, ahead of the names: the tables' words, and 'selects' of the private methods out of them =====
/-- a private method of a class that the tables say can be made, by its rows of tables_1 -/
def lw_okq (q : MethodName × Nat) : Prop := (q.1.cls ≠ "java/lang/invoke/MethodHandle" ∧ q.1.cls ≠ "java/lang/invoke/VarHandle") ∧ Cond.instantiable q.1.cls q.2 ∈ tables_1 ∧ Cond.privateMethod q.1 ∈ tables_1 ∧ Cond.instanceMethod q.1 ∈ tables_1
theorem lw_p0 : lw_okq (⟨"BlowOwed$Court", "beginAnew", "(I)V"⟩, 6) := ⟨⟨by decide +kernel, by decide +kernel⟩, List.mem_of_getElem? (i := 43) (by decide +kernel), List.mem_of_getElem? (i := 333) (by decide +kernel), List.mem_of_getElem? (i := 334) (by decide +kernel)⟩
theorem lw_p1 : lw_okq (⟨"BlowOwed$Knight", "leave", "()V"⟩, 7) := ⟨⟨by decide +kernel, by decide +kernel⟩, List.mem_of_getElem? (i := 152) (by decide +kernel), List.mem_of_getElem? (i := 340) (by decide +kernel), List.mem_of_getElem? (i := 341) (by decide +kernel)⟩
theorem lw_p2 : lw_okq (⟨"BlowOwed$Land", "hasChapel", "(I)Z"⟩, 3) := ⟨⟨by decide +kernel, by decide +kernel⟩, List.mem_of_getElem? (i := 49) (by decide +kernel), List.mem_of_getElem? (i := 348) (by decide +kernel), List.mem_of_getElem? (i := 349) (by decide +kernel)⟩
theorem lw_p3 : lw_okq (⟨"BlowOwed$Land", "roadDays", "(II)I"⟩, 3) := ⟨⟨by decide +kernel, by decide +kernel⟩, List.mem_of_getElem? (i := 49) (by decide +kernel), List.mem_of_getElem? (i := 352) (by decide +kernel), List.mem_of_getElem? (i := 353) (by decide +kernel)⟩
theorem lw_p4 : lw_okq (⟨"BlowOwed$Land", "layRoad", "(III)V"⟩, 3) := ⟨⟨by decide +kernel, by decide +kernel⟩, List.mem_of_getElem? (i := 49) (by decide +kernel), List.mem_of_getElem? (i := 356) (by decide +kernel), List.mem_of_getElem? (i := 357) (by decide +kernel)⟩
theorem lw_p5 : lw_okq (⟨"BlowOwed$Court", "knightAt", "(I)LBlowOwed$Knight;"⟩, 6) := ⟨⟨by decide +kernel, by decide +kernel⟩, List.mem_of_getElem? (i := 43) (by decide +kernel), List.mem_of_getElem? (i := 369) (by decide +kernel), List.mem_of_getElem? (i := 370) (by decide +kernel)⟩
theorem lw_p6 : lw_okq (⟨"BlowOwed$Knight", "come", "(IIII)V"⟩, 7) := ⟨⟨by decide +kernel, by decide +kernel⟩, List.mem_of_getElem? (i := 152) (by decide +kernel), List.mem_of_getElem? (i := 373) (by decide +kernel), List.mem_of_getElem? (i := 374) (by decide +kernel)⟩
theorem lw_p7 : lw_okq (⟨"BlowOwed$Court", "countKnights", "()I"⟩, 6) := ⟨⟨by decide +kernel, by decide +kernel⟩, List.mem_of_getElem? (i := 43) (by decide +kernel), List.mem_of_getElem? (i := 377) (by decide +kernel), List.mem_of_getElem? (i := 378) (by decide +kernel)⟩
theorem lw_p8 : lw_okq (⟨"BlowOwed$Court", "knightBits", "()I"⟩, 6) := ⟨⟨by decide +kernel, by decide +kernel⟩, List.mem_of_getElem? (i := 43) (by decide +kernel), List.mem_of_getElem? (i := 381) (by decide +kernel), List.mem_of_getElem? (i := 382) (by decide +kernel)⟩
theorem lw_p9 : lw_okq (⟨"BlowOwed$Knight", "isAlive", "()Z"⟩, 7) := ⟨⟨by decide +kernel, by decide +kernel⟩, List.mem_of_getElem? (i := 152) (by decide +kernel), List.mem_of_getElem? (i := 395) (by decide +kernel), List.mem_of_getElem? (i := 396) (by decide +kernel)⟩
theorem lw_p10 : lw_okq (⟨"BlowOwed$Debts", "inherit", "(II)V"⟩, 2) := ⟨⟨by decide +kernel, by decide +kernel⟩, List.mem_of_getElem? (i := 72) (by decide +kernel), List.mem_of_getElem? (i := 400) (by decide +kernel), List.mem_of_getElem? (i := 401) (by decide +kernel)⟩
theorem lw_p11 : lw_okq (⟨"BlowOwed$Debts", "sweep", "()V"⟩, 2) := ⟨⟨by decide +kernel, by decide +kernel⟩, List.mem_of_getElem? (i := 72) (by decide +kernel), List.mem_of_getElem? (i := 404) (by decide +kernel), List.mem_of_getElem? (i := 405) (by decide +kernel)⟩
theorem lw_p12 : lw_okq (⟨"BlowOwed$Pad", "add", "(I)V"⟩, 2) := ⟨⟨by decide +kernel, by decide +kernel⟩, List.mem_of_getElem? (i := 27) (by decide +kernel), List.mem_of_getElem? (i := 412) (by decide +kernel), List.mem_of_getElem? (i := 413) (by decide +kernel)⟩
theorem lw_p13 : lw_okq (⟨"BlowOwed$Pad", "findFault", "(I)I"⟩, 2) := ⟨⟨by decide +kernel, by decide +kernel⟩, List.mem_of_getElem? (i := 27) (by decide +kernel), List.mem_of_getElem? (i := 424) (by decide +kernel), List.mem_of_getElem? (i := 425) (by decide +kernel)⟩
theorem lw_p14 : lw_okq (⟨"BlowOwed$Pad", "countGood", "(II)I"⟩, 2) := ⟨⟨by decide +kernel, by decide +kernel⟩, List.mem_of_getElem? (i := 27) (by decide +kernel), List.mem_of_getElem? (i := 428) (by decide +kernel), List.mem_of_getElem? (i := 429) (by decide +kernel)⟩
theorem lw_p15 : lw_okq (⟨"BlowOwed$Pad", "signAt", "(I)I"⟩, 2) := ⟨⟨by decide +kernel, by decide +kernel⟩, List.mem_of_getElem? (i := 27) (by decide +kernel), List.mem_of_getElem? (i := 432) (by decide +kernel), List.mem_of_getElem? (i := 433) (by decide +kernel)⟩
def lw_privs_1 : List (MethodName × Nat) := [(⟨"BlowOwed$Court", "beginAnew", "(I)V"⟩, 6), (⟨"BlowOwed$Knight", "leave", "()V"⟩, 7), (⟨"BlowOwed$Land", "hasChapel", "(I)Z"⟩, 3), (⟨"BlowOwed$Land", "roadDays", "(II)I"⟩, 3), (⟨"BlowOwed$Land", "layRoad", "(III)V"⟩, 3), (⟨"BlowOwed$Court", "knightAt", "(I)LBlowOwed$Knight;"⟩, 6), (⟨"BlowOwed$Knight", "come", "(IIII)V"⟩, 7), (⟨"BlowOwed$Court", "countKnights", "()I"⟩, 6), (⟨"BlowOwed$Court", "knightBits", "()I"⟩, 6), (⟨"BlowOwed$Knight", "isAlive", "()Z"⟩, 7), (⟨"BlowOwed$Debts", "inherit", "(II)V"⟩, 2), (⟨"BlowOwed$Debts", "sweep", "()V"⟩, 2), (⟨"BlowOwed$Pad", "add", "(I)V"⟩, 2), (⟨"BlowOwed$Pad", "findFault", "(I)I"⟩, 2), (⟨"BlowOwed$Pad", "countGood", "(II)I"⟩, 2), (⟨"BlowOwed$Pad", "signAt", "(I)I"⟩, 2)]
theorem lw_r1 : ∀ q ∈ lw_privs_1, lw_okq q := List.forall_mem_cons.mpr ⟨lw_p0, List.forall_mem_cons.mpr ⟨lw_p1, List.forall_mem_cons.mpr ⟨lw_p2, List.forall_mem_cons.mpr ⟨lw_p3, List.forall_mem_cons.mpr ⟨lw_p4, List.forall_mem_cons.mpr ⟨lw_p5, List.forall_mem_cons.mpr ⟨lw_p6, List.forall_mem_cons.mpr ⟨lw_p7, List.forall_mem_cons.mpr ⟨lw_p8, List.forall_mem_cons.mpr ⟨lw_p9, List.forall_mem_cons.mpr ⟨lw_p10, List.forall_mem_cons.mpr ⟨lw_p11, List.forall_mem_cons.mpr ⟨lw_p12, List.forall_mem_cons.mpr ⟨lw_p13, List.forall_mem_cons.mpr ⟨lw_p14, List.forall_mem_cons.mpr ⟨lw_p15, fun _ h => absurd h List.not_mem_nil⟩⟩⟩⟩⟩⟩⟩⟩⟩⟩⟩⟩⟩⟩⟩⟩
theorem lw_p16 : lw_okq (⟨"BlowOwed$Pad", "countGoodDigits", "(I)I"⟩, 2) := ⟨⟨by decide +kernel, by decide +kernel⟩, List.mem_of_getElem? (i := 27) (by decide +kernel), List.mem_of_getElem? (i := 442) (by decide +kernel), List.mem_of_getElem? (i := 443) (by decide +kernel)⟩
theorem lw_p17 : lw_okq (⟨"BlowOwed$Pad", "numberAt", "(I)I"⟩, 2) := ⟨⟨by decide +kernel, by decide +kernel⟩, List.mem_of_getElem? (i := 27) (by decide +kernel), List.mem_of_getElem? (i := 447) (by decide +kernel), List.mem_of_getElem? (i := 448) (by decide +kernel)⟩
theorem lw_p18 : lw_okq (⟨"BlowOwed$Pad", "signsOfAct", "(I)I"⟩, 2) := ⟨⟨by decide +kernel, by decide +kernel⟩, List.mem_of_getElem? (i := 27) (by decide +kernel), List.mem_of_getElem? (i := 451) (by decide +kernel), List.mem_of_getElem? (i := 452) (by decide +kernel)⟩
theorem lw_p19 : lw_okq (⟨"BlowOwed$Trial", "hear", "(LBlowOwed$Pad;LBlowOwed$Court;)Z"⟩, 5) := ⟨⟨by decide +kernel, by decide +kernel⟩, List.mem_of_getElem? (i := 224) (by decide +kernel), List.mem_of_getElem? (i := 460) (by decide +kernel), List.mem_of_getElem? (i := 461) (by decide +kernel)⟩
theorem lw_p20 : lw_okq (⟨"BlowOwed$Court", "copy", "(LBlowOwed$Court;)V"⟩, 6) := ⟨⟨by decide +kernel, by decide +kernel⟩, List.mem_of_getElem? (i := 43) (by decide +kernel), List.mem_of_getElem? (i := 464) (by decide +kernel), List.mem_of_getElem? (i := 465) (by decide +kernel)⟩
theorem lw_p21 : lw_okq (⟨"BlowOwed$Land", "copy", "(LBlowOwed$Land;)V"⟩, 3) := ⟨⟨by decide +kernel, by decide +kernel⟩, List.mem_of_getElem? (i := 49) (by decide +kernel), List.mem_of_getElem? (i := 468) (by decide +kernel), List.mem_of_getElem? (i := 469) (by decide +kernel)⟩
theorem lw_p22 : lw_okq (⟨"BlowOwed$Knight", "copy", "(LBlowOwed$Knight;)V"⟩, 7) := ⟨⟨by decide +kernel, by decide +kernel⟩, List.mem_of_getElem? (i := 152) (by decide +kernel), List.mem_of_getElem? (i := 475) (by decide +kernel), List.mem_of_getElem? (i := 476) (by decide +kernel)⟩
theorem lw_p23 : lw_okq (⟨"BlowOwed$Debts", "copy", "(LBlowOwed$Debts;)V"⟩, 2) := ⟨⟨by decide +kernel, by decide +kernel⟩, List.mem_of_getElem? (i := 72) (by decide +kernel), List.mem_of_getElem? (i := 479) (by decide +kernel), List.mem_of_getElem? (i := 480) (by decide +kernel)⟩
theorem lw_p24 : lw_okq (⟨"BlowOwed$Debt", "set", "(IIII)V"⟩, 5) := ⟨⟨by decide +kernel, by decide +kernel⟩, List.mem_of_getElem? (i := 79) (by decide +kernel), List.mem_of_getElem? (i := 483) (by decide +kernel), List.mem_of_getElem? (i := 484) (by decide +kernel)⟩
theorem lw_p25 : lw_okq (⟨"BlowOwed$Sights", "copy", "(LBlowOwed$Sights;)V"⟩, 3) := ⟨⟨by decide +kernel, by decide +kernel⟩, List.mem_of_getElem? (i := 132) (by decide +kernel), List.mem_of_getElem? (i := 487) (by decide +kernel), List.mem_of_getElem? (i := 488) (by decide +kernel)⟩
theorem lw_p26 : lw_okq (⟨"BlowOwed$Trial", "tryAct", "(LBlowOwed$Pad;I)I"⟩, 5) := ⟨⟨by decide +kernel, by decide +kernel⟩, List.mem_of_getElem? (i := 224) (by decide +kernel), List.mem_of_getElem? (i := 492) (by decide +kernel), List.mem_of_getElem? (i := 493) (by decide +kernel)⟩
theorem lw_p27 : lw_okq (⟨"BlowOwed$Court", "passDays", "(I)V"⟩, 6) := ⟨⟨by decide +kernel, by decide +kernel⟩, List.mem_of_getElem? (i := 43) (by decide +kernel), List.mem_of_getElem? (i := 498) (by decide +kernel), List.mem_of_getElem? (i := 499) (by decide +kernel)⟩
theorem lw_p28 : lw_okq (⟨"BlowOwed$Court", "tryStrike", "(III)I"⟩, 6) := ⟨⟨by decide +kernel, by decide +kernel⟩, List.mem_of_getElem? (i := 43) (by decide +kernel), List.mem_of_getElem? (i := 509) (by decide +kernel), List.mem_of_getElem? (i := 510) (by decide +kernel)⟩
theorem lw_p29 : lw_okq (⟨"BlowOwed$Court", "wound", "(II)V"⟩, 6) := ⟨⟨by decide +kernel, by decide +kernel⟩, List.mem_of_getElem? (i := 43) (by decide +kernel), List.mem_of_getElem? (i := 514) (by decide +kernel), List.mem_of_getElem? (i := 515) (by decide +kernel)⟩
theorem lw_p30 : lw_okq (⟨"BlowOwed$Knight", "isDead", "()Z"⟩, 7) := ⟨⟨by decide +kernel, by decide +kernel⟩, List.mem_of_getElem? (i := 152) (by decide +kernel), List.mem_of_getElem? (i := 518) (by decide +kernel), List.mem_of_getElem? (i := 519) (by decide +kernel)⟩
theorem lw_p31 : lw_okq (⟨"BlowOwed$Debts", "endAllOf", "(I)V"⟩, 2) := ⟨⟨by decide +kernel, by decide +kernel⟩, List.mem_of_getElem? (i := 72) (by decide +kernel), List.mem_of_getElem? (i := 522) (by decide +kernel), List.mem_of_getElem? (i := 523) (by decide +kernel)⟩
def lw_privs_2 : List (MethodName × Nat) := [(⟨"BlowOwed$Pad", "countGoodDigits", "(I)I"⟩, 2), (⟨"BlowOwed$Pad", "numberAt", "(I)I"⟩, 2), (⟨"BlowOwed$Pad", "signsOfAct", "(I)I"⟩, 2), (⟨"BlowOwed$Trial", "hear", "(LBlowOwed$Pad;LBlowOwed$Court;)Z"⟩, 5), (⟨"BlowOwed$Court", "copy", "(LBlowOwed$Court;)V"⟩, 6), (⟨"BlowOwed$Land", "copy", "(LBlowOwed$Land;)V"⟩, 3), (⟨"BlowOwed$Knight", "copy", "(LBlowOwed$Knight;)V"⟩, 7), (⟨"BlowOwed$Debts", "copy", "(LBlowOwed$Debts;)V"⟩, 2), (⟨"BlowOwed$Debt", "set", "(IIII)V"⟩, 5), (⟨"BlowOwed$Sights", "copy", "(LBlowOwed$Sights;)V"⟩, 3), (⟨"BlowOwed$Trial", "tryAct", "(LBlowOwed$Pad;I)I"⟩, 5), (⟨"BlowOwed$Court", "passDays", "(I)V"⟩, 6), (⟨"BlowOwed$Court", "tryStrike", "(III)I"⟩, 6), (⟨"BlowOwed$Court", "wound", "(II)V"⟩, 6), (⟨"BlowOwed$Knight", "isDead", "()Z"⟩, 7), (⟨"BlowOwed$Debts", "endAllOf", "(I)V"⟩, 2)]
theorem lw_r2 : ∀ q ∈ lw_privs_2, lw_okq q := List.forall_mem_cons.mpr ⟨lw_p16, List.forall_mem_cons.mpr ⟨lw_p17, List.forall_mem_cons.mpr ⟨lw_p18, List.forall_mem_cons.mpr ⟨lw_p19, List.forall_mem_cons.mpr ⟨lw_p20, List.forall_mem_cons.mpr ⟨lw_p21, List.forall_mem_cons.mpr ⟨lw_p22, List.forall_mem_cons.mpr ⟨lw_p23, List.forall_mem_cons.mpr ⟨lw_p24, List.forall_mem_cons.mpr ⟨lw_p25, List.forall_mem_cons.mpr ⟨lw_p26, List.forall_mem_cons.mpr ⟨lw_p27, List.forall_mem_cons.mpr ⟨lw_p28, List.forall_mem_cons.mpr ⟨lw_p29, List.forall_mem_cons.mpr ⟨lw_p30, List.forall_mem_cons.mpr ⟨lw_p31, fun _ h => absurd h List.not_mem_nil⟩⟩⟩⟩⟩⟩⟩⟩⟩⟩⟩⟩⟩⟩⟩⟩
theorem lw_p32 : lw_okq (⟨"BlowOwed$Debts", "add", "(IIII)V"⟩, 2) := ⟨⟨by decide +kernel, by decide +kernel⟩, List.mem_of_getElem? (i := 72) (by decide +kernel), List.mem_of_getElem? (i := 526) (by decide +kernel), List.mem_of_getElem? (i := 527) (by decide +kernel)⟩
theorem lw_p33 : lw_okq (⟨"BlowOwed$Court", "tryGiveBack", "(I)I"⟩, 6) := ⟨⟨by decide +kernel, by decide +kernel⟩, List.mem_of_getElem? (i := 43) (by decide +kernel), List.mem_of_getElem? (i := 530) (by decide +kernel), List.mem_of_getElem? (i := 531) (by decide +kernel)⟩
theorem lw_p34 : lw_okq (⟨"BlowOwed$Court", "whyNotActing", "(I)I"⟩, 6) := ⟨⟨by decide +kernel, by decide +kernel⟩, List.mem_of_getElem? (i := 43) (by decide +kernel), List.mem_of_getElem? (i := 534) (by decide +kernel), List.mem_of_getElem? (i := 535) (by decide +kernel)⟩
theorem lw_p35 : lw_okq (⟨"BlowOwed$Debts", "findDueTo", "(II)I"⟩, 2) := ⟨⟨by decide +kernel, by decide +kernel⟩, List.mem_of_getElem? (i := 72) (by decide +kernel), List.mem_of_getElem? (i := 538) (by decide +kernel), List.mem_of_getElem? (i := 539) (by decide +kernel)⟩
theorem lw_p36 : lw_okq (⟨"BlowOwed$Knight", "isIn", "(I)Z"⟩, 7) := ⟨⟨by decide +kernel, by decide +kernel⟩, List.mem_of_getElem? (i := 152) (by decide +kernel), List.mem_of_getElem? (i := 542) (by decide +kernel), List.mem_of_getElem? (i := 543) (by decide +kernel)⟩
theorem lw_p37 : lw_okq (⟨"BlowOwed$Court", "giveBackOne", "(LBlowOwed$Knight;I)V"⟩, 6) := ⟨⟨by decide +kernel, by decide +kernel⟩, List.mem_of_getElem? (i := 43) (by decide +kernel), List.mem_of_getElem? (i := 546) (by decide +kernel), List.mem_of_getElem? (i := 547) (by decide +kernel)⟩
theorem lw_p38 : lw_okq (⟨"BlowOwed$Debts", "has", "(I)Z"⟩, 2) := ⟨⟨by decide +kernel, by decide +kernel⟩, List.mem_of_getElem? (i := 72) (by decide +kernel), List.mem_of_getElem? (i := 550) (by decide +kernel), List.mem_of_getElem? (i := 551) (by decide +kernel)⟩
theorem lw_p39 : lw_okq (⟨"BlowOwed$Court", "tryFlinch", "(I)I"⟩, 6) := ⟨⟨by decide +kernel, by decide +kernel⟩, List.mem_of_getElem? (i := 43) (by decide +kernel), List.mem_of_getElem? (i := 557) (by decide +kernel), List.mem_of_getElem? (i := 558) (by decide +kernel)⟩
theorem lw_p40 : lw_okq (⟨"BlowOwed$Court", "tryRemit", "(I)I"⟩, 6) := ⟨⟨by decide +kernel, by decide +kernel⟩, List.mem_of_getElem? (i := 43) (by decide +kernel), List.mem_of_getElem? (i := 561) (by decide +kernel), List.mem_of_getElem? (i := 562) (by decide +kernel)⟩
theorem lw_p41 : lw_okq (⟨"BlowOwed$Court", "trySetOut", "(II)I"⟩, 6) := ⟨⟨by decide +kernel, by decide +kernel⟩, List.mem_of_getElem? (i := 43) (by decide +kernel), List.mem_of_getElem? (i := 565) (by decide +kernel), List.mem_of_getElem? (i := 566) (by decide +kernel)⟩
theorem lw_p42 : lw_okq (⟨"BlowOwed$Land", "daysUnderWay", "(III)I"⟩, 3) := ⟨⟨by decide +kernel, by decide +kernel⟩, List.mem_of_getElem? (i := 49) (by decide +kernel), List.mem_of_getElem? (i := 569) (by decide +kernel), List.mem_of_getElem? (i := 570) (by decide +kernel)⟩
theorem lw_p43 : lw_okq (⟨"BlowOwed$Land", "isWinter", "(I)Z"⟩, 3) := ⟨⟨by decide +kernel, by decide +kernel⟩, List.mem_of_getElem? (i := 49) (by decide +kernel), List.mem_of_getElem? (i := 574) (by decide +kernel), List.mem_of_getElem? (i := 575) (by decide +kernel)⟩
theorem lw_p44 : lw_okq (⟨"BlowOwed$Knight", "tell", "(I)I"⟩, 7) := ⟨⟨by decide +kernel, by decide +kernel⟩, List.mem_of_getElem? (i := 152) (by decide +kernel), List.mem_of_getElem? (i := 591) (by decide +kernel), List.mem_of_getElem? (i := 592) (by decide +kernel)⟩
theorem lw_p45 : lw_okq (⟨"BlowOwed$Debt", "tell", "(I)I"⟩, 5) := ⟨⟨by decide +kernel, by decide +kernel⟩, List.mem_of_getElem? (i := 79) (by decide +kernel), List.mem_of_getElem? (i := 605) (by decide +kernel), List.mem_of_getElem? (i := 606) (by decide +kernel)⟩
theorem lw_p46 : lw_okq (⟨"BlowOwed$Journeys", "firstDay", "(LBlowOwed$Court;II)I"⟩, 3) := ⟨⟨by decide +kernel, by decide +kernel⟩, List.mem_of_getElem? (i := 253) (by decide +kernel), List.mem_of_getElem? (i := 613) (by decide +kernel), List.mem_of_getElem? (i := 614) (by decide +kernel)⟩
theorem lw_p47 : lw_okq (⟨"BlowOwed$Journeys", "setOff", "(LBlowOwed$Court;I)V"⟩, 3) := ⟨⟨by decide +kernel, by decide +kernel⟩, List.mem_of_getElem? (i := 253) (by decide +kernel), List.mem_of_getElem? (i := 617) (by decide +kernel), List.mem_of_getElem? (i := 618) (by decide +kernel)⟩
def lw_privs_3 : List (MethodName × Nat) := [(⟨"BlowOwed$Debts", "add", "(IIII)V"⟩, 2), (⟨"BlowOwed$Court", "tryGiveBack", "(I)I"⟩, 6), (⟨"BlowOwed$Court", "whyNotActing", "(I)I"⟩, 6), (⟨"BlowOwed$Debts", "findDueTo", "(II)I"⟩, 2), (⟨"BlowOwed$Knight", "isIn", "(I)Z"⟩, 7), (⟨"BlowOwed$Court", "giveBackOne", "(LBlowOwed$Knight;I)V"⟩, 6), (⟨"BlowOwed$Debts", "has", "(I)Z"⟩, 2), (⟨"BlowOwed$Court", "tryFlinch", "(I)I"⟩, 6), (⟨"BlowOwed$Court", "tryRemit", "(I)I"⟩, 6), (⟨"BlowOwed$Court", "trySetOut", "(II)I"⟩, 6), (⟨"BlowOwed$Land", "daysUnderWay", "(III)I"⟩, 3), (⟨"BlowOwed$Land", "isWinter", "(I)Z"⟩, 3), (⟨"BlowOwed$Knight", "tell", "(I)I"⟩, 7), (⟨"BlowOwed$Debt", "tell", "(I)I"⟩, 5), (⟨"BlowOwed$Journeys", "firstDay", "(LBlowOwed$Court;II)I"⟩, 3), (⟨"BlowOwed$Journeys", "setOff", "(LBlowOwed$Court;I)V"⟩, 3)]
theorem lw_r3 : ∀ q ∈ lw_privs_3, lw_okq q := List.forall_mem_cons.mpr ⟨lw_p32, List.forall_mem_cons.mpr ⟨lw_p33, List.forall_mem_cons.mpr ⟨lw_p34, List.forall_mem_cons.mpr ⟨lw_p35, List.forall_mem_cons.mpr ⟨lw_p36, List.forall_mem_cons.mpr ⟨lw_p37, List.forall_mem_cons.mpr ⟨lw_p38, List.forall_mem_cons.mpr ⟨lw_p39, List.forall_mem_cons.mpr ⟨lw_p40, List.forall_mem_cons.mpr ⟨lw_p41, List.forall_mem_cons.mpr ⟨lw_p42, List.forall_mem_cons.mpr ⟨lw_p43, List.forall_mem_cons.mpr ⟨lw_p44, List.forall_mem_cons.mpr ⟨lw_p45, List.forall_mem_cons.mpr ⟨lw_p46, List.forall_mem_cons.mpr ⟨lw_p47, fun _ h => absurd h List.not_mem_nil⟩⟩⟩⟩⟩⟩⟩⟩⟩⟩⟩⟩⟩⟩⟩⟩
theorem lw_p48 : lw_okq (⟨"BlowOwed$Land", "fillFirstDays", "(II[I)V"⟩, 3) := ⟨⟨by decide +kernel, by decide +kernel⟩, List.mem_of_getElem? (i := 49) (by decide +kernel), List.mem_of_getElem? (i := 622) (by decide +kernel), List.mem_of_getElem? (i := 623) (by decide +kernel)⟩
theorem lw_p49 : lw_okq (⟨"BlowOwed$Land", "firstAcross", "(III)I"⟩, 3) := ⟨⟨by decide +kernel, by decide +kernel⟩, List.mem_of_getElem? (i := 49) (by decide +kernel), List.mem_of_getElem? (i := 628) (by decide +kernel), List.mem_of_getElem? (i := 629) (by decide +kernel)⟩
theorem lw_p50 : lw_okq (⟨"BlowOwed$Journeys", "metAlone", "(LBlowOwed$Court;I)I"⟩, 3) := ⟨⟨by decide +kernel, by decide +kernel⟩, List.mem_of_getElem? (i := 253) (by decide +kernel), List.mem_of_getElem? (i := 642) (by decide +kernel), List.mem_of_getElem? (i := 643) (by decide +kernel)⟩
theorem lw_p51 : lw_okq (⟨"BlowOwed$Journeys", "mostMet", "(LBlowOwed$Court;I)I"⟩, 3) := ⟨⟨by decide +kernel, by decide +kernel⟩, List.mem_of_getElem? (i := 253) (by decide +kernel), List.mem_of_getElem? (i := 654) (by decide +kernel), List.mem_of_getElem? (i := 655) (by decide +kernel)⟩
theorem lw_p52 : lw_okq (⟨"BlowOwed$Journeys", "lengthen", "(LBlowOwed$Court;II)V"⟩, 3) := ⟨⟨by decide +kernel, by decide +kernel⟩, List.mem_of_getElem? (i := 253) (by decide +kernel), List.mem_of_getElem? (i := 660) (by decide +kernel), List.mem_of_getElem? (i := 661) (by decide +kernel)⟩
theorem lw_p53 : lw_okq (⟨"BlowOwed$Journeys", "goOnFrom", "(LBlowOwed$Court;I)V"⟩, 3) := ⟨⟨by decide +kernel, by decide +kernel⟩, List.mem_of_getElem? (i := 253) (by decide +kernel), List.mem_of_getElem? (i := 664) (by decide +kernel), List.mem_of_getElem? (i := 665) (by decide +kernel)⟩
theorem lw_p54 : lw_okq (⟨"BlowOwed$Debts", "countOwedBy", "(I)I"⟩, 2) := ⟨⟨by decide +kernel, by decide +kernel⟩, List.mem_of_getElem? (i := 72) (by decide +kernel), List.mem_of_getElem? (i := 668) (by decide +kernel), List.mem_of_getElem? (i := 669) (by decide +kernel)⟩
theorem lw_p55 : lw_okq (⟨"BlowOwed$Journeys", "findBarred", "(LBlowOwed$Court;I)I"⟩, 3) := ⟨⟨by decide +kernel, by decide +kernel⟩, List.mem_of_getElem? (i := 253) (by decide +kernel), List.mem_of_getElem? (i := 672) (by decide +kernel), List.mem_of_getElem? (i := 673) (by decide +kernel)⟩
theorem lw_p56 : lw_okq (⟨"BlowOwed$Ledger", "fewestPayments", "(LBlowOwed$Debts;)I"⟩, 2) := ⟨⟨by decide +kernel, by decide +kernel⟩, List.mem_of_getElem? (i := 269) (by decide +kernel), List.mem_of_getElem? (i := 691) (by decide +kernel), List.mem_of_getElem? (i := 692) (by decide +kernel)⟩
theorem lw_p57 : lw_okq (⟨"BlowOwed$Ledger", "sumOf", "(ILBlowOwed$Debts;)I"⟩, 2) := ⟨⟨by decide +kernel, by decide +kernel⟩, List.mem_of_getElem? (i := 269) (by decide +kernel), List.mem_of_getElem? (i := 696) (by decide +kernel), List.mem_of_getElem? (i := 697) (by decide +kernel)⟩
theorem lw_p58 : lw_okq (⟨"BlowOwed$Ledger", "shortestRing", "(LBlowOwed$Debts;)I"⟩, 2) := ⟨⟨by decide +kernel, by decide +kernel⟩, List.mem_of_getElem? (i := 269) (by decide +kernel), List.mem_of_getElem? (i := 704) (by decide +kernel), List.mem_of_getElem? (i := 705) (by decide +kernel)⟩
theorem lw_p59 : lw_okq (⟨"BlowOwed$Ledger", "ringThrough", "(I)I"⟩, 2) := ⟨⟨by decide +kernel, by decide +kernel⟩, List.mem_of_getElem? (i := 269) (by decide +kernel), List.mem_of_getElem? (i := 710) (by decide +kernel), List.mem_of_getElem? (i := 711) (by decide +kernel)⟩
theorem lw_p60 : lw_okq (⟨"BlowOwed$Ledger", "nextOf", "(I)I"⟩, 2) := ⟨⟨by decide +kernel, by decide +kernel⟩, List.mem_of_getElem? (i := 269) (by decide +kernel), List.mem_of_getElem? (i := 714) (by decide +kernel), List.mem_of_getElem? (i := 715) (by decide +kernel)⟩
theorem lw_p61 : lw_okq (⟨"BlowOwed$Sights", "add", "(II)V"⟩, 3) := ⟨⟨by decide +kernel, by decide +kernel⟩, List.mem_of_getElem? (i := 132) (by decide +kernel), List.mem_of_getElem? (i := 770) (by decide +kernel), List.mem_of_getElem? (i := 771) (by decide +kernel)⟩
theorem lw_p62 : lw_okq (⟨"BlowOwed$Scars", "fit", "(LBlowOwed$Court;)V"⟩, 4) := ⟨⟨by decide +kernel, by decide +kernel⟩, List.mem_of_getElem? (i := 282) (by decide +kernel), List.mem_of_getElem? (i := 782) (by decide +kernel), List.mem_of_getElem? (i := 783) (by decide +kernel)⟩
theorem lw_p63 : lw_okq (⟨"BlowOwed$Scars", "addStriker", "(LBlowOwed$Court;I)V"⟩, 4) := ⟨⟨by decide +kernel, by decide +kernel⟩, List.mem_of_getElem? (i := 282) (by decide +kernel), List.mem_of_getElem? (i := 787) (by decide +kernel), List.mem_of_getElem? (i := 788) (by decide +kernel)⟩
def lw_privs_4 : List (MethodName × Nat) := [(⟨"BlowOwed$Land", "fillFirstDays", "(II[I)V"⟩, 3), (⟨"BlowOwed$Land", "firstAcross", "(III)I"⟩, 3), (⟨"BlowOwed$Journeys", "metAlone", "(LBlowOwed$Court;I)I"⟩, 3), (⟨"BlowOwed$Journeys", "mostMet", "(LBlowOwed$Court;I)I"⟩, 3), (⟨"BlowOwed$Journeys", "lengthen", "(LBlowOwed$Court;II)V"⟩, 3), (⟨"BlowOwed$Journeys", "goOnFrom", "(LBlowOwed$Court;I)V"⟩, 3), (⟨"BlowOwed$Debts", "countOwedBy", "(I)I"⟩, 2), (⟨"BlowOwed$Journeys", "findBarred", "(LBlowOwed$Court;I)I"⟩, 3), (⟨"BlowOwed$Ledger", "fewestPayments", "(LBlowOwed$Debts;)I"⟩, 2), (⟨"BlowOwed$Ledger", "sumOf", "(ILBlowOwed$Debts;)I"⟩, 2), (⟨"BlowOwed$Ledger", "shortestRing", "(LBlowOwed$Debts;)I"⟩, 2), (⟨"BlowOwed$Ledger", "ringThrough", "(I)I"⟩, 2), (⟨"BlowOwed$Ledger", "nextOf", "(I)I"⟩, 2), (⟨"BlowOwed$Sights", "add", "(II)V"⟩, 3), (⟨"BlowOwed$Scars", "fit", "(LBlowOwed$Court;)V"⟩, 4), (⟨"BlowOwed$Scars", "addStriker", "(LBlowOwed$Court;I)V"⟩, 4)]
theorem lw_r4 : ∀ q ∈ lw_privs_4, lw_okq q := List.forall_mem_cons.mpr ⟨lw_p48, List.forall_mem_cons.mpr ⟨lw_p49, List.forall_mem_cons.mpr ⟨lw_p50, List.forall_mem_cons.mpr ⟨lw_p51, List.forall_mem_cons.mpr ⟨lw_p52, List.forall_mem_cons.mpr ⟨lw_p53, List.forall_mem_cons.mpr ⟨lw_p54, List.forall_mem_cons.mpr ⟨lw_p55, List.forall_mem_cons.mpr ⟨lw_p56, List.forall_mem_cons.mpr ⟨lw_p57, List.forall_mem_cons.mpr ⟨lw_p58, List.forall_mem_cons.mpr ⟨lw_p59, List.forall_mem_cons.mpr ⟨lw_p60, List.forall_mem_cons.mpr ⟨lw_p61, List.forall_mem_cons.mpr ⟨lw_p62, List.forall_mem_cons.mpr ⟨lw_p63, fun _ h => absurd h List.not_mem_nil⟩⟩⟩⟩⟩⟩⟩⟩⟩⟩⟩⟩⟩⟩⟩⟩
theorem lw_p64 : lw_okq (⟨"BlowOwed$Trial", "draw", "(LBlowOwed$Court;II)V"⟩, 5) := ⟨⟨by decide +kernel, by decide +kernel⟩, List.mem_of_getElem? (i := 224) (by decide +kernel), List.mem_of_getElem? (i := 804) (by decide +kernel), List.mem_of_getElem? (i := 805) (by decide +kernel)⟩
theorem lw_p65 : lw_okq (⟨"BlowOwed$Court", "sumHonour", "()I"⟩, 6) := ⟨⟨by decide +kernel, by decide +kernel⟩, List.mem_of_getElem? (i := 43) (by decide +kernel), List.mem_of_getElem? (i := 809) (by decide +kernel), List.mem_of_getElem? (i := 810) (by decide +kernel)⟩
theorem lw_p66 : lw_okq (⟨"BlowOwed$Court", "countDead", "()I"⟩, 6) := ⟨⟨by decide +kernel, by decide +kernel⟩, List.mem_of_getElem? (i := 43) (by decide +kernel), List.mem_of_getElem? (i := 813) (by decide +kernel), List.mem_of_getElem? (i := 814) (by decide +kernel)⟩
theorem lw_p67 : lw_okq (⟨"BlowOwed", "toldOfKnight", "(I)I"⟩, 7) := ⟨⟨by decide +kernel, by decide +kernel⟩, List.mem_of_getElem? (i := 19) (by decide +kernel), List.mem_of_getElem? (i := 830) (by decide +kernel), List.mem_of_getElem? (i := 831) (by decide +kernel)⟩
theorem lw_p68 : lw_okq (⟨"BlowOwed", "toldOfRoad", "(I)I"⟩, 7) := ⟨⟨by decide +kernel, by decide +kernel⟩, List.mem_of_getElem? (i := 19) (by decide +kernel), List.mem_of_getElem? (i := 834) (by decide +kernel), List.mem_of_getElem? (i := 835) (by decide +kernel)⟩
theorem lw_p69 : lw_okq (⟨"BlowOwedModel", "isChapel", "(I)Z"⟩, 32) := ⟨⟨by decide +kernel, by decide +kernel⟩, List.mem_of_getElem? (i := 838) (by decide +kernel), List.mem_of_getElem? (i := 953) (by decide +kernel), List.mem_of_getElem? (i := 954) (by decide +kernel)⟩
theorem lw_p70 : lw_okq (⟨"BlowOwedModel", "isThere", "(I)Z"⟩, 32) := ⟨⟨by decide +kernel, by decide +kernel⟩, List.mem_of_getElem? (i := 838) (by decide +kernel), List.mem_of_getElem? (i := 965) (by decide +kernel), List.mem_of_getElem? (i := 966) (by decide +kernel)⟩
theorem lw_p71 : lw_okq (⟨"BlowOwedModel", "faultOf", "()I"⟩, 32) := ⟨⟨by decide +kernel, by decide +kernel⟩, List.mem_of_getElem? (i := 838) (by decide +kernel), List.mem_of_getElem? (i := 991) (by decide +kernel), List.mem_of_getElem? (i := 992) (by decide +kernel)⟩
theorem lw_p72 : lw_okq (⟨"BlowOwedModel", "goCourt", "()I"⟩, 32) := ⟨⟨by decide +kernel, by decide +kernel⟩, List.mem_of_getElem? (i := 838) (by decide +kernel), List.mem_of_getElem? (i := 1002) (by decide +kernel), List.mem_of_getElem? (i := 1003) (by decide +kernel)⟩
theorem lw_p73 : lw_okq (⟨"BlowOwedModel", "asNow", "()V"⟩, 32) := ⟨⟨by decide +kernel, by decide +kernel⟩, List.mem_of_getElem? (i := 838) (by decide +kernel), List.mem_of_getElem? (i := 1006) (by decide +kernel), List.mem_of_getElem? (i := 1007) (by decide +kernel)⟩
theorem lw_p74 : lw_okq (⟨"BlowOwedModel", "pass", "(I)V"⟩, 32) := ⟨⟨by decide +kernel, by decide +kernel⟩, List.mem_of_getElem? (i := 838) (by decide +kernel), List.mem_of_getElem? (i := 1010) (by decide +kernel), List.mem_of_getElem? (i := 1011) (by decide +kernel)⟩
theorem lw_p75 : lw_okq (⟨"BlowOwedModel", "forgive", "(I)V"⟩, 32) := ⟨⟨by decide +kernel, by decide +kernel⟩, List.mem_of_getElem? (i := 838) (by decide +kernel), List.mem_of_getElem? (i := 1014) (by decide +kernel), List.mem_of_getElem? (i := 1015) (by decide +kernel)⟩
theorem lw_p76 : lw_okq (⟨"BlowOwedModel", "whyNotStrike", "(III)I"⟩, 32) := ⟨⟨by decide +kernel, by decide +kernel⟩, List.mem_of_getElem? (i := 838) (by decide +kernel), List.mem_of_getElem? (i := 1018) (by decide +kernel), List.mem_of_getElem? (i := 1019) (by decide +kernel)⟩
theorem lw_p77 : lw_okq (⟨"BlowOwedModel", "isAlive", "(I)Z"⟩, 32) := ⟨⟨by decide +kernel, by decide +kernel⟩, List.mem_of_getElem? (i := 838) (by decide +kernel), List.mem_of_getElem? (i := 1022) (by decide +kernel), List.mem_of_getElem? (i := 1023) (by decide +kernel)⟩
theorem lw_p78 : lw_okq (⟨"BlowOwedModel", "hit", "(III)V"⟩, 32) := ⟨⟨by decide +kernel, by decide +kernel⟩, List.mem_of_getElem? (i := 838) (by decide +kernel), List.mem_of_getElem? (i := 1026) (by decide +kernel), List.mem_of_getElem? (i := 1027) (by decide +kernel)⟩
theorem lw_p79 : lw_okq (⟨"BlowOwedModel", "strike", "(II)V"⟩, 32) := ⟨⟨by decide +kernel, by decide +kernel⟩, List.mem_of_getElem? (i := 838) (by decide +kernel), List.mem_of_getElem? (i := 1030) (by decide +kernel), List.mem_of_getElem? (i := 1031) (by decide +kernel)⟩
def lw_privs_5 : List (MethodName × Nat) := [(⟨"BlowOwed$Trial", "draw", "(LBlowOwed$Court;II)V"⟩, 5), (⟨"BlowOwed$Court", "sumHonour", "()I"⟩, 6), (⟨"BlowOwed$Court", "countDead", "()I"⟩, 6), (⟨"BlowOwed", "toldOfKnight", "(I)I"⟩, 7), (⟨"BlowOwed", "toldOfRoad", "(I)I"⟩, 7), (⟨"BlowOwedModel", "isChapel", "(I)Z"⟩, 32), (⟨"BlowOwedModel", "isThere", "(I)Z"⟩, 32), (⟨"BlowOwedModel", "faultOf", "()I"⟩, 32), (⟨"BlowOwedModel", "goCourt", "()I"⟩, 32), (⟨"BlowOwedModel", "asNow", "()V"⟩, 32), (⟨"BlowOwedModel", "pass", "(I)V"⟩, 32), (⟨"BlowOwedModel", "forgive", "(I)V"⟩, 32), (⟨"BlowOwedModel", "whyNotStrike", "(III)I"⟩, 32), (⟨"BlowOwedModel", "isAlive", "(I)Z"⟩, 32), (⟨"BlowOwedModel", "hit", "(III)V"⟩, 32), (⟨"BlowOwedModel", "strike", "(II)V"⟩, 32)]
theorem lw_r5 : ∀ q ∈ lw_privs_5, lw_okq q := List.forall_mem_cons.mpr ⟨lw_p64, List.forall_mem_cons.mpr ⟨lw_p65, List.forall_mem_cons.mpr ⟨lw_p66, List.forall_mem_cons.mpr ⟨lw_p67, List.forall_mem_cons.mpr ⟨lw_p68, List.forall_mem_cons.mpr ⟨lw_p69, List.forall_mem_cons.mpr ⟨lw_p70, List.forall_mem_cons.mpr ⟨lw_p71, List.forall_mem_cons.mpr ⟨lw_p72, List.forall_mem_cons.mpr ⟨lw_p73, List.forall_mem_cons.mpr ⟨lw_p74, List.forall_mem_cons.mpr ⟨lw_p75, List.forall_mem_cons.mpr ⟨lw_p76, List.forall_mem_cons.mpr ⟨lw_p77, List.forall_mem_cons.mpr ⟨lw_p78, List.forall_mem_cons.mpr ⟨lw_p79, fun _ h => absurd h List.not_mem_nil⟩⟩⟩⟩⟩⟩⟩⟩⟩⟩⟩⟩⟩⟩⟩⟩
theorem lw_p80 : lw_okq (⟨"BlowOwedModel", "whyNot", "(II)I"⟩, 32) := ⟨⟨by decide +kernel, by decide +kernel⟩, List.mem_of_getElem? (i := 838) (by decide +kernel), List.mem_of_getElem? (i := 1034) (by decide +kernel), List.mem_of_getElem? (i := 1035) (by decide +kernel)⟩
theorem lw_p81 : lw_okq (⟨"BlowOwedModel", "isOwed", "(II)Z"⟩, 32) := ⟨⟨by decide +kernel, by decide +kernel⟩, List.mem_of_getElem? (i := 838) (by decide +kernel), List.mem_of_getElem? (i := 1038) (by decide +kernel), List.mem_of_getElem? (i := 1039) (by decide +kernel)⟩
theorem lw_p82 : lw_okq (⟨"BlowOwedModel", "owesHere", "(II)Z"⟩, 32) := ⟨⟨by decide +kernel, by decide +kernel⟩, List.mem_of_getElem? (i := 838) (by decide +kernel), List.mem_of_getElem? (i := 1042) (by decide +kernel), List.mem_of_getElem? (i := 1043) (by decide +kernel)⟩
theorem lw_p83 : lw_okq (⟨"BlowOwedModel", "act", "(II)V"⟩, 32) := ⟨⟨by decide +kernel, by decide +kernel⟩, List.mem_of_getElem? (i := 838) (by decide +kernel), List.mem_of_getElem? (i := 1046) (by decide +kernel), List.mem_of_getElem? (i := 1047) (by decide +kernel)⟩
theorem lw_p84 : lw_okq (⟨"BlowOwedModel", "giveBack", "(I)V"⟩, 32) := ⟨⟨by decide +kernel, by decide +kernel⟩, List.mem_of_getElem? (i := 838) (by decide +kernel), List.mem_of_getElem? (i := 1050) (by decide +kernel), List.mem_of_getElem? (i := 1051) (by decide +kernel)⟩
theorem lw_p85 : lw_okq (⟨"BlowOwedModel", "barOfCourt", "()I"⟩, 32) := ⟨⟨by decide +kernel, by decide +kernel⟩, List.mem_of_getElem? (i := 838) (by decide +kernel), List.mem_of_getElem? (i := 1058) (by decide +kernel), List.mem_of_getElem? (i := 1059) (by decide +kernel)⟩
theorem lw_p86 : lw_okq (⟨"BlowOwedModel", "keep", "()V"⟩, 32) := ⟨⟨by decide +kernel, by decide +kernel⟩, List.mem_of_getElem? (i := 838) (by decide +kernel), List.mem_of_getElem? (i := 1062) (by decide +kernel), List.mem_of_getElem? (i := 1063) (by decide +kernel)⟩
theorem lw_p87 : lw_okq (⟨"BlowOwedModel", "stateNow", "(II)I"⟩, 32) := ⟨⟨by decide +kernel, by decide +kernel⟩, List.mem_of_getElem? (i := 838) (by decide +kernel), List.mem_of_getElem? (i := 1070) (by decide +kernel), List.mem_of_getElem? (i := 1071) (by decide +kernel)⟩
theorem lw_p88 : lw_okq (⟨"BlowOwedModel", "isWell", "(I)Z"⟩, 32) := ⟨⟨by decide +kernel, by decide +kernel⟩, List.mem_of_getElem? (i := 838) (by decide +kernel), List.mem_of_getElem? (i := 1086) (by decide +kernel), List.mem_of_getElem? (i := 1087) (by decide +kernel)⟩
theorem lw_p89 : lw_okq (⟨"BlowOwedModel", "layJourneys", "(II)V"⟩, 32) := ⟨⟨by decide +kernel, by decide +kernel⟩, List.mem_of_getElem? (i := 838) (by decide +kernel), List.mem_of_getElem? (i := 1090) (by decide +kernel), List.mem_of_getElem? (i := 1091) (by decide +kernel)⟩
theorem lw_p90 : lw_okq (⟨"BlowOwedModel", "arrival", "(II)I"⟩, 32) := ⟨⟨by decide +kernel, by decide +kernel⟩, List.mem_of_getElem? (i := 838) (by decide +kernel), List.mem_of_getElem? (i := 1095) (by decide +kernel), List.mem_of_getElem? (i := 1096) (by decide +kernel)⟩
theorem lw_p91 : lw_okq (⟨"BlowOwedModel", "canMeet", "(II)Z"⟩, 32) := ⟨⟨by decide +kernel, by decide +kernel⟩, List.mem_of_getElem? (i := 838) (by decide +kernel), List.mem_of_getElem? (i := 1107) (by decide +kernel), List.mem_of_getElem? (i := 1108) (by decide +kernel)⟩
theorem lw_p92 : lw_okq (⟨"BlowOwedModel", "layBalance", "()V"⟩, 32) := ⟨⟨by decide +kernel, by decide +kernel⟩, List.mem_of_getElem? (i := 838) (by decide +kernel), List.mem_of_getElem? (i := 1120) (by decide +kernel), List.mem_of_getElem? (i := 1121) (by decide +kernel)⟩
theorem lw_p93 : lw_okq (⟨"BlowOwedModel", "sumOf", "(I)I"⟩, 32) := ⟨⟨by decide +kernel, by decide +kernel⟩, List.mem_of_getElem? (i := 838) (by decide +kernel), List.mem_of_getElem? (i := 1124) (by decide +kernel), List.mem_of_getElem? (i := 1125) (by decide +kernel)⟩
theorem lw_p94 : lw_okq (⟨"BlowOwedModel", "owes", "(II)Z"⟩, 32) := ⟨⟨by decide +kernel, by decide +kernel⟩, List.mem_of_getElem? (i := 838) (by decide +kernel), List.mem_of_getElem? (i := 1132) (by decide +kernel), List.mem_of_getElem? (i := 1133) (by decide +kernel)⟩
theorem lw_p95 : lw_okq (⟨"BlowOwedModel", "hosted", "(III)J"⟩, 32) := ⟨⟨by decide +kernel, by decide +kernel⟩, List.mem_of_getElem? (i := 838) (by decide +kernel), List.mem_of_getElem? (i := 1146) (by decide +kernel), List.mem_of_getElem? (i := 1147) (by decide +kernel)⟩
def lw_privs_6 : List (MethodName × Nat) := [(⟨"BlowOwedModel", "whyNot", "(II)I"⟩, 32), (⟨"BlowOwedModel", "isOwed", "(II)Z"⟩, 32), (⟨"BlowOwedModel", "owesHere", "(II)Z"⟩, 32), (⟨"BlowOwedModel", "act", "(II)V"⟩, 32), (⟨"BlowOwedModel", "giveBack", "(I)V"⟩, 32), (⟨"BlowOwedModel", "barOfCourt", "()I"⟩, 32), (⟨"BlowOwedModel", "keep", "()V"⟩, 32), (⟨"BlowOwedModel", "stateNow", "(II)I"⟩, 32), (⟨"BlowOwedModel", "isWell", "(I)Z"⟩, 32), (⟨"BlowOwedModel", "layJourneys", "(II)V"⟩, 32), (⟨"BlowOwedModel", "arrival", "(II)I"⟩, 32), (⟨"BlowOwedModel", "canMeet", "(II)Z"⟩, 32), (⟨"BlowOwedModel", "layBalance", "()V"⟩, 32), (⟨"BlowOwedModel", "sumOf", "(I)I"⟩, 32), (⟨"BlowOwedModel", "owes", "(II)Z"⟩, 32), (⟨"BlowOwedModel", "hosted", "(III)J"⟩, 32)]
theorem lw_r6 : ∀ q ∈ lw_privs_6, lw_okq q := List.forall_mem_cons.mpr ⟨lw_p80, List.forall_mem_cons.mpr ⟨lw_p81, List.forall_mem_cons.mpr ⟨lw_p82, List.forall_mem_cons.mpr ⟨lw_p83, List.forall_mem_cons.mpr ⟨lw_p84, List.forall_mem_cons.mpr ⟨lw_p85, List.forall_mem_cons.mpr ⟨lw_p86, List.forall_mem_cons.mpr ⟨lw_p87, List.forall_mem_cons.mpr ⟨lw_p88, List.forall_mem_cons.mpr ⟨lw_p89, List.forall_mem_cons.mpr ⟨lw_p90, List.forall_mem_cons.mpr ⟨lw_p91, List.forall_mem_cons.mpr ⟨lw_p92, List.forall_mem_cons.mpr ⟨lw_p93, List.forall_mem_cons.mpr ⟨lw_p94, List.forall_mem_cons.mpr ⟨lw_p95, fun _ h => absurd h List.not_mem_nil⟩⟩⟩⟩⟩⟩⟩⟩⟩⟩⟩⟩⟩⟩⟩⟩
def lw_privs : List (MethodName × Nat) := lw_privs_1 ++ (lw_privs_2 ++ (lw_privs_3 ++ (lw_privs_4 ++ (lw_privs_5 ++ (lw_privs_6)))))
def lw_tbl : List Cond := k2_sels lw_privs ++ tables_1
theorem lw_privs_ok : ∀ q ∈ lw_privs, lw_okq q := by
  show ∀ q ∈ lw_privs_1 ++ (lw_privs_2 ++ (lw_privs_3 ++ (lw_privs_4 ++ (lw_privs_5 ++ (lw_privs_6))))), lw_okq q
  exact List.forall_mem_append.mpr ⟨lw_r1, List.forall_mem_append.mpr ⟨lw_r2, List.forall_mem_append.mpr ⟨lw_r3, List.forall_mem_append.mpr ⟨lw_r4, List.forall_mem_append.mpr ⟨lw_r5, lw_r6⟩⟩⟩⟩⟩
end
section
def RX0 : String := "BlowOwed$Court"
def TX0 : u_T := fun k => match k with
  | 0 => ("BlowOwed$Court", "land", "LBlowOwed$Land;", true)
  | 1 => ("BlowOwed$Court", "knights", "[LBlowOwed$Knight;", true)
  | 2 => ("BlowOwed$Court", "debts", "LBlowOwed$Debts;", true)
  | 3 => ("BlowOwed$Court", "sights", "LBlowOwed$Sights;", true)
  | 4 => ("BlowOwed$Court", "nobody", "LBlowOwed$Knight;", true)
  | _ => ("BlowOwed$Court", "day", "I", false)
def tyX0 : Nat → FieldType := fun k => match k with
  | 0 => .object "BlowOwed$Land"
  | 1 => .array (.object "BlowOwed$Knight")
  | 2 => .object "BlowOwed$Debts"
  | 3 => .object "BlowOwed$Sights"
  | 4 => .object "BlowOwed$Knight"
  | _ => .int
abbrev wsX00 : List Cond := u_ws RX0 TX0 6
theorem nmX0 : ∀ a, a < 6 → ∀ b, b < 6 → a ≠ b → (TX0 a).2.1 ≠ (TX0 b).2.1 := by decide +kernel
theorem tyX0_ok : ∀ k, k < 6 → parseFieldDescriptor (TX0 k).2.2.1 = some (tyX0 k) := by decide +kernel
abbrev cX0_init : ByteArray := prog_2_method_1_code
def yX0_init : MethodName := ⟨RX0, "<init>", "()V"⟩
abbrev cX0_copy : ByteArray := prog_2_method_2_code
def yX0_copy : MethodName := ⟨RX0, "copy", "(LBlowOwed$Court;)V"⟩
abbrev cX0_beginAnew : ByteArray := prog_2_method_3_code
def yX0_beginAnew : MethodName := ⟨RX0, "beginAnew", "(I)V"⟩
abbrev cX0_knightAt : ByteArray := prog_2_method_4_code
def yX0_knightAt : MethodName := ⟨RX0, "knightAt", "(I)LBlowOwed$Knight;"⟩
abbrev cX0_knightBits : ByteArray := prog_2_method_5_code
def yX0_knightBits : MethodName := ⟨RX0, "knightBits", "()I"⟩
abbrev cX0_countKnights : ByteArray := prog_2_method_6_code
def yX0_countKnights : MethodName := ⟨RX0, "countKnights", "()I"⟩
abbrev cX0_countDead : ByteArray := prog_2_method_7_code
def yX0_countDead : MethodName := ⟨RX0, "countDead", "()I"⟩
abbrev cX0_sumHonour : ByteArray := prog_2_method_8_code
def yX0_sumHonour : MethodName := ⟨RX0, "sumHonour", "()I"⟩
abbrev cX0_tryStrike : ByteArray := prog_2_method_9_code
def yX0_tryStrike : MethodName := ⟨RX0, "tryStrike", "(III)I"⟩
abbrev cX0_trySetOut : ByteArray := prog_2_method_10_code
def yX0_trySetOut : MethodName := ⟨RX0, "trySetOut", "(II)I"⟩
abbrev cX0_tryGiveBack : ByteArray := prog_2_method_11_code
def yX0_tryGiveBack : MethodName := ⟨RX0, "tryGiveBack", "(I)I"⟩
abbrev cX0_giveBackOne : ByteArray := prog_2_method_12_code
def yX0_giveBackOne : MethodName := ⟨RX0, "giveBackOne", "(LBlowOwed$Knight;I)V"⟩
abbrev cX0_tryFlinch : ByteArray := prog_2_method_13_code
def yX0_tryFlinch : MethodName := ⟨RX0, "tryFlinch", "(I)I"⟩
abbrev cX0_tryRemit : ByteArray := prog_2_method_14_code
def yX0_tryRemit : MethodName := ⟨RX0, "tryRemit", "(I)I"⟩
abbrev cX0_whyNotActing : ByteArray := prog_2_method_15_code
def yX0_whyNotActing : MethodName := ⟨RX0, "whyNotActing", "(I)I"⟩
abbrev cX0_wound : ByteArray := prog_2_method_16_code
def yX0_wound : MethodName := ⟨RX0, "wound", "(II)V"⟩
abbrev cX0_passDays : ByteArray := prog_2_method_17_code
def yX0_passDays : MethodName := ⟨RX0, "passDays", "(I)V"⟩
def RX1 : String := "BlowOwed$Debt"
def TX1 : u_T := fun k => match k with
  | 0 => ("BlowOwed$Debt", "striker", "I", false)
  | 1 => ("BlowOwed$Debt", "struck", "I", false)
  | 2 => ("BlowOwed$Debt", "much", "I", false)
  | 3 => ("BlowOwed$Debt", "day", "I", false)
  | _ => ("BlowOwed$Debt", "isGone", "Z", false)
def tyX1 : Nat → FieldType := fun k => match k with
  | 0 => .int
  | 1 => .int
  | 2 => .int
  | 3 => .int
  | _ => .boolean
abbrev wsX10 : List Cond := u_ws RX1 TX1 5
theorem nmX1 : ∀ a, a < 5 → ∀ b, b < 5 → a ≠ b → (TX1 a).2.1 ≠ (TX1 b).2.1 := by decide +kernel
theorem tyX1_ok : ∀ k, k < 5 → parseFieldDescriptor (TX1 k).2.2.1 = some (tyX1 k) := by decide +kernel
abbrev cX1_init : ByteArray := prog_3_method_1_code
def yX1_init : MethodName := ⟨RX1, "<init>", "()V"⟩
abbrev cX1_set : ByteArray := prog_3_method_2_code
def yX1_set : MethodName := ⟨RX1, "set", "(IIII)V"⟩
abbrev cX1_tell : ByteArray := prog_3_method_3_code
def yX1_tell : MethodName := ⟨RX1, "tell", "(I)I"⟩
def RX2 : String := "BlowOwed$Debts"
def TX2 : u_T := fun k => match k with
  | 0 => ("BlowOwed$Debts", "count", "I", false)
  | _ => ("BlowOwed$Debts", "rows", "[LBlowOwed$Debt;", true)
def tyX2 : Nat → FieldType := fun k => match k with
  | 0 => .int
  | _ => .array (.object "BlowOwed$Debt")
abbrev wsX20 : List Cond := u_ws RX2 TX2 2
theorem nmX2 : ∀ a, a < 2 → ∀ b, b < 2 → a ≠ b → (TX2 a).2.1 ≠ (TX2 b).2.1 := by decide +kernel
theorem tyX2_ok : ∀ k, k < 2 → parseFieldDescriptor (TX2 k).2.2.1 = some (tyX2 k) := by decide +kernel
abbrev cX2_init : ByteArray := prog_4_method_1_code
def yX2_init : MethodName := ⟨RX2, "<init>", "()V"⟩
abbrev cX2_copy : ByteArray := prog_4_method_2_code
def yX2_copy : MethodName := ⟨RX2, "copy", "(LBlowOwed$Debts;)V"⟩
abbrev cX2_has : ByteArray := prog_4_method_3_code
def yX2_has : MethodName := ⟨RX2, "has", "(I)Z"⟩
abbrev cX2_add : ByteArray := prog_4_method_4_code
def yX2_add : MethodName := ⟨RX2, "add", "(IIII)V"⟩
abbrev cX2_endAllOf : ByteArray := prog_4_method_5_code
def yX2_endAllOf : MethodName := ⟨RX2, "endAllOf", "(I)V"⟩
abbrev cX2_inherit : ByteArray := prog_4_method_6_code
def yX2_inherit : MethodName := ⟨RX2, "inherit", "(II)V"⟩
abbrev cX2_sweep : ByteArray := prog_4_method_7_code
def yX2_sweep : MethodName := ⟨RX2, "sweep", "()V"⟩
abbrev cX2_findDueTo : ByteArray := prog_4_method_8_code
def yX2_findDueTo : MethodName := ⟨RX2, "findDueTo", "(II)I"⟩
abbrev cX2_countOwedBy : ByteArray := prog_4_method_9_code
def yX2_countOwedBy : MethodName := ⟨RX2, "countOwedBy", "(I)I"⟩
def RX3 : String := "BlowOwed$Journeys"
def TX3 : u_T := fun k => match k with
  | 0 => ("BlowOwed$Journeys", "first", "[I", true)
  | 1 => ("BlowOwed$Journeys", "onward", "[I", true)
  | _ => ("BlowOwed$Journeys", "most", "[I", true)
def tyX3 : Nat → FieldType := fun k => match k with
  | 0 => .array .int
  | 1 => .array .int
  | _ => .array .int
abbrev wsX30 : List Cond := u_ws RX3 TX3 3
theorem nmX3 : ∀ a, a < 3 → ∀ b, b < 3 → a ≠ b → (TX3 a).2.1 ≠ (TX3 b).2.1 := by decide +kernel
theorem tyX3_ok : ∀ k, k < 3 → parseFieldDescriptor (TX3 k).2.2.1 = some (tyX3 k) := by decide +kernel
abbrev cX3_init : ByteArray := prog_5_method_1_code
def yX3_init : MethodName := ⟨RX3, "<init>", "()V"⟩
abbrev cX3_firstDay : ByteArray := prog_5_method_2_code
def yX3_firstDay : MethodName := ⟨RX3, "firstDay", "(LBlowOwed$Court;II)I"⟩
abbrev cX3_metAlone : ByteArray := prog_5_method_3_code
def yX3_metAlone : MethodName := ⟨RX3, "metAlone", "(LBlowOwed$Court;I)I"⟩
abbrev cX3_mostMet : ByteArray := prog_5_method_4_code
def yX3_mostMet : MethodName := ⟨RX3, "mostMet", "(LBlowOwed$Court;I)I"⟩
abbrev cX3_lengthen : ByteArray := prog_5_method_5_code
def yX3_lengthen : MethodName := ⟨RX3, "lengthen", "(LBlowOwed$Court;II)V"⟩
abbrev cX3_findBarred : ByteArray := prog_5_method_6_code
def yX3_findBarred : MethodName := ⟨RX3, "findBarred", "(LBlowOwed$Court;I)I"⟩
abbrev cX3_setOff : ByteArray := prog_5_method_7_code
def yX3_setOff : MethodName := ⟨RX3, "setOff", "(LBlowOwed$Court;I)V"⟩
abbrev cX3_goOnFrom : ByteArray := prog_5_method_8_code
def yX3_goOnFrom : MethodName := ⟨RX3, "goOnFrom", "(LBlowOwed$Court;I)V"⟩
abbrev cX3_isMet : ByteArray := prog_5_method_9_code
def yX3_isMet : MethodName := ⟨RX3, "isMet", "(LBlowOwed$Court;II[I)Z"⟩
abbrev cX3_dayAt : ByteArray := prog_5_method_10_code
def yX3_dayAt : MethodName := ⟨RX3, "dayAt", "([II)I"⟩
def RX4 : String := "BlowOwed$Knight"
def TX4 : u_T := fun k => match k with
  | 0 => ("BlowOwed$Knight", "isThere", "Z", false)
  | 1 => ("BlowOwed$Knight", "own", "I", false)
  | 2 => ("BlowOwed$Knight", "strength", "I", false)
  | 3 => ("BlowOwed$Knight", "bears", "I", false)
  | 4 => ("BlowOwed$Knight", "honour", "I", false)
  | 5 => ("BlowOwed$Knight", "place", "I", false)
  | _ => ("BlowOwed$Knight", "toGo", "I", false)
def tyX4 : Nat → FieldType := fun k => match k with
  | 0 => .boolean
  | 1 => .int
  | 2 => .int
  | 3 => .int
  | 4 => .int
  | 5 => .int
  | _ => .int
abbrev wsX40 : List Cond := u_ws RX4 TX4 7
theorem nmX4 : ∀ a, a < 7 → ∀ b, b < 7 → a ≠ b → (TX4 a).2.1 ≠ (TX4 b).2.1 := by decide +kernel
theorem tyX4_ok : ∀ k, k < 7 → parseFieldDescriptor (TX4 k).2.2.1 = some (tyX4 k) := by decide +kernel
abbrev cX4_init : ByteArray := prog_6_method_1_code
def yX4_init : MethodName := ⟨RX4, "<init>", "()V"⟩
abbrev cX4_come : ByteArray := prog_6_method_2_code
def yX4_come : MethodName := ⟨RX4, "come", "(IIII)V"⟩
abbrev cX4_leave : ByteArray := prog_6_method_3_code
def yX4_leave : MethodName := ⟨RX4, "leave", "()V"⟩
abbrev cX4_copy : ByteArray := prog_6_method_4_code
def yX4_copy : MethodName := ⟨RX4, "copy", "(LBlowOwed$Knight;)V"⟩
abbrev cX4_isAlive : ByteArray := prog_6_method_5_code
def yX4_isAlive : MethodName := ⟨RX4, "isAlive", "()Z"⟩
abbrev cX4_isDead : ByteArray := prog_6_method_6_code
def yX4_isDead : MethodName := ⟨RX4, "isDead", "()Z"⟩
abbrev cX4_isIn : ByteArray := prog_6_method_7_code
def yX4_isIn : MethodName := ⟨RX4, "isIn", "(I)Z"⟩
abbrev cX4_tell : ByteArray := prog_6_method_8_code
def yX4_tell : MethodName := ⟨RX4, "tell", "(I)I"⟩
def RX5 : String := "BlowOwed$Land"
def TX5 : u_T := fun k => match k with
  | 0 => ("BlowOwed$Land", "chapels", "I", false)
  | 1 => ("BlowOwed$Land", "yearDays", "I", false)
  | _ => ("BlowOwed$Land", "roads", "[I", true)
def tyX5 : Nat → FieldType := fun k => match k with
  | 0 => .int
  | 1 => .int
  | _ => .array .int
abbrev wsX50 : List Cond := u_ws RX5 TX5 3
theorem nmX5 : ∀ a, a < 3 → ∀ b, b < 3 → a ≠ b → (TX5 a).2.1 ≠ (TX5 b).2.1 := by decide +kernel
theorem tyX5_ok : ∀ k, k < 3 → parseFieldDescriptor (TX5 k).2.2.1 = some (tyX5 k) := by decide +kernel
abbrev cX5_init : ByteArray := prog_7_method_1_code
def yX5_init : MethodName := ⟨RX5, "<init>", "()V"⟩
abbrev cX5_copy : ByteArray := prog_7_method_2_code
def yX5_copy : MethodName := ⟨RX5, "copy", "(LBlowOwed$Land;)V"⟩
abbrev cX5_hasChapel : ByteArray := prog_7_method_3_code
def yX5_hasChapel : MethodName := ⟨RX5, "hasChapel", "(I)Z"⟩
abbrev cX5_roadDays : ByteArray := prog_7_method_4_code
def yX5_roadDays : MethodName := ⟨RX5, "roadDays", "(II)I"⟩
abbrev cX5_layRoad : ByteArray := prog_7_method_5_code
def yX5_layRoad : MethodName := ⟨RX5, "layRoad", "(III)V"⟩
abbrev cX5_isWinter : ByteArray := prog_7_method_6_code
def yX5_isWinter : MethodName := ⟨RX5, "isWinter", "(I)Z"⟩
abbrev cX5_daysUnderWay : ByteArray := prog_7_method_7_code
def yX5_daysUnderWay : MethodName := ⟨RX5, "daysUnderWay", "(III)I"⟩
abbrev cX5_firstAcross : ByteArray := prog_7_method_8_code
def yX5_firstAcross : MethodName := ⟨RX5, "firstAcross", "(III)I"⟩
abbrev cX5_fillFirstDays : ByteArray := prog_7_method_9_code
def yX5_fillFirstDays : MethodName := ⟨RX5, "fillFirstDays", "(II[I)V"⟩
def RX6 : String := "BlowOwed$Ledger"
def TX6 : u_T := fun k => match k with
  | 0 => ("BlowOwed$Ledger", "groups", "[I", true)
  | _ => ("BlowOwed$Ledger", "owes", "[I", true)
def tyX6 : Nat → FieldType := fun k => match k with
  | 0 => .array .int
  | _ => .array .int
abbrev wsX60 : List Cond := u_ws RX6 TX6 2
theorem nmX6 : ∀ a, a < 2 → ∀ b, b < 2 → a ≠ b → (TX6 a).2.1 ≠ (TX6 b).2.1 := by decide +kernel
theorem tyX6_ok : ∀ k, k < 2 → parseFieldDescriptor (TX6 k).2.2.1 = some (tyX6 k) := by decide +kernel
abbrev cX6_init : ByteArray := prog_8_method_1_code
def yX6_init : MethodName := ⟨RX6, "<init>", "()V"⟩
abbrev cX6_fewestPayments : ByteArray := prog_8_method_2_code
def yX6_fewestPayments : MethodName := ⟨RX6, "fewestPayments", "(LBlowOwed$Debts;)I"⟩
abbrev cX6_sumOf : ByteArray := prog_8_method_3_code
def yX6_sumOf : MethodName := ⟨RX6, "sumOf", "(ILBlowOwed$Debts;)I"⟩
abbrev cX6_shortestRing : ByteArray := prog_8_method_4_code
def yX6_shortestRing : MethodName := ⟨RX6, "shortestRing", "(LBlowOwed$Debts;)I"⟩
abbrev cX6_ringThrough : ByteArray := prog_8_method_5_code
def yX6_ringThrough : MethodName := ⟨RX6, "ringThrough", "(I)I"⟩
abbrev cX6_nextOf : ByteArray := prog_8_method_6_code
def yX6_nextOf : MethodName := ⟨RX6, "nextOf", "(I)I"⟩
def RX7 : String := "BlowOwed$Pad"
def TX7 : u_T := fun k => match k with
  | 0 => ("BlowOwed$Pad", "count", "I", false)
  | _ => ("BlowOwed$Pad", "signs", "[I", true)
def tyX7 : Nat → FieldType := fun k => match k with
  | 0 => .int
  | _ => .array .int
abbrev wsX70 : List Cond := u_ws RX7 TX7 2
theorem nmX7 : ∀ a, a < 2 → ∀ b, b < 2 → a ≠ b → (TX7 a).2.1 ≠ (TX7 b).2.1 := by decide +kernel
theorem tyX7_ok : ∀ k, k < 2 → parseFieldDescriptor (TX7 k).2.2.1 = some (tyX7 k) := by decide +kernel
abbrev cX7_init : ByteArray := prog_9_method_1_code
def yX7_init : MethodName := ⟨RX7, "<init>", "()V"⟩
abbrev cX7_add : ByteArray := prog_9_method_2_code
def yX7_add : MethodName := ⟨RX7, "add", "(I)V"⟩
abbrev cX7_signAt : ByteArray := prog_9_method_3_code
def yX7_signAt : MethodName := ⟨RX7, "signAt", "(I)I"⟩
abbrev cX7_numberAt : ByteArray := prog_9_method_4_code
def yX7_numberAt : MethodName := ⟨RX7, "numberAt", "(I)I"⟩
abbrev cX7_findFault : ByteArray := prog_9_method_5_code
def yX7_findFault : MethodName := ⟨RX7, "findFault", "(I)I"⟩
abbrev cX7_signsOfAct : ByteArray := prog_9_method_6_code
def yX7_signsOfAct : MethodName := ⟨RX7, "signsOfAct", "(I)I"⟩
abbrev cX7_countGood : ByteArray := prog_9_method_7_code
def yX7_countGood : MethodName := ⟨RX7, "countGood", "(II)I"⟩
abbrev cX7_countGoodDigits : ByteArray := prog_9_method_8_code
def yX7_countGoodDigits : MethodName := ⟨RX7, "countGoodDigits", "(I)I"⟩
abbrev cX7_isLetter : ByteArray := prog_9_method_9_code
def yX7_isLetter : MethodName := ⟨RX7, "isLetter", "(I)Z"⟩
abbrev cX7_daysOf : ByteArray := prog_9_method_10_code
def yX7_daysOf : MethodName := ⟨RX7, "daysOf", "(I)I"⟩
def RX8 : String := "BlowOwed$Scars"
def TX8 : u_T := fun k => match k with
  | 0 => ("BlowOwed$Scars", "ways", "[I", true)
  | 1 => ("BlowOwed$Scars", "rows", "I", false)
  | 2 => ("BlowOwed$Scars", "inSome", "I", false)
  | _ => ("BlowOwed$Scars", "inAll", "I", false)
def tyX8 : Nat → FieldType := fun k => match k with
  | 0 => .array .int
  | 1 => .int
  | 2 => .int
  | _ => .int
abbrev wsX80 : List Cond := u_ws RX8 TX8 4
theorem nmX8 : ∀ a, a < 4 → ∀ b, b < 4 → a ≠ b → (TX8 a).2.1 ≠ (TX8 b).2.1 := by decide +kernel
theorem tyX8_ok : ∀ k, k < 4 → parseFieldDescriptor (TX8 k).2.2.1 = some (tyX8 k) := by decide +kernel
abbrev cX8_init : ByteArray := prog_10_method_1_code
def yX8_init : MethodName := ⟨RX8, "<init>", "()V"⟩
abbrev cX8_fit : ByteArray := prog_10_method_2_code
def yX8_fit : MethodName := ⟨RX8, "fit", "(LBlowOwed$Court;)V"⟩
abbrev cX8_addStriker : ByteArray := prog_10_method_3_code
def yX8_addStriker : MethodName := ⟨RX8, "addStriker", "(LBlowOwed$Court;I)V"⟩
def RX9 : String := "BlowOwed$Sights"
def TX9 : u_T := fun k => match k with
  | 0 => ("BlowOwed$Sights", "count", "I", false)
  | 1 => ("BlowOwed$Sights", "struck", "[I", true)
  | _ => ("BlowOwed$Sights", "much", "[I", true)
def tyX9 : Nat → FieldType := fun k => match k with
  | 0 => .int
  | 1 => .array .int
  | _ => .array .int
abbrev wsX90 : List Cond := u_ws RX9 TX9 3
theorem nmX9 : ∀ a, a < 3 → ∀ b, b < 3 → a ≠ b → (TX9 a).2.1 ≠ (TX9 b).2.1 := by decide +kernel
theorem tyX9_ok : ∀ k, k < 3 → parseFieldDescriptor (TX9 k).2.2.1 = some (tyX9 k) := by decide +kernel
abbrev cX9_init : ByteArray := prog_11_method_1_code
def yX9_init : MethodName := ⟨RX9, "<init>", "()V"⟩
abbrev cX9_copy : ByteArray := prog_11_method_2_code
def yX9_copy : MethodName := ⟨RX9, "copy", "(LBlowOwed$Sights;)V"⟩
abbrev cX9_add : ByteArray := prog_11_method_3_code
def yX9_add : MethodName := ⟨RX9, "add", "(II)V"⟩
def RX10 : String := "BlowOwed$Trial"
def TX10 : u_T := fun k => match k with
  | 0 => ("BlowOwed$Trial", "after", "LBlowOwed$Court;", true)
  | 1 => ("BlowOwed$Trial", "acts", "I", false)
  | 2 => ("BlowOwed$Trial", "why", "I", false)
  | 3 => ("BlowOwed$Trial", "blows", "I", false)
  | _ => ("BlowOwed$Trial", "givenBack", "I", false)
def tyX10 : Nat → FieldType := fun k => match k with
  | 0 => .object "BlowOwed$Court"
  | 1 => .int
  | 2 => .int
  | 3 => .int
  | _ => .int
abbrev wsX100 : List Cond := u_ws RX10 TX10 5
theorem nmX10 : ∀ a, a < 5 → ∀ b, b < 5 → a ≠ b → (TX10 a).2.1 ≠ (TX10 b).2.1 := by decide +kernel
theorem tyX10_ok : ∀ k, k < 5 → parseFieldDescriptor (TX10 k).2.2.1 = some (tyX10 k) := by decide +kernel
abbrev cX10_init : ByteArray := prog_12_method_1_code
def yX10_init : MethodName := ⟨RX10, "<init>", "()V"⟩
abbrev cX10_hear : ByteArray := prog_12_method_2_code
def yX10_hear : MethodName := ⟨RX10, "hear", "(LBlowOwed$Pad;LBlowOwed$Court;)Z"⟩
abbrev cX10_tryAct : ByteArray := prog_12_method_3_code
def yX10_tryAct : MethodName := ⟨RX10, "tryAct", "(LBlowOwed$Pad;I)I"⟩
abbrev cX10_draw : ByteArray := prog_12_method_4_code
def yX10_draw : MethodName := ⟨RX10, "draw", "(LBlowOwed$Court;II)V"⟩
def RX11 : String := "BlowOwed"
def TX11 : u_T := fun k => match k with
  | 0 => ("BlowOwed", "pad", "LBlowOwed$Pad;", true)
  | 1 => ("BlowOwed", "court", "LBlowOwed$Court;", true)
  | 2 => ("BlowOwed", "images", "[LBlowOwed$Court;", true)
  | 3 => ("BlowOwed", "judged", "LBlowOwed$Trial;", true)
  | 4 => ("BlowOwed", "journeys", "LBlowOwed$Journeys;", true)
  | 5 => ("BlowOwed", "ledger", "LBlowOwed$Ledger;", true)
  | _ => ("BlowOwed", "scars", "LBlowOwed$Scars;", true)
def tyX11 : Nat → FieldType := fun k => match k with
  | 0 => .object "BlowOwed$Pad"
  | 1 => .object "BlowOwed$Court"
  | 2 => .array (.object "BlowOwed$Court")
  | 3 => .object "BlowOwed$Trial"
  | 4 => .object "BlowOwed$Journeys"
  | 5 => .object "BlowOwed$Ledger"
  | _ => .object "BlowOwed$Scars"
abbrev wsX110 : List Cond := u_ws RX11 TX11 7
theorem nmX11 : ∀ a, a < 7 → ∀ b, b < 7 → a ≠ b → (TX11 a).2.1 ≠ (TX11 b).2.1 := by decide +kernel
theorem tyX11_ok : ∀ k, k < 7 → parseFieldDescriptor (TX11 k).2.2.1 = some (tyX11 k) := by decide +kernel
abbrev cX11_init : ByteArray := prog_1_method_1_code
def yX11_init : MethodName := ⟨RX11, "<init>", "()V"⟩
abbrev cX11_chapels : ByteArray := prog_1_method_2_code
def yX11_chapels : MethodName := ⟨RX11, "chapels", "(I)I"⟩
abbrev cX11_road : ByteArray := prog_1_method_3_code
def yX11_road : MethodName := ⟨RX11, "road", "(III)I"⟩
abbrev cX11_yearOf : ByteArray := prog_1_method_4_code
def yX11_yearOf : MethodName := ⟨RX11, "yearOf", "(I)I"⟩
abbrev cX11_knight : ByteArray := prog_1_method_5_code
def yX11_knight : MethodName := ⟨RX11, "knight", "(IIIII)I"⟩
abbrev cX11_heir : ByteArray := prog_1_method_6_code
def yX11_heir : MethodName := ⟨RX11, "heir", "(II)I"⟩
abbrev cX11_say : ByteArray := prog_1_method_7_code
def yX11_say : MethodName := ⟨RX11, "say", "(I)I"⟩
abbrev cX11_wipe : ByteArray := prog_1_method_8_code
def yX11_wipe : MethodName := ⟨RX11, "wipe", "()I"⟩
abbrev cX11_fault : ByteArray := prog_1_method_9_code
def yX11_fault : MethodName := ⟨RX11, "fault", "()I"⟩
abbrev cX11_judge : ByteArray := prog_1_method_10_code
def yX11_judge : MethodName := ⟨RX11, "judge", "(I)I"⟩
abbrev cX11_done : ByteArray := prog_1_method_11_code
def yX11_done : MethodName := ⟨RX11, "done", "()I"⟩
abbrev cX11_state : ByteArray := prog_1_method_12_code
def yX11_state : MethodName := ⟨RX11, "state", "(II)I"⟩
abbrev cX11_behind : ByteArray := prog_1_method_13_code
def yX11_behind : MethodName := ⟨RX11, "behind", "(II)I"⟩
abbrev cX11_debt : ByteArray := prog_1_method_14_code
def yX11_debt : MethodName := ⟨RX11, "debt", "(II)I"⟩
abbrev cX11_when : ByteArray := prog_1_method_15_code
def yX11_when : MethodName := ⟨RX11, "when", "(II)I"⟩
abbrev cX11_inTime : ByteArray := prog_1_method_16_code
def yX11_inTime : MethodName := ⟨RX11, "inTime", "(I)I"⟩
abbrev cX11_round : ByteArray := prog_1_method_17_code
def yX11_round : MethodName := ⟨RX11, "round", "(II)I"⟩
abbrev cX11_hard : ByteArray := prog_1_method_18_code
def yX11_hard : MethodName := ⟨RX11, "hard", "(IIIII)I"⟩
abbrev cX11_settled : ByteArray := prog_1_method_19_code
def yX11_settled : MethodName := ⟨RX11, "settled", "()I"⟩
abbrev cX11_ring : ByteArray := prog_1_method_20_code
def yX11_ring : MethodName := ⟨RX11, "ring", "()I"⟩
abbrev cX11_reckoned : ByteArray := prog_1_method_21_code
def yX11_reckoned : MethodName := ⟨RX11, "reckoned", "(III)I"⟩
abbrev cX11_kept : ByteArray := prog_1_method_22_code
def yX11_kept : MethodName := ⟨RX11, "kept", "(IIII)J"⟩
abbrev cX11_keeps : ByteArray := prog_1_method_23_code
def yX11_keeps : MethodName := ⟨RX11, "keeps", "(III)I"⟩
abbrev cX11_seen : ByteArray := prog_1_method_24_code
def yX11_seen : MethodName := ⟨RX11, "seen", "(II)I"⟩
abbrev cX11_forget : ByteArray := prog_1_method_25_code
def yX11_forget : MethodName := ⟨RX11, "forget", "()I"⟩
abbrev cX11_who : ByteArray := prog_1_method_26_code
def yX11_who : MethodName := ⟨RX11, "who", "(I)I"⟩
abbrev cX11_snow : ByteArray := prog_1_method_27_code
def yX11_snow : MethodName := ⟨RX11, "snow", "(IIII)J"⟩
abbrev cX11_year : ByteArray := prog_1_method_28_code
def yX11_year : MethodName := ⟨RX11, "year", "(III)I"⟩
abbrev cX11_image : ByteArray := prog_1_method_29_code
def yX11_image : MethodName := ⟨RX11, "image", "(I)I"⟩
abbrev cX11_restore : ByteArray := prog_1_method_30_code
def yX11_restore : MethodName := ⟨RX11, "restore", "(I)I"⟩
abbrev cX11_told : ByteArray := prog_1_method_31_code
def yX11_told : MethodName := ⟨RX11, "told", "(I)I"⟩
abbrev cX11_toldOfKnight : ByteArray := prog_1_method_32_code
def yX11_toldOfKnight : MethodName := ⟨RX11, "toldOfKnight", "(I)I"⟩
abbrev cX11_toldOfRoad : ByteArray := prog_1_method_33_code
def yX11_toldOfRoad : MethodName := ⟨RX11, "toldOfRoad", "(I)I"⟩
abbrev cX11_bestBlow : ByteArray := prog_1_method_34_code
def yX11_bestBlow : MethodName := ⟨RX11, "bestBlow", "(LBlowOwed$Knight;LBlowOwed$Knight;II)I"⟩
abbrev cX11_gainOf : ByteArray := prog_1_method_35_code
def yX11_gainOf : MethodName := ⟨RX11, "gainOf", "(ILBlowOwed$Knight;LBlowOwed$Knight;II)I"⟩
abbrev cX11_mostKept : ByteArray := prog_1_method_36_code
def yX11_mostKept : MethodName := ⟨RX11, "mostKept", "(III)J"⟩
abbrev cX11_exchanged : ByteArray := prog_1_method_37_code
def yX11_exchanged : MethodName := ⟨RX11, "exchanged", "(IIJ)J"⟩
abbrev cX11_keptBack : ByteArray := prog_1_method_38_code
def yX11_keptBack : MethodName := ⟨RX11, "keptBack", "(IIIJ)J"⟩
abbrev cX11_goneInTime : ByteArray := prog_1_method_39_code
def yX11_goneInTime : MethodName := ⟨RX11, "goneInTime", "(III)J"⟩
abbrev cX11_power : ByteArray := prog_1_method_40_code
def yX11_power : MethodName := ⟨RX11, "power", "(II)J"⟩
abbrev cX11_tenTo : ByteArray := prog_1_method_41_code
def yX11_tenTo : MethodName := ⟨RX11, "tenTo", "(I)J"⟩
abbrev cX11_partOf : ByteArray := prog_1_method_42_code
def yX11_partOf : MethodName := ⟨RX11, "partOf", "(JJI)J"⟩
abbrev cX11_commonDivisor : ByteArray := prog_1_method_43_code
def yX11_commonDivisor : MethodName := ⟨RX11, "commonDivisor", "(JJ)J"⟩
abbrev cX11_areTenths : ByteArray := prog_1_method_44_code
def yX11_areTenths : MethodName := ⟨RX11, "areTenths", "(I)Z"⟩
abbrev cX11_isWithin : ByteArray := prog_1_method_45_code
def yX11_isWithin : MethodName := ⟨RX11, "isWithin", "(III)Z"⟩
abbrev cX11_leftOver : ByteArray := prog_1_method_46_code
def yX11_leftOver : MethodName := ⟨RX11, "leftOver", "(II)I"⟩
abbrev cX11_cut : ByteArray := prog_1_method_47_code
def yX11_cut : MethodName := ⟨RX11, "cut", "(II)I"⟩
def RX12 : String := "BlowOwedModel"
def TX12 : u_T := fun k => match k with
  | 0 => ("BlowOwedModel", "chapels", "I", false)
  | 1 => ("BlowOwedModel", "road", "[I", true)
  | 2 => ("BlowOwedModel", "yearly", "I", false)
  | 3 => ("BlowOwedModel", "there", "I", false)
  | 4 => ("BlowOwedModel", "strength", "[I", true)
  | 5 => ("BlowOwedModel", "own", "[I", true)
  | 6 => ("BlowOwedModel", "sights", "I", false)
  | 7 => ("BlowOwedModel", "sight", "[I", true)
  | 8 => ("BlowOwedModel", "day", "I", false)
  | 9 => ("BlowOwedModel", "place", "[I", true)
  | 10 => ("BlowOwedModel", "toGo", "[I", true)
  | 11 => ("BlowOwedModel", "bears", "[I", true)
  | 12 => ("BlowOwedModel", "honour", "[I", true)
  | 13 => ("BlowOwedModel", "debts", "I", false)
  | 14 => ("BlowOwedModel", "debt", "[I", true)
  | 15 => ("BlowOwedModel", "signs", "I", false)
  | 16 => ("BlowOwedModel", "pad", "[I", true)
  | 17 => ("BlowOwedModel", "dayNow", "I", false)
  | 18 => ("BlowOwedModel", "at", "[I", true)
  | 19 => ("BlowOwedModel", "goes", "[I", true)
  | 20 => ("BlowOwedModel", "life", "[I", true)
  | 21 => ("BlowOwedModel", "fame", "[I", true)
  | 22 => ("BlowOwedModel", "owed", "I", false)
  | 23 => ("BlowOwedModel", "owing", "[I", true)
  | 24 => ("BlowOwedModel", "reason", "I", false)
  | 25 => ("BlowOwedModel", "acts", "I", false)
  | 26 => ("BlowOwedModel", "soonest", "[I", true)
  | 27 => ("BlowOwedModel", "balance", "[I", true)
  | 28 => ("BlowOwedModel", "groups", "[I", true)
  | 29 => ("BlowOwedModel", "keepsFirst", "Z", false)
  | 30 => ("BlowOwedModel", "image", "[I", true)
  | _ => ("BlowOwedModel", "isKept", "[Z", true)
def tyX12 : Nat → FieldType := fun k => match k with
  | 0 => .int
  | 1 => .array .int
  | 2 => .int
  | 3 => .int
  | 4 => .array .int
  | 5 => .array .int
  | 6 => .int
  | 7 => .array .int
  | 8 => .int
  | 9 => .array .int
  | 10 => .array .int
  | 11 => .array .int
  | 12 => .array .int
  | 13 => .int
  | 14 => .array .int
  | 15 => .int
  | 16 => .array .int
  | 17 => .int
  | 18 => .array .int
  | 19 => .array .int
  | 20 => .array .int
  | 21 => .array .int
  | 22 => .int
  | 23 => .array .int
  | 24 => .int
  | 25 => .int
  | 26 => .array .int
  | 27 => .array .int
  | 28 => .array .int
  | 29 => .boolean
  | 30 => .array .int
  | _ => .array .boolean
abbrev wsX120 : List Cond := u_ws RX12 TX12 32
theorem nmX12 : ∀ a, a < 32 → ∀ b, b < 32 → a ≠ b → (TX12 a).2.1 ≠ (TX12 b).2.1 := by decide +kernel
theorem tyX12_ok : ∀ k, k < 32 → parseFieldDescriptor (TX12 k).2.2.1 = some (tyX12 k) := by decide +kernel
abbrev cX12_init : ByteArray := prog_14_method_1_code
def yX12_init : MethodName := ⟨RX12, "<init>", "()V"⟩
abbrev cX12_in : ByteArray := prog_14_method_2_code
def yX12_in : MethodName := ⟨RX12, "in", "(III)Z"⟩
abbrev cX12_has : ByteArray := prog_14_method_3_code
def yX12_has : MethodName := ⟨RX12, "has", "(II)Z"⟩
abbrev cX12_bits : ByteArray := prog_14_method_4_code
def yX12_bits : MethodName := ⟨RX12, "bits", "(I)I"⟩
abbrev cX12_isChapel : ByteArray := prog_14_method_5_code
def yX12_isChapel : MethodName := ⟨RX12, "isChapel", "(I)Z"⟩
abbrev cX12_isThere : ByteArray := prog_14_method_6_code
def yX12_isThere : MethodName := ⟨RX12, "isThere", "(I)Z"⟩
abbrev cX12_chapels : ByteArray := prog_14_method_7_code
def yX12_chapels : MethodName := ⟨RX12, "chapels", "(I)I"⟩
abbrev cX12_road : ByteArray := prog_14_method_8_code
def yX12_road : MethodName := ⟨RX12, "road", "(III)I"⟩
abbrev cX12_yearOf : ByteArray := prog_14_method_9_code
def yX12_yearOf : MethodName := ⟨RX12, "yearOf", "(I)I"⟩
abbrev cX12_knight : ByteArray := prog_14_method_10_code
def yX12_knight : MethodName := ⟨RX12, "knight", "(IIIII)I"⟩
abbrev cX12_heir : ByteArray := prog_14_method_11_code
def yX12_heir : MethodName := ⟨RX12, "heir", "(II)I"⟩
abbrev cX12_say : ByteArray := prog_14_method_12_code
def yX12_say : MethodName := ⟨RX12, "say", "(I)I"⟩
abbrev cX12_wipe : ByteArray := prog_14_method_13_code
def yX12_wipe : MethodName := ⟨RX12, "wipe", "()I"⟩
abbrev cX12_daysOf : ByteArray := prog_14_method_14_code
def yX12_daysOf : MethodName := ⟨RX12, "daysOf", "(I)I"⟩
abbrev cX12_faultOf : ByteArray := prog_14_method_15_code
def yX12_faultOf : MethodName := ⟨RX12, "faultOf", "()I"⟩
abbrev cX12_fault : ByteArray := prog_14_method_16_code
def yX12_fault : MethodName := ⟨RX12, "fault", "()I"⟩
abbrev cX12_asNow : ByteArray := prog_14_method_17_code
def yX12_asNow : MethodName := ⟨RX12, "asNow", "()V"⟩
abbrev cX12_keep : ByteArray := prog_14_method_18_code
def yX12_keep : MethodName := ⟨RX12, "keep", "()V"⟩
abbrev cX12_forgive : ByteArray := prog_14_method_19_code
def yX12_forgive : MethodName := ⟨RX12, "forgive", "(I)V"⟩
abbrev cX12_strike : ByteArray := prog_14_method_20_code
def yX12_strike : MethodName := ⟨RX12, "strike", "(II)V"⟩
abbrev cX12_isAlive : ByteArray := prog_14_method_21_code
def yX12_isAlive : MethodName := ⟨RX12, "isAlive", "(I)Z"⟩
abbrev cX12_whyNotStrike : ByteArray := prog_14_method_22_code
def yX12_whyNotStrike : MethodName := ⟨RX12, "whyNotStrike", "(III)I"⟩
abbrev cX12_hit : ByteArray := prog_14_method_23_code
def yX12_hit : MethodName := ⟨RX12, "hit", "(III)V"⟩
abbrev cX12_isOwed : ByteArray := prog_14_method_24_code
def yX12_isOwed : MethodName := ⟨RX12, "isOwed", "(II)Z"⟩
abbrev cX12_owesHere : ByteArray := prog_14_method_25_code
def yX12_owesHere : MethodName := ⟨RX12, "owesHere", "(II)Z"⟩
abbrev cX12_whyNot : ByteArray := prog_14_method_26_code
def yX12_whyNot : MethodName := ⟨RX12, "whyNot", "(II)I"⟩
abbrev cX12_giveBack : ByteArray := prog_14_method_27_code
def yX12_giveBack : MethodName := ⟨RX12, "giveBack", "(I)V"⟩
abbrev cX12_act : ByteArray := prog_14_method_28_code
def yX12_act : MethodName := ⟨RX12, "act", "(II)V"⟩
abbrev cX12_pass : ByteArray := prog_14_method_29_code
def yX12_pass : MethodName := ⟨RX12, "pass", "(I)V"⟩
abbrev cX12_goCourt : ByteArray := prog_14_method_30_code
def yX12_goCourt : MethodName := ⟨RX12, "goCourt", "()I"⟩
abbrev cX12_judge : ByteArray := prog_14_method_31_code
def yX12_judge : MethodName := ⟨RX12, "judge", "(I)I"⟩
abbrev cX12_barOfCourt : ByteArray := prog_14_method_32_code
def yX12_barOfCourt : MethodName := ⟨RX12, "barOfCourt", "()I"⟩
abbrev cX12_done : ByteArray := prog_14_method_33_code
def yX12_done : MethodName := ⟨RX12, "done", "()I"⟩
abbrev cX12_stateNow : ByteArray := prog_14_method_34_code
def yX12_stateNow : MethodName := ⟨RX12, "stateNow", "(II)I"⟩
abbrev cX12_state : ByteArray := prog_14_method_35_code
def yX12_state : MethodName := ⟨RX12, "state", "(II)I"⟩
abbrev cX12_behind : ByteArray := prog_14_method_36_code
def yX12_behind : MethodName := ⟨RX12, "behind", "(II)I"⟩
abbrev cX12_debt : ByteArray := prog_14_method_37_code
def yX12_debt : MethodName := ⟨RX12, "debt", "(II)I"⟩
abbrev cX12_arrival : ByteArray := prog_14_method_38_code
def yX12_arrival : MethodName := ⟨RX12, "arrival", "(II)I"⟩
abbrev cX12_layJourneys : ByteArray := prog_14_method_39_code
def yX12_layJourneys : MethodName := ⟨RX12, "layJourneys", "(II)V"⟩
abbrev cX12_isWell : ByteArray := prog_14_method_40_code
def yX12_isWell : MethodName := ⟨RX12, "isWell", "(I)Z"⟩
abbrev cX12_when : ByteArray := prog_14_method_41_code
def yX12_when : MethodName := ⟨RX12, "when", "(II)I"⟩
abbrev cX12_inTime : ByteArray := prog_14_method_42_code
def yX12_inTime : MethodName := ⟨RX12, "inTime", "(I)I"⟩
abbrev cX12_canMeet : ByteArray := prog_14_method_43_code
def yX12_canMeet : MethodName := ⟨RX12, "canMeet", "(II)Z"⟩
abbrev cX12_round : ByteArray := prog_14_method_44_code
def yX12_round : MethodName := ⟨RX12, "round", "(II)I"⟩
abbrev cX12_hard : ByteArray := prog_14_method_45_code
def yX12_hard : MethodName := ⟨RX12, "hard", "(IIIII)I"⟩
abbrev cX12_layBalance : ByteArray := prog_14_method_46_code
def yX12_layBalance : MethodName := ⟨RX12, "layBalance", "()V"⟩
abbrev cX12_sumOf : ByteArray := prog_14_method_47_code
def yX12_sumOf : MethodName := ⟨RX12, "sumOf", "(I)I"⟩
abbrev cX12_settled : ByteArray := prog_14_method_48_code
def yX12_settled : MethodName := ⟨RX12, "settled", "()I"⟩
abbrev cX12_owes : ByteArray := prog_14_method_49_code
def yX12_owes : MethodName := ⟨RX12, "owes", "(II)Z"⟩
abbrev cX12_ring : ByteArray := prog_14_method_50_code
def yX12_ring : MethodName := ⟨RX12, "ring", "()I"⟩
abbrev cX12_reckoned : ByteArray := prog_14_method_51_code
def yX12_reckoned : MethodName := ⟨RX12, "reckoned", "(III)I"⟩
abbrev cX12_tens : ByteArray := prog_14_method_52_code
def yX12_tens : MethodName := ⟨RX12, "tens", "(I)J"⟩
abbrev cX12_hosted : ByteArray := prog_14_method_53_code
def yX12_hosted : MethodName := ⟨RX12, "hosted", "(III)J"⟩
abbrev cX12_kept : ByteArray := prog_14_method_54_code
def yX12_kept : MethodName := ⟨RX12, "kept", "(IIII)J"⟩
abbrev cX12_keeps : ByteArray := prog_14_method_55_code
def yX12_keeps : MethodName := ⟨RX12, "keeps", "(III)I"⟩
abbrev cX12_seen : ByteArray := prog_14_method_56_code
def yX12_seen : MethodName := ⟨RX12, "seen", "(II)I"⟩
abbrev cX12_forget : ByteArray := prog_14_method_57_code
def yX12_forget : MethodName := ⟨RX12, "forget", "()I"⟩
abbrev cX12_who : ByteArray := prog_14_method_58_code
def yX12_who : MethodName := ⟨RX12, "who", "(I)I"⟩
abbrev cX12_snow : ByteArray := prog_14_method_59_code
def yX12_snow : MethodName := ⟨RX12, "snow", "(IIII)J"⟩
abbrev cX12_year : ByteArray := prog_14_method_60_code
def yX12_year : MethodName := ⟨RX12, "year", "(III)I"⟩
abbrev cX12_image : ByteArray := prog_14_method_61_code
def yX12_image : MethodName := ⟨RX12, "image", "(I)I"⟩
abbrev cX12_restore : ByteArray := prog_14_method_62_code
def yX12_restore : MethodName := ⟨RX12, "restore", "(I)I"⟩
abbrev cX12_told : ByteArray := prog_14_method_63_code
def yX12_told : MethodName := ⟨RX12, "told", "(I)I"⟩
def RJ6 : String := "java/lang/Integer"
def TJ6 : u_T := fun k => match k with
  | _ => ("", "", "", false)
def tyJ6 : Nat → FieldType := fun k => match k with
  | _ => .int
abbrev wsJ60 : List Cond := u_ws RJ6 TJ6 0
theorem nmJ6 : ∀ a, a < 0 → ∀ b, b < 0 → a ≠ b → (TJ6 a).2.1 ≠ (TJ6 b).2.1 := by decide +kernel
theorem tyJ6_ok : ∀ k, k < 0 → parseFieldDescriptor (TJ6 k).2.2.1 = some (tyJ6 k) := by decide +kernel
abbrev cJ6_bitCount_0f7a4 : ByteArray := prog_15_method_49_code
def yJ6_bitCount_0f7a4 : MethodName := ⟨RJ6, "bitCount", "(I)I"⟩
def RJ9 : String := "java/lang/Math"
def TJ9 : u_T := fun k => match k with
  | _ => ("", "", "", false)
def tyJ9 : Nat → FieldType := fun k => match k with
  | _ => .int
abbrev wsJ90 : List Cond := u_ws RJ9 TJ9 0
theorem nmJ9 : ∀ a, a < 0 → ∀ b, b < 0 → a ≠ b → (TJ9 a).2.1 ≠ (TJ9 b).2.1 := by decide +kernel
theorem tyJ9_ok : ∀ k, k < 0 → parseFieldDescriptor (TJ9 k).2.2.1 = some (tyJ9 k) := by decide +kernel
abbrev cJ9_max_7cf53 : ByteArray := prog_16_method_65_code
def yJ9_max_7cf53 : MethodName := ⟨RJ9, "max", "(II)I"⟩
abbrev cJ9_max_f86c9 : ByteArray := prog_16_method_66_code
def yJ9_max_f86c9 : MethodName := ⟨RJ9, "max", "(JJ)J"⟩
abbrev cJ9_min_7cf53 : ByteArray := prog_16_method_69_code
def yJ9_min_7cf53 : MethodName := ⟨RJ9, "min", "(II)I"⟩
def RJ10 : String := "java/lang/System"
def TJ10 : u_T := fun k => match k with
  | _ => ("", "", "", false)
def tyJ10 : Nat → FieldType := fun k => match k with
  | _ => .int
abbrev wsJ100 : List Cond := u_ws RJ10 TJ10 0
theorem nmJ10 : ∀ a, a < 0 → ∀ b, b < 0 → a ≠ b → (TJ10 a).2.1 ≠ (TJ10 b).2.1 := by decide +kernel
theorem tyJ10_ok : ∀ k, k < 0 → parseFieldDescriptor (TJ10 k).2.2.1 = some (tyJ10 k) := by decide +kernel
def RJ7 : String := "java/util/Arrays"
def TJ7 : u_T := fun k => match k with
  | _ => ("", "", "", false)
def tyJ7 : Nat → FieldType := fun k => match k with
  | _ => .int
abbrev wsJ70 : List Cond := u_ws RJ7 TJ7 0
theorem nmJ7 : ∀ a, a < 0 → ∀ b, b < 0 → a ≠ b → (TJ7 a).2.1 ≠ (TJ7 b).2.1 := by decide +kernel
theorem tyJ7_ok : ∀ k, k < 0 → parseFieldDescriptor (TJ7 k).2.2.1 = some (tyJ7 k) := by decide +kernel
abbrev cJ7_fill_53178 : ByteArray := prog_18_method_103_code
def yJ7_fill_53178 : MethodName := ⟨RJ7, "fill", "([II)V"⟩
def RL : String := "BlowOwedLaw"
abbrev cL_law : ByteArray := code
def yL_law : MethodName := ⟨RL, "law", "([I)Z"⟩
end
section
/-! THE MEMORY OF THE SYSTEM, AS A VALUE. Cell a of the memory lies at the address b + a, where b is the heap's size at the law's start.
 kinds: (c, n): c < 20: an object of class c of cl_s, with n fields; 20: int[], 21: boolean[], 22: Knight[], 23: Debt[], 24: Court[], of n places -/
abbrev cl_s : List vw_C := [(RX0, TX0, 6), (RX1, TX1, 5), (RX2, TX2, 2), (RX3, TX3, 3), (RX4, TX4, 7), (RX5, TX5, 3), (RX6, TX6, 2), (RX7, TX7, 2), (RX8, TX8, 4), (RX9, TX9, 3), (RX10, TX10, 5), (RX11, TX11, 7), (RX12, TX12, 32)]
def ty_f (c : Nat) : Nat → FieldType := match c with
  | 0 => tyX0 | 1 => tyX1 | 2 => tyX2 | 3 => tyX3 | 4 => tyX4 | 5 => tyX5 | 6 => tyX6 | 7 => tyX7 | 8 => tyX8 | 9 => tyX9 | 10 => tyX10 | 11 => tyX11 | _ => tyX12
def tb_f (c : Nat) : u_T := match c with
  | 0 => TX0 | 1 => TX1 | 2 => TX2 | 3 => TX3 | 4 => TX4 | 5 => TX5 | 6 => TX6 | 7 => TX7 | 8 => TX8 | 9 => TX9 | 10 => TX10 | 11 => TX11 | _ => TX12
def nf_c (c : Nat) : Nat := match c with
  | 0 => 6 | 1 => 5 | 2 => 2 | 3 => 3 | 4 => 7 | 5 => 3 | 6 => 2 | 7 => 2 | 8 => 4 | 9 => 3 | 10 => 5 | 11 => 7 | _ => 32
def rx_c (c : Nat) : String := match c with
  | 0 => RX0 | 1 => RX1 | 2 => RX2 | 3 => RX3 | 4 => RX4 | 5 => RX5 | 6 => RX6 | 7 => RX7 | 8 => RX8 | 9 => RX9 | 10 => RX10 | 11 => RX11 | _ => RX12
def is_r (t : FieldType) : Bool := match t with
  | .object _ => true
  | .array _ => true
  | _ => false
/-- words that stay true as the machine warms: those that a contract may hold; nest mates' links and arrays of references apart -/
def gw_s : List Cond := lw_tbl.filter goodWord
def nw_q : Cond → Bool
  | .fieldLinkNest _ _ _ _ _ _ => true
  | .methodLinkNest _ _ _ _ => true
  | .arrayOver (.object _) => true
  | _ => false
def nw_s : List Cond := lw_tbl.filter nw_q
theorem gw_in {w : Cond} (i : Nat) (h : lw_tbl[i]? = some w) (hg : goodWord w = true) : w ∈ gw_s := List.mem_filter.mpr ⟨List.mem_of_getElem? h, hg⟩
theorem nw_in {w : Cond} (i : Nat) (h : lw_tbl[i]? = some w) (hg : nw_q w = true) : w ∈ nw_s := List.mem_filter.mpr ⟨List.mem_of_getElem? h, hg⟩
theorem gw_good : ∀ w ∈ gw_s, (w.onTables && w.keeps) = true ∨ ∃ ty, w = .arrayClass ty := fun w h => good_of_word (List.mem_filter.mp h).2
theorem nw_warm {w : Cond} (hq : nw_q w = true) {s U : State} (hW : s.WarmedH U.vm) (h : va_Nw w s) : va_Nw w U := by
  unfold nw_q at hq
  split at hq
  · exact va_Nw.warmF hW h
  · exact va_Nw.warmM hW h
  · exact va_AO.moved hW.alike h
  · cases hq
theorem nw_same {w : Cond} (hq : nw_q w = true) {s U : State} (hv : s.vm = U.vm) (h : va_Nw w s) : va_Nw w U := by
  unfold nw_q at hq
  split at hq
  · exact va_Nw.same rfl hv h
  · exact va_Nw.same rfl hv h
  · exact va_AO.moved (by rw [hv]; exact Vm.Alike.refl _) h
  · cases hq
theorem cl_at : ∀ ci, ci < 13 → cl_s[ci]? = some (rx_c ci, tb_f ci, nf_c ci) := by
  intro ci h
  match ci, h with
  | 0, _ => rfl
  | 1, _ => rfl
  | 2, _ => rfl
  | 3, _ => rfl
  | 4, _ => rfl
  | 5, _ => rfl
  | 6, _ => rfl
  | 7, _ => rfl
  | 8, _ => rfl
  | 9, _ => rfl
  | 10, _ => rfl
  | 11, _ => rfl
  | 12, _ => rfl
theorem cl_ty : ∀ ci, ci < 13 → ∀ k, k < nf_c ci → parseFieldDescriptor (tb_f ci k).2.2.1 = some (ty_f ci k) := by
  intro ci h
  match ci, h with
  | 0, _ => exact tyX0_ok
  | 1, _ => exact tyX1_ok
  | 2, _ => exact tyX2_ok
  | 3, _ => exact tyX3_ok
  | 4, _ => exact tyX4_ok
  | 5, _ => exact tyX5_ok
  | 6, _ => exact tyX6_ok
  | 7, _ => exact tyX7_ok
  | 8, _ => exact tyX8_ok
  | 9, _ => exact tyX9_ok
  | 10, _ => exact tyX10_ok
  | 11, _ => exact tyX11_ok
  | 12, _ => exact tyX12_ok
theorem cl_nm : ∀ ci, ci < 13 → ∀ a, a < nf_c ci → ∀ b, b < nf_c ci → a ≠ b → (tb_f ci a).2.1 ≠ (tb_f ci b).2.1 := by
  intro ci h
  match ci, h with
  | 0, _ => exact nmX0
  | 1, _ => exact nmX1
  | 2, _ => exact nmX2
  | 3, _ => exact nmX3
  | 4, _ => exact nmX4
  | 5, _ => exact nmX5
  | 6, _ => exact nmX6
  | 7, _ => exact nmX7
  | 8, _ => exact nmX8
  | 9, _ => exact nmX9
  | 10, _ => exact nmX10
  | 11, _ => exact nmX11
  | 12, _ => exact nmX12
theorem cl_in0 : ∀ w ∈ u_ws RX0 TX0 6, w ∈ gw_s := by decide +kernel
theorem cl_in1 : ∀ w ∈ u_ws RX1 TX1 5, w ∈ gw_s := by decide +kernel
theorem cl_in2 : ∀ w ∈ u_ws RX2 TX2 2, w ∈ gw_s := by decide +kernel
theorem cl_in3 : ∀ w ∈ u_ws RX3 TX3 3, w ∈ gw_s := by decide +kernel
theorem cl_in4 : ∀ w ∈ u_ws RX4 TX4 7, w ∈ gw_s := by decide +kernel
theorem cl_in5 : ∀ w ∈ u_ws RX5 TX5 3, w ∈ gw_s := by decide +kernel
theorem cl_in6 : ∀ w ∈ u_ws RX6 TX6 2, w ∈ gw_s := by decide +kernel
theorem cl_in7 : ∀ w ∈ u_ws RX7 TX7 2, w ∈ gw_s := by decide +kernel
theorem cl_in8 : ∀ w ∈ u_ws RX8 TX8 4, w ∈ gw_s := by decide +kernel
theorem cl_in9 : ∀ w ∈ u_ws RX9 TX9 3, w ∈ gw_s := by decide +kernel
theorem cl_in10 : ∀ w ∈ u_ws RX10 TX10 5, w ∈ gw_s := by decide +kernel
theorem cl_in11 : ∀ w ∈ u_ws RX11 TX11 7, w ∈ gw_s := by decide +kernel
theorem cl_in12 : ∀ w ∈ u_ws RX12 TX12 32, w ∈ gw_s := by decide +kernel
theorem cl_in : ∀ ci, ci < 13 → ∀ w ∈ u_ws (rx_c ci) (tb_f ci) (nf_c ci), w ∈ gw_s := by
  intro ci h
  match ci, h with
  | 0, _ => exact cl_in0
  | 1, _ => exact cl_in1
  | 2, _ => exact cl_in2
  | 3, _ => exact cl_in3
  | 4, _ => exact cl_in4
  | 5, _ => exact cl_in5
  | 6, _ => exact cl_in6
  | 7, _ => exact cl_in7
  | 8, _ => exact cl_in8
  | 9, _ => exact cl_in9
  | 10, _ => exact cl_in10
  | 11, _ => exact cl_in11
  | 12, _ => exact cl_in12
/-! memory -/
abbrev Me : Type := List (Nat × Nat) × (Nat → Nat → Option Nat) × (Nat → Nat → Int32)
def me_k (M : Me) (a : Nat) : Option (Nat × Nat) := M.1[a]?
def me_r (M : Me) (a k : Nat) : Option Nat := M.2.1 a k
def me_i (M : Me) (a k : Nat) : Int32 := M.2.2 a k
def me_si (M : Me) (a k : Nat) (v : Int32) : Me := (M.1, M.2.1, fun x y => if x = a ∧ y = k then v else M.2.2 x y)
def me_sr (M : Me) (a k : Nat) (o : Option Nat) : Me := (M.1, fun x y => if x = a ∧ y = k then o else M.2.1 x y, M.2.2)
def me_cp (M : Me) (a a0 sp dp n : Nat) : Me := (M.1, M.2.1, fun x y => if x = a then va_cpy (M.2.2 a0) (M.2.2 a) sp dp n y else M.2.2 x y)
def me_nw (M : Me) (kd : Nat × Nat) : Me := (M.1 ++ [kd], fun x y => if x = M.1.length then none else M.2.1 x y, fun x y => if x = M.1.length then 0 else M.2.2 x y)
def up_v (b : Nat) (v : Value) : Value := match v with
  | .ref a => .ref (b + a)
  | v => v
def up_o (b : Nat) (o : Option Nat) : Option Nat := o.map (fun a => b + a)
theorem up_cat (b : Nat) (v : Value) : (up_v b v).category = v.category := by cases v <;> rfl
/-- a cell, as the kit's worlds have it -/
def ce_l (dA : Nat → ClassId) (b : Nat) (kd : Nat × Nat) (r : Nat → Option Nat) (i : Nat → Int32) : va_E :=
  if kd.1 < 20 then .inr (kd.1, (List.range kd.2).map (fun k => if is_r (ty_f kd.1 k) = true then va_rf (up_o b (r k)) else .int (i k)))
  else if kd.1 < 22 then .inl (dA kd.1, kd.2, .inl i)
  else .inl (dA kd.1, kd.2, .inr (.inr (.inr (.inr (fun j => up_o b (r j))))))
def en_c (dA : Nat → ClassId) (b : Nat) (M : Me) : va_W := M.1.mapIdx (fun a kd => (b + a, ce_l dA b kd (M.2.1 a) (M.2.2 a)))
theorem en_get {dA : Nat → ClassId} {b : Nat} {M : Me} (a : Nat) : (en_c dA b M)[a]? = (M.1[a]?).map (fun kd => (b + a, ce_l dA b kd (M.2.1 a) (M.2.2 a))) := by
  simp [en_c, List.getElem?_mapIdx]
theorem en_at {dA : Nat → ClassId} {b : Nat} {M : Me} {a : Nat} {kd : Nat × Nat} (h : me_k M a = some kd) : (en_c dA b M)[a]? = some (b + a, ce_l dA b kd (M.2.1 a) (M.2.2 a)) := by
  rw [en_get, show M.1[a]? = some kd from h]; rfl
theorem en_D {dA : Nat → ClassId} {b : Nat} {M : Me} : va_D (fun q => b ≤ q) (en_c dA b M) := by
  refine ⟨fun i j p q hi hj hpq => ?_, fun k q hk => ?_⟩
  · rw [en_get] at hi hj
    obtain ⟨x, -, rfl⟩ := Option.map_eq_some_iff.mp hi
    obtain ⟨y, -, rfl⟩ := Option.map_eq_some_iff.mp hj
    have h2 : b + i = b + j := hpq
    omega
  · rw [en_get] at hk
    obtain ⟨x, -, rfl⟩ := Option.map_eq_some_iff.mp hk
    exact Nat.le_add_right b k
theorem en_ext {w w2 : va_W} (h : ∀ a : Nat, w[a]? = w2[a]?) : w = w2 := List.ext_getElem? h
/-- two memories that differ in one cell alone -/
theorem en_set {dA : Nat → ClassId} {b : Nat} {M N : Me} {a : Nat} {kd : Nat × Nat} {e : va_E} (hk : me_k M a = some kd) (h1 : N.1 = M.1) (ho : ∀ x, x ≠ a → N.2.1 x = M.2.1 x ∧ N.2.2 x = M.2.2 x) (he : ce_l dA b kd (N.2.1 a) (N.2.2 a) = e) : (en_c dA b M).set a (b + a, e) = en_c dA b N := by
  apply en_ext
  intro x
  rw [List.getElem?_set, en_get, en_get, h1]
  by_cases hx : a = x
  · subst hx
    have hk2 : M.1[a]? = some kd := hk
    have hl : a < M.1.length := (List.getElem?_eq_some_iff.mp hk2).1
    rw [if_pos rfl, if_pos (by simpa [en_c] using hl), hk2]
    simp only [Option.map_some]
    rw [he]
  · rw [if_neg hx, (ho x (fun q => hx q.symm)).1, (ho x (fun q => hx q.symm)).2]
theorem en_new {dA : Nat → ClassId} {b : Nat} {M : Me} {kd : Nat × Nat} : en_c dA b (me_nw M kd) = en_c dA b M ++ [(b + M.1.length, ce_l dA b kd (fun _ => none) (fun _ => 0))] := by
  apply en_ext
  intro x
  rw [en_get]
  show ((M.1 ++ [kd])[x]?).map _ = _
  by_cases hx : x < M.1.length
  · rw [List.getElem?_append_left hx, List.getElem?_append_left (by simpa [en_c] using hx), en_get]
    have hn : ¬ x = M.1.length := by omega
    simp only [me_nw, if_neg hn]
  · by_cases hx2 : x = M.1.length
    · subst hx2
      rw [List.getElem?_append_right (Nat.le_refl _), List.getElem?_append_right (by simp [en_c])]
      simp [me_nw, en_c]
    · rw [List.getElem?_append_right (by omega), List.getElem?_append_right (by simp [en_c]; omega)]
      have h1 : ¬ x - M.1.length = 0 := by omega
      have h2 : ([kd] : List (Nat × Nat))[x - M.1.length]? = none := by
        apply List.getElem?_eq_none; simp; omega
      have h3 : ∀ z : Nat × va_E, ([z] : va_W)[x - (en_c dA b M).length]? = none := by
        intro z; apply List.getElem?_eq_none; simp [en_c]; omega
      rw [h2, h3]; rfl
end
section
/-! THE JUDGEMENT V: from this place of the method, in this memory, with these locals and this stack, the method comes to what the pure value F, carried on by G, says -/
/-- own class, bytes, places for locals, return type, name -/
abbrev My : Type := String × ByteArray × Nat × Option FieldType × String
/-- the method; the depth of calls that is left; the cells and slots that it may make -/
abbrev Xc : Type := My × Nat × Nat × Nat
abbrev Kn : Type := (Nat → ClassId) × (Nat → Nat → Nat) × (Nat → ClassId)
abbrev Rs : Type := Option Value × Me
def ty_s (K : Kn) : List (ClassId × FieldType) := [(K.2.2 20, .int), (K.2.2 21, .boolean), (K.2.2 22, .object RX4), (K.2.2 23, .object RX1), (K.2.2 24, .object RX0)]
def kn_K (K : Kn) (s : State) : Prop := va_K (K.1, K.2.1) cl_s (ty_s K) s ∧ ∀ w ∈ nw_s, va_Nw w s
theorem kn_K.warm {K : Kn} {s U : State} (hW : s.WarmedH U.vm) (h : kn_K K s) : kn_K K U := ⟨va_K.moved hW.alike h.1, fun w hw => nw_warm (List.mem_filter.mp hw).2 hW (h.2 w hw)⟩
theorem kn_K.same {K : Kn} {s U : State} (hv : s.vm = U.vm) (h : kn_K K s) : kn_K K U := ⟨va_K.moved (by rw [hv]; exact Vm.Alike.refl _) h.1, fun w hw => nw_same (List.mem_filter.mp hw).2 hv (h.2 w hw)⟩
def ho_d (K : Kn) (b : Nat) (M : Me) (U : State) : Prop := U.heap.size = b + M.1.length ∧ va_P (K.1, K.2.1) cl_s (en_c K.2.2 b M) U.heap ∧ kn_K K U
def rm_d (d mc ms : Nat) : Room := { frames := d, cells := mc, slots := ms, locals := 38 * d }
def qc_r (K : Kn) (b : Nat) (res : Rs) : Array Value → State → Outcome → State → Prop := fun _ st o t => o = .returned (res.1.map (up_v b)) ∧ ho_d K b res.2 t ∧ va_F (fun q => b ≤ q) st t
/-- a method's contract, exact: called with av in the memory M it answers res.1, and the memory is res.2 then -/
def Ct (y : MethodName) (Y : My) (d mc ms : Nat) (av : List Value) (M : Me) (res : Rs) : Prop :=
  ∀ (l : Launch) (K : Kn) (b : Nat), Met l y (.code y Y.2.1 Y.2.2.1 Y.2.2.2.1 :: gw_s) (rm_d d mc ms) (va_Pc (av.map (up_v b)) (ho_d K b M)) (qc_r K b res) mc ms (fun q => b ≤ q)
def Am (X : Xc) (p : Program) (s : State) (m : MethodId) (args : Array Value) (meth : Method) (c : Code) (K : Kn) (b : Nat) : Prop :=
  p.tables.exec = Jvm.exec ∧ c.code = X.1.2.1 ∧ meth.sig.returnType = X.1.2.2.2.1 ∧ c.maxLocals = X.1.2.2.1 ∧ s.vm.findClass X.1.1 = some m.cls ∧ (∀ w ∈ gw_s, w.before args s = true) ∧ kn_K K s ∧ meth.locks = false ∧ meth.name = X.1.2.2.2.2 ∧ b ≤ s.heap.size
def lo_k (b nL : Nat) (loc : List (Option Value)) (ls : Array Slot) : Prop := ls.size = nL ∧ lv_wf ls ∧ ∀ (k : Nat) (v : Value), loc[k]? = some (some v) → ls[k]? = some (.val (up_v b v))
def Vd (X : Xc) (u : Nat × Nat) (M : Me) (pc : Nat) (loc : List (Option Value)) (st : List Value) (res : Rs) : Prop :=
  ∀ (p : Program) (l : Launch) (e : Env) (s : State) (m : MethodId) (args : Array Value) (below : List Frame) (meth : Method) (c : Code) (K : Kn) (b : Nat) (H : Heap) (locs : List Loc) (ls : Array Slot),
    Am X p s m args meth c K b → va_P (K.1, K.2.1) cl_s (en_c K.2.2 b M) H → va_S (fun q => b ≤ q) s.heap H locs → H.size = b + M.1.length → lo_k b X.1.2.2.1 loc ls →
    W p l e (rm_d X.2.1 X.2.2.1 X.2.2.2) s m args below meth c H locs u.1 u.2 (MQ below (qc_r K b res) args s X.2.2.1 X.2.2.2 (fun q => b ≤ q)) (F0 m pc ls (st.map (up_v b)))
def V (X : Xc) (u : Nat × Nat) (M : Me) (pc : Nat) (loc : List (Option Value)) (st : List Value) {β : Type} (F : Option β) (G : β → Option Rs) : Prop :=
  ∀ res : Rs, F.bind G = some res → Vd X u M pc loc st res
section JA
variable {X : Xc} {u : Nat × Nat} {M : Me} {pc q : Nat} {loc : List (Option Value)} {st : List Value} {β : Type} {F : Option β} {G : β → Option Rs}
/-- constants -/
theorem v_iconst {n : Int} {v : Int32} (hdg : decode X.1.2.1 pc = .ok (.iconst n, 1)) (hq : pc + 1 = q) (hv : Int32.ofInt n = v) (k : V X u M q loc (.int v :: st) F G) : V X u M pc loc st F G := by
  subst hq
  intro res hres p l e s m args below meth c K b H locs ls A hP hS hz hl
  exact lv_iconst A.1 A.2.1 hdg hv (k res hres p l e s m args below meth c K b H locs ls A hP hS hz hl)
theorem v_bipush {n : Int} {v : Int32} (hdg : decode X.1.2.1 pc = .ok (.bipush n, 2)) (hq : pc + 2 = q) (hv : (Int8.ofInt n).toInt32 = v) (k : V X u M q loc (.int v :: st) F G) : V X u M pc loc st F G := by
  subst hq
  intro res hres p l e s m args below meth c K b H locs ls A hP hS hz hl
  exact lv_bipush A.1 A.2.1 hdg hv (k res hres p l e s m args below meth c K b H locs ls A hP hS hz hl)
theorem v_sipush {n : Int} {v : Int32} (hdg : decode X.1.2.1 pc = .ok (.sipush n, 3)) (hq : pc + 3 = q) (hv : (Int16.ofInt n).toInt32 = v) (k : V X u M q loc (.int v :: st) F G) : V X u M pc loc st F G := by
  subst hq
  intro res hres p l e s m args below meth c K b H locs ls A hP hS hz hl
  exact lv_sipush A.1 A.2.1 hdg hv (k res hres p l e s m args below meth c K b H locs ls A hP hS hz hl)
theorem v_lconst {n : Fin 2} {v : Int64} (hdg : decode X.1.2.1 pc = .ok (.lconst n, 1)) (hq : pc + 1 = q) (hv : Int64.ofNat (n : Nat) = v) (k : V X u M q loc (.long v :: st) F G) : V X u M pc loc st F G := by
  subst hq
  intro res hres p l e s m args below meth c K b H locs ls A hP hS hz hl
  exact lv_lconst A.1 A.2.1 hdg hv (k res hres p l e s m args below meth c K b H locs ls A hP hS hz hl)
theorem v_ldc {index : Nat} {v : Int32} (hc : Cond.constant X.1.1 index v ∈ gw_s) (hdg : decode X.1.2.1 pc = .ok (.ldc index, 2)) (hq : pc + 2 = q) (k : V X u M q loc (.int v :: st) F G) : V X u M pc loc st F G := by
  subst hq
  intro res hres p l e s m args below meth c K b H locs ls A hP hS hz hl
  exact lv_ldc A.1 A.2.1 A.2.2.2.2.1 (A.2.2.2.2.2.1 _ hc) hdg (k res hres p l e s m args below meth c K b H locs ls A hP hS hz hl)
theorem v_ldcw {index : Nat} {v : Int32} (hc : Cond.constant X.1.1 index v ∈ gw_s) (hdg : decode X.1.2.1 pc = .ok (.ldc_w index, 3)) (hq : pc + 3 = q) (k : V X u M q loc (.int v :: st) F G) : V X u M pc loc st F G := by
  subst hq
  intro res hres p l e s m args below meth c K b H locs ls A hP hS hz hl
  exact lv_ldcw A.1 A.2.1 A.2.2.2.2.1 (A.2.2.2.2.2.1 _ hc) hdg (k res hres p l e s m args below meth c K b H locs ls A hP hS hz hl)
theorem v_ldc2 {index : Nat} {v : Int64} (hc : Cond.constantLong X.1.1 index v ∈ gw_s) (hdg : decode X.1.2.1 pc = .ok (.ldc2_w index, 3)) (hq : pc + 3 = q) (k : V X u M q loc (.long v :: st) F G) : V X u M pc loc st F G := by
  subst hq
  intro res hres p l e s m args below meth c K b H locs ls A hP hS hz hl
  exact lv_ldc2 A.1 A.2.1 A.2.2.2.2.1 (A.2.2.2.2.2.1 _ hc) hdg (k res hres p l e s m args below meth c K b H locs ls A hP hS hz hl)
/-- loads, by the place in the list of locals -/
theorem v_iload_n {j : Fin 4} {i : Nat} {x : Int32} (hdg : decode X.1.2.1 pc = .ok (.iload_n j, 1)) (hq : pc + 1 = q) (hj : (j : Nat) = i) (hl0 : loc[i]? = some (some (.int x))) (k : V X u M q loc (.int x :: st) F G) : V X u M pc loc st F G := by
  subst hq
  intro res hres p l e s m args below meth c K b H locs ls A hP hS hz hl
  exact lv_iload_n A.1 A.2.1 hdg hj (hl.2.2 i _ hl0) (k res hres p l e s m args below meth c K b H locs ls A hP hS hz hl)
theorem v_iload {i : Nat} {x : Int32} (hdg : decode X.1.2.1 pc = .ok (.iload i, 2)) (hq : pc + 2 = q) (hl0 : loc[i]? = some (some (.int x))) (k : V X u M q loc (.int x :: st) F G) : V X u M pc loc st F G := by
  subst hq
  intro res hres p l e s m args below meth c K b H locs ls A hP hS hz hl
  exact lv_iload A.1 A.2.1 hdg (hl.2.2 i _ hl0) (k res hres p l e s m args below meth c K b H locs ls A hP hS hz hl)
theorem v_lload_n {j : Fin 4} {i : Nat} {x : Int64} (hdg : decode X.1.2.1 pc = .ok (.lload_n j, 1)) (hq : pc + 1 = q) (hj : (j : Nat) = i) (hl0 : loc[i]? = some (some (.long x))) (k : V X u M q loc (.long x :: st) F G) : V X u M pc loc st F G := by
  subst hq
  intro res hres p l e s m args below meth c K b H locs ls A hP hS hz hl
  exact lv_lload_n A.1 A.2.1 hdg hj (hl.2.2 i _ hl0) (k res hres p l e s m args below meth c K b H locs ls A hP hS hz hl)
theorem v_lload {i : Nat} {x : Int64} (hdg : decode X.1.2.1 pc = .ok (.lload i, 2)) (hq : pc + 2 = q) (hl0 : loc[i]? = some (some (.long x))) (k : V X u M q loc (.long x :: st) F G) : V X u M pc loc st F G := by
  subst hq
  intro res hres p l e s m args below meth c K b H locs ls A hP hS hz hl
  exact lv_lload A.1 A.2.1 hdg (hl.2.2 i _ hl0) (k res hres p l e s m args below meth c K b H locs ls A hP hS hz hl)
theorem v_aload_n {j : Fin 4} {i : Nat} {x : Nat} (hdg : decode X.1.2.1 pc = .ok (.aload_n j, 1)) (hq : pc + 1 = q) (hj : (j : Nat) = i) (hl0 : loc[i]? = some (some (.ref x))) (k : V X u M q loc (.ref x :: st) F G) : V X u M pc loc st F G := by
  subst hq
  intro res hres p l e s m args below meth c K b H locs ls A hP hS hz hl
  exact lv_aload_n A.1 A.2.1 hdg hj (hl.2.2 i _ hl0) (k res hres p l e s m args below meth c K b H locs ls A hP hS hz hl)
theorem v_aload {i : Nat} {x : Nat} (hdg : decode X.1.2.1 pc = .ok (.aload i, 2)) (hq : pc + 2 = q) (hl0 : loc[i]? = some (some (.ref x))) (k : V X u M q loc (.ref x :: st) F G) : V X u M pc loc st F G := by
  subst hq
  intro res hres p l e s m args below meth c K b H locs ls A hP hS hz hl
  exact lv_aload A.1 A.2.1 hdg (hl.2.2 i _ hl0) (k res hres p l e s m args below meth c K b H locs ls A hP hS hz hl)
end JA
/-- no value of two places right ahead of this one -/
def nl_k (loc : List (Option Value)) (k : Nat) : Bool := match k with
  | 0 => true
  | j + 1 => match loc[j]? with
    | some (some v) => v.category == 1
    | _ => true
theorem lo_has {b nL : Nat} {loc : List (Option Value)} {ls : Array Slot} (h : lo_k b nL loc ls) : lv_has ls nL ((List.range loc.length).filterMap (fun k => (loc[k]?.join).map (fun v => (k, up_v b v)))) := by
  refine ⟨h.1, h.2.1, fun q hq => ?_⟩
  obtain ⟨k, -, hk⟩ := List.mem_filterMap.mp hq
  obtain ⟨v, hv, rfl⟩ := Option.map_eq_some_iff.mp hk
  have h3 : loc[k]? = some (some v) := by
    cases h4 : loc[k]? with
    | none => rw [h4] at hv; cases hv
    | some z => rw [h4] at hv; cases z with
      | none => cases hv
      | some w => rw [show w = v from Option.some.inj hv]
  exact h.2.2 k v h3
theorem lo_mem {b : Nat} {loc : List (Option Value)} {k : Nat} {v : Value} (h : loc[k]? = some (some v)) : (k, up_v b v) ∈ (List.range loc.length).filterMap (fun k => (loc[k]?.join).map (fun v => (k, up_v b v))) := by
  refine List.mem_filterMap.mpr ⟨k, List.mem_range.mpr (List.getElem?_eq_some_iff.mp h).1, ?_⟩
  rw [h]; rfl
theorem lo_st1 {b nL : Nat} {loc : List (Option Value)} {ls2 : Array Slot} {i : Nat} {v : Value} (hn : nl_k loc i = true)
    (h : lv_has ls2 nL ((i, up_v b v) :: ((List.range loc.length).filterMap (fun k => (loc[k]?.join).map (fun v => (k, up_v b v)))).filter (fun q => !(q.1 == i) && !(q.1 + 1 == i && q.2.category == 2)))) : lo_k b nL (loc.set i (some v)) ls2 := by
  refine ⟨h.1, h.2.1, fun k w hk => ?_⟩
  rw [List.getElem?_set] at hk
  by_cases hi : i = k
  · subst hi
    rw [if_pos rfl] at hk
    split at hk
    · cases hk
      exact h.2.2 _ List.mem_cons_self
    · cases hk
  · rw [if_neg hi] at hk
    refine h.2.2 (k, up_v b w) (List.mem_cons_of_mem _ (List.mem_filter.mpr ⟨lo_mem hk, ?_⟩))
    have h1 : (k == i) = false := by simp; exact fun q => hi q.symm
    by_cases h2 : k + 1 = i
    · subst h2
      have h3 : w.category = 1 := by
        unfold nl_k at hn
        simp only [hk] at hn
        simpa using hn
      simp [up_cat, h3]
    · simp [h2]; exact fun q => hi q.symm
theorem lo_st2 {b nL : Nat} {loc : List (Option Value)} {ls2 : Array Slot} {i : Nat} {v : Value} (hn : nl_k loc i = true)
    (h : lv_has ls2 nL ((i, up_v b v) :: ((List.range loc.length).filterMap (fun k => (loc[k]?.join).map (fun v => (k, up_v b v)))).filter (fun q => !(q.1 == i) && (!(q.1 == i + 1) && !(q.1 + 1 == i && q.2.category == 2))))) : lo_k b nL ((loc.set i (some v)).set (i + 1) none) ls2 := by
  refine ⟨h.1, h.2.1, fun k w hk => ?_⟩
  rw [List.getElem?_set] at hk
  by_cases hi1 : i + 1 = k
  · subst hi1
    rw [if_pos rfl] at hk
    split at hk <;> cases hk
  · rw [if_neg hi1, List.getElem?_set] at hk
    by_cases hi : i = k
    · subst hi
      rw [if_pos rfl] at hk
      split at hk
      · cases hk
        exact h.2.2 _ List.mem_cons_self
      · cases hk
    · rw [if_neg hi] at hk
      refine h.2.2 (k, up_v b w) (List.mem_cons_of_mem _ (List.mem_filter.mpr ⟨lo_mem hk, ?_⟩))
      by_cases h2 : k + 1 = i
      · subst h2
        have h3 : w.category = 1 := by
          unfold nl_k at hn
          simp only [hk] at hn
          simpa using hn
        simp [up_cat, h3]
        omega
      · simp [h2]
        exact ⟨fun q => hi q.symm, fun q => hi1 q.symm⟩
section JB
variable {X : Xc} {u : Nat × Nat} {M : Me} {pc q : Nat} {loc loc2 : List (Option Value)} {st : List Value} {β : Type} {F : Option β} {G : β → Option Rs}
theorem v_istore_n {j : Fin 4} {i : Nat} {x : Int32} (hdg : decode X.1.2.1 pc = .ok (.istore_n j, 1)) (hq : pc + 1 = q) (hj : (j : Nat) = i) (hn : nl_k loc i = true) (hL : i < X.1.2.2.1) (he : loc.set i (some (.int x)) = loc2) (k : V X u M q loc2 st F G) : V X u M pc loc (.int x :: st) F G := by
  subst hq; subst he
  intro res hres p l e s m args below meth c K b H locs ls A hP hS hz hl
  exact lv_istore_n A.1 A.2.1 hdg hj (lo_has hl) hL rfl (fun ls2 h2 => k res hres p l e s m args below meth c K b H locs ls2 A hP hS hz (lo_st1 (v := .int x) hn h2))
theorem v_istore {i : Nat} {x : Int32} (hdg : decode X.1.2.1 pc = .ok (.istore i, 2)) (hq : pc + 2 = q) (hn : nl_k loc i = true) (hL : i < X.1.2.2.1) (he : loc.set i (some (.int x)) = loc2) (k : V X u M q loc2 st F G) : V X u M pc loc (.int x :: st) F G := by
  subst hq; subst he
  intro res hres p l e s m args below meth c K b H locs ls A hP hS hz hl
  exact lv_istore A.1 A.2.1 hdg (lo_has hl) hL rfl (fun ls2 h2 => k res hres p l e s m args below meth c K b H locs ls2 A hP hS hz (lo_st1 (v := .int x) hn h2))
theorem v_lstore_n {j : Fin 4} {i : Nat} {x : Int64} (hdg : decode X.1.2.1 pc = .ok (.lstore_n j, 1)) (hq : pc + 1 = q) (hj : (j : Nat) = i) (hn : nl_k loc i = true) (hL : i + 1 < X.1.2.2.1) (he : (loc.set i (some (.long x))).set (i + 1) none = loc2) (k : V X u M q loc2 st F G) : V X u M pc loc (.long x :: st) F G := by
  subst hq; subst he
  intro res hres p l e s m args below meth c K b H locs ls A hP hS hz hl
  exact lv_lstore_n A.1 A.2.1 hdg hj (lo_has hl) hL rfl (fun ls2 h2 => k res hres p l e s m args below meth c K b H locs ls2 A hP hS hz (lo_st2 (v := .long x) hn h2))
theorem v_lstore {i : Nat} {x : Int64} (hdg : decode X.1.2.1 pc = .ok (.lstore i, 2)) (hq : pc + 2 = q) (hn : nl_k loc i = true) (hL : i + 1 < X.1.2.2.1) (he : (loc.set i (some (.long x))).set (i + 1) none = loc2) (k : V X u M q loc2 st F G) : V X u M pc loc (.long x :: st) F G := by
  subst hq; subst he
  intro res hres p l e s m args below meth c K b H locs ls A hP hS hz hl
  exact lv_lstore A.1 A.2.1 hdg (lo_has hl) hL rfl (fun ls2 h2 => k res hres p l e s m args below meth c K b H locs ls2 A hP hS hz (lo_st2 (v := .long x) hn h2))
theorem v_astore_n {j : Fin 4} {i : Nat} {x : Nat} (hdg : decode X.1.2.1 pc = .ok (.astore_n j, 1)) (hq : pc + 1 = q) (hj : (j : Nat) = i) (hn : nl_k loc i = true) (hL : i < X.1.2.2.1) (he : loc.set i (some (.ref x)) = loc2) (k : V X u M q loc2 st F G) : V X u M pc loc (.ref x :: st) F G := by
  subst hq; subst he
  intro res hres p l e s m args below meth c K b H locs ls A hP hS hz hl
  exact lv_astore_n A.1 A.2.1 hdg hj (lo_has hl) hL rfl (fun ls2 h2 => k res hres p l e s m args below meth c K b H locs ls2 A hP hS hz (lo_st1 (v := .ref x) hn h2))
theorem v_astore {i : Nat} {x : Nat} (hdg : decode X.1.2.1 pc = .ok (.astore i, 2)) (hq : pc + 2 = q) (hn : nl_k loc i = true) (hL : i < X.1.2.2.1) (he : loc.set i (some (.ref x)) = loc2) (k : V X u M q loc2 st F G) : V X u M pc loc (.ref x :: st) F G := by
  subst hq; subst he
  intro res hres p l e s m args below meth c K b H locs ls A hP hS hz hl
  exact lv_astore A.1 A.2.1 hdg (lo_has hl) hL rfl (fun ls2 h2 => k res hres p l e s m args below meth c K b H locs ls2 A hP hS hz (lo_st1 (v := .ref x) hn h2))
theorem v_iinc {i : Nat} {n : Int} {x v : Int32} (hdg : decode X.1.2.1 pc = .ok (.iinc i n, 3)) (hq : pc + 3 = q) (hl0 : loc[i]? = some (some (.int x))) (hv : x + Int32.ofInt n = v) (hn : nl_k loc i = true) (hL : i < X.1.2.2.1) (he : loc.set i (some (.int v)) = loc2) (k : V X u M q loc2 st F G) : V X u M pc loc st F G := by
  subst hq; subst he
  intro res hres p l e s m args below meth c K b H locs ls A hP hS hz hl
  obtain ⟨kk, hkk⟩ := List.getElem?_of_mem (lo_mem (b := b) hl0)
  exact lv_iinc A.1 A.2.1 hdg (lo_has hl) hkk hv hL rfl (fun ls2 h2 => k res hres p l e s m args below meth c K b H locs ls2 A hP hS hz (lo_st1 (v := .int v) hn h2))
end JB
end
section
section JC
variable {X : Xc} {u : Nat × Nat} {M : Me} {pc q : Nat} {loc : List (Option Value)} {st : List Value} {β : Type} {F F1 F2 : Option β} {G : β → Option Rs}
theorem v_iadd {x y : Int32} (hdg : decode X.1.2.1 pc = .ok (.iadd, 1)) (hq : pc + 1 = q) (k : V X u M q loc (.int (x + y) :: st) F G) : V X u M pc loc (.int y :: .int x :: st) F G := by
  subst hq
  intro res hres p l e s m args below meth c K b H locs ls A hP hS hz hl
  exact lv_iadd A.1 A.2.1 hdg (k res hres p l e s m args below meth c K b H locs ls A hP hS hz hl)
theorem v_isub {x y : Int32} (hdg : decode X.1.2.1 pc = .ok (.isub, 1)) (hq : pc + 1 = q) (k : V X u M q loc (.int (x - y) :: st) F G) : V X u M pc loc (.int y :: .int x :: st) F G := by
  subst hq
  intro res hres p l e s m args below meth c K b H locs ls A hP hS hz hl
  exact lv_isub A.1 A.2.1 hdg (k res hres p l e s m args below meth c K b H locs ls A hP hS hz hl)
theorem v_imul {x y : Int32} (hdg : decode X.1.2.1 pc = .ok (.imul, 1)) (hq : pc + 1 = q) (k : V X u M q loc (.int (x * y) :: st) F G) : V X u M pc loc (.int y :: .int x :: st) F G := by
  subst hq
  intro res hres p l e s m args below meth c K b H locs ls A hP hS hz hl
  exact lv_imul A.1 A.2.1 hdg (k res hres p l e s m args below meth c K b H locs ls A hP hS hz hl)
theorem v_iand {x y : Int32} (hdg : decode X.1.2.1 pc = .ok (.iand, 1)) (hq : pc + 1 = q) (k : V X u M q loc (.int (x &&& y) :: st) F G) : V X u M pc loc (.int y :: .int x :: st) F G := by
  subst hq
  intro res hres p l e s m args below meth c K b H locs ls A hP hS hz hl
  exact lv_iand A.1 A.2.1 hdg (k res hres p l e s m args below meth c K b H locs ls A hP hS hz hl)
theorem v_ior {x y : Int32} (hdg : decode X.1.2.1 pc = .ok (.ior, 1)) (hq : pc + 1 = q) (k : V X u M q loc (.int (x ||| y) :: st) F G) : V X u M pc loc (.int y :: .int x :: st) F G := by
  subst hq
  intro res hres p l e s m args below meth c K b H locs ls A hP hS hz hl
  exact lv_ior A.1 A.2.1 hdg (k res hres p l e s m args below meth c K b H locs ls A hP hS hz hl)
theorem v_ixor {x y : Int32} (hdg : decode X.1.2.1 pc = .ok (.ixor, 1)) (hq : pc + 1 = q) (k : V X u M q loc (.int (x ^^^ y) :: st) F G) : V X u M pc loc (.int y :: .int x :: st) F G := by
  subst hq
  intro res hres p l e s m args below meth c K b H locs ls A hP hS hz hl
  exact lv_ixor A.1 A.2.1 hdg (k res hres p l e s m args below meth c K b H locs ls A hP hS hz hl)
theorem v_ishl {x y : Int32} (hdg : decode X.1.2.1 pc = .ok (.ishl, 1)) (hq : pc + 1 = q) (k : V X u M q loc (.int (x <<< (y &&& 31)) :: st) F G) : V X u M pc loc (.int y :: .int x :: st) F G := by
  subst hq
  intro res hres p l e s m args below meth c K b H locs ls A hP hS hz hl
  exact lv_ishl A.1 A.2.1 hdg (k res hres p l e s m args below meth c K b H locs ls A hP hS hz hl)
theorem v_ishr {x y : Int32} (hdg : decode X.1.2.1 pc = .ok (.ishr, 1)) (hq : pc + 1 = q) (k : V X u M q loc (.int (x >>> (y &&& 31)) :: st) F G) : V X u M pc loc (.int y :: .int x :: st) F G := by
  subst hq
  intro res hres p l e s m args below meth c K b H locs ls A hP hS hz hl
  exact lv_ishr A.1 A.2.1 hdg (k res hres p l e s m args below meth c K b H locs ls A hP hS hz hl)
theorem v_ladd {x y : Int64} (hdg : decode X.1.2.1 pc = .ok (.ladd, 1)) (hq : pc + 1 = q) (k : V X u M q loc (.long (x + y) :: st) F G) : V X u M pc loc (.long y :: .long x :: st) F G := by
  subst hq
  intro res hres p l e s m args below meth c K b H locs ls A hP hS hz hl
  exact lv_ladd A.1 A.2.1 hdg (k res hres p l e s m args below meth c K b H locs ls A hP hS hz hl)
theorem v_lsub {x y : Int64} (hdg : decode X.1.2.1 pc = .ok (.lsub, 1)) (hq : pc + 1 = q) (k : V X u M q loc (.long (x - y) :: st) F G) : V X u M pc loc (.long y :: .long x :: st) F G := by
  subst hq
  intro res hres p l e s m args below meth c K b H locs ls A hP hS hz hl
  exact lv_lsub A.1 A.2.1 hdg (k res hres p l e s m args below meth c K b H locs ls A hP hS hz hl)
theorem v_lmul {x y : Int64} (hdg : decode X.1.2.1 pc = .ok (.lmul, 1)) (hq : pc + 1 = q) (k : V X u M q loc (.long (x * y) :: st) F G) : V X u M pc loc (.long y :: .long x :: st) F G := by
  subst hq
  intro res hres p l e s m args below meth c K b H locs ls A hP hS hz hl
  exact lv_lmul A.1 A.2.1 hdg (k res hres p l e s m args below meth c K b H locs ls A hP hS hz hl)
theorem v_idivc {x y : Int32} (hdg : decode X.1.2.1 pc = .ok (.idiv, 1)) (hq : pc + 1 = q) (hne : ¬ y = 0) (k : V X u M q loc (.int (x / y) :: st) F G) : V X u M pc loc (.int y :: .int x :: st) F G := by
  subst hq
  intro res hres p l e s m args below meth c K b H locs ls A hP hS hz hl
  exact lv_idiv A.1 A.2.1 hdg hne (k res hres p l e s m args below meth c K b H locs ls A hP hS hz hl)
theorem v_idiv {x y : Int32} (hdg : decode X.1.2.1 pc = .ok (.idiv, 1)) (hq : pc + 1 = q) (k : V X u M q loc (.int (x / y) :: st) F G) : V X u M pc loc (.int y :: .int x :: st) (if y = 0 then none else F) G := by
  intro res hres
  by_cases hne : y = 0
  · rw [if_pos hne] at hres; cases hres
  · rw [if_neg hne] at hres; exact v_idivc hdg hq hne k res hres
theorem v_iremc {x y : Int32} (hdg : decode X.1.2.1 pc = .ok (.irem, 1)) (hq : pc + 1 = q) (hne : ¬ y = 0) (k : V X u M q loc (.int (x - x / y * y) :: st) F G) : V X u M pc loc (.int y :: .int x :: st) F G := by
  subst hq
  intro res hres p l e s m args below meth c K b H locs ls A hP hS hz hl
  exact lv_irem A.1 A.2.1 hdg hne (k res hres p l e s m args below meth c K b H locs ls A hP hS hz hl)
theorem v_irem {x y : Int32} (hdg : decode X.1.2.1 pc = .ok (.irem, 1)) (hq : pc + 1 = q) (k : V X u M q loc (.int (x - x / y * y) :: st) F G) : V X u M pc loc (.int y :: .int x :: st) (if y = 0 then none else F) G := by
  intro res hres
  by_cases hne : y = 0
  · rw [if_pos hne] at hres; cases hres
  · rw [if_neg hne] at hres; exact v_iremc hdg hq hne k res hres
theorem v_ldivc {x y : Int64} (hdg : decode X.1.2.1 pc = .ok (.ldiv, 1)) (hq : pc + 1 = q) (hne : ¬ y = 0) (k : V X u M q loc (.long (x / y) :: st) F G) : V X u M pc loc (.long y :: .long x :: st) F G := by
  subst hq
  intro res hres p l e s m args below meth c K b H locs ls A hP hS hz hl
  exact lv_ldiv A.1 A.2.1 hdg hne (k res hres p l e s m args below meth c K b H locs ls A hP hS hz hl)
theorem v_ldiv {x y : Int64} (hdg : decode X.1.2.1 pc = .ok (.ldiv, 1)) (hq : pc + 1 = q) (k : V X u M q loc (.long (x / y) :: st) F G) : V X u M pc loc (.long y :: .long x :: st) (if y = 0 then none else F) G := by
  intro res hres
  by_cases hne : y = 0
  · rw [if_pos hne] at hres; cases hres
  · rw [if_neg hne] at hres; exact v_ldivc hdg hq hne k res hres
theorem v_lremc {x y : Int64} (hdg : decode X.1.2.1 pc = .ok (.lrem, 1)) (hq : pc + 1 = q) (hne : ¬ y = 0) (k : V X u M q loc (.long (x - x / y * y) :: st) F G) : V X u M pc loc (.long y :: .long x :: st) F G := by
  subst hq
  intro res hres p l e s m args below meth c K b H locs ls A hP hS hz hl
  exact lv_lrem A.1 A.2.1 hdg hne (k res hres p l e s m args below meth c K b H locs ls A hP hS hz hl)
theorem v_lrem {x y : Int64} (hdg : decode X.1.2.1 pc = .ok (.lrem, 1)) (hq : pc + 1 = q) (k : V X u M q loc (.long (x - x / y * y) :: st) F G) : V X u M pc loc (.long y :: .long x :: st) (if y = 0 then none else F) G := by
  intro res hres
  by_cases hne : y = 0
  · rw [if_pos hne] at hres; cases hres
  · rw [if_neg hne] at hres; exact v_lremc hdg hq hne k res hres
theorem v_iushr {x y : Int32} (hdg : decode X.1.2.1 pc = .ok (.iushr, 1)) (hq : pc + 1 = q) (k : V X u M q loc (.int ((x.toUInt32 >>> (y.toUInt32 &&& Int32.toUInt32 31)).toInt32) :: st) F G) : V X u M pc loc (.int y :: .int x :: st) F G := by
  subst hq
  intro res hres p l e s m args below meth c K b H locs ls A hP hS hz hl
  exact lv_iushr A.1 A.2.1 hdg rfl (k res hres p l e s m args below meth c K b H locs ls A hP hS hz hl)
theorem v_i2l {x : Int32} (hdg : decode X.1.2.1 pc = .ok (.i2l, 1)) (hq : pc + 1 = q) (k : V X u M q loc (.long x.toInt64 :: st) F G) : V X u M pc loc (.int x :: st) F G := by
  subst hq
  intro res hres p l e s m args below meth c K b H locs ls A hP hS hz hl
  exact lv_i2l A.1 A.2.1 hdg rfl (k res hres p l e s m args below meth c K b H locs ls A hP hS hz hl)
theorem v_dup {v : Value} (hdg : decode X.1.2.1 pc = .ok (.dup, 1)) (hq : pc + 1 = q) (hv : v.category = 1) (k : V X u M q loc (v :: v :: st) F G) : V X u M pc loc (v :: st) F G := by
  subst hq
  intro res hres p l e s m args below meth c K b H locs ls A hP hS hz hl
  exact lv_dup A.1 A.2.1 hdg (by rw [up_cat]; exact hv) (k res hres p l e s m args below meth c K b H locs ls A hP hS hz hl)
theorem v_pop {v : Value} (hdg : decode X.1.2.1 pc = .ok (.pop, 1)) (hq : pc + 1 = q) (hv : v.category = 1) (k : V X u M q loc st F G) : V X u M pc loc (v :: st) F G := by
  subst hq
  intro res hres p l e s m args below meth c K b H locs ls A hP hS hz hl
  exact lv_pop A.1 A.2.1 hdg (by rw [up_cat]; exact hv) (k res hres p l e s m args below meth c K b H locs ls A hP hS hz hl)
theorem v_pop2 {v : Value} (hdg : decode X.1.2.1 pc = .ok (.pop2, 1)) (hq : pc + 1 = q) (hv : v.category = 2) (k : V X u M q loc st F G) : V X u M pc loc (v :: st) F G := by
  subst hq
  intro res hres p l e s m args below meth c K b H locs ls A hP hS hz hl
  exact lv_pop2_2 A.1 A.2.1 hdg (by rw [up_cat]; exact hv) (k res hres p l e s m args below meth c K b H locs ls A hP hS hz hl)
theorem v_dup2 {v w : Value} (hdg : decode X.1.2.1 pc = .ok (.dup2, 1)) (hq : pc + 1 = q) (hv : v.category = 1) (hw : w.category = 1) (k : V X u M q loc (v :: w :: v :: w :: st) F G) : V X u M pc loc (v :: w :: st) F G := by
  subst hq
  intro res hres p l e s m args below meth c K b H locs ls A hP hS hz hl
  exact lv_dup2_11 A.1 A.2.1 hdg (by rw [up_cat]; exact hv) (by rw [up_cat]; exact hw) (k res hres p l e s m args below meth c K b H locs ls A hP hS hz hl)
theorem v_dupx1 {v w : Value} (hdg : decode X.1.2.1 pc = .ok (.dup_x1, 1)) (hq : pc + 1 = q) (hv : v.category = 1) (hw : w.category = 1) (k : V X u M q loc (v :: w :: v :: st) F G) : V X u M pc loc (v :: w :: st) F G := by
  subst hq
  intro res hres p l e s m args below meth c K b H locs ls A hP hS hz hl
  exact lv_dup_x1 A.1 A.2.1 hdg (by rw [up_cat]; exact hv) (by rw [up_cat]; exact hw) (k res hres p l e s m args below meth c K b H locs ls A hP hS hz hl)
theorem v_icmp_eq {x y : Int32} {off : Int} {tgt : Nat} (hdg : decode X.1.2.1 pc = .ok (.if_icmp .eq off, 3)) (ht : (pc : Int) + off = (tgt : Int)) (hq : pc + 3 = q) (k1 : V X u M tgt loc st F1 G) (k2 : V X u M q loc st F2 G) : V X u M pc loc (.int y :: .int x :: st) (if x = y then F1 else F2) G := by
  subst hq
  intro res hres p l e s m args below meth c K b H locs ls A hP hS hz hl
  exact lv_icmp_eq A.1 A.2.1 hdg ht (fun hc => (k1 res (by rw [if_pos hc] at hres; exact hres) p l e s m args below meth c K b H locs ls A hP hS hz hl)) (fun hc => (k2 res (by rw [if_neg hc] at hres; exact hres) p l e s m args below meth c K b H locs ls A hP hS hz hl))
theorem v_icmp_ne {x y : Int32} {off : Int} {tgt : Nat} (hdg : decode X.1.2.1 pc = .ok (.if_icmp .ne off, 3)) (ht : (pc : Int) + off = (tgt : Int)) (hq : pc + 3 = q) (k1 : V X u M tgt loc st F1 G) (k2 : V X u M q loc st F2 G) : V X u M pc loc (.int y :: .int x :: st) (if x = y then F2 else F1) G := by
  subst hq
  intro res hres p l e s m args below meth c K b H locs ls A hP hS hz hl
  exact lv_icmp_ne A.1 A.2.1 hdg ht (fun hc => (k1 res (by rw [if_neg hc] at hres; exact hres) p l e s m args below meth c K b H locs ls A hP hS hz hl)) (fun hc => (k2 res (by rw [if_pos hc] at hres; exact hres) p l e s m args below meth c K b H locs ls A hP hS hz hl))
theorem v_icmp_lt {x y : Int32} {off : Int} {tgt : Nat} (hdg : decode X.1.2.1 pc = .ok (.if_icmp .lt off, 3)) (ht : (pc : Int) + off = (tgt : Int)) (hq : pc + 3 = q) (k1 : V X u M tgt loc st F1 G) (k2 : V X u M q loc st F2 G) : V X u M pc loc (.int y :: .int x :: st) (if x < y then F1 else F2) G := by
  subst hq
  intro res hres p l e s m args below meth c K b H locs ls A hP hS hz hl
  exact lv_icmp_lt A.1 A.2.1 hdg ht (fun hc => (k1 res (by rw [if_pos hc] at hres; exact hres) p l e s m args below meth c K b H locs ls A hP hS hz hl)) (fun hc => (k2 res (by rw [if_neg hc] at hres; exact hres) p l e s m args below meth c K b H locs ls A hP hS hz hl))
theorem v_icmp_ge {x y : Int32} {off : Int} {tgt : Nat} (hdg : decode X.1.2.1 pc = .ok (.if_icmp .ge off, 3)) (ht : (pc : Int) + off = (tgt : Int)) (hq : pc + 3 = q) (k1 : V X u M tgt loc st F1 G) (k2 : V X u M q loc st F2 G) : V X u M pc loc (.int y :: .int x :: st) (if y ≤ x then F1 else F2) G := by
  subst hq
  intro res hres p l e s m args below meth c K b H locs ls A hP hS hz hl
  exact lv_icmp_ge A.1 A.2.1 hdg ht (fun hc => (k1 res (by rw [if_pos hc] at hres; exact hres) p l e s m args below meth c K b H locs ls A hP hS hz hl)) (fun hc => (k2 res (by rw [if_neg hc] at hres; exact hres) p l e s m args below meth c K b H locs ls A hP hS hz hl))
theorem v_icmp_gt {x y : Int32} {off : Int} {tgt : Nat} (hdg : decode X.1.2.1 pc = .ok (.if_icmp .gt off, 3)) (ht : (pc : Int) + off = (tgt : Int)) (hq : pc + 3 = q) (k1 : V X u M tgt loc st F1 G) (k2 : V X u M q loc st F2 G) : V X u M pc loc (.int y :: .int x :: st) (if y < x then F1 else F2) G := by
  subst hq
  intro res hres p l e s m args below meth c K b H locs ls A hP hS hz hl
  exact lv_icmp_gt A.1 A.2.1 hdg ht (fun hc => (k1 res (by rw [if_pos hc] at hres; exact hres) p l e s m args below meth c K b H locs ls A hP hS hz hl)) (fun hc => (k2 res (by rw [if_neg hc] at hres; exact hres) p l e s m args below meth c K b H locs ls A hP hS hz hl))
theorem v_icmp_le {x y : Int32} {off : Int} {tgt : Nat} (hdg : decode X.1.2.1 pc = .ok (.if_icmp .le off, 3)) (ht : (pc : Int) + off = (tgt : Int)) (hq : pc + 3 = q) (k1 : V X u M tgt loc st F1 G) (k2 : V X u M q loc st F2 G) : V X u M pc loc (.int y :: .int x :: st) (if x ≤ y then F1 else F2) G := by
  subst hq
  intro res hres p l e s m args below meth c K b H locs ls A hP hS hz hl
  exact lv_icmp_le A.1 A.2.1 hdg ht (fun hc => (k1 res (by rw [if_pos hc] at hres; exact hres) p l e s m args below meth c K b H locs ls A hP hS hz hl)) (fun hc => (k2 res (by rw [if_neg hc] at hres; exact hres) p l e s m args below meth c K b H locs ls A hP hS hz hl))
theorem v_if_eq {x : Int32} {off : Int} {tgt : Nat} (hdg : decode X.1.2.1 pc = .ok (.ifCond .eq off, 3)) (ht : (pc : Int) + off = (tgt : Int)) (hq : pc + 3 = q) (k1 : V X u M tgt loc st F1 G) (k2 : V X u M q loc st F2 G) : V X u M pc loc (.int x :: st) (if x = 0 then F1 else F2) G := by
  subst hq
  intro res hres p l e s m args below meth c K b H locs ls A hP hS hz hl
  exact lv_if_eq A.1 A.2.1 hdg ht (fun hc => (k1 res (by rw [if_pos hc] at hres; exact hres) p l e s m args below meth c K b H locs ls A hP hS hz hl)) (fun hc => (k2 res (by rw [if_neg hc] at hres; exact hres) p l e s m args below meth c K b H locs ls A hP hS hz hl))
theorem v_if_ne {x : Int32} {off : Int} {tgt : Nat} (hdg : decode X.1.2.1 pc = .ok (.ifCond .ne off, 3)) (ht : (pc : Int) + off = (tgt : Int)) (hq : pc + 3 = q) (k1 : V X u M tgt loc st F1 G) (k2 : V X u M q loc st F2 G) : V X u M pc loc (.int x :: st) (if x = 0 then F2 else F1) G := by
  subst hq
  intro res hres p l e s m args below meth c K b H locs ls A hP hS hz hl
  exact lv_if_ne A.1 A.2.1 hdg ht (fun hc => (k1 res (by rw [if_neg hc] at hres; exact hres) p l e s m args below meth c K b H locs ls A hP hS hz hl)) (fun hc => (k2 res (by rw [if_pos hc] at hres; exact hres) p l e s m args below meth c K b H locs ls A hP hS hz hl))
theorem v_if_lt {x : Int32} {off : Int} {tgt : Nat} (hdg : decode X.1.2.1 pc = .ok (.ifCond .lt off, 3)) (ht : (pc : Int) + off = (tgt : Int)) (hq : pc + 3 = q) (k1 : V X u M tgt loc st F1 G) (k2 : V X u M q loc st F2 G) : V X u M pc loc (.int x :: st) (if x < 0 then F1 else F2) G := by
  subst hq
  intro res hres p l e s m args below meth c K b H locs ls A hP hS hz hl
  exact lv_if_lt A.1 A.2.1 hdg ht (fun hc => (k1 res (by rw [if_pos hc] at hres; exact hres) p l e s m args below meth c K b H locs ls A hP hS hz hl)) (fun hc => (k2 res (by rw [if_neg hc] at hres; exact hres) p l e s m args below meth c K b H locs ls A hP hS hz hl))
theorem v_if_ge {x : Int32} {off : Int} {tgt : Nat} (hdg : decode X.1.2.1 pc = .ok (.ifCond .ge off, 3)) (ht : (pc : Int) + off = (tgt : Int)) (hq : pc + 3 = q) (k1 : V X u M tgt loc st F1 G) (k2 : V X u M q loc st F2 G) : V X u M pc loc (.int x :: st) (if 0 ≤ x then F1 else F2) G := by
  subst hq
  intro res hres p l e s m args below meth c K b H locs ls A hP hS hz hl
  exact lv_if_ge A.1 A.2.1 hdg ht (fun hc => (k1 res (by rw [if_pos hc] at hres; exact hres) p l e s m args below meth c K b H locs ls A hP hS hz hl)) (fun hc => (k2 res (by rw [if_neg hc] at hres; exact hres) p l e s m args below meth c K b H locs ls A hP hS hz hl))
theorem v_if_gt {x : Int32} {off : Int} {tgt : Nat} (hdg : decode X.1.2.1 pc = .ok (.ifCond .gt off, 3)) (ht : (pc : Int) + off = (tgt : Int)) (hq : pc + 3 = q) (k1 : V X u M tgt loc st F1 G) (k2 : V X u M q loc st F2 G) : V X u M pc loc (.int x :: st) (if 0 < x then F1 else F2) G := by
  subst hq
  intro res hres p l e s m args below meth c K b H locs ls A hP hS hz hl
  exact lv_if_gt A.1 A.2.1 hdg ht (fun hc => (k1 res (by rw [if_pos hc] at hres; exact hres) p l e s m args below meth c K b H locs ls A hP hS hz hl)) (fun hc => (k2 res (by rw [if_neg hc] at hres; exact hres) p l e s m args below meth c K b H locs ls A hP hS hz hl))
theorem v_if_le {x : Int32} {off : Int} {tgt : Nat} (hdg : decode X.1.2.1 pc = .ok (.ifCond .le off, 3)) (ht : (pc : Int) + off = (tgt : Int)) (hq : pc + 3 = q) (k1 : V X u M tgt loc st F1 G) (k2 : V X u M q loc st F2 G) : V X u M pc loc (.int x :: st) (if x ≤ 0 then F1 else F2) G := by
  subst hq
  intro res hres p l e s m args below meth c K b H locs ls A hP hS hz hl
  exact lv_if_le A.1 A.2.1 hdg ht (fun hc => (k1 res (by rw [if_pos hc] at hres; exact hres) p l e s m args below meth c K b H locs ls A hP hS hz hl)) (fun hc => (k2 res (by rw [if_neg hc] at hres; exact hres) p l e s m args below meth c K b H locs ls A hP hS hz hl))
theorem v_goto {off : Int} {tgt : Nat} (hdg : decode X.1.2.1 pc = .ok (.goto off, 3)) (ht : (pc : Int) + off = (tgt : Int)) (k : V X u M tgt loc st F G) : V X u M pc loc st F G := by
  intro res hres p l e s m args below meth c K b H locs ls A hP hS hz hl
  exact lv_goto A.1 A.2.1 hdg ht (k res hres p l e s m args below meth c K b H locs ls A hP hS hz hl)
theorem v_ifnn {r : Option Nat} {off : Int} {tgt : Nat} (hdg : decode X.1.2.1 pc = .ok (.ifnonnull off, 3)) (ht : (pc : Int) + off = (tgt : Int)) (hq : pc + 3 = q) (k1 : V X u M tgt loc st F1 G) (k2 : V X u M q loc st F2 G) : V X u M pc loc (va_rf r :: st) (if r = none then F2 else F1) G := by
  subst hq
  intro res hres p l e s m args below meth c K b H locs ls A hP hS hz hl
  cases r with
  | none => exact lv_ifnonnullN A.1 A.2.1 hdg (k2 res (by rw [if_pos rfl] at hres; exact hres) p l e s m args below meth c K b H locs ls A hP hS hz hl)
  | some x => exact lv_ifnonnull A.1 A.2.1 hdg ht (k1 res (by rw [if_neg (fun h => by cases h)] at hres; exact hres) p l e s m args below meth c K b H locs ls A hP hS hz hl)
theorem v_tbl_in {x cst : Int32} {dflt lo hi : Int} {offs : Array Int} {len : Nat} {off : Int} {tgt : Nat} (hdg : decode X.1.2.1 pc = .ok (.tableswitch dflt lo hi offs, len)) (hx : x = cst) (h1 : ¬ cst.toInt < lo) (h2 : ¬ hi < cst.toInt) (ho : offs[(cst.toInt - lo).toNat]? = some off) (ht : (pc : Int) + off = (tgt : Int)) (k : V X u M tgt loc st F G) : V X u M pc loc (.int x :: st) F G := by
  subst hx
  intro res hres p l e s m args below meth c K b H locs ls A hP hS hz hl
  exact lv_tableIn A.1 A.2.1 hdg h1 h2 ho ht (k res hres p l e s m args below meth c K b H locs ls A hP hS hz hl)
theorem v_tbl_out {x : Int32} {dflt lo hi : Int} {offs : Array Int} {len : Nat} {tgt : Nat} (hdg : decode X.1.2.1 pc = .ok (.tableswitch dflt lo hi offs, len)) (h : x.toInt < lo ∨ hi < x.toInt) (ht : (pc : Int) + dflt = (tgt : Int)) (k : V X u M tgt loc st F G) : V X u M pc loc (.int x :: st) F G := by
  intro res hres p l e s m args below meth c K b H locs ls A hP hS hz hl
  exact lv_tableOut A.1 A.2.1 hdg h ht (k res hres p l e s m args below meth c K b H locs ls A hP hS hz hl)
theorem v_lkp {x : Int32} {dflt : Int} {ps : Array (Int × Int)} {len : Nat} {off : Int} {tgt : Nat} (hdg : decode X.1.2.1 pc = .ok (.lookupswitch dflt ps, len)) (hp : (ps.toList.zip (ps.toList.drop 1)).all (fun (a, next) => a.1 < next.1) = true) (ho : Op.lookupswitch.offset ps.toList dflt x.toInt = off) (ht : (pc : Int) + off = (tgt : Int)) (k : V X u M tgt loc st F G) : V X u M pc loc (.int x :: st) F G := by
  intro res hres p l e s m args below meth c K b H locs ls A hP hS hz hl
  exact lv_lookup A.1 A.2.1 hdg hp ho ht (k res hres p l e s m args below meth c K b H locs ls A hP hS hz hl)
theorem v_ite {c0 : Prop} [Decidable c0] (k1 : c0 → V X u M pc loc st F1 G) (k2 : ¬ c0 → V X u M pc loc st F2 G) : V X u M pc loc st (if c0 then F1 else F2) G := by
  intro res hres
  by_cases hc : c0
  · rw [if_pos hc] at hres; exact k1 hc res hres
  · rw [if_neg hc] at hres; exact k2 hc res hres
theorem v_none : V X u M pc loc st (none : Option β) G := by
  intro res hres
  cases hres
end JC
section JD
variable {X : Xc} {u : Nat × Nat} {M : Me} {pc q : Nat} {loc : List (Option Value)} {st : List Value} {β γ : Type} {G : β → Option Rs}
/-- a region whose value is used behind it -/
theorem v_bind {F : Option γ} {Hh : γ → Option β} (k : V X u M pc loc st F (fun v => (Hh v).bind G)) : V X u M pc loc st (F.bind Hh) G := by
  intro res hres
  exact k res (by rw [Option.bind_assoc] at hres; exact hres)
/-- a region, and the place behind it to which all its ways lead -/
theorem v_join {F : Option γ} {Hh : γ → Option β} (jp : Nat) (eM : γ → Me) (eL : γ → List (Option Value)) (eS : γ → List Value)
    (kF : ∀ K : γ → Option Rs, (∀ v, V X u (eM v) jp (eL v) (eS v) (some v) K) → V X u M pc loc st F K)
    (kH : ∀ v, V X u (eM v) jp (eL v) (eS v) (Hh v) G) : V X u M pc loc st (F.bind Hh) G :=
  v_bind (kF _ (fun v => kH v))
/-- what is named is a value -/
def let_v {α : Type} (e : α) (K : α → Option β) : Option β := K e
theorem v_let {α : Type} {e : α} {Kf : α → Option β} (k : V X u M pc loc st (Kf e) G) : V X u M pc loc st (let_v e Kf) G := k
/-- a loop's rounds -/
def it_r {S E : Type} (step : S → Option (S ⊕ E)) : Nat → S → Option E
  | 0, _ => none
  | n + 1, s => (step s).bind (fun r => match r with
    | .inl t => it_r step n t
    | .inr x => some x)
theorem it_more {S E : Type} {step : S → Option (S ⊕ E)} : ∀ {n : Nat} {s : S} {x : E}, it_r step n s = some x → ∀ m, n ≤ m → it_r step m s = some x := by
  intro n
  induction n with
  | zero => intro s x h; cases h
  | succ n ih =>
    intro s x h m hm
    obtain ⟨m, rfl⟩ : ∃ z, m = z + 1 := ⟨m - 1, by omega⟩
    unfold it_r at h ⊢
    cases hs : step s with
    | none => rw [hs] at h; cases h
    | some r =>
      rw [hs] at h
      simp only [Option.bind_some] at h ⊢
      cases r with
      | inl t => exact ih h m (by omega)
      | inr y => exact h
noncomputable def lp {S E : Type} (step : S → Option (S ⊕ E)) (s : S) : Option E := @dite _ (∃ (n : Nat) (x : E), it_r step n s = some x) (Classical.propDecidable _) (fun h => some h.choose_spec.choose) (fun _ => none)
theorem lp_some {S E : Type} {step : S → Option (S ⊕ E)} {s : S} {x : E} : lp step s = some x ↔ ∃ n, it_r step n s = some x := by
  unfold lp
  constructor
  · intro h
    split at h
    · rename_i h0
      have h1 := h0.choose_spec.choose_spec
      rw [Option.some.inj h] at h1
      exact ⟨_, h1⟩
    · cases h
  · rintro ⟨n, hn⟩
    have h0 : ∃ (n : Nat) (x : E), it_r step n s = some x := ⟨n, x, hn⟩
    rw [dif_pos h0]
    have h1 := h0.choose_spec.choose_spec
    have h2 := it_more h1 (h0.choose + n) (by omega)
    have h3 := it_more hn (h0.choose + n) (by omega)
    rw [h2] at h3
    exact h3
theorem lp_eq {S E : Type} (step : S → Option (S ⊕ E)) (s : S) : lp step s = (step s).bind (fun r => match r with
    | .inl t => lp step t
    | .inr x => some x) := by
  cases hs : step s with
  | none =>
    cases hl : lp step s with
    | none => rfl
    | some x =>
      obtain ⟨n, hn⟩ := lp_some.mp hl
      cases n with
      | zero => cases hn
      | succ n => unfold it_r at hn; rw [hs] at hn; cases hn
  | some r =>
    simp only [Option.bind_some]
    cases r with
    | inr x => exact lp_some.mpr ⟨1, by unfold it_r; rw [hs]; rfl⟩
    | inl t =>
      show lp step s = lp step t
      cases ht : lp step t with
      | some x =>
        obtain ⟨n, hn⟩ := lp_some.mp ht
        exact lp_some.mpr ⟨n + 1, by unfold it_r; rw [hs]; exact hn⟩
      | none =>
        cases hl : lp step s with
        | none => rfl
        | some x =>
          obtain ⟨n, hn⟩ := lp_some.mp hl
          cases n with
          | zero => cases hn
          | succ n =>
            unfold it_r at hn; rw [hs] at hn
            rw [lp_some.mpr ⟨n, hn⟩] at ht
            cases ht
/-- where a round leads: back to the head, or out -/
def lg_k {S E : Type} (k : S → Option Rs) (K : E → Option Rs) : S ⊕ E → Option Rs := fun r => match r with
  | .inl t => k t
  | .inr x => K x
theorem v_loop {S E : Type} {step : S → Option (S ⊕ E)} {s0 : S} {K : E → Option Rs} (eM : S → Me) (eL : S → List (Option Value))
    (hb : ∀ k : S → Option Rs, (∀ t, V X u (eM t) pc (eL t) [] (some t) k) → ∀ t, V X u (eM t) pc (eL t) [] (step t) (lg_k k K)) : V X u (eM s0) pc (eL s0) [] (lp step s0) K := by
  intro res hres
  cases hl : lp step s0 with
  | none => rw [hl] at hres; cases hres
  | some x =>
    rw [hl] at hres
    obtain ⟨n, hn⟩ := lp_some.mp hl
    have key : ∀ (n : Nat) (t : S), V X u (eM t) pc (eL t) [] (it_r step n t) K := by
      intro n
      induction n with
      | zero => intro t; exact v_none
      | succ n ih =>
        intro t r2 h2
        refine hb (fun z => (it_r step n z).bind K) (fun z => ih z) t r2 ?_
        unfold it_r at h2
        rw [← h2, Option.bind_assoc]
        congr 1
        funext z
        cases z <;> rfl
    exact key n s0 res (by rw [hn]; exact hres)
theorem v_inl {S E : Type} {t : S} {k : S → Option Rs} {K : E → Option Rs} (h : V X u M pc loc st (some t) k) : V X u M pc loc st (some (Sum.inl t : S ⊕ E)) (lg_k k K) := h
theorem v_inr {S E : Type} {x : E} {k : S → Option Rs} {K : E → Option Rs} (h : V X u M pc loc st (some x) K) : V X u M pc loc st (some (Sum.inr x : S ⊕ E)) (lg_k k K) := h
theorem v_some {v : γ} {Hh : γ → Option β} (h : V X u M pc loc st (Hh v) G) : V X u M pc loc st (some v) (fun v => (Hh v).bind G) := h
/-- returns -/
theorem v_iret {F : Option β} {x : Int32} (hr : X.1.2.2.2.1 = some .int) (hdg : decode X.1.2.1 pc = .ok (.ireturn, 1)) (hu : u.1 ≤ X.2.2.1 ∧ u.2 ≤ X.2.2.2) (hF : F.bind G = some (some (.int x), M)) : V X u M pc loc [.int x] F G := by
  intro res hres p l e s m args below meth c K b H locs ls A hP hS hz hl
  rw [hF] at hres
  cases hres
  refine W.widen (k := X.2.2.1) (n := X.2.2.2) hu.1 hu.2 ?_
  exact W.iret A.1 A.2.1 (A.2.2.1.trans hr) (fun t ht hW => ⟨rfl, ⟨by rw [ht]; exact hz, by rw [ht]; exact hP, kn_K.warm hW A.2.2.2.2.2.2.1⟩, hS.F ht⟩) hS.2.2 hdg A.2.2.2.2.2.2.2.1
theorem v_zret {F : Option β} {x : Int32} (hr : X.1.2.2.2.1 = some .boolean) (hdg : decode X.1.2.1 pc = .ok (.ireturn, 1)) (hu : u.1 ≤ X.2.2.1 ∧ u.2 ≤ X.2.2.2) (hF : F.bind G = some (some (.int x), M)) (hx : x = 0 ∨ x = 1) : V X u M pc loc [.int x] F G := by
  intro res hres p l e s m args below meth c K b H locs ls A hP hS hz hl
  rw [hF] at hres
  cases hres
  refine W.widen (k := X.2.2.1) (n := X.2.2.2) hu.1 hu.2 ?_
  exact W.zret A.1 A.2.1 (A.2.2.1.trans hr) (by rcases hx with rfl | rfl <;> decide +kernel) (fun t ht hW => ⟨rfl, ⟨by rw [ht]; exact hz, by rw [ht]; exact hP, kn_K.warm hW A.2.2.2.2.2.2.1⟩, hS.F ht⟩) hS.2.2 hdg A.2.2.2.2.2.2.2.1
theorem v_lret {F : Option β} {x : Int64} (hr : X.1.2.2.2.1 = some .long) (hdg : decode X.1.2.1 pc = .ok (.lreturn, 1)) (hu : u.1 ≤ X.2.2.1 ∧ u.2 ≤ X.2.2.2) (hF : F.bind G = some (some (.long x), M)) : V X u M pc loc [.long x] F G := by
  intro res hres p l e s m args below meth c K b H locs ls A hP hS hz hl
  rw [hF] at hres
  cases hres
  refine W.widen (k := X.2.2.1) (n := X.2.2.2) hu.1 hu.2 ?_
  exact W.lret A.1 A.2.1 (A.2.2.1.trans hr) (fun t ht hW => ⟨rfl, ⟨by rw [ht]; exact hz, by rw [ht]; exact hP, kn_K.warm hW A.2.2.2.2.2.2.1⟩, hS.F ht⟩) hS.2.2 hdg A.2.2.2.2.2.2.2.1
theorem v_aret {F : Option β} {x : Nat} {n : String} (hr : X.1.2.2.2.1 = some (.object n)) (hdg : decode X.1.2.1 pc = .ok (.areturn, 1)) (hu : u.1 ≤ X.2.2.1 ∧ u.2 ≤ X.2.2.2) (hF : F.bind G = some (some (.ref x), M)) : V X u M pc loc [.ref x] F G := by
  intro res hres p l e s m args below meth c K b H locs ls A hP hS hz hl
  rw [hF] at hres
  cases hres
  refine W.widen (k := X.2.2.1) (n := X.2.2.2) hu.1 hu.2 ?_
  exact W.aret A.1 A.2.1 (A.2.2.1.trans hr) (Or.inl ⟨n, rfl⟩) (Or.inr ⟨_, rfl⟩) (fun t ht hW => ⟨rfl, ⟨by rw [ht]; exact hz, by rw [ht]; exact hP, kn_K.warm hW A.2.2.2.2.2.2.1⟩, hS.F ht⟩) hS.2.2 hdg A.2.2.2.2.2.2.2.1
theorem v_vret {F : Option β} (hr : X.1.2.2.2.1 = none) (hdg : decode X.1.2.1 pc = .ok (.return_, 1)) (hu : u.1 ≤ X.2.2.1 ∧ u.2 ≤ X.2.2.2) (hF : F.bind G = some (none, M)) : V X u M pc loc [] F G := by
  intro res hres p l e s m args below meth c K b H locs ls A hP hS hz hl
  rw [hF] at hres
  cases hres
  refine W.widen (k := X.2.2.1) (n := X.2.2.2) hu.1 hu.2 ?_
  exact W.vret A.1 A.2.1 (A.2.2.1.trans hr) (fun t ht hW => ⟨rfl, ⟨by rw [ht]; exact hz, by rw [ht]; exact hP, kn_K.warm hW A.2.2.2.2.2.2.1⟩, hS.F ht⟩) hS.2.2 hdg A.2.2.2.2.2.2.2.1
end JD
end
section
/-! rows of the kit that write a cell, with what they leave unsaid: the heap's size -/
section HS
variable {p : Program} {l : Launch} {e : Env} {R : Room} {s : State} {m : MethodId} {args : Array Value} {below : List Frame} {meth : Method} {c : Code} {H : Heap} {locs : List Loc} {cells slots : Nat} {Q : State → Prop}
variable {cc : ByteArray} {pc : Nat} {ls : Array Slot} {rest : List Value} {D : va_G} {cl : List vw_C} {A : Nat → Prop} {a : Nat} {tys : List (ClassId × FieldType)} {ws : va_W} {H0 : Heap}
theorem h_put (hexec : p.tables.exec = Jvm.exec) (hb : c.code = cc) {own C : String} {T : u_T} {N ci index : Nat} {Ts : List Cond} (hts : ∀ w ∈ Ts, w.before args s = true) (hin : ∀ w ∈ u_ws C T N, w ∈ Ts) (ty0 : Nat → FieldType) (hty : ∀ k, k < N → parseFieldDescriptor (T k).2.2.1 = some (ty0 k)) (hnm : ∀ a, a < N → ∀ b, b < N → a ≠ b → (T a).2.1 ≠ (T b).2.1) (hown : s.vm.findClass own = some m.cls) (hK : va_K D cl tys s) (hP : va_P D cl ws H) (hD : va_D A ws) (hS0 : va_S A H0 H locs) (q0 : Nat) {fs : List Value} (he : ws[q0]? = some (a, .inr (ci, fs))) (hc : cl[ci]? = some (C, T, N)) (k : Nat) (hk : k < N)
    (hlink : (Cond.fieldLink own index (T k).1 (T k).2.1 (T k).2.2.1).before args s = true ∨ ∃ host, (Cond.fieldLinkNest own index (T k).1 (T k).2.1 (T k).2.2.1 host).before args s = true) (hfin : (T k).2.2.2 = false) {ty : FieldType} {v : Value} (hd : parseFieldDescriptor (T k).2.2.1 = some ty) (hn : narrow ty v = v) (hfit : fits ty v = true) (hl : k < fs.length)
    (hdg : decode cc pc = .ok (.putfield index, 3)) (kk : ∀ (H1 : Heap) (locs1 : List Loc), H1.size = H.size → va_P D cl (ws.set q0 (a, .inr (ci, fs.set k v))) H1 → va_S A H0 H1 locs1 → W p l e R s m args below meth c H1 locs1 cells slots Q (F0 m (pc + 3) ls rest)) : W p l e R s m args below meth c H locs cells slots Q (F0 m pc ls (v :: .ref a :: rest)) := by
  have hap := va_apart (own := own) hts hin ty0 hty hnm hK hc
  obtain ⟨r, h1, cell, q1, q2, q3, q4⟩ := hP q0 _ he
  have hr : r = (C, T, N) := Option.some.inj (h1.symm.trans hc)
  subst hr
  obtain ⟨hS, hfc, kC, hkC, hkind⟩ := hK.1 ci _ hc
  obtain ⟨cf, kf, fi, f, hi, hsl⟩ := hS k hk
  have hlay := hts _ (hin _ (u_in_lay hk))
  unfold u_lay at hlay
  rw [if_neg (by rw [hfin]; decide)] at hlay
  have hst := (u_facts hfc hkC (u_lays hts hin hk) hi).1
  have h6 := u_store hfc hkC hkind hlay hi hd hn hfit
  rcases hlink with hlink | ⟨host, hlink⟩
  · refine W.putK hexec hb (f := f) ⟨hown, hlink, ⟨_, _, _, hi⟩, hst⟩ (by rw [q2]; exact h6) q1 q3 (by rw [hsl]; exact k2_hasslot (q4 k hk)) rfl rfl hdg fun H' e1 e2 e3 => ?_
    rw [hsl] at e1 ⊢
    exact kk H' _ e2 (hP.set hD he ⟨_, hc, t_OB.to (V := updV (vp_V fs) k v) ⟨_, e1, q2, q3, t_set q4 hap hk v⟩ (fun j _ => vp_updV_set hl v j)⟩ e3) (hS0.put e2 e3 (hD.2 q0 _ he))
  · refine va_WputK hexec hb (f := f) hown hlink hi hst (by rw [q2]; exact h6) q1 q3 (by rw [hsl]; exact k2_hasslot (q4 k hk)) rfl rfl hdg fun H' e1 e2 e3 => ?_
    rw [hsl] at e1 ⊢
    exact kk H' _ e2 (hP.set hD he ⟨_, hc, t_OB.to (V := updV (vp_V fs) k v) ⟨_, e1, q2, q3, t_set q4 hap hk v⟩ (fun j _ => vp_updV_set hl v j)⟩ e3) (hS0.put e2 e3 (hD.2 q0 _ he))
theorem h_putF (hexec : p.tables.exec = Jvm.exec) (hb : c.code = cc) {own C : String} {T : u_T} {N ci index : Nat} {Ts : List Cond} (hts : ∀ w ∈ Ts, w.before args s = true) (hin : ∀ w ∈ u_ws C T N, w ∈ Ts) (ty0 : Nat → FieldType) (hty : ∀ k, k < N → parseFieldDescriptor (T k).2.2.1 = some (ty0 k)) (hnm : ∀ a, a < N → ∀ b, b < N → a ≠ b → (T a).2.1 ≠ (T b).2.1) (hown : s.vm.findClass own = some m.cls) (hK : va_K D cl tys s) (hP : va_P D cl ws H) (hD : va_D A ws) (hS0 : va_S A H0 H locs) (q0 : Nat) {fs : List Value} (he : ws[q0]? = some (a, .inr (ci, fs))) (hc : cl[ci]? = some (C, T, N)) (k : Nat) (hk : k < N)
    (hlink : (Cond.fieldLink own index (T k).1 (T k).2.1 (T k).2.2.1).before args s = true) (hfin : (T k).2.2.2 = true) (hin2 : meth.name = "<init>") (hdecl : (T k).1 = own) {ty : FieldType} {v : Value} (hd : parseFieldDescriptor (T k).2.2.1 = some ty) (hn : narrow ty v = v) (hfit : fits ty v = true) (hl : k < fs.length)
    (hdg : decode cc pc = .ok (.putfield index, 3)) (kk : ∀ (H1 : Heap) (locs1 : List Loc), H1.size = H.size → va_P D cl (ws.set q0 (a, .inr (ci, fs.set k v))) H1 → va_S A H0 H1 locs1 → W p l e R s m args below meth c H1 locs1 cells slots Q (F0 m (pc + 3) ls rest)) : W p l e R s m args below meth c H locs cells slots Q (F0 m pc ls (v :: .ref a :: rest)) := by
  have hap := va_apart (own := own) hts hin ty0 hty hnm hK hc
  obtain ⟨r, h1, cell, q1, q2, q3, q4⟩ := hP q0 _ he
  have hr : r = (C, T, N) := Option.some.inj (h1.symm.trans hc)
  subst hr
  obtain ⟨hS, hfc, kC, hkC, hkind⟩ := hK.1 ci _ hc
  obtain ⟨cf, kf, fi, f, hi, hsl⟩ := hS k hk
  have hlay := hts _ (hin _ (u_in_lay hk))
  unfold u_lay at hlay
  rw [if_pos hfin] at hlay
  have hst := (u_facts hfc hkC (u_lays hts hin hk) hi).1
  have hcf : m.cls = cf := by
    obtain ⟨_, _, c', _, _, _, -, -, hf', -, -, -, hown2, -⟩ := Cond.laysFinal_spec hlay
    have e1 : c' = cf := by have := hi.symm.trans hf'; simp at this; exact this.1.symm
    rw [hdecl] at hown2
    rw [← e1]; exact Option.some.inj (hown.symm.trans hown2)
  have h6 := u_fits hfc hkC hkind (Or.inr hlay) hi hd hn hfit
  refine W.putFinK hexec hb hown hlink hi hst hcf hin2 (by rw [q2]; exact h6) q1 q3 (by rw [hsl]; exact k2_hasslot (q4 k hk)) rfl rfl hdg fun H' e1 e2 e3 => ?_
  rw [hsl] at e1 ⊢
  exact kk H' _ e2 (hP.set hD he ⟨_, hc, t_OB.to (V := updV (vp_V fs) k v) ⟨_, e1, q2, q3, t_set q4 hap hk v⟩ (fun j _ => vp_updV_set hl v j)⟩ e3) (hS0.put e2 e3 (hD.2 q0 _ he))
theorem h_get (hexec : p.tables.exec = Jvm.exec) (hb : c.code = cc) {own C : String} {T : u_T} {N ci index : Nat} {Ts : List Cond} (hts : ∀ w ∈ Ts, w.before args s = true) (hin : ∀ w ∈ u_ws C T N, w ∈ Ts) (hown : s.vm.findClass own = some m.cls) (hK : va_K D cl tys s) (hP : va_P D cl ws H) (q0 : Nat) {fs : List Value} (he : ws[q0]? = some (a, .inr (ci, fs))) (hc : cl[ci]? = some (C, T, N)) (k : Nat) (hk : k < N) (hlink : (Cond.fieldLink own index (T k).1 (T k).2.1 (T k).2.2.1).before args s = true ∨ ∃ host, (Cond.fieldLinkNest own index (T k).1 (T k).2.1 (T k).2.2.1 host).before args s = true) {v : Value} (hv : fs[k]? = some v) (hdg : decode cc pc = .ok (.getfield index, 3))
    (kk : W p l e R s m args below meth c H locs cells slots Q (F0 m (pc + 3) ls (v :: rest))) : W p l e R s m args below meth c H locs cells slots Q (F0 m pc ls (.ref a :: rest)) := by
  rcases hlink with hlink | ⟨host, hlink⟩
  · exact va_get hexec hb hts hin hown hK hP q0 he hc k hk hlink (fun _ h9 => h9) hv hdg kk
  · exact va_getN hexec hb hts hin hown hK hP q0 he hc k hk hlink (fun _ h9 => h9) hv hdg kk
theorem h_iast (hexec : p.tables.exec = Jvm.exec) (hb : c.code = cc) (hK : va_K D cl tys s) (hP : va_P D cl ws H) (hD : va_D A ws) (hS : va_S A H0 H locs) (q0 t0 : Nat) {cA : ClassId} {n : Nat} {f : Nat → Int32} (ha : ws[q0]? = some (a, .inl (cA, n, .inl f))) (ht : tys[t0]? = some (cA, .int)) {i : Int32} {x : Int32} (hin : vp_in i n) (hdg : decode cc pc = .ok (.iastore, 1))
    (kk : ∀ (H1 : Heap) (locs1 : List Loc), H1.size = H.size → va_P D cl (ws.set q0 (a, .inl (cA, n, .inl (upd f i.toNatClampNeg x)))) H1 → va_S A H0 H1 locs1 → W p l e R s m args below meth c H1 locs1 cells slots Q (F0 m (pc + 1) ls rest)) : W p l e R s m args below meth c H locs cells slots Q (F0 m pc ls (.int x :: .int i :: .ref a :: rest)) := by
  refine W.iast hexec hb (hP q0 _ ha) ((hK.2 t0 _ ht).1 n (fun j => .int (f j))) (fun q => by cases q) (by show ¬ (i < 0 ∨ (arrV _ _ _).slots.size ≤ _); rw [arrV_size]; exact hin) rfl rfl hdg fun H1 e z oq => ?_
  refine kk H1 _ z (hP.set hD ha ?_ oq) (hS.put z oq (hD.2 q0 _ ha))
  show H1[a]? = some (vp_cell _ _)
  rw [e]
  rw [vp_cell_i, vp_cell_i, arrV_store]
  congr 2
  funext q
  by_cases hq : q = i.toNatClampNeg
  · subst hq
    simp [updV, upd]
  · simp [updV, upd, hq]
theorem h_zast (hexec : p.tables.exec = Jvm.exec) (hb : c.code = cc) (hK : va_K D cl tys s) (hP : va_P D cl ws H) (hD : va_D A ws) (hS : va_S A H0 H locs) (q0 t0 : Nat) {cA : ClassId} {n : Nat} {f : Nat → Int32} (ha : ws[q0]? = some (a, .inl (cA, n, .inl f))) (ht : tys[t0]? = some (cA, .boolean)) {i : Int32} {x : Int32} (hin : vp_in i n) (hdg : decode cc pc = .ok (.bastore, 1))
    (kk : ∀ (H1 : Heap) (locs1 : List Loc), H1.size = H.size → va_P D cl (ws.set q0 (a, .inl (cA, n, .inl (upd f i.toNatClampNeg (vp_nar .boolean x))))) H1 → va_S A H0 H1 locs1 → W p l e R s m args below meth c H1 locs1 cells slots Q (F0 m (pc + 1) ls rest)) : W p l e R s m args below meth c H locs cells slots Q (F0 m pc ls (.int x :: .int i :: .ref a :: rest)) := by
  refine W.zast hexec hb (hP q0 _ ha) ((hK.2 t0 _ ht).1 n (fun j => .int (f j))) (fun q => by cases q) (by show ¬ (i < 0 ∨ (arrV _ _ _).slots.size ≤ _); rw [arrV_size]; exact hin) rfl rfl hdg fun H1 e z oq => ?_
  refine kk H1 _ z (hP.set hD ha ?_ oq) (hS.put z oq (hD.2 q0 _ ha))
  show H1[a]? = some (vp_cell _ _)
  rw [e]
  rw [vp_cell_i, vp_cell_i, arrV_store]
  congr 2
  funext q
  by_cases hq : q = i.toNatClampNeg
  · subst hq
    simp [updV, upd, vp_nar]
    try rfl
  · simp [updV, upd, hq]
theorem h_astq (hexec : p.tables.exec = Jvm.exec) (hb : c.code = cc) (hK : va_K D cl tys s) (hP : va_P D cl ws H) (hD : va_D A ws) (hS : va_S A H0 H locs) (q0 t0 qk ci : Nat) {cA : ClassId} {r : vw_C} {n v : Nat} {vs : List Value} {f : Nat → Option Nat} (ha : ws[q0]? = some (a, .inl (cA, n, .inr (.inr (.inr (.inr f)))))) (ht : tys[t0]? = some (cA, .object r.1)) (hv : ws[qk]? = some (v, .inr (ci, vs))) (hc : cl[ci]? = some r) {i : Int32} (hin : vp_in i n) (hdg : decode cc pc = .ok (.aastore, 1))
    (kk : ∀ (H1 : Heap) (locs1 : List Loc), H1.size = H.size → va_P D cl (ws.set q0 (a, .inl (cA, n, .inr (.inr (.inr (.inr (va_up f i.toNatClampNeg (some v)))))))) H1 → va_S A H0 H1 locs1 → W p l e R s m args below meth c H1 locs1 cells slots Q (F0 m (pc + 1) ls rest)) : W p l e R s m args below meth c H locs cells slots Q (F0 m pc ls (.ref v :: .int i :: .ref a :: rest)) := by
  have hlt : i.toNatClampNeg < n := Nat.not_le.mp fun q => hin (Or.inr q)
  have h0 : ¬ i < 0 := fun q => hin (Or.inl q)
  obtain ⟨r', hr', cellV, g1, g2, g3, -⟩ := hP qk _ hv
  have hcls := (hK.1 ci r hc).2
  obtain ⟨kA, comp, k1, k2, k3, -⟩ := (hK.2 t0 _ ht).2
  have hcomp : comp = D.1 ci := Option.some.inj (k3.symm.trans hcls.1)
  subst hcomp
  obtain ⟨kC, hkC, -⟩ := hcls.2
  refine W.aast hexec hb (hP q0 _ ha) (fun q h => by cases h) (fun h => by cases h) k1 k2 rfl hkC ⟨h0, by show _ < (arrV _ _ _).slots.size; rw [arrV_size]; exact hlt⟩ g1 (fun q h => by rw [g3] at h; cases h) (by rw [g2]; exact hkC) (by rw [g2]; exact va_assign hcls) rfl rfl hdg fun H1 e z oq => ?_
  refine kk H1 _ z (hP.set hD ha ?_ oq) (hS.put z oq (hD.2 q0 _ ha))
  show H1[a]? = some (vp_cell _ _)
  rw [e]
  rw [vp_cell_q, vp_cell_q, arrV_store]
  congr 2
  funext q
  by_cases hq : q = i.toNatClampNeg
  · subst hq
    simp [updV, va_up, va_rf]
  · simp [updV, va_up, hq]
theorem h_copy (hexec : p.tables.exec = Jvm.exec) (hb : c.code = cc) (hml : c.maxLocals = ls.size) {own : String} {index : Nat} (hown : s.vm.findClass own = some m.cls) (hlink : (Cond.methodLink own index arraycopyName).before args s = true) (hnat : (Cond.native arraycopyName).before args s = true) (hstat : (Cond.static arraycopyName).before args s = true) (hini : (Cond.initialized "java/lang/System").before args s = true)
    (hK : va_K D cl tys s) (hP : va_P D cl ws H) (hD : va_D A ws) (hS : va_S A H0 H locs) (q0 q1 t0 : Nat) {a0 : Nat} {c0 : ClassId} {n0 n1 : Nat} {f g : Nat → Int32} (ha0 : ws[q0]? = some (a0, .inl (c0, n0, .inl f))) (ha1 : ws[q1]? = some (a, .inl (c0, n1, .inl g))) (ht0 : tys[t0]? = some (c0, .int))
    {sp dp n : Int32} (h1 : ¬ sp < 0) (h2 : ¬ dp < 0) (h3 : ¬ n < 0) (h4 : sp.toNatClampNeg + n.toNatClampNeg ≤ n0) (h5 : dp.toNatClampNeg + n.toNatClampNeg ≤ n1)
    (hframes : 1 ≤ R.frames) (hlocals : (rest.map fun v => v.category).sum + (nativeFrameWords "java/lang/System" "arraycopy" 5 + 11) ≤ R.locals) (hdg : decode cc pc = .ok (.invokestatic index, 3))
    (kk : ∀ (H1 : Heap) (locs1 : List Loc), H1.size = H.size → va_P D cl (ws.set q1 (a, .inl (c0, n1, .inl (va_cpy f g sp.toNatClampNeg dp.toNatClampNeg n.toNatClampNeg)))) H1 → va_S A H0 H1 locs1 → W p l e R s m args below meth c H1 locs1 cells slots Q (F0 m (pc + 3) ls rest)) : W p l e R s m args below meth c H locs cells slots Q (F0 m pc ls (.int n :: .int dp :: .ref a :: .int sp :: .ref a0 :: rest)) := by
  have nn : ∀ z : Int32, ¬ z < 0 → z.toInt = (z.toNatClampNeg : Int) := by
    intro z hz
    have hz0 : (0 : Int) ≤ z.toInt := by
      have := Int32.not_lt.mp hz
      simpa using Int32.le_iff_toInt_le.mp this
    show z.toInt = ((z.toInt.toNat : Nat) : Int)
    omega
  intro T hT X
  have hc0 : H[a0]? = some (vp_cell c0 (n0, .inl f)) := hP q0 _ ha0
  have hc1 : H[a]? = some (vp_cell c0 (n1, .inl g)) := hP q1 _ ha1
  obtain ⟨-, k0, hk0, cm0, hkk0⟩ := (hK.2 t0 _ ht0).1 n0 (fun j => .int (f j))
  obtain ⟨-, k1, hk1, cm1, hkk1⟩ := (hK.2 t0 _ ht0).1 n1 (fun j => .int (g j))
  obtain ⟨vm', X', step⟩ := X.arraycopy hexec hown hlink hnat hstat hini (src := a0) (dst := a) (cs := vp_cell c0 (n0, .inl f)) (cd := vp_cell c0 (n1, .inl g)) (srcPos := sp) (destPos := dp) (n := n) (by rw [hT]; exact hc0) (by rw [hT]; exact hc1)
    (fun _ h => by cases h) (fun _ h => by cases h) (fun h => by cases h) (fun h => by cases h) hk0 hk1 hkk0 hkk1 (by simp [refKind]) h1 h2 h3
    (by rw [nn sp h1, nn n h3]; show ¬ _ > ((arrV c0 n0 (fun j => .int (f j))).slots.size : Int); rw [arrV_size]; omega)
    (by rw [nn dp h2, nn n h3]; show ¬ _ > ((arrV c0 n1 (fun j => .int (g j))).slots.size : Int); rw [arrV_size]; omega)
    (fun vm₁ _ i hi => by
      have e : (vp_cell c0 (n0, .inl f)).slots.getD (sp.toNatClampNeg + i) .null = .int (f (sp.toNatClampNeg + i)) := by
        show (arrV c0 n0 (fun j => .int (f j))).slots.getD _ _ = _
        rw [Array.getD_eq_getD_getElem?, arrV_read _ _ (by omega)]
        rfl
      refine ⟨?_, ?_⟩
      · rw [e]
        rfl
      · rw [e]
        exact trivial)
    (g := F0 m pc ls (.int n :: .int dp :: .ref a :: .int sp :: .ref a0 :: rest)) rfl (by rw [hml]) (rest := rest) rfl (by rw [hb]; exact hdg) hframes (by show 2 * 0 + _ + _ ≤ _; omega)
  have e1 : copied (vp_cell c0 (n0, .inl f)) (vp_cell c0 (n1, .inl g)) sp dp n = vp_cell c0 (n1, .inl (va_cpy f g sp.toNatClampNeg dp.toNatClampNeg n.toNatClampNeg)) := va_copied (fun z => .int z) c0 c0 f g h4
  rw [e1] at X' step
  have hl : a < H.size := (Array.getElem?_eq_some_iff.mp hc1).1
  have hheap : ((T.setVm vm').setCell a (vp_cell c0 (n1, .inl (va_cpy f g sp.toNatClampNeg dp.toNatClampNeg n.toNatClampNeg)))).heap = H.setIfInBounds a (vp_cell c0 (n1, .inl (va_cpy f g sp.toNatClampNeg dp.toNatClampNeg n.toNatClampNeg))) := by rw [← hT]; rfl
  have oq : ∀ q : Nat, q ≠ a → (H.setIfInBounds a (vp_cell c0 (n1, .inl (va_cpy f g sp.toNatClampNeg dp.toNatClampNeg n.toNatClampNeg))))[q]? = H[q]? := fun q hq => by simp [Array.getElem?_setIfInBounds, Ne.symm hq]
  obtain ⟨t, a1, b1⟩ := kk _ _ (by simp) (hP.set hD ha1 (show (H.setIfInBounds a _)[a]? = some _ by simp [Array.getElem?_setIfInBounds, hl]) oq) ⟨by simp; exact hS.1, fun q g1 g2 => by
      rw [oq q (fun e => g2 (by rw [e]; exact hD.2 q1 _ ha1))]
      exact hS.2.1 q g1 g2, fun q hq => by
      rcases List.mem_append.mp hq with h | h
      · exact hS.2.2 q h
      · obtain ⟨z, -, hz⟩ := List.mem_map.mp h
        rw [← hz]
        exact hD.2 q1 _ ha1⟩ _ hheap X'
  exact ⟨t, step t a1, b1⟩
theorem h_new (hexec : p.tables.exec = Jvm.exec) (hb : c.code = cc) {own C : String} {T : u_T} {N ci index : Nat} {Ts : List Cond} (hts : ∀ w ∈ Ts, w.before args s = true) (hin : ∀ w ∈ u_ws C T N, w ∈ Ts) (ty : Nat → FieldType) (hty : ∀ k, k < N → parseFieldDescriptor (T k).2.2.1 = some (ty k)) (hown : s.vm.findClass own = some m.cls) (hcl : (Cond.classLink own index C).before args s = true) (hinst : (Cond.instantiable C N).before args s = true) (hini : (Cond.initialized C).before args s = true)
    (hK : va_K D cl tys s) (hP : va_P D cl ws H) (hS : va_S A H0 H locs) (hc : cl[ci]? = some (C, T, N)) {fs : List Value} (hfs : ∀ j, j < N → defaultValue (ty j) = vp_V fs j) (hcells : cells + 1 ≤ R.cells) (hslots : slots + N ≤ R.slots) (hdg : decode cc pc = .ok (.new index, 3))
    (kk : ∀ (H1 : Heap), H1.size = H.size + 1 → va_P D cl (ws ++ [(H.size, .inr (ci, fs))]) H1 → va_S A H0 H1 locs →
      W p l e R s m args below meth c H1 locs (cells + 1) (slots + N) Q (F0 m (pc + 3) ls (.ref H.size :: rest))) : W p l e R s m args below meth c H locs cells slots Q (F0 m pc ls rest) := by
  have hKn := hK.1 ci _ hc
  refine W.newcK hexec hb hown hcl hinst hini rfl hdg hcells hslots hKn.2.1 rfl fun H1 kC hkC e1 z1 o1 => ?_
  have hk : ∀ (k : Nat) (x : Nat × va_E), ws[k]? = some x → H1[x.1]? = H[x.1]? := fun k x hx => o1 x.1 ((hP k x hx).lt)
  refine kk H1 z1 ((hP.kept hk).app (fun k x hx => ?_)) ⟨Nat.le_trans hS.1 (by omega), fun x h1 h2 => (o1 x (Nat.lt_of_lt_of_le h1 hS.1)).trans (hS.2.1 x h1 h2), hS.2.2⟩
  have hz : k < 1 := (List.getElem?_eq_some_iff.mp hx).1
  rw [show k = 0 by omega] at hx
  cases hx
  exact ⟨_, hc, (u_born ty hts hin hKn hkC e1 hty).to hfs⟩
theorem h_newa (hexec : p.tables.exec = Jvm.exec) (hb : c.code = cc) {atype : ArrayType} (harr : (Cond.arrayClass (newarray.typeOf atype)).before args s = true) {ty : FieldType} (hty : newarray.typeOf atype = ty) (hP : va_P D cl ws H) (hS : va_S A H0 H locs)
    {n : Int32} {N' : Nat} {a0 : vp_A} {cA0 : ClassId} (hcA : s.vm.findClass ("[" ++ ty.toString) = some cA0) (ha : ∀ cA : ClassId, vp_cell cA a0 = arrV cA N' (fun _ => defaultValue ty)) (hn : ¬ n < 0) (hN : n.toNatClampNeg = N') (hbytes : N' * componentBytes ty ≤ 536870912) (hcells : cells + 1 ≤ R.cells) (hslots : slots + N' ≤ R.slots) (hdg : decode cc pc = .ok (.newarray atype, 2))
    (kk : ∀ (H1 : Heap), H1.size = H.size + 1 → va_P D cl (ws ++ [(H.size, .inl (cA0, a0))]) H1 → va_S A H0 H1 locs →
      W p l e R s m args below meth c H1 locs (cells + 1) (slots + N') Q (F0 m (pc + 2) ls (.ref H.size :: rest))) : W p l e R s m args below meth c H locs cells slots Q (F0 m pc ls (.int n :: rest)) := by
  subst hty
  refine va_newaK hexec hb harr rfl hdg rfl hn hN hbytes hcells hslots rfl fun H1 cA e1 z1 o1 hAr hNm => ?_
  cases hcA.symm.trans hNm
  have hk : ∀ (k : Nat) (x : Nat × va_E), ws[k]? = some x → H1[x.1]? = H[x.1]? := fun k x hx => o1 x.1 ((hP k x hx).lt)
  refine kk H1 z1 ((hP.kept hk).app (fun k x hx => ?_)) ⟨Nat.le_trans hS.1 (by omega), fun x h1 h2 => (o1 x (Nat.lt_of_lt_of_le h1 hS.1)).trans (hS.2.1 x h1 h2), hS.2.2⟩
  have hz : k < 1 := (List.getElem?_eq_some_iff.mp hx).1
  rw [show k = 0 by omega] at hx
  cases hx
  show H1[H.size]? = some (vp_cell _ _)
  rw [ha]
  exact e1
theorem h_newq (hexec : p.tables.exec = Jvm.exec) (hb : c.code = cc) {own C : String} {index : Nat} (hown : s.vm.findClass own = some m.cls) (hclink : (Cond.classLink own index C).before args s = true) (hover : va_AO C s) (hP : va_P D cl ws H) (hS : va_S A H0 H locs)
    {n : Int32} {N' : Nat} {cA0 : ClassId} (hcA : s.vm.findClass ("[" ++ (FieldType.object C).toString) = some cA0) (hn : ¬ n < 0) (hN : n.toNatClampNeg = N') (hbytes : N' * 4 ≤ 536870912) (hcells : cells + 1 ≤ R.cells) (hslots : slots + N' ≤ R.slots) (hdg : decode cc pc = .ok (.anewarray index, 3))
    (kk : ∀ (H1 : Heap), H1.size = H.size + 1 → va_P D cl (ws ++ [(H.size, .inl (cA0, N', .inr (.inr (.inr (.inr (fun _ => none))))))]) H1 → va_S A H0 H1 locs →
      W p l e R s m args below meth c H1 locs (cells + 1) (slots + N') Q (F0 m (pc + 3) ls (.ref H.size :: rest))) : W p l e R s m args below meth c H locs cells slots Q (F0 m pc ls (.int n :: rest)) := by
  subst hN
  refine W.anew hexec hb hown hclink (va_AO.use hover) rfl hdg rfl hn hbytes hcells hslots fun cA kA comp f1 f2 f3 f4 => ?_
  cases hcA.symm.trans f1
  generalize hH1 : H.push ({ cls := cA0, slots := Array.replicate n.toNatClampNeg .null, vm := .none } : Cell) = H1
  have z1 : H1.size = H.size + 1 := by rw [← hH1, Array.size_push]
  have e1 : H1[H.size]? = some (arrV cA0 n.toNatClampNeg (fun _ => .null)) := by rw [← hH1, Array.getElem?_push_size, ← arrV_new]
  have o1 : ∀ q : Nat, q < H.size → H1[q]? = H[q]? := fun q hq => by rw [← hH1, Array.getElem?_push, if_neg (Nat.ne_of_lt hq)]
  have hk : ∀ (k : Nat) (x : Nat × va_E), ws[k]? = some x → H1[x.1]? = H[x.1]? := fun k x hx => o1 x.1 ((hP k x hx).lt)
  refine kk H1 z1 ((hP.kept hk).app (fun k x hx => ?_)) ⟨Nat.le_trans hS.1 (by omega), fun x h1 h2 => (o1 x (Nat.lt_of_lt_of_le h1 hS.1)).trans (hS.2.1 x h1 h2), hS.2.2⟩
  have hz : k < 1 := (List.getElem?_eq_some_iff.mp hx).1
  rw [show k = 0 by omega] at hx
  cases hx
  show H1[H.size]? = some (vp_cell _ _)
  rw [vp_cell_q]
  exact e1
end HS
end
section
/-! what an instruction on the heap does to the memory, as a pure value: none where the machine itself would throw -/
def gi {β : Type} (M : Me) (a ci k : Nat) (Kf : Int32 → Option β) : Option β := if me_k M a = some (ci, nf_c ci) then Kf (me_i M a k) else none
def gr {β : Type} (M : Me) (a ci k : Nat) (Kf : Nat → Option β) : Option β := if me_k M a = some (ci, nf_c ci) then (me_r M a k).bind Kf else none
def pi {β : Type} (M : Me) (a ci k : Nat) (v : Int32) (Kf : Me → Option β) : Option β := if me_k M a = some (ci, nf_c ci) then Kf (me_si M a k v) else none
def pz {β : Type} (M : Me) (a ci k : Nat) (v : Int32) (Kf : Me → Option β) : Option β := if me_k M a = some (ci, nf_c ci) ∧ (v = 0 ∨ v = 1) then Kf (me_si M a k v) else none
def pr {β : Type} (M : Me) (a ci k o : Nat) (Kf : Me → Option β) : Option β := if me_k M a = some (ci, nf_c ci) then Kf (me_sr M a k (some o)) else none
def ln (M : Me) (a kd : Nat) : Option Nat := (me_k M a).bind (fun q => if q.1 = kd then some q.2 else none)
def li {β : Type} (M : Me) (a : Nat) (i : Int32) (Kf : Int32 → Option β) : Option β := (ln M a 20).bind (fun n => if i < 0 ∨ n ≤ i.toNatClampNeg then none else Kf (me_i M a i.toNatClampNeg))
def lz {β : Type} (M : Me) (a : Nat) (i : Int32) (Kf : Int32 → Option β) : Option β := (ln M a 21).bind (fun n => if i < 0 ∨ n ≤ i.toNatClampNeg then none else Kf (me_i M a i.toNatClampNeg))
def si {β : Type} (M : Me) (a : Nat) (i v : Int32) (Kf : Me → Option β) : Option β := (ln M a 20).bind (fun n => if i < 0 ∨ n ≤ i.toNatClampNeg then none else Kf (me_si M a i.toNatClampNeg v))
def sz {β : Type} (M : Me) (a : Nat) (i v : Int32) (Kf : Me → Option β) : Option β := (ln M a 21).bind (fun n => if i < 0 ∨ n ≤ i.toNatClampNeg ∨ ¬ (v = 0 ∨ v = 1) then none else Kf (me_si M a i.toNatClampNeg v))
def lr {β : Type} (M : Me) (a kd : Nat) (i : Int32) (Kf : Nat → Option β) : Option β := (ln M a kd).bind (fun n => if i < 0 ∨ n ≤ i.toNatClampNeg then none else (me_r M a i.toNatClampNeg).bind Kf)
def lo {β : Type} (M : Me) (a kd : Nat) (i : Int32) (Kf : Option Nat → Option β) : Option β := (ln M a kd).bind (fun n => if i < 0 ∨ n ≤ i.toNatClampNeg then none else Kf (me_r M a i.toNatClampNeg))
def sr {β : Type} (M : Me) (a kd ci : Nat) (i : Int32) (o : Nat) (Kf : Me → Option β) : Option β := (ln M a kd).bind (fun n => if i < 0 ∨ n ≤ i.toNatClampNeg ∨ ¬ me_k M o = some (ci, nf_c ci) then none else Kf (me_sr M a i.toNatClampNeg (some o)))
def al {β : Type} (M : Me) (a kd : Nat) (Kf : Int32 → Option β) : Option β := (ln M a kd).bind (fun n => Kf (Int32.ofNat n))
def no {β : Type} (M : Me) (ci : Nat) (Kf : Nat → Me → Option β) : Option β := Kf M.1.length (me_nw M (ci, nf_c ci))
def na {β : Type} (M : Me) (kd n : Nat) (Kf : Nat → Me → Option β) : Option β := Kf M.1.length (me_nw M (kd, n))
def ac {β : Type} (M : Me) (a0 : Nat) (sp : Int32) (a : Nat) (dp n : Int32) (Kf : Me → Option β) : Option β := (ln M a0 20).bind (fun n0 => (ln M a 20).bind (fun n1 => if sp < 0 ∨ dp < 0 ∨ n < 0 ∨ n0 < sp.toNatClampNeg + n.toNatClampNeg ∨ n1 < dp.toNatClampNeg + n.toNatClampNeg then none else Kf (me_cp M a a0 sp.toNatClampNeg dp.toNatClampNeg n.toNatClampNeg)))
theorem ln_some {M : Me} {a kd n : Nat} (h : ln M a kd = some n) : me_k M a = some (kd, n) := by
  unfold ln at h
  cases hk : me_k M a with
  | none => rw [hk] at h; cases h
  | some q =>
    obtain ⟨q1, q2⟩ := q
    rw [hk] at h
    simp only [Option.bind_some] at h
    split at h
    · rename_i e; cases h; rw [show q1 = kd from e]
    · cases h
/-- a field's link in a class's table -/
def fl_k (own : String) (index ci k : Nat) : Prop := Cond.fieldLink own index (tb_f ci k).1 (tb_f ci k).2.1 (tb_f ci k).2.2.1 ∈ gw_s ∨ ∃ host, Cond.fieldLinkNest own index (tb_f ci k).1 (tb_f ci k).2.1 (tb_f ci k).2.2.1 host ∈ nw_s
theorem fl_use {own : String} {index ci k : Nat} (h : fl_k own index ci k) {X : Xc} {p : Program} {s : State} {m : MethodId} {args : Array Value} {meth : Method} {c : Code} {K : Kn} {b : Nat} (A : Am X p s m args meth c K b) :
    (Cond.fieldLink own index (tb_f ci k).1 (tb_f ci k).2.1 (tb_f ci k).2.2.1).before args s = true ∨ ∃ host, (Cond.fieldLinkNest own index (tb_f ci k).1 (tb_f ci k).2.1 (tb_f ci k).2.2.1 host).before args s = true := by
  rcases h with h | ⟨host, h⟩
  · exact Or.inl (A.2.2.2.2.2.1 _ h)
  · exact Or.inr ⟨host, va_Nw.use rfl (A.2.2.2.2.2.2.1.2 _ h)⟩
theorem ce_obj {dA : Nat → ClassId} {b ci : Nat} {r : Nat → Option Nat} {i : Nat → Int32} (hc : ci < 13) : ce_l dA b (ci, nf_c ci) r i = .inr (ci, (List.range (nf_c ci)).map (fun k => if is_r (ty_f ci k) = true then va_rf (up_o b (r k)) else .int (i k))) := by
  unfold ce_l
  rw [if_pos (show ci < 20 by omega)]
theorem ob_set {b ci k : Nat} {r r2 : Nat → Option Nat} {i i2 : Nat → Int32} {v : Value} (hk : k < nf_c ci) (hv : (if is_r (ty_f ci k) = true then va_rf (up_o b (r2 k)) else .int (i2 k)) = v) (ho : ∀ x, x ≠ k → r2 x = r x ∧ i2 x = i x) :
    (List.range (nf_c ci)).map (fun k => if is_r (ty_f ci k) = true then va_rf (up_o b (r2 k)) else .int (i2 k)) = ((List.range (nf_c ci)).map (fun k => if is_r (ty_f ci k) = true then va_rf (up_o b (r k)) else .int (i k))).set k v := by
  apply List.ext_getElem?
  intro x
  rw [List.getElem?_set, List.getElem?_map, List.getElem?_map]
  by_cases hx : k = x
  · subst hx
    rw [if_pos rfl, if_pos (by simpa using hk), List.getElem?_range hk]
    simp only [Option.map_some]
    rw [hv]
  · rw [if_neg hx]
    by_cases hl : x < nf_c ci
    · rw [List.getElem?_range hl]
      simp only [Option.map_some]
      rw [(ho x (fun q => hx q.symm)).1, (ho x (fun q => hx q.symm)).2]
    · rw [List.getElem?_eq_none (by simpa using hl)]
      rfl
section JE
variable {X : Xc} {u : Nat × Nat} {M : Me} {pc q : Nat} {loc : List (Option Value)} {st : List Value} {β : Type} {G : β → Option Rs}
theorem v_getI {a ci k index : Nat} {Kf : Int32 → Option β} (hdg : decode X.1.2.1 pc = .ok (.getfield index, 3)) (hq : pc + 3 = q) (hf : fl_k X.1.1 index ci k) (hc : ci < 13) (hk : k < nf_c ci) (ht : is_r (ty_f ci k) = false) (kk : ∀ v, V X u M q loc (.int v :: st) (Kf v) G) : V X u M pc loc (.ref a :: st) (gi M a ci k Kf) G := by
  subst hq
  intro res hres p l e s m args below meth c K b H locs ls A hP hS hz hl
  unfold gi at hres
  split at hres
  · rename_i hkd
    refine h_get A.1 A.2.1 A.2.2.2.2.2.1 (cl_in ci hc) A.2.2.2.2.1 A.2.2.2.2.2.2.1.1 hP a (by rw [en_at hkd, ce_obj hc]) (cl_at ci hc) k hk (fl_use hf A) (v := .int (me_i M a k)) ?_ hdg (kk _ res hres p l e s m args below meth c K b H locs ls A hP hS hz hl)
    rw [List.getElem?_map, List.getElem?_range hk]
    simp only [Option.map_some, ht]
    rfl
  · cases hres
theorem v_getR {a ci k index : Nat} {Kf : Nat → Option β} (hdg : decode X.1.2.1 pc = .ok (.getfield index, 3)) (hq : pc + 3 = q) (hf : fl_k X.1.1 index ci k) (hc : ci < 13) (hk : k < nf_c ci) (ht : is_r (ty_f ci k) = true) (kk : ∀ o, V X u M q loc (.ref o :: st) (Kf o) G) : V X u M pc loc (.ref a :: st) (gr M a ci k Kf) G := by
  subst hq
  intro res hres p l e s m args below meth c K b H locs ls A hP hS hz hl
  unfold gr at hres
  split at hres
  · rename_i hkd
    cases ho : me_r M a k with
    | none => rw [ho] at hres; cases hres
    | some o =>
      rw [ho] at hres
      refine h_get A.1 A.2.1 A.2.2.2.2.2.1 (cl_in ci hc) A.2.2.2.2.1 A.2.2.2.2.2.2.1.1 hP a (by rw [en_at hkd, ce_obj hc]) (cl_at ci hc) k hk (fl_use hf A) (v := .ref (b + o)) ?_ hdg (kk _ res hres p l e s m args below meth c K b H locs ls A hP hS hz hl)
      rw [List.getElem?_map, List.getElem?_range hk]
      have ho2 : M.2.1 a k = some o := ho
      simp only [Option.map_some, ht, ho2]
      rfl
  · cases hres
theorem v_putI {a ci k index : Nat} {x : Int32} {Kf : Me → Option β} (hdg : decode X.1.2.1 pc = .ok (.putfield index, 3)) (hq : pc + 3 = q) (hf : fl_k X.1.1 index ci k) (hc : ci < 13) (hk : k < nf_c ci) (ht : ty_f ci k = .int) (hfin : (tb_f ci k).2.2.2 = false) (kk : ∀ M2, V X u M2 q loc st (Kf M2) G) : V X u M pc loc (.int x :: .ref a :: st) (pi M a ci k x Kf) G := by
  subst hq
  intro res hres p l e s m args below meth c K b H locs ls A hP hS hz hl
  unfold pi at hres
  split at hres
  · rename_i hkd
    refine h_put A.1 A.2.1 A.2.2.2.2.2.1 (cl_in ci hc) (ty_f ci) (cl_ty ci hc) (cl_nm ci hc) A.2.2.2.2.1 A.2.2.2.2.2.2.1.1 hP en_D hS a (by rw [en_at hkd, ce_obj hc]) (cl_at ci hc) k hk (fl_use hf A) hfin (v := .int x) (cl_ty ci hc k hk) (by rw [ht]; rfl) (by rw [ht]; rfl) (by simpa using hk) hdg (fun H1 locs1 hz1 hP1 hS1 => ?_)
    refine kk _ res hres p l e s m args below meth c K b H1 locs1 ls A ?_ hS1 (hz1.trans hz) hl
    rw [en_set (N := me_si M a k x) hkd rfl (fun y hy => ⟨rfl, by funext z; simp [me_si, hy]⟩) ?_] at hP1
    · exact hP1
    · rw [ce_obj hc, ← ob_set (r2 := M.2.1 a) (i2 := (me_si M a k x).2.2 a) hk (by rw [ht]; simp [is_r, me_si]) (fun y hy => ⟨rfl, by simp [me_si, hy]⟩)]
      rfl
  · cases hres
theorem v_putZ {a ci k index : Nat} {x : Int32} {Kf : Me → Option β} (hdg : decode X.1.2.1 pc = .ok (.putfield index, 3)) (hq : pc + 3 = q) (hf : fl_k X.1.1 index ci k) (hc : ci < 13) (hk : k < nf_c ci) (ht : ty_f ci k = .boolean) (hfin : (tb_f ci k).2.2.2 = false) (kk : ∀ M2, V X u M2 q loc st (Kf M2) G) : V X u M pc loc (.int x :: .ref a :: st) (pz M a ci k x Kf) G := by
  subst hq
  intro res hres p l e s m args below meth c K b H locs ls A hP hS hz hl
  unfold pz at hres
  split at hres
  · rename_i hkd
    obtain ⟨hkd, hx⟩ := hkd
    refine h_put A.1 A.2.1 A.2.2.2.2.2.1 (cl_in ci hc) (ty_f ci) (cl_ty ci hc) (cl_nm ci hc) A.2.2.2.2.1 A.2.2.2.2.2.2.1.1 hP en_D hS a (by rw [en_at hkd, ce_obj hc]) (cl_at ci hc) k hk (fl_use hf A) hfin (v := .int x) (cl_ty ci hc k hk) (by rw [ht]; rcases hx with rfl | rfl <;> decide +kernel) (by rw [ht]; rcases hx with rfl | rfl <;> decide +kernel) (by simpa using hk) hdg (fun H1 locs1 hz1 hP1 hS1 => ?_)
    refine kk _ res hres p l e s m args below meth c K b H1 locs1 ls A ?_ hS1 (hz1.trans hz) hl
    rw [en_set (N := me_si M a k x) hkd rfl (fun y hy => ⟨rfl, by funext z; simp [me_si, hy]⟩) ?_] at hP1
    · exact hP1
    · rw [ce_obj hc, ← ob_set (r2 := M.2.1 a) (i2 := (me_si M a k x).2.2 a) hk (by rw [ht]; simp [is_r, me_si]) (fun y hy => ⟨rfl, by simp [me_si, hy]⟩)]
      rfl
  · cases hres
theorem v_putR {a ci k o index : Nat} {Kf : Me → Option β} (hdg : decode X.1.2.1 pc = .ok (.putfield index, 3)) (hq : pc + 3 = q) (hf : Cond.fieldLink X.1.1 index (tb_f ci k).1 (tb_f ci k).2.1 (tb_f ci k).2.2.1 ∈ gw_s) (hc : ci < 13) (hk : k < nf_c ci) (ht : is_r (ty_f ci k) = true) (hfin : (tb_f ci k).2.2.2 = true) (hn : X.1.2.2.2.2 = "<init>") (hd : (tb_f ci k).1 = X.1.1) (kk : ∀ M2, V X u M2 q loc st (Kf M2) G) : V X u M pc loc (.ref o :: .ref a :: st) (pr M a ci k o Kf) G := by
  subst hq
  intro res hres p l e s m args below meth c K b H locs ls A hP hS hz hl
  unfold pr at hres
  split at hres
  · rename_i hkd
    have hnar : narrow (ty_f ci k) (.ref (b + o)) = .ref (b + o) := by
      cases h9 : ty_f ci k <;> rw [h9] at ht <;> first | rfl | (cases ht)
    have hfit : fits (ty_f ci k) (.ref (b + o)) = true := by
      cases h9 : ty_f ci k <;> rw [h9] at ht <;> first | rfl | (cases ht)
    refine h_putF A.1 A.2.1 A.2.2.2.2.2.1 (cl_in ci hc) (ty_f ci) (cl_ty ci hc) (cl_nm ci hc) A.2.2.2.2.1 A.2.2.2.2.2.2.1.1 hP en_D hS a (by rw [en_at hkd, ce_obj hc]) (cl_at ci hc) k hk (A.2.2.2.2.2.1 _ hf) hfin (A.2.2.2.2.2.2.2.2.1.trans hn) hd (v := .ref (b + o)) (cl_ty ci hc k hk) hnar hfit (by simpa using hk) hdg (fun H1 locs1 hz1 hP1 hS1 => ?_)
    refine kk _ res hres p l e s m args below meth c K b H1 locs1 ls A ?_ hS1 (hz1.trans hz) hl
    rw [en_set (N := me_sr M a k (some o)) hkd rfl (fun y hy => ⟨by funext z; simp [me_sr, hy], rfl⟩) ?_] at hP1
    · exact hP1
    · rw [ce_obj hc, ← ob_set (r2 := (me_sr M a k (some o)).2.1 a) (i2 := M.2.2 a) hk (by rw [ht]; simp [me_sr, up_o, va_rf]) (fun y hy => ⟨by simp [me_sr, hy], rfl⟩)]
      rfl
  · cases hres
theorem ce_int {dA : Nat → ClassId} {b n : Nat} {r : Nat → Option Nat} {i : Nat → Int32} : ce_l dA b (20, n) r i = .inl (dA 20, n, .inl i) := rfl
theorem ce_boo {dA : Nat → ClassId} {b n : Nat} {r : Nat → Option Nat} {i : Nat → Int32} : ce_l dA b (21, n) r i = .inl (dA 21, n, .inl i) := rfl
theorem ce_ref {dA : Nat → ClassId} {b n kd : Nat} {r : Nat → Option Nat} {i : Nat → Int32} (h : 22 ≤ kd) : ce_l dA b (kd, n) r i = .inl (dA kd, n, .inr (.inr (.inr (.inr (fun j => up_o b (r j)))))) := by
  unfold ce_l
  rw [if_neg (show ¬ kd < 20 by omega), if_neg (show ¬ kd < 22 by omega)]
theorem v_iaload {a : Nat} {i : Int32} {Kf : Int32 → Option β} (hdg : decode X.1.2.1 pc = .ok (.iaload, 1)) (hq : pc + 1 = q) (kk : ∀ v, V X u M q loc (.int v :: st) (Kf v) G) : V X u M pc loc (.int i :: .ref a :: st) (li M a i Kf) G := by
  subst hq
  intro res hres p l e s m args below meth c K b H locs ls A hP hS hz hl
  unfold li at hres
  cases hn : ln M a 20 with
  | none => rw [hn] at hres; cases hres
  | some n =>
    rw [hn] at hres
    simp only [Option.bind_some] at hres
    split at hres
    · cases hres
    · rename_i hi
      exact va_iald (f := M.2.2 a) A.1 A.2.1 A.2.2.2.2.2.2.1.1 hP a 0 (by rw [en_at (ln_some hn), ce_int]) rfl hi hdg (kk _ res hres p l e s m args below meth c K b H locs ls A hP hS hz hl)
theorem v_baload {a : Nat} {i : Int32} {Kf : Int32 → Option β} (hdg : decode X.1.2.1 pc = .ok (.baload, 1)) (hq : pc + 1 = q) (kk : ∀ v, V X u M q loc (.int v :: st) (Kf v) G) : V X u M pc loc (.int i :: .ref a :: st) (lz M a i Kf) G := by
  subst hq
  intro res hres p l e s m args below meth c K b H locs ls A hP hS hz hl
  unfold lz at hres
  cases hn : ln M a 21 with
  | none => rw [hn] at hres; cases hres
  | some n =>
    rw [hn] at hres
    simp only [Option.bind_some] at hres
    split at hres
    · cases hres
    · rename_i hi
      exact va_zald (f := M.2.2 a) A.1 A.2.1 A.2.2.2.2.2.2.1.1 hP a 1 (by rw [en_at (ln_some hn), ce_boo]) rfl hi hdg (kk _ res hres p l e s m args below meth c K b H locs ls A hP hS hz hl)
theorem v_iastore {a : Nat} {i x : Int32} {Kf : Me → Option β} (hdg : decode X.1.2.1 pc = .ok (.iastore, 1)) (hq : pc + 1 = q) (kk : ∀ M2, V X u M2 q loc st (Kf M2) G) : V X u M pc loc (.int x :: .int i :: .ref a :: st) (si M a i x Kf) G := by
  subst hq
  intro res hres p l e s m args below meth c K b H locs ls A hP hS hz hl
  unfold si at hres
  cases hn : ln M a 20 with
  | none => rw [hn] at hres; cases hres
  | some n =>
    rw [hn] at hres
    simp only [Option.bind_some] at hres
    split at hres
    · cases hres
    · rename_i hi
      refine h_iast A.1 A.2.1 A.2.2.2.2.2.2.1.1 hP en_D hS a 0 (by rw [en_at (ln_some hn), ce_int]) rfl hi hdg (fun H1 locs1 hz1 hP1 hS1 => ?_)
      refine kk _ res hres p l e s m args below meth c K b H1 locs1 ls A ?_ hS1 (hz1.trans hz) hl
      rw [en_set (N := me_si M a i.toNatClampNeg x) (ln_some hn) rfl (fun y hy => ⟨rfl, by funext z; simp [me_si, hy]⟩) ?_] at hP1
      · exact hP1
      · rw [ce_int, show (me_si M a i.toNatClampNeg x).2.2 a = upd (M.2.2 a) i.toNatClampNeg x by funext z; simp [me_si, upd]]
theorem v_bastore {a : Nat} {i x : Int32} {Kf : Me → Option β} (hdg : decode X.1.2.1 pc = .ok (.bastore, 1)) (hq : pc + 1 = q) (kk : ∀ M2, V X u M2 q loc st (Kf M2) G) : V X u M pc loc (.int x :: .int i :: .ref a :: st) (sz M a i x Kf) G := by
  subst hq
  intro res hres p l e s m args below meth c K b H locs ls A hP hS hz hl
  unfold sz at hres
  cases hn : ln M a 21 with
  | none => rw [hn] at hres; cases hres
  | some n =>
    rw [hn] at hres
    simp only [Option.bind_some] at hres
    split at hres
    · cases hres
    · rename_i hi
      have hi2 : vp_in i n := fun q => hi (q.elim Or.inl (fun q => Or.inr (Or.inl q)))
      have hx : x = 0 ∨ x = 1 := Classical.byContradiction (fun q => hi (Or.inr (Or.inr q)))
      have hv : vp_nar .boolean x = x := by rcases hx with rfl | rfl <;> decide +kernel
      refine h_zast A.1 A.2.1 A.2.2.2.2.2.2.1.1 hP en_D hS a 1 (by rw [en_at (ln_some hn), ce_boo]) rfl hi2 hdg (fun H1 locs1 hz1 hP1 hS1 => ?_)
      refine kk _ res hres p l e s m args below meth c K b H1 locs1 ls A ?_ hS1 (hz1.trans hz) hl
      rw [hv] at hP1
      rw [en_set (N := me_si M a i.toNatClampNeg x) (ln_some hn) rfl (fun y hy => ⟨rfl, by funext z; simp [me_si, hy]⟩) ?_] at hP1
      · exact hP1
      · rw [ce_boo, show (me_si M a i.toNatClampNeg x).2.2 a = upd (M.2.2 a) i.toNatClampNeg x by funext z; simp [me_si, upd]]
/-- a read of a place of references that may be null -/
theorem v_aaloadO {a kd t0 : Nat} {C : String} {i : Int32} {Kf : Option Nat → Option β} (hdg : decode X.1.2.1 pc = .ok (.aaload, 1)) (hq : pc + 1 = q) (hkd : 22 ≤ kd) (ht : ∀ K : Kn, (ty_s K)[t0]? = some (K.2.2 kd, .object C)) (kk : ∀ o : Option Nat, ∀ (p : Program) (l : Launch) (e : Env) (s : State) (m : MethodId) (args : Array Value) (below : List Frame) (meth : Method) (c : Code) (K : Kn) (b : Nat) (H : Heap) (locs : List Loc) (ls : Array Slot) (res : Rs), (Kf o).bind G = some res →
    Am X p s m args meth c K b → va_P (K.1, K.2.1) cl_s (en_c K.2.2 b M) H → va_S (fun q => b ≤ q) s.heap H locs → H.size = b + M.1.length → lo_k b X.1.2.2.1 loc ls →
    W p l e (rm_d X.2.1 X.2.2.1 X.2.2.2) s m args below meth c H locs u.1 u.2 (MQ below (qc_r K b res) args s X.2.2.1 X.2.2.2 (fun q => b ≤ q)) (F0 m q ls (va_rf (up_o b o) :: st.map (up_v b)))) : V X u M pc loc (.int i :: .ref a :: st) (lo M a kd i Kf) G := by
  subst hq
  intro res hres p l e s m args below meth c K b H locs ls A hP hS hz hl
  unfold lo at hres
  cases hn : ln M a kd with
  | none => rw [hn] at hres; cases hres
  | some n =>
    rw [hn] at hres
    simp only [Option.bind_some] at hres
    split at hres
    · cases hres
    · rename_i hi
      exact va_aldq A.1 A.2.1 A.2.2.2.2.2.2.1.1 hP a t0 (by rw [en_at (ln_some hn), ce_ref hkd]) (ht K) hi hdg (kk _ p l e s m args below meth c K b H locs ls res hres A hP hS hz hl)
theorem v_aaload {a kd t0 : Nat} {C : String} {i : Int32} {Kf : Nat → Option β} (hdg : decode X.1.2.1 pc = .ok (.aaload, 1)) (hq : pc + 1 = q) (hkd : 22 ≤ kd) (ht : ∀ K : Kn, (ty_s K)[t0]? = some (K.2.2 kd, .object C)) (kk : ∀ o, V X u M q loc (.ref o :: st) (Kf o) G) : V X u M pc loc (.int i :: .ref a :: st) (lr M a kd i Kf) G := by
  have h := v_aaloadO (G := G) (X := X) (u := u) (M := M) (loc := loc) (st := st) (a := a) (i := i) (Kf := fun o => o.bind Kf) hdg hq hkd ht (fun o p l e s m args below meth c K b H locs ls res hres A hP hS hz hl => by
    cases o with
    | none => cases hres
    | some o => exact kk o res hres p l e s m args below meth c K b H locs ls A hP hS hz hl)
  exact h
/-- a place that may be null, asked at once whether it is -/
theorem v_aaloadN {a kd t0 q2 tgt : Nat} {C : String} {i : Int32} {off : Int} {F1 F2 : Option β} (hdg : decode X.1.2.1 pc = .ok (.aaload, 1)) (hq : pc + 1 = q) (hkd : 22 ≤ kd) (ht : ∀ K : Kn, (ty_s K)[t0]? = some (K.2.2 kd, .object C)) (hdg2 : decode X.1.2.1 q = .ok (.ifnonnull off, 3)) (htg : (q : Int) + off = (tgt : Int)) (hq2 : q + 3 = q2)
    (k1 : V X u M tgt loc st F1 G) (k2 : V X u M q2 loc st F2 G) : V X u M pc loc (.int i :: .ref a :: st) (lo M a kd i (fun o => if o = none then F2 else F1)) G := by
  subst hq2
  refine v_aaloadO hdg hq hkd ht (fun o p l e s m args below meth c K b H locs ls res hres A hP hS hz hl => ?_)
  cases o with
  | none => exact lv_ifnonnullN A.1 A.2.1 hdg2 (k2 res (by rw [if_pos rfl] at hres; exact hres) p l e s m args below meth c K b H locs ls A hP hS hz hl)
  | some x => exact lv_ifnonnull A.1 A.2.1 hdg2 htg (k1 res (by rw [if_neg (fun h => by cases h)] at hres; exact hres) p l e s m args below meth c K b H locs ls A hP hS hz hl)
theorem v_aastore {a kd t0 ci o : Nat} {i : Int32} {Kf : Me → Option β} (hdg : decode X.1.2.1 pc = .ok (.aastore, 1)) (hq : pc + 1 = q) (hkd : 22 ≤ kd) (hc : ci < 13) (ht : ∀ K : Kn, (ty_s K)[t0]? = some (K.2.2 kd, .object (rx_c ci))) (kk : ∀ M2, V X u M2 q loc st (Kf M2) G) : V X u M pc loc (.ref o :: .int i :: .ref a :: st) (sr M a kd ci i o Kf) G := by
  subst hq
  intro res hres p l e s m args below meth c K b H locs ls A hP hS hz hl
  unfold sr at hres
  cases hn : ln M a kd with
  | none => rw [hn] at hres; cases hres
  | some n =>
    rw [hn] at hres
    simp only [Option.bind_some] at hres
    split at hres
    · cases hres
    · rename_i hi
      have hi2 : vp_in i n := fun q => hi (q.elim Or.inl (fun q => Or.inr (Or.inl q)))
      have hko : me_k M o = some (ci, nf_c ci) := Classical.byContradiction (fun q => hi (Or.inr (Or.inr q)))
      refine h_astq A.1 A.2.1 A.2.2.2.2.2.2.1.1 hP en_D hS a t0 o ci (r := (rx_c ci, tb_f ci, nf_c ci)) (by rw [en_at (ln_some hn), ce_ref hkd]) (ht K) (by rw [en_at hko, ce_obj hc]) (cl_at ci hc) hi2 hdg (fun H1 locs1 hz1 hP1 hS1 => ?_)
      refine kk _ res hres p l e s m args below meth c K b H1 locs1 ls A ?_ hS1 (hz1.trans hz) hl
      rw [en_set (N := me_sr M a i.toNatClampNeg (some o)) (ln_some hn) rfl (fun y hy => ⟨by funext z; simp [me_sr, hy], rfl⟩) ?_] at hP1
      · exact hP1
      · rw [ce_ref hkd, show (fun j => up_o b ((me_sr M a i.toNatClampNeg (some o)).2.1 a j)) = va_up (fun j => up_o b (M.2.1 a j)) i.toNatClampNeg (some (b + o)) by
          funext z
          by_cases hzz : z = i.toNatClampNeg <;> simp [me_sr, va_up, hzz, up_o]]
theorem v_alen {a kd t0 : Nat} {ty : FieldType} {Kf : Int32 → Option β} (hdg : decode X.1.2.1 pc = .ok (.arraylength, 1)) (hq : pc + 1 = q) (hkd : 20 ≤ kd) (ht : ∀ K : Kn, (ty_s K)[t0]? = some (K.2.2 kd, ty)) (kk : ∀ v, V X u M q loc (.int v :: st) (Kf v) G) : V X u M pc loc (.ref a :: st) (al M a kd Kf) G := by
  subst hq
  intro res hres p l e s m args below meth c K b H locs ls A hP hS hz hl
  unfold al at hres
  cases hn : ln M a kd with
  | none => rw [hn] at hres; cases hres
  | some n =>
    rw [hn] at hres
    simp only [Option.bind_some] at hres
    have hce : ∃ x : vp_A, ce_l K.2.2 b (kd, n) (M.2.1 a) (M.2.2 a) = .inl (K.2.2 kd, x) ∧ x.1 = n := by
      unfold ce_l
      rw [if_neg (show ¬ kd < 20 by omega)]
      split
      · exact ⟨_, rfl, rfl⟩
      · exact ⟨_, rfl, rfl⟩
    obtain ⟨x, hx1, hx2⟩ := hce
    exact va_alen A.1 A.2.1 A.2.2.2.2.2.2.1.1 hP a t0 (by rw [en_at (ln_some hn), hx1]) (ht K) (v := Int32.ofNat n) (by rw [hx2]) hdg (kk _ res hres p l e s m args below meth c K b H locs ls A hP hS hz hl)
end JE
end
section
/-! making cells; calls; a contract out of V -/
theorem cl_df : ∀ ci, ci < 13 → ∀ j, j < nf_c ci → defaultValue (ty_f ci j) = (if is_r (ty_f ci j) = true then Value.null else .int 0) := by
  decide +kernel
section JF
variable {X : Xc} {u : Nat × Nat} {M : Me} {pc q : Nat} {loc : List (Option Value)} {st : List Value} {β : Type} {G : β → Option Rs}
theorem v_new {ci index : Nat} {Kf : Nat → Me → Option β} (hdg : decode X.1.2.1 pc = .ok (.new index, 3)) (hq : pc + 3 = q) (hc : ci < 13) (h1 : Cond.classLink X.1.1 index (rx_c ci) ∈ gw_s) (h2 : Cond.instantiable (rx_c ci) (nf_c ci) ∈ gw_s) (h3 : Cond.initialized (rx_c ci) ∈ gw_s) (hu : u.1 + 1 ≤ X.2.2.1 ∧ u.2 + nf_c ci ≤ X.2.2.2)
    (kk : ∀ a M2, V X (u.1 + 1, u.2 + nf_c ci) M2 q loc (.ref a :: st) (Kf a M2) G) : V X u M pc loc st (no M ci Kf) G := by
  subst hq
  intro res hres p l e s m args below meth c K b H locs ls A hP hS hz hl
  unfold no at hres
  refine h_new A.1 A.2.1 A.2.2.2.2.2.1 (cl_in ci hc) (ty_f ci) (cl_ty ci hc) A.2.2.2.2.1 (A.2.2.2.2.2.1 _ h1) (A.2.2.2.2.2.1 _ h2) (A.2.2.2.2.2.1 _ h3) A.2.2.2.2.2.2.1.1 hP hS (cl_at ci hc) (fs := (List.range (nf_c ci)).map (fun k => if is_r (ty_f ci k) = true then va_rf (up_o b none) else .int 0)) (fun j hj => ?_) hu.1 hu.2 hdg (fun H1 hz1 hP1 hS1 => ?_)
  · rw [cl_df ci hc j hj]
    simp [vp_V, hj]
    rfl
  · rw [hz] at hP1 ⊢
    refine kk _ _ res hres p l e s m args below meth c K b H1 locs ls A ?_ hS1 (by rw [hz1, hz]; simp [me_nw]; omega) hl
    rw [en_new, ce_obj hc]
    exact hP1
theorem v_newI {n : Int32} {N : Nat} {Kf : Nat → Me → Option β} (hdg : decode X.1.2.1 pc = .ok (.newarray .int, 2)) (hq : pc + 2 = q) (h1 : Cond.arrayClass .int ∈ gw_s) (hn : ¬ n < 0) (hN : n.toNatClampNeg = N) (hs : N ≤ 1000) (hu : u.1 + 1 ≤ X.2.2.1 ∧ u.2 + N ≤ X.2.2.2)
    (kk : ∀ a M2, V X (u.1 + 1, u.2 + N) M2 q loc (.ref a :: st) (Kf a M2) G) : V X u M pc loc (.int n :: st) (na M 20 N Kf) G := by
  subst hq
  intro res hres p l e s m args below meth c K b H locs ls A hP hS hz hl
  unfold na at hres
  refine h_newa (atype := .int) (ty := .int) A.1 A.2.1 (A.2.2.2.2.2.1 _ h1) rfl hP hS (a0 := (N, .inl (fun _ => 0))) (cA0 := K.2.2 20) (A.2.2.2.2.2.2.1.1.2 0 _ rfl).2 (fun _ => rfl) hn hN (by show N * 4 ≤ _; omega) hu.1 hu.2 hdg (fun H1 hz1 hP1 hS1 => ?_)
  rw [hz] at hP1 ⊢
  refine kk _ _ res hres p l e s m args below meth c K b H1 locs ls A ?_ hS1 (by rw [hz1, hz]; simp [me_nw]; omega) hl
  rw [en_new, ce_int]
  exact hP1
theorem v_newZ {n : Int32} {N : Nat} {Kf : Nat → Me → Option β} (hdg : decode X.1.2.1 pc = .ok (.newarray .boolean, 2)) (hq : pc + 2 = q) (h1 : Cond.arrayClass .boolean ∈ gw_s) (hn : ¬ n < 0) (hN : n.toNatClampNeg = N) (hs : N ≤ 1000) (hu : u.1 + 1 ≤ X.2.2.1 ∧ u.2 + N ≤ X.2.2.2)
    (kk : ∀ a M2, V X (u.1 + 1, u.2 + N) M2 q loc (.ref a :: st) (Kf a M2) G) : V X u M pc loc (.int n :: st) (na M 21 N Kf) G := by
  subst hq
  intro res hres p l e s m args below meth c K b H locs ls A hP hS hz hl
  unfold na at hres
  refine h_newa (atype := .boolean) (ty := .boolean) A.1 A.2.1 (A.2.2.2.2.2.1 _ h1) rfl hP hS (a0 := (N, .inl (fun _ => 0))) (cA0 := K.2.2 21) (A.2.2.2.2.2.2.1.1.2 1 _ rfl).2 (fun _ => rfl) hn hN (by show N * 1 ≤ _; omega) hu.1 hu.2 hdg (fun H1 hz1 hP1 hS1 => ?_)
  rw [hz] at hP1 ⊢
  refine kk _ _ res hres p l e s m args below meth c K b H1 locs ls A ?_ hS1 (by rw [hz1, hz]; simp [me_nw]; omega) hl
  rw [en_new, ce_boo]
  exact hP1
theorem v_newR {n : Int32} {N kd t0 index : Nat} {C : String} {Kf : Nat → Me → Option β} (hdg : decode X.1.2.1 pc = .ok (.anewarray index, 3)) (hq : pc + 3 = q) (hkd : 22 ≤ kd) (ht : ∀ K : Kn, (ty_s K)[t0]? = some (K.2.2 kd, .object C)) (h1 : Cond.classLink X.1.1 index C ∈ gw_s) (h2 : Cond.arrayOver (.object C) ∈ nw_s) (hn : ¬ n < 0) (hN : n.toNatClampNeg = N) (hs : N ≤ 1000) (hu : u.1 + 1 ≤ X.2.2.1 ∧ u.2 + N ≤ X.2.2.2)
    (kk : ∀ a M2, V X (u.1 + 1, u.2 + N) M2 q loc (.ref a :: st) (Kf a M2) G) : V X u M pc loc (.int n :: st) (na M kd N Kf) G := by
  subst hq
  intro res hres p l e s m args below meth c K b H locs ls A hP hS hz hl
  unfold na at hres
  obtain ⟨kA, comp, -, -, -, hf⟩ := (A.2.2.2.2.2.2.1.1.2 t0 _ (ht K)).2
  refine h_newq A.1 A.2.1 A.2.2.2.2.1 (A.2.2.2.2.2.1 _ h1) (A.2.2.2.2.2.2.1.2 _ h2) hP hS hf hn hN (by omega) hu.1 hu.2 hdg (fun H1 hz1 hP1 hS1 => ?_)
  rw [hz] at hP1 ⊢
  refine kk _ _ res hres p l e s m args below meth c K b H1 locs ls A ?_ hS1 (by rw [hz1, hz]; simp [me_nw]; omega) hl
  rw [en_new, ce_ref hkd]
  exact hP1
theorem v_acopy {a0 a index : Nat} {sp dp n : Int32} {Kf : Me → Option β} (hdg : decode X.1.2.1 pc = .ok (.invokestatic index, 3)) (hq : pc + 3 = q) (h1 : Cond.methodLink X.1.1 index arraycopyName ∈ gw_s) (h2 : Cond.native arraycopyName ∈ gw_s) (h3 : Cond.static arraycopyName ∈ gw_s) (h4 : Cond.initialized "java/lang/System" ∈ gw_s) (hd : 1 ≤ X.2.1) (hst : st = [])
    (kk : ∀ M2, V X u M2 q loc st (Kf M2) G) : V X u M pc loc (.int n :: .int dp :: .ref a :: .int sp :: .ref a0 :: st) (ac M a0 sp a dp n Kf) G := by
  subst hq
  subst hst
  intro res hres p l e s m args below meth c K b H locs ls A hP hS hz hl
  unfold ac at hres
  cases hn0 : ln M a0 20 with
  | none => rw [hn0] at hres; cases hres
  | some n0 =>
    rw [hn0] at hres
    simp only [Option.bind_some] at hres
    cases hn1 : ln M a 20 with
    | none => rw [hn1] at hres; cases hres
    | some n1 =>
      rw [hn1] at hres
      simp only [Option.bind_some] at hres
      split at hres
      · cases hres
      · rename_i hi
        have g1 : ¬ sp < 0 := fun q => hi (Or.inl q)
        have g2 : ¬ dp < 0 := fun q => hi (Or.inr (Or.inl q))
        have g3 : ¬ n < 0 := fun q => hi (Or.inr (Or.inr (Or.inl q)))
        have g4 : ¬ n0 < sp.toNatClampNeg + n.toNatClampNeg := fun q => hi (Or.inr (Or.inr (Or.inr (Or.inl q))))
        have g5 : ¬ n1 < dp.toNatClampNeg + n.toNatClampNeg := fun q => hi (Or.inr (Or.inr (Or.inr (Or.inr q))))
        have hloc : ((([] : List Value).map (up_v b)).map fun v => v.category).sum + (nativeFrameWords "java/lang/System" "arraycopy" 5 + 11) ≤ (rm_d X.2.1 X.2.2.1 X.2.2.2).locals := by
          have h9 : nativeFrameWords "java/lang/System" "arraycopy" 5 + 11 ≤ 38 := by decide +kernel
          show 0 + _ ≤ 38 * X.2.1
          omega
        refine h_copy A.1 A.2.1 (A.2.2.2.1.trans hl.1.symm) A.2.2.2.2.1 (A.2.2.2.2.2.1 _ h1) (A.2.2.2.2.2.1 _ h2) (A.2.2.2.2.2.1 _ h3) (A.2.2.2.2.2.1 _ h4) A.2.2.2.2.2.2.1.1 hP en_D hS a0 a 0 (f := M.2.2 a0) (g := M.2.2 a) (by rw [en_at (ln_some hn0), ce_int]) (by rw [en_at (ln_some hn1), ce_int]) rfl g1 g2 g3 (by omega) (by omega) hd hloc hdg (fun H1 locs1 hz1 hP1 hS1 => ?_)
        refine kk _ res hres p l e s m args below meth c K b H1 locs1 ls A ?_ hS1 (hz1.trans hz) hl
        rw [en_set (N := me_cp M a a0 sp.toNatClampNeg dp.toNatClampNeg n.toNatClampNeg) (ln_some hn1) rfl (fun y hy => ⟨rfl, by funext z; simp [me_cp, hy]⟩) ?_] at hP1
        · exact hP1
        · rw [ce_int, show (me_cp M a a0 sp.toNatClampNeg dp.toNatClampNeg n.toNatClampNeg).2.2 a = va_cpy (M.2.2 a0) (M.2.2 a) sp.toNatClampNeg dp.toNatClampNeg n.toNatClampNeg by funext z; simp [me_cp]]
theorem v_oinit {a index : Nat} {F : Option β} (hdg : decode X.1.2.1 pc = .ok (.invokespecial index, 3)) (hq : pc + 3 = q) (h1 : Cond.methodLink X.1.1 index Lib.objectInit ∈ gw_s) (h2 : Cond.instanceMethod Lib.objectInit ∈ gw_s) (h3 : Cond.code Lib.objectInit ⟨#[0xb1]⟩ 1 none ∈ gw_s) (hd : 1 ≤ X.2.1) (hst : st = []) (k : V X u M q loc st F G) : V X u M pc loc (.ref a :: st) F G := by
  subst hq
  subst hst
  intro res hres p l e s m args below meth c K b H locs ls A hP hS hz hl
  exact W.objInit A.1 A.2.1 A.2.2.2.2.1 (A.2.2.2.2.2.1 _ h1) (A.2.2.2.2.2.1 _ h2) (A.2.2.2.2.2.1 _ h3) rfl (hl.1.trans A.2.2.2.1.symm) rfl hdg hd (by show 2 * 0 + 0 + 12 ≤ 38 * X.2.1; omega) (k res hres p l e s m args below meth c K b H locs ls A hP hS hz hl)
end JF
theorem ho_blind {K : Kn} {b : Nat} {M : Me} {av : List Value} : FrameBlind (va_Pc av (ho_d K b M)) := by
  intro a U g mk h
  obtain ⟨h1, h2, h3, h4⟩ := h
  exact ⟨h1, h2, h3, kn_K.same (s := U) (U := U.calling g mk a) rfl h4⟩
/-- the words of a call -/
def cw_k (own : String) (index : Nat) (y : MethodName) (Y : My) (n : Nat) : Prop := (Cond.methodLink own index y ∈ gw_s ∨ ∃ host, Cond.methodLinkNest own index y host ∈ nw_s) ∧ Cond.code y Y.2.1 Y.2.2.1 Y.2.2.2.1 ∈ gw_s ∧ Cond.initialized y.cls ∈ gw_s ∧ (y.cls ≠ "java/lang/invoke/MethodHandle" ∧ y.cls ≠ "java/lang/invoke/VarHandle") ∧ (parseMethodDescriptor y.desc).map (fun d => d.parameters.length) = some n ∧ Y.2.2.1 ≤ 19
section JG
variable {X : Xc} {u : Nat × Nat} {M : Me} {pc q : Nat} {loc : List (Option Value)} {st : List Value} {β : Type} {F : Option β} {G : β → Option Rs}
theorem cw_ws {X : Xc} {p : Program} {s : State} {m : MethodId} {args : Array Value} {meth : Method} {c : Code} {K : Kn} {b : Nat} (A : Am X p s m args meth c K b) {w : Cond} (hw : w ∈ gw_s) : ∀ w2 ∈ (w :: gw_s), ∀ (a' : Array Value) (U : State), s.WarmedH U.vm → w2.before a' U = true := by
  intro w2 h2 a' U hW
  have h3 : w2 ∈ gw_s := by
    rcases List.mem_cons.mp h2 with rfl | h
    · exact hw
    · exact h
  exact word_at hW (gw_good _ h3) (A.2.2.2.2.2.1 _ h3)
/-- behind a call -/
theorem v_after {y : MethodName} {Y : My} {d mc ms : Nat} {res0 : Rs} {p : Program} {l : Launch} {e : Env} {s : State} {m : MethodId} {args : Array Value} {below : List Frame} {meth : Method} {c : Code} {K : Kn} {b : Nat} {H : Heap} {locs : List Loc} {ls : Array Slot} {st0 : List Value} {av : Array Value} {res : Rs}
    (hres : F.bind G = some res) (A : Am X p s m args meth c K b) (hS : va_S (fun q => b ≤ q) s.heap H locs) (hl : lo_k b X.1.2.2.1 loc ls)
    (hr : va_Run p l e (rm_d X.2.1 X.2.2.1 X.2.2.2) s m args below meth c H locs u.1 u.2 mc ms (F0 m pc ls st0) (st.map (up_v b)) (qc_r K b res0 av) (fun q => b ≤ q))
    (k : V X (u.1 + mc, u.2 + ms) res0.2 (pc + 3) loc (res0.1.toList ++ st) F G) :
    W p l e (rm_d X.2.1 X.2.2.1 X.2.2.2) s m args below meth c H locs u.1 u.2 (MQ below (qc_r K b res) args s X.2.2.1 X.2.2.2 (fun q => b ≤ q)) (F0 m pc ls st0) := by
  intro T hT Xs
  obtain ⟨v, st₀, t, T', L, h0, X', hL, e1, e2, ⟨hv, ⟨hz1, hP1, -⟩, hz, hk⟩, stp⟩ := hr T hT Xs
  cases hv
  rw [h0] at hz hk
  have hS1 : va_S (fun q => b ≤ q) s.heap T'.heap (locs ++ L) := ⟨Nat.le_trans hS.1 (by rw [e1]; exact hz), fun q h1 h2 => by rw [e1, hk q (Nat.lt_of_lt_of_le h1 hS.1) h2]; exact hS.2.1 q h1 h2, fun q hq => by
      rcases List.mem_append.mp hq with h | h
      · exact hS.2.2 q h
      · exact hL q h⟩
  obtain ⟨t2, a1, b1⟩ := k res hres p l e s m args below meth c K b T'.heap (locs ++ L) ls A (by rw [e1]; exact hP1) hS1 (by rw [e1]; exact hz1) hl T' rfl X'
  refine ⟨t2, stp t2 ?_, b1⟩
  have e9 : (res0.1.map (up_v b)).toList ++ st.map (up_v b) = (res0.1.toList ++ st).map (up_v b) := by
    cases res0.1 <;> rfl
  show Steps p.tables e below (T'.setTop (F0 m (pc + 3) ls ((res0.1.map (up_v b)).toList ++ st.map (up_v b)))) t2
  rw [e9]
  exact a1
theorem v_callV {y : MethodName} {Y : My} {d mc ms n ci a index : Nat} {av : List Value} {res0 : Rs} (hC : Ct y Y d mc ms (.ref a :: av) M res0) (hdg : decode X.1.2.1 pc = .ok (.invokevirtual index, 3)) (hq : pc + 3 = q) (hw : cw_k X.1.1 index y Y n) (h1 : Cond.instanceMethod y ∈ gw_s) (h2 : Cond.selects y.cls y y ∈ gw_s) (hn : av.length = n) (hd : d + 1 ≤ X.2.1) (hc : ci < 13) (hy : y.cls = rx_c ci) (hk : me_k M a = some (ci, nf_c ci)) (hst : (st.map fun v => v.category).sum ≤ 8) (hu : u.1 + mc ≤ X.2.2.1 ∧ u.2 + ms ≤ X.2.2.2)
    (k : V X (u.1 + mc, u.2 + ms) res0.2 q loc (res0.1.toList ++ st) F G) : V X u M pc loc (av.reverse ++ .ref a :: st) F G := by
  subst hq
  intro res hres p l e s m args below meth c K b H locs ls A hP hS hz hl
  obtain ⟨hlk, hcode, hini, hmh, hpd, hmL⟩ := hw
  have hstk : (av.reverse ++ .ref a :: st).map (up_v b) = (av.map (up_v b)).reverse ++ .ref (b + a) :: st.map (up_v b) := by
    rw [List.map_append, List.map_reverse]; rfl
  have hrest : ((st.map (up_v b)).map fun v => v.category).sum ≤ 8 := by
    rw [List.map_map]; rw [show ((fun v : Value => v.category) ∘ up_v b) = (fun v => v.category) by funext v; exact up_cat b v]; exact hst
  have hlen : ∀ sig, parseMethodDescriptor y.desc = some sig → n = sig.parameters.length := fun sig h => by
    rw [h] at hpd; exact (Option.some.inj hpd).symm
  have hpre : PreV s H y.cls (b + a) (va_Pc ((.ref a :: av).map (up_v b)) (ho_d K b M)) (av.map (up_v b)) :=
    ⟨ho_blind, by rw [hy]; exact va_recv A.2.2.2.2.2.2.1.1 hP (cl_at ci hc) (q0 := a) (by rw [en_at hk, ce_obj hc]), fun U hU hW => ⟨rfl, by rw [hU]; exact hz, by rw [hU]; exact hP, kn_K.warm hW A.2.2.2.2.2.2.1⟩⟩
  rw [hstk]
  rcases hlk with hlk | ⟨host, hlk⟩
  · exact v_after (mc := mc) (ms := ms) (y := y) (Y := Y) (d := d) hres A hS hl (va_runV (n := n) (As := av.map (up_v b)) (rest := st.map (up_v b)) ⟨A.1, A.2.1, A.2.2.2.1, A.2.2.2.2.1, A.2.2.2.2.2.1⟩ (hC l K b)
      ⟨⟨rfl, rfl, hd, (by show 8 + (Y.2.2.1 + 11) + 38 * d ≤ 38 * X.2.1; omega), cw_ws A hcode, List.mem_cons_self, A.2.2.2.2.2.1 _ hcode, A.2.2.2.2.2.1 _ hini, hmh, hlen, A.2.2.2.2.2.1 _ hlk⟩, A.2.2.2.2.2.1 _ h1, A.2.2.2.2.2.1 _ h2⟩ hpre rfl (by rw [List.length_map]; exact hn) hl.1 rfl (lv_room hrest) hdg hu) k
  · exact v_after (mc := mc) (ms := ms) (y := y) (Y := Y) (d := d) hres A hS hl (va_runVN (n := n) (As := av.map (up_v b)) (rest := st.map (up_v b)) ⟨A.1, A.2.1, A.2.2.2.1, A.2.2.2.2.1, A.2.2.2.2.2.1⟩ (hC l K b)
      ⟨⟨⟨rfl, rfl, hd, (by show 8 + (Y.2.2.1 + 11) + 38 * d ≤ 38 * X.2.1; omega), cw_ws A hcode, List.mem_cons_self⟩, A.2.2.2.2.2.1 _ hcode, A.2.2.2.2.2.1 _ hini, hmh, hlen, va_Nw.use rfl (A.2.2.2.2.2.2.1.2 _ hlk)⟩, A.2.2.2.2.2.1 _ h1, A.2.2.2.2.2.1 _ h2⟩ hpre rfl (by rw [List.length_map]; exact hn) hl.1 rfl (lv_room hrest) hdg hu) k
theorem v_callS {y : MethodName} {Y : My} {d mc ms n index : Nat} {av : List Value} {res0 : Rs} (hC : Ct y Y d mc ms av M res0) (hdg : decode X.1.2.1 pc = .ok (.invokestatic index, 3)) (hq : pc + 3 = q) (hw : cw_k X.1.1 index y Y n) (h1 : Cond.static y ∈ gw_s) (hn : av.length = n) (hd : d + 1 ≤ X.2.1) (hst : (st.map fun v => v.category).sum ≤ 8) (hu : u.1 + mc ≤ X.2.2.1 ∧ u.2 + ms ≤ X.2.2.2)
    (k : V X (u.1 + mc, u.2 + ms) res0.2 q loc (res0.1.toList ++ st) F G) : V X u M pc loc (av.reverse ++ st) F G := by
  subst hq
  intro res hres p l e s m args below meth c K b H locs ls A hP hS hz hl
  obtain ⟨hlk, hcode, hini, hmh, hpd, hmL⟩ := hw
  have hstk : (av.reverse ++ st).map (up_v b) = (av.map (up_v b)).reverse ++ st.map (up_v b) := by
    rw [List.map_append, List.map_reverse]
  have hrest : ((st.map (up_v b)).map fun v => v.category).sum ≤ 8 := by
    rw [List.map_map]; rw [show ((fun v : Value => v.category) ∘ up_v b) = (fun v => v.category) by funext v; exact up_cat b v]; exact hst
  have hlen : ∀ sig, parseMethodDescriptor y.desc = some sig → n = sig.parameters.length := fun sig h => by
    rw [h] at hpd; exact (Option.some.inj hpd).symm
  have hpre : PreS s H (va_Pc (av.map (up_v b)) (ho_d K b M)) (av.map (up_v b)) :=
    ⟨ho_blind, fun U hU hW => ⟨rfl, by rw [hU]; exact hz, by rw [hU]; exact hP, kn_K.warm hW A.2.2.2.2.2.2.1⟩⟩
  rw [hstk]
  rcases hlk with hlk | ⟨host, hlk⟩
  · exact v_after (mc := mc) (ms := ms) (y := y) (Y := Y) (d := d) hres A hS hl (va_runS (n := n) (As := av.map (up_v b)) (rest := st.map (up_v b)) ⟨A.1, A.2.1, A.2.2.2.1, A.2.2.2.2.1, A.2.2.2.2.2.1⟩ (hC l K b)
      ⟨⟨rfl, rfl, hd, (by show 8 + (Y.2.2.1 + 11) + 38 * d ≤ 38 * X.2.1; omega), cw_ws A hcode, List.mem_cons_self, A.2.2.2.2.2.1 _ hcode, A.2.2.2.2.2.1 _ hini, hmh, hlen, A.2.2.2.2.2.1 _ hlk⟩, A.2.2.2.2.2.1 _ h1⟩ hpre rfl (by rw [List.length_map]; exact hn) hl.1 rfl (lv_room hrest) hdg hu) k
  · exact v_after (mc := mc) (ms := ms) (y := y) (Y := Y) (d := d) hres A hS hl (va_runSN (n := n) (As := av.map (up_v b)) (rest := st.map (up_v b)) ⟨A.1, A.2.1, A.2.2.2.1, A.2.2.2.2.1, A.2.2.2.2.2.1⟩ (hC l K b)
      ⟨⟨⟨rfl, rfl, hd, (by show 8 + (Y.2.2.1 + 11) + 38 * d ≤ 38 * X.2.1; omega), cw_ws A hcode, List.mem_cons_self⟩, A.2.2.2.2.2.1 _ hcode, A.2.2.2.2.2.1 _ hini, hmh, hlen, va_Nw.use rfl (A.2.2.2.2.2.2.1.2 _ hlk)⟩, A.2.2.2.2.2.1 _ h1, trivial⟩ hpre rfl (by rw [List.length_map]; exact hn) hl.1 rfl (lv_room hrest) hdg hu) k
theorem v_callN {y : MethodName} {Y : My} {d mc ms n a index : Nat} {av : List Value} {res0 : Rs} (hC : Ct y Y d mc ms (.ref a :: av) M res0) (hdg : decode X.1.2.1 pc = .ok (.invokespecial index, 3)) (hq : pc + 3 = q) (hw : cw_k X.1.1 index y Y n) (hr : Y.2.2.2.1 = none) (h1 : Cond.instanceMethod y ∈ gw_s) (h2 : y.name = "<init>") (hn : av.length = n) (hd : d + 1 ≤ X.2.1) (hst : (st.map fun v => v.category).sum ≤ 8) (hu : u.1 + mc ≤ X.2.2.1 ∧ u.2 + ms ≤ X.2.2.2)
    (k : V X (u.1 + mc, u.2 + ms) res0.2 q loc (res0.1.toList ++ st) F G) : V X u M pc loc (av.reverse ++ .ref a :: st) F G := by
  subst hq
  intro res hres p l e s m args below meth c K b H locs ls A hP hS hz hl
  obtain ⟨hlk, hcode, hini, hmh, hpd, hmL⟩ := hw
  rw [hr] at hcode
  have hM := hC l K b
  rw [hr] at hM
  have hstk : (av.reverse ++ .ref a :: st).map (up_v b) = (av.map (up_v b)).reverse ++ .ref (b + a) :: st.map (up_v b) := by
    rw [List.map_append, List.map_reverse]; rfl
  have hrest : ((st.map (up_v b)).map fun v => v.category).sum ≤ 8 := by
    rw [List.map_map]; rw [show ((fun v : Value => v.category) ∘ up_v b) = (fun v => v.category) by funext v; exact up_cat b v]; exact hst
  have hlen : ∀ sig, parseMethodDescriptor y.desc = some sig → n = sig.parameters.length := fun sig h => by
    rw [h] at hpd; exact (Option.some.inj hpd).symm
  have hpre : PreS s H (va_Pc ((.ref a :: av).map (up_v b)) (ho_d K b M)) (.ref (b + a) :: av.map (up_v b)) :=
    ⟨ho_blind, fun U hU hW => ⟨rfl, by rw [hU]; exact hz, by rw [hU]; exact hP, kn_K.warm hW A.2.2.2.2.2.2.1⟩⟩
  rw [hstk]
  rcases hlk with hlk | ⟨host, hlk⟩
  · exact v_after (mc := mc) (ms := ms) (y := y) (Y := Y) (d := d) hres A hS hl (va_runI (n := n) (As := av.map (up_v b)) (rest := st.map (up_v b)) ⟨A.1, A.2.1, A.2.2.2.1, A.2.2.2.2.1, A.2.2.2.2.2.1⟩ hM
      ⟨⟨rfl, rfl, hd, (by show 8 + (Y.2.2.1 + 11) + 38 * d ≤ 38 * X.2.1; omega), cw_ws A hcode, List.mem_cons_self, A.2.2.2.2.2.1 _ hcode, A.2.2.2.2.2.1 _ hini, hmh, hlen, A.2.2.2.2.2.1 _ hlk⟩, h2, A.2.2.2.2.2.1 _ h1⟩ hpre rfl (by rw [List.length_map]; exact hn) hl.1 rfl (lv_room hrest) hdg hu) k
  · exact v_after (mc := mc) (ms := ms) (y := y) (Y := Y) (d := d) hres A hS hl (va_runIN (n := n) (As := av.map (up_v b)) (rest := st.map (up_v b)) ⟨A.1, A.2.1, A.2.2.2.1, A.2.2.2.2.1, A.2.2.2.2.2.1⟩ hM
      ⟨⟨⟨rfl, rfl, hd, (by show 8 + (Y.2.2.1 + 11) + 38 * d ≤ 38 * X.2.1; omega), cw_ws A hcode, List.mem_cons_self⟩, A.2.2.2.2.2.1 _ hcode, A.2.2.2.2.2.1 _ hini, hmh, hlen, va_Nw.use rfl (A.2.2.2.2.2.2.1.2 _ hlk)⟩, h2, A.2.2.2.2.2.1 _ h1⟩ hpre rfl (by rw [List.length_map]; exact hn) hl.1 rfl (lv_room hrest) hdg hu) k
end JG
/-! the entry -/
def lo_e (av : List Value) : List (Option Value) := av.flatMap (fun v => if v.category = 2 then [some v, none] else [some v])
theorem lo_sl (b : Nat) : ∀ (av : List Value), (lg_sl (av.map (up_v b))).length = (lo_e av).length ∧ ∀ (k : Nat) (v : Value), (lo_e av)[k]? = some (some v) → (lg_sl (av.map (up_v b)))[k]? = some (.val (up_v b v)) := by
  intro av
  induction av with
  | nil => exact ⟨rfl, fun k v h => by simp [lo_e] at h⟩
  | cons a av ih =>
    have e1 : lo_e (a :: av) = (if a.category = 2 then [some a, none] else [some a]) ++ lo_e av := rfl
    have e2 : lg_sl ((a :: av).map (up_v b)) = (if (up_v b a).category = 2 then [.val (up_v b a), .second] else [.val (up_v b a)]) ++ lg_sl (av.map (up_v b)) := rfl
    rw [e1, e2, up_cat]
    by_cases h : a.category = 2
    · rw [if_pos h, if_pos h]
      refine ⟨by simp [ih.1], fun k v hk => ?_⟩
      match k, hk with
      | 0, hk => simp at hk; subst hk; rfl
      | 1, hk => simp at hk
      | k + 2, hk => exact ih.2 k v hk
    · rw [if_neg h, if_neg h]
      refine ⟨by simp [ih.1], fun k v hk => ?_⟩
      match k, hk with
      | 0, hk => simp at hk; subst hk; rfl
      | k + 1, hk => exact ih.2 k v hk
theorem ct_of {y : MethodName} {Y : My} {d mc ms : Nat} {av : List Value} {M : Me} {res : Rs} {β : Type} {F : Option β} {G : β → Option Rs} (hy : plainName y.cls = true) (h1 : Y.1 = y.cls) (h2 : Y.2.2.2.2 = y.name) (hl : (lo_e av).length ≤ Y.2.2.1)
    (hV : V (Y, d, mc, ms) (0, 0) M 0 (lo_e av ++ List.replicate (Y.2.2.1 - (lo_e av).length) none) [] F G) (hF : F.bind G = some res) : Ct y Y d mc ms av M res := by
  intro l K b
  refine Met.ofW (cc := Y.2.1) (maxL := Y.2.2.1) (ret := Y.2.2.2.1) hy rfl ?_
  intro p e s m args below meth c s₁ B hml hv
  obtain ⟨rfl, hz, hP, hK⟩ := hv
  have hts := atoms_spec (ws := (Cond.code y Y.2.1 Y.2.2.1 Y.2.2.2.1 :: gw_s)) B.pre
  have hlen := (lo_sl b av).1
  have hent := lv_entry (av.map (up_v b)) (n := Y.2.2.1) (by rw [hlen]; exact hl)
  rw [lg_entry_eq]
  refine hV res hF p l e s m _ below meth c K b s.heap [] _ ⟨B.exec, B.bytes, B.returns, hml, by rw [h1]; exact findClass_of_methodNamed B.named, fun w hw => hts w (List.mem_cons_of_mem _ hw), hK, B.notSynchronized, by rw [h2]; exact (name_of_methodNamed B.named B.method).1, by rw [hz]; exact Nat.le_add_right _ _⟩ hP va_S.rf hz ⟨hent.1, hent.2.1, fun k v hk => ?_⟩
  by_cases hkl : k < (lo_e av).length
  · rw [List.getElem?_append_left hkl] at hk
    have h9 := (lo_sl b av).2 k v hk
    simp only [List.getElem?_toArray]
    rw [List.getElem?_append_left (by rw [hlen]; exact hkl)]
    exact h9
  · rw [List.getElem?_append_right (by omega)] at hk
    rw [List.getElem?_replicate] at hk
    split at hk <;> cases hk
end
