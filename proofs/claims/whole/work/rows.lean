section
-- ===== PART A: goes FIRST, ahead of the names: the tables' words, and 'selects' of the private methods out of them =====
/-- a private method of a class that the tables say can be made, by its rows of tables_1 -/
def lw_okq (q : MethodName × Nat) : Prop := (q.1.cls ≠ "java/lang/invoke/MethodHandle" ∧ q.1.cls ≠ "java/lang/invoke/VarHandle") ∧ Cond.instantiable q.1.cls q.2 ∈ tables_1 ∧ Cond.privateMethod q.1 ∈ tables_1 ∧ Cond.instanceMethod q.1 ∈ tables_1
theorem lw_p0 : lw_okq (⟨"BlowOwed$Court", "beginAnew", "(I)V"⟩, 6) := ⟨⟨by decide +kernel, by decide +kernel⟩, List.mem_of_getElem? (i := 43) (by decide +kernel), List.mem_of_getElem? (i := 333) (by decide +kernel), List.mem_of_getElem? (i := 334) (by decide +kernel)⟩
theorem lw_p1 : lw_okq (⟨"BlowOwed$Knight", "leave", "()V"⟩, 7) := ⟨⟨by decide +kernel, by decide +kernel⟩, List.mem_of_getElem? (i := 152) (by decide +kernel), List.mem_of_getElem? (i := 340) (by decide +kernel), List.mem_of_getElem? (i := 341) (by decide +kernel)⟩
theorem lw_p2 : lw_okq (⟨"BlowOwed$Land", "hasChapel", "(I)Z"⟩, 3) := ⟨⟨by decide +kernel, by decide +kernel⟩, List.mem_of_getElem? (i := 49) (by decide +kernel), List.mem_of_getElem? (i := 348) (by decide +kernel), List.mem_of_getElem? (i := 349) (by decide +kernel)⟩
theorem lw_p3 : lw_okq (⟨"BlowOwed$Land", "roadDays", "(II)I"⟩, 3) := ⟨⟨by decide +kernel, by decide +kernel⟩, List.mem_of_getElem? (i := 49) (by decide +kernel), List.mem_of_getElem? (i := 352) (by decide +kernel), List.mem_of_getElem? (i := 353) (by decide +kernel)⟩
theorem lw_p4 : lw_okq (⟨"BlowOwed$Land", "layRoad", "(III)V"⟩, 3) := ⟨⟨by decide +kernel, by decide +kernel⟩, List.mem_of_getElem? (i := 49) (by decide +kernel), List.mem_of_getElem? (i := 356) (by decide +kernel), List.mem_of_getElem? (i := 357) (by decide +kernel)⟩
theorem lw_p5 : lw_okq (⟨"BlowOwed$Court", "knightAt", "(I)LBlowOwed$Knight;"⟩, 6) := ⟨⟨by decide +kernel, by decide +kernel⟩, List.mem_of_getElem? (i := 43) (by decide +kernel), List.mem_of_getElem? (i := 369) (by decide +kernel), List.mem_of_getElem? (i := 370) (by decide +kernel)⟩
theorem lw_p6 : lw_okq (⟨"BlowOwed$Knight", "come", "(IIII)V"⟩, 7) := ⟨⟨by decide +kernel, by decide +kernel⟩, List.mem_of_getElem? (i := 152) (by decide +kernel), List.mem_of_getElem? (i := 373) (by decide +kernel), List.mem_of_getElem? (i := 374) (by decide +kernel)⟩
theorem lw_p7 : lw_okq (⟨"BlowOwed$Court", "countKnights", "()I"⟩, 6) := ⟨⟨by decide +kernel, by decide +kernel⟩, List.mem_of_getElem? (i := 43) (by decide +kernel), List.mem_of_getElem? (i := 377) (by decide +kernel), List.mem_of_getElem? (i := 378) (by decide +kernel)⟩
theorem lw_p8 : lw_okq (⟨"BlowOwed$Court", "knightBits", "()I"⟩, 6) := ⟨⟨by decide +kernel, by decide +kernel⟩, List.mem_of_getElem? (i := 43) (by decide +kernel), List.mem_of_getElem? (i := 381) (by decide +kernel), List.mem_of_getElem? (i := 382) (by decide +kernel)⟩
theorem lw_p9 : lw_okq (⟨"BlowOwed$Knight", "isAlive", "()Z"⟩, 7) := ⟨⟨by decide +kernel, by decide +kernel⟩, List.mem_of_getElem? (i := 152) (by decide +kernel), List.mem_of_getElem? (i := 395) (by decide +kernel), List.mem_of_getElem? (i := 396) (by decide +kernel)⟩
theorem lw_p10 : lw_okq (⟨"BlowOwed$Debts", "inherit", "(II)V"⟩, 2) := ⟨⟨by decide +kernel, by decide +kernel⟩, List.mem_of_getElem? (i := 72) (by decide +kernel), List.mem_of_getElem? (i := 400) (by decide +kernel), List.mem_of_getElem? (i := 401) (by decide +kernel)⟩
theorem lw_p11 : lw_okq (⟨"BlowOwed$Debts", "sweep", "()V"⟩, 2) := ⟨⟨by decide +kernel, by decide +kernel⟩, List.mem_of_getElem? (i := 72) (by decide +kernel), List.mem_of_getElem? (i := 404) (by decide +kernel), List.mem_of_getElem? (i := 405) (by decide +kernel)⟩
theorem lw_p12 : lw_okq (⟨"BlowOwed$Pad", "add", "(I)V"⟩, 2) := ⟨⟨by decide +kernel, by decide +kernel⟩, List.mem_of_getElem? (i := 27) (by decide +kernel), List.mem_of_getElem? (i := 412) (by decide +kernel), List.mem_of_getElem? (i := 413) (by decide +kernel)⟩
theorem lw_p13 : lw_okq (⟨"BlowOwed$Pad", "findFault", "(I)I"⟩, 2) := ⟨⟨by decide +kernel, by decide +kernel⟩, List.mem_of_getElem? (i := 27) (by decide +kernel), List.mem_of_getElem? (i := 424) (by decide +kernel), List.mem_of_getElem? (i := 425) (by decide +kernel)⟩
theorem lw_p14 : lw_okq (⟨"BlowOwed$Pad", "countGood", "(II)I"⟩, 2) := ⟨⟨by decide +kernel, by decide +kernel⟩, List.mem_of_getElem? (i := 27) (by decide +kernel), List.mem_of_getElem? (i := 428) (by decide +kernel), List.mem_of_getElem? (i := 429) (by decide +kernel)⟩
theorem lw_p15 : lw_okq (⟨"BlowOwed$Pad", "signAt", "(I)I"⟩, 2) := ⟨⟨by decide +kernel, by decide +kernel⟩, List.mem_of_getElem? (i := 27) (by decide +kernel), List.mem_of_getElem? (i := 432) (by decide +kernel), List.mem_of_getElem? (i := 433) (by decide +kernel)⟩
def lw_privs_1 : List (MethodName × Nat) := [(⟨"BlowOwed$Court", "beginAnew", "(I)V"⟩, 6), (⟨"BlowOwed$Knight", "leave", "()V"⟩, 7), (⟨"BlowOwed$Land", "hasChapel", "(I)Z"⟩, 3), (⟨"BlowOwed$Land", "roadDays", "(II)I"⟩, 3), (⟨"BlowOwed$Land", "layRoad", "(III)V"⟩, 3), (⟨"BlowOwed$Court", "knightAt", "(I)LBlowOwed$Knight;"⟩, 6), (⟨"BlowOwed$Knight", "come", "(IIII)V"⟩, 7), (⟨"BlowOwed$Court", "countKnights", "()I"⟩, 6), (⟨"BlowOwed$Court", "knightBits", "()I"⟩, 6), (⟨"BlowOwed$Knight", "isAlive", "()Z"⟩, 7), (⟨"BlowOwed$Debts", "inherit", "(II)V"⟩, 2), (⟨"BlowOwed$Debts", "sweep", "()V"⟩, 2), (⟨"BlowOwed$Pad", "add", "(I)V"⟩, 2), (⟨"BlowOwed$Pad", "findFault", "(I)I"⟩, 2), (⟨"BlowOwed$Pad", "countGood", "(II)I"⟩, 2), (⟨"BlowOwed$Pad", "signAt", "(I)I"⟩, 2)]
theorem lw_r1 : ∀ q ∈ lw_privs_1, lw_okq q := List.forall_mem_cons.mpr ⟨lw_p0, List.forall_mem_cons.mpr ⟨lw_p1, List.forall_mem_cons.mpr ⟨lw_p2, List.forall_mem_cons.mpr ⟨lw_p3, List.forall_mem_cons.mpr ⟨lw_p4, List.forall_mem_cons.mpr ⟨lw_p5, List.forall_mem_cons.mpr ⟨lw_p6, List.forall_mem_cons.mpr ⟨lw_p7, List.forall_mem_cons.mpr ⟨lw_p8, List.forall_mem_cons.mpr ⟨lw_p9, List.forall_mem_cons.mpr ⟨lw_p10, List.forall_mem_cons.mpr ⟨lw_p11, List.forall_mem_cons.mpr ⟨lw_p12, List.forall_mem_cons.mpr ⟨lw_p13, List.forall_mem_cons.mpr ⟨lw_p14, List.forall_mem_cons.mpr ⟨lw_p15, fun _ h => absurd h List.not_mem_nil⟩⟩⟩⟩⟩⟩⟩⟩⟩⟩⟩⟩⟩⟩⟩⟩
theorem lw_p16 : lw_okq (⟨"BlowOwed$Pad", "countGoodDigits", "(I)I"⟩, 2) := ⟨⟨by decide +kernel, by decide +kernel⟩, List.mem_of_getElem? (i := 27) (by decide +kernel), List.mem_of_getElem? (i := 442) (by decide +kernel), List.mem_of_getElem? (i := 443) (by decide +kernel)⟩
theorem lw_p17 : lw_okq (⟨"BlowOwed$Pad", "numberAt", "(I)I"⟩, 2) := ⟨⟨by decide +kernel, by decide +kernel⟩, List.mem_of_getElem? (i := 27) (by decide +kernel), List.mem_of_getElem? (i := 447) (by decide +kernel), List.mem_of_getElem? (i := 448) (by decide +kernel)⟩
theorem lw_p18 : lw_okq (⟨"BlowOwed$Pad", "signsOfAct", "(I)I"⟩, 2) := ⟨⟨by decide +kernel, by decide +kernel⟩, List.mem_of_getElem? (i := 27) (by decide +kernel), List.mem_of_getElem? (i := 451) (by decide +kernel), List.mem_of_getElem? (i := 452) (by decide +kernel)⟩
theorem lw_p19 : lw_okq (⟨"BlowOwed$Trial", "hear", "(LBlowOwed$Pad;LBlowOwed$Court;)Z"⟩, 5) := ⟨⟨by decide +kernel, by decide +kernel⟩, List.mem_of_getElem? (i := 224) (by decide +kernel), List.mem_of_getElem? (i := 460) (by decide +kernel), List.mem_of_getElem? (i := 461) (by decide +kernel)⟩
theorem lw_p20 : lw_okq (⟨"BlowOwed$Court", "copy", "(LBlowOwed$Court;)V"⟩, 6) := ⟨⟨by decide +kernel, by decide +kernel⟩, List.mem_of_getElem? (i := 43) (by decide +kernel), List.mem_of_getElem? (i := 464) (by decide +kernel), List.mem_of_getElem? (i := 465) (by decide +kernel)⟩
theorem lw_p21 : lw_okq (⟨"BlowOwed$Land", "copy", "(LBlowOwed$Land;)V"⟩, 3) := ⟨⟨by decide +kernel, by decide +kernel⟩, List.mem_of_getElem? (i := 49) (by decide +kernel), List.mem_of_getElem? (i := 468) (by decide +kernel), List.mem_of_getElem? (i := 469) (by decide +kernel)⟩
theorem lw_p22 : lw_okq (⟨"BlowOwed$Knight", "copy", "(LBlowOwed$Knight;)V"⟩, 7) := ⟨⟨by decide +kernel, by decide +kernel⟩, List.mem_of_getElem? (i := 152) (by decide +kernel), List.mem_of_getElem? (i := 475) (by decide +kernel), List.mem_of_getElem? (i := 476) (by decide +kernel)⟩
theorem lw_p23 : lw_okq (⟨"BlowOwed$Debts", "copy", "(LBlowOwed$Debts;)V"⟩, 2) := ⟨⟨by decide +kernel, by decide +kernel⟩, List.mem_of_getElem? (i := 72) (by decide +kernel), List.mem_of_getElem? (i := 479) (by decide +kernel), List.mem_of_getElem? (i := 480) (by decide +kernel)⟩
theorem lw_p24 : lw_okq (⟨"BlowOwed$Debt", "set", "(IIII)V"⟩, 5) := ⟨⟨by decide +kernel, by decide +kernel⟩, List.mem_of_getElem? (i := 79) (by decide +kernel), List.mem_of_getElem? (i := 483) (by decide +kernel), List.mem_of_getElem? (i := 484) (by decide +kernel)⟩
theorem lw_p25 : lw_okq (⟨"BlowOwed$Sights", "copy", "(LBlowOwed$Sights;)V"⟩, 3) := ⟨⟨by decide +kernel, by decide +kernel⟩, List.mem_of_getElem? (i := 132) (by decide +kernel), List.mem_of_getElem? (i := 487) (by decide +kernel), List.mem_of_getElem? (i := 488) (by decide +kernel)⟩
theorem lw_p26 : lw_okq (⟨"BlowOwed$Trial", "tryAct", "(LBlowOwed$Pad;I)I"⟩, 5) := ⟨⟨by decide +kernel, by decide +kernel⟩, List.mem_of_getElem? (i := 224) (by decide +kernel), List.mem_of_getElem? (i := 492) (by decide +kernel), List.mem_of_getElem? (i := 493) (by decide +kernel)⟩
theorem lw_p27 : lw_okq (⟨"BlowOwed$Court", "passDays", "(I)V"⟩, 6) := ⟨⟨by decide +kernel, by decide +kernel⟩, List.mem_of_getElem? (i := 43) (by decide +kernel), List.mem_of_getElem? (i := 498) (by decide +kernel), List.mem_of_getElem? (i := 499) (by decide +kernel)⟩
theorem lw_p28 : lw_okq (⟨"BlowOwed$Court", "tryStrike", "(III)I"⟩, 6) := ⟨⟨by decide +kernel, by decide +kernel⟩, List.mem_of_getElem? (i := 43) (by decide +kernel), List.mem_of_getElem? (i := 509) (by decide +kernel), List.mem_of_getElem? (i := 510) (by decide +kernel)⟩
theorem lw_p29 : lw_okq (⟨"BlowOwed$Court", "wound", "(II)V"⟩, 6) := ⟨⟨by decide +kernel, by decide +kernel⟩, List.mem_of_getElem? (i := 43) (by decide +kernel), List.mem_of_getElem? (i := 514) (by decide +kernel), List.mem_of_getElem? (i := 515) (by decide +kernel)⟩
theorem lw_p30 : lw_okq (⟨"BlowOwed$Knight", "isDead", "()Z"⟩, 7) := ⟨⟨by decide +kernel, by decide +kernel⟩, List.mem_of_getElem? (i := 152) (by decide +kernel), List.mem_of_getElem? (i := 518) (by decide +kernel), List.mem_of_getElem? (i := 519) (by decide +kernel)⟩
theorem lw_p31 : lw_okq (⟨"BlowOwed$Debts", "endAllOf", "(I)V"⟩, 2) := ⟨⟨by decide +kernel, by decide +kernel⟩, List.mem_of_getElem? (i := 72) (by decide +kernel), List.mem_of_getElem? (i := 522) (by decide +kernel), List.mem_of_getElem? (i := 523) (by decide +kernel)⟩
def lw_privs_2 : List (MethodName × Nat) := [(⟨"BlowOwed$Pad", "countGoodDigits", "(I)I"⟩, 2), (⟨"BlowOwed$Pad", "numberAt", "(I)I"⟩, 2), (⟨"BlowOwed$Pad", "signsOfAct", "(I)I"⟩, 2), (⟨"BlowOwed$Trial", "hear", "(LBlowOwed$Pad;LBlowOwed$Court;)Z"⟩, 5), (⟨"BlowOwed$Court", "copy", "(LBlowOwed$Court;)V"⟩, 6), (⟨"BlowOwed$Land", "copy", "(LBlowOwed$Land;)V"⟩, 3), (⟨"BlowOwed$Knight", "copy", "(LBlowOwed$Knight;)V"⟩, 7), (⟨"BlowOwed$Debts", "copy", "(LBlowOwed$Debts;)V"⟩, 2), (⟨"BlowOwed$Debt", "set", "(IIII)V"⟩, 5), (⟨"BlowOwed$Sights", "copy", "(LBlowOwed$Sights;)V"⟩, 3), (⟨"BlowOwed$Trial", "tryAct", "(LBlowOwed$Pad;I)I"⟩, 5), (⟨"BlowOwed$Court", "passDays", "(I)V"⟩, 6), (⟨"BlowOwed$Court", "tryStrike", "(III)I"⟩, 6), (⟨"BlowOwed$Court", "wound", "(II)V"⟩, 6), (⟨"BlowOwed$Knight", "isDead", "()Z"⟩, 7), (⟨"BlowOwed$Debts", "endAllOf", "(I)V"⟩, 2)]
theorem lw_r2 : ∀ q ∈ lw_privs_2, lw_okq q := List.forall_mem_cons.mpr ⟨lw_p16, List.forall_mem_cons.mpr ⟨lw_p17, List.forall_mem_cons.mpr ⟨lw_p18, List.forall_mem_cons.mpr ⟨lw_p19, List.forall_mem_cons.mpr ⟨lw_p20, List.forall_mem_cons.mpr ⟨lw_p21, List.forall_mem_cons.mpr ⟨lw_p22, List.forall_mem_cons.mpr ⟨lw_p23, List.forall_mem_cons.mpr ⟨lw_p24, List.forall_mem_cons.mpr ⟨lw_p25, List.forall_mem_cons.mpr ⟨lw_p26, List.forall_mem_cons.mpr ⟨lw_p27, List.forall_mem_cons.mpr ⟨lw_p28, List.forall_mem_cons.mpr ⟨lw_p29, List.forall_mem_cons.mpr ⟨lw_p30, List.forall_mem_cons.mpr ⟨lw_p31, fun _ h => absurd h List.not_mem_nil⟩⟩⟩⟩⟩⟩⟩⟩⟩⟩⟩⟩⟩⟩⟩⟩
theorem lw_p32 : lw_okq (⟨"BlowOwed$Debts", "add", "(IIII)V"⟩, 2) := ⟨⟨by decide +kernel, by decide +kernel⟩, List.mem_of_getElem? (i := 72) (by decide +kernel), List.mem_of_getElem? (i := 526) (by decide +kernel), List.mem_of_getElem? (i := 527) (by decide +kernel)⟩
theorem lw_p33 : lw_okq (⟨"BlowOwed$Court", "tryGiveBack", "(I)I"⟩, 6) := ⟨⟨by decide +kernel, by decide +kernel⟩, List.mem_of_getElem? (i := 43) (by decide +kernel), List.mem_of_getElem? (i := 530) (by decide +kernel), List.mem_of_getElem? (i := 531) (by decide +kernel)⟩
theorem lw_p34 : lw_okq (⟨"BlowOwed$Court", "whyNotActing", "(I)I"⟩, 6) := ⟨⟨by decide +kernel, by decide +kernel⟩, List.mem_of_getElem? (i := 43) (by decide +kernel), List.mem_of_getElem? (i := 534) (by decide +kernel), List.mem_of_getElem? (i := 535) (by decide +kernel)⟩
theorem lw_p35 : lw_okq (⟨"BlowOwed$Debts", "findDueTo", "(II)I"⟩, 2) := ⟨⟨by decide +kernel, by decide +kernel⟩, List.mem_of_getElem? (i := 72) (by decide +kernel), List.mem_of_getElem? (i := 538) (by decide +kernel), List.mem_of_getElem? (i := 539) (by decide +kernel)⟩
theorem lw_p36 : lw_okq (⟨"BlowOwed$Knight", "isIn", "(I)Z"⟩, 7) := ⟨⟨by decide +kernel, by decide +kernel⟩, List.mem_of_getElem? (i := 152) (by decide +kernel), List.mem_of_getElem? (i := 542) (by decide +kernel), List.mem_of_getElem? (i := 543) (by decide +kernel)⟩
theorem lw_p37 : lw_okq (⟨"BlowOwed$Court", "giveBackOne", "(LBlowOwed$Knight;I)V"⟩, 6) := ⟨⟨by decide +kernel, by decide +kernel⟩, List.mem_of_getElem? (i := 43) (by decide +kernel), List.mem_of_getElem? (i := 546) (by decide +kernel), List.mem_of_getElem? (i := 547) (by decide +kernel)⟩
theorem lw_p38 : lw_okq (⟨"BlowOwed$Debts", "has", "(I)Z"⟩, 2) := ⟨⟨by decide +kernel, by decide +kernel⟩, List.mem_of_getElem? (i := 72) (by decide +kernel), List.mem_of_getElem? (i := 550) (by decide +kernel), List.mem_of_getElem? (i := 551) (by decide +kernel)⟩
theorem lw_p39 : lw_okq (⟨"BlowOwed$Court", "tryFlinch", "(I)I"⟩, 6) := ⟨⟨by decide +kernel, by decide +kernel⟩, List.mem_of_getElem? (i := 43) (by decide +kernel), List.mem_of_getElem? (i := 557) (by decide +kernel), List.mem_of_getElem? (i := 558) (by decide +kernel)⟩
theorem lw_p40 : lw_okq (⟨"BlowOwed$Court", "tryRemit", "(I)I"⟩, 6) := ⟨⟨by decide +kernel, by decide +kernel⟩, List.mem_of_getElem? (i := 43) (by decide +kernel), List.mem_of_getElem? (i := 561) (by decide +kernel), List.mem_of_getElem? (i := 562) (by decide +kernel)⟩
theorem lw_p41 : lw_okq (⟨"BlowOwed$Court", "trySetOut", "(II)I"⟩, 6) := ⟨⟨by decide +kernel, by decide +kernel⟩, List.mem_of_getElem? (i := 43) (by decide +kernel), List.mem_of_getElem? (i := 565) (by decide +kernel), List.mem_of_getElem? (i := 566) (by decide +kernel)⟩
theorem lw_p42 : lw_okq (⟨"BlowOwed$Land", "daysUnderWay", "(III)I"⟩, 3) := ⟨⟨by decide +kernel, by decide +kernel⟩, List.mem_of_getElem? (i := 49) (by decide +kernel), List.mem_of_getElem? (i := 569) (by decide +kernel), List.mem_of_getElem? (i := 570) (by decide +kernel)⟩
theorem lw_p43 : lw_okq (⟨"BlowOwed$Land", "isWinter", "(I)Z"⟩, 3) := ⟨⟨by decide +kernel, by decide +kernel⟩, List.mem_of_getElem? (i := 49) (by decide +kernel), List.mem_of_getElem? (i := 574) (by decide +kernel), List.mem_of_getElem? (i := 575) (by decide +kernel)⟩
theorem lw_p44 : lw_okq (⟨"BlowOwed$Knight", "tell", "(I)I"⟩, 7) := ⟨⟨by decide +kernel, by decide +kernel⟩, List.mem_of_getElem? (i := 152) (by decide +kernel), List.mem_of_getElem? (i := 591) (by decide +kernel), List.mem_of_getElem? (i := 592) (by decide +kernel)⟩
theorem lw_p45 : lw_okq (⟨"BlowOwed$Debt", "tell", "(I)I"⟩, 5) := ⟨⟨by decide +kernel, by decide +kernel⟩, List.mem_of_getElem? (i := 79) (by decide +kernel), List.mem_of_getElem? (i := 605) (by decide +kernel), List.mem_of_getElem? (i := 606) (by decide +kernel)⟩
theorem lw_p46 : lw_okq (⟨"BlowOwed$Journeys", "firstDay", "(LBlowOwed$Court;II)I"⟩, 3) := ⟨⟨by decide +kernel, by decide +kernel⟩, List.mem_of_getElem? (i := 253) (by decide +kernel), List.mem_of_getElem? (i := 613) (by decide +kernel), List.mem_of_getElem? (i := 614) (by decide +kernel)⟩
theorem lw_p47 : lw_okq (⟨"BlowOwed$Journeys", "setOff", "(LBlowOwed$Court;I)V"⟩, 3) := ⟨⟨by decide +kernel, by decide +kernel⟩, List.mem_of_getElem? (i := 253) (by decide +kernel), List.mem_of_getElem? (i := 617) (by decide +kernel), List.mem_of_getElem? (i := 618) (by decide +kernel)⟩
def lw_privs_3 : List (MethodName × Nat) := [(⟨"BlowOwed$Debts", "add", "(IIII)V"⟩, 2), (⟨"BlowOwed$Court", "tryGiveBack", "(I)I"⟩, 6), (⟨"BlowOwed$Court", "whyNotActing", "(I)I"⟩, 6), (⟨"BlowOwed$Debts", "findDueTo", "(II)I"⟩, 2), (⟨"BlowOwed$Knight", "isIn", "(I)Z"⟩, 7), (⟨"BlowOwed$Court", "giveBackOne", "(LBlowOwed$Knight;I)V"⟩, 6), (⟨"BlowOwed$Debts", "has", "(I)Z"⟩, 2), (⟨"BlowOwed$Court", "tryFlinch", "(I)I"⟩, 6), (⟨"BlowOwed$Court", "tryRemit", "(I)I"⟩, 6), (⟨"BlowOwed$Court", "trySetOut", "(II)I"⟩, 6), (⟨"BlowOwed$Land", "daysUnderWay", "(III)I"⟩, 3), (⟨"BlowOwed$Land", "isWinter", "(I)Z"⟩, 3), (⟨"BlowOwed$Knight", "tell", "(I)I"⟩, 7), (⟨"BlowOwed$Debt", "tell", "(I)I"⟩, 5), (⟨"BlowOwed$Journeys", "firstDay", "(LBlowOwed$Court;II)I"⟩, 3), (⟨"BlowOwed$Journeys", "setOff", "(LBlowOwed$Court;I)V"⟩, 3)]
theorem lw_r3 : ∀ q ∈ lw_privs_3, lw_okq q := List.forall_mem_cons.mpr ⟨lw_p32, List.forall_mem_cons.mpr ⟨lw_p33, List.forall_mem_cons.mpr ⟨lw_p34, List.forall_mem_cons.mpr ⟨lw_p35, List.forall_mem_cons.mpr ⟨lw_p36, List.forall_mem_cons.mpr ⟨lw_p37, List.forall_mem_cons.mpr ⟨lw_p38, List.forall_mem_cons.mpr ⟨lw_p39, List.forall_mem_cons.mpr ⟨lw_p40, List.forall_mem_cons.mpr ⟨lw_p41, List.forall_mem_cons.mpr ⟨lw_p42, List.forall_mem_cons.mpr ⟨lw_p43, List.forall_mem_cons.mpr ⟨lw_p44, List.forall_mem_cons.mpr ⟨lw_p45, List.forall_mem_cons.mpr ⟨lw_p46, List.forall_mem_cons.mpr ⟨lw_p47, fun _ h => absurd h List.not_mem_nil⟩⟩⟩⟩⟩⟩⟩⟩⟩⟩⟩⟩⟩⟩⟩⟩
theorem lw_p48 : lw_okq (⟨"BlowOwed$Land", "fillFirstDays", "(II[I)V"⟩, 3) := ⟨⟨by decide +kernel, by decide +kernel⟩, List.mem_of_getElem? (i := 49) (by decide +kernel), List.mem_of_getElem? (i := 622) (by decide +kernel), List.mem_of_getElem? (i := 623) (by decide +kernel)⟩
theorem lw_p49 : lw_okq (⟨"BlowOwed$Land", "firstAcross", "(III)I"⟩, 3) := ⟨⟨by decide +kernel, by decide +kernel⟩, List.mem_of_getElem? (i := 49) (by decide +kernel), List.mem_of_getElem? (i := 628) (by decide +kernel), List.mem_of_getElem? (i := 629) (by decide +kernel)⟩
theorem lw_p50 : lw_okq (⟨"BlowOwed$Journeys", "metAlone", "(LBlowOwed$Court;I)I"⟩, 3) := ⟨⟨by decide +kernel, by decide +kernel⟩, List.mem_of_getElem? (i := 253) (by decide +kernel), List.mem_of_getElem? (i := 642) (by decide +kernel), List.mem_of_getElem? (i := 643) (by decide +kernel)⟩
theorem lw_p51 : lw_okq (⟨"BlowOwed$Journeys", "mostMet", "(LBlowOwed$Court;I)I"⟩, 3) := ⟨⟨by decide +kernel, by decide +kernel⟩, List.mem_of_getElem? (i := 253) (by decide +kernel), List.mem_of_getElem? (i := 654) (by decide +kernel), List.mem_of_getElem? (i := 655) (by decide +kernel)⟩
theorem lw_p52 : lw_okq (⟨"BlowOwed$Journeys", "lengthen", "(LBlowOwed$Court;II)V"⟩, 3) := ⟨⟨by decide +kernel, by decide +kernel⟩, List.mem_of_getElem? (i := 253) (by decide +kernel), List.mem_of_getElem? (i := 660) (by decide +kernel), List.mem_of_getElem? (i := 661) (by decide +kernel)⟩
theorem lw_p53 : lw_okq (⟨"BlowOwed$Journeys", "goOnFrom", "(LBlowOwed$Court;I)V"⟩, 3) := ⟨⟨by decide +kernel, by decide +kernel⟩, List.mem_of_getElem? (i := 253) (by decide +kernel), List.mem_of_getElem? (i := 664) (by decide +kernel), List.mem_of_getElem? (i := 665) (by decide +kernel)⟩
theorem lw_p54 : lw_okq (⟨"BlowOwed$Debts", "countOwedBy", "(I)I"⟩, 2) := ⟨⟨by decide +kernel, by decide +kernel⟩, List.mem_of_getElem? (i := 72) (by decide +kernel), List.mem_of_getElem? (i := 668) (by decide +kernel), List.mem_of_getElem? (i := 669) (by decide +kernel)⟩
theorem lw_p55 : lw_okq (⟨"BlowOwed$Journeys", "findBarred", "(LBlowOwed$Court;I)I"⟩, 3) := ⟨⟨by decide +kernel, by decide +kernel⟩, List.mem_of_getElem? (i := 253) (by decide +kernel), List.mem_of_getElem? (i := 672) (by decide +kernel), List.mem_of_getElem? (i := 673) (by decide +kernel)⟩
theorem lw_p56 : lw_okq (⟨"BlowOwed$Ledger", "fewestPayments", "(LBlowOwed$Debts;)I"⟩, 2) := ⟨⟨by decide +kernel, by decide +kernel⟩, List.mem_of_getElem? (i := 269) (by decide +kernel), List.mem_of_getElem? (i := 691) (by decide +kernel), List.mem_of_getElem? (i := 692) (by decide +kernel)⟩
theorem lw_p57 : lw_okq (⟨"BlowOwed$Ledger", "sumOf", "(ILBlowOwed$Debts;)I"⟩, 2) := ⟨⟨by decide +kernel, by decide +kernel⟩, List.mem_of_getElem? (i := 269) (by decide +kernel), List.mem_of_getElem? (i := 696) (by decide +kernel), List.mem_of_getElem? (i := 697) (by decide +kernel)⟩
theorem lw_p58 : lw_okq (⟨"BlowOwed$Ledger", "shortestRing", "(LBlowOwed$Debts;)I"⟩, 2) := ⟨⟨by decide +kernel, by decide +kernel⟩, List.mem_of_getElem? (i := 269) (by decide +kernel), List.mem_of_getElem? (i := 704) (by decide +kernel), List.mem_of_getElem? (i := 705) (by decide +kernel)⟩
theorem lw_p59 : lw_okq (⟨"BlowOwed$Ledger", "ringThrough", "(I)I"⟩, 2) := ⟨⟨by decide +kernel, by decide +kernel⟩, List.mem_of_getElem? (i := 269) (by decide +kernel), List.mem_of_getElem? (i := 710) (by decide +kernel), List.mem_of_getElem? (i := 711) (by decide +kernel)⟩
theorem lw_p60 : lw_okq (⟨"BlowOwed$Ledger", "nextOf", "(I)I"⟩, 2) := ⟨⟨by decide +kernel, by decide +kernel⟩, List.mem_of_getElem? (i := 269) (by decide +kernel), List.mem_of_getElem? (i := 714) (by decide +kernel), List.mem_of_getElem? (i := 715) (by decide +kernel)⟩
theorem lw_p61 : lw_okq (⟨"BlowOwed$Sights", "add", "(II)V"⟩, 3) := ⟨⟨by decide +kernel, by decide +kernel⟩, List.mem_of_getElem? (i := 132) (by decide +kernel), List.mem_of_getElem? (i := 770) (by decide +kernel), List.mem_of_getElem? (i := 771) (by decide +kernel)⟩
theorem lw_p62 : lw_okq (⟨"BlowOwed$Scars", "fit", "(LBlowOwed$Court;)V"⟩, 4) := ⟨⟨by decide +kernel, by decide +kernel⟩, List.mem_of_getElem? (i := 282) (by decide +kernel), List.mem_of_getElem? (i := 782) (by decide +kernel), List.mem_of_getElem? (i := 783) (by decide +kernel)⟩
theorem lw_p63 : lw_okq (⟨"BlowOwed$Scars", "addStriker", "(LBlowOwed$Court;I)V"⟩, 4) := ⟨⟨by decide +kernel, by decide +kernel⟩, List.mem_of_getElem? (i := 282) (by decide +kernel), List.mem_of_getElem? (i := 787) (by decide +kernel), List.mem_of_getElem? (i := 788) (by decide +kernel)⟩
def lw_privs_4 : List (MethodName × Nat) := [(⟨"BlowOwed$Land", "fillFirstDays", "(II[I)V"⟩, 3), (⟨"BlowOwed$Land", "firstAcross", "(III)I"⟩, 3), (⟨"BlowOwed$Journeys", "metAlone", "(LBlowOwed$Court;I)I"⟩, 3), (⟨"BlowOwed$Journeys", "mostMet", "(LBlowOwed$Court;I)I"⟩, 3), (⟨"BlowOwed$Journeys", "lengthen", "(LBlowOwed$Court;II)V"⟩, 3), (⟨"BlowOwed$Journeys", "goOnFrom", "(LBlowOwed$Court;I)V"⟩, 3), (⟨"BlowOwed$Debts", "countOwedBy", "(I)I"⟩, 2), (⟨"BlowOwed$Journeys", "findBarred", "(LBlowOwed$Court;I)I"⟩, 3), (⟨"BlowOwed$Ledger", "fewestPayments", "(LBlowOwed$Debts;)I"⟩, 2), (⟨"BlowOwed$Ledger", "sumOf", "(ILBlowOwed$Debts;)I"⟩, 2), (⟨"BlowOwed$Ledger", "shortestRing", "(LBlowOwed$Debts;)I"⟩, 2), (⟨"BlowOwed$Ledger", "ringThrough", "(I)I"⟩, 2), (⟨"BlowOwed$Ledger", "nextOf", "(I)I"⟩, 2), (⟨"BlowOwed$Sights", "add", "(II)V"⟩, 3), (⟨"BlowOwed$Scars", "fit", "(LBlowOwed$Court;)V"⟩, 4), (⟨"BlowOwed$Scars", "addStriker", "(LBlowOwed$Court;I)V"⟩, 4)]
theorem lw_r4 : ∀ q ∈ lw_privs_4, lw_okq q := List.forall_mem_cons.mpr ⟨lw_p48, List.forall_mem_cons.mpr ⟨lw_p49, List.forall_mem_cons.mpr ⟨lw_p50, List.forall_mem_cons.mpr ⟨lw_p51, List.forall_mem_cons.mpr ⟨lw_p52, List.forall_mem_cons.mpr ⟨lw_p53, List.forall_mem_cons.mpr ⟨lw_p54, List.forall_mem_cons.mpr ⟨lw_p55, List.forall_mem_cons.mpr ⟨lw_p56, List.forall_mem_cons.mpr ⟨lw_p57, List.forall_mem_cons.mpr ⟨lw_p58, List.forall_mem_cons.mpr ⟨lw_p59, List.forall_mem_cons.mpr ⟨lw_p60, List.forall_mem_cons.mpr ⟨lw_p61, List.forall_mem_cons.mpr ⟨lw_p62, List.forall_mem_cons.mpr ⟨lw_p63, fun _ h => absurd h List.not_mem_nil⟩⟩⟩⟩⟩⟩⟩⟩⟩⟩⟩⟩⟩⟩⟩⟩
theorem lw_p64 : lw_okq (⟨"BlowOwed$Trial", "draw", "(LBlowOwed$Court;II)V"⟩, 5) := ⟨⟨by decide +kernel, by decide +kernel⟩, List.mem_of_getElem? (i := 224) (by decide +kernel), List.mem_of_getElem? (i := 804) (by decide +kernel), List.mem_of_getElem? (i := 805) (by decide +kernel)⟩
theorem lw_p65 : lw_okq (⟨"BlowOwed$Court", "sumHonour", "()I"⟩, 6) := ⟨⟨by decide +kernel, by decide +kernel⟩, List.mem_of_getElem? (i := 43) (by decide +kernel), List.mem_of_getElem? (i := 809) (by decide +kernel), List.mem_of_getElem? (i := 810) (by decide +kernel)⟩
theorem lw_p66 : lw_okq (⟨"BlowOwed$Court", "countDead", "()I"⟩, 6) := ⟨⟨by decide +kernel, by decide +kernel⟩, List.mem_of_getElem? (i := 43) (by decide +kernel), List.mem_of_getElem? (i := 813) (by decide +kernel), List.mem_of_getElem? (i := 814) (by decide +kernel)⟩
theorem lw_p67 : lw_okq (⟨"BlowOwed", "toldOfKnight", "(I)I"⟩, 7) := ⟨⟨by decide +kernel, by decide +kernel⟩, List.mem_of_getElem? (i := 19) (by decide +kernel), List.mem_of_getElem? (i := 830) (by decide +kernel), List.mem_of_getElem? (i := 831) (by decide +kernel)⟩
theorem lw_p68 : lw_okq (⟨"BlowOwed", "toldOfRoad", "(I)I"⟩, 7) := ⟨⟨by decide +kernel, by decide +kernel⟩, List.mem_of_getElem? (i := 19) (by decide +kernel), List.mem_of_getElem? (i := 834) (by decide +kernel), List.mem_of_getElem? (i := 835) (by decide +kernel)⟩
theorem lw_p69 : lw_okq (⟨"BlowOwedModel", "isChapel", "(I)Z"⟩, 32) := ⟨⟨by decide +kernel, by decide +kernel⟩, List.mem_of_getElem? (i := 838) (by decide +kernel), List.mem_of_getElem? (i := 953) (by decide +kernel), List.mem_of_getElem? (i := 954) (by decide +kernel)⟩
theorem lw_p70 : lw_okq (⟨"BlowOwedModel", "isThere", "(I)Z"⟩, 32) := ⟨⟨by decide +kernel, by decide +kernel⟩, List.mem_of_getElem? (i := 838) (by decide +kernel), List.mem_of_getElem? (i := 965) (by decide +kernel), List.mem_of_getElem? (i := 966) (by decide +kernel)⟩
theorem lw_p71 : lw_okq (⟨"BlowOwedModel", "faultOf", "()I"⟩, 32) := ⟨⟨by decide +kernel, by decide +kernel⟩, List.mem_of_getElem? (i := 838) (by decide +kernel), List.mem_of_getElem? (i := 991) (by decide +kernel), List.mem_of_getElem? (i := 992) (by decide +kernel)⟩
theorem lw_p72 : lw_okq (⟨"BlowOwedModel", "goCourt", "()I"⟩, 32) := ⟨⟨by decide +kernel, by decide +kernel⟩, List.mem_of_getElem? (i := 838) (by decide +kernel), List.mem_of_getElem? (i := 1002) (by decide +kernel), List.mem_of_getElem? (i := 1003) (by decide +kernel)⟩
theorem lw_p73 : lw_okq (⟨"BlowOwedModel", "asNow", "()V"⟩, 32) := ⟨⟨by decide +kernel, by decide +kernel⟩, List.mem_of_getElem? (i := 838) (by decide +kernel), List.mem_of_getElem? (i := 1006) (by decide +kernel), List.mem_of_getElem? (i := 1007) (by decide +kernel)⟩
theorem lw_p74 : lw_okq (⟨"BlowOwedModel", "pass", "(I)V"⟩, 32) := ⟨⟨by decide +kernel, by decide +kernel⟩, List.mem_of_getElem? (i := 838) (by decide +kernel), List.mem_of_getElem? (i := 1010) (by decide +kernel), List.mem_of_getElem? (i := 1011) (by decide +kernel)⟩
theorem lw_p75 : lw_okq (⟨"BlowOwedModel", "forgive", "(I)V"⟩, 32) := ⟨⟨by decide +kernel, by decide +kernel⟩, List.mem_of_getElem? (i := 838) (by decide +kernel), List.mem_of_getElem? (i := 1014) (by decide +kernel), List.mem_of_getElem? (i := 1015) (by decide +kernel)⟩
theorem lw_p76 : lw_okq (⟨"BlowOwedModel", "whyNotStrike", "(III)I"⟩, 32) := ⟨⟨by decide +kernel, by decide +kernel⟩, List.mem_of_getElem? (i := 838) (by decide +kernel), List.mem_of_getElem? (i := 1018) (by decide +kernel), List.mem_of_getElem? (i := 1019) (by decide +kernel)⟩
theorem lw_p77 : lw_okq (⟨"BlowOwedModel", "isAlive", "(I)Z"⟩, 32) := ⟨⟨by decide +kernel, by decide +kernel⟩, List.mem_of_getElem? (i := 838) (by decide +kernel), List.mem_of_getElem? (i := 1022) (by decide +kernel), List.mem_of_getElem? (i := 1023) (by decide +kernel)⟩
theorem lw_p78 : lw_okq (⟨"BlowOwedModel", "hit", "(III)V"⟩, 32) := ⟨⟨by decide +kernel, by decide +kernel⟩, List.mem_of_getElem? (i := 838) (by decide +kernel), List.mem_of_getElem? (i := 1026) (by decide +kernel), List.mem_of_getElem? (i := 1027) (by decide +kernel)⟩
theorem lw_p79 : lw_okq (⟨"BlowOwedModel", "strike", "(II)V"⟩, 32) := ⟨⟨by decide +kernel, by decide +kernel⟩, List.mem_of_getElem? (i := 838) (by decide +kernel), List.mem_of_getElem? (i := 1030) (by decide +kernel), List.mem_of_getElem? (i := 1031) (by decide +kernel)⟩
def lw_privs_5 : List (MethodName × Nat) := [(⟨"BlowOwed$Trial", "draw", "(LBlowOwed$Court;II)V"⟩, 5), (⟨"BlowOwed$Court", "sumHonour", "()I"⟩, 6), (⟨"BlowOwed$Court", "countDead", "()I"⟩, 6), (⟨"BlowOwed", "toldOfKnight", "(I)I"⟩, 7), (⟨"BlowOwed", "toldOfRoad", "(I)I"⟩, 7), (⟨"BlowOwedModel", "isChapel", "(I)Z"⟩, 32), (⟨"BlowOwedModel", "isThere", "(I)Z"⟩, 32), (⟨"BlowOwedModel", "faultOf", "()I"⟩, 32), (⟨"BlowOwedModel", "goCourt", "()I"⟩, 32), (⟨"BlowOwedModel", "asNow", "()V"⟩, 32), (⟨"BlowOwedModel", "pass", "(I)V"⟩, 32), (⟨"BlowOwedModel", "forgive", "(I)V"⟩, 32), (⟨"BlowOwedModel", "whyNotStrike", "(III)I"⟩, 32), (⟨"BlowOwedModel", "isAlive", "(I)Z"⟩, 32), (⟨"BlowOwedModel", "hit", "(III)V"⟩, 32), (⟨"BlowOwedModel", "strike", "(II)V"⟩, 32)]
theorem lw_r5 : ∀ q ∈ lw_privs_5, lw_okq q := List.forall_mem_cons.mpr ⟨lw_p64, List.forall_mem_cons.mpr ⟨lw_p65, List.forall_mem_cons.mpr ⟨lw_p66, List.forall_mem_cons.mpr ⟨lw_p67, List.forall_mem_cons.mpr ⟨lw_p68, List.forall_mem_cons.mpr ⟨lw_p69, List.forall_mem_cons.mpr ⟨lw_p70, List.forall_mem_cons.mpr ⟨lw_p71, List.forall_mem_cons.mpr ⟨lw_p72, List.forall_mem_cons.mpr ⟨lw_p73, List.forall_mem_cons.mpr ⟨lw_p74, List.forall_mem_cons.mpr ⟨lw_p75, List.forall_mem_cons.mpr ⟨lw_p76, List.forall_mem_cons.mpr ⟨lw_p77, List.forall_mem_cons.mpr ⟨lw_p78, List.forall_mem_cons.mpr ⟨lw_p79, fun _ h => absurd h List.not_mem_nil⟩⟩⟩⟩⟩⟩⟩⟩⟩⟩⟩⟩⟩⟩⟩⟩
theorem lw_p80 : lw_okq (⟨"BlowOwedModel", "whyNot", "(II)I"⟩, 32) := ⟨⟨by decide +kernel, by decide +kernel⟩, List.mem_of_getElem? (i := 838) (by decide +kernel), List.mem_of_getElem? (i := 1034) (by decide +kernel), List.mem_of_getElem? (i := 1035) (by decide +kernel)⟩
theorem lw_p81 : lw_okq (⟨"BlowOwedModel", "isOwed", "(II)Z"⟩, 32) := ⟨⟨by decide +kernel, by decide +kernel⟩, List.mem_of_getElem? (i := 838) (by decide +kernel), List.mem_of_getElem? (i := 1038) (by decide +kernel), List.mem_of_getElem? (i := 1039) (by decide +kernel)⟩
theorem lw_p82 : lw_okq (⟨"BlowOwedModel", "owesHere", "(II)Z"⟩, 32) := ⟨⟨by decide +kernel, by decide +kernel⟩, List.mem_of_getElem? (i := 838) (by decide +kernel), List.mem_of_getElem? (i := 1042) (by decide +kernel), List.mem_of_getElem? (i := 1043) (by decide +kernel)⟩
theorem lw_p83 : lw_okq (⟨"BlowOwedModel", "act", "(II)V"⟩, 32) := ⟨⟨by decide +kernel, by decide +kernel⟩, List.mem_of_getElem? (i := 838) (by decide +kernel), List.mem_of_getElem? (i := 1046) (by decide +kernel), List.mem_of_getElem? (i := 1047) (by decide +kernel)⟩
theorem lw_p84 : lw_okq (⟨"BlowOwedModel", "giveBack", "(I)V"⟩, 32) := ⟨⟨by decide +kernel, by decide +kernel⟩, List.mem_of_getElem? (i := 838) (by decide +kernel), List.mem_of_getElem? (i := 1050) (by decide +kernel), List.mem_of_getElem? (i := 1051) (by decide +kernel)⟩
theorem lw_p85 : lw_okq (⟨"BlowOwedModel", "barOfCourt", "()I"⟩, 32) := ⟨⟨by decide +kernel, by decide +kernel⟩, List.mem_of_getElem? (i := 838) (by decide +kernel), List.mem_of_getElem? (i := 1058) (by decide +kernel), List.mem_of_getElem? (i := 1059) (by decide +kernel)⟩
theorem lw_p86 : lw_okq (⟨"BlowOwedModel", "keep", "()V"⟩, 32) := ⟨⟨by decide +kernel, by decide +kernel⟩, List.mem_of_getElem? (i := 838) (by decide +kernel), List.mem_of_getElem? (i := 1062) (by decide +kernel), List.mem_of_getElem? (i := 1063) (by decide +kernel)⟩
theorem lw_p87 : lw_okq (⟨"BlowOwedModel", "stateNow", "(II)I"⟩, 32) := ⟨⟨by decide +kernel, by decide +kernel⟩, List.mem_of_getElem? (i := 838) (by decide +kernel), List.mem_of_getElem? (i := 1070) (by decide +kernel), List.mem_of_getElem? (i := 1071) (by decide +kernel)⟩
theorem lw_p88 : lw_okq (⟨"BlowOwedModel", "isWell", "(I)Z"⟩, 32) := ⟨⟨by decide +kernel, by decide +kernel⟩, List.mem_of_getElem? (i := 838) (by decide +kernel), List.mem_of_getElem? (i := 1086) (by decide +kernel), List.mem_of_getElem? (i := 1087) (by decide +kernel)⟩
theorem lw_p89 : lw_okq (⟨"BlowOwedModel", "layJourneys", "(II)V"⟩, 32) := ⟨⟨by decide +kernel, by decide +kernel⟩, List.mem_of_getElem? (i := 838) (by decide +kernel), List.mem_of_getElem? (i := 1090) (by decide +kernel), List.mem_of_getElem? (i := 1091) (by decide +kernel)⟩
theorem lw_p90 : lw_okq (⟨"BlowOwedModel", "arrival", "(II)I"⟩, 32) := ⟨⟨by decide +kernel, by decide +kernel⟩, List.mem_of_getElem? (i := 838) (by decide +kernel), List.mem_of_getElem? (i := 1095) (by decide +kernel), List.mem_of_getElem? (i := 1096) (by decide +kernel)⟩
theorem lw_p91 : lw_okq (⟨"BlowOwedModel", "canMeet", "(II)Z"⟩, 32) := ⟨⟨by decide +kernel, by decide +kernel⟩, List.mem_of_getElem? (i := 838) (by decide +kernel), List.mem_of_getElem? (i := 1107) (by decide +kernel), List.mem_of_getElem? (i := 1108) (by decide +kernel)⟩
theorem lw_p92 : lw_okq (⟨"BlowOwedModel", "layBalance", "()V"⟩, 32) := ⟨⟨by decide +kernel, by decide +kernel⟩, List.mem_of_getElem? (i := 838) (by decide +kernel), List.mem_of_getElem? (i := 1120) (by decide +kernel), List.mem_of_getElem? (i := 1121) (by decide +kernel)⟩
theorem lw_p93 : lw_okq (⟨"BlowOwedModel", "sumOf", "(I)I"⟩, 32) := ⟨⟨by decide +kernel, by decide +kernel⟩, List.mem_of_getElem? (i := 838) (by decide +kernel), List.mem_of_getElem? (i := 1124) (by decide +kernel), List.mem_of_getElem? (i := 1125) (by decide +kernel)⟩
theorem lw_p94 : lw_okq (⟨"BlowOwedModel", "owes", "(II)Z"⟩, 32) := ⟨⟨by decide +kernel, by decide +kernel⟩, List.mem_of_getElem? (i := 838) (by decide +kernel), List.mem_of_getElem? (i := 1132) (by decide +kernel), List.mem_of_getElem? (i := 1133) (by decide +kernel)⟩
theorem lw_p95 : lw_okq (⟨"BlowOwedModel", "hosted", "(III)J"⟩, 32) := ⟨⟨by decide +kernel, by decide +kernel⟩, List.mem_of_getElem? (i := 838) (by decide +kernel), List.mem_of_getElem? (i := 1146) (by decide +kernel), List.mem_of_getElem? (i := 1147) (by decide +kernel)⟩
def lw_privs_6 : List (MethodName × Nat) := [(⟨"BlowOwedModel", "whyNot", "(II)I"⟩, 32), (⟨"BlowOwedModel", "isOwed", "(II)Z"⟩, 32), (⟨"BlowOwedModel", "owesHere", "(II)Z"⟩, 32), (⟨"BlowOwedModel", "act", "(II)V"⟩, 32), (⟨"BlowOwedModel", "giveBack", "(I)V"⟩, 32), (⟨"BlowOwedModel", "barOfCourt", "()I"⟩, 32), (⟨"BlowOwedModel", "keep", "()V"⟩, 32), (⟨"BlowOwedModel", "stateNow", "(II)I"⟩, 32), (⟨"BlowOwedModel", "isWell", "(I)Z"⟩, 32), (⟨"BlowOwedModel", "layJourneys", "(II)V"⟩, 32), (⟨"BlowOwedModel", "arrival", "(II)I"⟩, 32), (⟨"BlowOwedModel", "canMeet", "(II)Z"⟩, 32), (⟨"BlowOwedModel", "layBalance", "()V"⟩, 32), (⟨"BlowOwedModel", "sumOf", "(I)I"⟩, 32), (⟨"BlowOwedModel", "owes", "(II)Z"⟩, 32), (⟨"BlowOwedModel", "hosted", "(III)J"⟩, 32)]
theorem lw_r6 : ∀ q ∈ lw_privs_6, lw_okq q := List.forall_mem_cons.mpr ⟨lw_p80, List.forall_mem_cons.mpr ⟨lw_p81, List.forall_mem_cons.mpr ⟨lw_p82, List.forall_mem_cons.mpr ⟨lw_p83, List.forall_mem_cons.mpr ⟨lw_p84, List.forall_mem_cons.mpr ⟨lw_p85, List.forall_mem_cons.mpr ⟨lw_p86, List.forall_mem_cons.mpr ⟨lw_p87, List.forall_mem_cons.mpr ⟨lw_p88, List.forall_mem_cons.mpr ⟨lw_p89, List.forall_mem_cons.mpr ⟨lw_p90, List.forall_mem_cons.mpr ⟨lw_p91, List.forall_mem_cons.mpr ⟨lw_p92, List.forall_mem_cons.mpr ⟨lw_p93, List.forall_mem_cons.mpr ⟨lw_p94, List.forall_mem_cons.mpr ⟨lw_p95, fun _ h => absurd h List.not_mem_nil⟩⟩⟩⟩⟩⟩⟩⟩⟩⟩⟩⟩⟩⟩⟩⟩
def lw_privs : List (MethodName × Nat) := lw_privs_1 ++ (lw_privs_2 ++ (lw_privs_3 ++ (lw_privs_4 ++ (lw_privs_5 ++ (lw_privs_6)))))
def lw_tbl : List Cond := k2_sels lw_privs ++ tables_1
theorem lw_privs_ok : ∀ q ∈ lw_privs, lw_okq q := by
  show ∀ q ∈ lw_privs_1 ++ (lw_privs_2 ++ (lw_privs_3 ++ (lw_privs_4 ++ (lw_privs_5 ++ (lw_privs_6))))), lw_okq q
  exact List.forall_mem_append.mpr ⟨lw_r1, List.forall_mem_append.mpr ⟨lw_r2, List.forall_mem_append.mpr ⟨lw_r3, List.forall_mem_append.mpr ⟨lw_r4, List.forall_mem_append.mpr ⟨lw_r5, lw_r6⟩⟩⟩⟩⟩
end
section
def RX0 : String := "BlowOwed$Court"
def TX0 : u_T := fun k => match k with
  | 0 => ("BlowOwed$Court", "land", "LBlowOwed$Land;", true)
  | 1 => ("BlowOwed$Court", "knights", "[LBlowOwed$Knight;", true)
  | 2 => ("BlowOwed$Court", "debts", "LBlowOwed$Debts;", true)
  | 3 => ("BlowOwed$Court", "sights", "LBlowOwed$Sights;", true)
  | 4 => ("BlowOwed$Court", "nobody", "LBlowOwed$Knight;", true)
  | _ => ("BlowOwed$Court", "day", "I", false)
def tyX0 : Nat → FieldType := fun k => match k with
  | 0 => .object "BlowOwed$Land"
  | 1 => .array (.object "BlowOwed$Knight")
  | 2 => .object "BlowOwed$Debts"
  | 3 => .object "BlowOwed$Sights"
  | 4 => .object "BlowOwed$Knight"
  | _ => .int
abbrev wsX00 : List Cond := u_ws RX0 TX0 6
theorem nmX0 : ∀ a, a < 6 → ∀ b, b < 6 → a ≠ b → (TX0 a).2.1 ≠ (TX0 b).2.1 := by decide +kernel
theorem tyX0_ok : ∀ k, k < 6 → parseFieldDescriptor (TX0 k).2.2.1 = some (tyX0 k) := by decide +kernel
abbrev cX0_init : ByteArray := prog_2_method_1_code
def yX0_init : MethodName := ⟨RX0, "<init>", "()V"⟩
abbrev cX0_copy : ByteArray := prog_2_method_2_code
def yX0_copy : MethodName := ⟨RX0, "copy", "(LBlowOwed$Court;)V"⟩
abbrev cX0_beginAnew : ByteArray := prog_2_method_3_code
def yX0_beginAnew : MethodName := ⟨RX0, "beginAnew", "(I)V"⟩
abbrev cX0_knightAt : ByteArray := prog_2_method_4_code
def yX0_knightAt : MethodName := ⟨RX0, "knightAt", "(I)LBlowOwed$Knight;"⟩
abbrev cX0_knightBits : ByteArray := prog_2_method_5_code
def yX0_knightBits : MethodName := ⟨RX0, "knightBits", "()I"⟩
abbrev cX0_countKnights : ByteArray := prog_2_method_6_code
def yX0_countKnights : MethodName := ⟨RX0, "countKnights", "()I"⟩
abbrev cX0_countDead : ByteArray := prog_2_method_7_code
def yX0_countDead : MethodName := ⟨RX0, "countDead", "()I"⟩
abbrev cX0_sumHonour : ByteArray := prog_2_method_8_code
def yX0_sumHonour : MethodName := ⟨RX0, "sumHonour", "()I"⟩
abbrev cX0_tryStrike : ByteArray := prog_2_method_9_code
def yX0_tryStrike : MethodName := ⟨RX0, "tryStrike", "(III)I"⟩
abbrev cX0_trySetOut : ByteArray := prog_2_method_10_code
def yX0_trySetOut : MethodName := ⟨RX0, "trySetOut", "(II)I"⟩
abbrev cX0_tryGiveBack : ByteArray := prog_2_method_11_code
def yX0_tryGiveBack : MethodName := ⟨RX0, "tryGiveBack", "(I)I"⟩
abbrev cX0_giveBackOne : ByteArray := prog_2_method_12_code
def yX0_giveBackOne : MethodName := ⟨RX0, "giveBackOne", "(LBlowOwed$Knight;I)V"⟩
abbrev cX0_tryFlinch : ByteArray := prog_2_method_13_code
def yX0_tryFlinch : MethodName := ⟨RX0, "tryFlinch", "(I)I"⟩
abbrev cX0_tryRemit : ByteArray := prog_2_method_14_code
def yX0_tryRemit : MethodName := ⟨RX0, "tryRemit", "(I)I"⟩
abbrev cX0_whyNotActing : ByteArray := prog_2_method_15_code
def yX0_whyNotActing : MethodName := ⟨RX0, "whyNotActing", "(I)I"⟩
abbrev cX0_wound : ByteArray := prog_2_method_16_code
def yX0_wound : MethodName := ⟨RX0, "wound", "(II)V"⟩
abbrev cX0_passDays : ByteArray := prog_2_method_17_code
def yX0_passDays : MethodName := ⟨RX0, "passDays", "(I)V"⟩
def RX1 : String := "BlowOwed$Debt"
def TX1 : u_T := fun k => match k with
  | 0 => ("BlowOwed$Debt", "striker", "I", false)
  | 1 => ("BlowOwed$Debt", "struck", "I", false)
  | 2 => ("BlowOwed$Debt", "much", "I", false)
  | 3 => ("BlowOwed$Debt", "day", "I", false)
  | _ => ("BlowOwed$Debt", "isGone", "Z", false)
def tyX1 : Nat → FieldType := fun k => match k with
  | 0 => .int
  | 1 => .int
  | 2 => .int
  | 3 => .int
  | _ => .boolean
abbrev wsX10 : List Cond := u_ws RX1 TX1 5
theorem nmX1 : ∀ a, a < 5 → ∀ b, b < 5 → a ≠ b → (TX1 a).2.1 ≠ (TX1 b).2.1 := by decide +kernel
theorem tyX1_ok : ∀ k, k < 5 → parseFieldDescriptor (TX1 k).2.2.1 = some (tyX1 k) := by decide +kernel
abbrev cX1_init : ByteArray := prog_3_method_1_code
def yX1_init : MethodName := ⟨RX1, "<init>", "()V"⟩
abbrev cX1_set : ByteArray := prog_3_method_2_code
def yX1_set : MethodName := ⟨RX1, "set", "(IIII)V"⟩
abbrev cX1_tell : ByteArray := prog_3_method_3_code
def yX1_tell : MethodName := ⟨RX1, "tell", "(I)I"⟩
def RX2 : String := "BlowOwed$Debts"
def TX2 : u_T := fun k => match k with
  | 0 => ("BlowOwed$Debts", "count", "I", false)
  | _ => ("BlowOwed$Debts", "rows", "[LBlowOwed$Debt;", true)
def tyX2 : Nat → FieldType := fun k => match k with
  | 0 => .int
  | _ => .array (.object "BlowOwed$Debt")
abbrev wsX20 : List Cond := u_ws RX2 TX2 2
theorem nmX2 : ∀ a, a < 2 → ∀ b, b < 2 → a ≠ b → (TX2 a).2.1 ≠ (TX2 b).2.1 := by decide +kernel
theorem tyX2_ok : ∀ k, k < 2 → parseFieldDescriptor (TX2 k).2.2.1 = some (tyX2 k) := by decide +kernel
abbrev cX2_init : ByteArray := prog_4_method_1_code
def yX2_init : MethodName := ⟨RX2, "<init>", "()V"⟩
abbrev cX2_copy : ByteArray := prog_4_method_2_code
def yX2_copy : MethodName := ⟨RX2, "copy", "(LBlowOwed$Debts;)V"⟩
abbrev cX2_has : ByteArray := prog_4_method_3_code
def yX2_has : MethodName := ⟨RX2, "has", "(I)Z"⟩
abbrev cX2_add : ByteArray := prog_4_method_4_code
def yX2_add : MethodName := ⟨RX2, "add", "(IIII)V"⟩
abbrev cX2_endAllOf : ByteArray := prog_4_method_5_code
def yX2_endAllOf : MethodName := ⟨RX2, "endAllOf", "(I)V"⟩
abbrev cX2_inherit : ByteArray := prog_4_method_6_code
def yX2_inherit : MethodName := ⟨RX2, "inherit", "(II)V"⟩
abbrev cX2_sweep : ByteArray := prog_4_method_7_code
def yX2_sweep : MethodName := ⟨RX2, "sweep", "()V"⟩
abbrev cX2_findDueTo : ByteArray := prog_4_method_8_code
def yX2_findDueTo : MethodName := ⟨RX2, "findDueTo", "(II)I"⟩
abbrev cX2_countOwedBy : ByteArray := prog_4_method_9_code
def yX2_countOwedBy : MethodName := ⟨RX2, "countOwedBy", "(I)I"⟩
def RX3 : String := "BlowOwed$Journeys"
def TX3 : u_T := fun k => match k with
  | 0 => ("BlowOwed$Journeys", "first", "[I", true)
  | 1 => ("BlowOwed$Journeys", "onward", "[I", true)
  | _ => ("BlowOwed$Journeys", "most", "[I", true)
def tyX3 : Nat → FieldType := fun k => match k with
  | 0 => .array .int
  | 1 => .array .int
  | _ => .array .int
abbrev wsX30 : List Cond := u_ws RX3 TX3 3
theorem nmX3 : ∀ a, a < 3 → ∀ b, b < 3 → a ≠ b → (TX3 a).2.1 ≠ (TX3 b).2.1 := by decide +kernel
theorem tyX3_ok : ∀ k, k < 3 → parseFieldDescriptor (TX3 k).2.2.1 = some (tyX3 k) := by decide +kernel
abbrev cX3_init : ByteArray := prog_5_method_1_code
def yX3_init : MethodName := ⟨RX3, "<init>", "()V"⟩
abbrev cX3_firstDay : ByteArray := prog_5_method_2_code
def yX3_firstDay : MethodName := ⟨RX3, "firstDay", "(LBlowOwed$Court;II)I"⟩
abbrev cX3_metAlone : ByteArray := prog_5_method_3_code
def yX3_metAlone : MethodName := ⟨RX3, "metAlone", "(LBlowOwed$Court;I)I"⟩
abbrev cX3_mostMet : ByteArray := prog_5_method_4_code
def yX3_mostMet : MethodName := ⟨RX3, "mostMet", "(LBlowOwed$Court;I)I"⟩
abbrev cX3_lengthen : ByteArray := prog_5_method_5_code
def yX3_lengthen : MethodName := ⟨RX3, "lengthen", "(LBlowOwed$Court;II)V"⟩
abbrev cX3_findBarred : ByteArray := prog_5_method_6_code
def yX3_findBarred : MethodName := ⟨RX3, "findBarred", "(LBlowOwed$Court;I)I"⟩
abbrev cX3_setOff : ByteArray := prog_5_method_7_code
def yX3_setOff : MethodName := ⟨RX3, "setOff", "(LBlowOwed$Court;I)V"⟩
abbrev cX3_goOnFrom : ByteArray := prog_5_method_8_code
def yX3_goOnFrom : MethodName := ⟨RX3, "goOnFrom", "(LBlowOwed$Court;I)V"⟩
abbrev cX3_isMet : ByteArray := prog_5_method_9_code
def yX3_isMet : MethodName := ⟨RX3, "isMet", "(LBlowOwed$Court;II[I)Z"⟩
abbrev cX3_dayAt : ByteArray := prog_5_method_10_code
def yX3_dayAt : MethodName := ⟨RX3, "dayAt", "([II)I"⟩
def RX4 : String := "BlowOwed$Knight"
def TX4 : u_T := fun k => match k with
  | 0 => ("BlowOwed$Knight", "isThere", "Z", false)
  | 1 => ("BlowOwed$Knight", "own", "I", false)
  | 2 => ("BlowOwed$Knight", "strength", "I", false)
  | 3 => ("BlowOwed$Knight", "bears", "I", false)
  | 4 => ("BlowOwed$Knight", "honour", "I", false)
  | 5 => ("BlowOwed$Knight", "place", "I", false)
  | _ => ("BlowOwed$Knight", "toGo", "I", false)
def tyX4 : Nat → FieldType := fun k => match k with
  | 0 => .boolean
  | 1 => .int
  | 2 => .int
  | 3 => .int
  | 4 => .int
  | 5 => .int
  | _ => .int
abbrev wsX40 : List Cond := u_ws RX4 TX4 7
theorem nmX4 : ∀ a, a < 7 → ∀ b, b < 7 → a ≠ b → (TX4 a).2.1 ≠ (TX4 b).2.1 := by decide +kernel
theorem tyX4_ok : ∀ k, k < 7 → parseFieldDescriptor (TX4 k).2.2.1 = some (tyX4 k) := by decide +kernel
abbrev cX4_init : ByteArray := prog_6_method_1_code
def yX4_init : MethodName := ⟨RX4, "<init>", "()V"⟩
abbrev cX4_come : ByteArray := prog_6_method_2_code
def yX4_come : MethodName := ⟨RX4, "come", "(IIII)V"⟩
abbrev cX4_leave : ByteArray := prog_6_method_3_code
def yX4_leave : MethodName := ⟨RX4, "leave", "()V"⟩
abbrev cX4_copy : ByteArray := prog_6_method_4_code
def yX4_copy : MethodName := ⟨RX4, "copy", "(LBlowOwed$Knight;)V"⟩
abbrev cX4_isAlive : ByteArray := prog_6_method_5_code
def yX4_isAlive : MethodName := ⟨RX4, "isAlive", "()Z"⟩
abbrev cX4_isDead : ByteArray := prog_6_method_6_code
def yX4_isDead : MethodName := ⟨RX4, "isDead", "()Z"⟩
abbrev cX4_isIn : ByteArray := prog_6_method_7_code
def yX4_isIn : MethodName := ⟨RX4, "isIn", "(I)Z"⟩
abbrev cX4_tell : ByteArray := prog_6_method_8_code
def yX4_tell : MethodName := ⟨RX4, "tell", "(I)I"⟩
def RX5 : String := "BlowOwed$Land"
def TX5 : u_T := fun k => match k with
  | 0 => ("BlowOwed$Land", "chapels", "I", false)
  | 1 => ("BlowOwed$Land", "yearDays", "I", false)
  | _ => ("BlowOwed$Land", "roads", "[I", true)
def tyX5 : Nat → FieldType := fun k => match k with
  | 0 => .int
  | 1 => .int
  | _ => .array .int
abbrev wsX50 : List Cond := u_ws RX5 TX5 3
theorem nmX5 : ∀ a, a < 3 → ∀ b, b < 3 → a ≠ b → (TX5 a).2.1 ≠ (TX5 b).2.1 := by decide +kernel
theorem tyX5_ok : ∀ k, k < 3 → parseFieldDescriptor (TX5 k).2.2.1 = some (tyX5 k) := by decide +kernel
abbrev cX5_init : ByteArray := prog_7_method_1_code
def yX5_init : MethodName := ⟨RX5, "<init>", "()V"⟩
abbrev cX5_copy : ByteArray := prog_7_method_2_code
def yX5_copy : MethodName := ⟨RX5, "copy", "(LBlowOwed$Land;)V"⟩
abbrev cX5_hasChapel : ByteArray := prog_7_method_3_code
def yX5_hasChapel : MethodName := ⟨RX5, "hasChapel", "(I)Z"⟩
abbrev cX5_roadDays : ByteArray := prog_7_method_4_code
def yX5_roadDays : MethodName := ⟨RX5, "roadDays", "(II)I"⟩
abbrev cX5_layRoad : ByteArray := prog_7_method_5_code
def yX5_layRoad : MethodName := ⟨RX5, "layRoad", "(III)V"⟩
abbrev cX5_isWinter : ByteArray := prog_7_method_6_code
def yX5_isWinter : MethodName := ⟨RX5, "isWinter", "(I)Z"⟩
abbrev cX5_daysUnderWay : ByteArray := prog_7_method_7_code
def yX5_daysUnderWay : MethodName := ⟨RX5, "daysUnderWay", "(III)I"⟩
abbrev cX5_firstAcross : ByteArray := prog_7_method_8_code
def yX5_firstAcross : MethodName := ⟨RX5, "firstAcross", "(III)I"⟩
abbrev cX5_fillFirstDays : ByteArray := prog_7_method_9_code
def yX5_fillFirstDays : MethodName := ⟨RX5, "fillFirstDays", "(II[I)V"⟩
def RX6 : String := "BlowOwed$Ledger"
def TX6 : u_T := fun k => match k with
  | 0 => ("BlowOwed$Ledger", "groups", "[I", true)
  | _ => ("BlowOwed$Ledger", "owes", "[I", true)
def tyX6 : Nat → FieldType := fun k => match k with
  | 0 => .array .int
  | _ => .array .int
abbrev wsX60 : List Cond := u_ws RX6 TX6 2
theorem nmX6 : ∀ a, a < 2 → ∀ b, b < 2 → a ≠ b → (TX6 a).2.1 ≠ (TX6 b).2.1 := by decide +kernel
theorem tyX6_ok : ∀ k, k < 2 → parseFieldDescriptor (TX6 k).2.2.1 = some (tyX6 k) := by decide +kernel
abbrev cX6_init : ByteArray := prog_8_method_1_code
def yX6_init : MethodName := ⟨RX6, "<init>", "()V"⟩
abbrev cX6_fewestPayments : ByteArray := prog_8_method_2_code
def yX6_fewestPayments : MethodName := ⟨RX6, "fewestPayments", "(LBlowOwed$Debts;)I"⟩
abbrev cX6_sumOf : ByteArray := prog_8_method_3_code
def yX6_sumOf : MethodName := ⟨RX6, "sumOf", "(ILBlowOwed$Debts;)I"⟩
abbrev cX6_shortestRing : ByteArray := prog_8_method_4_code
def yX6_shortestRing : MethodName := ⟨RX6, "shortestRing", "(LBlowOwed$Debts;)I"⟩
abbrev cX6_ringThrough : ByteArray := prog_8_method_5_code
def yX6_ringThrough : MethodName := ⟨RX6, "ringThrough", "(I)I"⟩
abbrev cX6_nextOf : ByteArray := prog_8_method_6_code
def yX6_nextOf : MethodName := ⟨RX6, "nextOf", "(I)I"⟩
def RX7 : String := "BlowOwed$Pad"
def TX7 : u_T := fun k => match k with
  | 0 => ("BlowOwed$Pad", "count", "I", false)
  | _ => ("BlowOwed$Pad", "signs", "[I", true)
def tyX7 : Nat → FieldType := fun k => match k with
  | 0 => .int
  | _ => .array .int
abbrev wsX70 : List Cond := u_ws RX7 TX7 2
theorem nmX7 : ∀ a, a < 2 → ∀ b, b < 2 → a ≠ b → (TX7 a).2.1 ≠ (TX7 b).2.1 := by decide +kernel
theorem tyX7_ok : ∀ k, k < 2 → parseFieldDescriptor (TX7 k).2.2.1 = some (tyX7 k) := by decide +kernel
abbrev cX7_init : ByteArray := prog_9_method_1_code
def yX7_init : MethodName := ⟨RX7, "<init>", "()V"⟩
abbrev cX7_add : ByteArray := prog_9_method_2_code
def yX7_add : MethodName := ⟨RX7, "add", "(I)V"⟩
abbrev cX7_signAt : ByteArray := prog_9_method_3_code
def yX7_signAt : MethodName := ⟨RX7, "signAt", "(I)I"⟩
abbrev cX7_numberAt : ByteArray := prog_9_method_4_code
def yX7_numberAt : MethodName := ⟨RX7, "numberAt", "(I)I"⟩
abbrev cX7_findFault : ByteArray := prog_9_method_5_code
def yX7_findFault : MethodName := ⟨RX7, "findFault", "(I)I"⟩
abbrev cX7_signsOfAct : ByteArray := prog_9_method_6_code
def yX7_signsOfAct : MethodName := ⟨RX7, "signsOfAct", "(I)I"⟩
abbrev cX7_countGood : ByteArray := prog_9_method_7_code
def yX7_countGood : MethodName := ⟨RX7, "countGood", "(II)I"⟩
abbrev cX7_countGoodDigits : ByteArray := prog_9_method_8_code
def yX7_countGoodDigits : MethodName := ⟨RX7, "countGoodDigits", "(I)I"⟩
abbrev cX7_isLetter : ByteArray := prog_9_method_9_code
def yX7_isLetter : MethodName := ⟨RX7, "isLetter", "(I)Z"⟩
abbrev cX7_daysOf : ByteArray := prog_9_method_10_code
def yX7_daysOf : MethodName := ⟨RX7, "daysOf", "(I)I"⟩
def RX8 : String := "BlowOwed$Scars"
def TX8 : u_T := fun k => match k with
  | 0 => ("BlowOwed$Scars", "ways", "[I", true)
  | 1 => ("BlowOwed$Scars", "rows", "I", false)
  | 2 => ("BlowOwed$Scars", "inSome", "I", false)
  | _ => ("BlowOwed$Scars", "inAll", "I", false)
def tyX8 : Nat → FieldType := fun k => match k with
  | 0 => .array .int
  | 1 => .int
  | 2 => .int
  | _ => .int
abbrev wsX80 : List Cond := u_ws RX8 TX8 4
theorem nmX8 : ∀ a, a < 4 → ∀ b, b < 4 → a ≠ b → (TX8 a).2.1 ≠ (TX8 b).2.1 := by decide +kernel
theorem tyX8_ok : ∀ k, k < 4 → parseFieldDescriptor (TX8 k).2.2.1 = some (tyX8 k) := by decide +kernel
abbrev cX8_init : ByteArray := prog_10_method_1_code
def yX8_init : MethodName := ⟨RX8, "<init>", "()V"⟩
abbrev cX8_fit : ByteArray := prog_10_method_2_code
def yX8_fit : MethodName := ⟨RX8, "fit", "(LBlowOwed$Court;)V"⟩
abbrev cX8_addStriker : ByteArray := prog_10_method_3_code
def yX8_addStriker : MethodName := ⟨RX8, "addStriker", "(LBlowOwed$Court;I)V"⟩
def RX9 : String := "BlowOwed$Sights"
def TX9 : u_T := fun k => match k with
  | 0 => ("BlowOwed$Sights", "count", "I", false)
  | 1 => ("BlowOwed$Sights", "struck", "[I", true)
  | _ => ("BlowOwed$Sights", "much", "[I", true)
def tyX9 : Nat → FieldType := fun k => match k with
  | 0 => .int
  | 1 => .array .int
  | _ => .array .int
abbrev wsX90 : List Cond := u_ws RX9 TX9 3
theorem nmX9 : ∀ a, a < 3 → ∀ b, b < 3 → a ≠ b → (TX9 a).2.1 ≠ (TX9 b).2.1 := by decide +kernel
theorem tyX9_ok : ∀ k, k < 3 → parseFieldDescriptor (TX9 k).2.2.1 = some (tyX9 k) := by decide +kernel
abbrev cX9_init : ByteArray := prog_11_method_1_code
def yX9_init : MethodName := ⟨RX9, "<init>", "()V"⟩
abbrev cX9_copy : ByteArray := prog_11_method_2_code
def yX9_copy : MethodName := ⟨RX9, "copy", "(LBlowOwed$Sights;)V"⟩
abbrev cX9_add : ByteArray := prog_11_method_3_code
def yX9_add : MethodName := ⟨RX9, "add", "(II)V"⟩
def RX10 : String := "BlowOwed$Trial"
def TX10 : u_T := fun k => match k with
  | 0 => ("BlowOwed$Trial", "after", "LBlowOwed$Court;", true)
  | 1 => ("BlowOwed$Trial", "acts", "I", false)
  | 2 => ("BlowOwed$Trial", "why", "I", false)
  | 3 => ("BlowOwed$Trial", "blows", "I", false)
  | _ => ("BlowOwed$Trial", "givenBack", "I", false)
def tyX10 : Nat → FieldType := fun k => match k with
  | 0 => .object "BlowOwed$Court"
  | 1 => .int
  | 2 => .int
  | 3 => .int
  | _ => .int
abbrev wsX100 : List Cond := u_ws RX10 TX10 5
theorem nmX10 : ∀ a, a < 5 → ∀ b, b < 5 → a ≠ b → (TX10 a).2.1 ≠ (TX10 b).2.1 := by decide +kernel
theorem tyX10_ok : ∀ k, k < 5 → parseFieldDescriptor (TX10 k).2.2.1 = some (tyX10 k) := by decide +kernel
abbrev cX10_init : ByteArray := prog_12_method_1_code
def yX10_init : MethodName := ⟨RX10, "<init>", "()V"⟩
abbrev cX10_hear : ByteArray := prog_12_method_2_code
def yX10_hear : MethodName := ⟨RX10, "hear", "(LBlowOwed$Pad;LBlowOwed$Court;)Z"⟩
abbrev cX10_tryAct : ByteArray := prog_12_method_3_code
def yX10_tryAct : MethodName := ⟨RX10, "tryAct", "(LBlowOwed$Pad;I)I"⟩
abbrev cX10_draw : ByteArray := prog_12_method_4_code
def yX10_draw : MethodName := ⟨RX10, "draw", "(LBlowOwed$Court;II)V"⟩
def RX11 : String := "BlowOwed"
def TX11 : u_T := fun k => match k with
  | 0 => ("BlowOwed", "pad", "LBlowOwed$Pad;", true)
  | 1 => ("BlowOwed", "court", "LBlowOwed$Court;", true)
  | 2 => ("BlowOwed", "images", "[LBlowOwed$Court;", true)
  | 3 => ("BlowOwed", "judged", "LBlowOwed$Trial;", true)
  | 4 => ("BlowOwed", "journeys", "LBlowOwed$Journeys;", true)
  | 5 => ("BlowOwed", "ledger", "LBlowOwed$Ledger;", true)
  | _ => ("BlowOwed", "scars", "LBlowOwed$Scars;", true)
def tyX11 : Nat → FieldType := fun k => match k with
  | 0 => .object "BlowOwed$Pad"
  | 1 => .object "BlowOwed$Court"
  | 2 => .array (.object "BlowOwed$Court")
  | 3 => .object "BlowOwed$Trial"
  | 4 => .object "BlowOwed$Journeys"
  | 5 => .object "BlowOwed$Ledger"
  | _ => .object "BlowOwed$Scars"
abbrev wsX110 : List Cond := u_ws RX11 TX11 7
theorem nmX11 : ∀ a, a < 7 → ∀ b, b < 7 → a ≠ b → (TX11 a).2.1 ≠ (TX11 b).2.1 := by decide +kernel
theorem tyX11_ok : ∀ k, k < 7 → parseFieldDescriptor (TX11 k).2.2.1 = some (tyX11 k) := by decide +kernel
abbrev cX11_init : ByteArray := prog_1_method_1_code
def yX11_init : MethodName := ⟨RX11, "<init>", "()V"⟩
abbrev cX11_chapels : ByteArray := prog_1_method_2_code
def yX11_chapels : MethodName := ⟨RX11, "chapels", "(I)I"⟩
abbrev cX11_road : ByteArray := prog_1_method_3_code
def yX11_road : MethodName := ⟨RX11, "road", "(III)I"⟩
abbrev cX11_yearOf : ByteArray := prog_1_method_4_code
def yX11_yearOf : MethodName := ⟨RX11, "yearOf", "(I)I"⟩
abbrev cX11_knight : ByteArray := prog_1_method_5_code
def yX11_knight : MethodName := ⟨RX11, "knight", "(IIIII)I"⟩
abbrev cX11_heir : ByteArray := prog_1_method_6_code
def yX11_heir : MethodName := ⟨RX11, "heir", "(II)I"⟩
abbrev cX11_say : ByteArray := prog_1_method_7_code
def yX11_say : MethodName := ⟨RX11, "say", "(I)I"⟩
abbrev cX11_wipe : ByteArray := prog_1_method_8_code
def yX11_wipe : MethodName := ⟨RX11, "wipe", "()I"⟩
abbrev cX11_fault : ByteArray := prog_1_method_9_code
def yX11_fault : MethodName := ⟨RX11, "fault", "()I"⟩
abbrev cX11_judge : ByteArray := prog_1_method_10_code
def yX11_judge : MethodName := ⟨RX11, "judge", "(I)I"⟩
abbrev cX11_done : ByteArray := prog_1_method_11_code
def yX11_done : MethodName := ⟨RX11, "done", "()I"⟩
abbrev cX11_state : ByteArray := prog_1_method_12_code
def yX11_state : MethodName := ⟨RX11, "state", "(II)I"⟩
abbrev cX11_behind : ByteArray := prog_1_method_13_code
def yX11_behind : MethodName := ⟨RX11, "behind", "(II)I"⟩
abbrev cX11_debt : ByteArray := prog_1_method_14_code
def yX11_debt : MethodName := ⟨RX11, "debt", "(II)I"⟩
abbrev cX11_when : ByteArray := prog_1_method_15_code
def yX11_when : MethodName := ⟨RX11, "when", "(II)I"⟩
abbrev cX11_inTime : ByteArray := prog_1_method_16_code
def yX11_inTime : MethodName := ⟨RX11, "inTime", "(I)I"⟩
abbrev cX11_round : ByteArray := prog_1_method_17_code
def yX11_round : MethodName := ⟨RX11, "round", "(II)I"⟩
abbrev cX11_hard : ByteArray := prog_1_method_18_code
def yX11_hard : MethodName := ⟨RX11, "hard", "(IIIII)I"⟩
abbrev cX11_settled : ByteArray := prog_1_method_19_code
def yX11_settled : MethodName := ⟨RX11, "settled", "()I"⟩
abbrev cX11_ring : ByteArray := prog_1_method_20_code
def yX11_ring : MethodName := ⟨RX11, "ring", "()I"⟩
abbrev cX11_reckoned : ByteArray := prog_1_method_21_code
def yX11_reckoned : MethodName := ⟨RX11, "reckoned", "(III)I"⟩
abbrev cX11_kept : ByteArray := prog_1_method_22_code
def yX11_kept : MethodName := ⟨RX11, "kept", "(IIII)J"⟩
abbrev cX11_keeps : ByteArray := prog_1_method_23_code
def yX11_keeps : MethodName := ⟨RX11, "keeps", "(III)I"⟩
abbrev cX11_seen : ByteArray := prog_1_method_24_code
def yX11_seen : MethodName := ⟨RX11, "seen", "(II)I"⟩
abbrev cX11_forget : ByteArray := prog_1_method_25_code
def yX11_forget : MethodName := ⟨RX11, "forget", "()I"⟩
abbrev cX11_who : ByteArray := prog_1_method_26_code
def yX11_who : MethodName := ⟨RX11, "who", "(I)I"⟩
abbrev cX11_snow : ByteArray := prog_1_method_27_code
def yX11_snow : MethodName := ⟨RX11, "snow", "(IIII)J"⟩
abbrev cX11_year : ByteArray := prog_1_method_28_code
def yX11_year : MethodName := ⟨RX11, "year", "(III)I"⟩
abbrev cX11_image : ByteArray := prog_1_method_29_code
def yX11_image : MethodName := ⟨RX11, "image", "(I)I"⟩
abbrev cX11_restore : ByteArray := prog_1_method_30_code
def yX11_restore : MethodName := ⟨RX11, "restore", "(I)I"⟩
abbrev cX11_told : ByteArray := prog_1_method_31_code
def yX11_told : MethodName := ⟨RX11, "told", "(I)I"⟩
abbrev cX11_toldOfKnight : ByteArray := prog_1_method_32_code
def yX11_toldOfKnight : MethodName := ⟨RX11, "toldOfKnight", "(I)I"⟩
abbrev cX11_toldOfRoad : ByteArray := prog_1_method_33_code
def yX11_toldOfRoad : MethodName := ⟨RX11, "toldOfRoad", "(I)I"⟩
abbrev cX11_bestBlow : ByteArray := prog_1_method_34_code
def yX11_bestBlow : MethodName := ⟨RX11, "bestBlow", "(LBlowOwed$Knight;LBlowOwed$Knight;II)I"⟩
abbrev cX11_gainOf : ByteArray := prog_1_method_35_code
def yX11_gainOf : MethodName := ⟨RX11, "gainOf", "(ILBlowOwed$Knight;LBlowOwed$Knight;II)I"⟩
abbrev cX11_mostKept : ByteArray := prog_1_method_36_code
def yX11_mostKept : MethodName := ⟨RX11, "mostKept", "(III)J"⟩
abbrev cX11_exchanged : ByteArray := prog_1_method_37_code
def yX11_exchanged : MethodName := ⟨RX11, "exchanged", "(IIJ)J"⟩
abbrev cX11_keptBack : ByteArray := prog_1_method_38_code
def yX11_keptBack : MethodName := ⟨RX11, "keptBack", "(IIIJ)J"⟩
abbrev cX11_goneInTime : ByteArray := prog_1_method_39_code
def yX11_goneInTime : MethodName := ⟨RX11, "goneInTime", "(III)J"⟩
abbrev cX11_power : ByteArray := prog_1_method_40_code
def yX11_power : MethodName := ⟨RX11, "power", "(II)J"⟩
abbrev cX11_tenTo : ByteArray := prog_1_method_41_code
def yX11_tenTo : MethodName := ⟨RX11, "tenTo", "(I)J"⟩
abbrev cX11_partOf : ByteArray := prog_1_method_42_code
def yX11_partOf : MethodName := ⟨RX11, "partOf", "(JJI)J"⟩
abbrev cX11_commonDivisor : ByteArray := prog_1_method_43_code
def yX11_commonDivisor : MethodName := ⟨RX11, "commonDivisor", "(JJ)J"⟩
abbrev cX11_areTenths : ByteArray := prog_1_method_44_code
def yX11_areTenths : MethodName := ⟨RX11, "areTenths", "(I)Z"⟩
abbrev cX11_isWithin : ByteArray := prog_1_method_45_code
def yX11_isWithin : MethodName := ⟨RX11, "isWithin", "(III)Z"⟩
abbrev cX11_leftOver : ByteArray := prog_1_method_46_code
def yX11_leftOver : MethodName := ⟨RX11, "leftOver", "(II)I"⟩
abbrev cX11_cut : ByteArray := prog_1_method_47_code
def yX11_cut : MethodName := ⟨RX11, "cut", "(II)I"⟩
def RX12 : String := "BlowOwedModel"
def TX12 : u_T := fun k => match k with
  | 0 => ("BlowOwedModel", "chapels", "I", false)
  | 1 => ("BlowOwedModel", "road", "[I", true)
  | 2 => ("BlowOwedModel", "yearly", "I", false)
  | 3 => ("BlowOwedModel", "there", "I", false)
  | 4 => ("BlowOwedModel", "strength", "[I", true)
  | 5 => ("BlowOwedModel", "own", "[I", true)
  | 6 => ("BlowOwedModel", "sights", "I", false)
  | 7 => ("BlowOwedModel", "sight", "[I", true)
  | 8 => ("BlowOwedModel", "day", "I", false)
  | 9 => ("BlowOwedModel", "place", "[I", true)
  | 10 => ("BlowOwedModel", "toGo", "[I", true)
  | 11 => ("BlowOwedModel", "bears", "[I", true)
  | 12 => ("BlowOwedModel", "honour", "[I", true)
  | 13 => ("BlowOwedModel", "debts", "I", false)
  | 14 => ("BlowOwedModel", "debt", "[I", true)
  | 15 => ("BlowOwedModel", "signs", "I", false)
  | 16 => ("BlowOwedModel", "pad", "[I", true)
  | 17 => ("BlowOwedModel", "dayNow", "I", false)
  | 18 => ("BlowOwedModel", "at", "[I", true)
  | 19 => ("BlowOwedModel", "goes", "[I", true)
  | 20 => ("BlowOwedModel", "life", "[I", true)
  | 21 => ("BlowOwedModel", "fame", "[I", true)
  | 22 => ("BlowOwedModel", "owed", "I", false)
  | 23 => ("BlowOwedModel", "owing", "[I", true)
  | 24 => ("BlowOwedModel", "reason", "I", false)
  | 25 => ("BlowOwedModel", "acts", "I", false)
  | 26 => ("BlowOwedModel", "soonest", "[I", true)
  | 27 => ("BlowOwedModel", "balance", "[I", true)
  | 28 => ("BlowOwedModel", "groups", "[I", true)
  | 29 => ("BlowOwedModel", "keepsFirst", "Z", false)
  | 30 => ("BlowOwedModel", "image", "[I", true)
  | _ => ("BlowOwedModel", "isKept", "[Z", true)
def tyX12 : Nat → FieldType := fun k => match k with
  | 0 => .int
  | 1 => .array .int
  | 2 => .int
  | 3 => .int
  | 4 => .array .int
  | 5 => .array .int
  | 6 => .int
  | 7 => .array .int
  | 8 => .int
  | 9 => .array .int
  | 10 => .array .int
  | 11 => .array .int
  | 12 => .array .int
  | 13 => .int
  | 14 => .array .int
  | 15 => .int
  | 16 => .array .int
  | 17 => .int
  | 18 => .array .int
  | 19 => .array .int
  | 20 => .array .int
  | 21 => .array .int
  | 22 => .int
  | 23 => .array .int
  | 24 => .int
  | 25 => .int
  | 26 => .array .int
  | 27 => .array .int
  | 28 => .array .int
  | 29 => .boolean
  | 30 => .array .int
  | _ => .array .boolean
abbrev wsX120 : List Cond := u_ws RX12 TX12 32
theorem nmX12 : ∀ a, a < 32 → ∀ b, b < 32 → a ≠ b → (TX12 a).2.1 ≠ (TX12 b).2.1 := by decide +kernel
theorem tyX12_ok : ∀ k, k < 32 → parseFieldDescriptor (TX12 k).2.2.1 = some (tyX12 k) := by decide +kernel
abbrev cX12_init : ByteArray := prog_14_method_1_code
def yX12_init : MethodName := ⟨RX12, "<init>", "()V"⟩
abbrev cX12_in : ByteArray := prog_14_method_2_code
def yX12_in : MethodName := ⟨RX12, "in", "(III)Z"⟩
abbrev cX12_has : ByteArray := prog_14_method_3_code
def yX12_has : MethodName := ⟨RX12, "has", "(II)Z"⟩
abbrev cX12_bits : ByteArray := prog_14_method_4_code
def yX12_bits : MethodName := ⟨RX12, "bits", "(I)I"⟩
abbrev cX12_isChapel : ByteArray := prog_14_method_5_code
def yX12_isChapel : MethodName := ⟨RX12, "isChapel", "(I)Z"⟩
abbrev cX12_isThere : ByteArray := prog_14_method_6_code
def yX12_isThere : MethodName := ⟨RX12, "isThere", "(I)Z"⟩
abbrev cX12_chapels : ByteArray := prog_14_method_7_code
def yX12_chapels : MethodName := ⟨RX12, "chapels", "(I)I"⟩
abbrev cX12_road : ByteArray := prog_14_method_8_code
def yX12_road : MethodName := ⟨RX12, "road", "(III)I"⟩
abbrev cX12_yearOf : ByteArray := prog_14_method_9_code
def yX12_yearOf : MethodName := ⟨RX12, "yearOf", "(I)I"⟩
abbrev cX12_knight : ByteArray := prog_14_method_10_code
def yX12_knight : MethodName := ⟨RX12, "knight", "(IIIII)I"⟩
abbrev cX12_heir : ByteArray := prog_14_method_11_code
def yX12_heir : MethodName := ⟨RX12, "heir", "(II)I"⟩
abbrev cX12_say : ByteArray := prog_14_method_12_code
def yX12_say : MethodName := ⟨RX12, "say", "(I)I"⟩
abbrev cX12_wipe : ByteArray := prog_14_method_13_code
def yX12_wipe : MethodName := ⟨RX12, "wipe", "()I"⟩
abbrev cX12_daysOf : ByteArray := prog_14_method_14_code
def yX12_daysOf : MethodName := ⟨RX12, "daysOf", "(I)I"⟩
abbrev cX12_faultOf : ByteArray := prog_14_method_15_code
def yX12_faultOf : MethodName := ⟨RX12, "faultOf", "()I"⟩
abbrev cX12_fault : ByteArray := prog_14_method_16_code
def yX12_fault : MethodName := ⟨RX12, "fault", "()I"⟩
abbrev cX12_asNow : ByteArray := prog_14_method_17_code
def yX12_asNow : MethodName := ⟨RX12, "asNow", "()V"⟩
abbrev cX12_keep : ByteArray := prog_14_method_18_code
def yX12_keep : MethodName := ⟨RX12, "keep", "()V"⟩
abbrev cX12_forgive : ByteArray := prog_14_method_19_code
def yX12_forgive : MethodName := ⟨RX12, "forgive", "(I)V"⟩
abbrev cX12_strike : ByteArray := prog_14_method_20_code
def yX12_strike : MethodName := ⟨RX12, "strike", "(II)V"⟩
abbrev cX12_isAlive : ByteArray := prog_14_method_21_code
def yX12_isAlive : MethodName := ⟨RX12, "isAlive", "(I)Z"⟩
abbrev cX12_whyNotStrike : ByteArray := prog_14_method_22_code
def yX12_whyNotStrike : MethodName := ⟨RX12, "whyNotStrike", "(III)I"⟩
abbrev cX12_hit : ByteArray := prog_14_method_23_code
def yX12_hit : MethodName := ⟨RX12, "hit", "(III)V"⟩
abbrev cX12_isOwed : ByteArray := prog_14_method_24_code
def yX12_isOwed : MethodName := ⟨RX12, "isOwed", "(II)Z"⟩
abbrev cX12_owesHere : ByteArray := prog_14_method_25_code
def yX12_owesHere : MethodName := ⟨RX12, "owesHere", "(II)Z"⟩
abbrev cX12_whyNot : ByteArray := prog_14_method_26_code
def yX12_whyNot : MethodName := ⟨RX12, "whyNot", "(II)I"⟩
abbrev cX12_giveBack : ByteArray := prog_14_method_27_code
def yX12_giveBack : MethodName := ⟨RX12, "giveBack", "(I)V"⟩
abbrev cX12_act : ByteArray := prog_14_method_28_code
def yX12_act : MethodName := ⟨RX12, "act", "(II)V"⟩
abbrev cX12_pass : ByteArray := prog_14_method_29_code
def yX12_pass : MethodName := ⟨RX12, "pass", "(I)V"⟩
abbrev cX12_goCourt : ByteArray := prog_14_method_30_code
def yX12_goCourt : MethodName := ⟨RX12, "goCourt", "()I"⟩
abbrev cX12_judge : ByteArray := prog_14_method_31_code
def yX12_judge : MethodName := ⟨RX12, "judge", "(I)I"⟩
abbrev cX12_barOfCourt : ByteArray := prog_14_method_32_code
def yX12_barOfCourt : MethodName := ⟨RX12, "barOfCourt", "()I"⟩
abbrev cX12_done : ByteArray := prog_14_method_33_code
def yX12_done : MethodName := ⟨RX12, "done", "()I"⟩
abbrev cX12_stateNow : ByteArray := prog_14_method_34_code
def yX12_stateNow : MethodName := ⟨RX12, "stateNow", "(II)I"⟩
abbrev cX12_state : ByteArray := prog_14_method_35_code
def yX12_state : MethodName := ⟨RX12, "state", "(II)I"⟩
abbrev cX12_behind : ByteArray := prog_14_method_36_code
def yX12_behind : MethodName := ⟨RX12, "behind", "(II)I"⟩
abbrev cX12_debt : ByteArray := prog_14_method_37_code
def yX12_debt : MethodName := ⟨RX12, "debt", "(II)I"⟩
abbrev cX12_arrival : ByteArray := prog_14_method_38_code
def yX12_arrival : MethodName := ⟨RX12, "arrival", "(II)I"⟩
abbrev cX12_layJourneys : ByteArray := prog_14_method_39_code
def yX12_layJourneys : MethodName := ⟨RX12, "layJourneys", "(II)V"⟩
abbrev cX12_isWell : ByteArray := prog_14_method_40_code
def yX12_isWell : MethodName := ⟨RX12, "isWell", "(I)Z"⟩
abbrev cX12_when : ByteArray := prog_14_method_41_code
def yX12_when : MethodName := ⟨RX12, "when", "(II)I"⟩
abbrev cX12_inTime : ByteArray := prog_14_method_42_code
def yX12_inTime : MethodName := ⟨RX12, "inTime", "(I)I"⟩
abbrev cX12_canMeet : ByteArray := prog_14_method_43_code
def yX12_canMeet : MethodName := ⟨RX12, "canMeet", "(II)Z"⟩
abbrev cX12_round : ByteArray := prog_14_method_44_code
def yX12_round : MethodName := ⟨RX12, "round", "(II)I"⟩
abbrev cX12_hard : ByteArray := prog_14_method_45_code
def yX12_hard : MethodName := ⟨RX12, "hard", "(IIIII)I"⟩
abbrev cX12_layBalance : ByteArray := prog_14_method_46_code
def yX12_layBalance : MethodName := ⟨RX12, "layBalance", "()V"⟩
abbrev cX12_sumOf : ByteArray := prog_14_method_47_code
def yX12_sumOf : MethodName := ⟨RX12, "sumOf", "(I)I"⟩
abbrev cX12_settled : ByteArray := prog_14_method_48_code
def yX12_settled : MethodName := ⟨RX12, "settled", "()I"⟩
abbrev cX12_owes : ByteArray := prog_14_method_49_code
def yX12_owes : MethodName := ⟨RX12, "owes", "(II)Z"⟩
abbrev cX12_ring : ByteArray := prog_14_method_50_code
def yX12_ring : MethodName := ⟨RX12, "ring", "()I"⟩
abbrev cX12_reckoned : ByteArray := prog_14_method_51_code
def yX12_reckoned : MethodName := ⟨RX12, "reckoned", "(III)I"⟩
abbrev cX12_tens : ByteArray := prog_14_method_52_code
def yX12_tens : MethodName := ⟨RX12, "tens", "(I)J"⟩
abbrev cX12_hosted : ByteArray := prog_14_method_53_code
def yX12_hosted : MethodName := ⟨RX12, "hosted", "(III)J"⟩
abbrev cX12_kept : ByteArray := prog_14_method_54_code
def yX12_kept : MethodName := ⟨RX12, "kept", "(IIII)J"⟩
abbrev cX12_keeps : ByteArray := prog_14_method_55_code
def yX12_keeps : MethodName := ⟨RX12, "keeps", "(III)I"⟩
abbrev cX12_seen : ByteArray := prog_14_method_56_code
def yX12_seen : MethodName := ⟨RX12, "seen", "(II)I"⟩
abbrev cX12_forget : ByteArray := prog_14_method_57_code
def yX12_forget : MethodName := ⟨RX12, "forget", "()I"⟩
abbrev cX12_who : ByteArray := prog_14_method_58_code
def yX12_who : MethodName := ⟨RX12, "who", "(I)I"⟩
abbrev cX12_snow : ByteArray := prog_14_method_59_code
def yX12_snow : MethodName := ⟨RX12, "snow", "(IIII)J"⟩
abbrev cX12_year : ByteArray := prog_14_method_60_code
def yX12_year : MethodName := ⟨RX12, "year", "(III)I"⟩
abbrev cX12_image : ByteArray := prog_14_method_61_code
def yX12_image : MethodName := ⟨RX12, "image", "(I)I"⟩
abbrev cX12_restore : ByteArray := prog_14_method_62_code
def yX12_restore : MethodName := ⟨RX12, "restore", "(I)I"⟩
abbrev cX12_told : ByteArray := prog_14_method_63_code
def yX12_told : MethodName := ⟨RX12, "told", "(I)I"⟩
def RJ6 : String := "java/lang/Integer"
def TJ6 : u_T := fun k => match k with
  | _ => ("", "", "", false)
def tyJ6 : Nat → FieldType := fun k => match k with
  | _ => .int
abbrev wsJ60 : List Cond := u_ws RJ6 TJ6 0
theorem nmJ6 : ∀ a, a < 0 → ∀ b, b < 0 → a ≠ b → (TJ6 a).2.1 ≠ (TJ6 b).2.1 := by decide +kernel
theorem tyJ6_ok : ∀ k, k < 0 → parseFieldDescriptor (TJ6 k).2.2.1 = some (tyJ6 k) := by decide +kernel
abbrev cJ6_bitCount_0f7a4 : ByteArray := prog_15_method_49_code
def yJ6_bitCount_0f7a4 : MethodName := ⟨RJ6, "bitCount", "(I)I"⟩
def RJ9 : String := "java/lang/Math"
def TJ9 : u_T := fun k => match k with
  | _ => ("", "", "", false)
def tyJ9 : Nat → FieldType := fun k => match k with
  | _ => .int
abbrev wsJ90 : List Cond := u_ws RJ9 TJ9 0
theorem nmJ9 : ∀ a, a < 0 → ∀ b, b < 0 → a ≠ b → (TJ9 a).2.1 ≠ (TJ9 b).2.1 := by decide +kernel
theorem tyJ9_ok : ∀ k, k < 0 → parseFieldDescriptor (TJ9 k).2.2.1 = some (tyJ9 k) := by decide +kernel
abbrev cJ9_max_7cf53 : ByteArray := prog_16_method_65_code
def yJ9_max_7cf53 : MethodName := ⟨RJ9, "max", "(II)I"⟩
abbrev cJ9_max_f86c9 : ByteArray := prog_16_method_66_code
def yJ9_max_f86c9 : MethodName := ⟨RJ9, "max", "(JJ)J"⟩
abbrev cJ9_min_7cf53 : ByteArray := prog_16_method_69_code
def yJ9_min_7cf53 : MethodName := ⟨RJ9, "min", "(II)I"⟩
def RJ10 : String := "java/lang/System"
def TJ10 : u_T := fun k => match k with
  | _ => ("", "", "", false)
def tyJ10 : Nat → FieldType := fun k => match k with
  | _ => .int
abbrev wsJ100 : List Cond := u_ws RJ10 TJ10 0
theorem nmJ10 : ∀ a, a < 0 → ∀ b, b < 0 → a ≠ b → (TJ10 a).2.1 ≠ (TJ10 b).2.1 := by decide +kernel
theorem tyJ10_ok : ∀ k, k < 0 → parseFieldDescriptor (TJ10 k).2.2.1 = some (tyJ10 k) := by decide +kernel
def RJ7 : String := "java/util/Arrays"
def TJ7 : u_T := fun k => match k with
  | _ => ("", "", "", false)
def tyJ7 : Nat → FieldType := fun k => match k with
  | _ => .int
abbrev wsJ70 : List Cond := u_ws RJ7 TJ7 0
theorem nmJ7 : ∀ a, a < 0 → ∀ b, b < 0 → a ≠ b → (TJ7 a).2.1 ≠ (TJ7 b).2.1 := by decide +kernel
theorem tyJ7_ok : ∀ k, k < 0 → parseFieldDescriptor (TJ7 k).2.2.1 = some (tyJ7 k) := by decide +kernel
abbrev cJ7_fill_53178 : ByteArray := prog_18_method_103_code
def yJ7_fill_53178 : MethodName := ⟨RJ7, "fill", "([II)V"⟩
def RL : String := "BlowOwedLaw"
abbrev cL_law : ByteArray := code
def yL_law : MethodName := ⟨RL, "law", "([I)Z"⟩
end
