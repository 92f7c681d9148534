section
-- ===== PART A: goes FIRST, ahead of the names: the tables' words, and 'selects' of the private methods out of them =====
/-- a private method of a class that the tables say can be made, by its rows of tables_1 -/
def lw_okq (q : MethodName × Nat) : Prop := (q.1.cls ≠ "java/lang/invoke/MethodHandle" ∧ q.1.cls ≠ "java/lang/invoke/VarHandle") ∧ Cond.instantiable q.1.cls q.2 ∈ tables_1 ∧ Cond.privateMethod q.1 ∈ tables_1 ∧ Cond.instanceMethod q.1 ∈ tables_1
theorem lw_p0 : lw_okq (⟨"BlowOwed$Court", "beginAnew", "(I)V"⟩, 6) := ⟨⟨by decide +kernel, by decide +kernel⟩, List.mem_of_getElem? (i := 43) (by decide +kernel), List.mem_of_getElem? (i := 333) (by decide +kernel), List.mem_of_getElem? (i := 334) (by decide +kernel)⟩
theorem lw_p1 : lw_okq (⟨"BlowOwed$Knight", "leave", "()V"⟩, 7) := ⟨⟨by decide +kernel, by decide +kernel⟩, List.mem_of_getElem? (i := 152) (by decide +kernel), List.mem_of_getElem? (i := 340) (by decide +kernel), List.mem_of_getElem? (i := 341) (by decide +kernel)⟩
theorem lw_p2 : lw_okq (⟨"BlowOwed$Land", "hasChapel", "(I)Z"⟩, 3) := ⟨⟨by decide +kernel, by decide +kernel⟩, List.mem_of_getElem? (i := 49) (by decide +kernel), List.mem_of_getElem? (i := 348) (by decide +kernel), List.mem_of_getElem? (i := 349) (by decide +kernel)⟩
theorem lw_p3 : lw_okq (⟨"BlowOwed$Land", "roadDays", "(II)I"⟩, 3) := ⟨⟨by decide +kernel, by decide +kernel⟩, List.mem_of_getElem? (i := 49) (by decide +kernel), List.mem_of_getElem? (i := 352) (by decide +kernel), List.mem_of_getElem? (i := 353) (by decide +kernel)⟩
theorem lw_p4 : lw_okq (⟨"BlowOwed$Land", "layRoad", "(III)V"⟩, 3) := ⟨⟨by decide +kernel, by decide +kernel⟩, List.mem_of_getElem? (i := 49) (by decide +kernel), List.mem_of_getElem? (i := 356) (by decide +kernel), List.mem_of_getElem? (i := 357) (by decide +kernel)⟩
theorem lw_p5 : lw_okq (⟨"BlowOwed$Court", "knightAt", "(I)LBlowOwed$Knight;"⟩, 6) := ⟨⟨by decide +kernel, by decide +kernel⟩, List.mem_of_getElem? (i := 43) (by decide +kernel), List.mem_of_getElem? (i := 369) (by decide +kernel), List.mem_of_getElem? (i := 370) (by decide +kernel)⟩
theorem lw_p6 : lw_okq (⟨"BlowOwed$Knight", "come", "(IIII)V"⟩, 7) := ⟨⟨by decide +kernel, by decide +kernel⟩, List.mem_of_getElem? (i := 152) (by decide +kernel), List.mem_of_getElem? (i := 373) (by decide +kernel), List.mem_of_getElem? (i := 374) (by decide +kernel)⟩
theorem lw_p7 : lw_okq (⟨"BlowOwed$Court", "countKnights", "()I"⟩, 6) := ⟨⟨by decide +kernel, by decide +kernel⟩, List.mem_of_getElem? (i := 43) (by decide +kernel), List.mem_of_getElem? (i := 377) (by decide +kernel), List.mem_of_getElem? (i := 378) (by decide +kernel)⟩
theorem lw_p8 : lw_okq (⟨"BlowOwed$Court", "knightBits", "()I"⟩, 6) := ⟨⟨by decide +kernel, by decide +kernel⟩, List.mem_of_getElem? (i := 43) (by decide +kernel), List.mem_of_getElem? (i := 381) (by decide +kernel), List.mem_of_getElem? (i := 382) (by decide +kernel)⟩
theorem lw_p9 : lw_okq (⟨"BlowOwed$Knight", "isAlive", "()Z"⟩, 7) := ⟨⟨by decide +kernel, by decide +kernel⟩, List.mem_of_getElem? (i := 152) (by decide +kernel), List.mem_of_getElem? (i := 395) (by decide +kernel), List.mem_of_getElem? (i := 396) (by decide +kernel)⟩
theorem lw_p10 : lw_okq (⟨"BlowOwed$Debts", "inherit", "(II)V"⟩, 2) := ⟨⟨by decide +kernel, by decide +kernel⟩, List.mem_of_getElem? (i := 72) (by decide +kernel), List.mem_of_getElem? (i := 400) (by decide +kernel), List.mem_of_getElem? (i := 401) (by decide +kernel)⟩
theorem lw_p11 : lw_okq (⟨"BlowOwed$Debts", "sweep", "()V"⟩, 2) := ⟨⟨by decide +kernel, by decide +kernel⟩, List.mem_of_getElem? (i := 72) (by decide +kernel), List.mem_of_getElem? (i := 404) (by decide +kernel), List.mem_of_getElem? (i := 405) (by decide +kernel)⟩
theorem lw_p12 : lw_okq (⟨"BlowOwed$Pad", "add", "(I)V"⟩, 2) := ⟨⟨by decide +kernel, by decide +kernel⟩, List.mem_of_getElem? (i := 27) (by decide +kernel), List.mem_of_getElem? (i := 412) (by decide +kernel), List.mem_of_getElem? (i := 413) (by decide +kernel)⟩
theorem lw_p13 : lw_okq (⟨"BlowOwed$Pad", "findFault", "(I)I"⟩, 2) := ⟨⟨by decide +kernel, by decide +kernel⟩, List.mem_of_getElem? (i := 27) (by decide +kernel), List.mem_of_getElem? (i := 424) (by decide +kernel), List.mem_of_getElem? (i := 425) (by decide +kernel)⟩
theorem lw_p14 : lw_okq (⟨"BlowOwed$Pad", "countGood", "(II)I"⟩, 2) := ⟨⟨by decide +kernel, by decide +kernel⟩, List.mem_of_getElem? (i := 27) (by decide +kernel), List.mem_of_getElem? (i := 428) (by decide +kernel), List.mem_of_getElem? (i := 429) (by decide +kernel)⟩
theorem lw_p15 : lw_okq (⟨"BlowOwed$Pad", "signAt", "(I)I"⟩, 2) := ⟨⟨by decide +kernel, by decide +kernel⟩, List.mem_of_getElem? (i := 27) (by decide +kernel), List.mem_of_getElem? (i := 432) (by decide +kernel), List.mem_of_getElem? (i := 433) (by decide +kernel)⟩
def lw_privs_1 : List (MethodName × Nat) := [(⟨"BlowOwed$Court", "beginAnew", "(I)V"⟩, 6), (⟨"BlowOwed$Knight", "leave", "()V"⟩, 7), (⟨"BlowOwed$Land", "hasChapel", "(I)Z"⟩, 3), (⟨"BlowOwed$Land", "roadDays", "(II)I"⟩, 3), (⟨"BlowOwed$Land", "layRoad", "(III)V"⟩, 3), (⟨"BlowOwed$Court", "knightAt", "(I)LBlowOwed$Knight;"⟩, 6), (⟨"BlowOwed$Knight", "come", "(IIII)V"⟩, 7), (⟨"BlowOwed$Court", "countKnights", "()I"⟩, 6), (⟨"BlowOwed$Court", "knightBits", "()I"⟩, 6), (⟨"BlowOwed$Knight", "isAlive", "()Z"⟩, 7), (⟨"BlowOwed$Debts", "inherit", "(II)V"⟩, 2), (⟨"BlowOwed$Debts", "sweep", "()V"⟩, 2), (⟨"BlowOwed$Pad", "add", "(I)V"⟩, 2), (⟨"BlowOwed$Pad", "findFault", "(I)I"⟩, 2), (⟨"BlowOwed$Pad", "countGood", "(II)I"⟩, 2), (⟨"BlowOwed$Pad", "signAt", "(I)I"⟩, 2)]
theorem lw_r1 : ∀ q ∈ lw_privs_1, lw_okq q := List.forall_mem_cons.mpr ⟨lw_p0, List.forall_mem_cons.mpr ⟨lw_p1, List.forall_mem_cons.mpr ⟨lw_p2, List.forall_mem_cons.mpr ⟨lw_p3, List.forall_mem_cons.mpr ⟨lw_p4, List.forall_mem_cons.mpr ⟨lw_p5, List.forall_mem_cons.mpr ⟨lw_p6, List.forall_mem_cons.mpr ⟨lw_p7, List.forall_mem_cons.mpr ⟨lw_p8, List.forall_mem_cons.mpr ⟨lw_p9, List.forall_mem_cons.mpr ⟨lw_p10, List.forall_mem_cons.mpr ⟨lw_p11, List.forall_mem_cons.mpr ⟨lw_p12, List.forall_mem_cons.mpr ⟨lw_p13, List.forall_mem_cons.mpr ⟨lw_p14, List.forall_mem_cons.mpr ⟨lw_p15, fun _ h => absurd h List.not_mem_nil⟩⟩⟩⟩⟩⟩⟩⟩⟩⟩⟩⟩⟩⟩⟩⟩
theorem lw_p16 : lw_okq (⟨"BlowOwed$Pad", "countGoodDigits", "(I)I"⟩, 2) := ⟨⟨by decide +kernel, by decide +kernel⟩, List.mem_of_getElem? (i := 27) (by decide +kernel), List.mem_of_getElem? (i := 442) (by decide +kernel), List.mem_of_getElem? (i := 443) (by decide +kernel)⟩
theorem lw_p17 : lw_okq (⟨"BlowOwed$Pad", "numberAt", "(I)I"⟩, 2) := ⟨⟨by decide +kernel, by decide +kernel⟩, List.mem_of_getElem? (i := 27) (by decide +kernel), List.mem_of_getElem? (i := 447) (by decide +kernel), List.mem_of_getElem? (i := 448) (by decide +kernel)⟩
theorem lw_p18 : lw_okq (⟨"BlowOwed$Pad", "signsOfAct", "(I)I"⟩, 2) := ⟨⟨by decide +kernel, by decide +kernel⟩, List.mem_of_getElem? (i := 27) (by decide +kernel), List.mem_of_getElem? (i := 451) (by decide +kernel), List.mem_of_getElem? (i := 452) (by decide +kernel)⟩
theorem lw_p19 : lw_okq (⟨"BlowOwed$Trial", "hear", "(LBlowOwed$Pad;LBlowOwed$Court;)Z"⟩, 5) := ⟨⟨by decide +kernel, by decide +kernel⟩, List.mem_of_getElem? (i := 224) (by decide +kernel), List.mem_of_getElem? (i := 460) (by decide +kernel), List.mem_of_getElem? (i := 461) (by decide +kernel)⟩
theorem lw_p20 : lw_okq (⟨"BlowOwed$Court", "copy", "(LBlowOwed$Court;)V"⟩, 6) := ⟨⟨by decide +kernel, by decide +kernel⟩, List.mem_of_getElem? (i := 43) (by decide +kernel), List.mem_of_getElem? (i := 464) (by decide +kernel), List.mem_of_getElem? (i := 465) (by decide +kernel)⟩
theorem lw_p21 : lw_okq (⟨"BlowOwed$Land", "copy", "(LBlowOwed$Land;)V"⟩, 3) := ⟨⟨by decide +kernel, by decide +kernel⟩, List.mem_of_getElem? (i := 49) (by decide +kernel), List.mem_of_getElem? (i := 468) (by decide +kernel), List.mem_of_getElem? (i := 469) (by decide +kernel)⟩
theorem lw_p22 : lw_okq (⟨"BlowOwed$Knight", "copy", "(LBlowOwed$Knight;)V"⟩, 7) := ⟨⟨by decide +kernel, by decide +kernel⟩, List.mem_of_getElem? (i := 152) (by decide +kernel), List.mem_of_getElem? (i := 475) (by decide +kernel), List.mem_of_getElem? (i := 476) (by decide +kernel)⟩
theorem lw_p23 : lw_okq (⟨"BlowOwed$Debts", "copy", "(LBlowOwed$Debts;)V"⟩, 2) := ⟨⟨by decide +kernel, by decide +kernel⟩, List.mem_of_getElem? (i := 72) (by decide +kernel), List.mem_of_getElem? (i := 479) (by decide +kernel), List.mem_of_getElem? (i := 480) (by decide +kernel)⟩
theorem lw_p24 : lw_okq (⟨"BlowOwed$Debt", "set", "(IIII)V"⟩, 5) := ⟨⟨by decide +kernel, by decide +kernel⟩, List.mem_of_getElem? (i := 79) (by decide +kernel), List.mem_of_getElem? (i := 483) (by decide +kernel), List.mem_of_getElem? (i := 484) (by decide +kernel)⟩
theorem lw_p25 : lw_okq (⟨"BlowOwed$Sights", "copy", "(LBlowOwed$Sights;)V"⟩, 3) := ⟨⟨by decide +kernel, by decide +kernel⟩, List.mem_of_getElem? (i := 132) (by decide +kernel), List.mem_of_getElem? (i := 487) (by decide +kernel), List.mem_of_getElem? (i := 488) (by decide +kernel)⟩
theorem lw_p26 : lw_okq (⟨"BlowOwed$Trial", "tryAct", "(LBlowOwed$Pad;I)I"⟩, 5) := ⟨⟨by decide +kernel, by decide +kernel⟩, List.mem_of_getElem? (i := 224) (by decide +kernel), List.mem_of_getElem? (i := 492) (by decide +kernel), List.mem_of_getElem? (i := 493) (by decide +kernel)⟩
theorem lw_p27 : lw_okq (⟨"BlowOwed$Court", "passDays", "(I)V"⟩, 6) := ⟨⟨by decide +kernel, by decide +kernel⟩, List.mem_of_getElem? (i := 43) (by decide +kernel), List.mem_of_getElem? (i := 498) (by decide +kernel), List.mem_of_getElem? (i := 499) (by decide +kernel)⟩
theorem lw_p28 : lw_okq (⟨"BlowOwed$Court", "tryStrike", "(III)I"⟩, 6) := ⟨⟨by decide +kernel, by decide +kernel⟩, List.mem_of_getElem? (i := 43) (by decide +kernel), List.mem_of_getElem? (i := 509) (by decide +kernel), List.mem_of_getElem? (i := 510) (by decide +kernel)⟩
theorem lw_p29 : lw_okq (⟨"BlowOwed$Court", "wound", "(II)V"⟩, 6) := ⟨⟨by decide +kernel, by decide +kernel⟩, List.mem_of_getElem? (i := 43) (by decide +kernel), List.mem_of_getElem? (i := 514) (by decide +kernel), List.mem_of_getElem? (i := 515) (by decide +kernel)⟩
theorem lw_p30 : lw_okq (⟨"BlowOwed$Knight", "isDead", "()Z"⟩, 7) := ⟨⟨by decide +kernel, by decide +kernel⟩, List.mem_of_getElem? (i := 152) (by decide +kernel), List.mem_of_getElem? (i := 518) (by decide +kernel), List.mem_of_getElem? (i := 519) (by decide +kernel)⟩
theorem lw_p31 : lw_okq (⟨"BlowOwed$Debts", "endAllOf", "(I)V"⟩, 2) := ⟨⟨by decide +kernel, by decide +kernel⟩, List.mem_of_getElem? (i := 72) (by decide +kernel), List.mem_of_getElem? (i := 522) (by decide +kernel), List.mem_of_getElem? (i := 523) (by decide +kernel)⟩
def lw_privs_2 : List (MethodName × Nat) := [(⟨"BlowOwed$Pad", "countGoodDigits", "(I)I"⟩, 2), (⟨"BlowOwed$Pad", "numberAt", "(I)I"⟩, 2), (⟨"BlowOwed$Pad", "signsOfAct", "(I)I"⟩, 2), (⟨"BlowOwed$Trial", "hear", "(LBlowOwed$Pad;LBlowOwed$Court;)Z"⟩, 5), (⟨"BlowOwed$Court", "copy", "(LBlowOwed$Court;)V"⟩, 6), (⟨"BlowOwed$Land", "copy", "(LBlowOwed$Land;)V"⟩, 3), (⟨"BlowOwed$Knight", "copy", "(LBlowOwed$Knight;)V"⟩, 7), (⟨"BlowOwed$Debts", "copy", "(LBlowOwed$Debts;)V"⟩, 2), (⟨"BlowOwed$Debt", "set", "(IIII)V"⟩, 5), (⟨"BlowOwed$Sights", "copy", "(LBlowOwed$Sights;)V"⟩, 3), (⟨"BlowOwed$Trial", "tryAct", "(LBlowOwed$Pad;I)I"⟩, 5), (⟨"BlowOwed$Court", "passDays", "(I)V"⟩, 6), (⟨"BlowOwed$Court", "tryStrike", "(III)I"⟩, 6), (⟨"BlowOwed$Court", "wound", "(II)V"⟩, 6), (⟨"BlowOwed$Knight", "isDead", "()Z"⟩, 7), (⟨"BlowOwed$Debts", "endAllOf", "(I)V"⟩, 2)]
theorem lw_r2 : ∀ q ∈ lw_privs_2, lw_okq q := List.forall_mem_cons.mpr ⟨lw_p16, List.forall_mem_cons.mpr ⟨lw_p17, List.forall_mem_cons.mpr ⟨lw_p18, List.forall_mem_cons.mpr ⟨lw_p19, List.forall_mem_cons.mpr ⟨lw_p20, List.forall_mem_cons.mpr ⟨lw_p21, List.forall_mem_cons.mpr ⟨lw_p22, List.forall_mem_cons.mpr ⟨lw_p23, List.forall_mem_cons.mpr ⟨lw_p24, List.forall_mem_cons.mpr ⟨lw_p25, List.forall_mem_cons.mpr ⟨lw_p26, List.forall_mem_cons.mpr ⟨lw_p27, List.forall_mem_cons.mpr ⟨lw_p28, List.forall_mem_cons.mpr ⟨lw_p29, List.forall_mem_cons.mpr ⟨lw_p30, List.forall_mem_cons.mpr ⟨lw_p31, fun _ h => absurd h List.not_mem_nil⟩⟩⟩⟩⟩⟩⟩⟩⟩⟩⟩⟩⟩⟩⟩⟩
theorem lw_p32 : lw_okq (⟨"BlowOwed$Debts", "add", "(IIII)V"⟩, 2) := ⟨⟨by decide +kernel, by decide +kernel⟩, List.mem_of_getElem? (i := 72) (by decide +kernel), List.mem_of_getElem? (i := 526) (by decide +kernel), List.mem_of_getElem? (i := 527) (by decide +kernel)⟩
theorem lw_p33 : lw_okq (⟨"BlowOwed$Court", "tryGiveBack", "(I)I"⟩, 6) := ⟨⟨by decide +kernel, by decide +kernel⟩, List.mem_of_getElem? (i := 43) (by decide +kernel), List.mem_of_getElem? (i := 530) (by decide +kernel), List.mem_of_getElem? (i := 531) (by decide +kernel)⟩
theorem lw_p34 : lw_okq (⟨"BlowOwed$Court", "whyNotActing", "(I)I"⟩, 6) := ⟨⟨by decide +kernel, by decide +kernel⟩, List.mem_of_getElem? (i := 43) (by decide +kernel), List.mem_of_getElem? (i := 534) (by decide +kernel), List.mem_of_getElem? (i := 535) (by decide +kernel)⟩
theorem lw_p35 : lw_okq (⟨"BlowOwed$Debts", "findDueTo", "(II)I"⟩, 2) := ⟨⟨by decide +kernel, by decide +kernel⟩, List.mem_of_getElem? (i := 72) (by decide +kernel), List.mem_of_getElem? (i := 538) (by decide +kernel), List.mem_of_getElem? (i := 539) (by decide +kernel)⟩
theorem lw_p36 : lw_okq (⟨"BlowOwed$Knight", "isIn", "(I)Z"⟩, 7) := ⟨⟨by decide +kernel, by decide +kernel⟩, List.mem_of_getElem? (i := 152) (by decide +kernel), List.mem_of_getElem? (i := 542) (by decide +kernel), List.mem_of_getElem? (i := 543) (by decide +kernel)⟩
theorem lw_p37 : lw_okq (⟨"BlowOwed$Court", "giveBackOne", "(LBlowOwed$Knight;I)V"⟩, 6) := ⟨⟨by decide +kernel, by decide +kernel⟩, List.mem_of_getElem? (i := 43) (by decide +kernel), List.mem_of_getElem? (i := 546) (by decide +kernel), List.mem_of_getElem? (i := 547) (by decide +kernel)⟩
theorem lw_p38 : lw_okq (⟨"BlowOwed$Debts", "has", "(I)Z"⟩, 2) := ⟨⟨by decide +kernel, by decide +kernel⟩, List.mem_of_getElem? (i := 72) (by decide +kernel), List.mem_of_getElem? (i := 550) (by decide +kernel), List.mem_of_getElem? (i := 551) (by decide +kernel)⟩
theorem lw_p39 : lw_okq (⟨"BlowOwed$Court", "tryFlinch", "(I)I"⟩, 6) := ⟨⟨by decide +kernel, by decide +kernel⟩, List.mem_of_getElem? (i := 43) (by decide +kernel), List.mem_of_getElem? (i := 557) (by decide +kernel), List.mem_of_getElem? (i := 558) (by decide +kernel)⟩
theorem lw_p40 : lw_okq (⟨"BlowOwed$Court", "tryRemit", "(I)I"⟩, 6) := ⟨⟨by decide +kernel, by decide +kernel⟩, List.mem_of_getElem? (i := 43) (by decide +kernel), List.mem_of_getElem? (i := 561) (by decide +kernel), List.mem_of_getElem? (i := 562) (by decide +kernel)⟩
theorem lw_p41 : lw_okq (⟨"BlowOwed$Court", "trySetOut", "(II)I"⟩, 6) := ⟨⟨by decide +kernel, by decide +kernel⟩, List.mem_of_getElem? (i := 43) (by decide +kernel), List.mem_of_getElem? (i := 565) (by decide +kernel), List.mem_of_getElem? (i := 566) (by decide +kernel)⟩
theorem lw_p42 : lw_okq (⟨"BlowOwed$Land", "daysUnderWay", "(III)I"⟩, 3) := ⟨⟨by decide +kernel, by decide +kernel⟩, List.mem_of_getElem? (i := 49) (by decide +kernel), List.mem_of_getElem? (i := 569) (by decide +kernel), List.mem_of_getElem? (i := 570) (by decide +kernel)⟩
theorem lw_p43 : lw_okq (⟨"BlowOwed$Land", "isWinter", "(I)Z"⟩, 3) := ⟨⟨by decide +kernel, by decide +kernel⟩, List.mem_of_getElem? (i := 49) (by decide +kernel), List.mem_of_getElem? (i := 574) (by decide +kernel), List.mem_of_getElem? (i := 575) (by decide +kernel)⟩
theorem lw_p44 : lw_okq (⟨"BlowOwed$Knight", "tell", "(I)I"⟩, 7) := ⟨⟨by decide +kernel, by decide +kernel⟩, List.mem_of_getElem? (i := 152) (by decide +kernel), List.mem_of_getElem? (i := 591) (by decide +kernel), List.mem_of_getElem? (i := 592) (by decide +kernel)⟩
theorem lw_p45 : lw_okq (⟨"BlowOwed$Debt", "tell", "(I)I"⟩, 5) := ⟨⟨by decide +kernel, by decide +kernel⟩, List.mem_of_getElem? (i := 79) (by decide +kernel), List.mem_of_getElem? (i := 605) (by decide +kernel), List.mem_of_getElem? (i := 606) (by decide +kernel)⟩
theorem lw_p46 : lw_okq (⟨"BlowOwed$Journeys", "firstDay", "(LBlowOwed$Court;II)I"⟩, 3) := ⟨⟨by decide +kernel, by decide +kernel⟩, List.mem_of_getElem? (i := 253) (by decide +kernel), List.mem_of_getElem? (i := 613) (by decide +kernel), List.mem_of_getElem? (i := 614) (by decide +kernel)⟩
theorem lw_p47 : lw_okq (⟨"BlowOwed$Journeys", "setOff", "(LBlowOwed$Court;I)V"⟩, 3) := ⟨⟨by decide +kernel, by decide +kernel⟩, List.mem_of_getElem? (i := 253) (by decide +kernel), List.mem_of_getElem? (i := 617) (by decide +kernel), List.mem_of_getElem? (i := 618) (by decide +kernel)⟩
def lw_privs_3 : List (MethodName × Nat) := [(⟨"BlowOwed$Debts", "add", "(IIII)V"⟩, 2), (⟨"BlowOwed$Court", "tryGiveBack", "(I)I"⟩, 6), (⟨"BlowOwed$Court", "whyNotActing", "(I)I"⟩, 6), (⟨"BlowOwed$Debts", "findDueTo", "(II)I"⟩, 2), (⟨"BlowOwed$Knight", "isIn", "(I)Z"⟩, 7), (⟨"BlowOwed$Court", "giveBackOne", "(LBlowOwed$Knight;I)V"⟩, 6), (⟨"BlowOwed$Debts", "has", "(I)Z"⟩, 2), (⟨"BlowOwed$Court", "tryFlinch", "(I)I"⟩, 6), (⟨"BlowOwed$Court", "tryRemit", "(I)I"⟩, 6), (⟨"BlowOwed$Court", "trySetOut", "(II)I"⟩, 6), (⟨"BlowOwed$Land", "daysUnderWay", "(III)I"⟩, 3), (⟨"BlowOwed$Land", "isWinter", "(I)Z"⟩, 3), (⟨"BlowOwed$Knight", "tell", "(I)I"⟩, 7), (⟨"BlowOwed$Debt", "tell", "(I)I"⟩, 5), (⟨"BlowOwed$Journeys", "firstDay", "(LBlowOwed$Court;II)I"⟩, 3), (⟨"BlowOwed$Journeys", "setOff", "(LBlowOwed$Court;I)V"⟩, 3)]
theorem lw_r3 : ∀ q ∈ lw_privs_3, lw_okq q := List.forall_mem_cons.mpr ⟨lw_p32, List.forall_mem_cons.mpr ⟨lw_p33, List.forall_mem_cons.mpr ⟨lw_p34, List.forall_mem_cons.mpr ⟨lw_p35, List.forall_mem_cons.mpr ⟨lw_p36, List.forall_mem_cons.mpr ⟨lw_p37, List.forall_mem_cons.mpr ⟨lw_p38, List.forall_mem_cons.mpr ⟨lw_p39, List.forall_mem_cons.mpr ⟨lw_p40, List.forall_mem_cons.mpr ⟨lw_p41, List.forall_mem_cons.mpr ⟨lw_p42, List.forall_mem_cons.mpr ⟨lw_p43, List.forall_mem_cons.mpr ⟨lw_p44, List.forall_mem_cons.mpr ⟨lw_p45, List.forall_mem_cons.mpr ⟨lw_p46, List.forall_mem_cons.mpr ⟨lw_p47, fun _ h => absurd h List.not_mem_nil⟩⟩⟩⟩⟩⟩⟩⟩⟩⟩⟩⟩⟩⟩⟩⟩
theorem lw_p48 : lw_okq (⟨"BlowOwed$Land", "fillFirstDays", "(II[I)V"⟩, 3) := ⟨⟨by decide +kernel, by decide +kernel⟩, List.mem_of_getElem? (i := 49) (by decide +kernel), List.mem_of_getElem? (i := 622) (by decide +kernel), List.mem_of_getElem? (i := 623) (by decide +kernel)⟩
theorem lw_p49 : lw_okq (⟨"BlowOwed$Land", "firstAcross", "(III)I"⟩, 3) := ⟨⟨by decide +kernel, by decide +kernel⟩, List.mem_of_getElem? (i := 49) (by decide +kernel), List.mem_of_getElem? (i := 628) (by decide +kernel), List.mem_of_getElem? (i := 629) (by decide +kernel)⟩
theorem lw_p50 : lw_okq (⟨"BlowOwed$Journeys", "metAlone", "(LBlowOwed$Court;I)I"⟩, 3) := ⟨⟨by decide +kernel, by decide +kernel⟩, List.mem_of_getElem? (i := 253) (by decide +kernel), List.mem_of_getElem? (i := 642) (by decide +kernel), List.mem_of_getElem? (i := 643) (by decide +kernel)⟩
theorem lw_p51 : lw_okq (⟨"BlowOwed$Journeys", "mostMet", "(LBlowOwed$Court;I)I"⟩, 3) := ⟨⟨by decide +kernel, by decide +kernel⟩, List.mem_of_getElem? (i := 253) (by decide +kernel), List.mem_of_getElem? (i := 654) (by decide +kernel), List.mem_of_getElem? (i := 655) (by decide +kernel)⟩
theorem lw_p52 : lw_okq (⟨"BlowOwed$Journeys", "lengthen", "(LBlowOwed$Court;II)V"⟩, 3) := ⟨⟨by decide +kernel, by decide +kernel⟩, List.mem_of_getElem? (i := 253) (by decide +kernel), List.mem_of_getElem? (i := 660) (by decide +kernel), List.mem_of_getElem? (i := 661) (by decide +kernel)⟩
theorem lw_p53 : lw_okq (⟨"BlowOwed$Journeys", "goOnFrom", "(LBlowOwed$Court;I)V"⟩, 3) := ⟨⟨by decide +kernel, by decide +kernel⟩, List.mem_of_getElem? (i := 253) (by decide +kernel), List.mem_of_getElem? (i := 664) (by decide +kernel), List.mem_of_getElem? (i := 665) (by decide +kernel)⟩
theorem lw_p54 : lw_okq (⟨"BlowOwed$Debts", "countOwedBy", "(I)I"⟩, 2) := ⟨⟨by decide +kernel, by decide +kernel⟩, List.mem_of_getElem? (i := 72) (by decide +kernel), List.mem_of_getElem? (i := 668) (by decide +kernel), List.mem_of_getElem? (i := 669) (by decide +kernel)⟩
theorem lw_p55 : lw_okq (⟨"BlowOwed$Journeys", "findBarred", "(LBlowOwed$Court;I)I"⟩, 3) := ⟨⟨by decide +kernel, by decide +kernel⟩, List.mem_of_getElem? (i := 253) (by decide +kernel), List.mem_of_getElem? (i := 672) (by decide +kernel), List.mem_of_getElem? (i := 673) (by decide +kernel)⟩
theorem lw_p56 : lw_okq (⟨"BlowOwed$Ledger", "fewestPayments", "(LBlowOwed$Debts;)I"⟩, 2) := ⟨⟨by decide +kernel, by decide +kernel⟩, List.mem_of_getElem? (i := 269) (by decide +kernel), List.mem_of_getElem? (i := 691) (by decide +kernel), List.mem_of_getElem? (i := 692) (by decide +kernel)⟩
theorem lw_p57 : lw_okq (⟨"BlowOwed$Ledger", "sumOf", "(ILBlowOwed$Debts;)I"⟩, 2) := ⟨⟨by decide +kernel, by decide +kernel⟩, List.mem_of_getElem? (i := 269) (by decide +kernel), List.mem_of_getElem? (i := 696) (by decide +kernel), List.mem_of_getElem? (i := 697) (by decide +kernel)⟩
theorem lw_p58 : lw_okq (⟨"BlowOwed$Ledger", "shortestRing", "(LBlowOwed$Debts;)I"⟩, 2) := ⟨⟨by decide +kernel, by decide +kernel⟩, List.mem_of_getElem? (i := 269) (by decide +kernel), List.mem_of_getElem? (i := 704) (by decide +kernel), List.mem_of_getElem? (i := 705) (by decide +kernel)⟩
theorem lw_p59 : lw_okq (⟨"BlowOwed$Ledger", "ringThrough", "(I)I"⟩, 2) := ⟨⟨by decide +kernel, by decide +kernel⟩, List.mem_of_getElem? (i := 269) (by decide +kernel), List.mem_of_getElem? (i := 710) (by decide +kernel), List.mem_of_getElem? (i := 711) (by decide +kernel)⟩
theorem lw_p60 : lw_okq (⟨"BlowOwed$Ledger", "nextOf", "(I)I"⟩, 2) := ⟨⟨by decide +kernel, by decide +kernel⟩, List.mem_of_getElem? (i := 269) (by decide +kernel), List.mem_of_getElem? (i := 714) (by decide +kernel), List.mem_of_getElem? (i := 715) (by decide +kernel)⟩
theorem lw_p61 : lw_okq (⟨"BlowOwed$Sights", "add", "(II)V"⟩, 3) := ⟨⟨by decide +kernel, by decide +kernel⟩, List.mem_of_getElem? (i := 132) (by decide +kernel), List.mem_of_getElem? (i := 770) (by decide +kernel), List.mem_of_getElem? (i := 771) (by decide +kernel)⟩
theorem lw_p62 : lw_okq (⟨"BlowOwed$Scars", "fit", "(LBlowOwed$Court;)V"⟩, 4) := ⟨⟨by decide +kernel, by decide +kernel⟩, List.mem_of_getElem? (i := 282) (by decide +kernel), List.mem_of_getElem? (i := 782) (by decide +kernel), List.mem_of_getElem? (i := 783) (by decide +kernel)⟩
theorem lw_p63 : lw_okq (⟨"BlowOwed$Scars", "addStriker", "(LBlowOwed$Court;I)V"⟩, 4) := ⟨⟨by decide +kernel, by decide +kernel⟩, List.mem_of_getElem? (i := 282) (by decide +kernel), List.mem_of_getElem? (i := 787) (by decide +kernel), List.mem_of_getElem? (i := 788) (by decide +kernel)⟩
def lw_privs_4 : List (MethodName × Nat) := [(⟨"BlowOwed$Land", "fillFirstDays", "(II[I)V"⟩, 3), (⟨"BlowOwed$Land", "firstAcross", "(III)I"⟩, 3), (⟨"BlowOwed$Journeys", "metAlone", "(LBlowOwed$Court;I)I"⟩, 3), (⟨"BlowOwed$Journeys", "mostMet", "(LBlowOwed$Court;I)I"⟩, 3), (⟨"BlowOwed$Journeys", "lengthen", "(LBlowOwed$Court;II)V"⟩, 3), (⟨"BlowOwed$Journeys", "goOnFrom", "(LBlowOwed$Court;I)V"⟩, 3), (⟨"BlowOwed$Debts", "countOwedBy", "(I)I"⟩, 2), (⟨"BlowOwed$Journeys", "findBarred", "(LBlowOwed$Court;I)I"⟩, 3), (⟨"BlowOwed$Ledger", "fewestPayments", "(LBlowOwed$Debts;)I"⟩, 2), (⟨"BlowOwed$Ledger", "sumOf", "(ILBlowOwed$Debts;)I"⟩, 2), (⟨"BlowOwed$Ledger", "shortestRing", "(LBlowOwed$Debts;)I"⟩, 2), (⟨"BlowOwed$Ledger", "ringThrough", "(I)I"⟩, 2), (⟨"BlowOwed$Ledger", "nextOf", "(I)I"⟩, 2), (⟨"BlowOwed$Sights", "add", "(II)V"⟩, 3), (⟨"BlowOwed$Scars", "fit", "(LBlowOwed$Court;)V"⟩, 4), (⟨"BlowOwed$Scars", "addStriker", "(LBlowOwed$Court;I)V"⟩, 4)]
theorem lw_r4 : ∀ q ∈ lw_privs_4, lw_okq q := List.forall_mem_cons.mpr ⟨lw_p48, List.forall_mem_cons.mpr ⟨lw_p49, List.forall_mem_cons.mpr ⟨lw_p50, List.forall_mem_cons.mpr ⟨lw_p51, List.forall_mem_cons.mpr ⟨lw_p52, List.forall_mem_cons.mpr ⟨lw_p53, List.forall_mem_cons.mpr ⟨lw_p54, List.forall_mem_cons.mpr ⟨lw_p55, List.forall_mem_cons.mpr ⟨lw_p56, List.forall_mem_cons.mpr ⟨lw_p57, List.forall_mem_cons.mpr ⟨lw_p58, List.forall_mem_cons.mpr ⟨lw_p59, List.forall_mem_cons.mpr ⟨lw_p60, List.forall_mem_cons.mpr ⟨lw_p61, List.forall_mem_cons.mpr ⟨lw_p62, List.forall_mem_cons.mpr ⟨lw_p63, fun _ h => absurd h List.not_mem_nil⟩⟩⟩⟩⟩⟩⟩⟩⟩⟩⟩⟩⟩⟩⟩⟩
theorem lw_p64 : lw_okq (⟨"BlowOwed$Trial", "draw", "(LBlowOwed$Court;II)V"⟩, 5) := ⟨⟨by decide +kernel, by decide +kernel⟩, List.mem_of_getElem? (i := 224) (by decide +kernel), List.mem_of_getElem? (i := 804) (by decide +kernel), List.mem_of_getElem? (i := 805) (by decide +kernel)⟩
theorem lw_p65 : lw_okq (⟨"BlowOwed$Court", "sumHonour", "()I"⟩, 6) := ⟨⟨by decide +kernel, by decide +kernel⟩, List.mem_of_getElem? (i := 43) (by decide +kernel), List.mem_of_getElem? (i := 809) (by decide +kernel), List.mem_of_getElem? (i := 810) (by decide +kernel)⟩
theorem lw_p66 : lw_okq (⟨"BlowOwed$Court", "countDead", "()I"⟩, 6) := ⟨⟨by decide +kernel, by decide +kernel⟩, List.mem_of_getElem? (i := 43) (by decide +kernel), List.mem_of_getElem? (i := 813) (by decide +kernel), List.mem_of_getElem? (i := 814) (by decide +kernel)⟩
theorem lw_p67 : lw_okq (⟨"BlowOwed", "toldOfKnight", "(I)I"⟩, 7) := ⟨⟨by decide +kernel, by decide +kernel⟩, List.mem_of_getElem? (i := 19) (by decide +kernel), List.mem_of_getElem? (i := 830) (by decide +kernel), List.mem_of_getElem? (i := 831) (by decide +kernel)⟩
theorem lw_p68 : lw_okq (⟨"BlowOwed", "toldOfRoad", "(I)I"⟩, 7) := ⟨⟨by decide +kernel, by decide +kernel⟩, List.mem_of_getElem? (i := 19) (by decide +kernel), List.mem_of_getElem? (i := 834) (by decide +kernel), List.mem_of_getElem? (i := 835) (by decide +kernel)⟩
theorem lw_p69 : lw_okq (⟨"BlowOwedModel", "isChapel", "(I)Z"⟩, 32) := ⟨⟨by decide +kernel, by decide +kernel⟩, List.mem_of_getElem? (i := 838) (by decide +kernel), List.mem_of_getElem? (i := 953) (by decide +kernel), List.mem_of_getElem? (i := 954) (by decide +kernel)⟩
theorem lw_p70 : lw_okq (⟨"BlowOwedModel", "isThere", "(I)Z"⟩, 32) := ⟨⟨by decide +kernel, by decide +kernel⟩, List.mem_of_getElem? (i := 838) (by decide +kernel), List.mem_of_getElem? (i := 965) (by decide +kernel), List.mem_of_getElem? (i := 966) (by decide +kernel)⟩
theorem lw_p71 : lw_okq (⟨"BlowOwedModel", "faultOf", "()I"⟩, 32) := ⟨⟨by decide +kernel, by decide +kernel⟩, List.mem_of_getElem? (i := 838) (by decide +kernel), List.mem_of_getElem? (i := 991) (by decide +kernel), List.mem_of_getElem? (i := 992) (by decide +kernel)⟩
theorem lw_p72 : lw_okq (⟨"BlowOwedModel", "goCourt", "()I"⟩, 32) := ⟨⟨by decide +kernel, by decide +kernel⟩, List.mem_of_getElem? (i := 838) (by decide +kernel), List.mem_of_getElem? (i := 1002) (by decide +kernel), List.mem_of_getElem? (i := 1003) (by decide +kernel)⟩
theorem lw_p73 : lw_okq (⟨"BlowOwedModel", "asNow", "()V"⟩, 32) := ⟨⟨by decide +kernel, by decide +kernel⟩, List.mem_of_getElem? (i := 838) (by decide +kernel), List.mem_of_getElem? (i := 1006) (by decide +kernel), List.mem_of_getElem? (i := 1007) (by decide +kernel)⟩
theorem lw_p74 : lw_okq (⟨"BlowOwedModel", "pass", "(I)V"⟩, 32) := ⟨⟨by decide +kernel, by decide +kernel⟩, List.mem_of_getElem? (i := 838) (by decide +kernel), List.mem_of_getElem? (i := 1010) (by decide +kernel), List.mem_of_getElem? (i := 1011) (by decide +kernel)⟩
theorem lw_p75 : lw_okq (⟨"BlowOwedModel", "forgive", "(I)V"⟩, 32) := ⟨⟨by decide +kernel, by decide +kernel⟩, List.mem_of_getElem? (i := 838) (by decide +kernel), List.mem_of_getElem? (i := 1014) (by decide +kernel), List.mem_of_getElem? (i := 1015) (by decide +kernel)⟩
theorem lw_p76 : lw_okq (⟨"BlowOwedModel", "whyNotStrike", "(III)I"⟩, 32) := ⟨⟨by decide +kernel, by decide +kernel⟩, List.mem_of_getElem? (i := 838) (by decide +kernel), List.mem_of_getElem? (i := 1018) (by decide +kernel), List.mem_of_getElem? (i := 1019) (by decide +kernel)⟩
theorem lw_p77 : lw_okq (⟨"BlowOwedModel", "isAlive", "(I)Z"⟩, 32) := ⟨⟨by decide +kernel, by decide +kernel⟩, List.mem_of_getElem? (i := 838) (by decide +kernel), List.mem_of_getElem? (i := 1022) (by decide +kernel), List.mem_of_getElem? (i := 1023) (by decide +kernel)⟩
theorem lw_p78 : lw_okq (⟨"BlowOwedModel", "hit", "(III)V"⟩, 32) := ⟨⟨by decide +kernel, by decide +kernel⟩, List.mem_of_getElem? (i := 838) (by decide +kernel), List.mem_of_getElem? (i := 1026) (by decide +kernel), List.mem_of_getElem? (i := 1027) (by decide +kernel)⟩
theorem lw_p79 : lw_okq (⟨"BlowOwedModel", "strike", "(II)V"⟩, 32) := ⟨⟨by decide +kernel, by decide +kernel⟩, List.mem_of_getElem? (i := 838) (by decide +kernel), List.mem_of_getElem? (i := 1030) (by decide +kernel), List.mem_of_getElem? (i := 1031) (by decide +kernel)⟩
def lw_privs_5 : List (MethodName × Nat) := [(⟨"BlowOwed$Trial", "draw", "(LBlowOwed$Court;II)V"⟩, 5), (⟨"BlowOwed$Court", "sumHonour", "()I"⟩, 6), (⟨"BlowOwed$Court", "countDead", "()I"⟩, 6), (⟨"BlowOwed", "toldOfKnight", "(I)I"⟩, 7), (⟨"BlowOwed", "toldOfRoad", "(I)I"⟩, 7), (⟨"BlowOwedModel", "isChapel", "(I)Z"⟩, 32), (⟨"BlowOwedModel", "isThere", "(I)Z"⟩, 32), (⟨"BlowOwedModel", "faultOf", "()I"⟩, 32), (⟨"BlowOwedModel", "goCourt", "()I"⟩, 32), (⟨"BlowOwedModel", "asNow", "()V"⟩, 32), (⟨"BlowOwedModel", "pass", "(I)V"⟩, 32), (⟨"BlowOwedModel", "forgive", "(I)V"⟩, 32), (⟨"BlowOwedModel", "whyNotStrike", "(III)I"⟩, 32), (⟨"BlowOwedModel", "isAlive", "(I)Z"⟩, 32), (⟨"BlowOwedModel", "hit", "(III)V"⟩, 32), (⟨"BlowOwedModel", "strike", "(II)V"⟩, 32)]
theorem lw_r5 : ∀ q ∈ lw_privs_5, lw_okq q := List.forall_mem_cons.mpr ⟨lw_p64, List.forall_mem_cons.mpr ⟨lw_p65, List.forall_mem_cons.mpr ⟨lw_p66, List.forall_mem_cons.mpr ⟨lw_p67, List.forall_mem_cons.mpr ⟨lw_p68, List.forall_mem_cons.mpr ⟨lw_p69, List.forall_mem_cons.mpr ⟨lw_p70, List.forall_mem_cons.mpr ⟨lw_p71, List.forall_mem_cons.mpr ⟨lw_p72, List.forall_mem_cons.mpr ⟨lw_p73, List.forall_mem_cons.mpr ⟨lw_p74, List.forall_mem_cons.mpr ⟨lw_p75, List.forall_mem_cons.mpr ⟨lw_p76, List.forall_mem_cons.mpr ⟨lw_p77, List.forall_mem_cons.mpr ⟨lw_p78, List.forall_mem_cons.mpr ⟨lw_p79, fun _ h => absurd h List.not_mem_nil⟩⟩⟩⟩⟩⟩⟩⟩⟩⟩⟩⟩⟩⟩⟩⟩
theorem lw_p80 : lw_okq (⟨"BlowOwedModel", "whyNot", "(II)I"⟩, 32) := ⟨⟨by decide +kernel, by decide +kernel⟩, List.mem_of_getElem? (i := 838) (by decide +kernel), List.mem_of_getElem? (i := 1034) (by decide +kernel), List.mem_of_getElem? (i := 1035) (by decide +kernel)⟩
theorem lw_p81 : lw_okq (⟨"BlowOwedModel", "isOwed", "(II)Z"⟩, 32) := ⟨⟨by decide +kernel, by decide +kernel⟩, List.mem_of_getElem? (i := 838) (by decide +kernel), List.mem_of_getElem? (i := 1038) (by decide +kernel), List.mem_of_getElem? (i := 1039) (by decide +kernel)⟩
theorem lw_p82 : lw_okq (⟨"BlowOwedModel", "owesHere", "(II)Z"⟩, 32) := ⟨⟨by decide +kernel, by decide +kernel⟩, List.mem_of_getElem? (i := 838) (by decide +kernel), List.mem_of_getElem? (i := 1042) (by decide +kernel), List.mem_of_getElem? (i := 1043) (by decide +kernel)⟩
theorem lw_p83 : lw_okq (⟨"BlowOwedModel", "act", "(II)V"⟩, 32) := ⟨⟨by decide +kernel, by decide +kernel⟩, List.mem_of_getElem? (i := 838) (by decide +kernel), List.mem_of_getElem? (i := 1046) (by decide +kernel), List.mem_of_getElem? (i := 1047) (by decide +kernel)⟩
theorem lw_p84 : lw_okq (⟨"BlowOwedModel", "giveBack", "(I)V"⟩, 32) := ⟨⟨by decide +kernel, by decide +kernel⟩, List.mem_of_getElem? (i := 838) (by decide +kernel), List.mem_of_getElem? (i := 1050) (by decide +kernel), List.mem_of_getElem? (i := 1051) (by decide +kernel)⟩
theorem lw_p85 : lw_okq (⟨"BlowOwedModel", "barOfCourt", "()I"⟩, 32) := ⟨⟨by decide +kernel, by decide +kernel⟩, List.mem_of_getElem? (i := 838) (by decide +kernel), List.mem_of_getElem? (i := 1058) (by decide +kernel), List.mem_of_getElem? (i := 1059) (by decide +kernel)⟩
theorem lw_p86 : lw_okq (⟨"BlowOwedModel", "keep", "()V"⟩, 32) := ⟨⟨by decide +kernel, by decide +kernel⟩, List.mem_of_getElem? (i := 838) (by decide +kernel), List.mem_of_getElem? (i := 1062) (by decide +kernel), List.mem_of_getElem? (i := 1063) (by decide +kernel)⟩
theorem lw_p87 : lw_okq (⟨"BlowOwedModel", "stateNow", "(II)I"⟩, 32) := ⟨⟨by decide +kernel, by decide +kernel⟩, List.mem_of_getElem? (i := 838) (by decide +kernel), List.mem_of_getElem? (i := 1070) (by decide +kernel), List.mem_of_getElem? (i := 1071) (by decide +kernel)⟩
theorem lw_p88 : lw_okq (⟨"BlowOwedModel", "isWell", "(I)Z"⟩, 32) := ⟨⟨by decide +kernel, by decide +kernel⟩, List.mem_of_getElem? (i := 838) (by decide +kernel), List.mem_of_getElem? (i := 1086) (by decide +kernel), List.mem_of_getElem? (i := 1087) (by decide +kernel)⟩
theorem lw_p89 : lw_okq (⟨"BlowOwedModel", "layJourneys", "(II)V"⟩, 32) := ⟨⟨by decide +kernel, by decide +kernel⟩, List.mem_of_getElem? (i := 838) (by decide +kernel), List.mem_of_getElem? (i := 1090) (by decide +kernel), List.mem_of_getElem? (i := 1091) (by decide +kernel)⟩
theorem lw_p90 : lw_okq (⟨"BlowOwedModel", "arrival", "(II)I"⟩, 32) := ⟨⟨by decide +kernel, by decide +kernel⟩, List.mem_of_getElem? (i := 838) (by decide +kernel), List.mem_of_getElem? (i := 1095) (by decide +kernel), List.mem_of_getElem? (i := 1096) (by decide +kernel)⟩
theorem lw_p91 : lw_okq (⟨"BlowOwedModel", "canMeet", "(II)Z"⟩, 32) := ⟨⟨by decide +kernel, by decide +kernel⟩, List.mem_of_getElem? (i := 838) (by decide +kernel), List.mem_of_getElem? (i := 1107) (by decide +kernel), List.mem_of_getElem? (i := 1108) (by decide +kernel)⟩
theorem lw_p92 : lw_okq (⟨"BlowOwedModel", "layBalance", "()V"⟩, 32) := ⟨⟨by decide +kernel, by decide +kernel⟩, List.mem_of_getElem? (i := 838) (by decide +kernel), List.mem_of_getElem? (i := 1120) (by decide +kernel), List.mem_of_getElem? (i := 1121) (by decide +kernel)⟩
theorem lw_p93 : lw_okq (⟨"BlowOwedModel", "sumOf", "(I)I"⟩, 32) := ⟨⟨by decide +kernel, by decide +kernel⟩, List.mem_of_getElem? (i := 838) (by decide +kernel), List.mem_of_getElem? (i := 1124) (by decide +kernel), List.mem_of_getElem? (i := 1125) (by decide +kernel)⟩
theorem lw_p94 : lw_okq (⟨"BlowOwedModel", "owes", "(II)Z"⟩, 32) := ⟨⟨by decide +kernel, by decide +kernel⟩, List.mem_of_getElem? (i := 838) (by decide +kernel), List.mem_of_getElem? (i := 1132) (by decide +kernel), List.mem_of_getElem? (i := 1133) (by decide +kernel)⟩
theorem lw_p95 : lw_okq (⟨"BlowOwedModel", "hosted", "(III)J"⟩, 32) := ⟨⟨by decide +kernel, by decide +kernel⟩, List.mem_of_getElem? (i := 838) (by decide +kernel), List.mem_of_getElem? (i := 1146) (by decide +kernel), List.mem_of_getElem? (i := 1147) (by decide +kernel)⟩
def lw_privs_6 : List (MethodName × Nat) := [(⟨"BlowOwedModel", "whyNot", "(II)I"⟩, 32), (⟨"BlowOwedModel", "isOwed", "(II)Z"⟩, 32), (⟨"BlowOwedModel", "owesHere", "(II)Z"⟩, 32), (⟨"BlowOwedModel", "act", "(II)V"⟩, 32), (⟨"BlowOwedModel", "giveBack", "(I)V"⟩, 32), (⟨"BlowOwedModel", "barOfCourt", "()I"⟩, 32), (⟨"BlowOwedModel", "keep", "()V"⟩, 32), (⟨"BlowOwedModel", "stateNow", "(II)I"⟩, 32), (⟨"BlowOwedModel", "isWell", "(I)Z"⟩, 32), (⟨"BlowOwedModel", "layJourneys", "(II)V"⟩, 32), (⟨"BlowOwedModel", "arrival", "(II)I"⟩, 32), (⟨"BlowOwedModel", "canMeet", "(II)Z"⟩, 32), (⟨"BlowOwedModel", "layBalance", "()V"⟩, 32), (⟨"BlowOwedModel", "sumOf", "(I)I"⟩, 32), (⟨"BlowOwedModel", "owes", "(II)Z"⟩, 32), (⟨"BlowOwedModel", "hosted", "(III)J"⟩, 32)]
theorem lw_r6 : ∀ q ∈ lw_privs_6, lw_okq q := List.forall_mem_cons.mpr ⟨lw_p80, List.forall_mem_cons.mpr ⟨lw_p81, List.forall_mem_cons.mpr ⟨lw_p82, List.forall_mem_cons.mpr ⟨lw_p83, List.forall_mem_cons.mpr ⟨lw_p84, List.forall_mem_cons.mpr ⟨lw_p85, List.forall_mem_cons.mpr ⟨lw_p86, List.forall_mem_cons.mpr ⟨lw_p87, List.forall_mem_cons.mpr ⟨lw_p88, List.forall_mem_cons.mpr ⟨lw_p89, List.forall_mem_cons.mpr ⟨lw_p90, List.forall_mem_cons.mpr ⟨lw_p91, List.forall_mem_cons.mpr ⟨lw_p92, List.forall_mem_cons.mpr ⟨lw_p93, List.forall_mem_cons.mpr ⟨lw_p94, List.forall_mem_cons.mpr ⟨lw_p95, fun _ h => absurd h List.not_mem_nil⟩⟩⟩⟩⟩⟩⟩⟩⟩⟩⟩⟩⟩⟩⟩⟩
def lw_privs : List (MethodName × Nat) := lw_privs_1 ++ (lw_privs_2 ++ (lw_privs_3 ++ (lw_privs_4 ++ (lw_privs_5 ++ (lw_privs_6)))))
def lw_tbl : List Cond := k2_sels lw_privs ++ tables_1
theorem lw_privs_ok : ∀ q ∈ lw_privs, lw_okq q := by
  show ∀ q ∈ lw_privs_1 ++ (lw_privs_2 ++ (lw_privs_3 ++ (lw_privs_4 ++ (lw_privs_5 ++ (lw_privs_6))))), lw_okq q
  exact List.forall_mem_append.mpr ⟨lw_r1, List.forall_mem_append.mpr ⟨lw_r2, List.forall_mem_append.mpr ⟨lw_r3, List.forall_mem_append.mpr ⟨lw_r4, List.forall_mem_append.mpr ⟨lw_r5, lw_r6⟩⟩⟩⟩⟩
end
section
def RX0 : String := "BlowOwed$Court"
def TX0 : u_T := fun k => match k with
  | 0 => ("BlowOwed$Court", "land", "LBlowOwed$Land;", true)
  | 1 => ("BlowOwed$Court", "knights", "[LBlowOwed$Knight;", true)
  | 2 => ("BlowOwed$Court", "debts", "LBlowOwed$Debts;", true)
  | 3 => ("BlowOwed$Court", "sights", "LBlowOwed$Sights;", true)
  | 4 => ("BlowOwed$Court", "nobody", "LBlowOwed$Knight;", true)
  | _ => ("BlowOwed$Court", "day", "I", false)
def tyX0 : Nat → FieldType := fun k => match k with
  | 0 => .object "BlowOwed$Land"
  | 1 => .array (.object "BlowOwed$Knight")
  | 2 => .object "BlowOwed$Debts"
  | 3 => .object "BlowOwed$Sights"
  | 4 => .object "BlowOwed$Knight"
  | _ => .int
abbrev wsX00 : List Cond := u_ws RX0 TX0 6
theorem nmX0 : ∀ a, a < 6 → ∀ b, b < 6 → a ≠ b → (TX0 a).2.1 ≠ (TX0 b).2.1 := by decide +kernel
theorem tyX0_ok : ∀ k, k < 6 → parseFieldDescriptor (TX0 k).2.2.1 = some (tyX0 k) := by decide +kernel
abbrev cX0_init : ByteArray := prog_2_method_1_code
def yX0_init : MethodName := ⟨RX0, "<init>", "()V"⟩
abbrev cX0_copy : ByteArray := prog_2_method_2_code
def yX0_copy : MethodName := ⟨RX0, "copy", "(LBlowOwed$Court;)V"⟩
abbrev cX0_beginAnew : ByteArray := prog_2_method_3_code
def yX0_beginAnew : MethodName := ⟨RX0, "beginAnew", "(I)V"⟩
abbrev cX0_knightAt : ByteArray := prog_2_method_4_code
def yX0_knightAt : MethodName := ⟨RX0, "knightAt", "(I)LBlowOwed$Knight;"⟩
abbrev cX0_knightBits : ByteArray := prog_2_method_5_code
def yX0_knightBits : MethodName := ⟨RX0, "knightBits", "()I"⟩
abbrev cX0_countKnights : ByteArray := prog_2_method_6_code
def yX0_countKnights : MethodName := ⟨RX0, "countKnights", "()I"⟩
abbrev cX0_countDead : ByteArray := prog_2_method_7_code
def yX0_countDead : MethodName := ⟨RX0, "countDead", "()I"⟩
abbrev cX0_sumHonour : ByteArray := prog_2_method_8_code
def yX0_sumHonour : MethodName := ⟨RX0, "sumHonour", "()I"⟩
abbrev cX0_tryStrike : ByteArray := prog_2_method_9_code
def yX0_tryStrike : MethodName := ⟨RX0, "tryStrike", "(III)I"⟩
abbrev cX0_trySetOut : ByteArray := prog_2_method_10_code
def yX0_trySetOut : MethodName := ⟨RX0, "trySetOut", "(II)I"⟩
abbrev cX0_tryGiveBack : ByteArray := prog_2_method_11_code
def yX0_tryGiveBack : MethodName := ⟨RX0, "tryGiveBack", "(I)I"⟩
abbrev cX0_giveBackOne : ByteArray := prog_2_method_12_code
def yX0_giveBackOne : MethodName := ⟨RX0, "giveBackOne", "(LBlowOwed$Knight;I)V"⟩
abbrev cX0_tryFlinch : ByteArray := prog_2_method_13_code
def yX0_tryFlinch : MethodName := ⟨RX0, "tryFlinch", "(I)I"⟩
abbrev cX0_tryRemit : ByteArray := prog_2_method_14_code
def yX0_tryRemit : MethodName := ⟨RX0, "tryRemit", "(I)I"⟩
abbrev cX0_whyNotActing : ByteArray := prog_2_method_15_code
def yX0_whyNotActing : MethodName := ⟨RX0, "whyNotActing", "(I)I"⟩
abbrev cX0_wound : ByteArray := prog_2_method_16_code
def yX0_wound : MethodName := ⟨RX0, "wound", "(II)V"⟩
abbrev cX0_passDays : ByteArray := prog_2_method_17_code
def yX0_passDays : MethodName := ⟨RX0, "passDays", "(I)V"⟩
def RX1 : String := "BlowOwed$Debt"
def TX1 : u_T := fun k => match k with
  | 0 => ("BlowOwed$Debt", "striker", "I", false)
  | 1 => ("BlowOwed$Debt", "struck", "I", false)
  | 2 => ("BlowOwed$Debt", "much", "I", false)
  | 3 => ("BlowOwed$Debt", "day", "I", false)
  | _ => ("BlowOwed$Debt", "isGone", "Z", false)
def tyX1 : Nat → FieldType := fun k => match k with
  | 0 => .int
  | 1 => .int
  | 2 => .int
  | 3 => .int
  | _ => .boolean
abbrev wsX10 : List Cond := u_ws RX1 TX1 5
theorem nmX1 : ∀ a, a < 5 → ∀ b, b < 5 → a ≠ b → (TX1 a).2.1 ≠ (TX1 b).2.1 := by decide +kernel
theorem tyX1_ok : ∀ k, k < 5 → parseFieldDescriptor (TX1 k).2.2.1 = some (tyX1 k) := by decide +kernel
abbrev cX1_init : ByteArray := prog_3_method_1_code
def yX1_init : MethodName := ⟨RX1, "<init>", "()V"⟩
abbrev cX1_set : ByteArray := prog_3_method_2_code
def yX1_set : MethodName := ⟨RX1, "set", "(IIII)V"⟩
abbrev cX1_tell : ByteArray := prog_3_method_3_code
def yX1_tell : MethodName := ⟨RX1, "tell", "(I)I"⟩
def RX2 : String := "BlowOwed$Debts"
def TX2 : u_T := fun k => match k with
  | 0 => ("BlowOwed$Debts", "count", "I", false)
  | _ => ("BlowOwed$Debts", "rows", "[LBlowOwed$Debt;", true)
def tyX2 : Nat → FieldType := fun k => match k with
  | 0 => .int
  | _ => .array (.object "BlowOwed$Debt")
abbrev wsX20 : List Cond := u_ws RX2 TX2 2
theorem nmX2 : ∀ a, a < 2 → ∀ b, b < 2 → a ≠ b → (TX2 a).2.1 ≠ (TX2 b).2.1 := by decide +kernel
theorem tyX2_ok : ∀ k, k < 2 → parseFieldDescriptor (TX2 k).2.2.1 = some (tyX2 k) := by decide +kernel
abbrev cX2_init : ByteArray := prog_4_method_1_code
def yX2_init : MethodName := ⟨RX2, "<init>", "()V"⟩
abbrev cX2_copy : ByteArray := prog_4_method_2_code
def yX2_copy : MethodName := ⟨RX2, "copy", "(LBlowOwed$Debts;)V"⟩
abbrev cX2_has : ByteArray := prog_4_method_3_code
def yX2_has : MethodName := ⟨RX2, "has", "(I)Z"⟩
abbrev cX2_add : ByteArray := prog_4_method_4_code
def yX2_add : MethodName := ⟨RX2, "add", "(IIII)V"⟩
abbrev cX2_endAllOf : ByteArray := prog_4_method_5_code
def yX2_endAllOf : MethodName := ⟨RX2, "endAllOf", "(I)V"⟩
abbrev cX2_inherit : ByteArray := prog_4_method_6_code
def yX2_inherit : MethodName := ⟨RX2, "inherit", "(II)V"⟩
abbrev cX2_sweep : ByteArray := prog_4_method_7_code
def yX2_sweep : MethodName := ⟨RX2, "sweep", "()V"⟩
abbrev cX2_findDueTo : ByteArray := prog_4_method_8_code
def yX2_findDueTo : MethodName := ⟨RX2, "findDueTo", "(II)I"⟩
abbrev cX2_countOwedBy : ByteArray := prog_4_method_9_code
def yX2_countOwedBy : MethodName := ⟨RX2, "countOwedBy", "(I)I"⟩
def RX3 : String := "BlowOwed$Journeys"
def TX3 : u_T := fun k => match k with
  | 0 => ("BlowOwed$Journeys", "first", "[I", true)
  | 1 => ("BlowOwed$Journeys", "onward", "[I", true)
  | _ => ("BlowOwed$Journeys", "most", "[I", true)
def tyX3 : Nat → FieldType := fun k => match k with
  | 0 => .array .int
  | 1 => .array .int
  | _ => .array .int
abbrev wsX30 : List Cond := u_ws RX3 TX3 3
theorem nmX3 : ∀ a, a < 3 → ∀ b, b < 3 → a ≠ b → (TX3 a).2.1 ≠ (TX3 b).2.1 := by decide +kernel
theorem tyX3_ok : ∀ k, k < 3 → parseFieldDescriptor (TX3 k).2.2.1 = some (tyX3 k) := by decide +kernel
abbrev cX3_init : ByteArray := prog_5_method_1_code
def yX3_init : MethodName := ⟨RX3, "<init>", "()V"⟩
abbrev cX3_firstDay : ByteArray := prog_5_method_2_code
def yX3_firstDay : MethodName := ⟨RX3, "firstDay", "(LBlowOwed$Court;II)I"⟩
abbrev cX3_metAlone : ByteArray := prog_5_method_3_code
def yX3_metAlone : MethodName := ⟨RX3, "metAlone", "(LBlowOwed$Court;I)I"⟩
abbrev cX3_mostMet : ByteArray := prog_5_method_4_code
def yX3_mostMet : MethodName := ⟨RX3, "mostMet", "(LBlowOwed$Court;I)I"⟩
abbrev cX3_lengthen : ByteArray := prog_5_method_5_code
def yX3_lengthen : MethodName := ⟨RX3, "lengthen", "(LBlowOwed$Court;II)V"⟩
abbrev cX3_findBarred : ByteArray := prog_5_method_6_code
def yX3_findBarred : MethodName := ⟨RX3, "findBarred", "(LBlowOwed$Court;I)I"⟩
abbrev cX3_setOff : ByteArray := prog_5_method_7_code
def yX3_setOff : MethodName := ⟨RX3, "setOff", "(LBlowOwed$Court;I)V"⟩
abbrev cX3_goOnFrom : ByteArray := prog_5_method_8_code
def yX3_goOnFrom : MethodName := ⟨RX3, "goOnFrom", "(LBlowOwed$Court;I)V"⟩
abbrev cX3_isMet : ByteArray := prog_5_method_9_code
def yX3_isMet : MethodName := ⟨RX3, "isMet", "(LBlowOwed$Court;II[I)Z"⟩
abbrev cX3_dayAt : ByteArray := prog_5_method_10_code
def yX3_dayAt : MethodName := ⟨RX3, "dayAt", "([II)I"⟩
def RX4 : String := "BlowOwed$Knight"
def TX4 : u_T := fun k => match k with
  | 0 => ("BlowOwed$Knight", "isThere", "Z", false)
  | 1 => ("BlowOwed$Knight", "own", "I", false)
  | 2 => ("BlowOwed$Knight", "strength", "I", false)
  | 3 => ("BlowOwed$Knight", "bears", "I", false)
  | 4 => ("BlowOwed$Knight", "honour", "I", false)
  | 5 => ("BlowOwed$Knight", "place", "I", false)
  | _ => ("BlowOwed$Knight", "toGo", "I", false)
def tyX4 : Nat → FieldType := fun k => match k with
  | 0 => .boolean
  | 1 => .int
  | 2 => .int
  | 3 => .int
  | 4 => .int
  | 5 => .int
  | _ => .int
abbrev wsX40 : List Cond := u_ws RX4 TX4 7
theorem nmX4 : ∀ a, a < 7 → ∀ b, b < 7 → a ≠ b → (TX4 a).2.1 ≠ (TX4 b).2.1 := by decide +kernel
theorem tyX4_ok : ∀ k, k < 7 → parseFieldDescriptor (TX4 k).2.2.1 = some (tyX4 k) := by decide +kernel
abbrev cX4_init : ByteArray := prog_6_method_1_code
def yX4_init : MethodName := ⟨RX4, "<init>", "()V"⟩
abbrev cX4_come : ByteArray := prog_6_method_2_code
def yX4_come : MethodName := ⟨RX4, "come", "(IIII)V"⟩
abbrev cX4_leave : ByteArray := prog_6_method_3_code
def yX4_leave : MethodName := ⟨RX4, "leave", "()V"⟩
abbrev cX4_copy : ByteArray := prog_6_method_4_code
def yX4_copy : MethodName := ⟨RX4, "copy", "(LBlowOwed$Knight;)V"⟩
abbrev cX4_isAlive : ByteArray := prog_6_method_5_code
def yX4_isAlive : MethodName := ⟨RX4, "isAlive", "()Z"⟩
abbrev cX4_isDead : ByteArray := prog_6_method_6_code
def yX4_isDead : MethodName := ⟨RX4, "isDead", "()Z"⟩
abbrev cX4_isIn : ByteArray := prog_6_method_7_code
def yX4_isIn : MethodName := ⟨RX4, "isIn", "(I)Z"⟩
abbrev cX4_tell : ByteArray := prog_6_method_8_code
def yX4_tell : MethodName := ⟨RX4, "tell", "(I)I"⟩
def RX5 : String := "BlowOwed$Land"
def TX5 : u_T := fun k => match k with
  | 0 => ("BlowOwed$Land", "chapels", "I", false)
  | 1 => ("BlowOwed$Land", "yearDays", "I", false)
  | _ => ("BlowOwed$Land", "roads", "[I", true)
def tyX5 : Nat → FieldType := fun k => match k with
  | 0 => .int
  | 1 => .int
  | _ => .array .int
abbrev wsX50 : List Cond := u_ws RX5 TX5 3
theorem nmX5 : ∀ a, a < 3 → ∀ b, b < 3 → a ≠ b → (TX5 a).2.1 ≠ (TX5 b).2.1 := by decide +kernel
theorem tyX5_ok : ∀ k, k < 3 → parseFieldDescriptor (TX5 k).2.2.1 = some (tyX5 k) := by decide +kernel
abbrev cX5_init : ByteArray := prog_7_method_1_code
def yX5_init : MethodName := ⟨RX5, "<init>", "()V"⟩
abbrev cX5_copy : ByteArray := prog_7_method_2_code
def yX5_copy : MethodName := ⟨RX5, "copy", "(LBlowOwed$Land;)V"⟩
abbrev cX5_hasChapel : ByteArray := prog_7_method_3_code
def yX5_hasChapel : MethodName := ⟨RX5, "hasChapel", "(I)Z"⟩
abbrev cX5_roadDays : ByteArray := prog_7_method_4_code
def yX5_roadDays : MethodName := ⟨RX5, "roadDays", "(II)I"⟩
abbrev cX5_layRoad : ByteArray := prog_7_method_5_code
def yX5_layRoad : MethodName := ⟨RX5, "layRoad", "(III)V"⟩
abbrev cX5_isWinter : ByteArray := prog_7_method_6_code
def yX5_isWinter : MethodName := ⟨RX5, "isWinter", "(I)Z"⟩
abbrev cX5_daysUnderWay : ByteArray := prog_7_method_7_code
def yX5_daysUnderWay : MethodName := ⟨RX5, "daysUnderWay", "(III)I"⟩
abbrev cX5_firstAcross : ByteArray := prog_7_method_8_code
def yX5_firstAcross : MethodName := ⟨RX5, "firstAcross", "(III)I"⟩
abbrev cX5_fillFirstDays : ByteArray := prog_7_method_9_code
def yX5_fillFirstDays : MethodName := ⟨RX5, "fillFirstDays", "(II[I)V"⟩
def RX6 : String := "BlowOwed$Ledger"
def TX6 : u_T := fun k => match k with
  | 0 => ("BlowOwed$Ledger", "groups", "[I", true)
  | _ => ("BlowOwed$Ledger", "owes", "[I", true)
def tyX6 : Nat → FieldType := fun k => match k with
  | 0 => .array .int
  | _ => .array .int
abbrev wsX60 : List Cond := u_ws RX6 TX6 2
theorem nmX6 : ∀ a, a < 2 → ∀ b, b < 2 → a ≠ b → (TX6 a).2.1 ≠ (TX6 b).2.1 := by decide +kernel
theorem tyX6_ok : ∀ k, k < 2 → parseFieldDescriptor (TX6 k).2.2.1 = some (tyX6 k) := by decide +kernel
abbrev cX6_init : ByteArray := prog_8_method_1_code
def yX6_init : MethodName := ⟨RX6, "<init>", "()V"⟩
abbrev cX6_fewestPayments : ByteArray := prog_8_method_2_code
def yX6_fewestPayments : MethodName := ⟨RX6, "fewestPayments", "(LBlowOwed$Debts;)I"⟩
abbrev cX6_sumOf : ByteArray := prog_8_method_3_code
def yX6_sumOf : MethodName := ⟨RX6, "sumOf", "(ILBlowOwed$Debts;)I"⟩
abbrev cX6_shortestRing : ByteArray := prog_8_method_4_code
def yX6_shortestRing : MethodName := ⟨RX6, "shortestRing", "(LBlowOwed$Debts;)I"⟩
abbrev cX6_ringThrough : ByteArray := prog_8_method_5_code
def yX6_ringThrough : MethodName := ⟨RX6, "ringThrough", "(I)I"⟩
abbrev cX6_nextOf : ByteArray := prog_8_method_6_code
def yX6_nextOf : MethodName := ⟨RX6, "nextOf", "(I)I"⟩
def RX7 : String := "BlowOwed$Pad"
def TX7 : u_T := fun k => match k with
  | 0 => ("BlowOwed$Pad", "count", "I", false)
  | _ => ("BlowOwed$Pad", "signs", "[I", true)
def tyX7 : Nat → FieldType := fun k => match k with
  | 0 => .int
  | _ => .array .int
abbrev wsX70 : List Cond := u_ws RX7 TX7 2
theorem nmX7 : ∀ a, a < 2 → ∀ b, b < 2 → a ≠ b → (TX7 a).2.1 ≠ (TX7 b).2.1 := by decide +kernel
theorem tyX7_ok : ∀ k, k < 2 → parseFieldDescriptor (TX7 k).2.2.1 = some (tyX7 k) := by decide +kernel
abbrev cX7_init : ByteArray := prog_9_method_1_code
def yX7_init : MethodName := ⟨RX7, "<init>", "()V"⟩
abbrev cX7_add : ByteArray := prog_9_method_2_code
def yX7_add : MethodName := ⟨RX7, "add", "(I)V"⟩
abbrev cX7_signAt : ByteArray := prog_9_method_3_code
def yX7_signAt : MethodName := ⟨RX7, "signAt", "(I)I"⟩
abbrev cX7_numberAt : ByteArray := prog_9_method_4_code
def yX7_numberAt : MethodName := ⟨RX7, "numberAt", "(I)I"⟩
abbrev cX7_findFault : ByteArray := prog_9_method_5_code
def yX7_findFault : MethodName := ⟨RX7, "findFault", "(I)I"⟩
abbrev cX7_signsOfAct : ByteArray := prog_9_method_6_code
def yX7_signsOfAct : MethodName := ⟨RX7, "signsOfAct", "(I)I"⟩
abbrev cX7_countGood : ByteArray := prog_9_method_7_code
def yX7_countGood : MethodName := ⟨RX7, "countGood", "(II)I"⟩
abbrev cX7_countGoodDigits : ByteArray := prog_9_method_8_code
def yX7_countGoodDigits : MethodName := ⟨RX7, "countGoodDigits", "(I)I"⟩
abbrev cX7_isLetter : ByteArray := prog_9_method_9_code
def yX7_isLetter : MethodName := ⟨RX7, "isLetter", "(I)Z"⟩
abbrev cX7_daysOf : ByteArray := prog_9_method_10_code
def yX7_daysOf : MethodName := ⟨RX7, "daysOf", "(I)I"⟩
def RX8 : String := "BlowOwed$Scars"
def TX8 : u_T := fun k => match k with
  | 0 => ("BlowOwed$Scars", "ways", "[I", true)
  | 1 => ("BlowOwed$Scars", "rows", "I", false)
  | 2 => ("BlowOwed$Scars", "inSome", "I", false)
  | _ => ("BlowOwed$Scars", "inAll", "I", false)
def tyX8 : Nat → FieldType := fun k => match k with
  | 0 => .array .int
  | 1 => .int
  | 2 => .int
  | _ => .int
abbrev wsX80 : List Cond := u_ws RX8 TX8 4
theorem nmX8 : ∀ a, a < 4 → ∀ b, b < 4 → a ≠ b → (TX8 a).2.1 ≠ (TX8 b).2.1 := by decide +kernel
theorem tyX8_ok : ∀ k, k < 4 → parseFieldDescriptor (TX8 k).2.2.1 = some (tyX8 k) := by decide +kernel
abbrev cX8_init : ByteArray := prog_10_method_1_code
def yX8_init : MethodName := ⟨RX8, "<init>", "()V"⟩
abbrev cX8_fit : ByteArray := prog_10_method_2_code
def yX8_fit : MethodName := ⟨RX8, "fit", "(LBlowOwed$Court;)V"⟩
abbrev cX8_addStriker : ByteArray := prog_10_method_3_code
def yX8_addStriker : MethodName := ⟨RX8, "addStriker", "(LBlowOwed$Court;I)V"⟩
def RX9 : String := "BlowOwed$Sights"
def TX9 : u_T := fun k => match k with
  | 0 => ("BlowOwed$Sights", "count", "I", false)
  | 1 => ("BlowOwed$Sights", "struck", "[I", true)
  | _ => ("BlowOwed$Sights", "much", "[I", true)
def tyX9 : Nat → FieldType := fun k => match k with
  | 0 => .int
  | 1 => .array .int
  | _ => .array .int
abbrev wsX90 : List Cond := u_ws RX9 TX9 3
theorem nmX9 : ∀ a, a < 3 → ∀ b, b < 3 → a ≠ b → (TX9 a).2.1 ≠ (TX9 b).2.1 := by decide +kernel
theorem tyX9_ok : ∀ k, k < 3 → parseFieldDescriptor (TX9 k).2.2.1 = some (tyX9 k) := by decide +kernel
abbrev cX9_init : ByteArray := prog_11_method_1_code
def yX9_init : MethodName := ⟨RX9, "<init>", "()V"⟩
abbrev cX9_copy : ByteArray := prog_11_method_2_code
def yX9_copy : MethodName := ⟨RX9, "copy", "(LBlowOwed$Sights;)V"⟩
abbrev cX9_add : ByteArray := prog_11_method_3_code
def yX9_add : MethodName := ⟨RX9, "add", "(II)V"⟩
def RX10 : String := "BlowOwed$Trial"
def TX10 : u_T := fun k => match k with
  | 0 => ("BlowOwed$Trial", "after", "LBlowOwed$Court;", true)
  | 1 => ("BlowOwed$Trial", "acts", "I", false)
  | 2 => ("BlowOwed$Trial", "why", "I", false)
  | 3 => ("BlowOwed$Trial", "blows", "I", false)
  | _ => ("BlowOwed$Trial", "givenBack", "I", false)
def tyX10 : Nat → FieldType := fun k => match k with
  | 0 => .object "BlowOwed$Court"
  | 1 => .int
  | 2 => .int
  | 3 => .int
  | _ => .int
abbrev wsX100 : List Cond := u_ws RX10 TX10 5
theorem nmX10 : ∀ a, a < 5 → ∀ b, b < 5 → a ≠ b → (TX10 a).2.1 ≠ (TX10 b).2.1 := by decide +kernel
theorem tyX10_ok : ∀ k, k < 5 → parseFieldDescriptor (TX10 k).2.2.1 = some (tyX10 k) := by decide +kernel
abbrev cX10_init : ByteArray := prog_12_method_1_code
def yX10_init : MethodName := ⟨RX10, "<init>", "()V"⟩
abbrev cX10_hear : ByteArray := prog_12_method_2_code
def yX10_hear : MethodName := ⟨RX10, "hear", "(LBlowOwed$Pad;LBlowOwed$Court;)Z"⟩
abbrev cX10_tryAct : ByteArray := prog_12_method_3_code
def yX10_tryAct : MethodName := ⟨RX10, "tryAct", "(LBlowOwed$Pad;I)I"⟩
abbrev cX10_draw : ByteArray := prog_12_method_4_code
def yX10_draw : MethodName := ⟨RX10, "draw", "(LBlowOwed$Court;II)V"⟩
def RX11 : String := "BlowOwed"
def TX11 : u_T := fun k => match k with
  | 0 => ("BlowOwed", "pad", "LBlowOwed$Pad;", true)
  | 1 => ("BlowOwed", "court", "LBlowOwed$Court;", true)
  | 2 => ("BlowOwed", "images", "[LBlowOwed$Court;", true)
  | 3 => ("BlowOwed", "judged", "LBlowOwed$Trial;", true)
  | 4 => ("BlowOwed", "journeys", "LBlowOwed$Journeys;", true)
  | 5 => ("BlowOwed", "ledger", "LBlowOwed$Ledger;", true)
  | _ => ("BlowOwed", "scars", "LBlowOwed$Scars;", true)
def tyX11 : Nat → FieldType := fun k => match k with
  | 0 => .object "BlowOwed$Pad"
  | 1 => .object "BlowOwed$Court"
  | 2 => .array (.object "BlowOwed$Court")
  | 3 => .object "BlowOwed$Trial"
  | 4 => .object "BlowOwed$Journeys"
  | 5 => .object "BlowOwed$Ledger"
  | _ => .object "BlowOwed$Scars"
abbrev wsX110 : List Cond := u_ws RX11 TX11 7
theorem nmX11 : ∀ a, a < 7 → ∀ b, b < 7 → a ≠ b → (TX11 a).2.1 ≠ (TX11 b).2.1 := by decide +kernel
theorem tyX11_ok : ∀ k, k < 7 → parseFieldDescriptor (TX11 k).2.2.1 = some (tyX11 k) := by decide +kernel
abbrev cX11_init : ByteArray := prog_1_method_1_code
def yX11_init : MethodName := ⟨RX11, "<init>", "()V"⟩
abbrev cX11_chapels : ByteArray := prog_1_method_2_code
def yX11_chapels : MethodName := ⟨RX11, "chapels", "(I)I"⟩
abbrev cX11_road : ByteArray := prog_1_method_3_code
def yX11_road : MethodName := ⟨RX11, "road", "(III)I"⟩
abbrev cX11_yearOf : ByteArray := prog_1_method_4_code
def yX11_yearOf : MethodName := ⟨RX11, "yearOf", "(I)I"⟩
abbrev cX11_knight : ByteArray := prog_1_method_5_code
def yX11_knight : MethodName := ⟨RX11, "knight", "(IIIII)I"⟩
abbrev cX11_heir : ByteArray := prog_1_method_6_code
def yX11_heir : MethodName := ⟨RX11, "heir", "(II)I"⟩
abbrev cX11_say : ByteArray := prog_1_method_7_code
def yX11_say : MethodName := ⟨RX11, "say", "(I)I"⟩
abbrev cX11_wipe : ByteArray := prog_1_method_8_code
def yX11_wipe : MethodName := ⟨RX11, "wipe", "()I"⟩
abbrev cX11_fault : ByteArray := prog_1_method_9_code
def yX11_fault : MethodName := ⟨RX11, "fault", "()I"⟩
abbrev cX11_judge : ByteArray := prog_1_method_10_code
def yX11_judge : MethodName := ⟨RX11, "judge", "(I)I"⟩
abbrev cX11_done : ByteArray := prog_1_method_11_code
def yX11_done : MethodName := ⟨RX11, "done", "()I"⟩
abbrev cX11_state : ByteArray := prog_1_method_12_code
def yX11_state : MethodName := ⟨RX11, "state", "(II)I"⟩
abbrev cX11_behind : ByteArray := prog_1_method_13_code
def yX11_behind : MethodName := ⟨RX11, "behind", "(II)I"⟩
abbrev cX11_debt : ByteArray := prog_1_method_14_code
def yX11_debt : MethodName := ⟨RX11, "debt", "(II)I"⟩
abbrev cX11_when : ByteArray := prog_1_method_15_code
def yX11_when : MethodName := ⟨RX11, "when", "(II)I"⟩
abbrev cX11_inTime : ByteArray := prog_1_method_16_code
def yX11_inTime : MethodName := ⟨RX11, "inTime", "(I)I"⟩
abbrev cX11_round : ByteArray := prog_1_method_17_code
def yX11_round : MethodName := ⟨RX11, "round", "(II)I"⟩
abbrev cX11_hard : ByteArray := prog_1_method_18_code
def yX11_hard : MethodName := ⟨RX11, "hard", "(IIIII)I"⟩
abbrev cX11_settled : ByteArray := prog_1_method_19_code
def yX11_settled : MethodName := ⟨RX11, "settled", "()I"⟩
abbrev cX11_ring : ByteArray := prog_1_method_20_code
def yX11_ring : MethodName := ⟨RX11, "ring", "()I"⟩
abbrev cX11_reckoned : ByteArray := prog_1_method_21_code
def yX11_reckoned : MethodName := ⟨RX11, "reckoned", "(III)I"⟩
abbrev cX11_kept : ByteArray := prog_1_method_22_code
def yX11_kept : MethodName := ⟨RX11, "kept", "(IIII)J"⟩
abbrev cX11_keeps : ByteArray := prog_1_method_23_code
def yX11_keeps : MethodName := ⟨RX11, "keeps", "(III)I"⟩
abbrev cX11_seen : ByteArray := prog_1_method_24_code
def yX11_seen : MethodName := ⟨RX11, "seen", "(II)I"⟩
abbrev cX11_forget : ByteArray := prog_1_method_25_code
def yX11_forget : MethodName := ⟨RX11, "forget", "()I"⟩
abbrev cX11_who : ByteArray := prog_1_method_26_code
def yX11_who : MethodName := ⟨RX11, "who", "(I)I"⟩
abbrev cX11_snow : ByteArray := prog_1_method_27_code
def yX11_snow : MethodName := ⟨RX11, "snow", "(IIII)J"⟩
abbrev cX11_year : ByteArray := prog_1_method_28_code
def yX11_year : MethodName := ⟨RX11, "year", "(III)I"⟩
abbrev cX11_image : ByteArray := prog_1_method_29_code
def yX11_image : MethodName := ⟨RX11, "image", "(I)I"⟩
abbrev cX11_restore : ByteArray := prog_1_method_30_code
def yX11_restore : MethodName := ⟨RX11, "restore", "(I)I"⟩
abbrev cX11_told : ByteArray := prog_1_method_31_code
def yX11_told : MethodName := ⟨RX11, "told", "(I)I"⟩
abbrev cX11_toldOfKnight : ByteArray := prog_1_method_32_code
def yX11_toldOfKnight : MethodName := ⟨RX11, "toldOfKnight", "(I)I"⟩
abbrev cX11_toldOfRoad : ByteArray := prog_1_method_33_code
def yX11_toldOfRoad : MethodName := ⟨RX11, "toldOfRoad", "(I)I"⟩
abbrev cX11_bestBlow : ByteArray := prog_1_method_34_code
def yX11_bestBlow : MethodName := ⟨RX11, "bestBlow", "(LBlowOwed$Knight;LBlowOwed$Knight;II)I"⟩
abbrev cX11_gainOf : ByteArray := prog_1_method_35_code
def yX11_gainOf : MethodName := ⟨RX11, "gainOf", "(ILBlowOwed$Knight;LBlowOwed$Knight;II)I"⟩
abbrev cX11_mostKept : ByteArray := prog_1_method_36_code
def yX11_mostKept : MethodName := ⟨RX11, "mostKept", "(III)J"⟩
abbrev cX11_exchanged : ByteArray := prog_1_method_37_code
def yX11_exchanged : MethodName := ⟨RX11, "exchanged", "(IIJ)J"⟩
abbrev cX11_keptBack : ByteArray := prog_1_method_38_code
def yX11_keptBack : MethodName := ⟨RX11, "keptBack", "(IIIJ)J"⟩
abbrev cX11_goneInTime : ByteArray := prog_1_method_39_code
def yX11_goneInTime : MethodName := ⟨RX11, "goneInTime", "(III)J"⟩
abbrev cX11_power : ByteArray := prog_1_method_40_code
def yX11_power : MethodName := ⟨RX11, "power", "(II)J"⟩
abbrev cX11_tenTo : ByteArray := prog_1_method_41_code
def yX11_tenTo : MethodName := ⟨RX11, "tenTo", "(I)J"⟩
abbrev cX11_partOf : ByteArray := prog_1_method_42_code
def yX11_partOf : MethodName := ⟨RX11, "partOf", "(JJI)J"⟩
abbrev cX11_commonDivisor : ByteArray := prog_1_method_43_code
def yX11_commonDivisor : MethodName := ⟨RX11, "commonDivisor", "(JJ)J"⟩
abbrev cX11_areTenths : ByteArray := prog_1_method_44_code
def yX11_areTenths : MethodName := ⟨RX11, "areTenths", "(I)Z"⟩
abbrev cX11_isWithin : ByteArray := prog_1_method_45_code
def yX11_isWithin : MethodName := ⟨RX11, "isWithin", "(III)Z"⟩
abbrev cX11_leftOver : ByteArray := prog_1_method_46_code
def yX11_leftOver : MethodName := ⟨RX11, "leftOver", "(II)I"⟩
abbrev cX11_cut : ByteArray := prog_1_method_47_code
def yX11_cut : MethodName := ⟨RX11, "cut", "(II)I"⟩
def RX12 : String := "BlowOwedModel"
def TX12 : u_T := fun k => match k with
  | 0 => ("BlowOwedModel", "chapels", "I", false)
  | 1 => ("BlowOwedModel", "road", "[I", true)
  | 2 => ("BlowOwedModel", "yearly", "I", false)
  | 3 => ("BlowOwedModel", "there", "I", false)
  | 4 => ("BlowOwedModel", "strength", "[I", true)
  | 5 => ("BlowOwedModel", "own", "[I", true)
  | 6 => ("BlowOwedModel", "sights", "I", false)
  | 7 => ("BlowOwedModel", "sight", "[I", true)
  | 8 => ("BlowOwedModel", "day", "I", false)
  | 9 => ("BlowOwedModel", "place", "[I", true)
  | 10 => ("BlowOwedModel", "toGo", "[I", true)
  | 11 => ("BlowOwedModel", "bears", "[I", true)
  | 12 => ("BlowOwedModel", "honour", "[I", true)
  | 13 => ("BlowOwedModel", "debts", "I", false)
  | 14 => ("BlowOwedModel", "debt", "[I", true)
  | 15 => ("BlowOwedModel", "signs", "I", false)
  | 16 => ("BlowOwedModel", "pad", "[I", true)
  | 17 => ("BlowOwedModel", "dayNow", "I", false)
  | 18 => ("BlowOwedModel", "at", "[I", true)
  | 19 => ("BlowOwedModel", "goes", "[I", true)
  | 20 => ("BlowOwedModel", "life", "[I", true)
  | 21 => ("BlowOwedModel", "fame", "[I", true)
  | 22 => ("BlowOwedModel", "owed", "I", false)
  | 23 => ("BlowOwedModel", "owing", "[I", true)
  | 24 => ("BlowOwedModel", "reason", "I", false)
  | 25 => ("BlowOwedModel", "acts", "I", false)
  | 26 => ("BlowOwedModel", "soonest", "[I", true)
  | 27 => ("BlowOwedModel", "balance", "[I", true)
  | 28 => ("BlowOwedModel", "groups", "[I", true)
  | 29 => ("BlowOwedModel", "keepsFirst", "Z", false)
  | 30 => ("BlowOwedModel", "image", "[I", true)
  | _ => ("BlowOwedModel", "isKept", "[Z", true)
def tyX12 : Nat → FieldType := fun k => match k with
  | 0 => .int
  | 1 => .array .int
  | 2 => .int
  | 3 => .int
  | 4 => .array .int
  | 5 => .array .int
  | 6 => .int
  | 7 => .array .int
  | 8 => .int
  | 9 => .array .int
  | 10 => .array .int
  | 11 => .array .int
  | 12 => .array .int
  | 13 => .int
  | 14 => .array .int
  | 15 => .int
  | 16 => .array .int
  | 17 => .int
  | 18 => .array .int
  | 19 => .array .int
  | 20 => .array .int
  | 21 => .array .int
  | 22 => .int
  | 23 => .array .int
  | 24 => .int
  | 25 => .int
  | 26 => .array .int
  | 27 => .array .int
  | 28 => .array .int
  | 29 => .boolean
  | 30 => .array .int
  | _ => .array .boolean
abbrev wsX120 : List Cond := u_ws RX12 TX12 32
theorem nmX12 : ∀ a, a < 32 → ∀ b, b < 32 → a ≠ b → (TX12 a).2.1 ≠ (TX12 b).2.1 := by decide +kernel
theorem tyX12_ok : ∀ k, k < 32 → parseFieldDescriptor (TX12 k).2.2.1 = some (tyX12 k) := by decide +kernel
abbrev cX12_init : ByteArray := prog_14_method_1_code
def yX12_init : MethodName := ⟨RX12, "<init>", "()V"⟩
abbrev cX12_in : ByteArray := prog_14_method_2_code
def yX12_in : MethodName := ⟨RX12, "in", "(III)Z"⟩
abbrev cX12_has : ByteArray := prog_14_method_3_code
def yX12_has : MethodName := ⟨RX12, "has", "(II)Z"⟩
abbrev cX12_bits : ByteArray := prog_14_method_4_code
def yX12_bits : MethodName := ⟨RX12, "bits", "(I)I"⟩
abbrev cX12_isChapel : ByteArray := prog_14_method_5_code
def yX12_isChapel : MethodName := ⟨RX12, "isChapel", "(I)Z"⟩
abbrev cX12_isThere : ByteArray := prog_14_method_6_code
def yX12_isThere : MethodName := ⟨RX12, "isThere", "(I)Z"⟩
abbrev cX12_chapels : ByteArray := prog_14_method_7_code
def yX12_chapels : MethodName := ⟨RX12, "chapels", "(I)I"⟩
abbrev cX12_road : ByteArray := prog_14_method_8_code
def yX12_road : MethodName := ⟨RX12, "road", "(III)I"⟩
abbrev cX12_yearOf : ByteArray := prog_14_method_9_code
def yX12_yearOf : MethodName := ⟨RX12, "yearOf", "(I)I"⟩
abbrev cX12_knight : ByteArray := prog_14_method_10_code
def yX12_knight : MethodName := ⟨RX12, "knight", "(IIIII)I"⟩
abbrev cX12_heir : ByteArray := prog_14_method_11_code
def yX12_heir : MethodName := ⟨RX12, "heir", "(II)I"⟩
abbrev cX12_say : ByteArray := prog_14_method_12_code
def yX12_say : MethodName := ⟨RX12, "say", "(I)I"⟩
abbrev cX12_wipe : ByteArray := prog_14_method_13_code
def yX12_wipe : MethodName := ⟨RX12, "wipe", "()I"⟩
abbrev cX12_daysOf : ByteArray := prog_14_method_14_code
def yX12_daysOf : MethodName := ⟨RX12, "daysOf", "(I)I"⟩
abbrev cX12_faultOf : ByteArray := prog_14_method_15_code
def yX12_faultOf : MethodName := ⟨RX12, "faultOf", "()I"⟩
abbrev cX12_fault : ByteArray := prog_14_method_16_code
def yX12_fault : MethodName := ⟨RX12, "fault", "()I"⟩
abbrev cX12_asNow : ByteArray := prog_14_method_17_code
def yX12_asNow : MethodName := ⟨RX12, "asNow", "()V"⟩
abbrev cX12_keep : ByteArray := prog_14_method_18_code
def yX12_keep : MethodName := ⟨RX12, "keep", "()V"⟩
abbrev cX12_forgive : ByteArray := prog_14_method_19_code
def yX12_forgive : MethodName := ⟨RX12, "forgive", "(I)V"⟩
abbrev cX12_strike : ByteArray := prog_14_method_20_code
def yX12_strike : MethodName := ⟨RX12, "strike", "(II)V"⟩
abbrev cX12_isAlive : ByteArray := prog_14_method_21_code
def yX12_isAlive : MethodName := ⟨RX12, "isAlive", "(I)Z"⟩
abbrev cX12_whyNotStrike : ByteArray := prog_14_method_22_code
def yX12_whyNotStrike : MethodName := ⟨RX12, "whyNotStrike", "(III)I"⟩
abbrev cX12_hit : ByteArray := prog_14_method_23_code
def yX12_hit : MethodName := ⟨RX12, "hit", "(III)V"⟩
abbrev cX12_isOwed : ByteArray := prog_14_method_24_code
def yX12_isOwed : MethodName := ⟨RX12, "isOwed", "(II)Z"⟩
abbrev cX12_owesHere : ByteArray := prog_14_method_25_code
def yX12_owesHere : MethodName := ⟨RX12, "owesHere", "(II)Z"⟩
abbrev cX12_whyNot : ByteArray := prog_14_method_26_code
def yX12_whyNot : MethodName := ⟨RX12, "whyNot", "(II)I"⟩
abbrev cX12_giveBack : ByteArray := prog_14_method_27_code
def yX12_giveBack : MethodName := ⟨RX12, "giveBack", "(I)V"⟩
abbrev cX12_act : ByteArray := prog_14_method_28_code
def yX12_act : MethodName := ⟨RX12, "act", "(II)V"⟩
abbrev cX12_pass : ByteArray := prog_14_method_29_code
def yX12_pass : MethodName := ⟨RX12, "pass", "(I)V"⟩
abbrev cX12_goCourt : ByteArray := prog_14_method_30_code
def yX12_goCourt : MethodName := ⟨RX12, "goCourt", "()I"⟩
abbrev cX12_judge : ByteArray := prog_14_method_31_code
def yX12_judge : MethodName := ⟨RX12, "judge", "(I)I"⟩
abbrev cX12_barOfCourt : ByteArray := prog_14_method_32_code
def yX12_barOfCourt : MethodName := ⟨RX12, "barOfCourt", "()I"⟩
abbrev cX12_done : ByteArray := prog_14_method_33_code
def yX12_done : MethodName := ⟨RX12, "done", "()I"⟩
abbrev cX12_stateNow : ByteArray := prog_14_method_34_code
def yX12_stateNow : MethodName := ⟨RX12, "stateNow", "(II)I"⟩
abbrev cX12_state : ByteArray := prog_14_method_35_code
def yX12_state : MethodName := ⟨RX12, "state", "(II)I"⟩
abbrev cX12_behind : ByteArray := prog_14_method_36_code
def yX12_behind : MethodName := ⟨RX12, "behind", "(II)I"⟩
abbrev cX12_debt : ByteArray := prog_14_method_37_code
def yX12_debt : MethodName := ⟨RX12, "debt", "(II)I"⟩
abbrev cX12_arrival : ByteArray := prog_14_method_38_code
def yX12_arrival : MethodName := ⟨RX12, "arrival", "(II)I"⟩
abbrev cX12_layJourneys : ByteArray := prog_14_method_39_code
def yX12_layJourneys : MethodName := ⟨RX12, "layJourneys", "(II)V"⟩
abbrev cX12_isWell : ByteArray := prog_14_method_40_code
def yX12_isWell : MethodName := ⟨RX12, "isWell", "(I)Z"⟩
abbrev cX12_when : ByteArray := prog_14_method_41_code
def yX12_when : MethodName := ⟨RX12, "when", "(II)I"⟩
abbrev cX12_inTime : ByteArray := prog_14_method_42_code
def yX12_inTime : MethodName := ⟨RX12, "inTime", "(I)I"⟩
abbrev cX12_canMeet : ByteArray := prog_14_method_43_code
def yX12_canMeet : MethodName := ⟨RX12, "canMeet", "(II)Z"⟩
abbrev cX12_round : ByteArray := prog_14_method_44_code
def yX12_round : MethodName := ⟨RX12, "round", "(II)I"⟩
abbrev cX12_hard : ByteArray := prog_14_method_45_code
def yX12_hard : MethodName := ⟨RX12, "hard", "(IIIII)I"⟩
abbrev cX12_layBalance : ByteArray := prog_14_method_46_code
def yX12_layBalance : MethodName := ⟨RX12, "layBalance", "()V"⟩
abbrev cX12_sumOf : ByteArray := prog_14_method_47_code
def yX12_sumOf : MethodName := ⟨RX12, "sumOf", "(I)I"⟩
abbrev cX12_settled : ByteArray := prog_14_method_48_code
def yX12_settled : MethodName := ⟨RX12, "settled", "()I"⟩
abbrev cX12_owes : ByteArray := prog_14_method_49_code
def yX12_owes : MethodName := ⟨RX12, "owes", "(II)Z"⟩
abbrev cX12_ring : ByteArray := prog_14_method_50_code
def yX12_ring : MethodName := ⟨RX12, "ring", "()I"⟩
abbrev cX12_reckoned : ByteArray := prog_14_method_51_code
def yX12_reckoned : MethodName := ⟨RX12, "reckoned", "(III)I"⟩
abbrev cX12_tens : ByteArray := prog_14_method_52_code
def yX12_tens : MethodName := ⟨RX12, "tens", "(I)J"⟩
abbrev cX12_hosted : ByteArray := prog_14_method_53_code
def yX12_hosted : MethodName := ⟨RX12, "hosted", "(III)J"⟩
abbrev cX12_kept : ByteArray := prog_14_method_54_code
def yX12_kept : MethodName := ⟨RX12, "kept", "(IIII)J"⟩
abbrev cX12_keeps : ByteArray := prog_14_method_55_code
def yX12_keeps : MethodName := ⟨RX12, "keeps", "(III)I"⟩
abbrev cX12_seen : ByteArray := prog_14_method_56_code
def yX12_seen : MethodName := ⟨RX12, "seen", "(II)I"⟩
abbrev cX12_forget : ByteArray := prog_14_method_57_code
def yX12_forget : MethodName := ⟨RX12, "forget", "()I"⟩
abbrev cX12_who : ByteArray := prog_14_method_58_code
def yX12_who : MethodName := ⟨RX12, "who", "(I)I"⟩
abbrev cX12_snow : ByteArray := prog_14_method_59_code
def yX12_snow : MethodName := ⟨RX12, "snow", "(IIII)J"⟩
abbrev cX12_year : ByteArray := prog_14_method_60_code
def yX12_year : MethodName := ⟨RX12, "year", "(III)I"⟩
abbrev cX12_image : ByteArray := prog_14_method_61_code
def yX12_image : MethodName := ⟨RX12, "image", "(I)I"⟩
abbrev cX12_restore : ByteArray := prog_14_method_62_code
def yX12_restore : MethodName := ⟨RX12, "restore", "(I)I"⟩
abbrev cX12_told : ByteArray := prog_14_method_63_code
def yX12_told : MethodName := ⟨RX12, "told", "(I)I"⟩
def RJ6 : String := "java/lang/Integer"
def TJ6 : u_T := fun k => match k with
  | _ => ("", "", "", false)
def tyJ6 : Nat → FieldType := fun k => match k with
  | _ => .int
abbrev wsJ60 : List Cond := u_ws RJ6 TJ6 0
theorem nmJ6 : ∀ a, a < 0 → ∀ b, b < 0 → a ≠ b → (TJ6 a).2.1 ≠ (TJ6 b).2.1 := by decide +kernel
theorem tyJ6_ok : ∀ k, k < 0 → parseFieldDescriptor (TJ6 k).2.2.1 = some (tyJ6 k) := by decide +kernel
abbrev cJ6_bitCount_0f7a4 : ByteArray := prog_15_method_49_code
def yJ6_bitCount_0f7a4 : MethodName := ⟨RJ6, "bitCount", "(I)I"⟩
def RJ9 : String := "java/lang/Math"
def TJ9 : u_T := fun k => match k with
  | _ => ("", "", "", false)
def tyJ9 : Nat → FieldType := fun k => match k with
  | _ => .int
abbrev wsJ90 : List Cond := u_ws RJ9 TJ9 0
theorem nmJ9 : ∀ a, a < 0 → ∀ b, b < 0 → a ≠ b → (TJ9 a).2.1 ≠ (TJ9 b).2.1 := by decide +kernel
theorem tyJ9_ok : ∀ k, k < 0 → parseFieldDescriptor (TJ9 k).2.2.1 = some (tyJ9 k) := by decide +kernel
abbrev cJ9_max_7cf53 : ByteArray := prog_16_method_65_code
def yJ9_max_7cf53 : MethodName := ⟨RJ9, "max", "(II)I"⟩
abbrev cJ9_max_f86c9 : ByteArray := prog_16_method_66_code
def yJ9_max_f86c9 : MethodName := ⟨RJ9, "max", "(JJ)J"⟩
abbrev cJ9_min_7cf53 : ByteArray := prog_16_method_69_code
def yJ9_min_7cf53 : MethodName := ⟨RJ9, "min", "(II)I"⟩
def RJ10 : String := "java/lang/System"
def TJ10 : u_T := fun k => match k with
  | _ => ("", "", "", false)
def tyJ10 : Nat → FieldType := fun k => match k with
  | _ => .int
abbrev wsJ100 : List Cond := u_ws RJ10 TJ10 0
theorem nmJ10 : ∀ a, a < 0 → ∀ b, b < 0 → a ≠ b → (TJ10 a).2.1 ≠ (TJ10 b).2.1 := by decide +kernel
theorem tyJ10_ok : ∀ k, k < 0 → parseFieldDescriptor (TJ10 k).2.2.1 = some (tyJ10 k) := by decide +kernel
def RJ7 : String := "java/util/Arrays"
def TJ7 : u_T := fun k => match k with
  | _ => ("", "", "", false)
def tyJ7 : Nat → FieldType := fun k => match k with
  | _ => .int
abbrev wsJ70 : List Cond := u_ws RJ7 TJ7 0
theorem nmJ7 : ∀ a, a < 0 → ∀ b, b < 0 → a ≠ b → (TJ7 a).2.1 ≠ (TJ7 b).2.1 := by decide +kernel
theorem tyJ7_ok : ∀ k, k < 0 → parseFieldDescriptor (TJ7 k).2.2.1 = some (tyJ7 k) := by decide +kernel
abbrev cJ7_fill_53178 : ByteArray := prog_18_method_103_code
def yJ7_fill_53178 : MethodName := ⟨RJ7, "fill", "([II)V"⟩
def RL : String := "BlowOwedLaw"
abbrev cL_law : ByteArray := code
def yL_law : MethodName := ⟨RL, "law", "([I)Z"⟩
end
section
/-! THE MEMORY OF THE SYSTEM, AS A VALUE. Cell a of the memory lies at the address b + a, where b is the heap's size at the law's start.
 kinds: (c, n): c < 20: an object of class c of cl_s, with n fields; 20: int[], 21: boolean[], 22: Knight[], 23: Debt[], 24: Court[], of n places -/
abbrev cl_s : List vw_C := [(RX0, TX0, 6), (RX1, TX1, 5), (RX2, TX2, 2), (RX3, TX3, 3), (RX4, TX4, 7), (RX5, TX5, 3), (RX6, TX6, 2), (RX7, TX7, 2), (RX8, TX8, 4), (RX9, TX9, 3), (RX10, TX10, 5), (RX11, TX11, 7), (RX12, TX12, 32)]
def ty_f (c : Nat) : Nat → FieldType := match c with
  | 0 => tyX0 | 1 => tyX1 | 2 => tyX2 | 3 => tyX3 | 4 => tyX4 | 5 => tyX5 | 6 => tyX6 | 7 => tyX7 | 8 => tyX8 | 9 => tyX9 | 10 => tyX10 | 11 => tyX11 | _ => tyX12
def tb_f (c : Nat) : u_T := match c with
  | 0 => TX0 | 1 => TX1 | 2 => TX2 | 3 => TX3 | 4 => TX4 | 5 => TX5 | 6 => TX6 | 7 => TX7 | 8 => TX8 | 9 => TX9 | 10 => TX10 | 11 => TX11 | _ => TX12
def nf_c (c : Nat) : Nat := match c with
  | 0 => 6 | 1 => 5 | 2 => 2 | 3 => 3 | 4 => 7 | 5 => 3 | 6 => 2 | 7 => 2 | 8 => 4 | 9 => 3 | 10 => 5 | 11 => 7 | _ => 32
def rx_c (c : Nat) : String := match c with
  | 0 => RX0 | 1 => RX1 | 2 => RX2 | 3 => RX3 | 4 => RX4 | 5 => RX5 | 6 => RX6 | 7 => RX7 | 8 => RX8 | 9 => RX9 | 10 => RX10 | 11 => RX11 | _ => RX12
def is_r (t : FieldType) : Bool := match t with
  | .object _ => true
  | .array _ => true
  | _ => false
/-- words that stay true as the machine warms: those that a contract may hold; nest mates' links and arrays of references apart -/
def gw_s : List Cond := lw_tbl.filter goodWord
def nw_q : Cond → Bool
  | .fieldLinkNest _ _ _ _ _ _ => true
  | .methodLinkNest _ _ _ _ => true
  | .arrayOver (.object _) => true
  | _ => false
def nw_s : List Cond := lw_tbl.filter nw_q
theorem gw_in {w : Cond} (i : Nat) (h : lw_tbl[i]? = some w) (hg : goodWord w = true) : w ∈ gw_s := List.mem_filter.mpr ⟨List.mem_of_getElem? h, hg⟩
theorem nw_in {w : Cond} (i : Nat) (h : lw_tbl[i]? = some w) (hg : nw_q w = true) : w ∈ nw_s := List.mem_filter.mpr ⟨List.mem_of_getElem? h, hg⟩
theorem gw_good : ∀ w ∈ gw_s, (w.onTables && w.keeps) = true ∨ ∃ ty, w = .arrayClass ty := fun w h => good_of_word (List.mem_filter.mp h).2
theorem nw_warm {w : Cond} (hq : nw_q w = true) {s U : State} (hW : s.WarmedH U.vm) (h : va_Nw w s) : va_Nw w U := by
  unfold nw_q at hq
  split at hq
  · exact va_Nw.warmF hW h
  · exact va_Nw.warmM hW h
  · exact va_AO.moved hW.alike h
  · cases hq
theorem nw_same {w : Cond} (hq : nw_q w = true) {s U : State} (hv : s.vm = U.vm) (h : va_Nw w s) : va_Nw w U := by
  unfold nw_q at hq
  split at hq
  · exact va_Nw.same rfl hv h
  · exact va_Nw.same rfl hv h
  · exact va_AO.moved (by rw [hv]; exact Vm.Alike.refl _) h
  · cases hq
theorem cl_at : ∀ ci, ci < 13 → cl_s[ci]? = some (rx_c ci, tb_f ci, nf_c ci) := by
  intro ci h
  match ci, h with
  | 0, _ => rfl
  | 1, _ => rfl
  | 2, _ => rfl
  | 3, _ => rfl
  | 4, _ => rfl
  | 5, _ => rfl
  | 6, _ => rfl
  | 7, _ => rfl
  | 8, _ => rfl
  | 9, _ => rfl
  | 10, _ => rfl
  | 11, _ => rfl
  | 12, _ => rfl
theorem cl_ty : ∀ ci, ci < 13 → ∀ k, k < nf_c ci → parseFieldDescriptor (tb_f ci k).2.2.1 = some (ty_f ci k) := by
  intro ci h
  match ci, h with
  | 0, _ => exact tyX0_ok
  | 1, _ => exact tyX1_ok
  | 2, _ => exact tyX2_ok
  | 3, _ => exact tyX3_ok
  | 4, _ => exact tyX4_ok
  | 5, _ => exact tyX5_ok
  | 6, _ => exact tyX6_ok
  | 7, _ => exact tyX7_ok
  | 8, _ => exact tyX8_ok
  | 9, _ => exact tyX9_ok
  | 10, _ => exact tyX10_ok
  | 11, _ => exact tyX11_ok
  | 12, _ => exact tyX12_ok
theorem cl_nm : ∀ ci, ci < 13 → ∀ a, a < nf_c ci → ∀ b, b < nf_c ci → a ≠ b → (tb_f ci a).2.1 ≠ (tb_f ci b).2.1 := by
  intro ci h
  match ci, h with
  | 0, _ => exact nmX0
  | 1, _ => exact nmX1
  | 2, _ => exact nmX2
  | 3, _ => exact nmX3
  | 4, _ => exact nmX4
  | 5, _ => exact nmX5
  | 6, _ => exact nmX6
  | 7, _ => exact nmX7
  | 8, _ => exact nmX8
  | 9, _ => exact nmX9
  | 10, _ => exact nmX10
  | 11, _ => exact nmX11
  | 12, _ => exact nmX12
theorem cl_in0 : ∀ w ∈ u_ws RX0 TX0 6, w ∈ gw_s := by decide +kernel
theorem cl_in1 : ∀ w ∈ u_ws RX1 TX1 5, w ∈ gw_s := by decide +kernel
theorem cl_in2 : ∀ w ∈ u_ws RX2 TX2 2, w ∈ gw_s := by decide +kernel
theorem cl_in3 : ∀ w ∈ u_ws RX3 TX3 3, w ∈ gw_s := by decide +kernel
theorem cl_in4 : ∀ w ∈ u_ws RX4 TX4 7, w ∈ gw_s := by decide +kernel
theorem cl_in5 : ∀ w ∈ u_ws RX5 TX5 3, w ∈ gw_s := by decide +kernel
theorem cl_in6 : ∀ w ∈ u_ws RX6 TX6 2, w ∈ gw_s := by decide +kernel
theorem cl_in7 : ∀ w ∈ u_ws RX7 TX7 2, w ∈ gw_s := by decide +kernel
theorem cl_in8 : ∀ w ∈ u_ws RX8 TX8 4, w ∈ gw_s := by decide +kernel
theorem cl_in9 : ∀ w ∈ u_ws RX9 TX9 3, w ∈ gw_s := by decide +kernel
theorem cl_in10 : ∀ w ∈ u_ws RX10 TX10 5, w ∈ gw_s := by decide +kernel
theorem cl_in11 : ∀ w ∈ u_ws RX11 TX11 7, w ∈ gw_s := by decide +kernel
theorem cl_in12 : ∀ w ∈ u_ws RX12 TX12 32, w ∈ gw_s := by decide +kernel
theorem cl_in : ∀ ci, ci < 13 → ∀ w ∈ u_ws (rx_c ci) (tb_f ci) (nf_c ci), w ∈ gw_s := by
  intro ci h
  match ci, h with
  | 0, _ => exact cl_in0
  | 1, _ => exact cl_in1
  | 2, _ => exact cl_in2
  | 3, _ => exact cl_in3
  | 4, _ => exact cl_in4
  | 5, _ => exact cl_in5
  | 6, _ => exact cl_in6
  | 7, _ => exact cl_in7
  | 8, _ => exact cl_in8
  | 9, _ => exact cl_in9
  | 10, _ => exact cl_in10
  | 11, _ => exact cl_in11
  | 12, _ => exact cl_in12
/-! memory -/
abbrev Me : Type := List (Nat × Nat) × (Nat → Nat → Option Nat) × (Nat → Nat → Int32)
def me_k (M : Me) (a : Nat) : Option (Nat × Nat) := M.1[a]?
def me_r (M : Me) (a k : Nat) : Option Nat := M.2.1 a k
def me_i (M : Me) (a k : Nat) : Int32 := M.2.2 a k
def me_si (M : Me) (a k : Nat) (v : Int32) : Me := (M.1, M.2.1, fun x y => if x = a ∧ y = k then v else M.2.2 x y)
def me_sr (M : Me) (a k : Nat) (o : Option Nat) : Me := (M.1, fun x y => if x = a ∧ y = k then o else M.2.1 x y, M.2.2)
def me_cp (M : Me) (a a0 sp dp n : Nat) : Me := (M.1, M.2.1, fun x y => if x = a then va_cpy (M.2.2 a0) (M.2.2 a) sp dp n y else M.2.2 x y)
def me_nw (M : Me) (kd : Nat × Nat) : Me := (M.1 ++ [kd], fun x y => if x = M.1.length then none else M.2.1 x y, fun x y => if x = M.1.length then 0 else M.2.2 x y)
def up_v (b : Nat) (v : Value) : Value := match v with
  | .ref a => .ref (b + a)
  | v => v
def up_o (b : Nat) (o : Option Nat) : Option Nat := o.map (fun a => b + a)
theorem up_cat (b : Nat) (v : Value) : (up_v b v).category = v.category := by cases v <;> rfl
/-- a cell, as the kit's worlds have it -/
def ce_l (dA : Nat → ClassId) (b : Nat) (kd : Nat × Nat) (r : Nat → Option Nat) (i : Nat → Int32) : va_E :=
  if kd.1 < 20 then .inr (kd.1, (List.range kd.2).map (fun k => if is_r (ty_f kd.1 k) = true then va_rf (up_o b (r k)) else .int (i k)))
  else if kd.1 < 22 then .inl (dA kd.1, kd.2, .inl i)
  else .inl (dA kd.1, kd.2, .inr (.inr (.inr (.inr (fun j => up_o b (r j))))))
def en_c (dA : Nat → ClassId) (b : Nat) (M : Me) : va_W := M.1.mapIdx (fun a kd => (b + a, ce_l dA b kd (M.2.1 a) (M.2.2 a)))
theorem en_get {dA : Nat → ClassId} {b : Nat} {M : Me} (a : Nat) : (en_c dA b M)[a]? = (M.1[a]?).map (fun kd => (b + a, ce_l dA b kd (M.2.1 a) (M.2.2 a))) := by
  simp [en_c, List.getElem?_mapIdx]
theorem en_at {dA : Nat → ClassId} {b : Nat} {M : Me} {a : Nat} {kd : Nat × Nat} (h : me_k M a = some kd) : (en_c dA b M)[a]? = some (b + a, ce_l dA b kd (M.2.1 a) (M.2.2 a)) := by
  rw [en_get, show M.1[a]? = some kd from h]; rfl
theorem en_D {dA : Nat → ClassId} {b : Nat} {M : Me} : va_D (fun q => b ≤ q) (en_c dA b M) := by
  refine ⟨fun i j p q hi hj hpq => ?_, fun k q hk => ?_⟩
  · rw [en_get] at hi hj
    obtain ⟨x, -, rfl⟩ := Option.map_eq_some_iff.mp hi
    obtain ⟨y, -, rfl⟩ := Option.map_eq_some_iff.mp hj
    have h2 : b + i = b + j := hpq
    omega
  · rw [en_get] at hk
    obtain ⟨x, -, rfl⟩ := Option.map_eq_some_iff.mp hk
    exact Nat.le_add_right b k
theorem en_ext {w w2 : va_W} (h : ∀ a : Nat, w[a]? = w2[a]?) : w = w2 := List.ext_getElem? h
/-- two memories that differ in one cell alone -/
theorem en_set {dA : Nat → ClassId} {b : Nat} {M N : Me} {a : Nat} {kd : Nat × Nat} {e : va_E} (hk : me_k M a = some kd) (h1 : N.1 = M.1) (ho : ∀ x, x ≠ a → N.2.1 x = M.2.1 x ∧ N.2.2 x = M.2.2 x) (he : ce_l dA b kd (N.2.1 a) (N.2.2 a) = e) : (en_c dA b M).set a (b + a, e) = en_c dA b N := by
  apply en_ext
  intro x
  rw [List.getElem?_set, en_get, en_get, h1]
  by_cases hx : a = x
  · subst hx
    have hk2 : M.1[a]? = some kd := hk
    have hl : a < M.1.length := (List.getElem?_eq_some_iff.mp hk2).1
    rw [if_pos rfl, if_pos (by simpa [en_c] using hl), hk2]
    simp only [Option.map_some]
    rw [he]
  · rw [if_neg hx, (ho x (fun q => hx q.symm)).1, (ho x (fun q => hx q.symm)).2]
theorem en_new {dA : Nat → ClassId} {b : Nat} {M : Me} {kd : Nat × Nat} : en_c dA b (me_nw M kd) = en_c dA b M ++ [(b + M.1.length, ce_l dA b kd (fun _ => none) (fun _ => 0))] := by
  apply en_ext
  intro x
  rw [en_get]
  show ((M.1 ++ [kd])[x]?).map _ = _
  by_cases hx : x < M.1.length
  · rw [List.getElem?_append_left hx, List.getElem?_append_left (by simpa [en_c] using hx), en_get]
    have hn : ¬ x = M.1.length := by omega
    simp only [me_nw, if_neg hn]
  · by_cases hx2 : x = M.1.length
    · subst hx2
      rw [List.getElem?_append_right (Nat.le_refl _), List.getElem?_append_right (by simp [en_c])]
      simp [me_nw, en_c]
    · rw [List.getElem?_append_right (by omega), List.getElem?_append_right (by simp [en_c]; omega)]
      have h1 : ¬ x - M.1.length = 0 := by omega
      have h2 : ([kd] : List (Nat × Nat))[x - M.1.length]? = none := by
        apply List.getElem?_eq_none; simp; omega
      have h3 : ∀ z : Nat × va_E, ([z] : va_W)[x - (en_c dA b M).length]? = none := by
        intro z; apply List.getElem?_eq_none; simp [en_c]; omega
      rw [h2, h3]; rfl
end
section
/-! THE JUDGEMENT V: from this place of the method, in this memory, with these locals and this stack, the method comes to what the pure value F, carried on by G, says -/
/-- own class, bytes, places for locals, return type, name -/
abbrev My : Type := String × ByteArray × Nat × Option FieldType × String
/-- the method; the depth of calls that is left; the cells and slots that it may make -/
abbrev Xc : Type := My × Nat × Nat × Nat
abbrev Kn : Type := (Nat → ClassId) × (Nat → Nat → Nat) × (Nat → ClassId)
abbrev Rs : Type := Option Value × Me
def ty_s (K : Kn) : List (ClassId × FieldType) := [(K.2.2 20, .int), (K.2.2 21, .boolean), (K.2.2 22, .object RX4), (K.2.2 23, .object RX1), (K.2.2 24, .object RX0)]
def kn_K (K : Kn) (s : State) : Prop := va_K (K.1, K.2.1) cl_s (ty_s K) s ∧ ∀ w ∈ nw_s, va_Nw w s
theorem kn_K.warm {K : Kn} {s U : State} (hW : s.WarmedH U.vm) (h : kn_K K s) : kn_K K U := ⟨va_K.moved hW.alike h.1, fun w hw => nw_warm (List.mem_filter.mp hw).2 hW (h.2 w hw)⟩
theorem kn_K.same {K : Kn} {s U : State} (hv : s.vm = U.vm) (h : kn_K K s) : kn_K K U := ⟨va_K.moved (by rw [hv]; exact Vm.Alike.refl _) h.1, fun w hw => nw_same (List.mem_filter.mp hw).2 hv (h.2 w hw)⟩
def ho_d (K : Kn) (b : Nat) (M : Me) (U : State) : Prop := U.heap.size = b + M.1.length ∧ va_P (K.1, K.2.1) cl_s (en_c K.2.2 b M) U.heap ∧ kn_K K U
def rm_d (d mc ms : Nat) : Room := { frames := d, cells := mc, slots := ms, locals := 38 * d }
def qc_r (K : Kn) (b : Nat) (res : Rs) : Array Value → State → Outcome → State → Prop := fun _ st o t => o = .returned (res.1.map (up_v b)) ∧ ho_d K b res.2 t ∧ va_F (fun q => b ≤ q) st t
/-- a method's contract, exact: called with av in the memory M it answers res.1, and the memory is res.2 then -/
def Ct (y : MethodName) (Y : My) (d mc ms : Nat) (av : List Value) (M : Me) (res : Rs) : Prop :=
  ∀ (l : Launch) (K : Kn) (b : Nat), Met l y (.code y Y.2.1 Y.2.2.1 Y.2.2.2.1 :: gw_s) (rm_d d mc ms) (va_Pc (av.map (up_v b)) (ho_d K b M)) (qc_r K b res) mc ms (fun q => b ≤ q)
def Am (X : Xc) (p : Program) (s : State) (m : MethodId) (args : Array Value) (meth : Method) (c : Code) (K : Kn) (b : Nat) : Prop :=
  p.tables.exec = Jvm.exec ∧ c.code = X.1.2.1 ∧ meth.sig.returnType = X.1.2.2.2.1 ∧ c.maxLocals = X.1.2.2.1 ∧ s.vm.findClass X.1.1 = some m.cls ∧ (∀ w ∈ gw_s, w.before args s = true) ∧ kn_K K s ∧ meth.locks = false ∧ meth.name = X.1.2.2.2.2 ∧ b ≤ s.heap.size
def lo_k (b nL : Nat) (loc : List (Option Value)) (ls : Array Slot) : Prop := ls.size = nL ∧ lv_wf ls ∧ ∀ (k : Nat) (v : Value), loc[k]? = some (some v) → ls[k]? = some (.val (up_v b v))
def Vd (X : Xc) (u : Nat × Nat) (M : Me) (pc : Nat) (loc : List (Option Value)) (st : List Value) (res : Rs) : Prop :=
  ∀ (p : Program) (l : Launch) (e : Env) (s : State) (m : MethodId) (args : Array Value) (below : List Frame) (meth : Method) (c : Code) (K : Kn) (b : Nat) (H : Heap) (locs : List Loc) (ls : Array Slot),
    Am X p s m args meth c K b → va_P (K.1, K.2.1) cl_s (en_c K.2.2 b M) H → va_S (fun q => b ≤ q) s.heap H locs → H.size = b + M.1.length → lo_k b X.1.2.2.1 loc ls →
    W p l e (rm_d X.2.1 X.2.2.1 X.2.2.2) s m args below meth c H locs u.1 u.2 (MQ below (qc_r K b res) args s X.2.2.1 X.2.2.2 (fun q => b ≤ q)) (F0 m pc ls (st.map (up_v b)))
def V (X : Xc) (u : Nat × Nat) (M : Me) (pc : Nat) (loc : List (Option Value)) (st : List Value) {β : Type} (F : Option β) (G : β → Option Rs) : Prop :=
  ∀ res : Rs, F.bind G = some res → Vd X u M pc loc st res
section JA
variable {X : Xc} {u : Nat × Nat} {M : Me} {pc q : Nat} {loc : List (Option Value)} {st : List Value} {β : Type} {F : Option β} {G : β → Option Rs}
/-- constants -/
theorem v_iconst {n : Int} {v : Int32} (hdg : decode X.1.2.1 pc = .ok (.iconst n, 1)) (hq : pc + 1 = q) (hv : Int32.ofInt n = v) (k : V X u M q loc (.int v :: st) F G) : V X u M pc loc st F G := by
  subst hq
  intro res hres p l e s m args below meth c K b H locs ls A hP hS hz hl
  exact lv_iconst A.1 A.2.1 hdg hv (k res hres p l e s m args below meth c K b H locs ls A hP hS hz hl)
theorem v_bipush {n : Int} {v : Int32} (hdg : decode X.1.2.1 pc = .ok (.bipush n, 2)) (hq : pc + 2 = q) (hv : (Int8.ofInt n).toInt32 = v) (k : V X u M q loc (.int v :: st) F G) : V X u M pc loc st F G := by
  subst hq
  intro res hres p l e s m args below meth c K b H locs ls A hP hS hz hl
  exact lv_bipush A.1 A.2.1 hdg hv (k res hres p l e s m args below meth c K b H locs ls A hP hS hz hl)
theorem v_sipush {n : Int} {v : Int32} (hdg : decode X.1.2.1 pc = .ok (.sipush n, 3)) (hq : pc + 3 = q) (hv : (Int16.ofInt n).toInt32 = v) (k : V X u M q loc (.int v :: st) F G) : V X u M pc loc st F G := by
  subst hq
  intro res hres p l e s m args below meth c K b H locs ls A hP hS hz hl
  exact lv_sipush A.1 A.2.1 hdg hv (k res hres p l e s m args below meth c K b H locs ls A hP hS hz hl)
theorem v_lconst {n : Fin 2} {v : Int64} (hdg : decode X.1.2.1 pc = .ok (.lconst n, 1)) (hq : pc + 1 = q) (hv : Int64.ofNat (n : Nat) = v) (k : V X u M q loc (.long v :: st) F G) : V X u M pc loc st F G := by
  subst hq
  intro res hres p l e s m args below meth c K b H locs ls A hP hS hz hl
  exact lv_lconst A.1 A.2.1 hdg hv (k res hres p l e s m args below meth c K b H locs ls A hP hS hz hl)
theorem v_ldc {index : Nat} {v : Int32} (hc : Cond.constant X.1.1 index v ∈ gw_s) (hdg : decode X.1.2.1 pc = .ok (.ldc index, 2)) (hq : pc + 2 = q) (k : V X u M q loc (.int v :: st) F G) : V X u M pc loc st F G := by
  subst hq
  intro res hres p l e s m args below meth c K b H locs ls A hP hS hz hl
  exact lv_ldc A.1 A.2.1 A.2.2.2.2.1 (A.2.2.2.2.2.1 _ hc) hdg (k res hres p l e s m args below meth c K b H locs ls A hP hS hz hl)
theorem v_ldcw {index : Nat} {v : Int32} (hc : Cond.constant X.1.1 index v ∈ gw_s) (hdg : decode X.1.2.1 pc = .ok (.ldc_w index, 3)) (hq : pc + 3 = q) (k : V X u M q loc (.int v :: st) F G) : V X u M pc loc st F G := by
  subst hq
  intro res hres p l e s m args below meth c K b H locs ls A hP hS hz hl
  exact lv_ldcw A.1 A.2.1 A.2.2.2.2.1 (A.2.2.2.2.2.1 _ hc) hdg (k res hres p l e s m args below meth c K b H locs ls A hP hS hz hl)
theorem v_ldc2 {index : Nat} {v : Int64} (hc : Cond.constantLong X.1.1 index v ∈ gw_s) (hdg : decode X.1.2.1 pc = .ok (.ldc2_w index, 3)) (hq : pc + 3 = q) (k : V X u M q loc (.long v :: st) F G) : V X u M pc loc st F G := by
  subst hq
  intro res hres p l e s m args below meth c K b H locs ls A hP hS hz hl
  exact lv_ldc2 A.1 A.2.1 A.2.2.2.2.1 (A.2.2.2.2.2.1 _ hc) hdg (k res hres p l e s m args below meth c K b H locs ls A hP hS hz hl)
/-- loads, by the place in the list of locals -/
theorem v_iload_n {j : Fin 4} {i : Nat} {x : Int32} (hdg : decode X.1.2.1 pc = .ok (.iload_n j, 1)) (hq : pc + 1 = q) (hj : (j : Nat) = i) (hl0 : loc[i]? = some (some (.int x))) (k : V X u M q loc (.int x :: st) F G) : V X u M pc loc st F G := by
  subst hq
  intro res hres p l e s m args below meth c K b H locs ls A hP hS hz hl
  exact lv_iload_n A.1 A.2.1 hdg hj (hl.2.2 i _ hl0) (k res hres p l e s m args below meth c K b H locs ls A hP hS hz hl)
theorem v_iload {i : Nat} {x : Int32} (hdg : decode X.1.2.1 pc = .ok (.iload i, 2)) (hq : pc + 2 = q) (hl0 : loc[i]? = some (some (.int x))) (k : V X u M q loc (.int x :: st) F G) : V X u M pc loc st F G := by
  subst hq
  intro res hres p l e s m args below meth c K b H locs ls A hP hS hz hl
  exact lv_iload A.1 A.2.1 hdg (hl.2.2 i _ hl0) (k res hres p l e s m args below meth c K b H locs ls A hP hS hz hl)
theorem v_lload_n {j : Fin 4} {i : Nat} {x : Int64} (hdg : decode X.1.2.1 pc = .ok (.lload_n j, 1)) (hq : pc + 1 = q) (hj : (j : Nat) = i) (hl0 : loc[i]? = some (some (.long x))) (k : V X u M q loc (.long x :: st) F G) : V X u M pc loc st F G := by
  subst hq
  intro res hres p l e s m args below meth c K b H locs ls A hP hS hz hl
  exact lv_lload_n A.1 A.2.1 hdg hj (hl.2.2 i _ hl0) (k res hres p l e s m args below meth c K b H locs ls A hP hS hz hl)
theorem v_lload {i : Nat} {x : Int64} (hdg : decode X.1.2.1 pc = .ok (.lload i, 2)) (hq : pc + 2 = q) (hl0 : loc[i]? = some (some (.long x))) (k : V X u M q loc (.long x :: st) F G) : V X u M pc loc st F G := by
  subst hq
  intro res hres p l e s m args below meth c K b H locs ls A hP hS hz hl
  exact lv_lload A.1 A.2.1 hdg (hl.2.2 i _ hl0) (k res hres p l e s m args below meth c K b H locs ls A hP hS hz hl)
theorem v_aload_n {j : Fin 4} {i : Nat} {x : Nat} (hdg : decode X.1.2.1 pc = .ok (.aload_n j, 1)) (hq : pc + 1 = q) (hj : (j : Nat) = i) (hl0 : loc[i]? = some (some (.ref x))) (k : V X u M q loc (.ref x :: st) F G) : V X u M pc loc st F G := by
  subst hq
  intro res hres p l e s m args below meth c K b H locs ls A hP hS hz hl
  exact lv_aload_n A.1 A.2.1 hdg hj (hl.2.2 i _ hl0) (k res hres p l e s m args below meth c K b H locs ls A hP hS hz hl)
theorem v_aload {i : Nat} {x : Nat} (hdg : decode X.1.2.1 pc = .ok (.aload i, 2)) (hq : pc + 2 = q) (hl0 : loc[i]? = some (some (.ref x))) (k : V X u M q loc (.ref x :: st) F G) : V X u M pc loc st F G := by
  subst hq
  intro res hres p l e s m args below meth c K b H locs ls A hP hS hz hl
  exact lv_aload A.1 A.2.1 hdg (hl.2.2 i _ hl0) (k res hres p l e s m args below meth c K b H locs ls A hP hS hz hl)
end JA
/-- no value of two places right ahead of this one -/
def nl_k (loc : List (Option Value)) (k : Nat) : Bool := match k with
  | 0 => true
  | j + 1 => match loc[j]? with
    | some (some v) => v.category == 1
    | _ => true
theorem lo_has {b nL : Nat} {loc : List (Option Value)} {ls : Array Slot} (h : lo_k b nL loc ls) : lv_has ls nL ((List.range loc.length).filterMap (fun k => (loc[k]?.join).map (fun v => (k, up_v b v)))) := by
  refine ⟨h.1, h.2.1, fun q hq => ?_⟩
  obtain ⟨k, -, hk⟩ := List.mem_filterMap.mp hq
  obtain ⟨v, hv, rfl⟩ := Option.map_eq_some_iff.mp hk
  have h3 : loc[k]? = some (some v) := by
    cases h4 : loc[k]? with
    | none => rw [h4] at hv; cases hv
    | some z => rw [h4] at hv; cases z with
      | none => cases hv
      | some w => rw [show w = v from Option.some.inj hv]
  exact h.2.2 k v h3
theorem lo_mem {b : Nat} {loc : List (Option Value)} {k : Nat} {v : Value} (h : loc[k]? = some (some v)) : (k, up_v b v) ∈ (List.range loc.length).filterMap (fun k => (loc[k]?.join).map (fun v => (k, up_v b v))) := by
  refine List.mem_filterMap.mpr ⟨k, List.mem_range.mpr (List.getElem?_eq_some_iff.mp h).1, ?_⟩
  rw [h]; rfl
theorem lo_st1 {b nL : Nat} {loc : List (Option Value)} {ls2 : Array Slot} {i : Nat} {v : Value} (hn : nl_k loc i = true)
    (h : lv_has ls2 nL ((i, up_v b v) :: ((List.range loc.length).filterMap (fun k => (loc[k]?.join).map (fun v => (k, up_v b v)))).filter (fun q => !(q.1 == i) && !(q.1 + 1 == i && q.2.category == 2)))) : lo_k b nL (loc.set i (some v)) ls2 := by
  refine ⟨h.1, h.2.1, fun k w hk => ?_⟩
  rw [List.getElem?_set] at hk
  by_cases hi : i = k
  · subst hi
    rw [if_pos rfl] at hk
    split at hk
    · cases hk
      exact h.2.2 _ List.mem_cons_self
    · cases hk
  · rw [if_neg hi] at hk
    refine h.2.2 (k, up_v b w) (List.mem_cons_of_mem _ (List.mem_filter.mpr ⟨lo_mem hk, ?_⟩))
    have h1 : (k == i) = false := by simp; exact fun q => hi q.symm
    by_cases h2 : k + 1 = i
    · subst h2
      have h3 : w.category = 1 := by
        unfold nl_k at hn
        simp only [hk] at hn
        simpa using hn
      simp [up_cat, h3]
    · simp [h2]; exact fun q => hi q.symm
theorem lo_st2 {b nL : Nat} {loc : List (Option Value)} {ls2 : Array Slot} {i : Nat} {v : Value} (hn : nl_k loc i = true)
    (h : lv_has ls2 nL ((i, up_v b v) :: ((List.range loc.length).filterMap (fun k => (loc[k]?.join).map (fun v => (k, up_v b v)))).filter (fun q => !(q.1 == i) && (!(q.1 == i + 1) && !(q.1 + 1 == i && q.2.category == 2))))) : lo_k b nL ((loc.set i (some v)).set (i + 1) none) ls2 := by
  refine ⟨h.1, h.2.1, fun k w hk => ?_⟩
  rw [List.getElem?_set] at hk
  by_cases hi1 : i + 1 = k
  · subst hi1
    rw [if_pos rfl] at hk
    split at hk <;> cases hk
  · rw [if_neg hi1, List.getElem?_set] at hk
    by_cases hi : i = k
    · subst hi
      rw [if_pos rfl] at hk
      split at hk
      · cases hk
        exact h.2.2 _ List.mem_cons_self
      · cases hk
    · rw [if_neg hi] at hk
      refine h.2.2 (k, up_v b w) (List.mem_cons_of_mem _ (List.mem_filter.mpr ⟨lo_mem hk, ?_⟩))
      by_cases h2 : k + 1 = i
      · subst h2
        have h3 : w.category = 1 := by
          unfold nl_k at hn
          simp only [hk] at hn
          simpa using hn
        simp [up_cat, h3]
        omega
      · simp [h2]
        exact ⟨fun q => hi q.symm, fun q => hi1 q.symm⟩
section JB
variable {X : Xc} {u : Nat × Nat} {M : Me} {pc q : Nat} {loc loc2 : List (Option Value)} {st : List Value} {β : Type} {F : Option β} {G : β → Option Rs}
theorem v_istore_n {j : Fin 4} {i : Nat} {x : Int32} (hdg : decode X.1.2.1 pc = .ok (.istore_n j, 1)) (hq : pc + 1 = q) (hj : (j : Nat) = i) (hn : nl_k loc i = true) (hL : i < X.1.2.2.1) (he : loc.set i (some (.int x)) = loc2) (k : V X u M q loc2 st F G) : V X u M pc loc (.int x :: st) F G := by
  subst hq; subst he
  intro res hres p l e s m args below meth c K b H locs ls A hP hS hz hl
  exact lv_istore_n A.1 A.2.1 hdg hj (lo_has hl) hL rfl (fun ls2 h2 => k res hres p l e s m args below meth c K b H locs ls2 A hP hS hz (lo_st1 (v := .int x) hn h2))
theorem v_istore {i : Nat} {x : Int32} (hdg : decode X.1.2.1 pc = .ok (.istore i, 2)) (hq : pc + 2 = q) (hn : nl_k loc i = true) (hL : i < X.1.2.2.1) (he : loc.set i (some (.int x)) = loc2) (k : V X u M q loc2 st F G) : V X u M pc loc (.int x :: st) F G := by
  subst hq; subst he
  intro res hres p l e s m args below meth c K b H locs ls A hP hS hz hl
  exact lv_istore A.1 A.2.1 hdg (lo_has hl) hL rfl (fun ls2 h2 => k res hres p l e s m args below meth c K b H locs ls2 A hP hS hz (lo_st1 (v := .int x) hn h2))
theorem v_lstore_n {j : Fin 4} {i : Nat} {x : Int64} (hdg : decode X.1.2.1 pc = .ok (.lstore_n j, 1)) (hq : pc + 1 = q) (hj : (j : Nat) = i) (hn : nl_k loc i = true) (hL : i + 1 < X.1.2.2.1) (he : (loc.set i (some (.long x))).set (i + 1) none = loc2) (k : V X u M q loc2 st F G) : V X u M pc loc (.long x :: st) F G := by
  subst hq; subst he
  intro res hres p l e s m args below meth c K b H locs ls A hP hS hz hl
  exact lv_lstore_n A.1 A.2.1 hdg hj (lo_has hl) hL rfl (fun ls2 h2 => k res hres p l e s m args below meth c K b H locs ls2 A hP hS hz (lo_st2 (v := .long x) hn h2))
theorem v_lstore {i : Nat} {x : Int64} (hdg : decode X.1.2.1 pc = .ok (.lstore i, 2)) (hq : pc + 2 = q) (hn : nl_k loc i = true) (hL : i + 1 < X.1.2.2.1) (he : (loc.set i (some (.long x))).set (i + 1) none = loc2) (k : V X u M q loc2 st F G) : V X u M pc loc (.long x :: st) F G := by
  subst hq; subst he
  intro res hres p l e s m args below meth c K b H locs ls A hP hS hz hl
  exact lv_lstore A.1 A.2.1 hdg (lo_has hl) hL rfl (fun ls2 h2 => k res hres p l e s m args below meth c K b H locs ls2 A hP hS hz (lo_st2 (v := .long x) hn h2))
theorem v_astore_n {j : Fin 4} {i : Nat} {x : Nat} (hdg : decode X.1.2.1 pc = .ok (.astore_n j, 1)) (hq : pc + 1 = q) (hj : (j : Nat) = i) (hn : nl_k loc i = true) (hL : i < X.1.2.2.1) (he : loc.set i (some (.ref x)) = loc2) (k : V X u M q loc2 st F G) : V X u M pc loc (.ref x :: st) F G := by
  subst hq; subst he
  intro res hres p l e s m args below meth c K b H locs ls A hP hS hz hl
  exact lv_astore_n A.1 A.2.1 hdg hj (lo_has hl) hL rfl (fun ls2 h2 => k res hres p l e s m args below meth c K b H locs ls2 A hP hS hz (lo_st1 (v := .ref x) hn h2))
theorem v_astore {i : Nat} {x : Nat} (hdg : decode X.1.2.1 pc = .ok (.astore i, 2)) (hq : pc + 2 = q) (hn : nl_k loc i = true) (hL : i < X.1.2.2.1) (he : loc.set i (some (.ref x)) = loc2) (k : V X u M q loc2 st F G) : V X u M pc loc (.ref x :: st) F G := by
  subst hq; subst he
  intro res hres p l e s m args below meth c K b H locs ls A hP hS hz hl
  exact lv_astore A.1 A.2.1 hdg (lo_has hl) hL rfl (fun ls2 h2 => k res hres p l e s m args below meth c K b H locs ls2 A hP hS hz (lo_st1 (v := .ref x) hn h2))
theorem v_iinc {i : Nat} {n : Int} {x v : Int32} (hdg : decode X.1.2.1 pc = .ok (.iinc i n, 3)) (hq : pc + 3 = q) (hl0 : loc[i]? = some (some (.int x))) (hv : x + Int32.ofInt n = v) (hn : nl_k loc i = true) (hL : i < X.1.2.2.1) (he : loc.set i (some (.int v)) = loc2) (k : V X u M q loc2 st F G) : V X u M pc loc st F G := by
  subst hq; subst he
  intro res hres p l e s m args below meth c K b H locs ls A hP hS hz hl
  obtain ⟨kk, hkk⟩ := List.getElem?_of_mem (lo_mem (b := b) hl0)
  exact lv_iinc A.1 A.2.1 hdg (lo_has hl) hkk hv hL rfl (fun ls2 h2 => k res hres p l e s m args below meth c K b H locs ls2 A hP hS hz (lo_st1 (v := .int v) hn h2))
end JB
end
section
section JC
variable {X : Xc} {u : Nat × Nat} {M : Me} {pc q : Nat} {loc : List (Option Value)} {st : List Value} {β : Type} {F F1 F2 : Option β} {G : β → Option Rs}
theorem v_iadd {x y : Int32} (hdg : decode X.1.2.1 pc = .ok (.iadd, 1)) (hq : pc + 1 = q) (k : V X u M q loc (.int (x + y) :: st) F G) : V X u M pc loc (.int y :: .int x :: st) F G := by
  subst hq
  intro res hres p l e s m args below meth c K b H locs ls A hP hS hz hl
  exact lv_iadd A.1 A.2.1 hdg (k res hres p l e s m args below meth c K b H locs ls A hP hS hz hl)
theorem v_isub {x y : Int32} (hdg : decode X.1.2.1 pc = .ok (.isub, 1)) (hq : pc + 1 = q) (k : V X u M q loc (.int (x - y) :: st) F G) : V X u M pc loc (.int y :: .int x :: st) F G := by
  subst hq
  intro res hres p l e s m args below meth c K b H locs ls A hP hS hz hl
  exact lv_isub A.1 A.2.1 hdg (k res hres p l e s m args below meth c K b H locs ls A hP hS hz hl)
theorem v_imul {x y : Int32} (hdg : decode X.1.2.1 pc = .ok (.imul, 1)) (hq : pc + 1 = q) (k : V X u M q loc (.int (x * y) :: st) F G) : V X u M pc loc (.int y :: .int x :: st) F G := by
  subst hq
  intro res hres p l e s m args below meth c K b H locs ls A hP hS hz hl
  exact lv_imul A.1 A.2.1 hdg (k res hres p l e s m args below meth c K b H locs ls A hP hS hz hl)
theorem v_iand {x y : Int32} (hdg : decode X.1.2.1 pc = .ok (.iand, 1)) (hq : pc + 1 = q) (k : V X u M q loc (.int (x &&& y) :: st) F G) : V X u M pc loc (.int y :: .int x :: st) F G := by
  subst hq
  intro res hres p l e s m args below meth c K b H locs ls A hP hS hz hl
  exact lv_iand A.1 A.2.1 hdg (k res hres p l e s m args below meth c K b H locs ls A hP hS hz hl)
theorem v_ior {x y : Int32} (hdg : decode X.1.2.1 pc = .ok (.ior, 1)) (hq : pc + 1 = q) (k : V X u M q loc (.int (x ||| y) :: st) F G) : V X u M pc loc (.int y :: .int x :: st) F G := by
  subst hq
  intro res hres p l e s m args below meth c K b H locs ls A hP hS hz hl
  exact lv_ior A.1 A.2.1 hdg (k res hres p l e s m args below meth c K b H locs ls A hP hS hz hl)
theorem v_ixor {x y : Int32} (hdg : decode X.1.2.1 pc = .ok (.ixor, 1)) (hq : pc + 1 = q) (k : V X u M q loc (.int (x ^^^ y) :: st) F G) : V X u M pc loc (.int y :: .int x :: st) F G := by
  subst hq
  intro res hres p l e s m args below meth c K b H locs ls A hP hS hz hl
  exact lv_ixor A.1 A.2.1 hdg (k res hres p l e s m args below meth c K b H locs ls A hP hS hz hl)
theorem v_ishl {x y : Int32} (hdg : decode X.1.2.1 pc = .ok (.ishl, 1)) (hq : pc + 1 = q) (k : V X u M q loc (.int (x <<< (y &&& 31)) :: st) F G) : V X u M pc loc (.int y :: .int x :: st) F G := by
  subst hq
  intro res hres p l e s m args below meth c K b H locs ls A hP hS hz hl
  exact lv_ishl A.1 A.2.1 hdg (k res hres p l e s m args below meth c K b H locs ls A hP hS hz hl)
theorem v_ishr {x y : Int32} (hdg : decode X.1.2.1 pc = .ok (.ishr, 1)) (hq : pc + 1 = q) (k : V X u M q loc (.int (x >>> (y &&& 31)) :: st) F G) : V X u M pc loc (.int y :: .int x :: st) F G := by
  subst hq
  intro res hres p l e s m args below meth c K b H locs ls A hP hS hz hl
  exact lv_ishr A.1 A.2.1 hdg (k res hres p l e s m args below meth c K b H locs ls A hP hS hz hl)
theorem v_ladd {x y : Int64} (hdg : decode X.1.2.1 pc = .ok (.ladd, 1)) (hq : pc + 1 = q) (k : V X u M q loc (.long (x + y) :: st) F G) : V X u M pc loc (.long y :: .long x :: st) F G := by
  subst hq
  intro res hres p l e s m args below meth c K b H locs ls A hP hS hz hl
  exact lv_ladd A.1 A.2.1 hdg (k res hres p l e s m args below meth c K b H locs ls A hP hS hz hl)
theorem v_lsub {x y : Int64} (hdg : decode X.1.2.1 pc = .ok (.lsub, 1)) (hq : pc + 1 = q) (k : V X u M q loc (.long (x - y) :: st) F G) : V X u M pc loc (.long y :: .long x :: st) F G := by
  subst hq
  intro res hres p l e s m args below meth c K b H locs ls A hP hS hz hl
  exact lv_lsub A.1 A.2.1 hdg (k res hres p l e s m args below meth c K b H locs ls A hP hS hz hl)
theorem v_lmul {x y : Int64} (hdg : decode X.1.2.1 pc = .ok (.lmul, 1)) (hq : pc + 1 = q) (k : V X u M q loc (.long (x * y) :: st) F G) : V X u M pc loc (.long y :: .long x :: st) F G := by
  subst hq
  intro res hres p l e s m args below meth c K b H locs ls A hP hS hz hl
  exact lv_lmul A.1 A.2.1 hdg (k res hres p l e s m args below meth c K b H locs ls A hP hS hz hl)
theorem v_idivc {x y : Int32} (hdg : decode X.1.2.1 pc = .ok (.idiv, 1)) (hq : pc + 1 = q) (hne : ¬ y = 0) (k : V X u M q loc (.int (x / y) :: st) F G) : V X u M pc loc (.int y :: .int x :: st) F G := by
  subst hq
  intro res hres p l e s m args below meth c K b H locs ls A hP hS hz hl
  exact lv_idiv A.1 A.2.1 hdg hne (k res hres p l e s m args below meth c K b H locs ls A hP hS hz hl)
theorem v_idiv {x y : Int32} (hdg : decode X.1.2.1 pc = .ok (.idiv, 1)) (hq : pc + 1 = q) (k : V X u M q loc (.int (x / y) :: st) F G) : V X u M pc loc (.int y :: .int x :: st) (if y = 0 then none else F) G := by
  intro res hres
  by_cases hne : y = 0
  · rw [if_pos hne] at hres; cases hres
  · rw [if_neg hne] at hres; exact v_idivc hdg hq hne k res hres
theorem v_iremc {x y : Int32} (hdg : decode X.1.2.1 pc = .ok (.irem, 1)) (hq : pc + 1 = q) (hne : ¬ y = 0) (k : V X u M q loc (.int (x - x / y * y) :: st) F G) : V X u M pc loc (.int y :: .int x :: st) F G := by
  subst hq
  intro res hres p l e s m args below meth c K b H locs ls A hP hS hz hl
  exact lv_irem A.1 A.2.1 hdg hne (k res hres p l e s m args below meth c K b H locs ls A hP hS hz hl)
theorem v_irem {x y : Int32} (hdg : decode X.1.2.1 pc = .ok (.irem, 1)) (hq : pc + 1 = q) (k : V X u M q loc (.int (x - x / y * y) :: st) F G) : V X u M pc loc (.int y :: .int x :: st) (if y = 0 then none else F) G := by
  intro res hres
  by_cases hne : y = 0
  · rw [if_pos hne] at hres; cases hres
  · rw [if_neg hne] at hres; exact v_iremc hdg hq hne k res hres
theorem v_ldivc {x y : Int64} (hdg : decode X.1.2.1 pc = .ok (.ldiv, 1)) (hq : pc + 1 = q) (hne : ¬ y = 0) (k : V X u M q loc (.long (x / y) :: st) F G) : V X u M pc loc (.long y :: .long x :: st) F G := by
  subst hq
  intro res hres p l e s m args below meth c K b H locs ls A hP hS hz hl
  exact lv_ldiv A.1 A.2.1 hdg hne (k res hres p l e s m args below meth c K b H locs ls A hP hS hz hl)
theorem v_ldiv {x y : Int64} (hdg : decode X.1.2.1 pc = .ok (.ldiv, 1)) (hq : pc + 1 = q) (k : V X u M q loc (.long (x / y) :: st) F G) : V X u M pc loc (.long y :: .long x :: st) (if y = 0 then none else F) G := by
  intro res hres
  by_cases hne : y = 0
  · rw [if_pos hne] at hres; cases hres
  · rw [if_neg hne] at hres; exact v_ldivc hdg hq hne k res hres
theorem v_lremc {x y : Int64} (hdg : decode X.1.2.1 pc = .ok (.lrem, 1)) (hq : pc + 1 = q) (hne : ¬ y = 0) (k : V X u M q loc (.long (x - x / y * y) :: st) F G) : V X u M pc loc (.long y :: .long x :: st) F G := by
  subst hq
  intro res hres p l e s m args below meth c K b H locs ls A hP hS hz hl
  exact lv_lrem A.1 A.2.1 hdg hne (k res hres p l e s m args below meth c K b H locs ls A hP hS hz hl)
theorem v_lrem {x y : Int64} (hdg : decode X.1.2.1 pc = .ok (.lrem, 1)) (hq : pc + 1 = q) (k : V X u M q loc (.long (x - x / y * y) :: st) F G) : V X u M pc loc (.long y :: .long x :: st) (if y = 0 then none else F) G := by
  intro res hres
  by_cases hne : y = 0
  · rw [if_pos hne] at hres; cases hres
  · rw [if_neg hne] at hres; exact v_lremc hdg hq hne k res hres
theorem v_iushr {x y : Int32} (hdg : decode X.1.2.1 pc = .ok (.iushr, 1)) (hq : pc + 1 = q) (k : V X u M q loc (.int ((x.toUInt32 >>> (y.toUInt32 &&& Int32.toUInt32 31)).toInt32) :: st) F G) : V X u M pc loc (.int y :: .int x :: st) F G := by
  subst hq
  intro res hres p l e s m args below meth c K b H locs ls A hP hS hz hl
  exact lv_iushr A.1 A.2.1 hdg rfl (k res hres p l e s m args below meth c K b H locs ls A hP hS hz hl)
theorem v_i2l {x : Int32} (hdg : decode X.1.2.1 pc = .ok (.i2l, 1)) (hq : pc + 1 = q) (k : V X u M q loc (.long x.toInt64 :: st) F G) : V X u M pc loc (.int x :: st) F G := by
  subst hq
  intro res hres p l e s m args below meth c K b H locs ls A hP hS hz hl
  exact lv_i2l A.1 A.2.1 hdg rfl (k res hres p l e s m args below meth c K b H locs ls A hP hS hz hl)
theorem v_dup {v : Value} (hdg : decode X.1.2.1 pc = .ok (.dup, 1)) (hq : pc + 1 = q) (hv : v.category = 1) (k : V X u M q loc (v :: v :: st) F G) : V X u M pc loc (v :: st) F G := by
  subst hq
  intro res hres p l e s m args below meth c K b H locs ls A hP hS hz hl
  exact lv_dup A.1 A.2.1 hdg (by rw [up_cat]; exact hv) (k res hres p l e s m args below meth c K b H locs ls A hP hS hz hl)
theorem v_pop {v : Value} (hdg : decode X.1.2.1 pc = .ok (.pop, 1)) (hq : pc + 1 = q) (hv : v.category = 1) (k : V X u M q loc st F G) : V X u M pc loc (v :: st) F G := by
  subst hq
  intro res hres p l e s m args below meth c K b H locs ls A hP hS hz hl
  exact lv_pop A.1 A.2.1 hdg (by rw [up_cat]; exact hv) (k res hres p l e s m args below meth c K b H locs ls A hP hS hz hl)
theorem v_pop2 {v : Value} (hdg : decode X.1.2.1 pc = .ok (.pop2, 1)) (hq : pc + 1 = q) (hv : v.category = 2) (k : V X u M q loc st F G) : V X u M pc loc (v :: st) F G := by
  subst hq
  intro res hres p l e s m args below meth c K b H locs ls A hP hS hz hl
  exact lv_pop2_2 A.1 A.2.1 hdg (by rw [up_cat]; exact hv) (k res hres p l e s m args below meth c K b H locs ls A hP hS hz hl)
theorem v_dup2 {v w : Value} (hdg : decode X.1.2.1 pc = .ok (.dup2, 1)) (hq : pc + 1 = q) (hv : v.category = 1) (hw : w.category = 1) (k : V X u M q loc (v :: w :: v :: w :: st) F G) : V X u M pc loc (v :: w :: st) F G := by
  subst hq
  intro res hres p l e s m args below meth c K b H locs ls A hP hS hz hl
  exact lv_dup2_11 A.1 A.2.1 hdg (by rw [up_cat]; exact hv) (by rw [up_cat]; exact hw) (k res hres p l e s m args below meth c K b H locs ls A hP hS hz hl)
theorem v_dupx1 {v w : Value} (hdg : decode X.1.2.1 pc = .ok (.dup_x1, 1)) (hq : pc + 1 = q) (hv : v.category = 1) (hw : w.category = 1) (k : V X u M q loc (v :: w :: v :: st) F G) : V X u M pc loc (v :: w :: st) F G := by
  subst hq
  intro res hres p l e s m args below meth c K b H locs ls A hP hS hz hl
  exact lv_dup_x1 A.1 A.2.1 hdg (by rw [up_cat]; exact hv) (by rw [up_cat]; exact hw) (k res hres p l e s m args below meth c K b H locs ls A hP hS hz hl)
theorem v_icmp_eq {x y : Int32} {off : Int} {tgt : Nat} (hdg : decode X.1.2.1 pc = .ok (.if_icmp .eq off, 3)) (ht : (pc : Int) + off = (tgt : Int)) (hq : pc + 3 = q) (k1 : V X u M tgt loc st F1 G) (k2 : V X u M q loc st F2 G) : V X u M pc loc (.int y :: .int x :: st) (if x = y then F1 else F2) G := by
  subst hq
  intro res hres p l e s m args below meth c K b H locs ls A hP hS hz hl
  exact lv_icmp_eq A.1 A.2.1 hdg ht (fun hc => (k1 res (by rw [if_pos hc] at hres; exact hres) p l e s m args below meth c K b H locs ls A hP hS hz hl)) (fun hc => (k2 res (by rw [if_neg hc] at hres; exact hres) p l e s m args below meth c K b H locs ls A hP hS hz hl))
theorem v_icmp_ne {x y : Int32} {off : Int} {tgt : Nat} (hdg : decode X.1.2.1 pc = .ok (.if_icmp .ne off, 3)) (ht : (pc : Int) + off = (tgt : Int)) (hq : pc + 3 = q) (k1 : V X u M tgt loc st F1 G) (k2 : V X u M q loc st F2 G) : V X u M pc loc (.int y :: .int x :: st) (if x = y then F2 else F1) G := by
  subst hq
  intro res hres p l e s m args below meth c K b H locs ls A hP hS hz hl
  exact lv_icmp_ne A.1 A.2.1 hdg ht (fun hc => (k1 res (by rw [if_neg hc] at hres; exact hres) p l e s m args below meth c K b H locs ls A hP hS hz hl)) (fun hc => (k2 res (by rw [if_pos hc] at hres; exact hres) p l e s m args below meth c K b H locs ls A hP hS hz hl))
theorem v_icmp_lt {x y : Int32} {off : Int} {tgt : Nat} (hdg : decode X.1.2.1 pc = .ok (.if_icmp .lt off, 3)) (ht : (pc : Int) + off = (tgt : Int)) (hq : pc + 3 = q) (k1 : V X u M tgt loc st F1 G) (k2 : V X u M q loc st F2 G) : V X u M pc loc (.int y :: .int x :: st) (if x < y then F1 else F2) G := by
  subst hq
  intro res hres p l e s m args below meth c K b H locs ls A hP hS hz hl
  exact lv_icmp_lt A.1 A.2.1 hdg ht (fun hc => (k1 res (by rw [if_pos hc] at hres; exact hres) p l e s m args below meth c K b H locs ls A hP hS hz hl)) (fun hc => (k2 res (by rw [if_neg hc] at hres; exact hres) p l e s m args below meth c K b H locs ls A hP hS hz hl))
theorem v_icmp_ge {x y : Int32} {off : Int} {tgt : Nat} (hdg : decode X.1.2.1 pc = .ok (.if_icmp .ge off, 3)) (ht : (pc : Int) + off = (tgt : Int)) (hq : pc + 3 = q) (k1 : V X u M tgt loc st F1 G) (k2 : V X u M q loc st F2 G) : V X u M pc loc (.int y :: .int x :: st) (if y ≤ x then F1 else F2) G := by
  subst hq
  intro res hres p l e s m args below meth c K b H locs ls A hP hS hz hl
  exact lv_icmp_ge A.1 A.2.1 hdg ht (fun hc => (k1 res (by rw [if_pos hc] at hres; exact hres) p l e s m args below meth c K b H locs ls A hP hS hz hl)) (fun hc => (k2 res (by rw [if_neg hc] at hres; exact hres) p l e s m args below meth c K b H locs ls A hP hS hz hl))
theorem v_icmp_gt {x y : Int32} {off : Int} {tgt : Nat} (hdg : decode X.1.2.1 pc = .ok (.if_icmp .gt off, 3)) (ht : (pc : Int) + off = (tgt : Int)) (hq : pc + 3 = q) (k1 : V X u M tgt loc st F1 G) (k2 : V X u M q loc st F2 G) : V X u M pc loc (.int y :: .int x :: st) (if y < x then F1 else F2) G := by
  subst hq
  intro res hres p l e s m args below meth c K b H locs ls A hP hS hz hl
  exact lv_icmp_gt A.1 A.2.1 hdg ht (fun hc => (k1 res (by rw [if_pos hc] at hres; exact hres) p l e s m args below meth c K b H locs ls A hP hS hz hl)) (fun hc => (k2 res (by rw [if_neg hc] at hres; exact hres) p l e s m args below meth c K b H locs ls A hP hS hz hl))
theorem v_icmp_le {x y : Int32} {off : Int} {tgt : Nat} (hdg : decode X.1.2.1 pc = .ok (.if_icmp .le off, 3)) (ht : (pc : Int) + off = (tgt : Int)) (hq : pc + 3 = q) (k1 : V X u M tgt loc st F1 G) (k2 : V X u M q loc st F2 G) : V X u M pc loc (.int y :: .int x :: st) (if x ≤ y then F1 else F2) G := by
  subst hq
  intro res hres p l e s m args below meth c K b H locs ls A hP hS hz hl
  exact lv_icmp_le A.1 A.2.1 hdg ht (fun hc => (k1 res (by rw [if_pos hc] at hres; exact hres) p l e s m args below meth c K b H locs ls A hP hS hz hl)) (fun hc => (k2 res (by rw [if_neg hc] at hres; exact hres) p l e s m args below meth c K b H locs ls A hP hS hz hl))
theorem v_if_eq {x : Int32} {off : Int} {tgt : Nat} (hdg : decode X.1.2.1 pc = .ok (.ifCond .eq off, 3)) (ht : (pc : Int) + off = (tgt : Int)) (hq : pc + 3 = q) (k1 : V X u M tgt loc st F1 G) (k2 : V X u M q loc st F2 G) : V X u M pc loc (.int x :: st) (if x = 0 then F1 else F2) G := by
  subst hq
  intro res hres p l e s m args below meth c K b H locs ls A hP hS hz hl
  exact lv_if_eq A.1 A.2.1 hdg ht (fun hc => (k1 res (by rw [if_pos hc] at hres; exact hres) p l e s m args below meth c K b H locs ls A hP hS hz hl)) (fun hc => (k2 res (by rw [if_neg hc] at hres; exact hres) p l e s m args below meth c K b H locs ls A hP hS hz hl))
theorem v_if_ne {x : Int32} {off : Int} {tgt : Nat} (hdg : decode X.1.2.1 pc = .ok (.ifCond .ne off, 3)) (ht : (pc : Int) + off = (tgt : Int)) (hq : pc + 3 = q) (k1 : V X u M tgt loc st F1 G) (k2 : V X u M q loc st F2 G) : V X u M pc loc (.int x :: st) (if x = 0 then F2 else F1) G := by
  subst hq
  intro res hres p l e s m args below meth c K b H locs ls A hP hS hz hl
  exact lv_if_ne A.1 A.2.1 hdg ht (fun hc => (k1 res (by rw [if_neg hc] at hres; exact hres) p l e s m args below meth c K b H locs ls A hP hS hz hl)) (fun hc => (k2 res (by rw [if_pos hc] at hres; exact hres) p l e s m args below meth c K b H locs ls A hP hS hz hl))
theorem v_if_lt {x : Int32} {off : Int} {tgt : Nat} (hdg : decode X.1.2.1 pc = .ok (.ifCond .lt off, 3)) (ht : (pc : Int) + off = (tgt : Int)) (hq : pc + 3 = q) (k1 : V X u M tgt loc st F1 G) (k2 : V X u M q loc st F2 G) : V X u M pc loc (.int x :: st) (if x < 0 then F1 else F2) G := by
  subst hq
  intro res hres p l e s m args below meth c K b H locs ls A hP hS hz hl
  exact lv_if_lt A.1 A.2.1 hdg ht (fun hc => (k1 res (by rw [if_pos hc] at hres; exact hres) p l e s m args below meth c K b H locs ls A hP hS hz hl)) (fun hc => (k2 res (by rw [if_neg hc] at hres; exact hres) p l e s m args below meth c K b H locs ls A hP hS hz hl))
theorem v_if_ge {x : Int32} {off : Int} {tgt : Nat} (hdg : decode X.1.2.1 pc = .ok (.ifCond .ge off, 3)) (ht : (pc : Int) + off = (tgt : Int)) (hq : pc + 3 = q) (k1 : V X u M tgt loc st F1 G) (k2 : V X u M q loc st F2 G) : V X u M pc loc (.int x :: st) (if 0 ≤ x then F1 else F2) G := by
  subst hq
  intro res hres p l e s m args below meth c K b H locs ls A hP hS hz hl
  exact lv_if_ge A.1 A.2.1 hdg ht (fun hc => (k1 res (by rw [if_pos hc] at hres; exact hres) p l e s m args below meth c K b H locs ls A hP hS hz hl)) (fun hc => (k2 res (by rw [if_neg hc] at hres; exact hres) p l e s m args below meth c K b H locs ls A hP hS hz hl))
theorem v_if_gt {x : Int32} {off : Int} {tgt : Nat} (hdg : decode X.1.2.1 pc = .ok (.ifCond .gt off, 3)) (ht : (pc : Int) + off = (tgt : Int)) (hq : pc + 3 = q) (k1 : V X u M tgt loc st F1 G) (k2 : V X u M q loc st F2 G) : V X u M pc loc (.int x :: st) (if 0 < x then F1 else F2) G := by
  subst hq
  intro res hres p l e s m args below meth c K b H locs ls A hP hS hz hl
  exact lv_if_gt A.1 A.2.1 hdg ht (fun hc => (k1 res (by rw [if_pos hc] at hres; exact hres) p l e s m args below meth c K b H locs ls A hP hS hz hl)) (fun hc => (k2 res (by rw [if_neg hc] at hres; exact hres) p l e s m args below meth c K b H locs ls A hP hS hz hl))
theorem v_if_le {x : Int32} {off : Int} {tgt : Nat} (hdg : decode X.1.2.1 pc = .ok (.ifCond .le off, 3)) (ht : (pc : Int) + off = (tgt : Int)) (hq : pc + 3 = q) (k1 : V X u M tgt loc st F1 G) (k2 : V X u M q loc st F2 G) : V X u M pc loc (.int x :: st) (if x ≤ 0 then F1 else F2) G := by
  subst hq
  intro res hres p l e s m args below meth c K b H locs ls A hP hS hz hl
  exact lv_if_le A.1 A.2.1 hdg ht (fun hc => (k1 res (by rw [if_pos hc] at hres; exact hres) p l e s m args below meth c K b H locs ls A hP hS hz hl)) (fun hc => (k2 res (by rw [if_neg hc] at hres; exact hres) p l e s m args below meth c K b H locs ls A hP hS hz hl))
theorem v_goto {off : Int} {tgt : Nat} (hdg : decode X.1.2.1 pc = .ok (.goto off, 3)) (ht : (pc : Int) + off = (tgt : Int)) (k : V X u M tgt loc st F G) : V X u M pc loc st F G := by
  intro res hres p l e s m args below meth c K b H locs ls A hP hS hz hl
  exact lv_goto A.1 A.2.1 hdg ht (k res hres p l e s m args below meth c K b H locs ls A hP hS hz hl)
theorem v_ifnn {r : Option Nat} {off : Int} {tgt : Nat} (hdg : decode X.1.2.1 pc = .ok (.ifnonnull off, 3)) (ht : (pc : Int) + off = (tgt : Int)) (hq : pc + 3 = q) (k1 : V X u M tgt loc st F1 G) (k2 : V X u M q loc st F2 G) : V X u M pc loc (va_rf r :: st) (if r = none then F2 else F1) G := by
  subst hq
  intro res hres p l e s m args below meth c K b H locs ls A hP hS hz hl
  cases r with
  | none => exact lv_ifnonnullN A.1 A.2.1 hdg (k2 res (by rw [if_pos rfl] at hres; exact hres) p l e s m args below meth c K b H locs ls A hP hS hz hl)
  | some x => exact lv_ifnonnull A.1 A.2.1 hdg ht (k1 res (by rw [if_neg (fun h => by cases h)] at hres; exact hres) p l e s m args below meth c K b H locs ls A hP hS hz hl)
theorem v_tbl_in {x cst : Int32} {dflt lo hi : Int} {offs : Array Int} {len : Nat} {off : Int} {tgt : Nat} (hdg : decode X.1.2.1 pc = .ok (.tableswitch dflt lo hi offs, len)) (hx : x = cst) (h1 : ¬ cst.toInt < lo) (h2 : ¬ hi < cst.toInt) (ho : offs[(cst.toInt - lo).toNat]? = some off) (ht : (pc : Int) + off = (tgt : Int)) (k : V X u M tgt loc st F G) : V X u M pc loc (.int x :: st) F G := by
  subst hx
  intro res hres p l e s m args below meth c K b H locs ls A hP hS hz hl
  exact lv_tableIn A.1 A.2.1 hdg h1 h2 ho ht (k res hres p l e s m args below meth c K b H locs ls A hP hS hz hl)
theorem v_tbl_out {x : Int32} {dflt lo hi : Int} {offs : Array Int} {len : Nat} {tgt : Nat} (hdg : decode X.1.2.1 pc = .ok (.tableswitch dflt lo hi offs, len)) (h : x.toInt < lo ∨ hi < x.toInt) (ht : (pc : Int) + dflt = (tgt : Int)) (k : V X u M tgt loc st F G) : V X u M pc loc (.int x :: st) F G := by
  intro res hres p l e s m args below meth c K b H locs ls A hP hS hz hl
  exact lv_tableOut A.1 A.2.1 hdg h ht (k res hres p l e s m args below meth c K b H locs ls A hP hS hz hl)
theorem v_lkp {x : Int32} {dflt : Int} {ps : Array (Int × Int)} {len : Nat} {off : Int} {tgt : Nat} (hdg : decode X.1.2.1 pc = .ok (.lookupswitch dflt ps, len)) (hp : (ps.toList.zip (ps.toList.drop 1)).all (fun (a, next) => a.1 < next.1) = true) (ho : Op.lookupswitch.offset ps.toList dflt x.toInt = off) (ht : (pc : Int) + off = (tgt : Int)) (k : V X u M tgt loc st F G) : V X u M pc loc (.int x :: st) F G := by
  intro res hres p l e s m args below meth c K b H locs ls A hP hS hz hl
  exact lv_lookup A.1 A.2.1 hdg hp ho ht (k res hres p l e s m args below meth c K b H locs ls A hP hS hz hl)
theorem v_ite {c0 : Prop} [Decidable c0] (k1 : c0 → V X u M pc loc st F1 G) (k2 : ¬ c0 → V X u M pc loc st F2 G) : V X u M pc loc st (if c0 then F1 else F2) G := by
  intro res hres
  by_cases hc : c0
  · rw [if_pos hc] at hres; exact k1 hc res hres
  · rw [if_neg hc] at hres; exact k2 hc res hres
theorem v_none : V X u M pc loc st (none : Option β) G := by
  intro res hres
  cases hres
end JC
section JD
variable {X : Xc} {u : Nat × Nat} {M : Me} {pc q : Nat} {loc : List (Option Value)} {st : List Value} {β γ : Type} {G : β → Option Rs}
/-- a region whose value is used behind it -/
theorem v_bind {F : Option γ} {Hh : γ → Option β} (k : V X u M pc loc st F (fun v => (Hh v).bind G)) : V X u M pc loc st (F.bind Hh) G := by
  intro res hres
  exact k res (by rw [Option.bind_assoc] at hres; exact hres)
/-- a region, and the place behind it to which all its ways lead -/
theorem v_join {F : Option γ} {Hh : γ → Option β} (jp : Nat) (eM : γ → Me) (eL : γ → List (Option Value)) (eS : γ → List Value)
    (kF : ∀ K : γ → Option Rs, (∀ v, V X u (eM v) jp (eL v) (eS v) (some v) K) → V X u M pc loc st F K)
    (kH : ∀ v, V X u (eM v) jp (eL v) (eS v) (Hh v) G) : V X u M pc loc st (F.bind Hh) G :=
  v_bind (kF _ (fun v => kH v))
/-- what is named is a value -/
def let_v {α : Type} (e : α) (K : α → Option β) : Option β := K e
theorem v_let {α : Type} {e : α} {Kf : α → Option β} (k : V X u M pc loc st (Kf e) G) : V X u M pc loc st (let_v e Kf) G := k
/-- a loop's rounds -/
def it_r {S E : Type} (step : S → Option (S ⊕ E)) : Nat → S → Option E
  | 0, _ => none
  | n + 1, s => (step s).bind (fun r => match r with
    | .inl t => it_r step n t
    | .inr x => some x)
theorem it_more {S E : Type} {step : S → Option (S ⊕ E)} : ∀ {n : Nat} {s : S} {x : E}, it_r step n s = some x → ∀ m, n ≤ m → it_r step m s = some x := by
  intro n
  induction n with
  | zero => intro s x h; cases h
  | succ n ih =>
    intro s x h m hm
    obtain ⟨m, rfl⟩ : ∃ z, m = z + 1 := ⟨m - 1, by omega⟩
    unfold it_r at h ⊢
    cases hs : step s with
    | none => rw [hs] at h; cases h
    | some r =>
      rw [hs] at h
      simp only [Option.bind_some] at h ⊢
      cases r with
      | inl t => exact ih h m (by omega)
      | inr y => exact h
noncomputable def lp {S E : Type} (step : S → Option (S ⊕ E)) (s : S) : Option E := @dite _ (∃ (n : Nat) (x : E), it_r step n s = some x) (Classical.propDecidable _) (fun h => some h.choose_spec.choose) (fun _ => none)
theorem lp_some {S E : Type} {step : S → Option (S ⊕ E)} {s : S} {x : E} : lp step s = some x ↔ ∃ n, it_r step n s = some x := by
  unfold lp
  constructor
  · intro h
    split at h
    · rename_i h0
      have h1 := h0.choose_spec.choose_spec
      rw [Option.some.inj h] at h1
      exact ⟨_, h1⟩
    · cases h
  · rintro ⟨n, hn⟩
    have h0 : ∃ (n : Nat) (x : E), it_r step n s = some x := ⟨n, x, hn⟩
    rw [dif_pos h0]
    have h1 := h0.choose_spec.choose_spec
    have h2 := it_more h1 (h0.choose + n) (by omega)
    have h3 := it_more hn (h0.choose + n) (by omega)
    rw [h2] at h3
    exact h3
theorem lp_eq {S E : Type} (step : S → Option (S ⊕ E)) (s : S) : lp step s = (step s).bind (fun r => match r with
    | .inl t => lp step t
    | .inr x => some x) := by
  cases hs : step s with
  | none =>
    cases hl : lp step s with
    | none => rfl
    | some x =>
      obtain ⟨n, hn⟩ := lp_some.mp hl
      cases n with
      | zero => cases hn
      | succ n => unfold it_r at hn; rw [hs] at hn; cases hn
  | some r =>
    simp only [Option.bind_some]
    cases r with
    | inr x => exact lp_some.mpr ⟨1, by unfold it_r; rw [hs]; rfl⟩
    | inl t =>
      show lp step s = lp step t
      cases ht : lp step t with
      | some x =>
        obtain ⟨n, hn⟩ := lp_some.mp ht
        exact lp_some.mpr ⟨n + 1, by unfold it_r; rw [hs]; exact hn⟩
      | none =>
        cases hl : lp step s with
        | none => rfl
        | some x =>
          obtain ⟨n, hn⟩ := lp_some.mp hl
          cases n with
          | zero => cases hn
          | succ n =>
            unfold it_r at hn; rw [hs] at hn
            rw [lp_some.mpr ⟨n, hn⟩] at ht
            cases ht
/-- where a round leads: back to the head, or out -/
def lg_k {S E : Type} (k : S → Option Rs) (K : E → Option Rs) : S ⊕ E → Option Rs := fun r => match r with
  | .inl t => k t
  | .inr x => K x
theorem v_loop {S E : Type} {step : S → Option (S ⊕ E)} {s0 : S} {K : E → Option Rs} (eM : S → Me) (eL : S → List (Option Value))
    (hb : ∀ k : S → Option Rs, (∀ t, V X u (eM t) pc (eL t) [] (some t) k) → ∀ t, V X u (eM t) pc (eL t) [] (step t) (lg_k k K)) : V X u (eM s0) pc (eL s0) [] (lp step s0) K := by
  intro res hres
  cases hl : lp step s0 with
  | none => rw [hl] at hres; cases hres
  | some x =>
    rw [hl] at hres
    obtain ⟨n, hn⟩ := lp_some.mp hl
    have key : ∀ (n : Nat) (t : S), V X u (eM t) pc (eL t) [] (it_r step n t) K := by
      intro n
      induction n with
      | zero => intro t; exact v_none
      | succ n ih =>
        intro t r2 h2
        refine hb (fun z => (it_r step n z).bind K) (fun z => ih z) t r2 ?_
        unfold it_r at h2
        rw [← h2, Option.bind_assoc]
        congr 1
        funext z
        cases z <;> rfl
    exact key n s0 res (by rw [hn]; exact hres)
theorem v_inl {S E : Type} {t : S} {k : S → Option Rs} {K : E → Option Rs} (h : V X u M pc loc st (some t) k) : V X u M pc loc st (some (Sum.inl t : S ⊕ E)) (lg_k k K) := h
theorem v_inr {S E : Type} {x : E} {k : S → Option Rs} {K : E → Option Rs} (h : V X u M pc loc st (some x) K) : V X u M pc loc st (some (Sum.inr x : S ⊕ E)) (lg_k k K) := h
theorem v_some {v : γ} {Hh : γ → Option β} (h : V X u M pc loc st (Hh v) G) : V X u M pc loc st (some v) (fun v => (Hh v).bind G) := h
/-- returns -/
theorem v_iret {F : Option β} {x : Int32} (hr : X.1.2.2.2.1 = some .int) (hdg : decode X.1.2.1 pc = .ok (.ireturn, 1)) (hu : u.1 ≤ X.2.2.1 ∧ u.2 ≤ X.2.2.2) (hF : F.bind G = some (some (.int x), M)) : V X u M pc loc [.int x] F G := by
  intro res hres p l e s m args below meth c K b H locs ls A hP hS hz hl
  rw [hF] at hres
  cases hres
  refine W.widen (k := X.2.2.1) (n := X.2.2.2) hu.1 hu.2 ?_
  exact W.iret A.1 A.2.1 (A.2.2.1.trans hr) (fun t ht hW => ⟨rfl, ⟨by rw [ht]; exact hz, by rw [ht]; exact hP, kn_K.warm hW A.2.2.2.2.2.2.1⟩, hS.F ht⟩) hS.2.2 hdg A.2.2.2.2.2.2.2.1
theorem v_zret {F : Option β} {x : Int32} (hr : X.1.2.2.2.1 = some .boolean) (hdg : decode X.1.2.1 pc = .ok (.ireturn, 1)) (hu : u.1 ≤ X.2.2.1 ∧ u.2 ≤ X.2.2.2) (hF : F.bind G = some (some (.int x), M)) (hx : x = 0 ∨ x = 1) : V X u M pc loc [.int x] F G := by
  intro res hres p l e s m args below meth c K b H locs ls A hP hS hz hl
  rw [hF] at hres
  cases hres
  refine W.widen (k := X.2.2.1) (n := X.2.2.2) hu.1 hu.2 ?_
  exact W.zret A.1 A.2.1 (A.2.2.1.trans hr) (by rcases hx with rfl | rfl <;> decide +kernel) (fun t ht hW => ⟨rfl, ⟨by rw [ht]; exact hz, by rw [ht]; exact hP, kn_K.warm hW A.2.2.2.2.2.2.1⟩, hS.F ht⟩) hS.2.2 hdg A.2.2.2.2.2.2.2.1
theorem v_lret {F : Option β} {x : Int64} (hr : X.1.2.2.2.1 = some .long) (hdg : decode X.1.2.1 pc = .ok (.lreturn, 1)) (hu : u.1 ≤ X.2.2.1 ∧ u.2 ≤ X.2.2.2) (hF : F.bind G = some (some (.long x), M)) : V X u M pc loc [.long x] F G := by
  intro res hres p l e s m args below meth c K b H locs ls A hP hS hz hl
  rw [hF] at hres
  cases hres
  refine W.widen (k := X.2.2.1) (n := X.2.2.2) hu.1 hu.2 ?_
  exact W.lret A.1 A.2.1 (A.2.2.1.trans hr) (fun t ht hW => ⟨rfl, ⟨by rw [ht]; exact hz, by rw [ht]; exact hP, kn_K.warm hW A.2.2.2.2.2.2.1⟩, hS.F ht⟩) hS.2.2 hdg A.2.2.2.2.2.2.2.1
theorem v_aret {F : Option β} {x : Nat} {n : String} (hr : X.1.2.2.2.1 = some (.object n)) (hdg : decode X.1.2.1 pc = .ok (.areturn, 1)) (hu : u.1 ≤ X.2.2.1 ∧ u.2 ≤ X.2.2.2) (hF : F.bind G = some (some (.ref x), M)) : V X u M pc loc [.ref x] F G := by
  intro res hres p l e s m args below meth c K b H locs ls A hP hS hz hl
  rw [hF] at hres
  cases hres
  refine W.widen (k := X.2.2.1) (n := X.2.2.2) hu.1 hu.2 ?_
  exact W.aret A.1 A.2.1 (A.2.2.1.trans hr) (Or.inl ⟨n, rfl⟩) (Or.inr ⟨_, rfl⟩) (fun t ht hW => ⟨rfl, ⟨by rw [ht]; exact hz, by rw [ht]; exact hP, kn_K.warm hW A.2.2.2.2.2.2.1⟩, hS.F ht⟩) hS.2.2 hdg A.2.2.2.2.2.2.2.1
theorem v_vret {F : Option β} (hr : X.1.2.2.2.1 = none) (hdg : decode X.1.2.1 pc = .ok (.return_, 1)) (hu : u.1 ≤ X.2.2.1 ∧ u.2 ≤ X.2.2.2) (hF : F.bind G = some (none, M)) : V X u M pc loc [] F G := by
  intro res hres p l e s m args below meth c K b H locs ls A hP hS hz hl
  rw [hF] at hres
  cases hres
  refine W.widen (k := X.2.2.1) (n := X.2.2.2) hu.1 hu.2 ?_
  exact W.vret A.1 A.2.1 (A.2.2.1.trans hr) (fun t ht hW => ⟨rfl, ⟨by rw [ht]; exact hz, by rw [ht]; exact hP, kn_K.warm hW A.2.2.2.2.2.2.1⟩, hS.F ht⟩) hS.2.2 hdg A.2.2.2.2.2.2.2.1
end JD
end
section
/-! rows of the kit that write a cell, with what they leave unsaid: the heap's size -/
section HS
variable {p : Program} {l : Launch} {e : Env} {R : Room} {s : State} {m : MethodId} {args : Array Value} {below : List Frame} {meth : Method} {c : Code} {H : Heap} {locs : List Loc} {cells slots : Nat} {Q : State → Prop}
variable {cc : ByteArray} {pc : Nat} {ls : Array Slot} {rest : List Value} {D : va_G} {cl : List vw_C} {A : Nat → Prop} {a : Nat} {tys : List (ClassId × FieldType)} {ws : va_W} {H0 : Heap}
theorem h_put (hexec : p.tables.exec = Jvm.exec) (hb : c.code = cc) {own C : String} {T : u_T} {N ci index : Nat} {Ts : List Cond} (hts : ∀ w ∈ Ts, w.before args s = true) (hin : ∀ w ∈ u_ws C T N, w ∈ Ts) (ty0 : Nat → FieldType) (hty : ∀ k, k < N → parseFieldDescriptor (T k).2.2.1 = some (ty0 k)) (hnm : ∀ a, a < N → ∀ b, b < N → a ≠ b → (T a).2.1 ≠ (T b).2.1) (hown : s.vm.findClass own = some m.cls) (hK : va_K D cl tys s) (hP : va_P D cl ws H) (hD : va_D A ws) (hS0 : va_S A H0 H locs) (q0 : Nat) {fs : List Value} (he : ws[q0]? = some (a, .inr (ci, fs))) (hc : cl[ci]? = some (C, T, N)) (k : Nat) (hk : k < N)
    (hlink : (Cond.fieldLink own index (T k).1 (T k).2.1 (T k).2.2.1).before args s = true ∨ ∃ host, (Cond.fieldLinkNest own index (T k).1 (T k).2.1 (T k).2.2.1 host).before args s = true) (hfin : (T k).2.2.2 = false) {ty : FieldType} {v : Value} (hd : parseFieldDescriptor (T k).2.2.1 = some ty) (hn : narrow ty v = v) (hfit : fits ty v = true) (hl : k < fs.length)
    (hdg : decode cc pc = .ok (.putfield index, 3)) (kk : ∀ (H1 : Heap) (locs1 : List Loc), H1.size = H.size → va_P D cl (ws.set q0 (a, .inr (ci, fs.set k v))) H1 → va_S A H0 H1 locs1 → W p l e R s m args below meth c H1 locs1 cells slots Q (F0 m (pc + 3) ls rest)) : W p l e R s m args below meth c H locs cells slots Q (F0 m pc ls (v :: .ref a :: rest)) := by
  have hap := va_apart (own := own) hts hin ty0 hty hnm hK hc
  obtain ⟨r, h1, cell, q1, q2, q3, q4⟩ := hP q0 _ he
  have hr : r = (C, T, N) := Option.some.inj (h1.symm.trans hc)
  subst hr
  obtain ⟨hS, hfc, kC, hkC, hkind⟩ := hK.1 ci _ hc
  obtain ⟨cf, kf, fi, f, hi, hsl⟩ := hS k hk
  have hlay := hts _ (hin _ (u_in_lay hk))
  unfold u_lay at hlay
  rw [if_neg (by rw [hfin]; decide)] at hlay
  have hst := (u_facts hfc hkC (u_lays hts hin hk) hi).1
  have h6 := u_store hfc hkC hkind hlay hi hd hn hfit
  rcases hlink with hlink | ⟨host, hlink⟩
  · refine W.putK hexec hb (f := f) ⟨hown, hlink, ⟨_, _, _, hi⟩, hst⟩ (by rw [q2]; exact h6) q1 q3 (by rw [hsl]; exact k2_hasslot (q4 k hk)) rfl rfl hdg fun H' e1 e2 e3 => ?_
    rw [hsl] at e1 ⊢
    exact kk H' _ e2 (hP.set hD he ⟨_, hc, t_OB.to (V := updV (vp_V fs) k v) ⟨_, e1, q2, q3, t_set q4 hap hk v⟩ (fun j _ => vp_updV_set hl v j)⟩ e3) (hS0.put e2 e3 (hD.2 q0 _ he))
  · refine va_WputK hexec hb (f := f) hown hlink hi hst (by rw [q2]; exact h6) q1 q3 (by rw [hsl]; exact k2_hasslot (q4 k hk)) rfl rfl hdg fun H' e1 e2 e3 => ?_
    rw [hsl] at e1 ⊢
    exact kk H' _ e2 (hP.set hD he ⟨_, hc, t_OB.to (V := updV (vp_V fs) k v) ⟨_, e1, q2, q3, t_set q4 hap hk v⟩ (fun j _ => vp_updV_set hl v j)⟩ e3) (hS0.put e2 e3 (hD.2 q0 _ he))
theorem h_putF (hexec : p.tables.exec = Jvm.exec) (hb : c.code = cc) {own C : String} {T : u_T} {N ci index : Nat} {Ts : List Cond} (hts : ∀ w ∈ Ts, w.before args s = true) (hin : ∀ w ∈ u_ws C T N, w ∈ Ts) (ty0 : Nat → FieldType) (hty : ∀ k, k < N → parseFieldDescriptor (T k).2.2.1 = some (ty0 k)) (hnm : ∀ a, a < N → ∀ b, b < N → a ≠ b → (T a).2.1 ≠ (T b).2.1) (hown : s.vm.findClass own = some m.cls) (hK : va_K D cl tys s) (hP : va_P D cl ws H) (hD : va_D A ws) (hS0 : va_S A H0 H locs) (q0 : Nat) {fs : List Value} (he : ws[q0]? = some (a, .inr (ci, fs))) (hc : cl[ci]? = some (C, T, N)) (k : Nat) (hk : k < N)
    (hlink : (Cond.fieldLink own index (T k).1 (T k).2.1 (T k).2.2.1).before args s = true) (hfin : (T k).2.2.2 = true) (hin2 : meth.name = "<init>") (hdecl : (T k).1 = own) {ty : FieldType} {v : Value} (hd : parseFieldDescriptor (T k).2.2.1 = some ty) (hn : narrow ty v = v) (hfit : fits ty v = true) (hl : k < fs.length)
    (hdg : decode cc pc = .ok (.putfield index, 3)) (kk : ∀ (H1 : Heap) (locs1 : List Loc), H1.size = H.size → va_P D cl (ws.set q0 (a, .inr (ci, fs.set k v))) H1 → va_S A H0 H1 locs1 → W p l e R s m args below meth c H1 locs1 cells slots Q (F0 m (pc + 3) ls rest)) : W p l e R s m args below meth c H locs cells slots Q (F0 m pc ls (v :: .ref a :: rest)) := by
  have hap := va_apart (own := own) hts hin ty0 hty hnm hK hc
  obtain ⟨r, h1, cell, q1, q2, q3, q4⟩ := hP q0 _ he
  have hr : r = (C, T, N) := Option.some.inj (h1.symm.trans hc)
  subst hr
  obtain ⟨hS, hfc, kC, hkC, hkind⟩ := hK.1 ci _ hc
  obtain ⟨cf, kf, fi, f, hi, hsl⟩ := hS k hk
  have hlay := hts _ (hin _ (u_in_lay hk))
  unfold u_lay at hlay
  rw [if_pos hfin] at hlay
  have hst := (u_facts hfc hkC (u_lays hts hin hk) hi).1
  have hcf : m.cls = cf := by
    obtain ⟨_, _, c', _, _, _, -, -, hf', -, -, -, hown2, -⟩ := Cond.laysFinal_spec hlay
    have e1 : c' = cf := by have := hi.symm.trans hf'; simp at this; exact this.1.symm
    rw [hdecl] at hown2
    rw [← e1]; exact Option.some.inj (hown.symm.trans hown2)
  have h6 := u_fits hfc hkC hkind (Or.inr hlay) hi hd hn hfit
  refine W.putFinK hexec hb hown hlink hi hst hcf hin2 (by rw [q2]; exact h6) q1 q3 (by rw [hsl]; exact k2_hasslot (q4 k hk)) rfl rfl hdg fun H' e1 e2 e3 => ?_
  rw [hsl] at e1 ⊢
  exact kk H' _ e2 (hP.set hD he ⟨_, hc, t_OB.to (V := updV (vp_V fs) k v) ⟨_, e1, q2, q3, t_set q4 hap hk v⟩ (fun j _ => vp_updV_set hl v j)⟩ e3) (hS0.put e2 e3 (hD.2 q0 _ he))
theorem h_get (hexec : p.tables.exec = Jvm.exec) (hb : c.code = cc) {own C : String} {T : u_T} {N ci index : Nat} {Ts : List Cond} (hts : ∀ w ∈ Ts, w.before args s = true) (hin : ∀ w ∈ u_ws C T N, w ∈ Ts) (hown : s.vm.findClass own = some m.cls) (hK : va_K D cl tys s) (hP : va_P D cl ws H) (q0 : Nat) {fs : List Value} (he : ws[q0]? = some (a, .inr (ci, fs))) (hc : cl[ci]? = some (C, T, N)) (k : Nat) (hk : k < N) (hlink : (Cond.fieldLink own index (T k).1 (T k).2.1 (T k).2.2.1).before args s = true ∨ ∃ host, (Cond.fieldLinkNest own index (T k).1 (T k).2.1 (T k).2.2.1 host).before args s = true) {v : Value} (hv : fs[k]? = some v) (hdg : decode cc pc = .ok (.getfield index, 3))
    (kk : W p l e R s m args below meth c H locs cells slots Q (F0 m (pc + 3) ls (v :: rest))) : W p l e R s m args below meth c H locs cells slots Q (F0 m pc ls (.ref a :: rest)) := by
  rcases hlink with hlink | ⟨host, hlink⟩
  · exact va_get hexec hb hts hin hown hK hP q0 he hc k hk hlink (fun _ h9 => h9) hv hdg kk
  · exact va_getN hexec hb hts hin hown hK hP q0 he hc k hk hlink (fun _ h9 => h9) hv hdg kk
theorem h_iast (hexec : p.tables.exec = Jvm.exec) (hb : c.code = cc) (hK : va_K D cl tys s) (hP : va_P D cl ws H) (hD : va_D A ws) (hS : va_S A H0 H locs) (q0 t0 : Nat) {cA : ClassId} {n : Nat} {f : Nat → Int32} (ha : ws[q0]? = some (a, .inl (cA, n, .inl f))) (ht : tys[t0]? = some (cA, .int)) {i : Int32} {x : Int32} (hin : vp_in i n) (hdg : decode cc pc = .ok (.iastore, 1))
    (kk : ∀ (H1 : Heap) (locs1 : List Loc), H1.size = H.size → va_P D cl (ws.set q0 (a, .inl (cA, n, .inl (upd f i.toNatClampNeg x)))) H1 → va_S A H0 H1 locs1 → W p l e R s m args below meth c H1 locs1 cells slots Q (F0 m (pc + 1) ls rest)) : W p l e R s m args below meth c H locs cells slots Q (F0 m pc ls (.int x :: .int i :: .ref a :: rest)) := by
  refine W.iast hexec hb (hP q0 _ ha) ((hK.2 t0 _ ht).1 n (fun j => .int (f j))) (fun q => by cases q) (by show ¬ (i < 0 ∨ (arrV _ _ _).slots.size ≤ _); rw [arrV_size]; exact hin) rfl rfl hdg fun H1 e z oq => ?_
  refine kk H1 _ z (hP.set hD ha ?_ oq) (hS.put z oq (hD.2 q0 _ ha))
  show H1[a]? = some (vp_cell _ _)
  rw [e]
  rw [vp_cell_i, vp_cell_i, arrV_store]
  congr 2
  funext q
  by_cases hq : q = i.toNatClampNeg
  · subst hq
    simp [updV, upd]
  · simp [updV, upd, hq]
theorem h_zast (hexec : p.tables.exec = Jvm.exec) (hb : c.code = cc) (hK : va_K D cl tys s) (hP : va_P D cl ws H) (hD : va_D A ws) (hS : va_S A H0 H locs) (q0 t0 : Nat) {cA : ClassId} {n : Nat} {f : Nat → Int32} (ha : ws[q0]? = some (a, .inl (cA, n, .inl f))) (ht : tys[t0]? = some (cA, .boolean)) {i : Int32} {x : Int32} (hin : vp_in i n) (hdg : decode cc pc = .ok (.bastore, 1))
    (kk : ∀ (H1 : Heap) (locs1 : List Loc), H1.size = H.size → va_P D cl (ws.set q0 (a, .inl (cA, n, .inl (upd f i.toNatClampNeg (vp_nar .boolean x))))) H1 → va_S A H0 H1 locs1 → W p l e R s m args below meth c H1 locs1 cells slots Q (F0 m (pc + 1) ls rest)) : W p l e R s m args below meth c H locs cells slots Q (F0 m pc ls (.int x :: .int i :: .ref a :: rest)) := by
  refine W.zast hexec hb (hP q0 _ ha) ((hK.2 t0 _ ht).1 n (fun j => .int (f j))) (fun q => by cases q) (by show ¬ (i < 0 ∨ (arrV _ _ _).slots.size ≤ _); rw [arrV_size]; exact hin) rfl rfl hdg fun H1 e z oq => ?_
  refine kk H1 _ z (hP.set hD ha ?_ oq) (hS.put z oq (hD.2 q0 _ ha))
  show H1[a]? = some (vp_cell _ _)
  rw [e]
  rw [vp_cell_i, vp_cell_i, arrV_store]
  congr 2
  funext q
  by_cases hq : q = i.toNatClampNeg
  · subst hq
    simp [updV, upd, vp_nar]
    try rfl
  · simp [updV, upd, hq]
theorem h_astq (hexec : p.tables.exec = Jvm.exec) (hb : c.code = cc) (hK : va_K D cl tys s) (hP : va_P D cl ws H) (hD : va_D A ws) (hS : va_S A H0 H locs) (q0 t0 qk ci : Nat) {cA : ClassId} {r : vw_C} {n v : Nat} {vs : List Value} {f : Nat → Option Nat} (ha : ws[q0]? = some (a, .inl (cA, n, .inr (.inr (.inr (.inr f)))))) (ht : tys[t0]? = some (cA, .object r.1)) (hv : ws[qk]? = some (v, .inr (ci, vs))) (hc : cl[ci]? = some r) {i : Int32} (hin : vp_in i n) (hdg : decode cc pc = .ok (.aastore, 1))
    (kk : ∀ (H1 : Heap) (locs1 : List Loc), H1.size = H.size → va_P D cl (ws.set q0 (a, .inl (cA, n, .inr (.inr (.inr (.inr (va_up f i.toNatClampNeg (some v)))))))) H1 → va_S A H0 H1 locs1 → W p l e R s m args below meth c H1 locs1 cells slots Q (F0 m (pc + 1) ls rest)) : W p l e R s m args below meth c H locs cells slots Q (F0 m pc ls (.ref v :: .int i :: .ref a :: rest)) := by
  have hlt : i.toNatClampNeg < n := Nat.not_le.mp fun q => hin (Or.inr q)
  have h0 : ¬ i < 0 := fun q => hin (Or.inl q)
  obtain ⟨r', hr', cellV, g1, g2, g3, -⟩ := hP qk _ hv
  have hcls := (hK.1 ci r hc).2
  obtain ⟨kA, comp, k1, k2, k3, -⟩ := (hK.2 t0 _ ht).2
  have hcomp : comp = D.1 ci := Option.some.inj (k3.symm.trans hcls.1)
  subst hcomp
  obtain ⟨kC, hkC, -⟩ := hcls.2
  refine W.aast hexec hb (hP q0 _ ha) (fun q h => by cases h) (fun h => by cases h) k1 k2 rfl hkC ⟨h0, by show _ < (arrV _ _ _).slots.size; rw [arrV_size]; exact hlt⟩ g1 (fun q h => by rw [g3] at h; cases h) (by rw [g2]; exact hkC) (by rw [g2]; exact va_assign hcls) rfl rfl hdg fun H1 e z oq => ?_
  refine kk H1 _ z (hP.set hD ha ?_ oq) (hS.put z oq (hD.2 q0 _ ha))
  show H1[a]? = some (vp_cell _ _)
  rw [e]
  rw [vp_cell_q, vp_cell_q, arrV_store]
  congr 2
  funext q
  by_cases hq : q = i.toNatClampNeg
  · subst hq
    simp [updV, va_up, va_rf]
  · simp [updV, va_up, hq]
theorem h_copy (hexec : p.tables.exec = Jvm.exec) (hb : c.code = cc) (hml : c.maxLocals = ls.size) {own : String} {index : Nat} (hown : s.vm.findClass own = some m.cls) (hlink : (Cond.methodLink own index arraycopyName).before args s = true) (hnat : (Cond.native arraycopyName).before args s = true) (hstat : (Cond.static arraycopyName).before args s = true) (hini : (Cond.initialized "java/lang/System").before args s = true)
    (hK : va_K D cl tys s) (hP : va_P D cl ws H) (hD : va_D A ws) (hS : va_S A H0 H locs) (q0 q1 t0 : Nat) {a0 : Nat} {c0 : ClassId} {n0 n1 : Nat} {f g : Nat → Int32} (ha0 : ws[q0]? = some (a0, .inl (c0, n0, .inl f))) (ha1 : ws[q1]? = some (a, .inl (c0, n1, .inl g))) (ht0 : tys[t0]? = some (c0, .int))
    {sp dp n : Int32} (h1 : ¬ sp < 0) (h2 : ¬ dp < 0) (h3 : ¬ n < 0) (h4 : sp.toNatClampNeg + n.toNatClampNeg ≤ n0) (h5 : dp.toNatClampNeg + n.toNatClampNeg ≤ n1)
    (hframes : 1 ≤ R.frames) (hlocals : (rest.map fun v => v.category).sum + (nativeFrameWords "java/lang/System" "arraycopy" 5 + 11) ≤ R.locals) (hdg : decode cc pc = .ok (.invokestatic index, 3))
    (kk : ∀ (H1 : Heap) (locs1 : List Loc), H1.size = H.size → va_P D cl (ws.set q1 (a, .inl (c0, n1, .inl (va_cpy f g sp.toNatClampNeg dp.toNatClampNeg n.toNatClampNeg)))) H1 → va_S A H0 H1 locs1 → W p l e R s m args below meth c H1 locs1 cells slots Q (F0 m (pc + 3) ls rest)) : W p l e R s m args below meth c H locs cells slots Q (F0 m pc ls (.int n :: .int dp :: .ref a :: .int sp :: .ref a0 :: rest)) := by
  have nn : ∀ z : Int32, ¬ z < 0 → z.toInt = (z.toNatClampNeg : Int) := by
    intro z hz
    have hz0 : (0 : Int) ≤ z.toInt := by
      have := Int32.not_lt.mp hz
      simpa using Int32.le_iff_toInt_le.mp this
    show z.toInt = ((z.toInt.toNat : Nat) : Int)
    omega
  intro T hT X
  have hc0 : H[a0]? = some (vp_cell c0 (n0, .inl f)) := hP q0 _ ha0
  have hc1 : H[a]? = some (vp_cell c0 (n1, .inl g)) := hP q1 _ ha1
  obtain ⟨-, k0, hk0, cm0, hkk0⟩ := (hK.2 t0 _ ht0).1 n0 (fun j => .int (f j))
  obtain ⟨-, k1, hk1, cm1, hkk1⟩ := (hK.2 t0 _ ht0).1 n1 (fun j => .int (g j))
  obtain ⟨vm', X', step⟩ := X.arraycopy hexec hown hlink hnat hstat hini (src := a0) (dst := a) (cs := vp_cell c0 (n0, .inl f)) (cd := vp_cell c0 (n1, .inl g)) (srcPos := sp) (destPos := dp) (n := n) (by rw [hT]; exact hc0) (by rw [hT]; exact hc1)
    (fun _ h => by cases h) (fun _ h => by cases h) (fun h => by cases h) (fun h => by cases h) hk0 hk1 hkk0 hkk1 (by simp [refKind]) h1 h2 h3
    (by rw [nn sp h1, nn n h3]; show ¬ _ > ((arrV c0 n0 (fun j => .int (f j))).slots.size : Int); rw [arrV_size]; omega)
    (by rw [nn dp h2, nn n h3]; show ¬ _ > ((arrV c0 n1 (fun j => .int (g j))).slots.size : Int); rw [arrV_size]; omega)
    (fun vm₁ _ i hi => by
      have e : (vp_cell c0 (n0, .inl f)).slots.getD (sp.toNatClampNeg + i) .null = .int (f (sp.toNatClampNeg + i)) := by
        show (arrV c0 n0 (fun j => .int (f j))).slots.getD _ _ = _
        rw [Array.getD_eq_getD_getElem?, arrV_read _ _ (by omega)]
        rfl
      refine ⟨?_, ?_⟩
      · rw [e]
        rfl
      · rw [e]
        exact trivial)
    (g := F0 m pc ls (.int n :: .int dp :: .ref a :: .int sp :: .ref a0 :: rest)) rfl (by rw [hml]) (rest := rest) rfl (by rw [hb]; exact hdg) hframes (by show 2 * 0 + _ + _ ≤ _; omega)
  have e1 : copied (vp_cell c0 (n0, .inl f)) (vp_cell c0 (n1, .inl g)) sp dp n = vp_cell c0 (n1, .inl (va_cpy f g sp.toNatClampNeg dp.toNatClampNeg n.toNatClampNeg)) := va_copied (fun z => .int z) c0 c0 f g h4
  rw [e1] at X' step
  have hl : a < H.size := (Array.getElem?_eq_some_iff.mp hc1).1
  have hheap : ((T.setVm vm').setCell a (vp_cell c0 (n1, .inl (va_cpy f g sp.toNatClampNeg dp.toNatClampNeg n.toNatClampNeg)))).heap = H.setIfInBounds a (vp_cell c0 (n1, .inl (va_cpy f g sp.toNatClampNeg dp.toNatClampNeg n.toNatClampNeg))) := by rw [← hT]; rfl
  have oq : ∀ q : Nat, q ≠ a → (H.setIfInBounds a (vp_cell c0 (n1, .inl (va_cpy f g sp.toNatClampNeg dp.toNatClampNeg n.toNatClampNeg))))[q]? = H[q]? := fun q hq => by simp [Array.getElem?_setIfInBounds, Ne.symm hq]
  obtain ⟨t, a1, b1⟩ := kk _ _ (by simp) (hP.set hD ha1 (show (H.setIfInBounds a _)[a]? = some _ by simp [Array.getElem?_setIfInBounds, hl]) oq) ⟨by simp; exact hS.1, fun q g1 g2 => by
      rw [oq q (fun e => g2 (by rw [e]; exact hD.2 q1 _ ha1))]
      exact hS.2.1 q g1 g2, fun q hq => by
      rcases List.mem_append.mp hq with h | h
      · exact hS.2.2 q h
      · obtain ⟨z, -, hz⟩ := List.mem_map.mp h
        rw [← hz]
        exact hD.2 q1 _ ha1⟩ _ hheap X'
  exact ⟨t, step t a1, b1⟩
theorem h_new (hexec : p.tables.exec = Jvm.exec) (hb : c.code = cc) {own C : String} {T : u_T} {N ci index : Nat} {Ts : List Cond} (hts : ∀ w ∈ Ts, w.before args s = true) (hin : ∀ w ∈ u_ws C T N, w ∈ Ts) (ty : Nat → FieldType) (hty : ∀ k, k < N → parseFieldDescriptor (T k).2.2.1 = some (ty k)) (hown : s.vm.findClass own = some m.cls) (hcl : (Cond.classLink own index C).before args s = true) (hinst : (Cond.instantiable C N).before args s = true) (hini : (Cond.initialized C).before args s = true)
    (hK : va_K D cl tys s) (hP : va_P D cl ws H) (hS : va_S A H0 H locs) (hc : cl[ci]? = some (C, T, N)) {fs : List Value} (hfs : ∀ j, j < N → defaultValue (ty j) = vp_V fs j) (hcells : cells + 1 ≤ R.cells) (hslots : slots + N ≤ R.slots) (hdg : decode cc pc = .ok (.new index, 3))
    (kk : ∀ (H1 : Heap), H1.size = H.size + 1 → va_P D cl (ws ++ [(H.size, .inr (ci, fs))]) H1 → va_S A H0 H1 locs →
      W p l e R s m args below meth c H1 locs (cells + 1) (slots + N) Q (F0 m (pc + 3) ls (.ref H.size :: rest))) : W p l e R s m args below meth c H locs cells slots Q (F0 m pc ls rest) := by
  have hKn := hK.1 ci _ hc
  refine W.newcK hexec hb hown hcl hinst hini rfl hdg hcells hslots hKn.2.1 rfl fun H1 kC hkC e1 z1 o1 => ?_
  have hk : ∀ (k : Nat) (x : Nat × va_E), ws[k]? = some x → H1[x.1]? = H[x.1]? := fun k x hx => o1 x.1 ((hP k x hx).lt)
  refine kk H1 z1 ((hP.kept hk).app (fun k x hx => ?_)) ⟨Nat.le_trans hS.1 (by omega), fun x h1 h2 => (o1 x (Nat.lt_of_lt_of_le h1 hS.1)).trans (hS.2.1 x h1 h2), hS.2.2⟩
  have hz : k < 1 := (List.getElem?_eq_some_iff.mp hx).1
  rw [show k = 0 by omega] at hx
  cases hx
  exact ⟨_, hc, (u_born ty hts hin hKn hkC e1 hty).to hfs⟩
theorem h_newa (hexec : p.tables.exec = Jvm.exec) (hb : c.code = cc) {atype : ArrayType} (harr : (Cond.arrayClass (newarray.typeOf atype)).before args s = true) {ty : FieldType} (hty : newarray.typeOf atype = ty) (hP : va_P D cl ws H) (hS : va_S A H0 H locs)
    {n : Int32} {N' : Nat} {a0 : vp_A} {cA0 : ClassId} (hcA : s.vm.findClass ("[" ++ ty.toString) = some cA0) (ha : ∀ cA : ClassId, vp_cell cA a0 = arrV cA N' (fun _ => defaultValue ty)) (hn : ¬ n < 0) (hN : n.toNatClampNeg = N') (hbytes : N' * componentBytes ty ≤ 536870912) (hcells : cells + 1 ≤ R.cells) (hslots : slots + N' ≤ R.slots) (hdg : decode cc pc = .ok (.newarray atype, 2))
    (kk : ∀ (H1 : Heap), H1.size = H.size + 1 → va_P D cl (ws ++ [(H.size, .inl (cA0, a0))]) H1 → va_S A H0 H1 locs →
      W p l e R s m args below meth c H1 locs (cells + 1) (slots + N') Q (F0 m (pc + 2) ls (.ref H.size :: rest))) : W p l e R s m args below meth c H locs cells slots Q (F0 m pc ls (.int n :: rest)) := by
  subst hty
  refine va_newaK hexec hb harr rfl hdg rfl hn hN hbytes hcells hslots rfl fun H1 cA e1 z1 o1 hAr hNm => ?_
  cases hcA.symm.trans hNm
  have hk : ∀ (k : Nat) (x : Nat × va_E), ws[k]? = some x → H1[x.1]? = H[x.1]? := fun k x hx => o1 x.1 ((hP k x hx).lt)
  refine kk H1 z1 ((hP.kept hk).app (fun k x hx => ?_)) ⟨Nat.le_trans hS.1 (by omega), fun x h1 h2 => (o1 x (Nat.lt_of_lt_of_le h1 hS.1)).trans (hS.2.1 x h1 h2), hS.2.2⟩
  have hz : k < 1 := (List.getElem?_eq_some_iff.mp hx).1
  rw [show k = 0 by omega] at hx
  cases hx
  show H1[H.size]? = some (vp_cell _ _)
  rw [ha]
  exact e1
theorem h_newq (hexec : p.tables.exec = Jvm.exec) (hb : c.code = cc) {own C : String} {index : Nat} (hown : s.vm.findClass own = some m.cls) (hclink : (Cond.classLink own index C).before args s = true) (hover : va_AO C s) (hP : va_P D cl ws H) (hS : va_S A H0 H locs)
    {n : Int32} {N' : Nat} {cA0 : ClassId} (hcA : s.vm.findClass ("[" ++ (FieldType.object C).toString) = some cA0) (hn : ¬ n < 0) (hN : n.toNatClampNeg = N') (hbytes : N' * 4 ≤ 536870912) (hcells : cells + 1 ≤ R.cells) (hslots : slots + N' ≤ R.slots) (hdg : decode cc pc = .ok (.anewarray index, 3))
    (kk : ∀ (H1 : Heap), H1.size = H.size + 1 → va_P D cl (ws ++ [(H.size, .inl (cA0, N', .inr (.inr (.inr (.inr (fun _ => none))))))]) H1 → va_S A H0 H1 locs →
      W p l e R s m args below meth c H1 locs (cells + 1) (slots + N') Q (F0 m (pc + 3) ls (.ref H.size :: rest))) : W p l e R s m args below meth c H locs cells slots Q (F0 m pc ls (.int n :: rest)) := by
  subst hN
  refine W.anew hexec hb hown hclink (va_AO.use hover) rfl hdg rfl hn hbytes hcells hslots fun cA kA comp f1 f2 f3 f4 => ?_
  cases hcA.symm.trans f1
  generalize hH1 : H.push ({ cls := cA0, slots := Array.replicate n.toNatClampNeg .null, vm := .none } : Cell) = H1
  have z1 : H1.size = H.size + 1 := by rw [← hH1, Array.size_push]
  have e1 : H1[H.size]? = some (arrV cA0 n.toNatClampNeg (fun _ => .null)) := by rw [← hH1, Array.getElem?_push_size, ← arrV_new]
  have o1 : ∀ q : Nat, q < H.size → H1[q]? = H[q]? := fun q hq => by rw [← hH1, Array.getElem?_push, if_neg (Nat.ne_of_lt hq)]
  have hk : ∀ (k : Nat) (x : Nat × va_E), ws[k]? = some x → H1[x.1]? = H[x.1]? := fun k x hx => o1 x.1 ((hP k x hx).lt)
  refine kk H1 z1 ((hP.kept hk).app (fun k x hx => ?_)) ⟨Nat.le_trans hS.1 (by omega), fun x h1 h2 => (o1 x (Nat.lt_of_lt_of_le h1 hS.1)).trans (hS.2.1 x h1 h2), hS.2.2⟩
  have hz : k < 1 := (List.getElem?_eq_some_iff.mp hx).1
  rw [show k = 0 by omega] at hx
  cases hx
  show H1[H.size]? = some (vp_cell _ _)
  rw [vp_cell_q]
  exact e1
end HS
end
section
/-! what an instruction on the heap does to the memory, as a pure value: none where the machine itself would throw -/
def gi {β : Type} (M : Me) (a ci k : Nat) (Kf : Int32 → Option β) : Option β := if me_k M a = some (ci, nf_c ci) then Kf (me_i M a k) else none
def gr {β : Type} (M : Me) (a ci k : Nat) (Kf : Nat → Option β) : Option β := if me_k M a = some (ci, nf_c ci) then (me_r M a k).bind Kf else none
def pi {β : Type} (M : Me) (a ci k : Nat) (v : Int32) (Kf : Me → Option β) : Option β := if me_k M a = some (ci, nf_c ci) then Kf (me_si M a k v) else none
def pz {β : Type} (M : Me) (a ci k : Nat) (v : Int32) (Kf : Me → Option β) : Option β := if me_k M a = some (ci, nf_c ci) ∧ (v = 0 ∨ v = 1) then Kf (me_si M a k v) else none
def pr {β : Type} (M : Me) (a ci k o : Nat) (Kf : Me → Option β) : Option β := if me_k M a = some (ci, nf_c ci) then Kf (me_sr M a k (some o)) else none
def ln (M : Me) (a kd : Nat) : Option Nat := (me_k M a).bind (fun q => if q.1 = kd then some q.2 else none)
def li {β : Type} (M : Me) (a : Nat) (i : Int32) (Kf : Int32 → Option β) : Option β := (ln M a 20).bind (fun n => if i < 0 ∨ n ≤ i.toNatClampNeg then none else Kf (me_i M a i.toNatClampNeg))
def lz {β : Type} (M : Me) (a : Nat) (i : Int32) (Kf : Int32 → Option β) : Option β := (ln M a 21).bind (fun n => if i < 0 ∨ n ≤ i.toNatClampNeg then none else Kf (me_i M a i.toNatClampNeg))
def si {β : Type} (M : Me) (a : Nat) (i v : Int32) (Kf : Me → Option β) : Option β := (ln M a 20).bind (fun n => if i < 0 ∨ n ≤ i.toNatClampNeg then none else Kf (me_si M a i.toNatClampNeg v))
def sz {β : Type} (M : Me) (a : Nat) (i v : Int32) (Kf : Me → Option β) : Option β := (ln M a 21).bind (fun n => if i < 0 ∨ n ≤ i.toNatClampNeg ∨ ¬ (v = 0 ∨ v = 1) then none else Kf (me_si M a i.toNatClampNeg v))
def lr {β : Type} (M : Me) (a kd : Nat) (i : Int32) (Kf : Nat → Option β) : Option β := (ln M a kd).bind (fun n => if i < 0 ∨ n ≤ i.toNatClampNeg then none else (me_r M a i.toNatClampNeg).bind Kf)
def lo {β : Type} (M : Me) (a kd : Nat) (i : Int32) (Kf : Option Nat → Option β) : Option β := (ln M a kd).bind (fun n => if i < 0 ∨ n ≤ i.toNatClampNeg then none else Kf (me_r M a i.toNatClampNeg))
def sr {β : Type} (M : Me) (a kd ci : Nat) (i : Int32) (o : Nat) (Kf : Me → Option β) : Option β := (ln M a kd).bind (fun n => if i < 0 ∨ n ≤ i.toNatClampNeg ∨ ¬ me_k M o = some (ci, nf_c ci) then none else Kf (me_sr M a i.toNatClampNeg (some o)))
def al {β : Type} (M : Me) (a kd : Nat) (Kf : Int32 → Option β) : Option β := (ln M a kd).bind (fun n => Kf (Int32.ofNat n))
def no {β : Type} (M : Me) (ci : Nat) (Kf : Nat → Me → Option β) : Option β := Kf M.1.length (me_nw M (ci, nf_c ci))
def na {β : Type} (M : Me) (kd n : Nat) (Kf : Nat → Me → Option β) : Option β := Kf M.1.length (me_nw M (kd, n))
def ac {β : Type} (M : Me) (a0 : Nat) (sp : Int32) (a : Nat) (dp n : Int32) (Kf : Me → Option β) : Option β := (ln M a0 20).bind (fun n0 => (ln M a 20).bind (fun n1 => if sp < 0 ∨ dp < 0 ∨ n < 0 ∨ n0 < sp.toNatClampNeg + n.toNatClampNeg ∨ n1 < dp.toNatClampNeg + n.toNatClampNeg then none else Kf (me_cp M a a0 sp.toNatClampNeg dp.toNatClampNeg n.toNatClampNeg)))
theorem ln_some {M : Me} {a kd n : Nat} (h : ln M a kd = some n) : me_k M a = some (kd, n) := by
  unfold ln at h
  cases hk : me_k M a with
  | none => rw [hk] at h; cases h
  | some q =>
    obtain ⟨q1, q2⟩ := q
    rw [hk] at h
    simp only [Option.bind_some] at h
    split at h
    · rename_i e; cases h; rw [show q1 = kd from e]
    · cases h
/-- a field's link in a class's table -/
def fl_k (own : String) (index ci k : Nat) : Prop := Cond.fieldLink own index (tb_f ci k).1 (tb_f ci k).2.1 (tb_f ci k).2.2.1 ∈ gw_s ∨ ∃ host, Cond.fieldLinkNest own index (tb_f ci k).1 (tb_f ci k).2.1 (tb_f ci k).2.2.1 host ∈ nw_s
theorem fl_use {own : String} {index ci k : Nat} (h : fl_k own index ci k) {X : Xc} {p : Program} {s : State} {m : MethodId} {args : Array Value} {meth : Method} {c : Code} {K : Kn} {b : Nat} (A : Am X p s m args meth c K b) :
    (Cond.fieldLink own index (tb_f ci k).1 (tb_f ci k).2.1 (tb_f ci k).2.2.1).before args s = true ∨ ∃ host, (Cond.fieldLinkNest own index (tb_f ci k).1 (tb_f ci k).2.1 (tb_f ci k).2.2.1 host).before args s = true := by
  rcases h with h | ⟨host, h⟩
  · exact Or.inl (A.2.2.2.2.2.1 _ h)
  · exact Or.inr ⟨host, va_Nw.use rfl (A.2.2.2.2.2.2.1.2 _ h)⟩
theorem ce_obj {dA : Nat → ClassId} {b ci : Nat} {r : Nat → Option Nat} {i : Nat → Int32} (hc : ci < 13) : ce_l dA b (ci, nf_c ci) r i = .inr (ci, (List.range (nf_c ci)).map (fun k => if is_r (ty_f ci k) = true then va_rf (up_o b (r k)) else .int (i k))) := by
  unfold ce_l
  rw [if_pos (show ci < 20 by omega)]
theorem ob_set {b ci k : Nat} {r r2 : Nat → Option Nat} {i i2 : Nat → Int32} {v : Value} (hk : k < nf_c ci) (hv : (if is_r (ty_f ci k) = true then va_rf (up_o b (r2 k)) else .int (i2 k)) = v) (ho : ∀ x, x ≠ k → r2 x = r x ∧ i2 x = i x) :
    (List.range (nf_c ci)).map (fun k => if is_r (ty_f ci k) = true then va_rf (up_o b (r2 k)) else .int (i2 k)) = ((List.range (nf_c ci)).map (fun k => if is_r (ty_f ci k) = true then va_rf (up_o b (r k)) else .int (i k))).set k v := by
  apply List.ext_getElem?
  intro x
  rw [List.getElem?_set, List.getElem?_map, List.getElem?_map]
  by_cases hx : k = x
  · subst hx
    rw [if_pos rfl, if_pos (by simpa using hk), List.getElem?_range hk]
    simp only [Option.map_some]
    rw [hv]
  · rw [if_neg hx]
    by_cases hl : x < nf_c ci
    · rw [List.getElem?_range hl]
      simp only [Option.map_some]
      rw [(ho x (fun q => hx q.symm)).1, (ho x (fun q => hx q.symm)).2]
    · rw [List.getElem?_eq_none (by simpa using hl)]
      rfl
section JE
variable {X : Xc} {u : Nat × Nat} {M : Me} {pc q : Nat} {loc : List (Option Value)} {st : List Value} {β : Type} {G : β → Option Rs}
theorem v_getI {a ci k index : Nat} {Kf : Int32 → Option β} (hdg : decode X.1.2.1 pc = .ok (.getfield index, 3)) (hq : pc + 3 = q) (hf : fl_k X.1.1 index ci k) (hc : ci < 13) (hk : k < nf_c ci) (ht : is_r (ty_f ci k) = false) (kk : ∀ v, V X u M q loc (.int v :: st) (Kf v) G) : V X u M pc loc (.ref a :: st) (gi M a ci k Kf) G := by
  subst hq
  intro res hres p l e s m args below meth c K b H locs ls A hP hS hz hl
  unfold gi at hres
  split at hres
  · rename_i hkd
    refine h_get A.1 A.2.1 A.2.2.2.2.2.1 (cl_in ci hc) A.2.2.2.2.1 A.2.2.2.2.2.2.1.1 hP a (by rw [en_at hkd, ce_obj hc]) (cl_at ci hc) k hk (fl_use hf A) (v := .int (me_i M a k)) ?_ hdg (kk _ res hres p l e s m args below meth c K b H locs ls A hP hS hz hl)
    rw [List.getElem?_map, List.getElem?_range hk]
    simp only [Option.map_some, ht]
    rfl
  · cases hres
theorem v_getR {a ci k index : Nat} {Kf : Nat → Option β} (hdg : decode X.1.2.1 pc = .ok (.getfield index, 3)) (hq : pc + 3 = q) (hf : fl_k X.1.1 index ci k) (hc : ci < 13) (hk : k < nf_c ci) (ht : is_r (ty_f ci k) = true) (kk : ∀ o, V X u M q loc (.ref o :: st) (Kf o) G) : V X u M pc loc (.ref a :: st) (gr M a ci k Kf) G := by
  subst hq
  intro res hres p l e s m args below meth c K b H locs ls A hP hS hz hl
  unfold gr at hres
  split at hres
  · rename_i hkd
    cases ho : me_r M a k with
    | none => rw [ho] at hres; cases hres
    | some o =>
      rw [ho] at hres
      refine h_get A.1 A.2.1 A.2.2.2.2.2.1 (cl_in ci hc) A.2.2.2.2.1 A.2.2.2.2.2.2.1.1 hP a (by rw [en_at hkd, ce_obj hc]) (cl_at ci hc) k hk (fl_use hf A) (v := .ref (b + o)) ?_ hdg (kk _ res hres p l e s m args below meth c K b H locs ls A hP hS hz hl)
      rw [List.getElem?_map, List.getElem?_range hk]
      have ho2 : M.2.1 a k = some o := ho
      simp only [Option.map_some, ht, ho2]
      rfl
  · cases hres
theorem v_putI {a ci k index : Nat} {x : Int32} {Kf : Me → Option β} (hdg : decode X.1.2.1 pc = .ok (.putfield index, 3)) (hq : pc + 3 = q) (hf : fl_k X.1.1 index ci k) (hc : ci < 13) (hk : k < nf_c ci) (ht : ty_f ci k = .int) (hfin : (tb_f ci k).2.2.2 = false) (kk : ∀ M2, V X u M2 q loc st (Kf M2) G) : V X u M pc loc (.int x :: .ref a :: st) (pi M a ci k x Kf) G := by
  subst hq
  intro res hres p l e s m args below meth c K b H locs ls A hP hS hz hl
  unfold pi at hres
  split at hres
  · rename_i hkd
    refine h_put A.1 A.2.1 A.2.2.2.2.2.1 (cl_in ci hc) (ty_f ci) (cl_ty ci hc) (cl_nm ci hc) A.2.2.2.2.1 A.2.2.2.2.2.2.1.1 hP en_D hS a (by rw [en_at hkd, ce_obj hc]) (cl_at ci hc) k hk (fl_use hf A) hfin (v := .int x) (cl_ty ci hc k hk) (by rw [ht]; rfl) (by rw [ht]; rfl) (by simpa using hk) hdg (fun H1 locs1 hz1 hP1 hS1 => ?_)
    refine kk _ res hres p l e s m args below meth c K b H1 locs1 ls A ?_ hS1 (hz1.trans hz) hl
    rw [en_set (N := me_si M a k x) hkd rfl (fun y hy => ⟨rfl, by funext z; simp [me_si, hy]⟩) ?_] at hP1
    · exact hP1
    · rw [ce_obj hc, ← ob_set (r2 := M.2.1 a) (i2 := (me_si M a k x).2.2 a) hk (by rw [ht]; simp [is_r, me_si]) (fun y hy => ⟨rfl, by simp [me_si, hy]⟩)]
      rfl
  · cases hres
theorem v_putZ {a ci k index : Nat} {x : Int32} {Kf : Me → Option β} (hdg : decode X.1.2.1 pc = .ok (.putfield index, 3)) (hq : pc + 3 = q) (hf : fl_k X.1.1 index ci k) (hc : ci < 13) (hk : k < nf_c ci) (ht : ty_f ci k = .boolean) (hfin : (tb_f ci k).2.2.2 = false) (kk : ∀ M2, V X u M2 q loc st (Kf M2) G) : V X u M pc loc (.int x :: .ref a :: st) (pz M a ci k x Kf) G := by
  subst hq
  intro res hres p l e s m args below meth c K b H locs ls A hP hS hz hl
  unfold pz at hres
  split at hres
  · rename_i hkd
    obtain ⟨hkd, hx⟩ := hkd
    refine h_put A.1 A.2.1 A.2.2.2.2.2.1 (cl_in ci hc) (ty_f ci) (cl_ty ci hc) (cl_nm ci hc) A.2.2.2.2.1 A.2.2.2.2.2.2.1.1 hP en_D hS a (by rw [en_at hkd, ce_obj hc]) (cl_at ci hc) k hk (fl_use hf A) hfin (v := .int x) (cl_ty ci hc k hk) (by rw [ht]; rcases hx with rfl | rfl <;> decide +kernel) (by rw [ht]; rcases hx with rfl | rfl <;> decide +kernel) (by simpa using hk) hdg (fun H1 locs1 hz1 hP1 hS1 => ?_)
    refine kk _ res hres p l e s m args below meth c K b H1 locs1 ls A ?_ hS1 (hz1.trans hz) hl
    rw [en_set (N := me_si M a k x) hkd rfl (fun y hy => ⟨rfl, by funext z; simp [me_si, hy]⟩) ?_] at hP1
    · exact hP1
    · rw [ce_obj hc, ← ob_set (r2 := M.2.1 a) (i2 := (me_si M a k x).2.2 a) hk (by rw [ht]; simp [is_r, me_si]) (fun y hy => ⟨rfl, by simp [me_si, hy]⟩)]
      rfl
  · cases hres
theorem v_putR {a ci k o index : Nat} {Kf : Me → Option β} (hdg : decode X.1.2.1 pc = .ok (.putfield index, 3)) (hq : pc + 3 = q) (hf : Cond.fieldLink X.1.1 index (tb_f ci k).1 (tb_f ci k).2.1 (tb_f ci k).2.2.1 ∈ gw_s) (hc : ci < 13) (hk : k < nf_c ci) (ht : is_r (ty_f ci k) = true) (hfin : (tb_f ci k).2.2.2 = true) (hn : X.1.2.2.2.2 = "<init>") (hd : (tb_f ci k).1 = X.1.1) (kk : ∀ M2, V X u M2 q loc st (Kf M2) G) : V X u M pc loc (.ref o :: .ref a :: st) (pr M a ci k o Kf) G := by
  subst hq
  intro res hres p l e s m args below meth c K b H locs ls A hP hS hz hl
  unfold pr at hres
  split at hres
  · rename_i hkd
    have hnar : narrow (ty_f ci k) (.ref (b + o)) = .ref (b + o) := by
      cases h9 : ty_f ci k <;> rw [h9] at ht <;> first | rfl | (cases ht)
    have hfit : fits (ty_f ci k) (.ref (b + o)) = true := by
      cases h9 : ty_f ci k <;> rw [h9] at ht <;> first | rfl | (cases ht)
    refine h_putF A.1 A.2.1 A.2.2.2.2.2.1 (cl_in ci hc) (ty_f ci) (cl_ty ci hc) (cl_nm ci hc) A.2.2.2.2.1 A.2.2.2.2.2.2.1.1 hP en_D hS a (by rw [en_at hkd, ce_obj hc]) (cl_at ci hc) k hk (A.2.2.2.2.2.1 _ hf) hfin (A.2.2.2.2.2.2.2.2.1.trans hn) hd (v := .ref (b + o)) (cl_ty ci hc k hk) hnar hfit (by simpa using hk) hdg (fun H1 locs1 hz1 hP1 hS1 => ?_)
    refine kk _ res hres p l e s m args below meth c K b H1 locs1 ls A ?_ hS1 (hz1.trans hz) hl
    rw [en_set (N := me_sr M a k (some o)) hkd rfl (fun y hy => ⟨by funext z; simp [me_sr, hy], rfl⟩) ?_] at hP1
    · exact hP1
    · rw [ce_obj hc, ← ob_set (r2 := (me_sr M a k (some o)).2.1 a) (i2 := M.2.2 a) hk (by rw [ht]; simp [me_sr, up_o, va_rf]) (fun y hy => ⟨by simp [me_sr, hy], rfl⟩)]
      rfl
  · cases hres
theorem ce_int {dA : Nat → ClassId} {b n : Nat} {r : Nat → Option Nat} {i : Nat → Int32} : ce_l dA b (20, n) r i = .inl (dA 20, n, .inl i) := rfl
theorem ce_boo {dA : Nat → ClassId} {b n : Nat} {r : Nat → Option Nat} {i : Nat → Int32} : ce_l dA b (21, n) r i = .inl (dA 21, n, .inl i) := rfl
theorem ce_ref {dA : Nat → ClassId} {b n kd : Nat} {r : Nat → Option Nat} {i : Nat → Int32} (h : 22 ≤ kd) : ce_l dA b (kd, n) r i = .inl (dA kd, n, .inr (.inr (.inr (.inr (fun j => up_o b (r j)))))) := by
  unfold ce_l
  rw [if_neg (show ¬ kd < 20 by omega), if_neg (show ¬ kd < 22 by omega)]
theorem v_iaload {a : Nat} {i : Int32} {Kf : Int32 → Option β} (hdg : decode X.1.2.1 pc = .ok (.iaload, 1)) (hq : pc + 1 = q) (kk : ∀ v, V X u M q loc (.int v :: st) (Kf v) G) : V X u M pc loc (.int i :: .ref a :: st) (li M a i Kf) G := by
  subst hq
  intro res hres p l e s m args below meth c K b H locs ls A hP hS hz hl
  unfold li at hres
  cases hn : ln M a 20 with
  | none => rw [hn] at hres; cases hres
  | some n =>
    rw [hn] at hres
    simp only [Option.bind_some] at hres
    split at hres
    · cases hres
    · rename_i hi
      exact va_iald (f := M.2.2 a) A.1 A.2.1 A.2.2.2.2.2.2.1.1 hP a 0 (by rw [en_at (ln_some hn), ce_int]) rfl hi hdg (kk _ res hres p l e s m args below meth c K b H locs ls A hP hS hz hl)
theorem v_baload {a : Nat} {i : Int32} {Kf : Int32 → Option β} (hdg : decode X.1.2.1 pc = .ok (.baload, 1)) (hq : pc + 1 = q) (kk : ∀ v, V X u M q loc (.int v :: st) (Kf v) G) : V X u M pc loc (.int i :: .ref a :: st) (lz M a i Kf) G := by
  subst hq
  intro res hres p l e s m args below meth c K b H locs ls A hP hS hz hl
  unfold lz at hres
  cases hn : ln M a 21 with
  | none => rw [hn] at hres; cases hres
  | some n =>
    rw [hn] at hres
    simp only [Option.bind_some] at hres
    split at hres
    · cases hres
    · rename_i hi
      exact va_zald (f := M.2.2 a) A.1 A.2.1 A.2.2.2.2.2.2.1.1 hP a 1 (by rw [en_at (ln_some hn), ce_boo]) rfl hi hdg (kk _ res hres p l e s m args below meth c K b H locs ls A hP hS hz hl)
theorem v_iastore {a : Nat} {i x : Int32} {Kf : Me → Option β} (hdg : decode X.1.2.1 pc = .ok (.iastore, 1)) (hq : pc + 1 = q) (kk : ∀ M2, V X u M2 q loc st (Kf M2) G) : V X u M pc loc (.int x :: .int i :: .ref a :: st) (si M a i x Kf) G := by
  subst hq
  intro res hres p l e s m args below meth c K b H locs ls A hP hS hz hl
  unfold si at hres
  cases hn : ln M a 20 with
  | none => rw [hn] at hres; cases hres
  | some n =>
    rw [hn] at hres
    simp only [Option.bind_some] at hres
    split at hres
    · cases hres
    · rename_i hi
      refine h_iast A.1 A.2.1 A.2.2.2.2.2.2.1.1 hP en_D hS a 0 (by rw [en_at (ln_some hn), ce_int]) rfl hi hdg (fun H1 locs1 hz1 hP1 hS1 => ?_)
      refine kk _ res hres p l e s m args below meth c K b H1 locs1 ls A ?_ hS1 (hz1.trans hz) hl
      rw [en_set (N := me_si M a i.toNatClampNeg x) (ln_some hn) rfl (fun y hy => ⟨rfl, by funext z; simp [me_si, hy]⟩) ?_] at hP1
      · exact hP1
      · rw [ce_int, show (me_si M a i.toNatClampNeg x).2.2 a = upd (M.2.2 a) i.toNatClampNeg x by funext z; simp [me_si, upd]]
theorem v_bastore {a : Nat} {i x : Int32} {Kf : Me → Option β} (hdg : decode X.1.2.1 pc = .ok (.bastore, 1)) (hq : pc + 1 = q) (kk : ∀ M2, V X u M2 q loc st (Kf M2) G) : V X u M pc loc (.int x :: .int i :: .ref a :: st) (sz M a i x Kf) G := by
  subst hq
  intro res hres p l e s m args below meth c K b H locs ls A hP hS hz hl
  unfold sz at hres
  cases hn : ln M a 21 with
  | none => rw [hn] at hres; cases hres
  | some n =>
    rw [hn] at hres
    simp only [Option.bind_some] at hres
    split at hres
    · cases hres
    · rename_i hi
      have hi2 : vp_in i n := fun q => hi (q.elim Or.inl (fun q => Or.inr (Or.inl q)))
      have hx : x = 0 ∨ x = 1 := Classical.byContradiction (fun q => hi (Or.inr (Or.inr q)))
      have hv : vp_nar .boolean x = x := by rcases hx with rfl | rfl <;> decide +kernel
      refine h_zast A.1 A.2.1 A.2.2.2.2.2.2.1.1 hP en_D hS a 1 (by rw [en_at (ln_some hn), ce_boo]) rfl hi2 hdg (fun H1 locs1 hz1 hP1 hS1 => ?_)
      refine kk _ res hres p l e s m args below meth c K b H1 locs1 ls A ?_ hS1 (hz1.trans hz) hl
      rw [hv] at hP1
      rw [en_set (N := me_si M a i.toNatClampNeg x) (ln_some hn) rfl (fun y hy => ⟨rfl, by funext z; simp [me_si, hy]⟩) ?_] at hP1
      · exact hP1
      · rw [ce_boo, show (me_si M a i.toNatClampNeg x).2.2 a = upd (M.2.2 a) i.toNatClampNeg x by funext z; simp [me_si, upd]]
/-- a read of a place of references that may be null -/
theorem v_aaloadO {a kd t0 : Nat} {C : String} {i : Int32} {Kf : Option Nat → Option β} (hdg : decode X.1.2.1 pc = .ok (.aaload, 1)) (hq : pc + 1 = q) (hkd : 22 ≤ kd) (ht : ∀ K : Kn, (ty_s K)[t0]? = some (K.2.2 kd, .object C)) (kk : ∀ o : Option Nat, ∀ (p : Program) (l : Launch) (e : Env) (s : State) (m : MethodId) (args : Array Value) (below : List Frame) (meth : Method) (c : Code) (K : Kn) (b : Nat) (H : Heap) (locs : List Loc) (ls : Array Slot) (res : Rs), (Kf o).bind G = some res →
    Am X p s m args meth c K b → va_P (K.1, K.2.1) cl_s (en_c K.2.2 b M) H → va_S (fun q => b ≤ q) s.heap H locs → H.size = b + M.1.length → lo_k b X.1.2.2.1 loc ls →
    W p l e (rm_d X.2.1 X.2.2.1 X.2.2.2) s m args below meth c H locs u.1 u.2 (MQ below (qc_r K b res) args s X.2.2.1 X.2.2.2 (fun q => b ≤ q)) (F0 m q ls (va_rf (up_o b o) :: st.map (up_v b)))) : V X u M pc loc (.int i :: .ref a :: st) (lo M a kd i Kf) G := by
  subst hq
  intro res hres p l e s m args below meth c K b H locs ls A hP hS hz hl
  unfold lo at hres
  cases hn : ln M a kd with
  | none => rw [hn] at hres; cases hres
  | some n =>
    rw [hn] at hres
    simp only [Option.bind_some] at hres
    split at hres
    · cases hres
    · rename_i hi
      exact va_aldq A.1 A.2.1 A.2.2.2.2.2.2.1.1 hP a t0 (by rw [en_at (ln_some hn), ce_ref hkd]) (ht K) hi hdg (kk _ p l e s m args below meth c K b H locs ls res hres A hP hS hz hl)
theorem v_aaload {a kd t0 : Nat} {C : String} {i : Int32} {Kf : Nat → Option β} (hdg : decode X.1.2.1 pc = .ok (.aaload, 1)) (hq : pc + 1 = q) (hkd : 22 ≤ kd) (ht : ∀ K : Kn, (ty_s K)[t0]? = some (K.2.2 kd, .object C)) (kk : ∀ o, V X u M q loc (.ref o :: st) (Kf o) G) : V X u M pc loc (.int i :: .ref a :: st) (lr M a kd i Kf) G := by
  have h := v_aaloadO (G := G) (X := X) (u := u) (M := M) (loc := loc) (st := st) (a := a) (i := i) (Kf := fun o => o.bind Kf) hdg hq hkd ht (fun o p l e s m args below meth c K b H locs ls res hres A hP hS hz hl => by
    cases o with
    | none => cases hres
    | some o => exact kk o res hres p l e s m args below meth c K b H locs ls A hP hS hz hl)
  exact h
/-- a place that may be null, asked at once whether it is -/
theorem v_aaloadN {a kd t0 q2 tgt : Nat} {C : String} {i : Int32} {off : Int} {F1 F2 : Option β} (hdg : decode X.1.2.1 pc = .ok (.aaload, 1)) (hq : pc + 1 = q) (hkd : 22 ≤ kd) (ht : ∀ K : Kn, (ty_s K)[t0]? = some (K.2.2 kd, .object C)) (hdg2 : decode X.1.2.1 q = .ok (.ifnonnull off, 3)) (htg : (q : Int) + off = (tgt : Int)) (hq2 : q + 3 = q2)
    (k1 : V X u M tgt loc st F1 G) (k2 : V X u M q2 loc st F2 G) : V X u M pc loc (.int i :: .ref a :: st) (lo M a kd i (fun o => if o = none then F2 else F1)) G := by
  subst hq2
  refine v_aaloadO hdg hq hkd ht (fun o p l e s m args below meth c K b H locs ls res hres A hP hS hz hl => ?_)
  cases o with
  | none => exact lv_ifnonnullN A.1 A.2.1 hdg2 (k2 res (by rw [if_pos rfl] at hres; exact hres) p l e s m args below meth c K b H locs ls A hP hS hz hl)
  | some x => exact lv_ifnonnull A.1 A.2.1 hdg2 htg (k1 res (by rw [if_neg (fun h => by cases h)] at hres; exact hres) p l e s m args below meth c K b H locs ls A hP hS hz hl)
theorem v_aastore {a kd t0 ci o : Nat} {i : Int32} {Kf : Me → Option β} (hdg : decode X.1.2.1 pc = .ok (.aastore, 1)) (hq : pc + 1 = q) (hkd : 22 ≤ kd) (hc : ci < 13) (ht : ∀ K : Kn, (ty_s K)[t0]? = some (K.2.2 kd, .object (rx_c ci))) (kk : ∀ M2, V X u M2 q loc st (Kf M2) G) : V X u M pc loc (.ref o :: .int i :: .ref a :: st) (sr M a kd ci i o Kf) G := by
  subst hq
  intro res hres p l e s m args below meth c K b H locs ls A hP hS hz hl
  unfold sr at hres
  cases hn : ln M a kd with
  | none => rw [hn] at hres; cases hres
  | some n =>
    rw [hn] at hres
    simp only [Option.bind_some] at hres
    split at hres
    · cases hres
    · rename_i hi
      have hi2 : vp_in i n := fun q => hi (q.elim Or.inl (fun q => Or.inr (Or.inl q)))
      have hko : me_k M o = some (ci, nf_c ci) := Classical.byContradiction (fun q => hi (Or.inr (Or.inr q)))
      refine h_astq A.1 A.2.1 A.2.2.2.2.2.2.1.1 hP en_D hS a t0 o ci (r := (rx_c ci, tb_f ci, nf_c ci)) (by rw [en_at (ln_some hn), ce_ref hkd]) (ht K) (by rw [en_at hko, ce_obj hc]) (cl_at ci hc) hi2 hdg (fun H1 locs1 hz1 hP1 hS1 => ?_)
      refine kk _ res hres p l e s m args below meth c K b H1 locs1 ls A ?_ hS1 (hz1.trans hz) hl
      rw [en_set (N := me_sr M a i.toNatClampNeg (some o)) (ln_some hn) rfl (fun y hy => ⟨by funext z; simp [me_sr, hy], rfl⟩) ?_] at hP1
      · exact hP1
      · rw [ce_ref hkd, show (fun j => up_o b ((me_sr M a i.toNatClampNeg (some o)).2.1 a j)) = va_up (fun j => up_o b (M.2.1 a j)) i.toNatClampNeg (some (b + o)) by
          funext z
          by_cases hzz : z = i.toNatClampNeg <;> simp [me_sr, va_up, hzz, up_o]]
theorem v_alen {a kd t0 : Nat} {ty : FieldType} {Kf : Int32 → Option β} (hdg : decode X.1.2.1 pc = .ok (.arraylength, 1)) (hq : pc + 1 = q) (hkd : 20 ≤ kd) (ht : ∀ K : Kn, (ty_s K)[t0]? = some (K.2.2 kd, ty)) (kk : ∀ v, V X u M q loc (.int v :: st) (Kf v) G) : V X u M pc loc (.ref a :: st) (al M a kd Kf) G := by
  subst hq
  intro res hres p l e s m args below meth c K b H locs ls A hP hS hz hl
  unfold al at hres
  cases hn : ln M a kd with
  | none => rw [hn] at hres; cases hres
  | some n =>
    rw [hn] at hres
    simp only [Option.bind_some] at hres
    have hce : ∃ x : vp_A, ce_l K.2.2 b (kd, n) (M.2.1 a) (M.2.2 a) = .inl (K.2.2 kd, x) ∧ x.1 = n := by
      unfold ce_l
      rw [if_neg (show ¬ kd < 20 by omega)]
      split
      · exact ⟨_, rfl, rfl⟩
      · exact ⟨_, rfl, rfl⟩
    obtain ⟨x, hx1, hx2⟩ := hce
    exact va_alen A.1 A.2.1 A.2.2.2.2.2.2.1.1 hP a t0 (by rw [en_at (ln_some hn), hx1]) (ht K) (v := Int32.ofNat n) (by rw [hx2]) hdg (kk _ res hres p l e s m args below meth c K b H locs ls A hP hS hz hl)
end JE
end
section
/-! making cells; calls; a contract out of V -/
theorem cl_df : ∀ ci, ci < 13 → ∀ j, j < nf_c ci → defaultValue (ty_f ci j) = (if is_r (ty_f ci j) = true then Value.null else .int 0) := by
  decide +kernel
section JF
variable {X : Xc} {u : Nat × Nat} {M : Me} {pc q : Nat} {loc : List (Option Value)} {st : List Value} {β : Type} {G : β → Option Rs}
theorem v_new {ci index : Nat} {Kf : Nat → Me → Option β} (hdg : decode X.1.2.1 pc = .ok (.new index, 3)) (hq : pc + 3 = q) (hc : ci < 13) (h1 : Cond.classLink X.1.1 index (rx_c ci) ∈ gw_s) (h2 : Cond.instantiable (rx_c ci) (nf_c ci) ∈ gw_s) (h3 : Cond.initialized (rx_c ci) ∈ gw_s) (hu : u.1 + 1 ≤ X.2.2.1 ∧ u.2 + nf_c ci ≤ X.2.2.2)
    (kk : ∀ a M2, V X (u.1 + 1, u.2 + nf_c ci) M2 q loc (.ref a :: st) (Kf a M2) G) : V X u M pc loc st (no M ci Kf) G := by
  subst hq
  intro res hres p l e s m args below meth c K b H locs ls A hP hS hz hl
  unfold no at hres
  refine h_new A.1 A.2.1 A.2.2.2.2.2.1 (cl_in ci hc) (ty_f ci) (cl_ty ci hc) A.2.2.2.2.1 (A.2.2.2.2.2.1 _ h1) (A.2.2.2.2.2.1 _ h2) (A.2.2.2.2.2.1 _ h3) A.2.2.2.2.2.2.1.1 hP hS (cl_at ci hc) (fs := (List.range (nf_c ci)).map (fun k => if is_r (ty_f ci k) = true then va_rf (up_o b none) else .int 0)) (fun j hj => ?_) hu.1 hu.2 hdg (fun H1 hz1 hP1 hS1 => ?_)
  · rw [cl_df ci hc j hj]
    simp [vp_V, hj]
    rfl
  · rw [hz] at hP1 ⊢
    refine kk _ _ res hres p l e s m args below meth c K b H1 locs ls A ?_ hS1 (by rw [hz1, hz]; simp [me_nw]; omega) hl
    rw [en_new, ce_obj hc]
    exact hP1
theorem v_newI {n : Int32} {N : Nat} {Kf : Nat → Me → Option β} (hdg : decode X.1.2.1 pc = .ok (.newarray .int, 2)) (hq : pc + 2 = q) (h1 : Cond.arrayClass .int ∈ gw_s) (hn : ¬ n < 0) (hN : n.toNatClampNeg = N) (hs : N ≤ 1000) (hu : u.1 + 1 ≤ X.2.2.1 ∧ u.2 + N ≤ X.2.2.2)
    (kk : ∀ a M2, V X (u.1 + 1, u.2 + N) M2 q loc (.ref a :: st) (Kf a M2) G) : V X u M pc loc (.int n :: st) (na M 20 N Kf) G := by
  subst hq
  intro res hres p l e s m args below meth c K b H locs ls A hP hS hz hl
  unfold na at hres
  refine h_newa (atype := .int) (ty := .int) A.1 A.2.1 (A.2.2.2.2.2.1 _ h1) rfl hP hS (a0 := (N, .inl (fun _ => 0))) (cA0 := K.2.2 20) (A.2.2.2.2.2.2.1.1.2 0 _ rfl).2 (fun _ => rfl) hn hN (by show N * 4 ≤ _; omega) hu.1 hu.2 hdg (fun H1 hz1 hP1 hS1 => ?_)
  rw [hz] at hP1 ⊢
  refine kk _ _ res hres p l e s m args below meth c K b H1 locs ls A ?_ hS1 (by rw [hz1, hz]; simp [me_nw]; omega) hl
  rw [en_new, ce_int]
  exact hP1
theorem v_newZ {n : Int32} {N : Nat} {Kf : Nat → Me → Option β} (hdg : decode X.1.2.1 pc = .ok (.newarray .boolean, 2)) (hq : pc + 2 = q) (h1 : Cond.arrayClass .boolean ∈ gw_s) (hn : ¬ n < 0) (hN : n.toNatClampNeg = N) (hs : N ≤ 1000) (hu : u.1 + 1 ≤ X.2.2.1 ∧ u.2 + N ≤ X.2.2.2)
    (kk : ∀ a M2, V X (u.1 + 1, u.2 + N) M2 q loc (.ref a :: st) (Kf a M2) G) : V X u M pc loc (.int n :: st) (na M 21 N Kf) G := by
  subst hq
  intro res hres p l e s m args below meth c K b H locs ls A hP hS hz hl
  unfold na at hres
  refine h_newa (atype := .boolean) (ty := .boolean) A.1 A.2.1 (A.2.2.2.2.2.1 _ h1) rfl hP hS (a0 := (N, .inl (fun _ => 0))) (cA0 := K.2.2 21) (A.2.2.2.2.2.2.1.1.2 1 _ rfl).2 (fun _ => rfl) hn hN (by show N * 1 ≤ _; omega) hu.1 hu.2 hdg (fun H1 hz1 hP1 hS1 => ?_)
  rw [hz] at hP1 ⊢
  refine kk _ _ res hres p l e s m args below meth c K b H1 locs ls A ?_ hS1 (by rw [hz1, hz]; simp [me_nw]; omega) hl
  rw [en_new, ce_boo]
  exact hP1
theorem v_newR {n : Int32} {N kd t0 index : Nat} {C : String} {Kf : Nat → Me → Option β} (hdg : decode X.1.2.1 pc = .ok (.anewarray index, 3)) (hq : pc + 3 = q) (hkd : 22 ≤ kd) (ht : ∀ K : Kn, (ty_s K)[t0]? = some (K.2.2 kd, .object C)) (h1 : Cond.classLink X.1.1 index C ∈ gw_s) (h2 : Cond.arrayOver (.object C) ∈ nw_s) (hn : ¬ n < 0) (hN : n.toNatClampNeg = N) (hs : N ≤ 1000) (hu : u.1 + 1 ≤ X.2.2.1 ∧ u.2 + N ≤ X.2.2.2)
    (kk : ∀ a M2, V X (u.1 + 1, u.2 + N) M2 q loc (.ref a :: st) (Kf a M2) G) : V X u M pc loc (.int n :: st) (na M kd N Kf) G := by
  subst hq
  intro res hres p l e s m args below meth c K b H locs ls A hP hS hz hl
  unfold na at hres
  obtain ⟨kA, comp, -, -, -, hf⟩ := (A.2.2.2.2.2.2.1.1.2 t0 _ (ht K)).2
  refine h_newq A.1 A.2.1 A.2.2.2.2.1 (A.2.2.2.2.2.1 _ h1) (A.2.2.2.2.2.2.1.2 _ h2) hP hS hf hn hN (by omega) hu.1 hu.2 hdg (fun H1 hz1 hP1 hS1 => ?_)
  rw [hz] at hP1 ⊢
  refine kk _ _ res hres p l e s m args below meth c K b H1 locs ls A ?_ hS1 (by rw [hz1, hz]; simp [me_nw]; omega) hl
  rw [en_new, ce_ref hkd]
  exact hP1
theorem v_acopy {a0 a index : Nat} {sp dp n : Int32} {Kf : Me → Option β} (hdg : decode X.1.2.1 pc = .ok (.invokestatic index, 3)) (hq : pc + 3 = q) (h1 : Cond.methodLink X.1.1 index arraycopyName ∈ gw_s) (h2 : Cond.native arraycopyName ∈ gw_s) (h3 : Cond.static arraycopyName ∈ gw_s) (h4 : Cond.initialized "java/lang/System" ∈ gw_s) (hd : 1 ≤ X.2.1) (hst : st = [])
    (kk : ∀ M2, V X u M2 q loc st (Kf M2) G) : V X u M pc loc (.int n :: .int dp :: .ref a :: .int sp :: .ref a0 :: st) (ac M a0 sp a dp n Kf) G := by
  subst hq
  subst hst
  intro res hres p l e s m args below meth c K b H locs ls A hP hS hz hl
  unfold ac at hres
  cases hn0 : ln M a0 20 with
  | none => rw [hn0] at hres; cases hres
  | some n0 =>
    rw [hn0] at hres
    simp only [Option.bind_some] at hres
    cases hn1 : ln M a 20 with
    | none => rw [hn1] at hres; cases hres
    | some n1 =>
      rw [hn1] at hres
      simp only [Option.bind_some] at hres
      split at hres
      · cases hres
      · rename_i hi
        have g1 : ¬ sp < 0 := fun q => hi (Or.inl q)
        have g2 : ¬ dp < 0 := fun q => hi (Or.inr (Or.inl q))
        have g3 : ¬ n < 0 := fun q => hi (Or.inr (Or.inr (Or.inl q)))
        have g4 : ¬ n0 < sp.toNatClampNeg + n.toNatClampNeg := fun q => hi (Or.inr (Or.inr (Or.inr (Or.inl q))))
        have g5 : ¬ n1 < dp.toNatClampNeg + n.toNatClampNeg := fun q => hi (Or.inr (Or.inr (Or.inr (Or.inr q))))
        have hloc : ((([] : List Value).map (up_v b)).map fun v => v.category).sum + (nativeFrameWords "java/lang/System" "arraycopy" 5 + 11) ≤ (rm_d X.2.1 X.2.2.1 X.2.2.2).locals := by
          have h9 : nativeFrameWords "java/lang/System" "arraycopy" 5 + 11 ≤ 38 := by decide +kernel
          show 0 + _ ≤ 38 * X.2.1
          omega
        refine h_copy A.1 A.2.1 (A.2.2.2.1.trans hl.1.symm) A.2.2.2.2.1 (A.2.2.2.2.2.1 _ h1) (A.2.2.2.2.2.1 _ h2) (A.2.2.2.2.2.1 _ h3) (A.2.2.2.2.2.1 _ h4) A.2.2.2.2.2.2.1.1 hP en_D hS a0 a 0 (f := M.2.2 a0) (g := M.2.2 a) (by rw [en_at (ln_some hn0), ce_int]) (by rw [en_at (ln_some hn1), ce_int]) rfl g1 g2 g3 (by omega) (by omega) hd hloc hdg (fun H1 locs1 hz1 hP1 hS1 => ?_)
        refine kk _ res hres p l e s m args below meth c K b H1 locs1 ls A ?_ hS1 (hz1.trans hz) hl
        rw [en_set (N := me_cp M a a0 sp.toNatClampNeg dp.toNatClampNeg n.toNatClampNeg) (ln_some hn1) rfl (fun y hy => ⟨rfl, by funext z; simp [me_cp, hy]⟩) ?_] at hP1
        · exact hP1
        · rw [ce_int, show (me_cp M a a0 sp.toNatClampNeg dp.toNatClampNeg n.toNatClampNeg).2.2 a = va_cpy (M.2.2 a0) (M.2.2 a) sp.toNatClampNeg dp.toNatClampNeg n.toNatClampNeg by funext z; simp [me_cp]]
theorem v_oinit {a index : Nat} {F : Option β} (hdg : decode X.1.2.1 pc = .ok (.invokespecial index, 3)) (hq : pc + 3 = q) (h1 : Cond.methodLink X.1.1 index Lib.objectInit ∈ gw_s) (h2 : Cond.instanceMethod Lib.objectInit ∈ gw_s) (h3 : Cond.code Lib.objectInit ⟨#[0xb1]⟩ 1 none ∈ gw_s) (hd : 1 ≤ X.2.1) (hst : st = []) (k : V X u M q loc st F G) : V X u M pc loc (.ref a :: st) F G := by
  subst hq
  subst hst
  intro res hres p l e s m args below meth c K b H locs ls A hP hS hz hl
  exact W.objInit A.1 A.2.1 A.2.2.2.2.1 (A.2.2.2.2.2.1 _ h1) (A.2.2.2.2.2.1 _ h2) (A.2.2.2.2.2.1 _ h3) rfl (hl.1.trans A.2.2.2.1.symm) rfl hdg hd (by show 2 * 0 + 0 + 12 ≤ 38 * X.2.1; omega) (k res hres p l e s m args below meth c K b H locs ls A hP hS hz hl)
end JF
theorem ho_blind {K : Kn} {b : Nat} {M : Me} {av : List Value} : FrameBlind (va_Pc av (ho_d K b M)) := by
  intro a U g mk h
  obtain ⟨h1, h2, h3, h4⟩ := h
  exact ⟨h1, h2, h3, kn_K.same (s := U) (U := U.calling g mk a) rfl h4⟩
/-- the words of a call -/
def cw_k (own : String) (index : Nat) (y : MethodName) (Y : My) (n : Nat) : Prop := (Cond.methodLink own index y ∈ gw_s ∨ ∃ host, Cond.methodLinkNest own index y host ∈ nw_s) ∧ Cond.code y Y.2.1 Y.2.2.1 Y.2.2.2.1 ∈ gw_s ∧ Cond.initialized y.cls ∈ gw_s ∧ (y.cls ≠ "java/lang/invoke/MethodHandle" ∧ y.cls ≠ "java/lang/invoke/VarHandle") ∧ (parseMethodDescriptor y.desc).map (fun d => d.parameters.length) = some n ∧ Y.2.2.1 ≤ 19
section JG
variable {X : Xc} {u : Nat × Nat} {M : Me} {pc q : Nat} {loc : List (Option Value)} {st : List Value} {β : Type} {F : Option β} {G : β → Option Rs}
theorem cw_ws {X : Xc} {p : Program} {s : State} {m : MethodId} {args : Array Value} {meth : Method} {c : Code} {K : Kn} {b : Nat} (A : Am X p s m args meth c K b) {w : Cond} (hw : w ∈ gw_s) : ∀ w2 ∈ (w :: gw_s), ∀ (a' : Array Value) (U : State), s.WarmedH U.vm → w2.before a' U = true := by
  intro w2 h2 a' U hW
  have h3 : w2 ∈ gw_s := by
    rcases List.mem_cons.mp h2 with rfl | h
    · exact hw
    · exact h
  exact word_at hW (gw_good _ h3) (A.2.2.2.2.2.1 _ h3)
/-- behind a call -/
theorem v_after {y : MethodName} {Y : My} {d mc ms : Nat} {res0 : Rs} {p : Program} {l : Launch} {e : Env} {s : State} {m : MethodId} {args : Array Value} {below : List Frame} {meth : Method} {c : Code} {K : Kn} {b : Nat} {H : Heap} {locs : List Loc} {ls : Array Slot} {st0 : List Value} {av : Array Value} {res : Rs}
    (hres : F.bind G = some res) (A : Am X p s m args meth c K b) (hS : va_S (fun q => b ≤ q) s.heap H locs) (hl : lo_k b X.1.2.2.1 loc ls)
    (hr : va_Run p l e (rm_d X.2.1 X.2.2.1 X.2.2.2) s m args below meth c H locs u.1 u.2 mc ms (F0 m pc ls st0) (st.map (up_v b)) (qc_r K b res0 av) (fun q => b ≤ q))
    (k : V X (u.1 + mc, u.2 + ms) res0.2 (pc + 3) loc (res0.1.toList ++ st) F G) :
    W p l e (rm_d X.2.1 X.2.2.1 X.2.2.2) s m args below meth c H locs u.1 u.2 (MQ below (qc_r K b res) args s X.2.2.1 X.2.2.2 (fun q => b ≤ q)) (F0 m pc ls st0) := by
  intro T hT Xs
  obtain ⟨v, st₀, t, T', L, h0, X', hL, e1, e2, ⟨hv, ⟨hz1, hP1, -⟩, hz, hk⟩, stp⟩ := hr T hT Xs
  cases hv
  rw [h0] at hz hk
  have hS1 : va_S (fun q => b ≤ q) s.heap T'.heap (locs ++ L) := ⟨Nat.le_trans hS.1 (by rw [e1]; exact hz), fun q h1 h2 => by rw [e1, hk q (Nat.lt_of_lt_of_le h1 hS.1) h2]; exact hS.2.1 q h1 h2, fun q hq => by
      rcases List.mem_append.mp hq with h | h
      · exact hS.2.2 q h
      · exact hL q h⟩
  obtain ⟨t2, a1, b1⟩ := k res hres p l e s m args below meth c K b T'.heap (locs ++ L) ls A (by rw [e1]; exact hP1) hS1 (by rw [e1]; exact hz1) hl T' rfl X'
  refine ⟨t2, stp t2 ?_, b1⟩
  have e9 : (res0.1.map (up_v b)).toList ++ st.map (up_v b) = (res0.1.toList ++ st).map (up_v b) := by
    cases res0.1 <;> rfl
  show Steps p.tables e below (T'.setTop (F0 m (pc + 3) ls ((res0.1.map (up_v b)).toList ++ st.map (up_v b)))) t2
  rw [e9]
  exact a1
theorem v_callV {y : MethodName} {Y : My} {d mc ms n ci a index : Nat} {av : List Value} {res0 : Rs} (hC : Ct y Y d mc ms (.ref a :: av) M res0) (hdg : decode X.1.2.1 pc = .ok (.invokevirtual index, 3)) (hq : pc + 3 = q) (hw : cw_k X.1.1 index y Y n) (h1 : Cond.instanceMethod y ∈ gw_s) (h2 : Cond.selects y.cls y y ∈ gw_s) (hn : av.length = n) (hd : d + 1 ≤ X.2.1) (hc : ci < 13) (hy : y.cls = rx_c ci) (hk : me_k M a = some (ci, nf_c ci)) (hst : (st.map fun v => v.category).sum ≤ 8) (hu : u.1 + mc ≤ X.2.2.1 ∧ u.2 + ms ≤ X.2.2.2)
    (k : V X (u.1 + mc, u.2 + ms) res0.2 q loc (res0.1.toList ++ st) F G) : V X u M pc loc (av.reverse ++ .ref a :: st) F G := by
  subst hq
  intro res hres p l e s m args below meth c K b H locs ls A hP hS hz hl
  obtain ⟨hlk, hcode, hini, hmh, hpd, hmL⟩ := hw
  have hstk : (av.reverse ++ .ref a :: st).map (up_v b) = (av.map (up_v b)).reverse ++ .ref (b + a) :: st.map (up_v b) := by
    rw [List.map_append, List.map_reverse]; rfl
  have hrest : ((st.map (up_v b)).map fun v => v.category).sum ≤ 8 := by
    rw [List.map_map]; rw [show ((fun v : Value => v.category) ∘ up_v b) = (fun v => v.category) by funext v; exact up_cat b v]; exact hst
  have hlen : ∀ sig, parseMethodDescriptor y.desc = some sig → n = sig.parameters.length := fun sig h => by
    rw [h] at hpd; exact (Option.some.inj hpd).symm
  have hpre : PreV s H y.cls (b + a) (va_Pc ((.ref a :: av).map (up_v b)) (ho_d K b M)) (av.map (up_v b)) :=
    ⟨ho_blind, by rw [hy]; exact va_recv A.2.2.2.2.2.2.1.1 hP (cl_at ci hc) (q0 := a) (by rw [en_at hk, ce_obj hc]), fun U hU hW => ⟨rfl, by rw [hU]; exact hz, by rw [hU]; exact hP, kn_K.warm hW A.2.2.2.2.2.2.1⟩⟩
  rw [hstk]
  rcases hlk with hlk | ⟨host, hlk⟩
  · exact v_after (mc := mc) (ms := ms) (y := y) (Y := Y) (d := d) hres A hS hl (va_runV (n := n) (As := av.map (up_v b)) (rest := st.map (up_v b)) ⟨A.1, A.2.1, A.2.2.2.1, A.2.2.2.2.1, A.2.2.2.2.2.1⟩ (hC l K b)
      ⟨⟨rfl, rfl, hd, (by show 8 + (Y.2.2.1 + 11) + 38 * d ≤ 38 * X.2.1; omega), cw_ws A hcode, List.mem_cons_self, A.2.2.2.2.2.1 _ hcode, A.2.2.2.2.2.1 _ hini, hmh, hlen, A.2.2.2.2.2.1 _ hlk⟩, A.2.2.2.2.2.1 _ h1, A.2.2.2.2.2.1 _ h2⟩ hpre rfl (by rw [List.length_map]; exact hn) hl.1 rfl (lv_room hrest) hdg hu) k
  · exact v_after (mc := mc) (ms := ms) (y := y) (Y := Y) (d := d) hres A hS hl (va_runVN (n := n) (As := av.map (up_v b)) (rest := st.map (up_v b)) ⟨A.1, A.2.1, A.2.2.2.1, A.2.2.2.2.1, A.2.2.2.2.2.1⟩ (hC l K b)
      ⟨⟨⟨rfl, rfl, hd, (by show 8 + (Y.2.2.1 + 11) + 38 * d ≤ 38 * X.2.1; omega), cw_ws A hcode, List.mem_cons_self⟩, A.2.2.2.2.2.1 _ hcode, A.2.2.2.2.2.1 _ hini, hmh, hlen, va_Nw.use rfl (A.2.2.2.2.2.2.1.2 _ hlk)⟩, A.2.2.2.2.2.1 _ h1, A.2.2.2.2.2.1 _ h2⟩ hpre rfl (by rw [List.length_map]; exact hn) hl.1 rfl (lv_room hrest) hdg hu) k
theorem v_callS {y : MethodName} {Y : My} {d mc ms n index : Nat} {av : List Value} {res0 : Rs} (hC : Ct y Y d mc ms av M res0) (hdg : decode X.1.2.1 pc = .ok (.invokestatic index, 3)) (hq : pc + 3 = q) (hw : cw_k X.1.1 index y Y n) (h1 : Cond.static y ∈ gw_s) (hn : av.length = n) (hd : d + 1 ≤ X.2.1) (hst : (st.map fun v => v.category).sum ≤ 8) (hu : u.1 + mc ≤ X.2.2.1 ∧ u.2 + ms ≤ X.2.2.2)
    (k : V X (u.1 + mc, u.2 + ms) res0.2 q loc (res0.1.toList ++ st) F G) : V X u M pc loc (av.reverse ++ st) F G := by
  subst hq
  intro res hres p l e s m args below meth c K b H locs ls A hP hS hz hl
  obtain ⟨hlk, hcode, hini, hmh, hpd, hmL⟩ := hw
  have hstk : (av.reverse ++ st).map (up_v b) = (av.map (up_v b)).reverse ++ st.map (up_v b) := by
    rw [List.map_append, List.map_reverse]
  have hrest : ((st.map (up_v b)).map fun v => v.category).sum ≤ 8 := by
    rw [List.map_map]; rw [show ((fun v : Value => v.category) ∘ up_v b) = (fun v => v.category) by funext v; exact up_cat b v]; exact hst
  have hlen : ∀ sig, parseMethodDescriptor y.desc = some sig → n = sig.parameters.length := fun sig h => by
    rw [h] at hpd; exact (Option.some.inj hpd).symm
  have hpre : PreS s H (va_Pc (av.map (up_v b)) (ho_d K b M)) (av.map (up_v b)) :=
    ⟨ho_blind, fun U hU hW => ⟨rfl, by rw [hU]; exact hz, by rw [hU]; exact hP, kn_K.warm hW A.2.2.2.2.2.2.1⟩⟩
  rw [hstk]
  rcases hlk with hlk | ⟨host, hlk⟩
  · exact v_after (mc := mc) (ms := ms) (y := y) (Y := Y) (d := d) hres A hS hl (va_runS (n := n) (As := av.map (up_v b)) (rest := st.map (up_v b)) ⟨A.1, A.2.1, A.2.2.2.1, A.2.2.2.2.1, A.2.2.2.2.2.1⟩ (hC l K b)
      ⟨⟨rfl, rfl, hd, (by show 8 + (Y.2.2.1 + 11) + 38 * d ≤ 38 * X.2.1; omega), cw_ws A hcode, List.mem_cons_self, A.2.2.2.2.2.1 _ hcode, A.2.2.2.2.2.1 _ hini, hmh, hlen, A.2.2.2.2.2.1 _ hlk⟩, A.2.2.2.2.2.1 _ h1⟩ hpre rfl (by rw [List.length_map]; exact hn) hl.1 rfl (lv_room hrest) hdg hu) k
  · exact v_after (mc := mc) (ms := ms) (y := y) (Y := Y) (d := d) hres A hS hl (va_runSN (n := n) (As := av.map (up_v b)) (rest := st.map (up_v b)) ⟨A.1, A.2.1, A.2.2.2.1, A.2.2.2.2.1, A.2.2.2.2.2.1⟩ (hC l K b)
      ⟨⟨⟨rfl, rfl, hd, (by show 8 + (Y.2.2.1 + 11) + 38 * d ≤ 38 * X.2.1; omega), cw_ws A hcode, List.mem_cons_self⟩, A.2.2.2.2.2.1 _ hcode, A.2.2.2.2.2.1 _ hini, hmh, hlen, va_Nw.use rfl (A.2.2.2.2.2.2.1.2 _ hlk)⟩, A.2.2.2.2.2.1 _ h1, trivial⟩ hpre rfl (by rw [List.length_map]; exact hn) hl.1 rfl (lv_room hrest) hdg hu) k
theorem v_callN {y : MethodName} {Y : My} {d mc ms n a index : Nat} {av : List Value} {res0 : Rs} (hC : Ct y Y d mc ms (.ref a :: av) M res0) (hdg : decode X.1.2.1 pc = .ok (.invokespecial index, 3)) (hq : pc + 3 = q) (hw : cw_k X.1.1 index y Y n) (hr : Y.2.2.2.1 = none) (h1 : Cond.instanceMethod y ∈ gw_s) (h2 : y.name = "<init>") (hn : av.length = n) (hd : d + 1 ≤ X.2.1) (hst : (st.map fun v => v.category).sum ≤ 8) (hu : u.1 + mc ≤ X.2.2.1 ∧ u.2 + ms ≤ X.2.2.2)
    (k : V X (u.1 + mc, u.2 + ms) res0.2 q loc (res0.1.toList ++ st) F G) : V X u M pc loc (av.reverse ++ .ref a :: st) F G := by
  subst hq
  intro res hres p l e s m args below meth c K b H locs ls A hP hS hz hl
  obtain ⟨hlk, hcode, hini, hmh, hpd, hmL⟩ := hw
  rw [hr] at hcode
  have hM := hC l K b
  rw [hr] at hM
  have hstk : (av.reverse ++ .ref a :: st).map (up_v b) = (av.map (up_v b)).reverse ++ .ref (b + a) :: st.map (up_v b) := by
    rw [List.map_append, List.map_reverse]; rfl
  have hrest : ((st.map (up_v b)).map fun v => v.category).sum ≤ 8 := by
    rw [List.map_map]; rw [show ((fun v : Value => v.category) ∘ up_v b) = (fun v => v.category) by funext v; exact up_cat b v]; exact hst
  have hlen : ∀ sig, parseMethodDescriptor y.desc = some sig → n = sig.parameters.length := fun sig h => by
    rw [h] at hpd; exact (Option.some.inj hpd).symm
  have hpre : PreS s H (va_Pc ((.ref a :: av).map (up_v b)) (ho_d K b M)) (.ref (b + a) :: av.map (up_v b)) :=
    ⟨ho_blind, fun U hU hW => ⟨rfl, by rw [hU]; exact hz, by rw [hU]; exact hP, kn_K.warm hW A.2.2.2.2.2.2.1⟩⟩
  rw [hstk]
  rcases hlk with hlk | ⟨host, hlk⟩
  · exact v_after (mc := mc) (ms := ms) (y := y) (Y := Y) (d := d) hres A hS hl (va_runI (n := n) (As := av.map (up_v b)) (rest := st.map (up_v b)) ⟨A.1, A.2.1, A.2.2.2.1, A.2.2.2.2.1, A.2.2.2.2.2.1⟩ hM
      ⟨⟨rfl, rfl, hd, (by show 8 + (Y.2.2.1 + 11) + 38 * d ≤ 38 * X.2.1; omega), cw_ws A hcode, List.mem_cons_self, A.2.2.2.2.2.1 _ hcode, A.2.2.2.2.2.1 _ hini, hmh, hlen, A.2.2.2.2.2.1 _ hlk⟩, h2, A.2.2.2.2.2.1 _ h1⟩ hpre rfl (by rw [List.length_map]; exact hn) hl.1 rfl (lv_room hrest) hdg hu) k
  · exact v_after (mc := mc) (ms := ms) (y := y) (Y := Y) (d := d) hres A hS hl (va_runIN (n := n) (As := av.map (up_v b)) (rest := st.map (up_v b)) ⟨A.1, A.2.1, A.2.2.2.1, A.2.2.2.2.1, A.2.2.2.2.2.1⟩ hM
      ⟨⟨⟨rfl, rfl, hd, (by show 8 + (Y.2.2.1 + 11) + 38 * d ≤ 38 * X.2.1; omega), cw_ws A hcode, List.mem_cons_self⟩, A.2.2.2.2.2.1 _ hcode, A.2.2.2.2.2.1 _ hini, hmh, hlen, va_Nw.use rfl (A.2.2.2.2.2.2.1.2 _ hlk)⟩, h2, A.2.2.2.2.2.1 _ h1⟩ hpre rfl (by rw [List.length_map]; exact hn) hl.1 rfl (lv_room hrest) hdg hu) k
end JG
/-! the entry -/
def lo_e (av : List Value) : List (Option Value) := av.flatMap (fun v => if v.category = 2 then [some v, none] else [some v])
theorem lo_sl (b : Nat) : ∀ (av : List Value), (lg_sl (av.map (up_v b))).length = (lo_e av).length ∧ ∀ (k : Nat) (v : Value), (lo_e av)[k]? = some (some v) → (lg_sl (av.map (up_v b)))[k]? = some (.val (up_v b v)) := by
  intro av
  induction av with
  | nil => exact ⟨rfl, fun k v h => by simp [lo_e] at h⟩
  | cons a av ih =>
    have e1 : lo_e (a :: av) = (if a.category = 2 then [some a, none] else [some a]) ++ lo_e av := rfl
    have e2 : lg_sl ((a :: av).map (up_v b)) = (if (up_v b a).category = 2 then [.val (up_v b a), .second] else [.val (up_v b a)]) ++ lg_sl (av.map (up_v b)) := rfl
    rw [e1, e2, up_cat]
    by_cases h : a.category = 2
    · rw [if_pos h, if_pos h]
      refine ⟨by simp [ih.1], fun k v hk => ?_⟩
      match k, hk with
      | 0, hk => simp at hk; subst hk; rfl
      | 1, hk => simp at hk
      | k + 2, hk => exact ih.2 k v hk
    · rw [if_neg h, if_neg h]
      refine ⟨by simp [ih.1], fun k v hk => ?_⟩
      match k, hk with
      | 0, hk => simp at hk; subst hk; rfl
      | k + 1, hk => exact ih.2 k v hk
theorem ct_of {y : MethodName} {Y : My} {d mc ms : Nat} {av : List Value} {M : Me} {res : Rs} {β : Type} {F : Option β} {G : β → Option Rs} (hy : plainName y.cls = true) (h1 : Y.1 = y.cls) (h2 : Y.2.2.2.2 = y.name) (hl : (lo_e av).length ≤ Y.2.2.1)
    (hV : V (Y, d, mc, ms) (0, 0) M 0 (lo_e av ++ List.replicate (Y.2.2.1 - (lo_e av).length) none) [] F G) (hF : F.bind G = some res) : Ct y Y d mc ms av M res := by
  intro l K b
  refine Met.ofW (cc := Y.2.1) (maxL := Y.2.2.1) (ret := Y.2.2.2.1) hy rfl ?_
  intro p e s m args below meth c s₁ B hml hv
  obtain ⟨rfl, hz, hP, hK⟩ := hv
  have hts := atoms_spec (ws := (Cond.code y Y.2.1 Y.2.2.1 Y.2.2.2.1 :: gw_s)) B.pre
  have hlen := (lo_sl b av).1
  have hent := lv_entry (av.map (up_v b)) (n := Y.2.2.1) (by rw [hlen]; exact hl)
  rw [lg_entry_eq]
  refine hV res hF p l e s m _ below meth c K b s.heap [] _ ⟨B.exec, B.bytes, B.returns, hml, by rw [h1]; exact findClass_of_methodNamed B.named, fun w hw => hts w (List.mem_cons_of_mem _ hw), hK, B.notSynchronized, by rw [h2]; exact (name_of_methodNamed B.named B.method).1, by rw [hz]; exact Nat.le_add_right _ _⟩ hP va_S.rf hz ⟨hent.1, hent.2.1, fun k v hk => ?_⟩
  by_cases hkl : k < (lo_e av).length
  · rw [List.getElem?_append_left hkl] at hk
    have h9 := (lo_sl b av).2 k v hk
    simp only [List.getElem?_toArray]
    rw [List.getElem?_append_left (by rw [hlen]; exact hkl)]
    exact h9
  · rw [List.getElem?_append_right (by omega)] at hk
    rw [List.getElem?_replicate] at hk
    split at hk <;> cases hk
end
section
/-! rules with their facts in one, and the calls by the kind of what they answer -/
def ck {β : Type} (M : Me) (a ci : Nat) (F : Option β) : Option β := if me_k M a = some (ci, nf_c ci) then F else none
theorem ck_some {β : Type} {M : Me} {a ci : Nat} {F : Option β} {r : β} (h : ck M a ci F = some r) : me_k M a = some (ci, nf_c ci) ∧ F = some r := by
  unfold ck at h
  split at h
  · rename_i h0; exact ⟨h0, h⟩
  · cases h
def cI {β : Type} (x : Option (Int32 × Me)) (Kf : Int32 → Me → Option β) : Option β := x.bind (fun z => Kf z.1 z.2)
def cE {β : Type} (x : Option (Int64 × Me)) (Kf : Int64 → Me → Option β) : Option β := x.bind (fun z => Kf z.1 z.2)
def cP {β : Type} (x : Option Int32) (Kf : Int32 → Option β) : Option β := x.bind Kf
def cL {β : Type} (x : Option Int64) (Kf : Int64 → Option β) : Option β := x.bind Kf
def cR {β : Type} (x : Option Nat) (Kf : Nat → Option β) : Option β := x.bind Kf
def cM {β : Type} (x : Option Me) (Kf : Me → Option β) : Option β := x.bind Kf
def ex_r {E T β : Type} (x : Option (E ⊕ T)) (H : E → Option β) (P : T → Option β) : Option β := x.bind (fun z => match z with
  | .inl e => H e
  | .inr t => P t)
def fi_k (own : String) (index ci k : Nat) : Prop := fl_k own index ci k ∧ ci < 13 ∧ k < nf_c ci ∧ is_r (ty_f ci k) = false
def fr_k (own : String) (index ci k : Nat) : Prop := fl_k own index ci k ∧ ci < 13 ∧ k < nf_c ci ∧ is_r (ty_f ci k) = true
def wi_k (own : String) (index ci k : Nat) : Prop := fl_k own index ci k ∧ ci < 13 ∧ k < nf_c ci ∧ ty_f ci k = .int ∧ (tb_f ci k).2.2.2 = false
def wz_k (own : String) (index ci k : Nat) : Prop := fl_k own index ci k ∧ ci < 13 ∧ k < nf_c ci ∧ ty_f ci k = .boolean ∧ (tb_f ci k).2.2.2 = false
def wr_k (own : String) (index ci k : Nat) : Prop := Cond.fieldLink own index (tb_f ci k).1 (tb_f ci k).2.1 (tb_f ci k).2.2.1 ∈ gw_s ∧ ci < 13 ∧ k < nf_c ci ∧ is_r (ty_f ci k) = true ∧ (tb_f ci k).2.2.2 = true ∧ (tb_f ci k).1 = own
def cv_k (own : String) (index : Nat) (y : MethodName) (Y : My) (n ci : Nat) : Prop := cw_k own index y Y n ∧ Cond.instanceMethod y ∈ gw_s ∧ Cond.selects y.cls y y ∈ gw_s ∧ ci < 13 ∧ y.cls = rx_c ci
def cs_k (own : String) (index : Nat) (y : MethodName) (Y : My) (n : Nat) : Prop := cw_k own index y Y n ∧ Cond.static y ∈ gw_s
def cn_k (own : String) (index : Nat) (y : MethodName) (Y : My) (n : Nat) : Prop := cw_k own index y Y n ∧ Y.2.2.2.1 = none ∧ Cond.instanceMethod y ∈ gw_s ∧ y.name = "<init>"
def no_k (own : String) (index ci : Nat) : Prop := ci < 13 ∧ Cond.classLink own index (rx_c ci) ∈ gw_s ∧ Cond.instantiable (rx_c ci) (nf_c ci) ∈ gw_s ∧ Cond.initialized (rx_c ci) ∈ gw_s
def lo_l : List (Option Value) → List (Option Value) → Prop
  | [], _ => True
  | none :: l2, _ :: l => lo_l l2 l
  | none :: _, [] => False
  | some v :: l2, w :: l => w = some v ∧ lo_l l2 l
  | some _ :: _, [] => False
theorem lo_ls : ∀ (l2 l : List (Option Value)), lo_l l2 l → ∀ (k : Nat) (v : Value), l2[k]? = some (some v) → l[k]? = some (some v) := by
  intro l2
  induction l2 with
  | nil => intro l _ k v h; cases h
  | cons a l2 ih =>
    intro l h k v hk
    cases l with
    | nil => cases a <;> exact h.elim
    | cons w l =>
      cases a with
      | none =>
        cases k with
        | zero => cases hk
        | succ k => exact ih l h k v hk
      | some z =>
        obtain ⟨h1, h2⟩ := h
        cases k with
        | zero => subst h1; exact hk
        | succ k => exact ih l h2 k v hk

theorem gw_i0 {w : Cond} (i : Nat) (h : (k2_sels lw_privs)[i]? = some w) (hg : goodWord w = true) : w ∈ gw_s := List.mem_filter.mpr ⟨List.mem_append_left _ (List.mem_of_getElem? h), hg⟩
theorem nw_i0 {w : Cond} (i : Nat) (h : (k2_sels lw_privs)[i]? = some w) (hg : nw_q w = true) : w ∈ nw_s := List.mem_filter.mpr ⟨List.mem_append_left _ (List.mem_of_getElem? h), hg⟩
theorem tb_1 {w : Cond} (h : w ∈ tables_1_1) : w ∈ tables_1 := List.mem_append_left _ h
theorem gw_i1 {w : Cond} (i : Nat) (h : (tables_1_1)[i]? = some w) (hg : goodWord w = true) : w ∈ gw_s := List.mem_filter.mpr ⟨List.mem_append_right _ (tb_1 (List.mem_of_getElem? h)), hg⟩
theorem nw_i1 {w : Cond} (i : Nat) (h : (tables_1_1)[i]? = some w) (hg : nw_q w = true) : w ∈ nw_s := List.mem_filter.mpr ⟨List.mem_append_right _ (tb_1 (List.mem_of_getElem? h)), hg⟩
theorem tb_2 {w : Cond} (h : w ∈ tables_1_2) : w ∈ tables_1 := List.mem_append_right _ (List.mem_append_left _ h)
theorem gw_i2 {w : Cond} (i : Nat) (h : (tables_1_2)[i]? = some w) (hg : goodWord w = true) : w ∈ gw_s := List.mem_filter.mpr ⟨List.mem_append_right _ (tb_2 (List.mem_of_getElem? h)), hg⟩
theorem nw_i2 {w : Cond} (i : Nat) (h : (tables_1_2)[i]? = some w) (hg : nw_q w = true) : w ∈ nw_s := List.mem_filter.mpr ⟨List.mem_append_right _ (tb_2 (List.mem_of_getElem? h)), hg⟩
theorem tb_3 {w : Cond} (h : w ∈ tables_1_3) : w ∈ tables_1 := List.mem_append_right _ (List.mem_append_right _ (List.mem_append_left _ h))
theorem gw_i3 {w : Cond} (i : Nat) (h : (tables_1_3)[i]? = some w) (hg : goodWord w = true) : w ∈ gw_s := List.mem_filter.mpr ⟨List.mem_append_right _ (tb_3 (List.mem_of_getElem? h)), hg⟩
theorem nw_i3 {w : Cond} (i : Nat) (h : (tables_1_3)[i]? = some w) (hg : nw_q w = true) : w ∈ nw_s := List.mem_filter.mpr ⟨List.mem_append_right _ (tb_3 (List.mem_of_getElem? h)), hg⟩
theorem tb_4 {w : Cond} (h : w ∈ tables_1_4) : w ∈ tables_1 := List.mem_append_right _ (List.mem_append_right _ (List.mem_append_right _ (List.mem_append_left _ h)))
theorem gw_i4 {w : Cond} (i : Nat) (h : (tables_1_4)[i]? = some w) (hg : goodWord w = true) : w ∈ gw_s := List.mem_filter.mpr ⟨List.mem_append_right _ (tb_4 (List.mem_of_getElem? h)), hg⟩
theorem nw_i4 {w : Cond} (i : Nat) (h : (tables_1_4)[i]? = some w) (hg : nw_q w = true) : w ∈ nw_s := List.mem_filter.mpr ⟨List.mem_append_right _ (tb_4 (List.mem_of_getElem? h)), hg⟩
theorem tb_5 {w : Cond} (h : w ∈ tables_1_5) : w ∈ tables_1 := List.mem_append_right _ (List.mem_append_right _ (List.mem_append_right _ (List.mem_append_right _ (h))))
theorem gw_i5 {w : Cond} (i : Nat) (h : (tables_1_5)[i]? = some w) (hg : goodWord w = true) : w ∈ gw_s := List.mem_filter.mpr ⟨List.mem_append_right _ (tb_5 (List.mem_of_getElem? h)), hg⟩
theorem nw_i5 {w : Cond} (i : Nat) (h : (tables_1_5)[i]? = some w) (hg : nw_q w = true) : w ∈ nw_s := List.mem_filter.mpr ⟨List.mem_append_right _ (tb_5 (List.mem_of_getElem? h)), hg⟩
end
section
theorem ic_m1 : Int32.ofInt (-1) = (-1 : Int32) := by decide
theorem ic_0 : Int32.ofInt (0) = (0 : Int32) := by decide
theorem ic_1 : Int32.ofInt (1) = (1 : Int32) := by decide
theorem ic_2 : Int32.ofInt (2) = (2 : Int32) := by decide
theorem ic_3 : Int32.ofInt (3) = (3 : Int32) := by decide
theorem ic_4 : Int32.ofInt (4) = (4 : Int32) := by decide
theorem ic_5 : Int32.ofInt (5) = (5 : Int32) := by decide
theorem bp_m6 : (Int8.ofInt (-6)).toInt32 = (-6 : Int32) := by decide
theorem bp_m5 : (Int8.ofInt (-5)).toInt32 = (-5 : Int32) := by decide
theorem bp_m4 : (Int8.ofInt (-4)).toInt32 = (-4 : Int32) := by decide
theorem bp_m3 : (Int8.ofInt (-3)).toInt32 = (-3 : Int32) := by decide
theorem bp_m2 : (Int8.ofInt (-2)).toInt32 = (-2 : Int32) := by decide
theorem bp_6 : (Int8.ofInt (6)).toInt32 = (6 : Int32) := by decide
theorem bp_7 : (Int8.ofInt (7)).toInt32 = (7 : Int32) := by decide
theorem bp_8 : (Int8.ofInt (8)).toInt32 = (8 : Int32) := by decide
theorem bp_9 : (Int8.ofInt (9)).toInt32 = (9 : Int32) := by decide
theorem bp_10 : (Int8.ofInt (10)).toInt32 = (10 : Int32) := by decide
theorem bp_12 : (Int8.ofInt (12)).toInt32 = (12 : Int32) := by decide
theorem bp_16 : (Int8.ofInt (16)).toInt32 = (16 : Int32) := by decide
theorem bp_20 : (Int8.ofInt (20)).toInt32 = (20 : Int32) := by decide
theorem bp_25 : (Int8.ofInt (25)).toInt32 = (25 : Int32) := by decide
theorem bp_31 : (Int8.ofInt (31)).toInt32 = (31 : Int32) := by decide
theorem bp_33 : (Int8.ofInt (33)).toInt32 = (33 : Int32) := by decide
theorem bp_37 : (Int8.ofInt (37)).toInt32 = (37 : Int32) := by decide
theorem bp_40 : (Int8.ofInt (40)).toInt32 = (40 : Int32) := by decide
theorem bp_43 : (Int8.ofInt (43)).toInt32 = (43 : Int32) := by decide
theorem bp_46 : (Int8.ofInt (46)).toInt32 = (46 : Int32) := by decide
theorem bp_47 : (Int8.ofInt (47)).toInt32 = (47 : Int32) := by decide
theorem bp_48 : (Int8.ofInt (48)).toInt32 = (48 : Int32) := by decide
theorem bp_49 : (Int8.ofInt (49)).toInt32 = (49 : Int32) := by decide
theorem bp_50 : (Int8.ofInt (50)).toInt32 = (50 : Int32) := by decide
theorem bp_52 : (Int8.ofInt (52)).toInt32 = (52 : Int32) := by decide
theorem bp_55 : (Int8.ofInt (55)).toInt32 = (55 : Int32) := by decide
theorem bp_57 : (Int8.ofInt (57)).toInt32 = (57 : Int32) := by decide
theorem bp_58 : (Int8.ofInt (58)).toInt32 = (58 : Int32) := by decide
theorem bp_59 : (Int8.ofInt (59)).toInt32 = (59 : Int32) := by decide
theorem bp_60 : (Int8.ofInt (60)).toInt32 = (60 : Int32) := by decide
theorem bp_61 : (Int8.ofInt (61)).toInt32 = (61 : Int32) := by decide
theorem bp_63 : (Int8.ofInt (63)).toInt32 = (63 : Int32) := by decide
theorem bp_64 : (Int8.ofInt (64)).toInt32 = (64 : Int32) := by decide
theorem bp_65 : (Int8.ofInt (65)).toInt32 = (65 : Int32) := by decide
theorem bp_70 : (Int8.ofInt (70)).toInt32 = (70 : Int32) := by decide
theorem bp_71 : (Int8.ofInt (71)).toInt32 = (71 : Int32) := by decide
theorem bp_74 : (Int8.ofInt (74)).toInt32 = (74 : Int32) := by decide
theorem bp_75 : (Int8.ofInt (75)).toInt32 = (75 : Int32) := by decide
theorem bp_90 : (Int8.ofInt (90)).toInt32 = (90 : Int32) := by decide
theorem bp_99 : (Int8.ofInt (99)).toInt32 = (99 : Int32) := by decide
theorem bp_100 : (Int8.ofInt (100)).toInt32 = (100 : Int32) := by decide
theorem bp_109 : (Int8.ofInt (109)).toInt32 = (109 : Int32) := by decide
theorem bp_121 : (Int8.ofInt (121)).toInt32 = (121 : Int32) := by decide
theorem bp_122 : (Int8.ofInt (122)).toInt32 = (122 : Int32) := by decide
theorem bp_123 : (Int8.ofInt (123)).toInt32 = (123 : Int32) := by decide
theorem bp_124 : (Int8.ofInt (124)).toInt32 = (124 : Int32) := by decide
theorem bp_125 : (Int8.ofInt (125)).toInt32 = (125 : Int32) := by decide
theorem bp_126 : (Int8.ofInt (126)).toInt32 = (126 : Int32) := by decide
theorem sp_150 : (Int16.ofInt (150)).toInt32 = (150 : Int32) := by decide
theorem sp_200 : (Int16.ofInt (200)).toInt32 = (200 : Int32) := by decide
theorem sp_300 : (Int16.ofInt (300)).toInt32 = (300 : Int32) := by decide
theorem sp_360 : (Int16.ofInt (360)).toInt32 = (360 : Int32) := by decide
theorem sp_400 : (Int16.ofInt (400)).toInt32 = (400 : Int32) := by decide
theorem sp_1000 : (Int16.ofInt (1000)).toInt32 = (1000 : Int32) := by decide
theorem sp_9999 : (Int16.ofInt (9999)).toInt32 = (9999 : Int32) := by decide
theorem sp_10000 : (Int16.ofInt (10000)).toInt32 = (10000 : Int32) := by decide
theorem ne_2 : ¬ (2 : Int32) = 0 := by decide
theorem ne_6 : ¬ (6 : Int32) = 0 := by decide
theorem ne_10 : ¬ (10 : Int32) = 0 := by decide
theorem ne_40 : ¬ (40 : Int32) = 0 := by decide
theorem ne_64 : ¬ (64 : Int32) = 0 := by decide
theorem ne_100 : ¬ (100 : Int32) = 0 := by decide
theorem ne_65537 : ¬ (65537 : Int32) = 0 := by decide
theorem nl_10 : ¬ (10 : Int64) = 0 := by decide
theorem kc_J6_265 : Cond.constant RJ6 265 (1431655765 : Int32) ∈ gw_s := gw_i2 147 rfl rfl
theorem kc_J6_266 : Cond.constant RJ6 266 (858993459 : Int32) ∈ gw_s := gw_i2 148 rfl rfl
theorem kc_J6_267 : Cond.constant RJ6 267 (252645135 : Int32) ∈ gw_s := gw_i2 149 rfl rfl
theorem kc_X10_82 : Cond.constant RX10 82 (65537 : Int32) ∈ gw_s := gw_i4 87 rfl rfl
theorem kc_X11_171 : Cond.constant RX11 171 (1000000000 : Int32) ∈ gw_s := gw_i3 156 rfl rfl
theorem kc_X11_200 : Cond.constant RX11 200 (99999 : Int32) ∈ gw_s := gw_i4 2 rfl rfl
theorem kc_X12_184 : Cond.constant RX12 184 (10000000 : Int32) ∈ gw_s := gw_i5 133 rfl rfl
theorem kc_X12_197 : Cond.constant RX12 197 (-10000000 : Int32) ∈ gw_s := gw_i5 154 rfl rfl
theorem kc_X12_207 : Cond.constant RX12 207 (99999 : Int32) ∈ gw_s := gw_i5 179 rfl rfl
theorem kc_X12_224 : Cond.constant RX12 224 (65537 : Int32) ∈ gw_s := gw_i5 217 rfl rfl
theorem kc_X3_107 : Cond.constant RX3 107 (1000000000 : Int32) ∈ gw_s := gw_i3 155 rfl rfl
theorem kc_X5_42 : Cond.constant RX5 42 (1000000000 : Int32) ∈ gw_s := gw_i3 145 rfl rfl
theorem kl_X11_215 : Cond.constantLong RX11 215 (-1000000000000000002 : Int64) ∈ gw_s := gw_i4 15 rfl rfl
theorem kl_X11_303 : Cond.constantLong RX11 303 (10 : Int64) ∈ gw_s := gw_i4 28 rfl rfl
theorem kl_X12_208 : Cond.constantLong RX12 208 (10 : Int64) ∈ gw_s := gw_i5 192 rfl rfl
theorem kl_X12_218 : Cond.constantLong RX12 218 (-1000000000000000002 : Int64) ∈ gw_s := gw_i5 184 rfl rfl
theorem fg_X0_12 : fr_k RX0 12 0 0 := ⟨Or.inl (gw_i1 195 rfl rfl), by decide, by decide, rfl⟩
theorem fg_X0_20 : fr_k RX0 20 0 1 := ⟨Or.inl (gw_i1 198 rfl rfl), by decide, by decide, rfl⟩
theorem fg_X0_27 : fr_k RX0 27 0 2 := ⟨Or.inl (gw_i1 199 rfl rfl), by decide, by decide, rfl⟩
theorem fg_X0_34 : fr_k RX0 34 0 3 := ⟨Or.inl (gw_i1 202 rfl rfl), by decide, by decide, rfl⟩
theorem fg_X0_39 : fr_k RX0 39 0 4 := ⟨Or.inl (gw_i1 205 rfl rfl), by decide, by decide, rfl⟩
theorem fg_X0_56 : fi_k RX0 56 0 5 := ⟨Or.inl (gw_i1 206 rfl rfl), by decide, by decide, rfl⟩
theorem fg_X0_63 : fr_k RX0 63 5 2 := ⟨Or.inr ⟨"BlowOwed", nw_i1 61 rfl rfl⟩, by decide, by decide, rfl⟩
theorem fg_X0_76 : fi_k RX0 76 2 0 := ⟨Or.inr ⟨"BlowOwed", nw_i1 119 rfl rfl⟩, by decide, by decide, rfl⟩
theorem fg_X0_80 : fi_k RX0 80 4 0 := ⟨Or.inr ⟨"BlowOwed", nw_i1 159 rfl rfl⟩, by decide, by decide, rfl⟩
theorem fg_X0_98 : fi_k RX0 98 4 4 := ⟨Or.inr ⟨"BlowOwed", nw_i1 173 rfl rfl⟩, by decide, by decide, rfl⟩
theorem fg_X0_108 : fi_k RX0 108 4 6 := ⟨Or.inr ⟨"BlowOwed", nw_i1 179 rfl rfl⟩, by decide, by decide, rfl⟩
theorem fg_X0_111 : fi_k RX0 111 4 5 := ⟨Or.inr ⟨"BlowOwed", nw_i1 176 rfl rfl⟩, by decide, by decide, rfl⟩
theorem fg_X0_114 : fi_k RX0 114 4 2 := ⟨Or.inr ⟨"BlowOwed", nw_i1 167 rfl rfl⟩, by decide, by decide, rfl⟩
theorem fg_X0_124 : fi_k RX0 124 5 1 := ⟨Or.inr ⟨"BlowOwed", nw_i1 59 rfl rfl⟩, by decide, by decide, rfl⟩
theorem fg_X0_142 : fi_k RX0 142 4 1 := ⟨Or.inr ⟨"BlowOwed", nw_i1 163 rfl rfl⟩, by decide, by decide, rfl⟩
theorem fg_X0_156 : fr_k RX0 156 2 1 := ⟨Or.inr ⟨"BlowOwed", nw_i1 124 rfl rfl⟩, by decide, by decide, rfl⟩
theorem fg_X0_165 : fi_k RX0 165 1 0 := ⟨Or.inr ⟨"BlowOwed", nw_i1 88 rfl rfl⟩, by decide, by decide, rfl⟩
theorem fg_X0_168 : fi_k RX0 168 1 2 := ⟨Or.inr ⟨"BlowOwed", nw_i1 97 rfl rfl⟩, by decide, by decide, rfl⟩
theorem fg_X0_176 : fi_k RX0 176 1 3 := ⟨Or.inr ⟨"BlowOwed", nw_i1 101 rfl rfl⟩, by decide, by decide, rfl⟩
theorem fg_X0_177 : fi_k RX0 177 1 1 := ⟨Or.inr ⟨"BlowOwed", nw_i1 93 rfl rfl⟩, by decide, by decide, rfl⟩
theorem fg_X0_180 : fi_k RX0 180 4 3 := ⟨Or.inr ⟨"BlowOwed", nw_i1 170 rfl rfl⟩, by decide, by decide, rfl⟩
theorem fg_X1_7 : fi_k RX1 7 1 0 := ⟨Or.inl (gw_i1 84 rfl rfl), by decide, by decide, rfl⟩
theorem fg_X1_13 : fi_k RX1 13 1 1 := ⟨Or.inl (gw_i1 89 rfl rfl), by decide, by decide, rfl⟩
theorem fg_X1_16 : fi_k RX1 16 1 2 := ⟨Or.inl (gw_i1 94 rfl rfl), by decide, by decide, rfl⟩
theorem fg_X1_19 : fi_k RX1 19 1 3 := ⟨Or.inl (gw_i1 98 rfl rfl), by decide, by decide, rfl⟩
theorem fg_X10_12 : fr_k RX10 12 10 0 := ⟨Or.inl (gw_i1 231 rfl rfl), by decide, by decide, rfl⟩
theorem fg_X10_22 : fi_k RX10 22 10 1 := ⟨Or.inl (gw_i1 233 rfl rfl), by decide, by decide, rfl⟩
theorem fg_X10_26 : fi_k RX10 26 10 2 := ⟨Or.inl (gw_i1 235 rfl rfl), by decide, by decide, rfl⟩
theorem fg_X10_29 : fi_k RX10 29 7 0 := ⟨Or.inr ⟨"BlowOwed", nw_i1 33 rfl rfl⟩, by decide, by decide, rfl⟩
theorem fg_X10_76 : fi_k RX10 76 10 3 := ⟨Or.inl (gw_i1 237 rfl rfl), by decide, by decide, rfl⟩
theorem fg_X10_79 : fi_k RX10 79 10 4 := ⟨Or.inl (gw_i1 239 rfl rfl), by decide, by decide, rfl⟩
theorem fg_X11_10 : fr_k RX11 10 11 0 := ⟨Or.inl (gw_i2 63 rfl rfl), by decide, by decide, rfl⟩
theorem fg_X11_19 : fr_k RX11 19 11 1 := ⟨Or.inl (gw_i2 64 rfl rfl), by decide, by decide, rfl⟩
theorem fg_X11_23 : fr_k RX11 23 11 2 := ⟨Or.inl (gw_i2 65 rfl rfl), by decide, by decide, rfl⟩
theorem fg_X11_30 : fr_k RX11 30 11 3 := ⟨Or.inl (gw_i2 66 rfl rfl), by decide, by decide, rfl⟩
theorem fg_X11_37 : fr_k RX11 37 11 4 := ⟨Or.inl (gw_i2 67 rfl rfl), by decide, by decide, rfl⟩
theorem fg_X11_44 : fr_k RX11 44 11 5 := ⟨Or.inl (gw_i2 68 rfl rfl), by decide, by decide, rfl⟩
theorem fg_X11_51 : fr_k RX11 51 11 6 := ⟨Or.inl (gw_i2 69 rfl rfl), by decide, by decide, rfl⟩
theorem fg_X11_59 : fr_k RX11 59 0 0 := ⟨Or.inr ⟨"BlowOwed", nw_i1 196 rfl rfl⟩, by decide, by decide, rfl⟩
theorem fg_X11_63 : fi_k RX11 63 5 0 := ⟨Or.inr ⟨"BlowOwed", nw_i1 55 rfl rfl⟩, by decide, by decide, rfl⟩
theorem fg_X11_85 : fr_k RX11 85 0 2 := ⟨Or.inr ⟨"BlowOwed", nw_i1 201 rfl rfl⟩, by decide, by decide, rfl⟩
theorem fg_X11_89 : fi_k RX11 89 2 0 := ⟨Or.inr ⟨"BlowOwed", nw_i1 120 rfl rfl⟩, by decide, by decide, rfl⟩
theorem fg_X11_94 : fi_k RX11 94 5 1 := ⟨Or.inr ⟨"BlowOwed", nw_i1 58 rfl rfl⟩, by decide, by decide, rfl⟩
theorem fg_X11_101 : fi_k RX11 101 4 0 := ⟨Or.inr ⟨"BlowOwed", nw_i1 160 rfl rfl⟩, by decide, by decide, rfl⟩
theorem fg_X11_126 : fi_k RX11 126 7 0 := ⟨Or.inr ⟨"BlowOwed", nw_i1 34 rfl rfl⟩, by decide, by decide, rfl⟩
theorem fg_X11_141 : fi_k RX11 141 10 1 := ⟨Or.inr ⟨"BlowOwed", nw_i1 234 rfl rfl⟩, by decide, by decide, rfl⟩
theorem fg_X11_144 : fi_k RX11 144 10 2 := ⟨Or.inr ⟨"BlowOwed", nw_i1 236 rfl rfl⟩, by decide, by decide, rfl⟩
theorem fg_X11_147 : fr_k RX11 147 10 0 := ⟨Or.inr ⟨"BlowOwed", nw_i1 232 rfl rfl⟩, by decide, by decide, rfl⟩
theorem fg_X11_160 : fr_k RX11 160 2 1 := ⟨Or.inr ⟨"BlowOwed", nw_i1 125 rfl rfl⟩, by decide, by decide, rfl⟩
theorem fg_X11_237 : fr_k RX11 237 0 3 := ⟨Or.inr ⟨"BlowOwed", nw_i1 204 rfl rfl⟩, by decide, by decide, rfl⟩
theorem fg_X11_241 : fi_k RX11 241 9 0 := ⟨Or.inr ⟨"BlowOwed", nw_i1 140 rfl rfl⟩, by decide, by decide, rfl⟩
theorem fg_X11_249 : fi_k RX11 249 8 1 := ⟨Or.inr ⟨"BlowOwed", nw_i2 49 rfl rfl⟩, by decide, by decide, rfl⟩
theorem fg_X11_251 : fi_k RX11 251 8 2 := ⟨Or.inr ⟨"BlowOwed", nw_i2 51 rfl rfl⟩, by decide, by decide, rfl⟩
theorem fg_X11_254 : fi_k RX11 254 8 3 := ⟨Or.inr ⟨"BlowOwed", nw_i2 53 rfl rfl⟩, by decide, by decide, rfl⟩
theorem fg_X11_264 : fi_k RX11 264 10 3 := ⟨Or.inr ⟨"BlowOwed", nw_i1 238 rfl rfl⟩, by decide, by decide, rfl⟩
theorem fg_X11_267 : fi_k RX11 267 10 4 := ⟨Or.inr ⟨"BlowOwed", nw_i2 0 rfl rfl⟩, by decide, by decide, rfl⟩
theorem fg_X11_279 : fi_k RX11 279 0 5 := ⟨Or.inr ⟨"BlowOwed", nw_i1 208 rfl rfl⟩, by decide, by decide, rfl⟩
theorem fg_X11_288 : fi_k RX11 288 4 2 := ⟨Or.inr ⟨"BlowOwed", nw_i1 168 rfl rfl⟩, by decide, by decide, rfl⟩
theorem fg_X11_291 : fi_k RX11 291 4 1 := ⟨Or.inr ⟨"BlowOwed", nw_i1 164 rfl rfl⟩, by decide, by decide, rfl⟩
theorem fg_X11_294 : fi_k RX11 294 4 3 := ⟨Or.inr ⟨"BlowOwed", nw_i1 171 rfl rfl⟩, by decide, by decide, rfl⟩
theorem fg_X12_7 : fi_k RX12 7 12 0 := ⟨Or.inl (gw_i4 123 rfl rfl), by decide, by decide, rfl⟩
theorem fg_X12_13 : fr_k RX12 13 12 1 := ⟨Or.inl (gw_i4 124 rfl rfl), by decide, by decide, rfl⟩
theorem fg_X12_17 : fi_k RX12 17 12 2 := ⟨Or.inl (gw_i4 125 rfl rfl), by decide, by decide, rfl⟩
theorem fg_X12_20 : fr_k RX12 20 12 4 := ⟨Or.inl (gw_i4 127 rfl rfl), by decide, by decide, rfl⟩
theorem fg_X12_23 : fr_k RX12 23 12 5 := ⟨Or.inl (gw_i4 128 rfl rfl), by decide, by decide, rfl⟩
theorem fg_X12_26 : fr_k RX12 26 12 7 := ⟨Or.inl (gw_i4 130 rfl rfl), by decide, by decide, rfl⟩
theorem fg_X12_29 : fr_k RX12 29 12 9 := ⟨Or.inl (gw_i4 132 rfl rfl), by decide, by decide, rfl⟩
theorem fg_X12_32 : fr_k RX12 32 12 10 := ⟨Or.inl (gw_i4 133 rfl rfl), by decide, by decide, rfl⟩
theorem fg_X12_35 : fr_k RX12 35 12 11 := ⟨Or.inl (gw_i4 134 rfl rfl), by decide, by decide, rfl⟩
theorem fg_X12_38 : fr_k RX12 38 12 12 := ⟨Or.inl (gw_i4 135 rfl rfl), by decide, by decide, rfl⟩
theorem fg_X12_41 : fr_k RX12 41 12 14 := ⟨Or.inl (gw_i4 137 rfl rfl), by decide, by decide, rfl⟩
theorem fg_X12_44 : fr_k RX12 44 12 16 := ⟨Or.inl (gw_i4 139 rfl rfl), by decide, by decide, rfl⟩
theorem fg_X12_47 : fr_k RX12 47 12 18 := ⟨Or.inl (gw_i4 141 rfl rfl), by decide, by decide, rfl⟩
theorem fg_X12_50 : fr_k RX12 50 12 19 := ⟨Or.inl (gw_i4 142 rfl rfl), by decide, by decide, rfl⟩
theorem fg_X12_53 : fr_k RX12 53 12 20 := ⟨Or.inl (gw_i4 143 rfl rfl), by decide, by decide, rfl⟩
theorem fg_X12_56 : fr_k RX12 56 12 21 := ⟨Or.inl (gw_i4 144 rfl rfl), by decide, by decide, rfl⟩
theorem fg_X12_59 : fr_k RX12 59 12 23 := ⟨Or.inl (gw_i4 146 rfl rfl), by decide, by decide, rfl⟩
theorem fg_X12_62 : fr_k RX12 62 12 26 := ⟨Or.inl (gw_i4 149 rfl rfl), by decide, by decide, rfl⟩
theorem fg_X12_65 : fr_k RX12 65 12 27 := ⟨Or.inl (gw_i4 150 rfl rfl), by decide, by decide, rfl⟩
theorem fg_X12_68 : fr_k RX12 68 12 28 := ⟨Or.inl (gw_i4 151 rfl rfl), by decide, by decide, rfl⟩
theorem fg_X12_71 : fr_k RX12 71 12 30 := ⟨Or.inl (gw_i4 153 rfl rfl), by decide, by decide, rfl⟩
theorem fg_X12_74 : fr_k RX12 74 12 31 := ⟨Or.inl (gw_i4 154 rfl rfl), by decide, by decide, rfl⟩
theorem fg_X12_78 : fi_k RX12 78 12 3 := ⟨Or.inl (gw_i4 126 rfl rfl), by decide, by decide, rfl⟩
theorem fg_X12_89 : fi_k RX12 89 12 6 := ⟨Or.inl (gw_i4 129 rfl rfl), by decide, by decide, rfl⟩
theorem fg_X12_92 : fi_k RX12 92 12 8 := ⟨Or.inl (gw_i4 131 rfl rfl), by decide, by decide, rfl⟩
theorem fg_X12_95 : fi_k RX12 95 12 13 := ⟨Or.inl (gw_i4 136 rfl rfl), by decide, by decide, rfl⟩
theorem fg_X12_109 : fi_k RX12 109 12 15 := ⟨Or.inl (gw_i4 138 rfl rfl), by decide, by decide, rfl⟩
theorem fg_X12_119 : fi_k RX12 119 12 17 := ⟨Or.inl (gw_i4 140 rfl rfl), by decide, by decide, rfl⟩
theorem fg_X12_122 : fi_k RX12 122 12 22 := ⟨Or.inl (gw_i4 145 rfl rfl), by decide, by decide, rfl⟩
theorem fg_X12_148 : fi_k RX12 148 12 25 := ⟨Or.inl (gw_i4 148 rfl rfl), by decide, by decide, rfl⟩
theorem fg_X12_151 : fi_k RX12 151 12 24 := ⟨Or.inl (gw_i4 147 rfl rfl), by decide, by decide, rfl⟩
theorem fg_X12_214 : fi_k RX12 214 12 29 := ⟨Or.inl (gw_i4 152 rfl rfl), by decide, by decide, rfl⟩
theorem fg_X2_11 : fr_k RX2 11 2 1 := ⟨Or.inl (gw_i1 121 rfl rfl), by decide, by decide, rfl⟩
theorem fg_X2_18 : fi_k RX2 18 2 0 := ⟨Or.inl (gw_i1 116 rfl rfl), by decide, by decide, rfl⟩
theorem fg_X2_22 : fi_k RX2 22 1 0 := ⟨Or.inr ⟨"BlowOwed", nw_i1 85 rfl rfl⟩, by decide, by decide, rfl⟩
theorem fg_X2_25 : fi_k RX2 25 1 1 := ⟨Or.inr ⟨"BlowOwed", nw_i1 90 rfl rfl⟩, by decide, by decide, rfl⟩
theorem fg_X2_28 : fi_k RX2 28 1 2 := ⟨Or.inr ⟨"BlowOwed", nw_i1 95 rfl rfl⟩, by decide, by decide, rfl⟩
theorem fg_X2_31 : fi_k RX2 31 1 3 := ⟨Or.inr ⟨"BlowOwed", nw_i1 99 rfl rfl⟩, by decide, by decide, rfl⟩
theorem fg_X2_38 : fi_k RX2 38 1 4 := ⟨Or.inr ⟨"BlowOwed", nw_i1 103 rfl rfl⟩, by decide, by decide, rfl⟩
theorem fg_X3_9 : fr_k RX3 9 3 0 := ⟨Or.inl (gw_i2 18 rfl rfl), by decide, by decide, rfl⟩
theorem fg_X3_15 : fr_k RX3 15 3 1 := ⟨Or.inl (gw_i2 19 rfl rfl), by decide, by decide, rfl⟩
theorem fg_X3_18 : fr_k RX3 18 3 2 := ⟨Or.inl (gw_i2 20 rfl rfl), by decide, by decide, rfl⟩
theorem fg_X3_29 : fr_k RX3 29 0 2 := ⟨Or.inr ⟨"BlowOwed", nw_i1 200 rfl rfl⟩, by decide, by decide, rfl⟩
theorem fg_X3_35 : fi_k RX3 35 2 0 := ⟨Or.inr ⟨"BlowOwed", nw_i1 118 rfl rfl⟩, by decide, by decide, rfl⟩
theorem fg_X3_66 : fr_k RX3 66 0 0 := ⟨Or.inr ⟨"BlowOwed", nw_i1 197 rfl rfl⟩, by decide, by decide, rfl⟩
theorem fg_X3_70 : fi_k RX3 70 4 5 := ⟨Or.inr ⟨"BlowOwed", nw_i1 175 rfl rfl⟩, by decide, by decide, rfl⟩
theorem fg_X3_75 : fi_k RX3 75 0 5 := ⟨Or.inr ⟨"BlowOwed", nw_i1 207 rfl rfl⟩, by decide, by decide, rfl⟩
theorem fg_X3_78 : fi_k RX3 78 4 6 := ⟨Or.inr ⟨"BlowOwed", nw_i1 178 rfl rfl⟩, by decide, by decide, rfl⟩
theorem fg_X3_91 : fr_k RX3 91 2 1 := ⟨Or.inr ⟨"BlowOwed", nw_i1 123 rfl rfl⟩, by decide, by decide, rfl⟩
theorem fg_X3_95 : fi_k RX3 95 1 1 := ⟨Or.inr ⟨"BlowOwed", nw_i1 92 rfl rfl⟩, by decide, by decide, rfl⟩
theorem fg_X3_100 : fi_k RX3 100 4 1 := ⟨Or.inr ⟨"BlowOwed", nw_i1 162 rfl rfl⟩, by decide, by decide, rfl⟩
theorem fg_X3_103 : fi_k RX3 103 1 3 := ⟨Or.inr ⟨"BlowOwed", nw_i1 100 rfl rfl⟩, by decide, by decide, rfl⟩
theorem fg_X3_104 : fi_k RX3 104 1 0 := ⟨Or.inr ⟨"BlowOwed", nw_i1 87 rfl rfl⟩, by decide, by decide, rfl⟩
theorem fg_X4_9 : fi_k RX4 9 4 0 := ⟨Or.inl (gw_i1 157 rfl rfl), by decide, by decide, rfl⟩
theorem fg_X4_15 : fi_k RX4 15 4 1 := ⟨Or.inl (gw_i1 161 rfl rfl), by decide, by decide, rfl⟩
theorem fg_X4_19 : fi_k RX4 19 4 2 := ⟨Or.inl (gw_i1 165 rfl rfl), by decide, by decide, rfl⟩
theorem fg_X4_22 : fi_k RX4 22 4 3 := ⟨Or.inl (gw_i1 169 rfl rfl), by decide, by decide, rfl⟩
theorem fg_X4_25 : fi_k RX4 25 4 4 := ⟨Or.inl (gw_i1 172 rfl rfl), by decide, by decide, rfl⟩
theorem fg_X4_28 : fi_k RX4 28 4 5 := ⟨Or.inl (gw_i1 174 rfl rfl), by decide, by decide, rfl⟩
theorem fg_X4_31 : fi_k RX4 31 4 6 := ⟨Or.inl (gw_i1 177 rfl rfl), by decide, by decide, rfl⟩
theorem fg_X5_9 : fi_k RX5 9 5 0 := ⟨Or.inl (gw_i1 54 rfl rfl), by decide, by decide, rfl⟩
theorem fg_X5_15 : fi_k RX5 15 5 1 := ⟨Or.inl (gw_i1 57 rfl rfl), by decide, by decide, rfl⟩
theorem fg_X5_18 : fr_k RX5 18 5 2 := ⟨Or.inl (gw_i1 60 rfl rfl), by decide, by decide, rfl⟩
theorem fg_X6_9 : fr_k RX6 9 6 0 := ⟨Or.inl (gw_i2 34 rfl rfl), by decide, by decide, rfl⟩
theorem fg_X6_15 : fr_k RX6 15 6 1 := ⟨Or.inl (gw_i2 35 rfl rfl), by decide, by decide, rfl⟩
theorem fg_X6_28 : fi_k RX6 28 2 0 := ⟨Or.inr ⟨"BlowOwed", nw_i1 117 rfl rfl⟩, by decide, by decide, rfl⟩
theorem fg_X6_34 : fr_k RX6 34 2 1 := ⟨Or.inr ⟨"BlowOwed", nw_i1 122 rfl rfl⟩, by decide, by decide, rfl⟩
theorem fg_X6_38 : fi_k RX6 38 1 0 := ⟨Or.inr ⟨"BlowOwed", nw_i1 86 rfl rfl⟩, by decide, by decide, rfl⟩
theorem fg_X6_43 : fi_k RX6 43 1 2 := ⟨Or.inr ⟨"BlowOwed", nw_i1 96 rfl rfl⟩, by decide, by decide, rfl⟩
theorem fg_X6_46 : fi_k RX6 46 1 1 := ⟨Or.inr ⟨"BlowOwed", nw_i1 91 rfl rfl⟩, by decide, by decide, rfl⟩
theorem fg_X7_9 : fr_k RX7 9 7 1 := ⟨Or.inl (gw_i1 35 rfl rfl), by decide, by decide, rfl⟩
theorem fg_X7_15 : fi_k RX7 15 7 0 := ⟨Or.inl (gw_i1 32 rfl rfl), by decide, by decide, rfl⟩
theorem fg_X8_9 : fr_k RX8 9 8 0 := ⟨Or.inl (gw_i2 47 rfl rfl), by decide, by decide, rfl⟩
theorem fg_X8_25 : fi_k RX8 25 8 1 := ⟨Or.inl (gw_i2 48 rfl rfl), by decide, by decide, rfl⟩
theorem fg_X8_29 : fi_k RX8 29 8 2 := ⟨Or.inl (gw_i2 50 rfl rfl), by decide, by decide, rfl⟩
theorem fg_X8_32 : fi_k RX8 32 8 3 := ⟨Or.inl (gw_i2 52 rfl rfl), by decide, by decide, rfl⟩
theorem fg_X8_41 : fr_k RX8 41 0 3 := ⟨Or.inr ⟨"BlowOwed", nw_i1 203 rfl rfl⟩, by decide, by decide, rfl⟩
theorem fg_X8_47 : fi_k RX8 47 9 0 := ⟨Or.inr ⟨"BlowOwed", nw_i1 138 rfl rfl⟩, by decide, by decide, rfl⟩
theorem fg_X8_56 : fr_k RX8 56 9 1 := ⟨Or.inr ⟨"BlowOwed", nw_i1 142 rfl rfl⟩, by decide, by decide, rfl⟩
theorem fg_X8_59 : fi_k RX8 59 4 0 := ⟨Or.inr ⟨"BlowOwed", nw_i1 158 rfl rfl⟩, by decide, by decide, rfl⟩
theorem fg_X8_65 : fi_k RX8 65 4 2 := ⟨Or.inr ⟨"BlowOwed", nw_i1 166 rfl rfl⟩, by decide, by decide, rfl⟩
theorem fg_X8_68 : fr_k RX8 68 9 2 := ⟨Or.inr ⟨"BlowOwed", nw_i1 144 rfl rfl⟩, by decide, by decide, rfl⟩
theorem fg_X9_9 : fr_k RX9 9 9 1 := ⟨Or.inl (gw_i1 141 rfl rfl), by decide, by decide, rfl⟩
theorem fg_X9_15 : fr_k RX9 15 9 2 := ⟨Or.inl (gw_i1 143 rfl rfl), by decide, by decide, rfl⟩
theorem fg_X9_18 : fi_k RX9 18 9 0 := ⟨Or.inl (gw_i1 137 rfl rfl), by decide, by decide, rfl⟩
theorem fp_X0_12 : wr_k RX0 12 0 0 := ⟨gw_i1 195 rfl rfl, by decide, by decide, rfl, rfl, rfl⟩
theorem fp_X0_20 : wr_k RX0 20 0 1 := ⟨gw_i1 198 rfl rfl, by decide, by decide, rfl, rfl, rfl⟩
theorem fp_X0_27 : wr_k RX0 27 0 2 := ⟨gw_i1 199 rfl rfl, by decide, by decide, rfl, rfl, rfl⟩
theorem fp_X0_34 : wr_k RX0 34 0 3 := ⟨gw_i1 202 rfl rfl, by decide, by decide, rfl, rfl, rfl⟩
theorem fp_X0_39 : wr_k RX0 39 0 4 := ⟨gw_i1 205 rfl rfl, by decide, by decide, rfl, rfl, rfl⟩
theorem fp_X0_56 : wi_k RX0 56 0 5 := ⟨Or.inl (gw_i1 206 rfl rfl), by decide, by decide, rfl, rfl⟩
theorem fp_X0_60 : wi_k RX0 60 5 0 := ⟨Or.inr ⟨"BlowOwed", nw_i1 56 rfl rfl⟩, by decide, by decide, rfl, rfl⟩
theorem fp_X0_76 : wi_k RX0 76 2 0 := ⟨Or.inr ⟨"BlowOwed", nw_i1 119 rfl rfl⟩, by decide, by decide, rfl, rfl⟩
theorem fp_X0_79 : wi_k RX0 79 9 0 := ⟨Or.inr ⟨"BlowOwed", nw_i1 139 rfl rfl⟩, by decide, by decide, rfl, rfl⟩
theorem fp_X0_98 : wi_k RX0 98 4 4 := ⟨Or.inr ⟨"BlowOwed", nw_i1 173 rfl rfl⟩, by decide, by decide, rfl, rfl⟩
theorem fp_X0_108 : wi_k RX0 108 4 6 := ⟨Or.inr ⟨"BlowOwed", nw_i1 179 rfl rfl⟩, by decide, by decide, rfl, rfl⟩
theorem fp_X0_111 : wi_k RX0 111 4 5 := ⟨Or.inr ⟨"BlowOwed", nw_i1 176 rfl rfl⟩, by decide, by decide, rfl, rfl⟩
theorem fp_X0_160 : wz_k RX0 160 1 4 := ⟨Or.inr ⟨"BlowOwed", nw_i1 104 rfl rfl⟩, by decide, by decide, rfl, rfl⟩
theorem fp_X0_168 : wi_k RX0 168 1 2 := ⟨Or.inr ⟨"BlowOwed", nw_i1 97 rfl rfl⟩, by decide, by decide, rfl, rfl⟩
theorem fp_X0_180 : wi_k RX0 180 4 3 := ⟨Or.inr ⟨"BlowOwed", nw_i1 170 rfl rfl⟩, by decide, by decide, rfl, rfl⟩
theorem fp_X1_7 : wi_k RX1 7 1 0 := ⟨Or.inl (gw_i1 84 rfl rfl), by decide, by decide, rfl, rfl⟩
theorem fp_X1_13 : wi_k RX1 13 1 1 := ⟨Or.inl (gw_i1 89 rfl rfl), by decide, by decide, rfl, rfl⟩
theorem fp_X1_16 : wi_k RX1 16 1 2 := ⟨Or.inl (gw_i1 94 rfl rfl), by decide, by decide, rfl, rfl⟩
theorem fp_X1_19 : wi_k RX1 19 1 3 := ⟨Or.inl (gw_i1 98 rfl rfl), by decide, by decide, rfl, rfl⟩
theorem fp_X1_22 : wz_k RX1 22 1 4 := ⟨Or.inl (gw_i1 102 rfl rfl), by decide, by decide, rfl, rfl⟩
theorem fp_X10_12 : wr_k RX10 12 10 0 := ⟨gw_i1 231 rfl rfl, by decide, by decide, rfl, rfl, rfl⟩
theorem fp_X10_22 : wi_k RX10 22 10 1 := ⟨Or.inl (gw_i1 233 rfl rfl), by decide, by decide, rfl, rfl⟩
theorem fp_X10_26 : wi_k RX10 26 10 2 := ⟨Or.inl (gw_i1 235 rfl rfl), by decide, by decide, rfl, rfl⟩
theorem fp_X10_76 : wi_k RX10 76 10 3 := ⟨Or.inl (gw_i1 237 rfl rfl), by decide, by decide, rfl, rfl⟩
theorem fp_X10_79 : wi_k RX10 79 10 4 := ⟨Or.inl (gw_i1 239 rfl rfl), by decide, by decide, rfl, rfl⟩
theorem fp_X11_10 : wr_k RX11 10 11 0 := ⟨gw_i2 63 rfl rfl, by decide, by decide, rfl, rfl, rfl⟩
theorem fp_X11_19 : wr_k RX11 19 11 1 := ⟨gw_i2 64 rfl rfl, by decide, by decide, rfl, rfl, rfl⟩
theorem fp_X11_23 : wr_k RX11 23 11 2 := ⟨gw_i2 65 rfl rfl, by decide, by decide, rfl, rfl, rfl⟩
theorem fp_X11_30 : wr_k RX11 30 11 3 := ⟨gw_i2 66 rfl rfl, by decide, by decide, rfl, rfl, rfl⟩
theorem fp_X11_37 : wr_k RX11 37 11 4 := ⟨gw_i2 67 rfl rfl, by decide, by decide, rfl, rfl, rfl⟩
theorem fp_X11_44 : wr_k RX11 44 11 5 := ⟨gw_i2 68 rfl rfl, by decide, by decide, rfl, rfl, rfl⟩
theorem fp_X11_51 : wr_k RX11 51 11 6 := ⟨gw_i2 69 rfl rfl, by decide, by decide, rfl, rfl, rfl⟩
theorem fp_X11_94 : wi_k RX11 94 5 1 := ⟨Or.inr ⟨"BlowOwed", nw_i1 58 rfl rfl⟩, by decide, by decide, rfl, rfl⟩
theorem fp_X11_126 : wi_k RX11 126 7 0 := ⟨Or.inr ⟨"BlowOwed", nw_i1 34 rfl rfl⟩, by decide, by decide, rfl, rfl⟩
theorem fp_X11_241 : wi_k RX11 241 9 0 := ⟨Or.inr ⟨"BlowOwed", nw_i1 140 rfl rfl⟩, by decide, by decide, rfl, rfl⟩
theorem fp_X12_7 : wi_k RX12 7 12 0 := ⟨Or.inl (gw_i4 123 rfl rfl), by decide, by decide, rfl, rfl⟩
theorem fp_X12_13 : wr_k RX12 13 12 1 := ⟨gw_i4 124 rfl rfl, by decide, by decide, rfl, rfl, rfl⟩
theorem fp_X12_17 : wi_k RX12 17 12 2 := ⟨Or.inl (gw_i4 125 rfl rfl), by decide, by decide, rfl, rfl⟩
theorem fp_X12_20 : wr_k RX12 20 12 4 := ⟨gw_i4 127 rfl rfl, by decide, by decide, rfl, rfl, rfl⟩
theorem fp_X12_23 : wr_k RX12 23 12 5 := ⟨gw_i4 128 rfl rfl, by decide, by decide, rfl, rfl, rfl⟩
theorem fp_X12_26 : wr_k RX12 26 12 7 := ⟨gw_i4 130 rfl rfl, by decide, by decide, rfl, rfl, rfl⟩
theorem fp_X12_29 : wr_k RX12 29 12 9 := ⟨gw_i4 132 rfl rfl, by decide, by decide, rfl, rfl, rfl⟩
theorem fp_X12_32 : wr_k RX12 32 12 10 := ⟨gw_i4 133 rfl rfl, by decide, by decide, rfl, rfl, rfl⟩
theorem fp_X12_35 : wr_k RX12 35 12 11 := ⟨gw_i4 134 rfl rfl, by decide, by decide, rfl, rfl, rfl⟩
theorem fp_X12_38 : wr_k RX12 38 12 12 := ⟨gw_i4 135 rfl rfl, by decide, by decide, rfl, rfl, rfl⟩
theorem fp_X12_41 : wr_k RX12 41 12 14 := ⟨gw_i4 137 rfl rfl, by decide, by decide, rfl, rfl, rfl⟩
theorem fp_X12_44 : wr_k RX12 44 12 16 := ⟨gw_i4 139 rfl rfl, by decide, by decide, rfl, rfl, rfl⟩
theorem fp_X12_47 : wr_k RX12 47 12 18 := ⟨gw_i4 141 rfl rfl, by decide, by decide, rfl, rfl, rfl⟩
theorem fp_X12_50 : wr_k RX12 50 12 19 := ⟨gw_i4 142 rfl rfl, by decide, by decide, rfl, rfl, rfl⟩
theorem fp_X12_53 : wr_k RX12 53 12 20 := ⟨gw_i4 143 rfl rfl, by decide, by decide, rfl, rfl, rfl⟩
theorem fp_X12_56 : wr_k RX12 56 12 21 := ⟨gw_i4 144 rfl rfl, by decide, by decide, rfl, rfl, rfl⟩
theorem fp_X12_59 : wr_k RX12 59 12 23 := ⟨gw_i4 146 rfl rfl, by decide, by decide, rfl, rfl, rfl⟩
theorem fp_X12_62 : wr_k RX12 62 12 26 := ⟨gw_i4 149 rfl rfl, by decide, by decide, rfl, rfl, rfl⟩
theorem fp_X12_65 : wr_k RX12 65 12 27 := ⟨gw_i4 150 rfl rfl, by decide, by decide, rfl, rfl, rfl⟩
theorem fp_X12_68 : wr_k RX12 68 12 28 := ⟨gw_i4 151 rfl rfl, by decide, by decide, rfl, rfl, rfl⟩
theorem fp_X12_71 : wr_k RX12 71 12 30 := ⟨gw_i4 153 rfl rfl, by decide, by decide, rfl, rfl, rfl⟩
theorem fp_X12_74 : wr_k RX12 74 12 31 := ⟨gw_i4 154 rfl rfl, by decide, by decide, rfl, rfl, rfl⟩
theorem fp_X12_78 : wi_k RX12 78 12 3 := ⟨Or.inl (gw_i4 126 rfl rfl), by decide, by decide, rfl, rfl⟩
theorem fp_X12_89 : wi_k RX12 89 12 6 := ⟨Or.inl (gw_i4 129 rfl rfl), by decide, by decide, rfl, rfl⟩
theorem fp_X12_92 : wi_k RX12 92 12 8 := ⟨Or.inl (gw_i4 131 rfl rfl), by decide, by decide, rfl, rfl⟩
theorem fp_X12_95 : wi_k RX12 95 12 13 := ⟨Or.inl (gw_i4 136 rfl rfl), by decide, by decide, rfl, rfl⟩
theorem fp_X12_109 : wi_k RX12 109 12 15 := ⟨Or.inl (gw_i4 138 rfl rfl), by decide, by decide, rfl, rfl⟩
theorem fp_X12_119 : wi_k RX12 119 12 17 := ⟨Or.inl (gw_i4 140 rfl rfl), by decide, by decide, rfl, rfl⟩
theorem fp_X12_122 : wi_k RX12 122 12 22 := ⟨Or.inl (gw_i4 145 rfl rfl), by decide, by decide, rfl, rfl⟩
theorem fp_X12_148 : wi_k RX12 148 12 25 := ⟨Or.inl (gw_i4 148 rfl rfl), by decide, by decide, rfl, rfl⟩
theorem fp_X12_151 : wi_k RX12 151 12 24 := ⟨Or.inl (gw_i4 147 rfl rfl), by decide, by decide, rfl, rfl⟩
theorem fp_X12_214 : wz_k RX12 214 12 29 := ⟨Or.inl (gw_i4 152 rfl rfl), by decide, by decide, rfl, rfl⟩
theorem fp_X2_11 : wr_k RX2 11 2 1 := ⟨gw_i1 121 rfl rfl, by decide, by decide, rfl, rfl, rfl⟩
theorem fp_X2_18 : wi_k RX2 18 2 0 := ⟨Or.inl (gw_i1 116 rfl rfl), by decide, by decide, rfl, rfl⟩
theorem fp_X2_22 : wi_k RX2 22 1 0 := ⟨Or.inr ⟨"BlowOwed", nw_i1 85 rfl rfl⟩, by decide, by decide, rfl, rfl⟩
theorem fp_X2_25 : wi_k RX2 25 1 1 := ⟨Or.inr ⟨"BlowOwed", nw_i1 90 rfl rfl⟩, by decide, by decide, rfl, rfl⟩
theorem fp_X2_28 : wi_k RX2 28 1 2 := ⟨Or.inr ⟨"BlowOwed", nw_i1 95 rfl rfl⟩, by decide, by decide, rfl, rfl⟩
theorem fp_X2_38 : wz_k RX2 38 1 4 := ⟨Or.inr ⟨"BlowOwed", nw_i1 103 rfl rfl⟩, by decide, by decide, rfl, rfl⟩
theorem fp_X3_9 : wr_k RX3 9 3 0 := ⟨gw_i2 18 rfl rfl, by decide, by decide, rfl, rfl, rfl⟩
theorem fp_X3_15 : wr_k RX3 15 3 1 := ⟨gw_i2 19 rfl rfl, by decide, by decide, rfl, rfl, rfl⟩
theorem fp_X3_18 : wr_k RX3 18 3 2 := ⟨gw_i2 20 rfl rfl, by decide, by decide, rfl, rfl, rfl⟩
theorem fp_X4_9 : wz_k RX4 9 4 0 := ⟨Or.inl (gw_i1 157 rfl rfl), by decide, by decide, rfl, rfl⟩
theorem fp_X4_15 : wi_k RX4 15 4 1 := ⟨Or.inl (gw_i1 161 rfl rfl), by decide, by decide, rfl, rfl⟩
theorem fp_X4_19 : wi_k RX4 19 4 2 := ⟨Or.inl (gw_i1 165 rfl rfl), by decide, by decide, rfl, rfl⟩
theorem fp_X4_22 : wi_k RX4 22 4 3 := ⟨Or.inl (gw_i1 169 rfl rfl), by decide, by decide, rfl, rfl⟩
theorem fp_X4_25 : wi_k RX4 25 4 4 := ⟨Or.inl (gw_i1 172 rfl rfl), by decide, by decide, rfl, rfl⟩
theorem fp_X4_28 : wi_k RX4 28 4 5 := ⟨Or.inl (gw_i1 174 rfl rfl), by decide, by decide, rfl, rfl⟩
theorem fp_X4_31 : wi_k RX4 31 4 6 := ⟨Or.inl (gw_i1 177 rfl rfl), by decide, by decide, rfl, rfl⟩
theorem fp_X5_9 : wi_k RX5 9 5 0 := ⟨Or.inl (gw_i1 54 rfl rfl), by decide, by decide, rfl, rfl⟩
theorem fp_X5_15 : wi_k RX5 15 5 1 := ⟨Or.inl (gw_i1 57 rfl rfl), by decide, by decide, rfl, rfl⟩
theorem fp_X5_18 : wr_k RX5 18 5 2 := ⟨gw_i1 60 rfl rfl, by decide, by decide, rfl, rfl, rfl⟩
theorem fp_X6_9 : wr_k RX6 9 6 0 := ⟨gw_i2 34 rfl rfl, by decide, by decide, rfl, rfl, rfl⟩
theorem fp_X6_15 : wr_k RX6 15 6 1 := ⟨gw_i2 35 rfl rfl, by decide, by decide, rfl, rfl, rfl⟩
theorem fp_X7_9 : wr_k RX7 9 7 1 := ⟨gw_i1 35 rfl rfl, by decide, by decide, rfl, rfl, rfl⟩
theorem fp_X7_15 : wi_k RX7 15 7 0 := ⟨Or.inl (gw_i1 32 rfl rfl), by decide, by decide, rfl, rfl⟩
theorem fp_X8_9 : wr_k RX8 9 8 0 := ⟨gw_i2 47 rfl rfl, by decide, by decide, rfl, rfl, rfl⟩
theorem fp_X8_25 : wi_k RX8 25 8 1 := ⟨Or.inl (gw_i2 48 rfl rfl), by decide, by decide, rfl, rfl⟩
theorem fp_X8_29 : wi_k RX8 29 8 2 := ⟨Or.inl (gw_i2 50 rfl rfl), by decide, by decide, rfl, rfl⟩
theorem fp_X8_32 : wi_k RX8 32 8 3 := ⟨Or.inl (gw_i2 52 rfl rfl), by decide, by decide, rfl, rfl⟩
theorem fp_X9_9 : wr_k RX9 9 9 1 := ⟨gw_i1 141 rfl rfl, by decide, by decide, rfl, rfl, rfl⟩
theorem fp_X9_15 : wr_k RX9 15 9 2 := ⟨gw_i1 143 rfl rfl, by decide, by decide, rfl, rfl, rfl⟩
theorem fp_X9_18 : wi_k RX9 18 9 0 := ⟨Or.inl (gw_i1 137 rfl rfl), by decide, by decide, rfl, rfl⟩
theorem cn_X0_9 : no_k RX0 9 5 := ⟨by decide, gw_i1 48 rfl rfl, gw_i1 49 rfl rfl, gw_i1 4 rfl rfl⟩
theorem cn_X0_18 : no_k RX0 18 4 := ⟨by decide, gw_i1 69 rfl rfl, gw_i1 152 rfl rfl, gw_i1 8 rfl rfl⟩
theorem cn_X0_24 : no_k RX0 24 2 := ⟨by decide, gw_i1 71 rfl rfl, gw_i1 72 rfl rfl, gw_i1 5 rfl rfl⟩
theorem cn_X0_31 : no_k RX0 31 9 := ⟨by decide, gw_i1 131 rfl rfl, gw_i1 132 rfl rfl, gw_i1 7 rfl rfl⟩
theorem cn_X10_9 : no_k RX10 9 0 := ⟨by decide, gw_i1 229 rfl rfl, gw_i1 43 rfl rfl, gw_i1 3 rfl rfl⟩
theorem cn_X11_7 : no_k RX11 7 7 := ⟨by decide, gw_i1 26 rfl rfl, gw_i1 27 rfl rfl, gw_i1 2 rfl rfl⟩
theorem cn_X11_16 : no_k RX11 16 0 := ⟨by decide, gw_i1 42 rfl rfl, gw_i1 43 rfl rfl, gw_i1 3 rfl rfl⟩
theorem cn_X11_27 : no_k RX11 27 10 := ⟨by decide, gw_i1 223 rfl rfl, gw_i1 224 rfl rfl, gw_i1 9 rfl rfl⟩
theorem cn_X11_34 : no_k RX11 34 3 := ⟨by decide, gw_i2 12 rfl rfl, gw_i2 13 rfl rfl, gw_i1 10 rfl rfl⟩
theorem cn_X11_41 : no_k RX11 41 6 := ⟨by decide, gw_i2 28 rfl rfl, gw_i2 29 rfl rfl, gw_i1 11 rfl rfl⟩
theorem cn_X11_48 : no_k RX11 48 8 := ⟨by decide, gw_i2 41 rfl rfl, gw_i2 42 rfl rfl, gw_i1 12 rfl rfl⟩
theorem cn_X2_9 : no_k RX2 9 1 := ⟨by decide, gw_i1 77 rfl rfl, gw_i1 79 rfl rfl, gw_i1 6 rfl rfl⟩
theorem ao_0 : Cond.arrayOver (.object RX0) ∈ nw_s := nw_i1 222 rfl rfl
theorem ao_1 : Cond.arrayOver (.object RX1) ∈ nw_s := nw_i1 78 rfl rfl
theorem ao_4 : Cond.arrayOver (.object RX4) ∈ nw_s := nw_i1 70 rfl rfl
theorem aw_int : Cond.arrayClass .int ∈ gw_s := gw_i1 41 rfl rfl
theorem aw_boolean : Cond.arrayClass .boolean ∈ gw_s := gw_i4 220 rfl rfl
theorem aw_copy : Cond.native arraycopyName ∈ gw_s ∧ Cond.static arraycopyName ∈ gw_s ∧ Cond.initialized "java/lang/System" ∈ gw_s := ⟨gw_i2 233 rfl rfl, gw_i2 232 rfl rfl, gw_i1 16 rfl rfl⟩
theorem aw_obj : Cond.instanceMethod Lib.objectInit ∈ gw_s ∧ Cond.code Lib.objectInit ⟨#[0xb1]⟩ 1 none ∈ gw_s := ⟨gw_i1 24 rfl rfl, gw_i1 25 rfl rfl⟩
abbrev mX5_init : My := (RX5, cX5_init, 1, none, "<init>")
theorem cw_X5_init : Cond.code yX5_init mX5_init.2.1 mX5_init.2.2.1 mX5_init.2.2.2.1 ∈ gw_s ∧ Cond.initialized yX5_init.cls ∈ gw_s ∧ (yX5_init.cls ≠ "java/lang/invoke/MethodHandle" ∧ yX5_init.cls ≠ "java/lang/invoke/VarHandle") ∧ (parseMethodDescriptor yX5_init.desc).map (fun d => d.parameters.length) = some 0 ∧ mX5_init.2.2.1 ≤ 19 := ⟨gw_i1 52 rfl rfl, gw_i1 4 rfl rfl, ⟨by decide +kernel, by decide +kernel⟩, by decide +kernel, by decide⟩
abbrev mX1_init : My := (RX1, cX1_init, 1, none, "<init>")
theorem cw_X1_init : Cond.code yX1_init mX1_init.2.1 mX1_init.2.2.1 mX1_init.2.2.2.1 ∈ gw_s ∧ Cond.initialized yX1_init.cls ∈ gw_s ∧ (yX1_init.cls ≠ "java/lang/invoke/MethodHandle" ∧ yX1_init.cls ≠ "java/lang/invoke/VarHandle") ∧ (parseMethodDescriptor yX1_init.desc).map (fun d => d.parameters.length) = some 0 ∧ mX1_init.2.2.1 ≤ 19 := ⟨gw_i1 82 rfl rfl, gw_i1 6 rfl rfl, ⟨by decide +kernel, by decide +kernel⟩, by decide +kernel, by decide⟩
abbrev mX2_init : My := (RX2, cX2_init, 2, none, "<init>")
theorem cw_X2_init : Cond.code yX2_init mX2_init.2.1 mX2_init.2.2.1 mX2_init.2.2.2.1 ∈ gw_s ∧ Cond.initialized yX2_init.cls ∈ gw_s ∧ (yX2_init.cls ≠ "java/lang/invoke/MethodHandle" ∧ yX2_init.cls ≠ "java/lang/invoke/VarHandle") ∧ (parseMethodDescriptor yX2_init.desc).map (fun d => d.parameters.length) = some 0 ∧ mX2_init.2.2.1 ≤ 19 := ⟨gw_i1 75 rfl rfl, gw_i1 5 rfl rfl, ⟨by decide +kernel, by decide +kernel⟩, by decide +kernel, by decide⟩
abbrev mX9_init : My := (RX9, cX9_init, 1, none, "<init>")
theorem cw_X9_init : Cond.code yX9_init mX9_init.2.1 mX9_init.2.2.1 mX9_init.2.2.2.1 ∈ gw_s ∧ Cond.initialized yX9_init.cls ∈ gw_s ∧ (yX9_init.cls ≠ "java/lang/invoke/MethodHandle" ∧ yX9_init.cls ≠ "java/lang/invoke/VarHandle") ∧ (parseMethodDescriptor yX9_init.desc).map (fun d => d.parameters.length) = some 0 ∧ mX9_init.2.2.1 ≤ 19 := ⟨gw_i1 135 rfl rfl, gw_i1 7 rfl rfl, ⟨by decide +kernel, by decide +kernel⟩, by decide +kernel, by decide⟩
abbrev mX4_init : My := (RX4, cX4_init, 1, none, "<init>")
theorem cw_X4_init : Cond.code yX4_init mX4_init.2.1 mX4_init.2.2.1 mX4_init.2.2.2.1 ∈ gw_s ∧ Cond.initialized yX4_init.cls ∈ gw_s ∧ (yX4_init.cls ≠ "java/lang/invoke/MethodHandle" ∧ yX4_init.cls ≠ "java/lang/invoke/VarHandle") ∧ (parseMethodDescriptor yX4_init.desc).map (fun d => d.parameters.length) = some 0 ∧ mX4_init.2.2.1 ≤ 19 := ⟨gw_i1 155 rfl rfl, gw_i1 8 rfl rfl, ⟨by decide +kernel, by decide +kernel⟩, by decide +kernel, by decide⟩
abbrev mX0_init : My := (RX0, cX0_init, 2, none, "<init>")
theorem cw_X0_init : Cond.code yX0_init mX0_init.2.1 mX0_init.2.2.1 mX0_init.2.2.2.1 ∈ gw_s ∧ Cond.initialized yX0_init.cls ∈ gw_s ∧ (yX0_init.cls ≠ "java/lang/invoke/MethodHandle" ∧ yX0_init.cls ≠ "java/lang/invoke/VarHandle") ∧ (parseMethodDescriptor yX0_init.desc).map (fun d => d.parameters.length) = some 0 ∧ mX0_init.2.2.1 ≤ 19 := ⟨gw_i1 46 rfl rfl, gw_i1 3 rfl rfl, ⟨by decide +kernel, by decide +kernel⟩, by decide +kernel, by decide⟩
abbrev mX5_copy : My := (RX5, cX5_copy, 2, none, "copy")
theorem cw_X5_copy : Cond.code yX5_copy mX5_copy.2.1 mX5_copy.2.2.1 mX5_copy.2.2.2.1 ∈ gw_s ∧ Cond.initialized yX5_copy.cls ∈ gw_s ∧ (yX5_copy.cls ≠ "java/lang/invoke/MethodHandle" ∧ yX5_copy.cls ≠ "java/lang/invoke/VarHandle") ∧ (parseMethodDescriptor yX5_copy.desc).map (fun d => d.parameters.length) = some 1 ∧ mX5_copy.2.2.1 ≤ 19 := ⟨gw_i2 230 rfl rfl, gw_i1 4 rfl rfl, ⟨by decide +kernel, by decide +kernel⟩, by decide +kernel, by decide⟩
abbrev mX4_copy : My := (RX4, cX4_copy, 2, none, "copy")
theorem cw_X4_copy : Cond.code yX4_copy mX4_copy.2.1 mX4_copy.2.2.1 mX4_copy.2.2.2.1 ∈ gw_s ∧ Cond.initialized yX4_copy.cls ∈ gw_s ∧ (yX4_copy.cls ≠ "java/lang/invoke/MethodHandle" ∧ yX4_copy.cls ≠ "java/lang/invoke/VarHandle") ∧ (parseMethodDescriptor yX4_copy.desc).map (fun d => d.parameters.length) = some 1 ∧ mX4_copy.2.2.1 ≤ 19 := ⟨gw_i2 237 rfl rfl, gw_i1 8 rfl rfl, ⟨by decide +kernel, by decide +kernel⟩, by decide +kernel, by decide⟩
abbrev mX1_set : My := (RX1, cX1_set, 5, none, "set")
theorem cw_X1_set : Cond.code yX1_set mX1_set.2.1 mX1_set.2.2.1 mX1_set.2.2.2.1 ∈ gw_s ∧ Cond.initialized yX1_set.cls ∈ gw_s ∧ (yX1_set.cls ≠ "java/lang/invoke/MethodHandle" ∧ yX1_set.cls ≠ "java/lang/invoke/VarHandle") ∧ (parseMethodDescriptor yX1_set.desc).map (fun d => d.parameters.length) = some 4 ∧ mX1_set.2.2.1 ≤ 19 := ⟨gw_i3 5 rfl rfl, gw_i1 6 rfl rfl, ⟨by decide +kernel, by decide +kernel⟩, by decide +kernel, by decide⟩
abbrev mX2_copy : My := (RX2, cX2_copy, 4, none, "copy")
theorem cw_X2_copy : Cond.code yX2_copy mX2_copy.2.1 mX2_copy.2.2.1 mX2_copy.2.2.2.1 ∈ gw_s ∧ Cond.initialized yX2_copy.cls ∈ gw_s ∧ (yX2_copy.cls ≠ "java/lang/invoke/MethodHandle" ∧ yX2_copy.cls ≠ "java/lang/invoke/VarHandle") ∧ (parseMethodDescriptor yX2_copy.desc).map (fun d => d.parameters.length) = some 1 ∧ mX2_copy.2.2.1 ≤ 19 := ⟨gw_i3 1 rfl rfl, gw_i1 5 rfl rfl, ⟨by decide +kernel, by decide +kernel⟩, by decide +kernel, by decide⟩
abbrev mX9_copy : My := (RX9, cX9_copy, 2, none, "copy")
theorem cw_X9_copy : Cond.code yX9_copy mX9_copy.2.1 mX9_copy.2.2.1 mX9_copy.2.2.2.1 ∈ gw_s ∧ Cond.initialized yX9_copy.cls ∈ gw_s ∧ (yX9_copy.cls ≠ "java/lang/invoke/MethodHandle" ∧ yX9_copy.cls ≠ "java/lang/invoke/VarHandle") ∧ (parseMethodDescriptor yX9_copy.desc).map (fun d => d.parameters.length) = some 1 ∧ mX9_copy.2.2.1 ≤ 19 := ⟨gw_i3 9 rfl rfl, gw_i1 7 rfl rfl, ⟨by decide +kernel, by decide +kernel⟩, by decide +kernel, by decide⟩
abbrev mX0_copy : My := (RX0, cX0_copy, 3, none, "copy")
theorem cw_X0_copy : Cond.code yX0_copy mX0_copy.2.1 mX0_copy.2.2.1 mX0_copy.2.2.2.1 ∈ gw_s ∧ Cond.initialized yX0_copy.cls ∈ gw_s ∧ (yX0_copy.cls ≠ "java/lang/invoke/MethodHandle" ∧ yX0_copy.cls ≠ "java/lang/invoke/VarHandle") ∧ (parseMethodDescriptor yX0_copy.desc).map (fun d => d.parameters.length) = some 1 ∧ mX0_copy.2.2.1 ≤ 19 := ⟨gw_i2 226 rfl rfl, gw_i1 3 rfl rfl, ⟨by decide +kernel, by decide +kernel⟩, by decide +kernel, by decide⟩
abbrev mJ7_fill_53178 : My := (RJ7, cJ7_fill_53178, 4, none, "fill")
theorem cw_J7_fill_53178 : Cond.code yJ7_fill_53178 mJ7_fill_53178.2.1 mJ7_fill_53178.2.2.1 mJ7_fill_53178.2.2.2.1 ∈ gw_s ∧ Cond.initialized yJ7_fill_53178.cls ∈ gw_s ∧ (yJ7_fill_53178.cls ≠ "java/lang/invoke/MethodHandle" ∧ yJ7_fill_53178.cls ≠ "java/lang/invoke/VarHandle") ∧ (parseMethodDescriptor yJ7_fill_53178.desc).map (fun d => d.parameters.length) = some 2 ∧ mJ7_fill_53178.2.2.1 ≤ 19 := ⟨gw_i2 98 rfl rfl, gw_i1 14 rfl rfl, ⟨by decide +kernel, by decide +kernel⟩, by decide +kernel, by decide⟩
abbrev mX4_leave : My := (RX4, cX4_leave, 1, none, "leave")
theorem cw_X4_leave : Cond.code yX4_leave mX4_leave.2.1 mX4_leave.2.2.1 mX4_leave.2.2.2.1 ∈ gw_s ∧ Cond.initialized yX4_leave.cls ∈ gw_s ∧ (yX4_leave.cls ≠ "java/lang/invoke/MethodHandle" ∧ yX4_leave.cls ≠ "java/lang/invoke/VarHandle") ∧ (parseMethodDescriptor yX4_leave.desc).map (fun d => d.parameters.length) = some 0 ∧ mX4_leave.2.2.1 ≤ 19 := ⟨gw_i2 102 rfl rfl, gw_i1 8 rfl rfl, ⟨by decide +kernel, by decide +kernel⟩, by decide +kernel, by decide⟩
abbrev mX0_beginAnew : My := (RX0, cX0_beginAnew, 3, none, "beginAnew")
theorem cw_X0_beginAnew : Cond.code yX0_beginAnew mX0_beginAnew.2.1 mX0_beginAnew.2.2.1 mX0_beginAnew.2.2.2.1 ∈ gw_s ∧ Cond.initialized yX0_beginAnew.cls ∈ gw_s ∧ (yX0_beginAnew.cls ≠ "java/lang/invoke/MethodHandle" ∧ yX0_beginAnew.cls ≠ "java/lang/invoke/VarHandle") ∧ (parseMethodDescriptor yX0_beginAnew.desc).map (fun d => d.parameters.length) = some 1 ∧ mX0_beginAnew.2.2.1 ≤ 19 := ⟨gw_i2 95 rfl rfl, gw_i1 3 rfl rfl, ⟨by decide +kernel, by decide +kernel⟩, by decide +kernel, by decide⟩
abbrev mX0_knightAt : My := (RX0, cX0_knightAt, 2, some (.object "BlowOwed$Knight"), "knightAt")
theorem cw_X0_knightAt : Cond.code yX0_knightAt mX0_knightAt.2.1 mX0_knightAt.2.2.1 mX0_knightAt.2.2.2.1 ∈ gw_s ∧ Cond.initialized yX0_knightAt.cls ∈ gw_s ∧ (yX0_knightAt.cls ≠ "java/lang/invoke/MethodHandle" ∧ yX0_knightAt.cls ≠ "java/lang/invoke/VarHandle") ∧ (parseMethodDescriptor yX0_knightAt.desc).map (fun d => d.parameters.length) = some 1 ∧ mX0_knightAt.2.2.1 ≤ 19 := ⟨gw_i2 131 rfl rfl, gw_i1 3 rfl rfl, ⟨by decide +kernel, by decide +kernel⟩, by decide +kernel, by decide⟩
abbrev mX0_knightBits : My := (RX0, cX0_knightBits, 3, some .int, "knightBits")
theorem cw_X0_knightBits : Cond.code yX0_knightBits mX0_knightBits.2.1 mX0_knightBits.2.2.1 mX0_knightBits.2.2.2.1 ∈ gw_s ∧ Cond.initialized yX0_knightBits.cls ∈ gw_s ∧ (yX0_knightBits.cls ≠ "java/lang/invoke/MethodHandle" ∧ yX0_knightBits.cls ≠ "java/lang/invoke/VarHandle") ∧ (parseMethodDescriptor yX0_knightBits.desc).map (fun d => d.parameters.length) = some 0 ∧ mX0_knightBits.2.2.1 ≤ 19 := ⟨gw_i2 143 rfl rfl, gw_i1 3 rfl rfl, ⟨by decide +kernel, by decide +kernel⟩, by decide +kernel, by decide⟩
abbrev mJ6_bitCount_0f7a4 : My := (RJ6, cJ6_bitCount_0f7a4, 1, some .int, "bitCount")
theorem cw_J6_bitCount_0f7a4 : Cond.code yJ6_bitCount_0f7a4 mJ6_bitCount_0f7a4.2.1 mJ6_bitCount_0f7a4.2.2.1 mJ6_bitCount_0f7a4.2.2.2.1 ∈ gw_s ∧ Cond.initialized yJ6_bitCount_0f7a4.cls ∈ gw_s ∧ (yJ6_bitCount_0f7a4.cls ≠ "java/lang/invoke/MethodHandle" ∧ yJ6_bitCount_0f7a4.cls ≠ "java/lang/invoke/VarHandle") ∧ (parseMethodDescriptor yJ6_bitCount_0f7a4.desc).map (fun d => d.parameters.length) = some 1 ∧ mJ6_bitCount_0f7a4.2.2.1 ≤ 19 := ⟨gw_i2 146 rfl rfl, gw_i1 15 rfl rfl, ⟨by decide +kernel, by decide +kernel⟩, by decide +kernel, by decide⟩
abbrev mX0_countKnights : My := (RX0, cX0_countKnights, 1, some .int, "countKnights")
theorem cw_X0_countKnights : Cond.code yX0_countKnights mX0_countKnights.2.1 mX0_countKnights.2.2.1 mX0_countKnights.2.2.2.1 ∈ gw_s ∧ Cond.initialized yX0_countKnights.cls ∈ gw_s ∧ (yX0_countKnights.cls ≠ "java/lang/invoke/MethodHandle" ∧ yX0_countKnights.cls ≠ "java/lang/invoke/VarHandle") ∧ (parseMethodDescriptor yX0_countKnights.desc).map (fun d => d.parameters.length) = some 0 ∧ mX0_countKnights.2.2.1 ≤ 19 := ⟨gw_i2 139 rfl rfl, gw_i1 3 rfl rfl, ⟨by decide +kernel, by decide +kernel⟩, by decide +kernel, by decide⟩
abbrev mX4_isDead : My := (RX4, cX4_isDead, 1, some .boolean, "isDead")
theorem cw_X4_isDead : Cond.code yX4_isDead mX4_isDead.2.1 mX4_isDead.2.2.1 mX4_isDead.2.2.2.1 ∈ gw_s ∧ Cond.initialized yX4_isDead.cls ∈ gw_s ∧ (yX4_isDead.cls ≠ "java/lang/invoke/MethodHandle" ∧ yX4_isDead.cls ≠ "java/lang/invoke/VarHandle") ∧ (parseMethodDescriptor yX4_isDead.desc).map (fun d => d.parameters.length) = some 0 ∧ mX4_isDead.2.2.1 ≤ 19 := ⟨gw_i3 40 rfl rfl, gw_i1 8 rfl rfl, ⟨by decide +kernel, by decide +kernel⟩, by decide +kernel, by decide⟩
abbrev mX0_countDead : My := (RX0, cX0_countDead, 3, some .int, "countDead")
theorem cw_X0_countDead : Cond.code yX0_countDead mX0_countDead.2.1 mX0_countDead.2.2.1 mX0_countDead.2.2.2.1 ∈ gw_s ∧ Cond.initialized yX0_countDead.cls ∈ gw_s ∧ (yX0_countDead.cls ≠ "java/lang/invoke/MethodHandle" ∧ yX0_countDead.cls ≠ "java/lang/invoke/VarHandle") ∧ (parseMethodDescriptor yX0_countDead.desc).map (fun d => d.parameters.length) = some 0 ∧ mX0_countDead.2.2.1 ≤ 19 := ⟨gw_i4 95 rfl rfl, gw_i1 3 rfl rfl, ⟨by decide +kernel, by decide +kernel⟩, by decide +kernel, by decide⟩
abbrev mX0_sumHonour : My := (RX0, cX0_sumHonour, 3, some .int, "sumHonour")
theorem cw_X0_sumHonour : Cond.code yX0_sumHonour mX0_sumHonour.2.1 mX0_sumHonour.2.2.1 mX0_sumHonour.2.2.2.1 ∈ gw_s ∧ Cond.initialized yX0_sumHonour.cls ∈ gw_s ∧ (yX0_sumHonour.cls ≠ "java/lang/invoke/MethodHandle" ∧ yX0_sumHonour.cls ≠ "java/lang/invoke/VarHandle") ∧ (parseMethodDescriptor yX0_sumHonour.desc).map (fun d => d.parameters.length) = some 0 ∧ mX0_sumHonour.2.2.1 ≤ 19 := ⟨gw_i4 91 rfl rfl, gw_i1 3 rfl rfl, ⟨by decide +kernel, by decide +kernel⟩, by decide +kernel, by decide⟩
abbrev mX4_isAlive : My := (RX4, cX4_isAlive, 1, some .boolean, "isAlive")
theorem cw_X4_isAlive : Cond.code yX4_isAlive mX4_isAlive.2.1 mX4_isAlive.2.2.1 mX4_isAlive.2.2.2.1 ∈ gw_s ∧ Cond.initialized yX4_isAlive.cls ∈ gw_s ∧ (yX4_isAlive.cls ≠ "java/lang/invoke/MethodHandle" ∧ yX4_isAlive.cls ≠ "java/lang/invoke/VarHandle") ∧ (parseMethodDescriptor yX4_isAlive.desc).map (fun d => d.parameters.length) = some 0 ∧ mX4_isAlive.2.2.1 ≤ 19 := ⟨gw_i2 157 rfl rfl, gw_i1 8 rfl rfl, ⟨by decide +kernel, by decide +kernel⟩, by decide +kernel, by decide⟩
abbrev mJ9_max_7cf53 : My := (RJ9, cJ9_max_7cf53, 2, some .int, "max")
theorem cw_J9_max_7cf53 : Cond.code yJ9_max_7cf53 mJ9_max_7cf53.2.1 mJ9_max_7cf53.2.2.1 mJ9_max_7cf53.2.2.2.1 ∈ gw_s ∧ Cond.initialized yJ9_max_7cf53.cls ∈ gw_s ∧ (yJ9_max_7cf53.cls ≠ "java/lang/invoke/MethodHandle" ∧ yJ9_max_7cf53.cls ≠ "java/lang/invoke/VarHandle") ∧ (parseMethodDescriptor yJ9_max_7cf53.desc).map (fun d => d.parameters.length) = some 2 ∧ mJ9_max_7cf53.2.2.1 ≤ 19 := ⟨gw_i3 25 rfl rfl, gw_i1 17 rfl rfl, ⟨by decide +kernel, by decide +kernel⟩, by decide +kernel, by decide⟩
abbrev mX2_endAllOf : My := (RX2, cX2_endAllOf, 3, none, "endAllOf")
theorem cw_X2_endAllOf : Cond.code yX2_endAllOf mX2_endAllOf.2.1 mX2_endAllOf.2.2.1 mX2_endAllOf.2.2.2.1 ∈ gw_s ∧ Cond.initialized yX2_endAllOf.cls ∈ gw_s ∧ (yX2_endAllOf.cls ≠ "java/lang/invoke/MethodHandle" ∧ yX2_endAllOf.cls ≠ "java/lang/invoke/VarHandle") ∧ (parseMethodDescriptor yX2_endAllOf.desc).map (fun d => d.parameters.length) = some 1 ∧ mX2_endAllOf.2.2.1 ≤ 19 := ⟨gw_i3 44 rfl rfl, gw_i1 5 rfl rfl, ⟨by decide +kernel, by decide +kernel⟩, by decide +kernel, by decide⟩
abbrev mX0_wound : My := (RX0, cX0_wound, 4, none, "wound")
theorem cw_X0_wound : Cond.code yX0_wound mX0_wound.2.1 mX0_wound.2.2.1 mX0_wound.2.2.2.1 ∈ gw_s ∧ Cond.initialized yX0_wound.cls ∈ gw_s ∧ (yX0_wound.cls ≠ "java/lang/invoke/MethodHandle" ∧ yX0_wound.cls ≠ "java/lang/invoke/VarHandle") ∧ (parseMethodDescriptor yX0_wound.desc).map (fun d => d.parameters.length) = some 2 ∧ mX0_wound.2.2.1 ≤ 19 := ⟨gw_i3 36 rfl rfl, gw_i1 3 rfl rfl, ⟨by decide +kernel, by decide +kernel⟩, by decide +kernel, by decide⟩
abbrev mX2_sweep : My := (RX2, cX2_sweep, 4, none, "sweep")
theorem cw_X2_sweep : Cond.code yX2_sweep mX2_sweep.2.1 mX2_sweep.2.2.1 mX2_sweep.2.2.2.1 ∈ gw_s ∧ Cond.initialized yX2_sweep.cls ∈ gw_s ∧ (yX2_sweep.cls ≠ "java/lang/invoke/MethodHandle" ∧ yX2_sweep.cls ≠ "java/lang/invoke/VarHandle") ∧ (parseMethodDescriptor yX2_sweep.desc).map (fun d => d.parameters.length) = some 0 ∧ mX2_sweep.2.2.1 ≤ 19 := ⟨gw_i2 166 rfl rfl, gw_i1 5 rfl rfl, ⟨by decide +kernel, by decide +kernel⟩, by decide +kernel, by decide⟩
abbrev mX2_add : My := (RX2, cX2_add, 5, none, "add")
theorem cw_X2_add : Cond.code yX2_add mX2_add.2.1 mX2_add.2.2.1 mX2_add.2.2.2.1 ∈ gw_s ∧ Cond.initialized yX2_add.cls ∈ gw_s ∧ (yX2_add.cls ≠ "java/lang/invoke/MethodHandle" ∧ yX2_add.cls ≠ "java/lang/invoke/VarHandle") ∧ (parseMethodDescriptor yX2_add.desc).map (fun d => d.parameters.length) = some 4 ∧ mX2_add.2.2.1 ≤ 19 := ⟨gw_i3 48 rfl rfl, gw_i1 5 rfl rfl, ⟨by decide +kernel, by decide +kernel⟩, by decide +kernel, by decide⟩
abbrev mX0_tryStrike : My := (RX0, cX0_tryStrike, 6, some .int, "tryStrike")
theorem cw_X0_tryStrike : Cond.code yX0_tryStrike mX0_tryStrike.2.1 mX0_tryStrike.2.2.1 mX0_tryStrike.2.2.2.1 ∈ gw_s ∧ Cond.initialized yX0_tryStrike.cls ∈ gw_s ∧ (yX0_tryStrike.cls ≠ "java/lang/invoke/MethodHandle" ∧ yX0_tryStrike.cls ≠ "java/lang/invoke/VarHandle") ∧ (parseMethodDescriptor yX0_tryStrike.desc).map (fun d => d.parameters.length) = some 3 ∧ mX0_tryStrike.2.2.1 ≤ 19 := ⟨gw_i3 31 rfl rfl, gw_i1 3 rfl rfl, ⟨by decide +kernel, by decide +kernel⟩, by decide +kernel, by decide⟩
abbrev mX0_whyNotActing : My := (RX0, cX0_whyNotActing, 2, some .int, "whyNotActing")
theorem cw_X0_whyNotActing : Cond.code yX0_whyNotActing mX0_whyNotActing.2.1 mX0_whyNotActing.2.2.1 mX0_whyNotActing.2.2.2.1 ∈ gw_s ∧ Cond.initialized yX0_whyNotActing.cls ∈ gw_s ∧ (yX0_whyNotActing.cls ≠ "java/lang/invoke/MethodHandle" ∧ yX0_whyNotActing.cls ≠ "java/lang/invoke/VarHandle") ∧ (parseMethodDescriptor yX0_whyNotActing.desc).map (fun d => d.parameters.length) = some 1 ∧ mX0_whyNotActing.2.2.1 ≤ 19 := ⟨gw_i3 56 rfl rfl, gw_i1 3 rfl rfl, ⟨by decide +kernel, by decide +kernel⟩, by decide +kernel, by decide⟩
abbrev mX5_roadDays : My := (RX5, cX5_roadDays, 4, some .int, "roadDays")
theorem cw_X5_roadDays : Cond.code yX5_roadDays mX5_roadDays.2.1 mX5_roadDays.2.2.1 mX5_roadDays.2.2.2.1 ∈ gw_s ∧ Cond.initialized yX5_roadDays.cls ∈ gw_s ∧ (yX5_roadDays.cls ≠ "java/lang/invoke/MethodHandle" ∧ yX5_roadDays.cls ≠ "java/lang/invoke/VarHandle") ∧ (parseMethodDescriptor yX5_roadDays.desc).map (fun d => d.parameters.length) = some 2 ∧ mX5_roadDays.2.2.1 ≤ 19 := ⟨gw_i2 114 rfl rfl, gw_i1 4 rfl rfl, ⟨by decide +kernel, by decide +kernel⟩, by decide +kernel, by decide⟩
abbrev mX11_leftOver : My := (RX11, cX11_leftOver, 2, some .int, "leftOver")
theorem cw_X11_leftOver : Cond.code yX11_leftOver mX11_leftOver.2.1 mX11_leftOver.2.2.1 mX11_leftOver.2.2.2.1 ∈ gw_s ∧ Cond.initialized yX11_leftOver.cls ∈ gw_s ∧ (yX11_leftOver.cls ≠ "java/lang/invoke/MethodHandle" ∧ yX11_leftOver.cls ≠ "java/lang/invoke/VarHandle") ∧ (parseMethodDescriptor yX11_leftOver.desc).map (fun d => d.parameters.length) = some 2 ∧ mX11_leftOver.2.2.1 ≤ 19 := ⟨gw_i3 99 rfl rfl, gw_i1 1 rfl rfl, ⟨by decide +kernel, by decide +kernel⟩, by decide +kernel, by decide⟩
abbrev mX5_isWinter : My := (RX5, cX5_isWinter, 2, some .boolean, "isWinter")
theorem cw_X5_isWinter : Cond.code yX5_isWinter mX5_isWinter.2.1 mX5_isWinter.2.2.1 mX5_isWinter.2.2.2.1 ∈ gw_s ∧ Cond.initialized yX5_isWinter.cls ∈ gw_s ∧ (yX5_isWinter.cls ≠ "java/lang/invoke/MethodHandle" ∧ yX5_isWinter.cls ≠ "java/lang/invoke/VarHandle") ∧ (parseMethodDescriptor yX5_isWinter.desc).map (fun d => d.parameters.length) = some 1 ∧ mX5_isWinter.2.2.1 ≤ 19 := ⟨gw_i3 96 rfl rfl, gw_i1 4 rfl rfl, ⟨by decide +kernel, by decide +kernel⟩, by decide +kernel, by decide⟩
abbrev mX5_daysUnderWay : My := (RX5, cX5_daysUnderWay, 5, some .int, "daysUnderWay")
theorem cw_X5_daysUnderWay : Cond.code yX5_daysUnderWay mX5_daysUnderWay.2.1 mX5_daysUnderWay.2.2.1 mX5_daysUnderWay.2.2.2.1 ∈ gw_s ∧ Cond.initialized yX5_daysUnderWay.cls ∈ gw_s ∧ (yX5_daysUnderWay.cls ≠ "java/lang/invoke/MethodHandle" ∧ yX5_daysUnderWay.cls ≠ "java/lang/invoke/VarHandle") ∧ (parseMethodDescriptor yX5_daysUnderWay.desc).map (fun d => d.parameters.length) = some 3 ∧ mX5_daysUnderWay.2.2.1 ≤ 19 := ⟨gw_i3 91 rfl rfl, gw_i1 4 rfl rfl, ⟨by decide +kernel, by decide +kernel⟩, by decide +kernel, by decide⟩
abbrev mX0_trySetOut : My := (RX0, cX0_trySetOut, 6, some .int, "trySetOut")
theorem cw_X0_trySetOut : Cond.code yX0_trySetOut mX0_trySetOut.2.1 mX0_trySetOut.2.2.1 mX0_trySetOut.2.2.2.1 ∈ gw_s ∧ Cond.initialized yX0_trySetOut.cls ∈ gw_s ∧ (yX0_trySetOut.cls ≠ "java/lang/invoke/MethodHandle" ∧ yX0_trySetOut.cls ≠ "java/lang/invoke/VarHandle") ∧ (parseMethodDescriptor yX0_trySetOut.desc).map (fun d => d.parameters.length) = some 2 ∧ mX0_trySetOut.2.2.1 ≤ 19 := ⟨gw_i3 87 rfl rfl, gw_i1 3 rfl rfl, ⟨by decide +kernel, by decide +kernel⟩, by decide +kernel, by decide⟩
abbrev mX2_findDueTo : My := (RX2, cX2_findDueTo, 4, some .int, "findDueTo")
theorem cw_X2_findDueTo : Cond.code yX2_findDueTo mX2_findDueTo.2.1 mX2_findDueTo.2.2.1 mX2_findDueTo.2.2.2.1 ∈ gw_s ∧ Cond.initialized yX2_findDueTo.cls ∈ gw_s ∧ (yX2_findDueTo.cls ≠ "java/lang/invoke/MethodHandle" ∧ yX2_findDueTo.cls ≠ "java/lang/invoke/VarHandle") ∧ (parseMethodDescriptor yX2_findDueTo.desc).map (fun d => d.parameters.length) = some 2 ∧ mX2_findDueTo.2.2.1 ≤ 19 := ⟨gw_i3 60 rfl rfl, gw_i1 5 rfl rfl, ⟨by decide +kernel, by decide +kernel⟩, by decide +kernel, by decide⟩
abbrev mX4_isIn : My := (RX4, cX4_isIn, 2, some .boolean, "isIn")
theorem cw_X4_isIn : Cond.code yX4_isIn mX4_isIn.2.1 mX4_isIn.2.2.1 mX4_isIn.2.2.2.1 ∈ gw_s ∧ Cond.initialized yX4_isIn.cls ∈ gw_s ∧ (yX4_isIn.cls ≠ "java/lang/invoke/MethodHandle" ∧ yX4_isIn.cls ≠ "java/lang/invoke/VarHandle") ∧ (parseMethodDescriptor yX4_isIn.desc).map (fun d => d.parameters.length) = some 1 ∧ mX4_isIn.2.2.1 ≤ 19 := ⟨gw_i3 64 rfl rfl, gw_i1 8 rfl rfl, ⟨by decide +kernel, by decide +kernel⟩, by decide +kernel, by decide⟩
abbrev mX2_has : My := (RX2, cX2_has, 2, some .boolean, "has")
theorem cw_X2_has : Cond.code yX2_has mX2_has.2.1 mX2_has.2.2.1 mX2_has.2.2.2.1 ∈ gw_s ∧ Cond.initialized yX2_has.cls ∈ gw_s ∧ (yX2_has.cls ≠ "java/lang/invoke/MethodHandle" ∧ yX2_has.cls ≠ "java/lang/invoke/VarHandle") ∧ (parseMethodDescriptor yX2_has.desc).map (fun d => d.parameters.length) = some 1 ∧ mX2_has.2.2.1 ≤ 19 := ⟨gw_i3 72 rfl rfl, gw_i1 5 rfl rfl, ⟨by decide +kernel, by decide +kernel⟩, by decide +kernel, by decide⟩
abbrev mJ9_min_7cf53 : My := (RJ9, cJ9_min_7cf53, 2, some .int, "min")
theorem cw_J9_min_7cf53 : Cond.code yJ9_min_7cf53 mJ9_min_7cf53.2.1 mJ9_min_7cf53.2.2.1 mJ9_min_7cf53.2.2.2.1 ∈ gw_s ∧ Cond.initialized yJ9_min_7cf53.cls ∈ gw_s ∧ (yJ9_min_7cf53.cls ≠ "java/lang/invoke/MethodHandle" ∧ yJ9_min_7cf53.cls ≠ "java/lang/invoke/VarHandle") ∧ (parseMethodDescriptor yJ9_min_7cf53.desc).map (fun d => d.parameters.length) = some 2 ∧ mJ9_min_7cf53.2.2.1 ≤ 19 := ⟨gw_i3 75 rfl rfl, gw_i1 17 rfl rfl, ⟨by decide +kernel, by decide +kernel⟩, by decide +kernel, by decide⟩
abbrev mX0_giveBackOne : My := (RX0, cX0_giveBackOne, 5, none, "giveBackOne")
theorem cw_X0_giveBackOne : Cond.code yX0_giveBackOne mX0_giveBackOne.2.1 mX0_giveBackOne.2.2.1 mX0_giveBackOne.2.2.2.1 ∈ gw_s ∧ Cond.initialized yX0_giveBackOne.cls ∈ gw_s ∧ (yX0_giveBackOne.cls ≠ "java/lang/invoke/MethodHandle" ∧ yX0_giveBackOne.cls ≠ "java/lang/invoke/VarHandle") ∧ (parseMethodDescriptor yX0_giveBackOne.desc).map (fun d => d.parameters.length) = some 2 ∧ mX0_giveBackOne.2.2.1 ≤ 19 := ⟨gw_i3 68 rfl rfl, gw_i1 3 rfl rfl, ⟨by decide +kernel, by decide +kernel⟩, by decide +kernel, by decide⟩
abbrev mX0_tryGiveBack : My := (RX0, cX0_tryGiveBack, 6, some .int, "tryGiveBack")
theorem cw_X0_tryGiveBack : Cond.code yX0_tryGiveBack mX0_tryGiveBack.2.1 mX0_tryGiveBack.2.2.1 mX0_tryGiveBack.2.2.2.1 ∈ gw_s ∧ Cond.initialized yX0_tryGiveBack.cls ∈ gw_s ∧ (yX0_tryGiveBack.cls ≠ "java/lang/invoke/MethodHandle" ∧ yX0_tryGiveBack.cls ≠ "java/lang/invoke/VarHandle") ∧ (parseMethodDescriptor yX0_tryGiveBack.desc).map (fun d => d.parameters.length) = some 1 ∧ mX0_tryGiveBack.2.2.1 ≤ 19 := ⟨gw_i3 52 rfl rfl, gw_i1 3 rfl rfl, ⟨by decide +kernel, by decide +kernel⟩, by decide +kernel, by decide⟩
abbrev mX0_tryFlinch : My := (RX0, cX0_tryFlinch, 7, some .int, "tryFlinch")
theorem cw_X0_tryFlinch : Cond.code yX0_tryFlinch mX0_tryFlinch.2.1 mX0_tryFlinch.2.2.1 mX0_tryFlinch.2.2.2.1 ∈ gw_s ∧ Cond.initialized yX0_tryFlinch.cls ∈ gw_s ∧ (yX0_tryFlinch.cls ≠ "java/lang/invoke/MethodHandle" ∧ yX0_tryFlinch.cls ≠ "java/lang/invoke/VarHandle") ∧ (parseMethodDescriptor yX0_tryFlinch.desc).map (fun d => d.parameters.length) = some 1 ∧ mX0_tryFlinch.2.2.1 ≤ 19 := ⟨gw_i3 79 rfl rfl, gw_i1 3 rfl rfl, ⟨by decide +kernel, by decide +kernel⟩, by decide +kernel, by decide⟩
abbrev mX0_tryRemit : My := (RX0, cX0_tryRemit, 5, some .int, "tryRemit")
theorem cw_X0_tryRemit : Cond.code yX0_tryRemit mX0_tryRemit.2.1 mX0_tryRemit.2.2.1 mX0_tryRemit.2.2.2.1 ∈ gw_s ∧ Cond.initialized yX0_tryRemit.cls ∈ gw_s ∧ (yX0_tryRemit.cls ≠ "java/lang/invoke/MethodHandle" ∧ yX0_tryRemit.cls ≠ "java/lang/invoke/VarHandle") ∧ (parseMethodDescriptor yX0_tryRemit.desc).map (fun d => d.parameters.length) = some 1 ∧ mX0_tryRemit.2.2.1 ≤ 19 := ⟨gw_i3 83 rfl rfl, gw_i1 3 rfl rfl, ⟨by decide +kernel, by decide +kernel⟩, by decide +kernel, by decide⟩
abbrev mX0_passDays : My := (RX0, cX0_passDays, 4, none, "passDays")
theorem cw_X0_passDays : Cond.code yX0_passDays mX0_passDays.2.1 mX0_passDays.2.2.1 mX0_passDays.2.2.2.1 ∈ gw_s ∧ Cond.initialized yX0_passDays.cls ∈ gw_s ∧ (yX0_passDays.cls ≠ "java/lang/invoke/MethodHandle" ∧ yX0_passDays.cls ≠ "java/lang/invoke/VarHandle") ∧ (parseMethodDescriptor yX0_passDays.desc).map (fun d => d.parameters.length) = some 1 ∧ mX0_passDays.2.2.1 ≤ 19 := ⟨gw_i3 20 rfl rfl, gw_i1 3 rfl rfl, ⟨by decide +kernel, by decide +kernel⟩, by decide +kernel, by decide⟩
abbrev mX1_tell : My := (RX1, cX1_tell, 2, some .int, "tell")
theorem cw_X1_tell : Cond.code yX1_tell mX1_tell.2.1 mX1_tell.2.2.1 mX1_tell.2.2.2.1 ∈ gw_s ∧ Cond.initialized yX1_tell.cls ∈ gw_s ∧ (yX1_tell.cls ≠ "java/lang/invoke/MethodHandle" ∧ yX1_tell.cls ≠ "java/lang/invoke/VarHandle") ∧ (parseMethodDescriptor yX1_tell.desc).map (fun d => d.parameters.length) = some 1 ∧ mX1_tell.2.2.1 ≤ 19 := ⟨gw_i3 127 rfl rfl, gw_i1 6 rfl rfl, ⟨by decide +kernel, by decide +kernel⟩, by decide +kernel, by decide⟩
abbrev mX2_inherit : My := (RX2, cX2_inherit, 5, none, "inherit")
theorem cw_X2_inherit : Cond.code yX2_inherit mX2_inherit.2.1 mX2_inherit.2.2.1 mX2_inherit.2.2.2.1 ∈ gw_s ∧ Cond.initialized yX2_inherit.cls ∈ gw_s ∧ (yX2_inherit.cls ≠ "java/lang/invoke/MethodHandle" ∧ yX2_inherit.cls ≠ "java/lang/invoke/VarHandle") ∧ (parseMethodDescriptor yX2_inherit.desc).map (fun d => d.parameters.length) = some 2 ∧ mX2_inherit.2.2.1 ≤ 19 := ⟨gw_i2 162 rfl rfl, gw_i1 5 rfl rfl, ⟨by decide +kernel, by decide +kernel⟩, by decide +kernel, by decide⟩
abbrev mX2_countOwedBy : My := (RX2, cX2_countOwedBy, 4, some .int, "countOwedBy")
theorem cw_X2_countOwedBy : Cond.code yX2_countOwedBy mX2_countOwedBy.2.1 mX2_countOwedBy.2.2.1 mX2_countOwedBy.2.2.2.1 ∈ gw_s ∧ Cond.initialized yX2_countOwedBy.cls ∈ gw_s ∧ (yX2_countOwedBy.cls ≠ "java/lang/invoke/MethodHandle" ∧ yX2_countOwedBy.cls ≠ "java/lang/invoke/VarHandle") ∧ (parseMethodDescriptor yX2_countOwedBy.desc).map (fun d => d.parameters.length) = some 1 ∧ mX2_countOwedBy.2.2.1 ≤ 19 := ⟨gw_i3 190 rfl rfl, gw_i1 5 rfl rfl, ⟨by decide +kernel, by decide +kernel⟩, by decide +kernel, by decide⟩
abbrev mX3_init : My := (RX3, cX3_init, 1, none, "<init>")
theorem cw_X3_init : Cond.code yX3_init mX3_init.2.1 mX3_init.2.2.1 mX3_init.2.2.2.1 ∈ gw_s ∧ Cond.initialized yX3_init.cls ∈ gw_s ∧ (yX3_init.cls ≠ "java/lang/invoke/MethodHandle" ∧ yX3_init.cls ≠ "java/lang/invoke/VarHandle") ∧ (parseMethodDescriptor yX3_init.desc).map (fun d => d.parameters.length) = some 0 ∧ mX3_init.2.2.1 ≤ 19 := ⟨gw_i2 16 rfl rfl, gw_i1 10 rfl rfl, ⟨by decide +kernel, by decide +kernel⟩, by decide +kernel, by decide⟩
abbrev mX5_hasChapel : My := (RX5, cX5_hasChapel, 2, some .boolean, "hasChapel")
theorem cw_X5_hasChapel : Cond.code yX5_hasChapel mX5_hasChapel.2.1 mX5_hasChapel.2.2.1 mX5_hasChapel.2.2.2.1 ∈ gw_s ∧ Cond.initialized yX5_hasChapel.cls ∈ gw_s ∧ (yX5_hasChapel.cls ≠ "java/lang/invoke/MethodHandle" ∧ yX5_hasChapel.cls ≠ "java/lang/invoke/VarHandle") ∧ (parseMethodDescriptor yX5_hasChapel.desc).map (fun d => d.parameters.length) = some 1 ∧ mX5_hasChapel.2.2.1 ≤ 19 := ⟨gw_i2 110 rfl rfl, gw_i1 4 rfl rfl, ⟨by decide +kernel, by decide +kernel⟩, by decide +kernel, by decide⟩
abbrev mX5_firstAcross : My := (RX5, cX5_firstAcross, 8, some .int, "firstAcross")
theorem cw_X5_firstAcross : Cond.code yX5_firstAcross mX5_firstAcross.2.1 mX5_firstAcross.2.2.1 mX5_firstAcross.2.2.2.1 ∈ gw_s ∧ Cond.initialized yX5_firstAcross.cls ∈ gw_s ∧ (yX5_firstAcross.cls ≠ "java/lang/invoke/MethodHandle" ∧ yX5_firstAcross.cls ≠ "java/lang/invoke/VarHandle") ∧ (parseMethodDescriptor yX5_firstAcross.desc).map (fun d => d.parameters.length) = some 3 ∧ mX5_firstAcross.2.2.1 ≤ 19 := ⟨gw_i3 150 rfl rfl, gw_i1 4 rfl rfl, ⟨by decide +kernel, by decide +kernel⟩, by decide +kernel, by decide⟩
abbrev mX5_fillFirstDays : My := (RX5, cX5_fillFirstDays, 7, none, "fillFirstDays")
theorem cw_X5_fillFirstDays : Cond.code yX5_fillFirstDays mX5_fillFirstDays.2.1 mX5_fillFirstDays.2.2.1 mX5_fillFirstDays.2.2.2.1 ∈ gw_s ∧ Cond.initialized yX5_fillFirstDays.cls ∈ gw_s ∧ (yX5_fillFirstDays.cls ≠ "java/lang/invoke/MethodHandle" ∧ yX5_fillFirstDays.cls ≠ "java/lang/invoke/VarHandle") ∧ (parseMethodDescriptor yX5_fillFirstDays.desc).map (fun d => d.parameters.length) = some 3 ∧ mX5_fillFirstDays.2.2.1 ≤ 19 := ⟨gw_i3 144 rfl rfl, gw_i1 4 rfl rfl, ⟨by decide +kernel, by decide +kernel⟩, by decide +kernel, by decide⟩
abbrev mX3_setOff : My := (RX3, cX3_setOff, 4, none, "setOff")
theorem cw_X3_setOff : Cond.code yX3_setOff mX3_setOff.2.1 mX3_setOff.2.2.1 mX3_setOff.2.2.2.1 ∈ gw_s ∧ Cond.initialized yX3_setOff.cls ∈ gw_s ∧ (yX3_setOff.cls ≠ "java/lang/invoke/MethodHandle" ∧ yX3_setOff.cls ≠ "java/lang/invoke/VarHandle") ∧ (parseMethodDescriptor yX3_setOff.desc).map (fun d => d.parameters.length) = some 2 ∧ mX3_setOff.2.2.1 ≤ 19 := ⟨gw_i3 139 rfl rfl, gw_i1 10 rfl rfl, ⟨by decide +kernel, by decide +kernel⟩, by decide +kernel, by decide⟩
abbrev mX3_dayAt : My := (RX3, cX3_dayAt, 2, some .int, "dayAt")
theorem cw_X3_dayAt : Cond.code yX3_dayAt mX3_dayAt.2.1 mX3_dayAt.2.2.1 mX3_dayAt.2.2.2.1 ∈ gw_s ∧ Cond.initialized yX3_dayAt.cls ∈ gw_s ∧ (yX3_dayAt.cls ≠ "java/lang/invoke/MethodHandle" ∧ yX3_dayAt.cls ≠ "java/lang/invoke/VarHandle") ∧ (parseMethodDescriptor yX3_dayAt.desc).map (fun d => d.parameters.length) = some 2 ∧ mX3_dayAt.2.2.1 ≤ 19 := ⟨gw_i3 154 rfl rfl, gw_i1 10 rfl rfl, ⟨by decide +kernel, by decide +kernel⟩, by decide +kernel, by decide⟩
abbrev mX3_firstDay : My := (RX3, cX3_firstDay, 4, some .int, "firstDay")
theorem cw_X3_firstDay : Cond.code yX3_firstDay mX3_firstDay.2.1 mX3_firstDay.2.2.1 mX3_firstDay.2.2.2.1 ∈ gw_s ∧ Cond.initialized yX3_firstDay.cls ∈ gw_s ∧ (yX3_firstDay.cls ≠ "java/lang/invoke/MethodHandle" ∧ yX3_firstDay.cls ≠ "java/lang/invoke/VarHandle") ∧ (parseMethodDescriptor yX3_firstDay.desc).map (fun d => d.parameters.length) = some 3 ∧ mX3_firstDay.2.2.1 ≤ 19 := ⟨gw_i3 135 rfl rfl, gw_i1 10 rfl rfl, ⟨by decide +kernel, by decide +kernel⟩, by decide +kernel, by decide⟩
abbrev mX3_isMet : My := (RX3, cX3_isMet, 5, some .boolean, "isMet")
theorem cw_X3_isMet : Cond.code yX3_isMet mX3_isMet.2.1 mX3_isMet.2.2.1 mX3_isMet.2.2.2.1 ∈ gw_s ∧ Cond.initialized yX3_isMet.cls ∈ gw_s ∧ (yX3_isMet.cls ≠ "java/lang/invoke/MethodHandle" ∧ yX3_isMet.cls ≠ "java/lang/invoke/VarHandle") ∧ (parseMethodDescriptor yX3_isMet.desc).map (fun d => d.parameters.length) = some 4 ∧ mX3_isMet.2.2.1 ≤ 19 := ⟨gw_i3 167 rfl rfl, gw_i1 10 rfl rfl, ⟨by decide +kernel, by decide +kernel⟩, by decide +kernel, by decide⟩
abbrev mX3_metAlone : My := (RX3, cX3_metAlone, 5, some .int, "metAlone")
theorem cw_X3_metAlone : Cond.code yX3_metAlone mX3_metAlone.2.1 mX3_metAlone.2.2.1 mX3_metAlone.2.2.2.1 ∈ gw_s ∧ Cond.initialized yX3_metAlone.cls ∈ gw_s ∧ (yX3_metAlone.cls ≠ "java/lang/invoke/MethodHandle" ∧ yX3_metAlone.cls ≠ "java/lang/invoke/VarHandle") ∧ (parseMethodDescriptor yX3_metAlone.desc).map (fun d => d.parameters.length) = some 2 ∧ mX3_metAlone.2.2.1 ≤ 19 := ⟨gw_i3 164 rfl rfl, gw_i1 10 rfl rfl, ⟨by decide +kernel, by decide +kernel⟩, by decide +kernel, by decide⟩
abbrev mX3_goOnFrom : My := (RX3, cX3_goOnFrom, 4, none, "goOnFrom")
theorem cw_X3_goOnFrom : Cond.code yX3_goOnFrom mX3_goOnFrom.2.1 mX3_goOnFrom.2.2.1 mX3_goOnFrom.2.2.2.1 ∈ gw_s ∧ Cond.initialized yX3_goOnFrom.cls ∈ gw_s ∧ (yX3_goOnFrom.cls ≠ "java/lang/invoke/MethodHandle" ∧ yX3_goOnFrom.cls ≠ "java/lang/invoke/VarHandle") ∧ (parseMethodDescriptor yX3_goOnFrom.desc).map (fun d => d.parameters.length) = some 2 ∧ mX3_goOnFrom.2.2.1 ≤ 19 := ⟨gw_i3 186 rfl rfl, gw_i1 10 rfl rfl, ⟨by decide +kernel, by decide +kernel⟩, by decide +kernel, by decide⟩
abbrev mX3_lengthen : My := (RX3, cX3_lengthen, 5, none, "lengthen")
theorem cw_X3_lengthen : Cond.code yX3_lengthen mX3_lengthen.2.1 mX3_lengthen.2.2.1 mX3_lengthen.2.2.2.1 ∈ gw_s ∧ Cond.initialized yX3_lengthen.cls ∈ gw_s ∧ (yX3_lengthen.cls ≠ "java/lang/invoke/MethodHandle" ∧ yX3_lengthen.cls ≠ "java/lang/invoke/VarHandle") ∧ (parseMethodDescriptor yX3_lengthen.desc).map (fun d => d.parameters.length) = some 3 ∧ mX3_lengthen.2.2.1 ≤ 19 := ⟨gw_i3 182 rfl rfl, gw_i1 10 rfl rfl, ⟨by decide +kernel, by decide +kernel⟩, by decide +kernel, by decide⟩
abbrev mX3_mostMet : My := (RX3, cX3_mostMet, 6, some .int, "mostMet")
theorem cw_X3_mostMet : Cond.code yX3_mostMet mX3_mostMet.2.1 mX3_mostMet.2.2.1 mX3_mostMet.2.2.2.1 ∈ gw_s ∧ Cond.initialized yX3_mostMet.cls ∈ gw_s ∧ (yX3_mostMet.cls ≠ "java/lang/invoke/MethodHandle" ∧ yX3_mostMet.cls ≠ "java/lang/invoke/VarHandle") ∧ (parseMethodDescriptor yX3_mostMet.desc).map (fun d => d.parameters.length) = some 2 ∧ mX3_mostMet.2.2.1 ≤ 19 := ⟨gw_i3 176 rfl rfl, gw_i1 10 rfl rfl, ⟨by decide +kernel, by decide +kernel⟩, by decide +kernel, by decide⟩
abbrev mX3_findBarred : My := (RX3, cX3_findBarred, 6, some .int, "findBarred")
theorem cw_X3_findBarred : Cond.code yX3_findBarred mX3_findBarred.2.1 mX3_findBarred.2.2.1 mX3_findBarred.2.2.2.1 ∈ gw_s ∧ Cond.initialized yX3_findBarred.cls ∈ gw_s ∧ (yX3_findBarred.cls ≠ "java/lang/invoke/MethodHandle" ∧ yX3_findBarred.cls ≠ "java/lang/invoke/VarHandle") ∧ (parseMethodDescriptor yX3_findBarred.desc).map (fun d => d.parameters.length) = some 2 ∧ mX3_findBarred.2.2.1 ≤ 19 := ⟨gw_i3 194 rfl rfl, gw_i1 10 rfl rfl, ⟨by decide +kernel, by decide +kernel⟩, by decide +kernel, by decide⟩
abbrev mX4_come : My := (RX4, cX4_come, 5, none, "come")
theorem cw_X4_come : Cond.code yX4_come mX4_come.2.1 mX4_come.2.2.1 mX4_come.2.2.2.1 ∈ gw_s ∧ Cond.initialized yX4_come.cls ∈ gw_s ∧ (yX4_come.cls ≠ "java/lang/invoke/MethodHandle" ∧ yX4_come.cls ≠ "java/lang/invoke/VarHandle") ∧ (parseMethodDescriptor yX4_come.desc).map (fun d => d.parameters.length) = some 4 ∧ mX4_come.2.2.1 ≤ 19 := ⟨gw_i2 135 rfl rfl, gw_i1 8 rfl rfl, ⟨by decide +kernel, by decide +kernel⟩, by decide +kernel, by decide⟩
abbrev mX4_tell : My := (RX4, cX4_tell, 2, some .int, "tell")
theorem cw_X4_tell : Cond.code yX4_tell mX4_tell.2.1 mX4_tell.2.2.1 mX4_tell.2.2.2.1 ∈ gw_s ∧ Cond.initialized yX4_tell.cls ∈ gw_s ∧ (yX4_tell.cls ≠ "java/lang/invoke/MethodHandle" ∧ yX4_tell.cls ≠ "java/lang/invoke/VarHandle") ∧ (parseMethodDescriptor yX4_tell.desc).map (fun d => d.parameters.length) = some 1 ∧ mX4_tell.2.2.1 ≤ 19 := ⟨gw_i3 113 rfl rfl, gw_i1 8 rfl rfl, ⟨by decide +kernel, by decide +kernel⟩, by decide +kernel, by decide⟩
abbrev mX5_layRoad : My := (RX5, cX5_layRoad, 4, none, "layRoad")
theorem cw_X5_layRoad : Cond.code yX5_layRoad mX5_layRoad.2.1 mX5_layRoad.2.2.1 mX5_layRoad.2.2.2.1 ∈ gw_s ∧ Cond.initialized yX5_layRoad.cls ∈ gw_s ∧ (yX5_layRoad.cls ≠ "java/lang/invoke/MethodHandle" ∧ yX5_layRoad.cls ≠ "java/lang/invoke/VarHandle") ∧ (parseMethodDescriptor yX5_layRoad.desc).map (fun d => d.parameters.length) = some 3 ∧ mX5_layRoad.2.2.1 ≤ 19 := ⟨gw_i2 118 rfl rfl, gw_i1 4 rfl rfl, ⟨by decide +kernel, by decide +kernel⟩, by decide +kernel, by decide⟩
abbrev mX6_init : My := (RX6, cX6_init, 1, none, "<init>")
theorem cw_X6_init : Cond.code yX6_init mX6_init.2.1 mX6_init.2.2.1 mX6_init.2.2.2.1 ∈ gw_s ∧ Cond.initialized yX6_init.cls ∈ gw_s ∧ (yX6_init.cls ≠ "java/lang/invoke/MethodHandle" ∧ yX6_init.cls ≠ "java/lang/invoke/VarHandle") ∧ (parseMethodDescriptor yX6_init.desc).map (fun d => d.parameters.length) = some 0 ∧ mX6_init.2.2.1 ≤ 19 := ⟨gw_i2 32 rfl rfl, gw_i1 11 rfl rfl, ⟨by decide +kernel, by decide +kernel⟩, by decide +kernel, by decide⟩
abbrev mX6_sumOf : My := (RX6, cX6_sumOf, 6, some .int, "sumOf")
theorem cw_X6_sumOf : Cond.code yX6_sumOf mX6_sumOf.2.1 mX6_sumOf.2.2.1 mX6_sumOf.2.2.2.1 ∈ gw_s ∧ Cond.initialized yX6_sumOf.cls ∈ gw_s ∧ (yX6_sumOf.cls ≠ "java/lang/invoke/MethodHandle" ∧ yX6_sumOf.cls ≠ "java/lang/invoke/VarHandle") ∧ (parseMethodDescriptor yX6_sumOf.desc).map (fun d => d.parameters.length) = some 2 ∧ mX6_sumOf.2.2.1 ≤ 19 := ⟨gw_i3 218 rfl rfl, gw_i1 11 rfl rfl, ⟨by decide +kernel, by decide +kernel⟩, by decide +kernel, by decide⟩
abbrev mX6_fewestPayments : My := (RX6, cX6_fewestPayments, 5, some .int, "fewestPayments")
theorem cw_X6_fewestPayments : Cond.code yX6_fewestPayments mX6_fewestPayments.2.1 mX6_fewestPayments.2.2.1 mX6_fewestPayments.2.2.2.1 ∈ gw_s ∧ Cond.initialized yX6_fewestPayments.cls ∈ gw_s ∧ (yX6_fewestPayments.cls ≠ "java/lang/invoke/MethodHandle" ∧ yX6_fewestPayments.cls ≠ "java/lang/invoke/VarHandle") ∧ (parseMethodDescriptor yX6_fewestPayments.desc).map (fun d => d.parameters.length) = some 1 ∧ mX6_fewestPayments.2.2.1 ≤ 19 := ⟨gw_i3 213 rfl rfl, gw_i1 11 rfl rfl, ⟨by decide +kernel, by decide +kernel⟩, by decide +kernel, by decide⟩
abbrev mX11_isWithin : My := (RX11, cX11_isWithin, 3, some .boolean, "isWithin")
theorem cw_X11_isWithin : Cond.code yX11_isWithin mX11_isWithin.2.1 mX11_isWithin.2.2.1 mX11_isWithin.2.2.2.1 ∈ gw_s ∧ Cond.initialized yX11_isWithin.cls ∈ gw_s ∧ (yX11_isWithin.cls ≠ "java/lang/invoke/MethodHandle" ∧ yX11_isWithin.cls ≠ "java/lang/invoke/VarHandle") ∧ (parseMethodDescriptor yX11_isWithin.desc).map (fun d => d.parameters.length) = some 3 ∧ mX11_isWithin.2.2.1 ≤ 19 := ⟨gw_i2 91 rfl rfl, gw_i1 1 rfl rfl, ⟨by decide +kernel, by decide +kernel⟩, by decide +kernel, by decide⟩
abbrev mX6_nextOf : My := (RX6, cX6_nextOf, 4, some .int, "nextOf")
theorem cw_X6_nextOf : Cond.code yX6_nextOf mX6_nextOf.2.1 mX6_nextOf.2.2.1 mX6_nextOf.2.2.2.1 ∈ gw_s ∧ Cond.initialized yX6_nextOf.cls ∈ gw_s ∧ (yX6_nextOf.cls ≠ "java/lang/invoke/MethodHandle" ∧ yX6_nextOf.cls ≠ "java/lang/invoke/VarHandle") ∧ (parseMethodDescriptor yX6_nextOf.desc).map (fun d => d.parameters.length) = some 1 ∧ mX6_nextOf.2.2.1 ≤ 19 := ⟨gw_i3 236 rfl rfl, gw_i1 11 rfl rfl, ⟨by decide +kernel, by decide +kernel⟩, by decide +kernel, by decide⟩
abbrev mX6_ringThrough : My := (RX6, cX6_ringThrough, 4, some .int, "ringThrough")
theorem cw_X6_ringThrough : Cond.code yX6_ringThrough mX6_ringThrough.2.1 mX6_ringThrough.2.2.1 mX6_ringThrough.2.2.2.1 ∈ gw_s ∧ Cond.initialized yX6_ringThrough.cls ∈ gw_s ∧ (yX6_ringThrough.cls ≠ "java/lang/invoke/MethodHandle" ∧ yX6_ringThrough.cls ≠ "java/lang/invoke/VarHandle") ∧ (parseMethodDescriptor yX6_ringThrough.desc).map (fun d => d.parameters.length) = some 1 ∧ mX6_ringThrough.2.2.1 ≤ 19 := ⟨gw_i3 232 rfl rfl, gw_i1 11 rfl rfl, ⟨by decide +kernel, by decide +kernel⟩, by decide +kernel, by decide⟩
abbrev mX6_shortestRing : My := (RX6, cX6_shortestRing, 4, some .int, "shortestRing")
theorem cw_X6_shortestRing : Cond.code yX6_shortestRing mX6_shortestRing.2.1 mX6_shortestRing.2.2.1 mX6_shortestRing.2.2.2.1 ∈ gw_s ∧ Cond.initialized yX6_shortestRing.cls ∈ gw_s ∧ (yX6_shortestRing.cls ≠ "java/lang/invoke/MethodHandle" ∧ yX6_shortestRing.cls ≠ "java/lang/invoke/VarHandle") ∧ (parseMethodDescriptor yX6_shortestRing.desc).map (fun d => d.parameters.length) = some 1 ∧ mX6_shortestRing.2.2.1 ≤ 19 := ⟨gw_i3 226 rfl rfl, gw_i1 11 rfl rfl, ⟨by decide +kernel, by decide +kernel⟩, by decide +kernel, by decide⟩
abbrev mX7_init : My := (RX7, cX7_init, 1, none, "<init>")
theorem cw_X7_init : Cond.code yX7_init mX7_init.2.1 mX7_init.2.2.1 mX7_init.2.2.2.1 ∈ gw_s ∧ Cond.initialized yX7_init.cls ∈ gw_s ∧ (yX7_init.cls ≠ "java/lang/invoke/MethodHandle" ∧ yX7_init.cls ≠ "java/lang/invoke/VarHandle") ∧ (parseMethodDescriptor yX7_init.desc).map (fun d => d.parameters.length) = some 0 ∧ mX7_init.2.2.1 ≤ 19 := ⟨gw_i1 30 rfl rfl, gw_i1 2 rfl rfl, ⟨by decide +kernel, by decide +kernel⟩, by decide +kernel, by decide⟩
abbrev mX7_add : My := (RX7, cX7_add, 2, none, "add")
theorem cw_X7_add : Cond.code yX7_add mX7_add.2.1 mX7_add.2.2.1 mX7_add.2.2.2.1 ∈ gw_s ∧ Cond.initialized yX7_add.cls ∈ gw_s ∧ (yX7_add.cls ≠ "java/lang/invoke/MethodHandle" ∧ yX7_add.cls ≠ "java/lang/invoke/VarHandle") ∧ (parseMethodDescriptor yX7_add.desc).map (fun d => d.parameters.length) = some 1 ∧ mX7_add.2.2.1 ≤ 19 := ⟨gw_i2 174 rfl rfl, gw_i1 2 rfl rfl, ⟨by decide +kernel, by decide +kernel⟩, by decide +kernel, by decide⟩
abbrev mX7_signAt : My := (RX7, cX7_signAt, 2, some .int, "signAt")
theorem cw_X7_signAt : Cond.code yX7_signAt mX7_signAt.2.1 mX7_signAt.2.2.1 mX7_signAt.2.2.2.1 ∈ gw_s ∧ Cond.initialized yX7_signAt.cls ∈ gw_s ∧ (yX7_signAt.cls ≠ "java/lang/invoke/MethodHandle" ∧ yX7_signAt.cls ≠ "java/lang/invoke/VarHandle") ∧ (parseMethodDescriptor yX7_signAt.desc).map (fun d => d.parameters.length) = some 1 ∧ mX7_signAt.2.2.1 ≤ 19 := ⟨gw_i2 194 rfl rfl, gw_i1 2 rfl rfl, ⟨by decide +kernel, by decide +kernel⟩, by decide +kernel, by decide⟩
abbrev mX7_numberAt : My := (RX7, cX7_numberAt, 2, some .int, "numberAt")
theorem cw_X7_numberAt : Cond.code yX7_numberAt mX7_numberAt.2.1 mX7_numberAt.2.2.1 mX7_numberAt.2.2.2.1 ∈ gw_s ∧ Cond.initialized yX7_numberAt.cls ∈ gw_s ∧ (yX7_numberAt.cls ≠ "java/lang/invoke/MethodHandle" ∧ yX7_numberAt.cls ≠ "java/lang/invoke/VarHandle") ∧ (parseMethodDescriptor yX7_numberAt.desc).map (fun d => d.parameters.length) = some 1 ∧ mX7_numberAt.2.2.1 ≤ 19 := ⟨gw_i2 209 rfl rfl, gw_i1 2 rfl rfl, ⟨by decide +kernel, by decide +kernel⟩, by decide +kernel, by decide⟩
abbrev mX7_daysOf : My := (RX7, cX7_daysOf, 1, some .int, "daysOf")
theorem cw_X7_daysOf : Cond.code yX7_daysOf mX7_daysOf.2.1 mX7_daysOf.2.2.1 mX7_daysOf.2.2.2.1 ∈ gw_s ∧ Cond.initialized yX7_daysOf.cls ∈ gw_s ∧ (yX7_daysOf.cls ≠ "java/lang/invoke/MethodHandle" ∧ yX7_daysOf.cls ≠ "java/lang/invoke/VarHandle") ∧ (parseMethodDescriptor yX7_daysOf.desc).map (fun d => d.parameters.length) = some 1 ∧ mX7_daysOf.2.2.1 ≤ 19 := ⟨gw_i2 197 rfl rfl, gw_i1 2 rfl rfl, ⟨by decide +kernel, by decide +kernel⟩, by decide +kernel, by decide⟩
abbrev mX7_isLetter : My := (RX7, cX7_isLetter, 1, some .boolean, "isLetter")
theorem cw_X7_isLetter : Cond.code yX7_isLetter mX7_isLetter.2.1 mX7_isLetter.2.2.1 mX7_isLetter.2.2.2.1 ∈ gw_s ∧ Cond.initialized yX7_isLetter.cls ∈ gw_s ∧ (yX7_isLetter.cls ≠ "java/lang/invoke/MethodHandle" ∧ yX7_isLetter.cls ≠ "java/lang/invoke/VarHandle") ∧ (parseMethodDescriptor yX7_isLetter.desc).map (fun d => d.parameters.length) = some 1 ∧ mX7_isLetter.2.2.1 ≤ 19 := ⟨gw_i2 200 rfl rfl, gw_i1 2 rfl rfl, ⟨by decide +kernel, by decide +kernel⟩, by decide +kernel, by decide⟩
abbrev mX7_countGoodDigits : My := (RX7, cX7_countGoodDigits, 3, some .int, "countGoodDigits")
theorem cw_X7_countGoodDigits : Cond.code yX7_countGoodDigits mX7_countGoodDigits.2.1 mX7_countGoodDigits.2.2.1 mX7_countGoodDigits.2.2.2.1 ∈ gw_s ∧ Cond.initialized yX7_countGoodDigits.cls ∈ gw_s ∧ (yX7_countGoodDigits.cls ≠ "java/lang/invoke/MethodHandle" ∧ yX7_countGoodDigits.cls ≠ "java/lang/invoke/VarHandle") ∧ (parseMethodDescriptor yX7_countGoodDigits.desc).map (fun d => d.parameters.length) = some 1 ∧ mX7_countGoodDigits.2.2.1 ≤ 19 := ⟨gw_i2 204 rfl rfl, gw_i1 2 rfl rfl, ⟨by decide +kernel, by decide +kernel⟩, by decide +kernel, by decide⟩
abbrev mX7_countGood : My := (RX7, cX7_countGood, 5, some .int, "countGood")
theorem cw_X7_countGood : Cond.code yX7_countGood mX7_countGood.2.1 mX7_countGood.2.2.1 mX7_countGood.2.2.2.1 ∈ gw_s ∧ Cond.initialized yX7_countGood.cls ∈ gw_s ∧ (yX7_countGood.cls ≠ "java/lang/invoke/MethodHandle" ∧ yX7_countGood.cls ≠ "java/lang/invoke/VarHandle") ∧ (parseMethodDescriptor yX7_countGood.desc).map (fun d => d.parameters.length) = some 2 ∧ mX7_countGood.2.2.1 ≤ 19 := ⟨gw_i2 190 rfl rfl, gw_i1 2 rfl rfl, ⟨by decide +kernel, by decide +kernel⟩, by decide +kernel, by decide⟩
abbrev mX7_signsOfAct : My := (RX7, cX7_signsOfAct, 2, some .int, "signsOfAct")
theorem cw_X7_signsOfAct : Cond.code yX7_signsOfAct mX7_signsOfAct.2.1 mX7_signsOfAct.2.2.1 mX7_signsOfAct.2.2.2.1 ∈ gw_s ∧ Cond.initialized yX7_signsOfAct.cls ∈ gw_s ∧ (yX7_signsOfAct.cls ≠ "java/lang/invoke/MethodHandle" ∧ yX7_signsOfAct.cls ≠ "java/lang/invoke/VarHandle") ∧ (parseMethodDescriptor yX7_signsOfAct.desc).map (fun d => d.parameters.length) = some 1 ∧ mX7_signsOfAct.2.2.1 ≤ 19 := ⟨gw_i2 213 rfl rfl, gw_i1 2 rfl rfl, ⟨by decide +kernel, by decide +kernel⟩, by decide +kernel, by decide⟩
abbrev mX7_findFault : My := (RX7, cX7_findFault, 6, some .int, "findFault")
theorem cw_X7_findFault : Cond.code yX7_findFault mX7_findFault.2.1 mX7_findFault.2.2.1 mX7_findFault.2.2.2.1 ∈ gw_s ∧ Cond.initialized yX7_findFault.cls ∈ gw_s ∧ (yX7_findFault.cls ≠ "java/lang/invoke/MethodHandle" ∧ yX7_findFault.cls ≠ "java/lang/invoke/VarHandle") ∧ (parseMethodDescriptor yX7_findFault.desc).map (fun d => d.parameters.length) = some 1 ∧ mX7_findFault.2.2.1 ≤ 19 := ⟨gw_i2 186 rfl rfl, gw_i1 2 rfl rfl, ⟨by decide +kernel, by decide +kernel⟩, by decide +kernel, by decide⟩
abbrev mX8_init : My := (RX8, cX8_init, 1, none, "<init>")
theorem cw_X8_init : Cond.code yX8_init mX8_init.2.1 mX8_init.2.2.1 mX8_init.2.2.2.1 ∈ gw_s ∧ Cond.initialized yX8_init.cls ∈ gw_s ∧ (yX8_init.cls ≠ "java/lang/invoke/MethodHandle" ∧ yX8_init.cls ≠ "java/lang/invoke/VarHandle") ∧ (parseMethodDescriptor yX8_init.desc).map (fun d => d.parameters.length) = some 0 ∧ mX8_init.2.2.1 ≤ 19 := ⟨gw_i2 45 rfl rfl, gw_i1 12 rfl rfl, ⟨by decide +kernel, by decide +kernel⟩, by decide +kernel, by decide⟩
abbrev mX8_addStriker : My := (RX8, cX8_addStriker, 8, none, "addStriker")
theorem cw_X8_addStriker : Cond.code yX8_addStriker mX8_addStriker.2.1 mX8_addStriker.2.2.1 mX8_addStriker.2.2.2.1 ∈ gw_s ∧ Cond.initialized yX8_addStriker.cls ∈ gw_s ∧ (yX8_addStriker.cls ≠ "java/lang/invoke/MethodHandle" ∧ yX8_addStriker.cls ≠ "java/lang/invoke/VarHandle") ∧ (parseMethodDescriptor yX8_addStriker.desc).map (fun d => d.parameters.length) = some 2 ∧ mX8_addStriker.2.2.1 ≤ 19 := ⟨gw_i4 69 rfl rfl, gw_i1 12 rfl rfl, ⟨by decide +kernel, by decide +kernel⟩, by decide +kernel, by decide⟩
abbrev mX8_fit : My := (RX8, cX8_fit, 3, none, "fit")
theorem cw_X8_fit : Cond.code yX8_fit mX8_fit.2.1 mX8_fit.2.2.1 mX8_fit.2.2.2.1 ∈ gw_s ∧ Cond.initialized yX8_fit.cls ∈ gw_s ∧ (yX8_fit.cls ≠ "java/lang/invoke/MethodHandle" ∧ yX8_fit.cls ≠ "java/lang/invoke/VarHandle") ∧ (parseMethodDescriptor yX8_fit.desc).map (fun d => d.parameters.length) = some 1 ∧ mX8_fit.2.2.1 ≤ 19 := ⟨gw_i4 64 rfl rfl, gw_i1 12 rfl rfl, ⟨by decide +kernel, by decide +kernel⟩, by decide +kernel, by decide⟩
abbrev mX9_add : My := (RX9, cX9_add, 3, none, "add")
theorem cw_X9_add : Cond.code yX9_add mX9_add.2.1 mX9_add.2.2.1 mX9_add.2.2.2.1 ∈ gw_s ∧ Cond.initialized yX9_add.cls ∈ gw_s ∧ (yX9_add.cls ≠ "java/lang/invoke/MethodHandle" ∧ yX9_add.cls ≠ "java/lang/invoke/VarHandle") ∧ (parseMethodDescriptor yX9_add.desc).map (fun d => d.parameters.length) = some 2 ∧ mX9_add.2.2.1 ≤ 19 := ⟨gw_i4 52 rfl rfl, gw_i1 7 rfl rfl, ⟨by decide +kernel, by decide +kernel⟩, by decide +kernel, by decide⟩
abbrev mX10_init : My := (RX10, cX10_init, 1, none, "<init>")
theorem cw_X10_init : Cond.code yX10_init mX10_init.2.1 mX10_init.2.2.1 mX10_init.2.2.2.1 ∈ gw_s ∧ Cond.initialized yX10_init.cls ∈ gw_s ∧ (yX10_init.cls ≠ "java/lang/invoke/MethodHandle" ∧ yX10_init.cls ≠ "java/lang/invoke/VarHandle") ∧ (parseMethodDescriptor yX10_init.desc).map (fun d => d.parameters.length) = some 0 ∧ mX10_init.2.2.1 ≤ 19 := ⟨gw_i1 227 rfl rfl, gw_i1 9 rfl rfl, ⟨by decide +kernel, by decide +kernel⟩, by decide +kernel, by decide⟩
abbrev mX10_tryAct : My := (RX10, cX10_tryAct, 6, some .int, "tryAct")
theorem cw_X10_tryAct : Cond.code yX10_tryAct mX10_tryAct.2.1 mX10_tryAct.2.2.1 mX10_tryAct.2.2.2.1 ∈ gw_s ∧ Cond.initialized yX10_tryAct.cls ∈ gw_s ∧ (yX10_tryAct.cls ≠ "java/lang/invoke/MethodHandle" ∧ yX10_tryAct.cls ≠ "java/lang/invoke/VarHandle") ∧ (parseMethodDescriptor yX10_tryAct.desc).map (fun d => d.parameters.length) = some 2 ∧ mX10_tryAct.2.2.1 ≤ 19 := ⟨gw_i3 14 rfl rfl, gw_i1 9 rfl rfl, ⟨by decide +kernel, by decide +kernel⟩, by decide +kernel, by decide⟩
abbrev mX10_hear : My := (RX10, cX10_hear, 5, some .boolean, "hear")
theorem cw_X10_hear : Cond.code yX10_hear mX10_hear.2.1 mX10_hear.2.2.1 mX10_hear.2.2.2.1 ∈ gw_s ∧ Cond.initialized yX10_hear.cls ∈ gw_s ∧ (yX10_hear.cls ≠ "java/lang/invoke/MethodHandle" ∧ yX10_hear.cls ≠ "java/lang/invoke/VarHandle") ∧ (parseMethodDescriptor yX10_hear.desc).map (fun d => d.parameters.length) = some 2 ∧ mX10_hear.2.2.1 ≤ 19 := ⟨gw_i2 222 rfl rfl, gw_i1 9 rfl rfl, ⟨by decide +kernel, by decide +kernel⟩, by decide +kernel, by decide⟩
abbrev mX10_draw : My := (RX10, cX10_draw, 7, none, "draw")
theorem cw_X10_draw : Cond.code yX10_draw mX10_draw.2.1 mX10_draw.2.2.1 mX10_draw.2.2.2.1 ∈ gw_s ∧ Cond.initialized yX10_draw.cls ∈ gw_s ∧ (yX10_draw.cls ≠ "java/lang/invoke/MethodHandle" ∧ yX10_draw.cls ≠ "java/lang/invoke/VarHandle") ∧ (parseMethodDescriptor yX10_draw.desc).map (fun d => d.parameters.length) = some 3 ∧ mX10_draw.2.2.1 ≤ 19 := ⟨gw_i4 86 rfl rfl, gw_i1 9 rfl rfl, ⟨by decide +kernel, by decide +kernel⟩, by decide +kernel, by decide⟩
abbrev mX11_init : My := (RX11, cX11_init, 1, none, "<init>")
theorem cw_X11_init : Cond.code yX11_init mX11_init.2.1 mX11_init.2.2.1 mX11_init.2.2.2.1 ∈ gw_s ∧ Cond.initialized yX11_init.cls ∈ gw_s ∧ (yX11_init.cls ≠ "java/lang/invoke/MethodHandle" ∧ yX11_init.cls ≠ "java/lang/invoke/VarHandle") ∧ (parseMethodDescriptor yX11_init.desc).map (fun d => d.parameters.length) = some 0 ∧ mX11_init.2.2.1 ≤ 19 := ⟨gw_i1 22 rfl rfl, gw_i1 1 rfl rfl, ⟨by decide +kernel, by decide +kernel⟩, by decide +kernel, by decide⟩
abbrev mX11_chapels : My := (RX11, cX11_chapels, 3, some .int, "chapels")
theorem cw_X11_chapels : Cond.code yX11_chapels mX11_chapels.2.1 mX11_chapels.2.2.1 mX11_chapels.2.2.2.1 ∈ gw_s ∧ Cond.initialized yX11_chapels.cls ∈ gw_s ∧ (yX11_chapels.cls ≠ "java/lang/invoke/MethodHandle" ∧ yX11_chapels.cls ≠ "java/lang/invoke/VarHandle") ∧ (parseMethodDescriptor yX11_chapels.desc).map (fun d => d.parameters.length) = some 1 ∧ mX11_chapels.2.2.1 ≤ 19 := ⟨gw_i2 88 rfl rfl, gw_i1 1 rfl rfl, ⟨by decide +kernel, by decide +kernel⟩, by decide +kernel, by decide⟩
abbrev mX11_road : My := (RX11, cX11_road, 5, some .int, "road")
theorem cw_X11_road : Cond.code yX11_road mX11_road.2.1 mX11_road.2.2.1 mX11_road.2.2.2.1 ∈ gw_s ∧ Cond.initialized yX11_road.cls ∈ gw_s ∧ (yX11_road.cls ≠ "java/lang/invoke/MethodHandle" ∧ yX11_road.cls ≠ "java/lang/invoke/VarHandle") ∧ (parseMethodDescriptor yX11_road.desc).map (fun d => d.parameters.length) = some 3 ∧ mX11_road.2.2.1 ≤ 19 := ⟨gw_i2 106 rfl rfl, gw_i1 1 rfl rfl, ⟨by decide +kernel, by decide +kernel⟩, by decide +kernel, by decide⟩
abbrev mX11_yearOf : My := (RX11, cX11_yearOf, 3, some .int, "yearOf")
theorem cw_X11_yearOf : Cond.code yX11_yearOf mX11_yearOf.2.1 mX11_yearOf.2.2.1 mX11_yearOf.2.2.2.1 ∈ gw_s ∧ Cond.initialized yX11_yearOf.cls ∈ gw_s ∧ (yX11_yearOf.cls ≠ "java/lang/invoke/MethodHandle" ∧ yX11_yearOf.cls ≠ "java/lang/invoke/VarHandle") ∧ (parseMethodDescriptor yX11_yearOf.desc).map (fun d => d.parameters.length) = some 1 ∧ mX11_yearOf.2.2.1 ≤ 19 := ⟨gw_i2 123 rfl rfl, gw_i1 1 rfl rfl, ⟨by decide +kernel, by decide +kernel⟩, by decide +kernel, by decide⟩
abbrev mX11_knight : My := (RX11, cX11_knight, 7, some .int, "knight")
theorem cw_X11_knight : Cond.code yX11_knight mX11_knight.2.1 mX11_knight.2.2.1 mX11_knight.2.2.2.1 ∈ gw_s ∧ Cond.initialized yX11_knight.cls ∈ gw_s ∧ (yX11_knight.cls ≠ "java/lang/invoke/MethodHandle" ∧ yX11_knight.cls ≠ "java/lang/invoke/VarHandle") ∧ (parseMethodDescriptor yX11_knight.desc).map (fun d => d.parameters.length) = some 5 ∧ mX11_knight.2.2.1 ≤ 19 := ⟨gw_i2 127 rfl rfl, gw_i1 1 rfl rfl, ⟨by decide +kernel, by decide +kernel⟩, by decide +kernel, by decide⟩
abbrev mX11_heir : My := (RX11, cX11_heir, 3, some .int, "heir")
theorem cw_X11_heir : Cond.code yX11_heir mX11_heir.2.1 mX11_heir.2.2.1 mX11_heir.2.2.2.1 ∈ gw_s ∧ Cond.initialized yX11_heir.cls ∈ gw_s ∧ (yX11_heir.cls ≠ "java/lang/invoke/MethodHandle" ∧ yX11_heir.cls ≠ "java/lang/invoke/VarHandle") ∧ (parseMethodDescriptor yX11_heir.desc).map (fun d => d.parameters.length) = some 2 ∧ mX11_heir.2.2.1 ≤ 19 := ⟨gw_i2 153 rfl rfl, gw_i1 1 rfl rfl, ⟨by decide +kernel, by decide +kernel⟩, by decide +kernel, by decide⟩
abbrev mX11_say : My := (RX11, cX11_say, 2, some .int, "say")
theorem cw_X11_say : Cond.code yX11_say mX11_say.2.1 mX11_say.2.2.1 mX11_say.2.2.2.1 ∈ gw_s ∧ Cond.initialized yX11_say.cls ∈ gw_s ∧ (yX11_say.cls ≠ "java/lang/invoke/MethodHandle" ∧ yX11_say.cls ≠ "java/lang/invoke/VarHandle") ∧ (parseMethodDescriptor yX11_say.desc).map (fun d => d.parameters.length) = some 1 ∧ mX11_say.2.2.1 ≤ 19 := ⟨gw_i2 170 rfl rfl, gw_i1 1 rfl rfl, ⟨by decide +kernel, by decide +kernel⟩, by decide +kernel, by decide⟩
abbrev mX11_wipe : My := (RX11, cX11_wipe, 2, some .int, "wipe")
theorem cw_X11_wipe : Cond.code yX11_wipe mX11_wipe.2.1 mX11_wipe.2.2.1 mX11_wipe.2.2.2.1 ∈ gw_s ∧ Cond.initialized yX11_wipe.cls ∈ gw_s ∧ (yX11_wipe.cls ≠ "java/lang/invoke/MethodHandle" ∧ yX11_wipe.cls ≠ "java/lang/invoke/VarHandle") ∧ (parseMethodDescriptor yX11_wipe.desc).map (fun d => d.parameters.length) = some 0 ∧ mX11_wipe.2.2.1 ≤ 19 := ⟨gw_i2 178 rfl rfl, gw_i1 1 rfl rfl, ⟨by decide +kernel, by decide +kernel⟩, by decide +kernel, by decide⟩
abbrev mX11_fault : My := (RX11, cX11_fault, 1, some .int, "fault")
theorem cw_X11_fault : Cond.code yX11_fault mX11_fault.2.1 mX11_fault.2.2.1 mX11_fault.2.2.2.1 ∈ gw_s ∧ Cond.initialized yX11_fault.cls ∈ gw_s ∧ (yX11_fault.cls ≠ "java/lang/invoke/MethodHandle" ∧ yX11_fault.cls ≠ "java/lang/invoke/VarHandle") ∧ (parseMethodDescriptor yX11_fault.desc).map (fun d => d.parameters.length) = some 0 ∧ mX11_fault.2.2.1 ≤ 19 := ⟨gw_i2 182 rfl rfl, gw_i1 1 rfl rfl, ⟨by decide +kernel, by decide +kernel⟩, by decide +kernel, by decide⟩
abbrev mX11_judge : My := (RX11, cX11_judge, 2, some .int, "judge")
theorem cw_X11_judge : Cond.code yX11_judge mX11_judge.2.1 mX11_judge.2.2.1 mX11_judge.2.2.2.1 ∈ gw_s ∧ Cond.initialized yX11_judge.cls ∈ gw_s ∧ (yX11_judge.cls ≠ "java/lang/invoke/MethodHandle" ∧ yX11_judge.cls ≠ "java/lang/invoke/VarHandle") ∧ (parseMethodDescriptor yX11_judge.desc).map (fun d => d.parameters.length) = some 1 ∧ mX11_judge.2.2.1 ≤ 19 := ⟨gw_i2 217 rfl rfl, gw_i1 1 rfl rfl, ⟨by decide +kernel, by decide +kernel⟩, by decide +kernel, by decide⟩
abbrev mX11_done : My := (RX11, cX11_done, 1, some .int, "done")
theorem cw_X11_done : Cond.code yX11_done mX11_done.2.1 mX11_done.2.2.1 mX11_done.2.2.2.1 ∈ gw_s ∧ Cond.initialized yX11_done.cls ∈ gw_s ∧ (yX11_done.cls ≠ "java/lang/invoke/MethodHandle" ∧ yX11_done.cls ≠ "java/lang/invoke/VarHandle") ∧ (parseMethodDescriptor yX11_done.desc).map (fun d => d.parameters.length) = some 0 ∧ mX11_done.2.2.1 ≤ 19 := ⟨gw_i3 104 rfl rfl, gw_i1 1 rfl rfl, ⟨by decide +kernel, by decide +kernel⟩, by decide +kernel, by decide⟩
abbrev mX11_state : My := (RX11, cX11_state, 3, some .int, "state")
theorem cw_X11_state : Cond.code yX11_state mX11_state.2.1 mX11_state.2.2.1 mX11_state.2.2.2.1 ∈ gw_s ∧ Cond.initialized yX11_state.cls ∈ gw_s ∧ (yX11_state.cls ≠ "java/lang/invoke/MethodHandle" ∧ yX11_state.cls ≠ "java/lang/invoke/VarHandle") ∧ (parseMethodDescriptor yX11_state.desc).map (fun d => d.parameters.length) = some 2 ∧ mX11_state.2.2.1 ≤ 19 := ⟨gw_i3 109 rfl rfl, gw_i1 1 rfl rfl, ⟨by decide +kernel, by decide +kernel⟩, by decide +kernel, by decide⟩
abbrev mX11_behind : My := (RX11, cX11_behind, 3, some .int, "behind")
theorem cw_X11_behind : Cond.code yX11_behind mX11_behind.2.1 mX11_behind.2.2.1 mX11_behind.2.2.2.1 ∈ gw_s ∧ Cond.initialized yX11_behind.cls ∈ gw_s ∧ (yX11_behind.cls ≠ "java/lang/invoke/MethodHandle" ∧ yX11_behind.cls ≠ "java/lang/invoke/VarHandle") ∧ (parseMethodDescriptor yX11_behind.desc).map (fun d => d.parameters.length) = some 2 ∧ mX11_behind.2.2.1 ≤ 19 := ⟨gw_i3 118 rfl rfl, gw_i1 1 rfl rfl, ⟨by decide +kernel, by decide +kernel⟩, by decide +kernel, by decide⟩
abbrev mX11_debt : My := (RX11, cX11_debt, 3, some .int, "debt")
theorem cw_X11_debt : Cond.code yX11_debt mX11_debt.2.1 mX11_debt.2.2.1 mX11_debt.2.2.2.1 ∈ gw_s ∧ Cond.initialized yX11_debt.cls ∈ gw_s ∧ (yX11_debt.cls ≠ "java/lang/invoke/MethodHandle" ∧ yX11_debt.cls ≠ "java/lang/invoke/VarHandle") ∧ (parseMethodDescriptor yX11_debt.desc).map (fun d => d.parameters.length) = some 2 ∧ mX11_debt.2.2.1 ≤ 19 := ⟨gw_i3 122 rfl rfl, gw_i1 1 rfl rfl, ⟨by decide +kernel, by decide +kernel⟩, by decide +kernel, by decide⟩
abbrev mX11_when : My := (RX11, cX11_when, 4, some .int, "when")
theorem cw_X11_when : Cond.code yX11_when mX11_when.2.1 mX11_when.2.2.1 mX11_when.2.2.2.1 ∈ gw_s ∧ Cond.initialized yX11_when.cls ∈ gw_s ∧ (yX11_when.cls ≠ "java/lang/invoke/MethodHandle" ∧ yX11_when.cls ≠ "java/lang/invoke/VarHandle") ∧ (parseMethodDescriptor yX11_when.desc).map (fun d => d.parameters.length) = some 2 ∧ mX11_when.2.2.1 ≤ 19 := ⟨gw_i3 131 rfl rfl, gw_i1 1 rfl rfl, ⟨by decide +kernel, by decide +kernel⟩, by decide +kernel, by decide⟩
abbrev mX11_inTime : My := (RX11, cX11_inTime, 2, some .int, "inTime")
theorem cw_X11_inTime : Cond.code yX11_inTime mX11_inTime.2.1 mX11_inTime.2.2.1 mX11_inTime.2.2.2.1 ∈ gw_s ∧ Cond.initialized yX11_inTime.cls ∈ gw_s ∧ (yX11_inTime.cls ≠ "java/lang/invoke/MethodHandle" ∧ yX11_inTime.cls ≠ "java/lang/invoke/VarHandle") ∧ (parseMethodDescriptor yX11_inTime.desc).map (fun d => d.parameters.length) = some 1 ∧ mX11_inTime.2.2.1 ≤ 19 := ⟨gw_i3 160 rfl rfl, gw_i1 1 rfl rfl, ⟨by decide +kernel, by decide +kernel⟩, by decide +kernel, by decide⟩
abbrev mX11_round : My := (RX11, cX11_round, 3, some .int, "round")
theorem cw_X11_round : Cond.code yX11_round mX11_round.2.1 mX11_round.2.2.1 mX11_round.2.2.2.1 ∈ gw_s ∧ Cond.initialized yX11_round.cls ∈ gw_s ∧ (yX11_round.cls ≠ "java/lang/invoke/MethodHandle" ∧ yX11_round.cls ≠ "java/lang/invoke/VarHandle") ∧ (parseMethodDescriptor yX11_round.desc).map (fun d => d.parameters.length) = some 2 ∧ mX11_round.2.2.1 ≤ 19 := ⟨gw_i3 172 rfl rfl, gw_i1 1 rfl rfl, ⟨by decide +kernel, by decide +kernel⟩, by decide +kernel, by decide⟩
abbrev mX11_gainOf : My := (RX11, cX11_gainOf, 8, some .int, "gainOf")
theorem cw_X11_gainOf : Cond.code yX11_gainOf mX11_gainOf.2.1 mX11_gainOf.2.2.1 mX11_gainOf.2.2.2.1 ∈ gw_s ∧ Cond.initialized yX11_gainOf.cls ∈ gw_s ∧ (yX11_gainOf.cls ≠ "java/lang/invoke/MethodHandle" ∧ yX11_gainOf.cls ≠ "java/lang/invoke/VarHandle") ∧ (parseMethodDescriptor yX11_gainOf.desc).map (fun d => d.parameters.length) = some 5 ∧ mX11_gainOf.2.2.1 ≤ 19 := ⟨gw_i3 204 rfl rfl, gw_i1 1 rfl rfl, ⟨by decide +kernel, by decide +kernel⟩, by decide +kernel, by decide⟩
abbrev mX11_bestBlow : My := (RX11, cX11_bestBlow, 6, some .int, "bestBlow")
theorem cw_X11_bestBlow : Cond.code yX11_bestBlow mX11_bestBlow.2.1 mX11_bestBlow.2.2.1 mX11_bestBlow.2.2.2.1 ∈ gw_s ∧ Cond.initialized yX11_bestBlow.cls ∈ gw_s ∧ (yX11_bestBlow.cls ≠ "java/lang/invoke/MethodHandle" ∧ yX11_bestBlow.cls ≠ "java/lang/invoke/VarHandle") ∧ (parseMethodDescriptor yX11_bestBlow.desc).map (fun d => d.parameters.length) = some 4 ∧ mX11_bestBlow.2.2.1 ≤ 19 := ⟨gw_i3 201 rfl rfl, gw_i1 1 rfl rfl, ⟨by decide +kernel, by decide +kernel⟩, by decide +kernel, by decide⟩
abbrev mX11_hard : My := (RX11, cX11_hard, 9, some .int, "hard")
theorem cw_X11_hard : Cond.code yX11_hard mX11_hard.2.1 mX11_hard.2.2.1 mX11_hard.2.2.2.1 ∈ gw_s ∧ Cond.initialized yX11_hard.cls ∈ gw_s ∧ (yX11_hard.cls ≠ "java/lang/invoke/MethodHandle" ∧ yX11_hard.cls ≠ "java/lang/invoke/VarHandle") ∧ (parseMethodDescriptor yX11_hard.desc).map (fun d => d.parameters.length) = some 5 ∧ mX11_hard.2.2.1 ≤ 19 := ⟨gw_i3 198 rfl rfl, gw_i1 1 rfl rfl, ⟨by decide +kernel, by decide +kernel⟩, by decide +kernel, by decide⟩
abbrev mX11_settled : My := (RX11, cX11_settled, 1, some .int, "settled")
theorem cw_X11_settled : Cond.code yX11_settled mX11_settled.2.1 mX11_settled.2.2.1 mX11_settled.2.2.2.1 ∈ gw_s ∧ Cond.initialized yX11_settled.cls ∈ gw_s ∧ (yX11_settled.cls ≠ "java/lang/invoke/MethodHandle" ∧ yX11_settled.cls ≠ "java/lang/invoke/VarHandle") ∧ (parseMethodDescriptor yX11_settled.desc).map (fun d => d.parameters.length) = some 0 ∧ mX11_settled.2.2.1 ≤ 19 := ⟨gw_i3 209 rfl rfl, gw_i1 1 rfl rfl, ⟨by decide +kernel, by decide +kernel⟩, by decide +kernel, by decide⟩
abbrev mX11_ring : My := (RX11, cX11_ring, 1, some .int, "ring")
theorem cw_X11_ring : Cond.code yX11_ring mX11_ring.2.1 mX11_ring.2.2.1 mX11_ring.2.2.2.1 ∈ gw_s ∧ Cond.initialized yX11_ring.cls ∈ gw_s ∧ (yX11_ring.cls ≠ "java/lang/invoke/MethodHandle" ∧ yX11_ring.cls ≠ "java/lang/invoke/VarHandle") ∧ (parseMethodDescriptor yX11_ring.desc).map (fun d => d.parameters.length) = some 0 ∧ mX11_ring.2.2.1 ≤ 19 := ⟨gw_i3 222 rfl rfl, gw_i1 1 rfl rfl, ⟨by decide +kernel, by decide +kernel⟩, by decide +kernel, by decide⟩
abbrev mX11_cut : My := (RX11, cX11_cut, 2, some .int, "cut")
theorem cw_X11_cut : Cond.code yX11_cut mX11_cut.2.1 mX11_cut.2.2.1 mX11_cut.2.2.2.1 ∈ gw_s ∧ Cond.initialized yX11_cut.cls ∈ gw_s ∧ (yX11_cut.cls ≠ "java/lang/invoke/MethodHandle" ∧ yX11_cut.cls ≠ "java/lang/invoke/VarHandle") ∧ (parseMethodDescriptor yX11_cut.desc).map (fun d => d.parameters.length) = some 2 ∧ mX11_cut.2.2.1 ≤ 19 := ⟨gw_i4 6 rfl rfl, gw_i1 1 rfl rfl, ⟨by decide +kernel, by decide +kernel⟩, by decide +kernel, by decide⟩
abbrev mX11_reckoned : My := (RX11, cX11_reckoned, 5, some .int, "reckoned")
theorem cw_X11_reckoned : Cond.code yX11_reckoned mX11_reckoned.2.1 mX11_reckoned.2.2.1 mX11_reckoned.2.2.2.1 ∈ gw_s ∧ Cond.initialized yX11_reckoned.cls ∈ gw_s ∧ (yX11_reckoned.cls ≠ "java/lang/invoke/MethodHandle" ∧ yX11_reckoned.cls ≠ "java/lang/invoke/VarHandle") ∧ (parseMethodDescriptor yX11_reckoned.desc).map (fun d => d.parameters.length) = some 3 ∧ mX11_reckoned.2.2.1 ≤ 19 := ⟨gw_i4 1 rfl rfl, gw_i1 1 rfl rfl, ⟨by decide +kernel, by decide +kernel⟩, by decide +kernel, by decide⟩
abbrev mX11_areTenths : My := (RX11, cX11_areTenths, 1, some .boolean, "areTenths")
theorem cw_X11_areTenths : Cond.code yX11_areTenths mX11_areTenths.2.1 mX11_areTenths.2.2.1 mX11_areTenths.2.2.2.1 ∈ gw_s ∧ Cond.initialized yX11_areTenths.cls ∈ gw_s ∧ (yX11_areTenths.cls ≠ "java/lang/invoke/MethodHandle" ∧ yX11_areTenths.cls ≠ "java/lang/invoke/VarHandle") ∧ (parseMethodDescriptor yX11_areTenths.desc).map (fun d => d.parameters.length) = some 1 ∧ mX11_areTenths.2.2.1 ≤ 19 := ⟨gw_i4 14 rfl rfl, gw_i1 1 rfl rfl, ⟨by decide +kernel, by decide +kernel⟩, by decide +kernel, by decide⟩
abbrev mX11_power : My := (RX11, cX11_power, 5, some .long, "power")
theorem cw_X11_power : Cond.code yX11_power mX11_power.2.1 mX11_power.2.2.1 mX11_power.2.2.2.1 ∈ gw_s ∧ Cond.initialized yX11_power.cls ∈ gw_s ∧ (yX11_power.cls ≠ "java/lang/invoke/MethodHandle" ∧ yX11_power.cls ≠ "java/lang/invoke/VarHandle") ∧ (parseMethodDescriptor yX11_power.desc).map (fun d => d.parameters.length) = some 2 ∧ mX11_power.2.2.1 ≤ 19 := ⟨gw_i4 27 rfl rfl, gw_i1 1 rfl rfl, ⟨by decide +kernel, by decide +kernel⟩, by decide +kernel, by decide⟩
abbrev mX11_tenTo : My := (RX11, cX11_tenTo, 1, some .long, "tenTo")
theorem cw_X11_tenTo : Cond.code yX11_tenTo mX11_tenTo.2.1 mX11_tenTo.2.2.1 mX11_tenTo.2.2.2.1 ∈ gw_s ∧ Cond.initialized yX11_tenTo.cls ∈ gw_s ∧ (yX11_tenTo.cls ≠ "java/lang/invoke/MethodHandle" ∧ yX11_tenTo.cls ≠ "java/lang/invoke/VarHandle") ∧ (parseMethodDescriptor yX11_tenTo.desc).map (fun d => d.parameters.length) = some 1 ∧ mX11_tenTo.2.2.1 ≤ 19 := ⟨gw_i4 24 rfl rfl, gw_i1 1 rfl rfl, ⟨by decide +kernel, by decide +kernel⟩, by decide +kernel, by decide⟩
abbrev mX11_exchanged : My := (RX11, cX11_exchanged, 4, some .long, "exchanged")
theorem cw_X11_exchanged : Cond.code yX11_exchanged mX11_exchanged.2.1 mX11_exchanged.2.2.1 mX11_exchanged.2.2.2.1 ∈ gw_s ∧ Cond.initialized yX11_exchanged.cls ∈ gw_s ∧ (yX11_exchanged.cls ≠ "java/lang/invoke/MethodHandle" ∧ yX11_exchanged.cls ≠ "java/lang/invoke/VarHandle") ∧ (parseMethodDescriptor yX11_exchanged.desc).map (fun d => d.parameters.length) = some 3 ∧ mX11_exchanged.2.2.1 ≤ 19 := ⟨gw_i4 21 rfl rfl, gw_i1 1 rfl rfl, ⟨by decide +kernel, by decide +kernel⟩, by decide +kernel, by decide⟩
abbrev mX11_keptBack : My := (RX11, cX11_keptBack, 9, some .long, "keptBack")
theorem cw_X11_keptBack : Cond.code yX11_keptBack mX11_keptBack.2.1 mX11_keptBack.2.2.1 mX11_keptBack.2.2.2.1 ∈ gw_s ∧ Cond.initialized yX11_keptBack.cls ∈ gw_s ∧ (yX11_keptBack.cls ≠ "java/lang/invoke/MethodHandle" ∧ yX11_keptBack.cls ≠ "java/lang/invoke/VarHandle") ∧ (parseMethodDescriptor yX11_keptBack.desc).map (fun d => d.parameters.length) = some 4 ∧ mX11_keptBack.2.2.1 ≤ 19 := ⟨gw_i4 31 rfl rfl, gw_i1 1 rfl rfl, ⟨by decide +kernel, by decide +kernel⟩, by decide +kernel, by decide⟩
abbrev mJ9_max_f86c9 : My := (RJ9, cJ9_max_f86c9, 4, some .long, "max")
theorem cw_J9_max_f86c9 : Cond.code yJ9_max_f86c9 mJ9_max_f86c9.2.1 mJ9_max_f86c9.2.2.1 mJ9_max_f86c9.2.2.2.1 ∈ gw_s ∧ Cond.initialized yJ9_max_f86c9.cls ∈ gw_s ∧ (yJ9_max_f86c9.cls ≠ "java/lang/invoke/MethodHandle" ∧ yJ9_max_f86c9.cls ≠ "java/lang/invoke/VarHandle") ∧ (parseMethodDescriptor yJ9_max_f86c9.desc).map (fun d => d.parameters.length) = some 2 ∧ mJ9_max_f86c9.2.2.1 ≤ 19 := ⟨gw_i4 34 rfl rfl, gw_i1 17 rfl rfl, ⟨by decide +kernel, by decide +kernel⟩, by decide +kernel, by decide⟩
abbrev mX11_mostKept : My := (RX11, cX11_mostKept, 6, some .long, "mostKept")
theorem cw_X11_mostKept : Cond.code yX11_mostKept mX11_mostKept.2.1 mX11_mostKept.2.2.1 mX11_mostKept.2.2.2.1 ∈ gw_s ∧ Cond.initialized yX11_mostKept.cls ∈ gw_s ∧ (yX11_mostKept.cls ≠ "java/lang/invoke/MethodHandle" ∧ yX11_mostKept.cls ≠ "java/lang/invoke/VarHandle") ∧ (parseMethodDescriptor yX11_mostKept.desc).map (fun d => d.parameters.length) = some 3 ∧ mX11_mostKept.2.2.1 ≤ 19 := ⟨gw_i4 18 rfl rfl, gw_i1 1 rfl rfl, ⟨by decide +kernel, by decide +kernel⟩, by decide +kernel, by decide⟩
abbrev mX11_commonDivisor : My := (RX11, cX11_commonDivisor, 11, some .long, "commonDivisor")
theorem cw_X11_commonDivisor : Cond.code yX11_commonDivisor mX11_commonDivisor.2.1 mX11_commonDivisor.2.2.1 mX11_commonDivisor.2.2.2.1 ∈ gw_s ∧ Cond.initialized yX11_commonDivisor.cls ∈ gw_s ∧ (yX11_commonDivisor.cls ≠ "java/lang/invoke/MethodHandle" ∧ yX11_commonDivisor.cls ≠ "java/lang/invoke/VarHandle") ∧ (parseMethodDescriptor yX11_commonDivisor.desc).map (fun d => d.parameters.length) = some 2 ∧ mX11_commonDivisor.2.2.1 ≤ 19 := ⟨gw_i4 40 rfl rfl, gw_i1 1 rfl rfl, ⟨by decide +kernel, by decide +kernel⟩, by decide +kernel, by decide⟩
abbrev mX11_partOf : My := (RX11, cX11_partOf, 7, some .long, "partOf")
theorem cw_X11_partOf : Cond.code yX11_partOf mX11_partOf.2.1 mX11_partOf.2.2.1 mX11_partOf.2.2.2.1 ∈ gw_s ∧ Cond.initialized yX11_partOf.cls ∈ gw_s ∧ (yX11_partOf.cls ≠ "java/lang/invoke/MethodHandle" ∧ yX11_partOf.cls ≠ "java/lang/invoke/VarHandle") ∧ (parseMethodDescriptor yX11_partOf.desc).map (fun d => d.parameters.length) = some 3 ∧ mX11_partOf.2.2.1 ≤ 19 := ⟨gw_i4 37 rfl rfl, gw_i1 1 rfl rfl, ⟨by decide +kernel, by decide +kernel⟩, by decide +kernel, by decide⟩
abbrev mX11_kept : My := (RX11, cX11_kept, 5, some .long, "kept")
theorem cw_X11_kept : Cond.code yX11_kept mX11_kept.2.1 mX11_kept.2.2.1 mX11_kept.2.2.2.1 ∈ gw_s ∧ Cond.initialized yX11_kept.cls ∈ gw_s ∧ (yX11_kept.cls ≠ "java/lang/invoke/MethodHandle" ∧ yX11_kept.cls ≠ "java/lang/invoke/VarHandle") ∧ (parseMethodDescriptor yX11_kept.desc).map (fun d => d.parameters.length) = some 4 ∧ mX11_kept.2.2.1 ≤ 19 := ⟨gw_i4 11 rfl rfl, gw_i1 1 rfl rfl, ⟨by decide +kernel, by decide +kernel⟩, by decide +kernel, by decide⟩
abbrev mX11_keeps : My := (RX11, cX11_keeps, 6, some .int, "keeps")
theorem cw_X11_keeps : Cond.code yX11_keeps mX11_keeps.2.1 mX11_keeps.2.2.1 mX11_keeps.2.2.2.1 ∈ gw_s ∧ Cond.initialized yX11_keeps.cls ∈ gw_s ∧ (yX11_keeps.cls ≠ "java/lang/invoke/MethodHandle" ∧ yX11_keeps.cls ≠ "java/lang/invoke/VarHandle") ∧ (parseMethodDescriptor yX11_keeps.desc).map (fun d => d.parameters.length) = some 3 ∧ mX11_keeps.2.2.1 ≤ 19 := ⟨gw_i4 44 rfl rfl, gw_i1 1 rfl rfl, ⟨by decide +kernel, by decide +kernel⟩, by decide +kernel, by decide⟩
abbrev mX11_seen : My := (RX11, cX11_seen, 3, some .int, "seen")
theorem cw_X11_seen : Cond.code yX11_seen mX11_seen.2.1 mX11_seen.2.2.1 mX11_seen.2.2.2.1 ∈ gw_s ∧ Cond.initialized yX11_seen.cls ∈ gw_s ∧ (yX11_seen.cls ≠ "java/lang/invoke/MethodHandle" ∧ yX11_seen.cls ≠ "java/lang/invoke/VarHandle") ∧ (parseMethodDescriptor yX11_seen.desc).map (fun d => d.parameters.length) = some 2 ∧ mX11_seen.2.2.1 ≤ 19 := ⟨gw_i4 48 rfl rfl, gw_i1 1 rfl rfl, ⟨by decide +kernel, by decide +kernel⟩, by decide +kernel, by decide⟩
abbrev mX11_forget : My := (RX11, cX11_forget, 2, some .int, "forget")
theorem cw_X11_forget : Cond.code yX11_forget mX11_forget.2.1 mX11_forget.2.2.1 mX11_forget.2.2.2.1 ∈ gw_s ∧ Cond.initialized yX11_forget.cls ∈ gw_s ∧ (yX11_forget.cls ≠ "java/lang/invoke/MethodHandle" ∧ yX11_forget.cls ≠ "java/lang/invoke/VarHandle") ∧ (parseMethodDescriptor yX11_forget.desc).map (fun d => d.parameters.length) = some 0 ∧ mX11_forget.2.2.1 ≤ 19 := ⟨gw_i4 56 rfl rfl, gw_i1 1 rfl rfl, ⟨by decide +kernel, by decide +kernel⟩, by decide +kernel, by decide⟩
abbrev mX11_who : My := (RX11, cX11_who, 2, some .int, "who")
theorem cw_X11_who : Cond.code yX11_who mX11_who.2.1 mX11_who.2.2.1 mX11_who.2.2.2.1 ∈ gw_s ∧ Cond.initialized yX11_who.cls ∈ gw_s ∧ (yX11_who.cls ≠ "java/lang/invoke/MethodHandle" ∧ yX11_who.cls ≠ "java/lang/invoke/VarHandle") ∧ (parseMethodDescriptor yX11_who.desc).map (fun d => d.parameters.length) = some 1 ∧ mX11_who.2.2.1 ≤ 19 := ⟨gw_i4 60 rfl rfl, gw_i1 1 rfl rfl, ⟨by decide +kernel, by decide +kernel⟩, by decide +kernel, by decide⟩
abbrev mX11_goneInTime : My := (RX11, cX11_goneInTime, 8, some .long, "goneInTime")
theorem cw_X11_goneInTime : Cond.code yX11_goneInTime mX11_goneInTime.2.1 mX11_goneInTime.2.2.1 mX11_goneInTime.2.2.2.1 ∈ gw_s ∧ Cond.initialized yX11_goneInTime.cls ∈ gw_s ∧ (yX11_goneInTime.cls ≠ "java/lang/invoke/MethodHandle" ∧ yX11_goneInTime.cls ≠ "java/lang/invoke/VarHandle") ∧ (parseMethodDescriptor yX11_goneInTime.desc).map (fun d => d.parameters.length) = some 3 ∧ mX11_goneInTime.2.2.1 ≤ 19 := ⟨gw_i4 78 rfl rfl, gw_i1 1 rfl rfl, ⟨by decide +kernel, by decide +kernel⟩, by decide +kernel, by decide⟩
abbrev mX11_snow : My := (RX11, cX11_snow, 5, some .long, "snow")
theorem cw_X11_snow : Cond.code yX11_snow mX11_snow.2.1 mX11_snow.2.2.1 mX11_snow.2.2.2.1 ∈ gw_s ∧ Cond.initialized yX11_snow.cls ∈ gw_s ∧ (yX11_snow.cls ≠ "java/lang/invoke/MethodHandle" ∧ yX11_snow.cls ≠ "java/lang/invoke/VarHandle") ∧ (parseMethodDescriptor yX11_snow.desc).map (fun d => d.parameters.length) = some 4 ∧ mX11_snow.2.2.1 ≤ 19 := ⟨gw_i4 75 rfl rfl, gw_i1 1 rfl rfl, ⟨by decide +kernel, by decide +kernel⟩, by decide +kernel, by decide⟩
abbrev mX11_year : My := (RX11, cX11_year, 4, some .int, "year")
theorem cw_X11_year : Cond.code yX11_year mX11_year.2.1 mX11_year.2.2.1 mX11_year.2.2.2.1 ∈ gw_s ∧ Cond.initialized yX11_year.cls ∈ gw_s ∧ (yX11_year.cls ≠ "java/lang/invoke/MethodHandle" ∧ yX11_year.cls ≠ "java/lang/invoke/VarHandle") ∧ (parseMethodDescriptor yX11_year.desc).map (fun d => d.parameters.length) = some 3 ∧ mX11_year.2.2.1 ≤ 19 := ⟨gw_i4 82 rfl rfl, gw_i1 1 rfl rfl, ⟨by decide +kernel, by decide +kernel⟩, by decide +kernel, by decide⟩
abbrev mX11_image : My := (RX11, cX11_image, 2, some .int, "image")
theorem cw_X11_image : Cond.code yX11_image mX11_image.2.1 mX11_image.2.2.1 mX11_image.2.2.2.1 ∈ gw_s ∧ Cond.initialized yX11_image.cls ∈ gw_s ∧ (yX11_image.cls ≠ "java/lang/invoke/MethodHandle" ∧ yX11_image.cls ≠ "java/lang/invoke/VarHandle") ∧ (parseMethodDescriptor yX11_image.desc).map (fun d => d.parameters.length) = some 1 ∧ mX11_image.2.2.1 ≤ 19 := ⟨gw_i4 99 rfl rfl, gw_i1 1 rfl rfl, ⟨by decide +kernel, by decide +kernel⟩, by decide +kernel, by decide⟩
abbrev mX11_restore : My := (RX11, cX11_restore, 2, some .int, "restore")
theorem cw_X11_restore : Cond.code yX11_restore mX11_restore.2.1 mX11_restore.2.2.1 mX11_restore.2.2.2.1 ∈ gw_s ∧ Cond.initialized yX11_restore.cls ∈ gw_s ∧ (yX11_restore.cls ≠ "java/lang/invoke/MethodHandle" ∧ yX11_restore.cls ≠ "java/lang/invoke/VarHandle") ∧ (parseMethodDescriptor yX11_restore.desc).map (fun d => d.parameters.length) = some 1 ∧ mX11_restore.2.2.1 ≤ 19 := ⟨gw_i4 103 rfl rfl, gw_i1 1 rfl rfl, ⟨by decide +kernel, by decide +kernel⟩, by decide +kernel, by decide⟩
abbrev mX11_toldOfKnight : My := (RX11, cX11_toldOfKnight, 4, some .int, "toldOfKnight")
theorem cw_X11_toldOfKnight : Cond.code yX11_toldOfKnight mX11_toldOfKnight.2.1 mX11_toldOfKnight.2.2.1 mX11_toldOfKnight.2.2.2.1 ∈ gw_s ∧ Cond.initialized yX11_toldOfKnight.cls ∈ gw_s ∧ (yX11_toldOfKnight.cls ≠ "java/lang/invoke/MethodHandle" ∧ yX11_toldOfKnight.cls ≠ "java/lang/invoke/VarHandle") ∧ (parseMethodDescriptor yX11_toldOfKnight.desc).map (fun d => d.parameters.length) = some 1 ∧ mX11_toldOfKnight.2.2.1 ≤ 19 := ⟨gw_i4 112 rfl rfl, gw_i1 1 rfl rfl, ⟨by decide +kernel, by decide +kernel⟩, by decide +kernel, by decide⟩
abbrev mX11_toldOfRoad : My := (RX11, cX11_toldOfRoad, 4, some .int, "toldOfRoad")
theorem cw_X11_toldOfRoad : Cond.code yX11_toldOfRoad mX11_toldOfRoad.2.1 mX11_toldOfRoad.2.2.1 mX11_toldOfRoad.2.2.2.1 ∈ gw_s ∧ Cond.initialized yX11_toldOfRoad.cls ∈ gw_s ∧ (yX11_toldOfRoad.cls ≠ "java/lang/invoke/MethodHandle" ∧ yX11_toldOfRoad.cls ≠ "java/lang/invoke/VarHandle") ∧ (parseMethodDescriptor yX11_toldOfRoad.desc).map (fun d => d.parameters.length) = some 1 ∧ mX11_toldOfRoad.2.2.1 ≤ 19 := ⟨gw_i4 116 rfl rfl, gw_i1 1 rfl rfl, ⟨by decide +kernel, by decide +kernel⟩, by decide +kernel, by decide⟩
abbrev mX11_told : My := (RX11, cX11_told, 2, some .int, "told")
theorem cw_X11_told : Cond.code yX11_told mX11_told.2.1 mX11_told.2.2.1 mX11_told.2.2.2.1 ∈ gw_s ∧ Cond.initialized yX11_told.cls ∈ gw_s ∧ (yX11_told.cls ≠ "java/lang/invoke/MethodHandle" ∧ yX11_told.cls ≠ "java/lang/invoke/VarHandle") ∧ (parseMethodDescriptor yX11_told.desc).map (fun d => d.parameters.length) = some 1 ∧ mX11_told.2.2.1 ≤ 19 := ⟨gw_i4 107 rfl rfl, gw_i1 1 rfl rfl, ⟨by decide +kernel, by decide +kernel⟩, by decide +kernel, by decide⟩
abbrev mX12_init : My := (RX12, cX12_init, 1, none, "<init>")
theorem cw_X12_init : Cond.code yX12_init mX12_init.2.1 mX12_init.2.2.1 mX12_init.2.2.2.1 ∈ gw_s ∧ Cond.initialized yX12_init.cls ∈ gw_s ∧ (yX12_init.cls ≠ "java/lang/invoke/MethodHandle" ∧ yX12_init.cls ≠ "java/lang/invoke/VarHandle") ∧ (parseMethodDescriptor yX12_init.desc).map (fun d => d.parameters.length) = some 0 ∧ mX12_init.2.2.1 ≤ 19 := ⟨gw_i4 121 rfl rfl, gw_i1 13 rfl rfl, ⟨by decide +kernel, by decide +kernel⟩, by decide +kernel, by decide⟩
abbrev mX12_in : My := (RX12, cX12_in, 3, some .boolean, "in")
theorem cw_X12_in : Cond.code yX12_in mX12_in.2.1 mX12_in.2.2.1 mX12_in.2.2.2.1 ∈ gw_s ∧ Cond.initialized yX12_in.cls ∈ gw_s ∧ (yX12_in.cls ≠ "java/lang/invoke/MethodHandle" ∧ yX12_in.cls ≠ "java/lang/invoke/VarHandle") ∧ (parseMethodDescriptor yX12_in.desc).map (fun d => d.parameters.length) = some 3 ∧ mX12_in.2.2.1 ≤ 19 := ⟨gw_i4 227 rfl rfl, gw_i1 13 rfl rfl, ⟨by decide +kernel, by decide +kernel⟩, by decide +kernel, by decide⟩
abbrev mX12_has : My := (RX12, cX12_has, 2, some .boolean, "has")
theorem cw_X12_has : Cond.code yX12_has mX12_has.2.1 mX12_has.2.2.1 mX12_has.2.2.2.1 ∈ gw_s ∧ Cond.initialized yX12_has.cls ∈ gw_s ∧ (yX12_has.cls ≠ "java/lang/invoke/MethodHandle" ∧ yX12_has.cls ≠ "java/lang/invoke/VarHandle") ∧ (parseMethodDescriptor yX12_has.desc).map (fun d => d.parameters.length) = some 2 ∧ mX12_has.2.2.1 ≤ 19 := ⟨gw_i5 10 rfl rfl, gw_i1 13 rfl rfl, ⟨by decide +kernel, by decide +kernel⟩, by decide +kernel, by decide⟩
abbrev mX12_bits : My := (RX12, cX12_bits, 3, some .int, "bits")
theorem cw_X12_bits : Cond.code yX12_bits mX12_bits.2.1 mX12_bits.2.2.1 mX12_bits.2.2.2.1 ∈ gw_s ∧ Cond.initialized yX12_bits.cls ∈ gw_s ∧ (yX12_bits.cls ≠ "java/lang/invoke/MethodHandle" ∧ yX12_bits.cls ≠ "java/lang/invoke/VarHandle") ∧ (parseMethodDescriptor yX12_bits.desc).map (fun d => d.parameters.length) = some 1 ∧ mX12_bits.2.2.1 ≤ 19 := ⟨gw_i5 13 rfl rfl, gw_i1 13 rfl rfl, ⟨by decide +kernel, by decide +kernel⟩, by decide +kernel, by decide⟩
abbrev mX12_isChapel : My := (RX12, cX12_isChapel, 2, some .boolean, "isChapel")
theorem cw_X12_isChapel : Cond.code yX12_isChapel mX12_isChapel.2.1 mX12_isChapel.2.2.1 mX12_isChapel.2.2.2.1 ∈ gw_s ∧ Cond.initialized yX12_isChapel.cls ∈ gw_s ∧ (yX12_isChapel.cls ≠ "java/lang/invoke/MethodHandle" ∧ yX12_isChapel.cls ≠ "java/lang/invoke/VarHandle") ∧ (parseMethodDescriptor yX12_isChapel.desc).map (fun d => d.parameters.length) = some 1 ∧ mX12_isChapel.2.2.1 ≤ 19 := ⟨gw_i4 235 rfl rfl, gw_i1 13 rfl rfl, ⟨by decide +kernel, by decide +kernel⟩, by decide +kernel, by decide⟩
abbrev mX12_isThere : My := (RX12, cX12_isThere, 2, some .boolean, "isThere")
theorem cw_X12_isThere : Cond.code yX12_isThere mX12_isThere.2.1 mX12_isThere.2.2.1 mX12_isThere.2.2.2.1 ∈ gw_s ∧ Cond.initialized yX12_isThere.cls ∈ gw_s ∧ (yX12_isThere.cls ≠ "java/lang/invoke/MethodHandle" ∧ yX12_isThere.cls ≠ "java/lang/invoke/VarHandle") ∧ (parseMethodDescriptor yX12_isThere.desc).map (fun d => d.parameters.length) = some 1 ∧ mX12_isThere.2.2.1 ≤ 19 := ⟨gw_i5 7 rfl rfl, gw_i1 13 rfl rfl, ⟨by decide +kernel, by decide +kernel⟩, by decide +kernel, by decide⟩
abbrev mX12_chapels : My := (RX12, cX12_chapels, 4, some .int, "chapels")
theorem cw_X12_chapels : Cond.code yX12_chapels mX12_chapels.2.1 mX12_chapels.2.2.1 mX12_chapels.2.2.2.1 ∈ gw_s ∧ Cond.initialized yX12_chapels.cls ∈ gw_s ∧ (yX12_chapels.cls ≠ "java/lang/invoke/MethodHandle" ∧ yX12_chapels.cls ≠ "java/lang/invoke/VarHandle") ∧ (parseMethodDescriptor yX12_chapels.desc).map (fun d => d.parameters.length) = some 1 ∧ mX12_chapels.2.2.1 ≤ 19 := ⟨gw_i4 224 rfl rfl, gw_i1 13 rfl rfl, ⟨by decide +kernel, by decide +kernel⟩, by decide +kernel, by decide⟩
abbrev mX12_road : My := (RX12, cX12_road, 5, some .int, "road")
theorem cw_X12_road : Cond.code yX12_road mX12_road.2.1 mX12_road.2.2.1 mX12_road.2.2.2.1 ∈ gw_s ∧ Cond.initialized yX12_road.cls ∈ gw_s ∧ (yX12_road.cls ≠ "java/lang/invoke/MethodHandle" ∧ yX12_road.cls ≠ "java/lang/invoke/VarHandle") ∧ (parseMethodDescriptor yX12_road.desc).map (fun d => d.parameters.length) = some 3 ∧ mX12_road.2.2.1 ≤ 19 := ⟨gw_i4 231 rfl rfl, gw_i1 13 rfl rfl, ⟨by decide +kernel, by decide +kernel⟩, by decide +kernel, by decide⟩
abbrev mX12_yearOf : My := (RX12, cX12_yearOf, 3, some .int, "yearOf")
theorem cw_X12_yearOf : Cond.code yX12_yearOf mX12_yearOf.2.1 mX12_yearOf.2.2.1 mX12_yearOf.2.2.2.1 ∈ gw_s ∧ Cond.initialized yX12_yearOf.cls ∈ gw_s ∧ (yX12_yearOf.cls ≠ "java/lang/invoke/MethodHandle" ∧ yX12_yearOf.cls ≠ "java/lang/invoke/VarHandle") ∧ (parseMethodDescriptor yX12_yearOf.desc).map (fun d => d.parameters.length) = some 1 ∧ mX12_yearOf.2.2.1 ≤ 19 := ⟨gw_i4 239 rfl rfl, gw_i1 13 rfl rfl, ⟨by decide +kernel, by decide +kernel⟩, by decide +kernel, by decide⟩
abbrev mX12_knight : My := (RX12, cX12_knight, 6, some .int, "knight")
theorem cw_X12_knight : Cond.code yX12_knight mX12_knight.2.1 mX12_knight.2.2.1 mX12_knight.2.2.2.1 ∈ gw_s ∧ Cond.initialized yX12_knight.cls ∈ gw_s ∧ (yX12_knight.cls ≠ "java/lang/invoke/MethodHandle" ∧ yX12_knight.cls ≠ "java/lang/invoke/VarHandle") ∧ (parseMethodDescriptor yX12_knight.desc).map (fun d => d.parameters.length) = some 5 ∧ mX12_knight.2.2.1 ≤ 19 := ⟨gw_i5 3 rfl rfl, gw_i1 13 rfl rfl, ⟨by decide +kernel, by decide +kernel⟩, by decide +kernel, by decide⟩
abbrev mX12_heir : My := (RX12, cX12_heir, 9, some .int, "heir")
theorem cw_X12_heir : Cond.code yX12_heir mX12_heir.2.1 mX12_heir.2.2.1 mX12_heir.2.2.2.1 ∈ gw_s ∧ Cond.initialized yX12_heir.cls ∈ gw_s ∧ (yX12_heir.cls ≠ "java/lang/invoke/MethodHandle" ∧ yX12_heir.cls ≠ "java/lang/invoke/VarHandle") ∧ (parseMethodDescriptor yX12_heir.desc).map (fun d => d.parameters.length) = some 2 ∧ mX12_heir.2.2.1 ≤ 19 := ⟨gw_i5 17 rfl rfl, gw_i1 13 rfl rfl, ⟨by decide +kernel, by decide +kernel⟩, by decide +kernel, by decide⟩
abbrev mX12_say : My := (RX12, cX12_say, 2, some .int, "say")
theorem cw_X12_say : Cond.code yX12_say mX12_say.2.1 mX12_say.2.2.1 mX12_say.2.2.2.1 ∈ gw_s ∧ Cond.initialized yX12_say.cls ∈ gw_s ∧ (yX12_say.cls ≠ "java/lang/invoke/MethodHandle" ∧ yX12_say.cls ≠ "java/lang/invoke/VarHandle") ∧ (parseMethodDescriptor yX12_say.desc).map (fun d => d.parameters.length) = some 1 ∧ mX12_say.2.2.1 ≤ 19 := ⟨gw_i5 21 rfl rfl, gw_i1 13 rfl rfl, ⟨by decide +kernel, by decide +kernel⟩, by decide +kernel, by decide⟩
abbrev mX12_wipe : My := (RX12, cX12_wipe, 2, some .int, "wipe")
theorem cw_X12_wipe : Cond.code yX12_wipe mX12_wipe.2.1 mX12_wipe.2.2.1 mX12_wipe.2.2.2.1 ∈ gw_s ∧ Cond.initialized yX12_wipe.cls ∈ gw_s ∧ (yX12_wipe.cls ≠ "java/lang/invoke/MethodHandle" ∧ yX12_wipe.cls ≠ "java/lang/invoke/VarHandle") ∧ (parseMethodDescriptor yX12_wipe.desc).map (fun d => d.parameters.length) = some 0 ∧ mX12_wipe.2.2.1 ≤ 19 := ⟨gw_i5 25 rfl rfl, gw_i1 13 rfl rfl, ⟨by decide +kernel, by decide +kernel⟩, by decide +kernel, by decide⟩
abbrev mX12_daysOf : My := (RX12, cX12_daysOf, 1, some .int, "daysOf")
theorem cw_X12_daysOf : Cond.code yX12_daysOf mX12_daysOf.2.1 mX12_daysOf.2.2.1 mX12_daysOf.2.2.2.1 ∈ gw_s ∧ Cond.initialized yX12_daysOf.cls ∈ gw_s ∧ (yX12_daysOf.cls ≠ "java/lang/invoke/MethodHandle" ∧ yX12_daysOf.cls ≠ "java/lang/invoke/VarHandle") ∧ (parseMethodDescriptor yX12_daysOf.desc).map (fun d => d.parameters.length) = some 1 ∧ mX12_daysOf.2.2.1 ≤ 19 := ⟨gw_i5 36 rfl rfl, gw_i1 13 rfl rfl, ⟨by decide +kernel, by decide +kernel⟩, by decide +kernel, by decide⟩
abbrev mX12_faultOf : My := (RX12, cX12_faultOf, 7, some .int, "faultOf")
theorem cw_X12_faultOf : Cond.code yX12_faultOf mX12_faultOf.2.1 mX12_faultOf.2.2.1 mX12_faultOf.2.2.2.1 ∈ gw_s ∧ Cond.initialized yX12_faultOf.cls ∈ gw_s ∧ (yX12_faultOf.cls ≠ "java/lang/invoke/MethodHandle" ∧ yX12_faultOf.cls ≠ "java/lang/invoke/VarHandle") ∧ (parseMethodDescriptor yX12_faultOf.desc).map (fun d => d.parameters.length) = some 0 ∧ mX12_faultOf.2.2.1 ≤ 19 := ⟨gw_i5 33 rfl rfl, gw_i1 13 rfl rfl, ⟨by decide +kernel, by decide +kernel⟩, by decide +kernel, by decide⟩
abbrev mX12_fault : My := (RX12, cX12_fault, 1, some .int, "fault")
theorem cw_X12_fault : Cond.code yX12_fault mX12_fault.2.1 mX12_fault.2.2.1 mX12_fault.2.2.2.1 ∈ gw_s ∧ Cond.initialized yX12_fault.cls ∈ gw_s ∧ (yX12_fault.cls ≠ "java/lang/invoke/MethodHandle" ∧ yX12_fault.cls ≠ "java/lang/invoke/VarHandle") ∧ (parseMethodDescriptor yX12_fault.desc).map (fun d => d.parameters.length) = some 0 ∧ mX12_fault.2.2.1 ≤ 19 := ⟨gw_i5 29 rfl rfl, gw_i1 13 rfl rfl, ⟨by decide +kernel, by decide +kernel⟩, by decide +kernel, by decide⟩
abbrev mX12_asNow : My := (RX12, cX12_asNow, 2, none, "asNow")
theorem cw_X12_asNow : Cond.code yX12_asNow mX12_asNow.2.1 mX12_asNow.2.2.1 mX12_asNow.2.2.2.1 ∈ gw_s ∧ Cond.initialized yX12_asNow.cls ∈ gw_s ∧ (yX12_asNow.cls ≠ "java/lang/invoke/MethodHandle" ∧ yX12_asNow.cls ≠ "java/lang/invoke/VarHandle") ∧ (parseMethodDescriptor yX12_asNow.desc).map (fun d => d.parameters.length) = some 0 ∧ mX12_asNow.2.2.1 ≤ 19 := ⟨gw_i5 48 rfl rfl, gw_i1 13 rfl rfl, ⟨by decide +kernel, by decide +kernel⟩, by decide +kernel, by decide⟩
abbrev mX12_keep : My := (RX12, cX12_keep, 2, none, "keep")
theorem cw_X12_keep : Cond.code yX12_keep mX12_keep.2.1 mX12_keep.2.2.1 mX12_keep.2.2.2.1 ∈ gw_s ∧ Cond.initialized yX12_keep.cls ∈ gw_s ∧ (yX12_keep.cls ≠ "java/lang/invoke/MethodHandle" ∧ yX12_keep.cls ≠ "java/lang/invoke/VarHandle") ∧ (parseMethodDescriptor yX12_keep.desc).map (fun d => d.parameters.length) = some 0 ∧ mX12_keep.2.2.1 ≤ 19 := ⟨gw_i5 104 rfl rfl, gw_i1 13 rfl rfl, ⟨by decide +kernel, by decide +kernel⟩, by decide +kernel, by decide⟩
abbrev mX12_forgive : My := (RX12, cX12_forgive, 3, none, "forgive")
theorem cw_X12_forgive : Cond.code yX12_forgive mX12_forgive.2.1 mX12_forgive.2.2.1 mX12_forgive.2.2.2.1 ∈ gw_s ∧ Cond.initialized yX12_forgive.cls ∈ gw_s ∧ (yX12_forgive.cls ≠ "java/lang/invoke/MethodHandle" ∧ yX12_forgive.cls ≠ "java/lang/invoke/VarHandle") ∧ (parseMethodDescriptor yX12_forgive.desc).map (fun d => d.parameters.length) = some 1 ∧ mX12_forgive.2.2.1 ≤ 19 := ⟨gw_i5 56 rfl rfl, gw_i1 13 rfl rfl, ⟨by decide +kernel, by decide +kernel⟩, by decide +kernel, by decide⟩
abbrev mX12_strike : My := (RX12, cX12_strike, 4, none, "strike")
theorem cw_X12_strike : Cond.code yX12_strike mX12_strike.2.1 mX12_strike.2.2.1 mX12_strike.2.2.2.1 ∈ gw_s ∧ Cond.initialized yX12_strike.cls ∈ gw_s ∧ (yX12_strike.cls ≠ "java/lang/invoke/MethodHandle" ∧ yX12_strike.cls ≠ "java/lang/invoke/VarHandle") ∧ (parseMethodDescriptor yX12_strike.desc).map (fun d => d.parameters.length) = some 2 ∧ mX12_strike.2.2.1 ≤ 19 := ⟨gw_i5 72 rfl rfl, gw_i1 13 rfl rfl, ⟨by decide +kernel, by decide +kernel⟩, by decide +kernel, by decide⟩
abbrev mX12_isAlive : My := (RX12, cX12_isAlive, 2, some .boolean, "isAlive")
theorem cw_X12_isAlive : Cond.code yX12_isAlive mX12_isAlive.2.1 mX12_isAlive.2.2.1 mX12_isAlive.2.2.2.1 ∈ gw_s ∧ Cond.initialized yX12_isAlive.cls ∈ gw_s ∧ (yX12_isAlive.cls ≠ "java/lang/invoke/MethodHandle" ∧ yX12_isAlive.cls ≠ "java/lang/invoke/VarHandle") ∧ (parseMethodDescriptor yX12_isAlive.desc).map (fun d => d.parameters.length) = some 1 ∧ mX12_isAlive.2.2.1 ≤ 19 := ⟨gw_i5 64 rfl rfl, gw_i1 13 rfl rfl, ⟨by decide +kernel, by decide +kernel⟩, by decide +kernel, by decide⟩
abbrev mX12_whyNotStrike : My := (RX12, cX12_whyNotStrike, 4, some .int, "whyNotStrike")
theorem cw_X12_whyNotStrike : Cond.code yX12_whyNotStrike mX12_whyNotStrike.2.1 mX12_whyNotStrike.2.2.1 mX12_whyNotStrike.2.2.2.1 ∈ gw_s ∧ Cond.initialized yX12_whyNotStrike.cls ∈ gw_s ∧ (yX12_whyNotStrike.cls ≠ "java/lang/invoke/MethodHandle" ∧ yX12_whyNotStrike.cls ≠ "java/lang/invoke/VarHandle") ∧ (parseMethodDescriptor yX12_whyNotStrike.desc).map (fun d => d.parameters.length) = some 3 ∧ mX12_whyNotStrike.2.2.1 ≤ 19 := ⟨gw_i5 60 rfl rfl, gw_i1 13 rfl rfl, ⟨by decide +kernel, by decide +kernel⟩, by decide +kernel, by decide⟩
abbrev mX12_hit : My := (RX12, cX12_hit, 4, none, "hit")
theorem cw_X12_hit : Cond.code yX12_hit mX12_hit.2.1 mX12_hit.2.2.1 mX12_hit.2.2.2.1 ∈ gw_s ∧ Cond.initialized yX12_hit.cls ∈ gw_s ∧ (yX12_hit.cls ≠ "java/lang/invoke/MethodHandle" ∧ yX12_hit.cls ≠ "java/lang/invoke/VarHandle") ∧ (parseMethodDescriptor yX12_hit.desc).map (fun d => d.parameters.length) = some 3 ∧ mX12_hit.2.2.1 ≤ 19 := ⟨gw_i5 68 rfl rfl, gw_i1 13 rfl rfl, ⟨by decide +kernel, by decide +kernel⟩, by decide +kernel, by decide⟩
abbrev mX12_isOwed : My := (RX12, cX12_isOwed, 5, some .boolean, "isOwed")
theorem cw_X12_isOwed : Cond.code yX12_isOwed mX12_isOwed.2.1 mX12_isOwed.2.2.1 mX12_isOwed.2.2.2.1 ∈ gw_s ∧ Cond.initialized yX12_isOwed.cls ∈ gw_s ∧ (yX12_isOwed.cls ≠ "java/lang/invoke/MethodHandle" ∧ yX12_isOwed.cls ≠ "java/lang/invoke/VarHandle") ∧ (parseMethodDescriptor yX12_isOwed.desc).map (fun d => d.parameters.length) = some 2 ∧ mX12_isOwed.2.2.1 ≤ 19 := ⟨gw_i5 80 rfl rfl, gw_i1 13 rfl rfl, ⟨by decide +kernel, by decide +kernel⟩, by decide +kernel, by decide⟩
abbrev mX12_owesHere : My := (RX12, cX12_owesHere, 3, some .boolean, "owesHere")
theorem cw_X12_owesHere : Cond.code yX12_owesHere mX12_owesHere.2.1 mX12_owesHere.2.2.1 mX12_owesHere.2.2.2.1 ∈ gw_s ∧ Cond.initialized yX12_owesHere.cls ∈ gw_s ∧ (yX12_owesHere.cls ≠ "java/lang/invoke/MethodHandle" ∧ yX12_owesHere.cls ≠ "java/lang/invoke/VarHandle") ∧ (parseMethodDescriptor yX12_owesHere.desc).map (fun d => d.parameters.length) = some 2 ∧ mX12_owesHere.2.2.1 ≤ 19 := ⟨gw_i5 84 rfl rfl, gw_i1 13 rfl rfl, ⟨by decide +kernel, by decide +kernel⟩, by decide +kernel, by decide⟩
abbrev mX12_whyNot : My := (RX12, cX12_whyNot, 5, some .int, "whyNot")
theorem cw_X12_whyNot : Cond.code yX12_whyNot mX12_whyNot.2.1 mX12_whyNot.2.2.1 mX12_whyNot.2.2.2.1 ∈ gw_s ∧ Cond.initialized yX12_whyNot.cls ∈ gw_s ∧ (yX12_whyNot.cls ≠ "java/lang/invoke/MethodHandle" ∧ yX12_whyNot.cls ≠ "java/lang/invoke/VarHandle") ∧ (parseMethodDescriptor yX12_whyNot.desc).map (fun d => d.parameters.length) = some 2 ∧ mX12_whyNot.2.2.1 ≤ 19 := ⟨gw_i5 76 rfl rfl, gw_i1 13 rfl rfl, ⟨by decide +kernel, by decide +kernel⟩, by decide +kernel, by decide⟩
abbrev mX12_giveBack : My := (RX12, cX12_giveBack, 6, none, "giveBack")
theorem cw_X12_giveBack : Cond.code yX12_giveBack mX12_giveBack.2.1 mX12_giveBack.2.2.1 mX12_giveBack.2.2.2.1 ∈ gw_s ∧ Cond.initialized yX12_giveBack.cls ∈ gw_s ∧ (yX12_giveBack.cls ≠ "java/lang/invoke/MethodHandle" ∧ yX12_giveBack.cls ≠ "java/lang/invoke/VarHandle") ∧ (parseMethodDescriptor yX12_giveBack.desc).map (fun d => d.parameters.length) = some 1 ∧ mX12_giveBack.2.2.1 ≤ 19 := ⟨gw_i5 92 rfl rfl, gw_i1 13 rfl rfl, ⟨by decide +kernel, by decide +kernel⟩, by decide +kernel, by decide⟩
abbrev mX12_act : My := (RX12, cX12_act, 4, none, "act")
theorem cw_X12_act : Cond.code yX12_act mX12_act.2.1 mX12_act.2.2.1 mX12_act.2.2.2.1 ∈ gw_s ∧ Cond.initialized yX12_act.cls ∈ gw_s ∧ (yX12_act.cls ≠ "java/lang/invoke/MethodHandle" ∧ yX12_act.cls ≠ "java/lang/invoke/VarHandle") ∧ (parseMethodDescriptor yX12_act.desc).map (fun d => d.parameters.length) = some 2 ∧ mX12_act.2.2.1 ≤ 19 := ⟨gw_i5 88 rfl rfl, gw_i1 13 rfl rfl, ⟨by decide +kernel, by decide +kernel⟩, by decide +kernel, by decide⟩
abbrev mX12_pass : My := (RX12, cX12_pass, 4, none, "pass")
theorem cw_X12_pass : Cond.code yX12_pass mX12_pass.2.1 mX12_pass.2.2.1 mX12_pass.2.2.2.1 ∈ gw_s ∧ Cond.initialized yX12_pass.cls ∈ gw_s ∧ (yX12_pass.cls ≠ "java/lang/invoke/MethodHandle" ∧ yX12_pass.cls ≠ "java/lang/invoke/VarHandle") ∧ (parseMethodDescriptor yX12_pass.desc).map (fun d => d.parameters.length) = some 1 ∧ mX12_pass.2.2.1 ≤ 19 := ⟨gw_i5 52 rfl rfl, gw_i1 13 rfl rfl, ⟨by decide +kernel, by decide +kernel⟩, by decide +kernel, by decide⟩
abbrev mX12_goCourt : My := (RX12, cX12_goCourt, 4, some .int, "goCourt")
theorem cw_X12_goCourt : Cond.code yX12_goCourt mX12_goCourt.2.1 mX12_goCourt.2.2.1 mX12_goCourt.2.2.2.1 ∈ gw_s ∧ Cond.initialized yX12_goCourt.cls ∈ gw_s ∧ (yX12_goCourt.cls ≠ "java/lang/invoke/MethodHandle" ∧ yX12_goCourt.cls ≠ "java/lang/invoke/VarHandle") ∧ (parseMethodDescriptor yX12_goCourt.desc).map (fun d => d.parameters.length) = some 0 ∧ mX12_goCourt.2.2.1 ≤ 19 := ⟨gw_i5 44 rfl rfl, gw_i1 13 rfl rfl, ⟨by decide +kernel, by decide +kernel⟩, by decide +kernel, by decide⟩
abbrev mX12_judge : My := (RX12, cX12_judge, 3, some .int, "judge")
theorem cw_X12_judge : Cond.code yX12_judge mX12_judge.2.1 mX12_judge.2.2.1 mX12_judge.2.2.2.1 ∈ gw_s ∧ Cond.initialized yX12_judge.cls ∈ gw_s ∧ (yX12_judge.cls ≠ "java/lang/invoke/MethodHandle" ∧ yX12_judge.cls ≠ "java/lang/invoke/VarHandle") ∧ (parseMethodDescriptor yX12_judge.desc).map (fun d => d.parameters.length) = some 1 ∧ mX12_judge.2.2.1 ≤ 19 := ⟨gw_i5 40 rfl rfl, gw_i1 13 rfl rfl, ⟨by decide +kernel, by decide +kernel⟩, by decide +kernel, by decide⟩
abbrev mX12_barOfCourt : My := (RX12, cX12_barOfCourt, 1, some .int, "barOfCourt")
theorem cw_X12_barOfCourt : Cond.code yX12_barOfCourt mX12_barOfCourt.2.1 mX12_barOfCourt.2.2.1 mX12_barOfCourt.2.2.2.1 ∈ gw_s ∧ Cond.initialized yX12_barOfCourt.cls ∈ gw_s ∧ (yX12_barOfCourt.cls ≠ "java/lang/invoke/MethodHandle" ∧ yX12_barOfCourt.cls ≠ "java/lang/invoke/VarHandle") ∧ (parseMethodDescriptor yX12_barOfCourt.desc).map (fun d => d.parameters.length) = some 0 ∧ mX12_barOfCourt.2.2.1 ≤ 19 := ⟨gw_i5 100 rfl rfl, gw_i1 13 rfl rfl, ⟨by decide +kernel, by decide +kernel⟩, by decide +kernel, by decide⟩
abbrev mX12_done : My := (RX12, cX12_done, 1, some .int, "done")
theorem cw_X12_done : Cond.code yX12_done mX12_done.2.1 mX12_done.2.2.1 mX12_done.2.2.2.1 ∈ gw_s ∧ Cond.initialized yX12_done.cls ∈ gw_s ∧ (yX12_done.cls ≠ "java/lang/invoke/MethodHandle" ∧ yX12_done.cls ≠ "java/lang/invoke/VarHandle") ∧ (parseMethodDescriptor yX12_done.desc).map (fun d => d.parameters.length) = some 0 ∧ mX12_done.2.2.1 ≤ 19 := ⟨gw_i5 96 rfl rfl, gw_i1 13 rfl rfl, ⟨by decide +kernel, by decide +kernel⟩, by decide +kernel, by decide⟩
abbrev mX12_stateNow : My := (RX12, cX12_stateNow, 3, some .int, "stateNow")
theorem cw_X12_stateNow : Cond.code yX12_stateNow mX12_stateNow.2.1 mX12_stateNow.2.2.1 mX12_stateNow.2.2.2.1 ∈ gw_s ∧ Cond.initialized yX12_stateNow.cls ∈ gw_s ∧ (yX12_stateNow.cls ≠ "java/lang/invoke/MethodHandle" ∧ yX12_stateNow.cls ≠ "java/lang/invoke/VarHandle") ∧ (parseMethodDescriptor yX12_stateNow.desc).map (fun d => d.parameters.length) = some 2 ∧ mX12_stateNow.2.2.1 ≤ 19 := ⟨gw_i5 112 rfl rfl, gw_i1 13 rfl rfl, ⟨by decide +kernel, by decide +kernel⟩, by decide +kernel, by decide⟩
abbrev mX12_state : My := (RX12, cX12_state, 3, some .int, "state")
theorem cw_X12_state : Cond.code yX12_state mX12_state.2.1 mX12_state.2.2.1 mX12_state.2.2.2.1 ∈ gw_s ∧ Cond.initialized yX12_state.cls ∈ gw_s ∧ (yX12_state.cls ≠ "java/lang/invoke/MethodHandle" ∧ yX12_state.cls ≠ "java/lang/invoke/VarHandle") ∧ (parseMethodDescriptor yX12_state.desc).map (fun d => d.parameters.length) = some 2 ∧ mX12_state.2.2.1 ≤ 19 := ⟨gw_i5 108 rfl rfl, gw_i1 13 rfl rfl, ⟨by decide +kernel, by decide +kernel⟩, by decide +kernel, by decide⟩
abbrev mX12_behind : My := (RX12, cX12_behind, 3, some .int, "behind")
theorem cw_X12_behind : Cond.code yX12_behind mX12_behind.2.1 mX12_behind.2.2.1 mX12_behind.2.2.2.1 ∈ gw_s ∧ Cond.initialized yX12_behind.cls ∈ gw_s ∧ (yX12_behind.cls ≠ "java/lang/invoke/MethodHandle" ∧ yX12_behind.cls ≠ "java/lang/invoke/VarHandle") ∧ (parseMethodDescriptor yX12_behind.desc).map (fun d => d.parameters.length) = some 2 ∧ mX12_behind.2.2.1 ≤ 19 := ⟨gw_i5 116 rfl rfl, gw_i1 13 rfl rfl, ⟨by decide +kernel, by decide +kernel⟩, by decide +kernel, by decide⟩
abbrev mX12_debt : My := (RX12, cX12_debt, 3, some .int, "debt")
theorem cw_X12_debt : Cond.code yX12_debt mX12_debt.2.1 mX12_debt.2.2.1 mX12_debt.2.2.2.1 ∈ gw_s ∧ Cond.initialized yX12_debt.cls ∈ gw_s ∧ (yX12_debt.cls ≠ "java/lang/invoke/MethodHandle" ∧ yX12_debt.cls ≠ "java/lang/invoke/VarHandle") ∧ (parseMethodDescriptor yX12_debt.desc).map (fun d => d.parameters.length) = some 2 ∧ mX12_debt.2.2.1 ≤ 19 := ⟨gw_i5 120 rfl rfl, gw_i1 13 rfl rfl, ⟨by decide +kernel, by decide +kernel⟩, by decide +kernel, by decide⟩
abbrev mX12_arrival : My := (RX12, cX12_arrival, 6, some .int, "arrival")
theorem cw_X12_arrival : Cond.code yX12_arrival mX12_arrival.2.1 mX12_arrival.2.2.1 mX12_arrival.2.2.2.1 ∈ gw_s ∧ Cond.initialized yX12_arrival.cls ∈ gw_s ∧ (yX12_arrival.cls ≠ "java/lang/invoke/MethodHandle" ∧ yX12_arrival.cls ≠ "java/lang/invoke/VarHandle") ∧ (parseMethodDescriptor yX12_arrival.desc).map (fun d => d.parameters.length) = some 2 ∧ mX12_arrival.2.2.1 ≤ 19 := ⟨gw_i5 137 rfl rfl, gw_i1 13 rfl rfl, ⟨by decide +kernel, by decide +kernel⟩, by decide +kernel, by decide⟩
abbrev mX12_layJourneys : My := (RX12, cX12_layJourneys, 7, none, "layJourneys")
theorem cw_X12_layJourneys : Cond.code yX12_layJourneys mX12_layJourneys.2.1 mX12_layJourneys.2.2.1 mX12_layJourneys.2.2.2.1 ∈ gw_s ∧ Cond.initialized yX12_layJourneys.cls ∈ gw_s ∧ (yX12_layJourneys.cls ≠ "java/lang/invoke/MethodHandle" ∧ yX12_layJourneys.cls ≠ "java/lang/invoke/VarHandle") ∧ (parseMethodDescriptor yX12_layJourneys.desc).map (fun d => d.parameters.length) = some 2 ∧ mX12_layJourneys.2.2.1 ≤ 19 := ⟨gw_i5 132 rfl rfl, gw_i1 13 rfl rfl, ⟨by decide +kernel, by decide +kernel⟩, by decide +kernel, by decide⟩
abbrev mX12_isWell : My := (RX12, cX12_isWell, 2, some .boolean, "isWell")
theorem cw_X12_isWell : Cond.code yX12_isWell mX12_isWell.2.1 mX12_isWell.2.2.1 mX12_isWell.2.2.2.1 ∈ gw_s ∧ Cond.initialized yX12_isWell.cls ∈ gw_s ∧ (yX12_isWell.cls ≠ "java/lang/invoke/MethodHandle" ∧ yX12_isWell.cls ≠ "java/lang/invoke/VarHandle") ∧ (parseMethodDescriptor yX12_isWell.desc).map (fun d => d.parameters.length) = some 1 ∧ mX12_isWell.2.2.1 ≤ 19 := ⟨gw_i5 128 rfl rfl, gw_i1 13 rfl rfl, ⟨by decide +kernel, by decide +kernel⟩, by decide +kernel, by decide⟩
abbrev mX12_when : My := (RX12, cX12_when, 3, some .int, "when")
theorem cw_X12_when : Cond.code yX12_when mX12_when.2.1 mX12_when.2.2.1 mX12_when.2.2.2.1 ∈ gw_s ∧ Cond.initialized yX12_when.cls ∈ gw_s ∧ (yX12_when.cls ≠ "java/lang/invoke/MethodHandle" ∧ yX12_when.cls ≠ "java/lang/invoke/VarHandle") ∧ (parseMethodDescriptor yX12_when.desc).map (fun d => d.parameters.length) = some 2 ∧ mX12_when.2.2.1 ≤ 19 := ⟨gw_i5 124 rfl rfl, gw_i1 13 rfl rfl, ⟨by decide +kernel, by decide +kernel⟩, by decide +kernel, by decide⟩
abbrev mX12_inTime : My := (RX12, cX12_inTime, 5, some .int, "inTime")
theorem cw_X12_inTime : Cond.code yX12_inTime mX12_inTime.2.1 mX12_inTime.2.2.1 mX12_inTime.2.2.2.1 ∈ gw_s ∧ Cond.initialized yX12_inTime.cls ∈ gw_s ∧ (yX12_inTime.cls ≠ "java/lang/invoke/MethodHandle" ∧ yX12_inTime.cls ≠ "java/lang/invoke/VarHandle") ∧ (parseMethodDescriptor yX12_inTime.desc).map (fun d => d.parameters.length) = some 1 ∧ mX12_inTime.2.2.1 ≤ 19 := ⟨gw_i5 141 rfl rfl, gw_i1 13 rfl rfl, ⟨by decide +kernel, by decide +kernel⟩, by decide +kernel, by decide⟩
abbrev mX12_canMeet : My := (RX12, cX12_canMeet, 8, some .boolean, "canMeet")
theorem cw_X12_canMeet : Cond.code yX12_canMeet mX12_canMeet.2.1 mX12_canMeet.2.2.1 mX12_canMeet.2.2.2.1 ∈ gw_s ∧ Cond.initialized yX12_canMeet.cls ∈ gw_s ∧ (yX12_canMeet.cls ≠ "java/lang/invoke/MethodHandle" ∧ yX12_canMeet.cls ≠ "java/lang/invoke/VarHandle") ∧ (parseMethodDescriptor yX12_canMeet.desc).map (fun d => d.parameters.length) = some 2 ∧ mX12_canMeet.2.2.1 ≤ 19 := ⟨gw_i5 149 rfl rfl, gw_i1 13 rfl rfl, ⟨by decide +kernel, by decide +kernel⟩, by decide +kernel, by decide⟩
abbrev mX12_round : My := (RX12, cX12_round, 7, some .int, "round")
theorem cw_X12_round : Cond.code yX12_round mX12_round.2.1 mX12_round.2.2.1 mX12_round.2.2.2.1 ∈ gw_s ∧ Cond.initialized yX12_round.cls ∈ gw_s ∧ (yX12_round.cls ≠ "java/lang/invoke/MethodHandle" ∧ yX12_round.cls ≠ "java/lang/invoke/VarHandle") ∧ (parseMethodDescriptor yX12_round.desc).map (fun d => d.parameters.length) = some 2 ∧ mX12_round.2.2.1 ≤ 19 := ⟨gw_i5 145 rfl rfl, gw_i1 13 rfl rfl, ⟨by decide +kernel, by decide +kernel⟩, by decide +kernel, by decide⟩
abbrev mX12_hard : My := (RX12, cX12_hard, 12, some .int, "hard")
theorem cw_X12_hard : Cond.code yX12_hard mX12_hard.2.1 mX12_hard.2.2.1 mX12_hard.2.2.2.1 ∈ gw_s ∧ Cond.initialized yX12_hard.cls ∈ gw_s ∧ (yX12_hard.cls ≠ "java/lang/invoke/MethodHandle" ∧ yX12_hard.cls ≠ "java/lang/invoke/VarHandle") ∧ (parseMethodDescriptor yX12_hard.desc).map (fun d => d.parameters.length) = some 5 ∧ mX12_hard.2.2.1 ≤ 19 := ⟨gw_i5 153 rfl rfl, gw_i1 13 rfl rfl, ⟨by decide +kernel, by decide +kernel⟩, by decide +kernel, by decide⟩
abbrev mX12_layBalance : My := (RX12, cX12_layBalance, 2, none, "layBalance")
theorem cw_X12_layBalance : Cond.code yX12_layBalance mX12_layBalance.2.1 mX12_layBalance.2.2.1 mX12_layBalance.2.2.2.1 ∈ gw_s ∧ Cond.initialized yX12_layBalance.cls ∈ gw_s ∧ (yX12_layBalance.cls ≠ "java/lang/invoke/MethodHandle" ∧ yX12_layBalance.cls ≠ "java/lang/invoke/VarHandle") ∧ (parseMethodDescriptor yX12_layBalance.desc).map (fun d => d.parameters.length) = some 0 ∧ mX12_layBalance.2.2.1 ≤ 19 := ⟨gw_i5 162 rfl rfl, gw_i1 13 rfl rfl, ⟨by decide +kernel, by decide +kernel⟩, by decide +kernel, by decide⟩
abbrev mX12_sumOf : My := (RX12, cX12_sumOf, 4, some .int, "sumOf")
theorem cw_X12_sumOf : Cond.code yX12_sumOf mX12_sumOf.2.1 mX12_sumOf.2.2.1 mX12_sumOf.2.2.2.1 ∈ gw_s ∧ Cond.initialized yX12_sumOf.cls ∈ gw_s ∧ (yX12_sumOf.cls ≠ "java/lang/invoke/MethodHandle" ∧ yX12_sumOf.cls ≠ "java/lang/invoke/VarHandle") ∧ (parseMethodDescriptor yX12_sumOf.desc).map (fun d => d.parameters.length) = some 1 ∧ mX12_sumOf.2.2.1 ≤ 19 := ⟨gw_i5 166 rfl rfl, gw_i1 13 rfl rfl, ⟨by decide +kernel, by decide +kernel⟩, by decide +kernel, by decide⟩
abbrev mX12_settled : My := (RX12, cX12_settled, 6, some .int, "settled")
theorem cw_X12_settled : Cond.code yX12_settled mX12_settled.2.1 mX12_settled.2.2.1 mX12_settled.2.2.2.1 ∈ gw_s ∧ Cond.initialized yX12_settled.cls ∈ gw_s ∧ (yX12_settled.cls ≠ "java/lang/invoke/MethodHandle" ∧ yX12_settled.cls ≠ "java/lang/invoke/VarHandle") ∧ (parseMethodDescriptor yX12_settled.desc).map (fun d => d.parameters.length) = some 0 ∧ mX12_settled.2.2.1 ≤ 19 := ⟨gw_i5 158 rfl rfl, gw_i1 13 rfl rfl, ⟨by decide +kernel, by decide +kernel⟩, by decide +kernel, by decide⟩
abbrev mX12_owes : My := (RX12, cX12_owes, 5, some .boolean, "owes")
theorem cw_X12_owes : Cond.code yX12_owes mX12_owes.2.1 mX12_owes.2.2.1 mX12_owes.2.2.2.1 ∈ gw_s ∧ Cond.initialized yX12_owes.cls ∈ gw_s ∧ (yX12_owes.cls ≠ "java/lang/invoke/MethodHandle" ∧ yX12_owes.cls ≠ "java/lang/invoke/VarHandle") ∧ (parseMethodDescriptor yX12_owes.desc).map (fun d => d.parameters.length) = some 2 ∧ mX12_owes.2.2.1 ≤ 19 := ⟨gw_i5 174 rfl rfl, gw_i1 13 rfl rfl, ⟨by decide +kernel, by decide +kernel⟩, by decide +kernel, by decide⟩
abbrev mX12_ring : My := (RX12, cX12_ring, 8, some .int, "ring")
theorem cw_X12_ring : Cond.code yX12_ring mX12_ring.2.1 mX12_ring.2.2.1 mX12_ring.2.2.2.1 ∈ gw_s ∧ Cond.initialized yX12_ring.cls ∈ gw_s ∧ (yX12_ring.cls ≠ "java/lang/invoke/MethodHandle" ∧ yX12_ring.cls ≠ "java/lang/invoke/VarHandle") ∧ (parseMethodDescriptor yX12_ring.desc).map (fun d => d.parameters.length) = some 0 ∧ mX12_ring.2.2.1 ≤ 19 := ⟨gw_i5 170 rfl rfl, gw_i1 13 rfl rfl, ⟨by decide +kernel, by decide +kernel⟩, by decide +kernel, by decide⟩
abbrev mX12_reckoned : My := (RX12, cX12_reckoned, 6, some .int, "reckoned")
theorem cw_X12_reckoned : Cond.code yX12_reckoned mX12_reckoned.2.1 mX12_reckoned.2.2.1 mX12_reckoned.2.2.2.1 ∈ gw_s ∧ Cond.initialized yX12_reckoned.cls ∈ gw_s ∧ (yX12_reckoned.cls ≠ "java/lang/invoke/MethodHandle" ∧ yX12_reckoned.cls ≠ "java/lang/invoke/VarHandle") ∧ (parseMethodDescriptor yX12_reckoned.desc).map (fun d => d.parameters.length) = some 3 ∧ mX12_reckoned.2.2.1 ≤ 19 := ⟨gw_i5 178 rfl rfl, gw_i1 13 rfl rfl, ⟨by decide +kernel, by decide +kernel⟩, by decide +kernel, by decide⟩
abbrev mX12_tens : My := (RX12, cX12_tens, 4, some .long, "tens")
theorem cw_X12_tens : Cond.code yX12_tens mX12_tens.2.1 mX12_tens.2.2.1 mX12_tens.2.2.2.1 ∈ gw_s ∧ Cond.initialized yX12_tens.cls ∈ gw_s ∧ (yX12_tens.cls ≠ "java/lang/invoke/MethodHandle" ∧ yX12_tens.cls ≠ "java/lang/invoke/VarHandle") ∧ (parseMethodDescriptor yX12_tens.desc).map (fun d => d.parameters.length) = some 1 ∧ mX12_tens.2.2.1 ≤ 19 := ⟨gw_i5 191 rfl rfl, gw_i1 13 rfl rfl, ⟨by decide +kernel, by decide +kernel⟩, by decide +kernel, by decide⟩
abbrev mX12_hosted : My := (RX12, cX12_hosted, 15, some .long, "hosted")
theorem cw_X12_hosted : Cond.code yX12_hosted mX12_hosted.2.1 mX12_hosted.2.2.1 mX12_hosted.2.2.2.1 ∈ gw_s ∧ Cond.initialized yX12_hosted.cls ∈ gw_s ∧ (yX12_hosted.cls ≠ "java/lang/invoke/MethodHandle" ∧ yX12_hosted.cls ≠ "java/lang/invoke/VarHandle") ∧ (parseMethodDescriptor yX12_hosted.desc).map (fun d => d.parameters.length) = some 3 ∧ mX12_hosted.2.2.1 ≤ 19 := ⟨gw_i5 188 rfl rfl, gw_i1 13 rfl rfl, ⟨by decide +kernel, by decide +kernel⟩, by decide +kernel, by decide⟩
abbrev mX12_kept : My := (RX12, cX12_kept, 15, some .long, "kept")
theorem cw_X12_kept : Cond.code yX12_kept mX12_kept.2.1 mX12_kept.2.2.1 mX12_kept.2.2.2.1 ∈ gw_s ∧ Cond.initialized yX12_kept.cls ∈ gw_s ∧ (yX12_kept.cls ≠ "java/lang/invoke/MethodHandle" ∧ yX12_kept.cls ≠ "java/lang/invoke/VarHandle") ∧ (parseMethodDescriptor yX12_kept.desc).map (fun d => d.parameters.length) = some 4 ∧ mX12_kept.2.2.1 ≤ 19 := ⟨gw_i5 183 rfl rfl, gw_i1 13 rfl rfl, ⟨by decide +kernel, by decide +kernel⟩, by decide +kernel, by decide⟩
abbrev mX12_keeps : My := (RX12, cX12_keeps, 4, some .int, "keeps")
theorem cw_X12_keeps : Cond.code yX12_keeps mX12_keeps.2.1 mX12_keeps.2.2.1 mX12_keeps.2.2.2.1 ∈ gw_s ∧ Cond.initialized yX12_keeps.cls ∈ gw_s ∧ (yX12_keeps.cls ≠ "java/lang/invoke/MethodHandle" ∧ yX12_keeps.cls ≠ "java/lang/invoke/VarHandle") ∧ (parseMethodDescriptor yX12_keeps.desc).map (fun d => d.parameters.length) = some 3 ∧ mX12_keeps.2.2.1 ≤ 19 := ⟨gw_i5 196 rfl rfl, gw_i1 13 rfl rfl, ⟨by decide +kernel, by decide +kernel⟩, by decide +kernel, by decide⟩
abbrev mX12_seen : My := (RX12, cX12_seen, 3, some .int, "seen")
theorem cw_X12_seen : Cond.code yX12_seen mX12_seen.2.1 mX12_seen.2.2.1 mX12_seen.2.2.2.1 ∈ gw_s ∧ Cond.initialized yX12_seen.cls ∈ gw_s ∧ (yX12_seen.cls ≠ "java/lang/invoke/MethodHandle" ∧ yX12_seen.cls ≠ "java/lang/invoke/VarHandle") ∧ (parseMethodDescriptor yX12_seen.desc).map (fun d => d.parameters.length) = some 2 ∧ mX12_seen.2.2.1 ≤ 19 := ⟨gw_i5 200 rfl rfl, gw_i1 13 rfl rfl, ⟨by decide +kernel, by decide +kernel⟩, by decide +kernel, by decide⟩
abbrev mX12_forget : My := (RX12, cX12_forget, 2, some .int, "forget")
theorem cw_X12_forget : Cond.code yX12_forget mX12_forget.2.1 mX12_forget.2.2.1 mX12_forget.2.2.2.1 ∈ gw_s ∧ Cond.initialized yX12_forget.cls ∈ gw_s ∧ (yX12_forget.cls ≠ "java/lang/invoke/MethodHandle" ∧ yX12_forget.cls ≠ "java/lang/invoke/VarHandle") ∧ (parseMethodDescriptor yX12_forget.desc).map (fun d => d.parameters.length) = some 0 ∧ mX12_forget.2.2.1 ≤ 19 := ⟨gw_i5 204 rfl rfl, gw_i1 13 rfl rfl, ⟨by decide +kernel, by decide +kernel⟩, by decide +kernel, by decide⟩
abbrev mX12_who : My := (RX12, cX12_who, 12, some .int, "who")
theorem cw_X12_who : Cond.code yX12_who mX12_who.2.1 mX12_who.2.2.1 mX12_who.2.2.2.1 ∈ gw_s ∧ Cond.initialized yX12_who.cls ∈ gw_s ∧ (yX12_who.cls ≠ "java/lang/invoke/MethodHandle" ∧ yX12_who.cls ≠ "java/lang/invoke/VarHandle") ∧ (parseMethodDescriptor yX12_who.desc).map (fun d => d.parameters.length) = some 1 ∧ mX12_who.2.2.1 ≤ 19 := ⟨gw_i5 208 rfl rfl, gw_i1 13 rfl rfl, ⟨by decide +kernel, by decide +kernel⟩, by decide +kernel, by decide⟩
abbrev mX12_snow : My := (RX12, cX12_snow, 15, some .long, "snow")
theorem cw_X12_snow : Cond.code yX12_snow mX12_snow.2.1 mX12_snow.2.2.1 mX12_snow.2.2.2.1 ∈ gw_s ∧ Cond.initialized yX12_snow.cls ∈ gw_s ∧ (yX12_snow.cls ≠ "java/lang/invoke/MethodHandle" ∧ yX12_snow.cls ≠ "java/lang/invoke/VarHandle") ∧ (parseMethodDescriptor yX12_snow.desc).map (fun d => d.parameters.length) = some 4 ∧ mX12_snow.2.2.1 ≤ 19 := ⟨gw_i5 212 rfl rfl, gw_i1 13 rfl rfl, ⟨by decide +kernel, by decide +kernel⟩, by decide +kernel, by decide⟩
abbrev mX12_year : My := (RX12, cX12_year, 10, some .int, "year")
theorem cw_X12_year : Cond.code yX12_year mX12_year.2.1 mX12_year.2.2.1 mX12_year.2.2.2.1 ∈ gw_s ∧ Cond.initialized yX12_year.cls ∈ gw_s ∧ (yX12_year.cls ≠ "java/lang/invoke/MethodHandle" ∧ yX12_year.cls ≠ "java/lang/invoke/VarHandle") ∧ (parseMethodDescriptor yX12_year.desc).map (fun d => d.parameters.length) = some 3 ∧ mX12_year.2.2.1 ≤ 19 := ⟨gw_i5 216 rfl rfl, gw_i1 13 rfl rfl, ⟨by decide +kernel, by decide +kernel⟩, by decide +kernel, by decide⟩
abbrev mX12_image : My := (RX12, cX12_image, 4, some .int, "image")
theorem cw_X12_image : Cond.code yX12_image mX12_image.2.1 mX12_image.2.2.1 mX12_image.2.2.2.1 ∈ gw_s ∧ Cond.initialized yX12_image.cls ∈ gw_s ∧ (yX12_image.cls ≠ "java/lang/invoke/MethodHandle" ∧ yX12_image.cls ≠ "java/lang/invoke/VarHandle") ∧ (parseMethodDescriptor yX12_image.desc).map (fun d => d.parameters.length) = some 1 ∧ mX12_image.2.2.1 ≤ 19 := ⟨gw_i5 221 rfl rfl, gw_i1 13 rfl rfl, ⟨by decide +kernel, by decide +kernel⟩, by decide +kernel, by decide⟩
abbrev mX12_restore : My := (RX12, cX12_restore, 4, some .int, "restore")
theorem cw_X12_restore : Cond.code yX12_restore mX12_restore.2.1 mX12_restore.2.2.1 mX12_restore.2.2.2.1 ∈ gw_s ∧ Cond.initialized yX12_restore.cls ∈ gw_s ∧ (yX12_restore.cls ≠ "java/lang/invoke/MethodHandle" ∧ yX12_restore.cls ≠ "java/lang/invoke/VarHandle") ∧ (parseMethodDescriptor yX12_restore.desc).map (fun d => d.parameters.length) = some 1 ∧ mX12_restore.2.2.1 ≤ 19 := ⟨gw_i5 225 rfl rfl, gw_i1 13 rfl rfl, ⟨by decide +kernel, by decide +kernel⟩, by decide +kernel, by decide⟩
abbrev mX12_told : My := (RX12, cX12_told, 4, some .int, "told")
theorem cw_X12_told : Cond.code yX12_told mX12_told.2.1 mX12_told.2.2.1 mX12_told.2.2.2.1 ∈ gw_s ∧ Cond.initialized yX12_told.cls ∈ gw_s ∧ (yX12_told.cls ≠ "java/lang/invoke/MethodHandle" ∧ yX12_told.cls ≠ "java/lang/invoke/VarHandle") ∧ (parseMethodDescriptor yX12_told.desc).map (fun d => d.parameters.length) = some 1 ∧ mX12_told.2.2.1 ≤ 19 := ⟨gw_i5 229 rfl rfl, gw_i1 13 rfl rfl, ⟨by decide +kernel, by decide +kernel⟩, by decide +kernel, by decide⟩
theorem cc_X0_3 : Cond.methodLink RX0 3 Lib.objectInit ∈ gw_s := gw_i1 47 rfl rfl
theorem cc_X0_11 : cn_k RX0 11 yX5_init mX5_init 0 := ⟨⟨Or.inr ⟨"BlowOwed", nw_i1 50 rfl rfl⟩, cw_X5_init⟩, rfl, gw_i1 51 rfl rfl, rfl⟩
theorem cc_X0_26 : cn_k RX0 26 yX2_init mX2_init 0 := ⟨⟨Or.inr ⟨"BlowOwed", nw_i1 73 rfl rfl⟩, cw_X2_init⟩, rfl, gw_i1 74 rfl rfl, rfl⟩
theorem cc_X0_33 : cn_k RX0 33 yX9_init mX9_init 0 := ⟨⟨Or.inr ⟨"BlowOwed", nw_i1 133 rfl rfl⟩, cw_X9_init⟩, rfl, gw_i1 134 rfl rfl, rfl⟩
theorem cc_X0_38 : cn_k RX0 38 yX4_init mX4_init 0 := ⟨⟨Or.inr ⟨"BlowOwed", nw_i1 153 rfl rfl⟩, cw_X4_init⟩, rfl, gw_i1 154 rfl rfl, rfl⟩
theorem cc_X0_43 : cv_k RX0 43 yX5_copy mX5_copy 1 5 := ⟨⟨Or.inr ⟨"BlowOwed", nw_i2 227 rfl rfl⟩, cw_X5_copy⟩, gw_i2 229 rfl rfl, gw_i0 21 rfl rfl, by decide, rfl⟩
theorem cc_X0_47 : cv_k RX0 47 yX4_copy mX4_copy 1 4 := ⟨⟨Or.inr ⟨"BlowOwed", nw_i2 234 rfl rfl⟩, cw_X4_copy⟩, gw_i2 236 rfl rfl, gw_i0 22 rfl rfl, by decide, rfl⟩
theorem cc_X0_50 : cv_k RX0 50 yX2_copy mX2_copy 1 2 := ⟨⟨Or.inr ⟨"BlowOwed", nw_i2 238 rfl rfl⟩, cw_X2_copy⟩, gw_i3 0 rfl rfl, gw_i0 23 rfl rfl, by decide, rfl⟩
theorem cc_X0_53 : cv_k RX0 53 yX9_copy mX9_copy 1 9 := ⟨⟨Or.inr ⟨"BlowOwed", nw_i3 6 rfl rfl⟩, cw_X9_copy⟩, gw_i3 8 rfl rfl, gw_i0 25 rfl rfl, by decide, rfl⟩
theorem cc_X0_67 : cs_k RX0 67 yJ7_fill_53178 mJ7_fill_53178 2 := ⟨⟨Or.inl (gw_i2 96 rfl rfl), cw_J7_fill_53178⟩, gw_i2 97 rfl rfl⟩
theorem cc_X0_73 : cv_k RX0 73 yX4_leave mX4_leave 0 4 := ⟨⟨Or.inr ⟨"BlowOwed", nw_i2 99 rfl rfl⟩, cw_X4_leave⟩, gw_i2 101 rfl rfl, gw_i0 1 rfl rfl, by decide, rfl⟩
theorem cc_X0_84 : cv_k RX0 84 yX0_knightBits mX0_knightBits 0 0 := ⟨⟨Or.inl (gw_i2 140 rfl rfl), cw_X0_knightBits⟩, gw_i2 142 rfl rfl, gw_i0 8 rfl rfl, by decide, rfl⟩
theorem cc_X0_88 : cs_k RX0 88 yJ6_bitCount_0f7a4 mJ6_bitCount_0f7a4 1 := ⟨⟨Or.inl (gw_i2 144 rfl rfl), cw_J6_bitCount_0f7a4⟩, gw_i2 145 rfl rfl⟩
theorem cc_X0_94 : cv_k RX0 94 yX4_isDead mX4_isDead 0 4 := ⟨⟨Or.inr ⟨"BlowOwed", nw_i3 37 rfl rfl⟩, cw_X4_isDead⟩, gw_i3 39 rfl rfl, gw_i0 30 rfl rfl, by decide, rfl⟩
theorem cc_X0_101 : cv_k RX0 101 yX0_knightAt mX0_knightAt 1 0 := ⟨⟨Or.inl (gw_i3 21 rfl rfl), cw_X0_knightAt⟩, gw_i2 130 rfl rfl, gw_i0 5 rfl rfl, by decide, rfl⟩
theorem cc_X0_105 : cv_k RX0 105 yX4_isAlive mX4_isAlive 0 4 := ⟨⟨Or.inr ⟨"BlowOwed", nw_i3 32 rfl rfl⟩, cw_X4_isAlive⟩, gw_i2 156 rfl rfl, gw_i0 9 rfl rfl, by decide, rfl⟩
theorem cc_X0_117 : cv_k RX0 117 yX0_wound mX0_wound 2 0 := ⟨⟨Or.inl (gw_i3 33 rfl rfl), cw_X0_wound⟩, gw_i3 35 rfl rfl, gw_i0 29 rfl rfl, by decide, rfl⟩
theorem cc_X0_121 : cv_k RX0 121 yX2_sweep mX2_sweep 0 2 := ⟨⟨Or.inr ⟨"BlowOwed", nw_i3 22 rfl rfl⟩, cw_X2_sweep⟩, gw_i2 165 rfl rfl, gw_i0 11 rfl rfl, by decide, rfl⟩
theorem cc_X0_127 : cv_k RX0 127 yX2_add mX2_add 4 2 := ⟨⟨Or.inr ⟨"BlowOwed", nw_i3 45 rfl rfl⟩, cw_X2_add⟩, gw_i3 47 rfl rfl, gw_i0 32 rfl rfl, by decide, rfl⟩
theorem cc_X0_131 : cv_k RX0 131 yX0_whyNotActing mX0_whyNotActing 1 0 := ⟨⟨Or.inl (gw_i3 53 rfl rfl), cw_X0_whyNotActing⟩, gw_i3 55 rfl rfl, gw_i0 34 rfl rfl, by decide, rfl⟩
theorem cc_X0_134 : cv_k RX0 134 yX5_daysUnderWay mX5_daysUnderWay 3 5 := ⟨⟨Or.inr ⟨"BlowOwed", nw_i3 88 rfl rfl⟩, cw_X5_daysUnderWay⟩, gw_i3 90 rfl rfl, gw_i0 42 rfl rfl, by decide, rfl⟩
theorem cc_X0_138 : cv_k RX0 138 yX2_findDueTo mX2_findDueTo 2 2 := ⟨⟨Or.inr ⟨"BlowOwed", nw_i3 57 rfl rfl⟩, cw_X2_findDueTo⟩, gw_i3 59 rfl rfl, gw_i0 35 rfl rfl, by decide, rfl⟩
theorem cc_X0_145 : cv_k RX0 145 yX4_isIn mX4_isIn 1 4 := ⟨⟨Or.inr ⟨"BlowOwed", nw_i3 61 rfl rfl⟩, cw_X4_isIn⟩, gw_i3 63 rfl rfl, gw_i0 36 rfl rfl, by decide, rfl⟩
theorem cc_X0_149 : cv_k RX0 149 yX0_giveBackOne mX0_giveBackOne 2 0 := ⟨⟨Or.inl (gw_i3 65 rfl rfl), cw_X0_giveBackOne⟩, gw_i3 67 rfl rfl, gw_i0 37 rfl rfl, by decide, rfl⟩
theorem cc_X0_153 : cv_k RX0 153 yX2_has mX2_has 1 2 := ⟨⟨Or.inr ⟨"BlowOwed", nw_i3 69 rfl rfl⟩, cw_X2_has⟩, gw_i3 71 rfl rfl, gw_i0 38 rfl rfl, by decide, rfl⟩
theorem cc_X0_171 : cs_k RX0 171 yJ9_min_7cf53 mJ9_min_7cf53 2 := ⟨⟨Or.inl (gw_i3 73 rfl rfl), cw_J9_min_7cf53⟩, gw_i3 74 rfl rfl⟩
theorem cc_X0_183 : cs_k RX0 183 yJ9_max_7cf53 mJ9_max_7cf53 2 := ⟨⟨Or.inl (gw_i3 23 rfl rfl), cw_J9_max_7cf53⟩, gw_i3 24 rfl rfl⟩
theorem cc_X0_186 : cv_k RX0 186 yX2_endAllOf mX2_endAllOf 1 2 := ⟨⟨Or.inr ⟨"BlowOwed", nw_i3 41 rfl rfl⟩, cw_X2_endAllOf⟩, gw_i3 43 rfl rfl, gw_i0 31 rfl rfl, by decide, rfl⟩
theorem cc_X1_1 : Cond.methodLink RX1 1 Lib.objectInit ∈ gw_s := gw_i1 83 rfl rfl
theorem cc_X10_3 : Cond.methodLink RX10 3 Lib.objectInit ∈ gw_s := gw_i1 228 rfl rfl
theorem cc_X10_11 : cn_k RX10 11 yX0_init mX0_init 0 := ⟨⟨Or.inr ⟨"BlowOwed", nw_i1 230 rfl rfl⟩, cw_X0_init⟩, rfl, gw_i1 45 rfl rfl, rfl⟩
theorem cc_X10_18 : cv_k RX10 18 yX0_copy mX0_copy 1 0 := ⟨⟨Or.inr ⟨"BlowOwed", nw_i2 223 rfl rfl⟩, cw_X0_copy⟩, gw_i2 225 rfl rfl, gw_i0 20 rfl rfl, by decide, rfl⟩
theorem cc_X10_34 : cv_k RX10 34 yX10_tryAct mX10_tryAct 2 10 := ⟨⟨Or.inl (gw_i3 11 rfl rfl), cw_X10_tryAct⟩, gw_i3 13 rfl rfl, gw_i0 26 rfl rfl, by decide, rfl⟩
theorem cc_X10_38 : cv_k RX10 38 yX7_signsOfAct mX7_signsOfAct 1 7 := ⟨⟨Or.inr ⟨"BlowOwed", nw_i3 100 rfl rfl⟩, cw_X7_signsOfAct⟩, gw_i2 212 rfl rfl, gw_i0 18 rfl rfl, by decide, rfl⟩
theorem cc_X10_42 : cv_k RX10 42 yX7_signAt mX7_signAt 1 7 := ⟨⟨Or.inr ⟨"BlowOwed", nw_i3 15 rfl rfl⟩, cw_X7_signAt⟩, gw_i2 193 rfl rfl, gw_i0 15 rfl rfl, by decide, rfl⟩
theorem cc_X10_45 : cs_k RX10 45 yX7_daysOf mX7_daysOf 1 := ⟨⟨Or.inr ⟨"BlowOwed", nw_i3 16 rfl rfl⟩, cw_X7_daysOf⟩, gw_i2 196 rfl rfl⟩
theorem cc_X10_48 : cv_k RX10 48 yX0_passDays mX0_passDays 1 0 := ⟨⟨Or.inr ⟨"BlowOwed", nw_i3 17 rfl rfl⟩, cw_X0_passDays⟩, gw_i3 19 rfl rfl, gw_i0 27 rfl rfl, by decide, rfl⟩
theorem cc_X10_52 : cs_k RX10 52 yX7_isLetter mX7_isLetter 1 := ⟨⟨Or.inr ⟨"BlowOwed", nw_i3 26 rfl rfl⟩, cw_X7_isLetter⟩, gw_i2 199 rfl rfl⟩
theorem cc_X10_56 : cv_k RX10 56 yX7_numberAt mX7_numberAt 1 7 := ⟨⟨Or.inr ⟨"BlowOwed", nw_i3 27 rfl rfl⟩, cw_X7_numberAt⟩, gw_i2 208 rfl rfl, gw_i0 17 rfl rfl, by decide, rfl⟩
theorem cc_X10_59 : cv_k RX10 59 yX0_tryStrike mX0_tryStrike 3 0 := ⟨⟨Or.inr ⟨"BlowOwed", nw_i3 28 rfl rfl⟩, cw_X0_tryStrike⟩, gw_i3 30 rfl rfl, gw_i0 28 rfl rfl, by decide, rfl⟩
theorem cc_X10_63 : cv_k RX10 63 yX0_tryGiveBack mX0_tryGiveBack 1 0 := ⟨⟨Or.inr ⟨"BlowOwed", nw_i3 49 rfl rfl⟩, cw_X0_tryGiveBack⟩, gw_i3 51 rfl rfl, gw_i0 33 rfl rfl, by decide, rfl⟩
theorem cc_X10_66 : cv_k RX10 66 yX0_tryFlinch mX0_tryFlinch 1 0 := ⟨⟨Or.inr ⟨"BlowOwed", nw_i3 76 rfl rfl⟩, cw_X0_tryFlinch⟩, gw_i3 78 rfl rfl, gw_i0 39 rfl rfl, by decide, rfl⟩
theorem cc_X10_69 : cv_k RX10 69 yX0_tryRemit mX0_tryRemit 1 0 := ⟨⟨Or.inr ⟨"BlowOwed", nw_i3 80 rfl rfl⟩, cw_X0_tryRemit⟩, gw_i3 82 rfl rfl, gw_i0 40 rfl rfl, by decide, rfl⟩
theorem cc_X10_72 : cv_k RX10 72 yX0_trySetOut mX0_trySetOut 2 0 := ⟨⟨Or.inr ⟨"BlowOwed", nw_i3 84 rfl rfl⟩, cw_X0_trySetOut⟩, gw_i3 86 rfl rfl, gw_i0 41 rfl rfl, by decide, rfl⟩
theorem cc_X11_1 : Cond.methodLink RX11 1 Lib.objectInit ∈ gw_s := gw_i1 23 rfl rfl
theorem cc_X11_9 : cn_k RX11 9 yX7_init mX7_init 0 := ⟨⟨Or.inr ⟨"BlowOwed", nw_i1 28 rfl rfl⟩, cw_X7_init⟩, rfl, gw_i1 29 rfl rfl, rfl⟩
theorem cc_X11_18 : cn_k RX11 18 yX0_init mX0_init 0 := ⟨⟨Or.inr ⟨"BlowOwed", nw_i1 44 rfl rfl⟩, cw_X0_init⟩, rfl, gw_i1 45 rfl rfl, rfl⟩
theorem cc_X11_29 : cn_k RX11 29 yX10_init mX10_init 0 := ⟨⟨Or.inr ⟨"BlowOwed", nw_i1 225 rfl rfl⟩, cw_X10_init⟩, rfl, gw_i1 226 rfl rfl, rfl⟩
theorem cc_X11_36 : cn_k RX11 36 yX3_init mX3_init 0 := ⟨⟨Or.inr ⟨"BlowOwed", nw_i2 14 rfl rfl⟩, cw_X3_init⟩, rfl, gw_i2 15 rfl rfl, rfl⟩
theorem cc_X11_43 : cn_k RX11 43 yX6_init mX6_init 0 := ⟨⟨Or.inr ⟨"BlowOwed", nw_i2 30 rfl rfl⟩, cw_X6_init⟩, rfl, gw_i2 31 rfl rfl, rfl⟩
theorem cc_X11_50 : cn_k RX11 50 yX8_init mX8_init 0 := ⟨⟨Or.inr ⟨"BlowOwed", nw_i2 43 rfl rfl⟩, cw_X8_init⟩, rfl, gw_i2 44 rfl rfl, rfl⟩
theorem cc_X11_55 : cs_k RX11 55 yX11_isWithin mX11_isWithin 3 := ⟨⟨Or.inl (gw_i2 89 rfl rfl), cw_X11_isWithin⟩, gw_i2 90 rfl rfl⟩
theorem cc_X11_69 : cv_k RX11 69 yX0_beginAnew mX0_beginAnew 1 0 := ⟨⟨Or.inr ⟨"BlowOwed", nw_i2 92 rfl rfl⟩, cw_X0_beginAnew⟩, gw_i2 94 rfl rfl, gw_i0 0 rfl rfl, by decide, rfl⟩
theorem cc_X11_73 : cv_k RX11 73 yX5_hasChapel mX5_hasChapel 1 5 := ⟨⟨Or.inr ⟨"BlowOwed", nw_i2 107 rfl rfl⟩, cw_X5_hasChapel⟩, gw_i2 109 rfl rfl, gw_i0 2 rfl rfl, by decide, rfl⟩
theorem cc_X11_77 : cv_k RX11 77 yX5_roadDays mX5_roadDays 2 5 := ⟨⟨Or.inr ⟨"BlowOwed", nw_i2 111 rfl rfl⟩, cw_X5_roadDays⟩, gw_i2 113 rfl rfl, gw_i0 3 rfl rfl, by decide, rfl⟩
theorem cc_X11_81 : cv_k RX11 81 yX5_layRoad mX5_layRoad 3 5 := ⟨⟨Or.inr ⟨"BlowOwed", nw_i2 115 rfl rfl⟩, cw_X5_layRoad⟩, gw_i2 117 rfl rfl, gw_i0 4 rfl rfl, by decide, rfl⟩
theorem cc_X11_97 : cv_k RX11 97 yX0_knightAt mX0_knightAt 1 0 := ⟨⟨Or.inr ⟨"BlowOwed", nw_i2 128 rfl rfl⟩, cw_X0_knightAt⟩, gw_i2 130 rfl rfl, gw_i0 5 rfl rfl, by decide, rfl⟩
theorem cc_X11_107 : cv_k RX11 107 yX4_come mX4_come 4 4 := ⟨⟨Or.inr ⟨"BlowOwed", nw_i2 132 rfl rfl⟩, cw_X4_come⟩, gw_i2 134 rfl rfl, gw_i0 6 rfl rfl, by decide, rfl⟩
theorem cc_X11_111 : cv_k RX11 111 yX0_countKnights mX0_countKnights 0 0 := ⟨⟨Or.inr ⟨"BlowOwed", nw_i2 136 rfl rfl⟩, cw_X0_countKnights⟩, gw_i2 138 rfl rfl, gw_i0 7 rfl rfl, by decide, rfl⟩
theorem cc_X11_115 : cv_k RX11 115 yX4_isAlive mX4_isAlive 0 4 := ⟨⟨Or.inr ⟨"BlowOwed", nw_i2 154 rfl rfl⟩, cw_X4_isAlive⟩, gw_i2 156 rfl rfl, gw_i0 9 rfl rfl, by decide, rfl⟩
theorem cc_X11_119 : cv_k RX11 119 yX4_leave mX4_leave 0 4 := ⟨⟨Or.inr ⟨"BlowOwed", nw_i2 158 rfl rfl⟩, cw_X4_leave⟩, gw_i2 101 rfl rfl, gw_i0 1 rfl rfl, by decide, rfl⟩
theorem cc_X11_122 : cv_k RX11 122 yX2_inherit mX2_inherit 2 2 := ⟨⟨Or.inr ⟨"BlowOwed", nw_i2 159 rfl rfl⟩, cw_X2_inherit⟩, gw_i2 161 rfl rfl, gw_i0 10 rfl rfl, by decide, rfl⟩
theorem cc_X11_127 : cv_k RX11 127 yX7_add mX7_add 1 7 := ⟨⟨Or.inr ⟨"BlowOwed", nw_i2 171 rfl rfl⟩, cw_X7_add⟩, gw_i2 173 rfl rfl, gw_i0 12 rfl rfl, by decide, rfl⟩
theorem cc_X11_130 : cv_k RX11 130 yX7_findFault mX7_findFault 1 7 := ⟨⟨Or.inr ⟨"BlowOwed", nw_i2 183 rfl rfl⟩, cw_X7_findFault⟩, gw_i2 185 rfl rfl, gw_i0 13 rfl rfl, by decide, rfl⟩
theorem cc_X11_134 : cv_k RX11 134 yX11_fault mX11_fault 0 11 := ⟨⟨Or.inl (gw_i2 218 rfl rfl), cw_X11_fault⟩, gw_i2 180 rfl rfl, gw_i2 181 rfl rfl, by decide, rfl⟩
theorem cc_X11_137 : cv_k RX11 137 yX10_hear mX10_hear 2 10 := ⟨⟨Or.inr ⟨"BlowOwed", nw_i2 219 rfl rfl⟩, cw_X10_hear⟩, gw_i2 221 rfl rfl, gw_i0 19 rfl rfl, by decide, rfl⟩
theorem cc_X11_150 : cv_k RX11 150 yX0_copy mX0_copy 1 0 := ⟨⟨Or.inr ⟨"BlowOwed", nw_i3 105 rfl rfl⟩, cw_X0_copy⟩, gw_i2 225 rfl rfl, gw_i0 20 rfl rfl, by decide, rfl⟩
theorem cc_X11_154 : cv_k RX11 154 yX4_tell mX4_tell 1 4 := ⟨⟨Or.inr ⟨"BlowOwed", nw_i3 110 rfl rfl⟩, cw_X4_tell⟩, gw_i3 112 rfl rfl, gw_i0 44 rfl rfl, by decide, rfl⟩
theorem cc_X11_157 : cv_k RX11 157 yX2_has mX2_has 1 2 := ⟨⟨Or.inr ⟨"BlowOwed", nw_i3 123 rfl rfl⟩, cw_X2_has⟩, gw_i3 71 rfl rfl, gw_i0 38 rfl rfl, by decide, rfl⟩
theorem cc_X11_164 : cv_k RX11 164 yX1_tell mX1_tell 1 1 := ⟨⟨Or.inr ⟨"BlowOwed", nw_i3 124 rfl rfl⟩, cw_X1_tell⟩, gw_i3 126 rfl rfl, gw_i0 45 rfl rfl, by decide, rfl⟩
theorem cc_X11_167 : cv_k RX11 167 yX3_firstDay mX3_firstDay 3 3 := ⟨⟨Or.inr ⟨"BlowOwed", nw_i3 132 rfl rfl⟩, cw_X3_firstDay⟩, gw_i3 134 rfl rfl, gw_i0 46 rfl rfl, by decide, rfl⟩
theorem cc_X11_172 : cv_k RX11 172 yX3_metAlone mX3_metAlone 2 3 := ⟨⟨Or.inr ⟨"BlowOwed", nw_i3 161 rfl rfl⟩, cw_X3_metAlone⟩, gw_i3 163 rfl rfl, gw_i0 50 rfl rfl, by decide, rfl⟩
theorem cc_X11_176 : cv_k RX11 176 yX3_mostMet mX3_mostMet 2 3 := ⟨⟨Or.inr ⟨"BlowOwed", nw_i3 173 rfl rfl⟩, cw_X3_mostMet⟩, gw_i3 175 rfl rfl, gw_i0 51 rfl rfl, by decide, rfl⟩
theorem cc_X11_179 : cv_k RX11 179 yX2_countOwedBy mX2_countOwedBy 1 2 := ⟨⟨Or.inr ⟨"BlowOwed", nw_i3 187 rfl rfl⟩, cw_X2_countOwedBy⟩, gw_i3 189 rfl rfl, gw_i0 54 rfl rfl, by decide, rfl⟩
theorem cc_X11_182 : cv_k RX11 182 yX3_findBarred mX3_findBarred 2 3 := ⟨⟨Or.inr ⟨"BlowOwed", nw_i3 191 rfl rfl⟩, cw_X3_findBarred⟩, gw_i3 193 rfl rfl, gw_i0 55 rfl rfl, by decide, rfl⟩
theorem cc_X11_185 : cs_k RX11 185 yX11_bestBlow mX11_bestBlow 4 := ⟨⟨Or.inl (gw_i3 199 rfl rfl), cw_X11_bestBlow⟩, gw_i3 200 rfl rfl⟩
theorem cc_X11_189 : cs_k RX11 189 yX11_gainOf mX11_gainOf 5 := ⟨⟨Or.inl (gw_i3 202 rfl rfl), cw_X11_gainOf⟩, gw_i3 203 rfl rfl⟩
theorem cc_X11_193 : cv_k RX11 193 yX6_fewestPayments mX6_fewestPayments 1 6 := ⟨⟨Or.inr ⟨"BlowOwed", nw_i3 210 rfl rfl⟩, cw_X6_fewestPayments⟩, gw_i3 212 rfl rfl, gw_i0 56 rfl rfl, by decide, rfl⟩
theorem cc_X11_197 : cv_k RX11 197 yX6_shortestRing mX6_shortestRing 1 6 := ⟨⟨Or.inr ⟨"BlowOwed", nw_i3 223 rfl rfl⟩, cw_X6_shortestRing⟩, gw_i3 225 rfl rfl, gw_i0 58 rfl rfl, by decide, rfl⟩
theorem cc_X11_201 : cs_k RX11 201 yX11_leftOver mX11_leftOver 2 := ⟨⟨Or.inl (gw_i4 3 rfl rfl), cw_X11_leftOver⟩, gw_i3 98 rfl rfl⟩
theorem cc_X11_204 : cs_k RX11 204 yX11_cut mX11_cut 2 := ⟨⟨Or.inl (gw_i4 4 rfl rfl), cw_X11_cut⟩, gw_i4 5 rfl rfl⟩
theorem cc_X11_207 : cs_k RX11 207 yJ9_max_7cf53 mJ9_max_7cf53 2 := ⟨⟨Or.inl (gw_i4 7 rfl rfl), cw_J9_max_7cf53⟩, gw_i3 24 rfl rfl⟩
theorem cc_X11_212 : cs_k RX11 212 yX11_areTenths mX11_areTenths 1 := ⟨⟨Or.inl (gw_i4 12 rfl rfl), cw_X11_areTenths⟩, gw_i4 13 rfl rfl⟩
theorem cc_X11_217 : cs_k RX11 217 yX11_mostKept mX11_mostKept 3 := ⟨⟨Or.inl (gw_i4 16 rfl rfl), cw_X11_mostKept⟩, gw_i4 17 rfl rfl⟩
theorem cc_X11_221 : cs_k RX11 221 yX11_tenTo mX11_tenTo 1 := ⟨⟨Or.inl (gw_i4 22 rfl rfl), cw_X11_tenTo⟩, gw_i4 23 rfl rfl⟩
theorem cc_X11_225 : cs_k RX11 225 yX11_partOf mX11_partOf 3 := ⟨⟨Or.inl (gw_i4 35 rfl rfl), cw_X11_partOf⟩, gw_i4 36 rfl rfl⟩
theorem cc_X11_229 : cs_k RX11 229 yX11_keptBack mX11_keptBack 4 := ⟨⟨Or.inl (gw_i4 29 rfl rfl), cw_X11_keptBack⟩, gw_i4 30 rfl rfl⟩
theorem cc_X11_233 : cs_k RX11 233 yX11_exchanged mX11_exchanged 3 := ⟨⟨Or.inl (gw_i4 19 rfl rfl), cw_X11_exchanged⟩, gw_i4 20 rfl rfl⟩
theorem cc_X11_244 : cv_k RX11 244 yX9_add mX9_add 2 9 := ⟨⟨Or.inr ⟨"BlowOwed", nw_i4 49 rfl rfl⟩, cw_X9_add⟩, gw_i4 51 rfl rfl, gw_i0 61 rfl rfl, by decide, rfl⟩
theorem cc_X11_246 : cv_k RX11 246 yX8_fit mX8_fit 1 8 := ⟨⟨Or.inr ⟨"BlowOwed", nw_i4 61 rfl rfl⟩, cw_X8_fit⟩, gw_i4 63 rfl rfl, gw_i0 62 rfl rfl, by decide, rfl⟩
theorem cc_X11_257 : cs_k RX11 257 yX11_goneInTime mX11_goneInTime 3 := ⟨⟨Or.inl (gw_i4 76 rfl rfl), cw_X11_goneInTime⟩, gw_i4 77 rfl rfl⟩
theorem cc_X11_260 : cv_k RX11 260 yX10_draw mX10_draw 3 10 := ⟨⟨Or.inr ⟨"BlowOwed", nw_i4 83 rfl rfl⟩, cw_X10_draw⟩, gw_i4 85 rfl rfl, gw_i0 64 rfl rfl, by decide, rfl⟩
theorem cc_X11_270 : cv_k RX11 270 yX0_sumHonour mX0_sumHonour 0 0 := ⟨⟨Or.inr ⟨"BlowOwed", nw_i4 88 rfl rfl⟩, cw_X0_sumHonour⟩, gw_i4 90 rfl rfl, gw_i0 65 rfl rfl, by decide, rfl⟩
theorem cc_X11_273 : cv_k RX11 273 yX0_countDead mX0_countDead 0 0 := ⟨⟨Or.inr ⟨"BlowOwed", nw_i4 92 rfl rfl⟩, cw_X0_countDead⟩, gw_i4 94 rfl rfl, gw_i0 66 rfl rfl, by decide, rfl⟩
theorem cc_X11_276 : cv_k RX11 276 yX0_knightBits mX0_knightBits 0 0 := ⟨⟨Or.inr ⟨"BlowOwed", nw_i4 108 rfl rfl⟩, cw_X0_knightBits⟩, gw_i2 142 rfl rfl, gw_i0 8 rfl rfl, by decide, rfl⟩
theorem cc_X11_282 : cv_k RX11 282 yX11_toldOfKnight mX11_toldOfKnight 1 11 := ⟨⟨Or.inl (gw_i4 109 rfl rfl), cw_X11_toldOfKnight⟩, gw_i4 111 rfl rfl, gw_i0 67 rfl rfl, by decide, rfl⟩
theorem cc_X11_285 : cv_k RX11 285 yX11_toldOfRoad mX11_toldOfRoad 1 11 := ⟨⟨Or.inl (gw_i4 113 rfl rfl), cw_X11_toldOfRoad⟩, gw_i4 115 rfl rfl, gw_i0 68 rfl rfl, by decide, rfl⟩
theorem cc_X11_297 : cs_k RX11 297 yJ9_min_7cf53 mJ9_min_7cf53 2 := ⟨⟨Or.inl (gw_i3 205 rfl rfl), cw_J9_min_7cf53⟩, gw_i3 74 rfl rfl⟩
theorem cc_X11_300 : cs_k RX11 300 yJ9_max_f86c9 mJ9_max_f86c9 2 := ⟨⟨Or.inl (gw_i4 32 rfl rfl), cw_J9_max_f86c9⟩, gw_i4 33 rfl rfl⟩
theorem cc_X11_305 : cs_k RX11 305 yX11_power mX11_power 2 := ⟨⟨Or.inl (gw_i4 25 rfl rfl), cw_X11_power⟩, gw_i4 26 rfl rfl⟩
theorem cc_X11_309 : cs_k RX11 309 yX11_commonDivisor mX11_commonDivisor 2 := ⟨⟨Or.inl (gw_i4 38 rfl rfl), cw_X11_commonDivisor⟩, gw_i4 39 rfl rfl⟩
theorem cc_X12_1 : Cond.methodLink RX12 1 Lib.objectInit ∈ gw_s := gw_i4 122 rfl rfl
theorem cc_X12_81 : cs_k RX12 81 yX12_in mX12_in 3 := ⟨⟨Or.inl (gw_i4 225 rfl rfl), cw_X12_in⟩, gw_i4 226 rfl rfl⟩
theorem cc_X12_85 : cs_k RX12 85 yX12_has mX12_has 2 := ⟨⟨Or.inl (gw_i5 8 rfl rfl), cw_X12_has⟩, gw_i5 9 rfl rfl⟩
theorem cc_X12_98 : cv_k RX12 98 yX12_isChapel mX12_isChapel 1 12 := ⟨⟨Or.inl (gw_i4 232 rfl rfl), cw_X12_isChapel⟩, gw_i4 234 rfl rfl, gw_i0 69 rfl rfl, by decide, rfl⟩
theorem cc_X12_102 : cv_k RX12 102 yX12_isThere mX12_isThere 1 12 := ⟨⟨Or.inl (gw_i5 4 rfl rfl), cw_X12_isThere⟩, gw_i5 6 rfl rfl, gw_i0 70 rfl rfl, by decide, rfl⟩
theorem cc_X12_105 : cs_k RX12 105 yX12_bits mX12_bits 1 := ⟨⟨Or.inl (gw_i5 11 rfl rfl), cw_X12_bits⟩, gw_i5 12 rfl rfl⟩
theorem cc_X12_112 : cs_k RX12 112 yX12_daysOf mX12_daysOf 1 := ⟨⟨Or.inl (gw_i5 34 rfl rfl), cw_X12_daysOf⟩, gw_i5 35 rfl rfl⟩
theorem cc_X12_115 : cv_k RX12 115 yX12_faultOf mX12_faultOf 0 12 := ⟨⟨Or.inl (gw_i5 30 rfl rfl), cw_X12_faultOf⟩, gw_i5 32 rfl rfl, gw_i0 71 rfl rfl, by decide, rfl⟩
theorem cc_X12_125 : cv_k RX12 125 yX12_forgive mX12_forgive 1 12 := ⟨⟨Or.inl (gw_i5 53 rfl rfl), cw_X12_forgive⟩, gw_i5 55 rfl rfl, gw_i0 75 rfl rfl, by decide, rfl⟩
theorem cc_X12_129 : cv_k RX12 129 yX12_isAlive mX12_isAlive 1 12 := ⟨⟨Or.inl (gw_i5 61 rfl rfl), cw_X12_isAlive⟩, gw_i5 63 rfl rfl, gw_i0 77 rfl rfl, by decide, rfl⟩
theorem cc_X12_132 : cv_k RX12 132 yX12_strike mX12_strike 2 12 := ⟨⟨Or.inl (gw_i5 69 rfl rfl), cw_X12_strike⟩, gw_i5 71 rfl rfl, gw_i0 79 rfl rfl, by decide, rfl⟩
theorem cc_X12_136 : cv_k RX12 136 yX12_isOwed mX12_isOwed 2 12 := ⟨⟨Or.inl (gw_i5 77 rfl rfl), cw_X12_isOwed⟩, gw_i5 79 rfl rfl, gw_i0 81 rfl rfl, by decide, rfl⟩
theorem cc_X12_139 : cv_k RX12 139 yX12_owesHere mX12_owesHere 2 12 := ⟨⟨Or.inl (gw_i5 81 rfl rfl), cw_X12_owesHere⟩, gw_i5 83 rfl rfl, gw_i0 82 rfl rfl, by decide, rfl⟩
theorem cc_X12_142 : cv_k RX12 142 yX12_giveBack mX12_giveBack 1 12 := ⟨⟨Or.inl (gw_i5 89 rfl rfl), cw_X12_giveBack⟩, gw_i5 91 rfl rfl, gw_i0 84 rfl rfl, by decide, rfl⟩
theorem cc_X12_145 : cv_k RX12 145 yX12_asNow mX12_asNow 0 12 := ⟨⟨Or.inl (gw_i5 45 rfl rfl), cw_X12_asNow⟩, gw_i5 47 rfl rfl, gw_i0 73 rfl rfl, by decide, rfl⟩
theorem cc_X12_154 : cv_k RX12 154 yX12_pass mX12_pass 1 12 := ⟨⟨Or.inl (gw_i5 49 rfl rfl), cw_X12_pass⟩, gw_i5 51 rfl rfl, gw_i0 74 rfl rfl, by decide, rfl⟩
theorem cc_X12_157 : cv_k RX12 157 yX12_whyNotStrike mX12_whyNotStrike 3 12 := ⟨⟨Or.inl (gw_i5 57 rfl rfl), cw_X12_whyNotStrike⟩, gw_i5 59 rfl rfl, gw_i0 76 rfl rfl, by decide, rfl⟩
theorem cc_X12_161 : cv_k RX12 161 yX12_hit mX12_hit 3 12 := ⟨⟨Or.inl (gw_i5 65 rfl rfl), cw_X12_hit⟩, gw_i5 67 rfl rfl, gw_i0 78 rfl rfl, by decide, rfl⟩
theorem cc_X12_165 : cv_k RX12 165 yX12_whyNot mX12_whyNot 2 12 := ⟨⟨Or.inl (gw_i5 73 rfl rfl), cw_X12_whyNot⟩, gw_i5 75 rfl rfl, gw_i0 80 rfl rfl, by decide, rfl⟩
theorem cc_X12_169 : cv_k RX12 169 yX12_act mX12_act 2 12 := ⟨⟨Or.inl (gw_i5 85 rfl rfl), cw_X12_act⟩, gw_i5 87 rfl rfl, gw_i0 83 rfl rfl, by decide, rfl⟩
theorem cc_X12_172 : cv_k RX12 172 yX12_goCourt mX12_goCourt 0 12 := ⟨⟨Or.inl (gw_i5 41 rfl rfl), cw_X12_goCourt⟩, gw_i5 43 rfl rfl, gw_i0 72 rfl rfl, by decide, rfl⟩
theorem cc_X12_175 : cv_k RX12 175 yX12_barOfCourt mX12_barOfCourt 0 12 := ⟨⟨Or.inl (gw_i5 97 rfl rfl), cw_X12_barOfCourt⟩, gw_i5 99 rfl rfl, gw_i0 85 rfl rfl, by decide, rfl⟩
theorem cc_X12_178 : cv_k RX12 178 yX12_keep mX12_keep 0 12 := ⟨⟨Or.inl (gw_i5 101 rfl rfl), cw_X12_keep⟩, gw_i5 103 rfl rfl, gw_i0 86 rfl rfl, by decide, rfl⟩
theorem cc_X12_181 : cv_k RX12 181 yX12_stateNow mX12_stateNow 2 12 := ⟨⟨Or.inl (gw_i5 109 rfl rfl), cw_X12_stateNow⟩, gw_i5 111 rfl rfl, gw_i0 87 rfl rfl, by decide, rfl⟩
theorem cc_X12_185 : cv_k RX12 185 yX12_arrival mX12_arrival 2 12 := ⟨⟨Or.inl (gw_i5 134 rfl rfl), cw_X12_arrival⟩, gw_i5 136 rfl rfl, gw_i0 90 rfl rfl, by decide, rfl⟩
theorem cc_X12_188 : cv_k RX12 188 yX12_isWell mX12_isWell 1 12 := ⟨⟨Or.inl (gw_i5 125 rfl rfl), cw_X12_isWell⟩, gw_i5 127 rfl rfl, gw_i0 88 rfl rfl, by decide, rfl⟩
theorem cc_X12_191 : cv_k RX12 191 yX12_layJourneys mX12_layJourneys 2 12 := ⟨⟨Or.inl (gw_i5 129 rfl rfl), cw_X12_layJourneys⟩, gw_i5 131 rfl rfl, gw_i0 89 rfl rfl, by decide, rfl⟩
theorem cc_X12_194 : cv_k RX12 194 yX12_canMeet mX12_canMeet 2 12 := ⟨⟨Or.inl (gw_i5 146 rfl rfl), cw_X12_canMeet⟩, gw_i5 148 rfl rfl, gw_i0 91 rfl rfl, by decide, rfl⟩
theorem cc_X12_198 : cv_k RX12 198 yX12_layBalance mX12_layBalance 0 12 := ⟨⟨Or.inl (gw_i5 159 rfl rfl), cw_X12_layBalance⟩, gw_i5 161 rfl rfl, gw_i0 92 rfl rfl, by decide, rfl⟩
theorem cc_X12_201 : cv_k RX12 201 yX12_sumOf mX12_sumOf 1 12 := ⟨⟨Or.inl (gw_i5 163 rfl rfl), cw_X12_sumOf⟩, gw_i5 165 rfl rfl, gw_i0 93 rfl rfl, by decide, rfl⟩
theorem cc_X12_204 : cv_k RX12 204 yX12_owes mX12_owes 2 12 := ⟨⟨Or.inl (gw_i5 171 rfl rfl), cw_X12_owes⟩, gw_i5 173 rfl rfl, gw_i0 94 rfl rfl, by decide, rfl⟩
theorem cc_X12_210 : cs_k RX12 210 yX12_tens mX12_tens 1 := ⟨⟨Or.inl (gw_i5 189 rfl rfl), cw_X12_tens⟩, gw_i5 190 rfl rfl⟩
theorem cc_X12_220 : cv_k RX12 220 yX12_hosted mX12_hosted 3 12 := ⟨⟨Or.inl (gw_i5 185 rfl rfl), cw_X12_hosted⟩, gw_i5 187 rfl rfl, gw_i0 95 rfl rfl, by decide, rfl⟩
theorem cc_X2_3 : Cond.methodLink RX2 3 Lib.objectInit ∈ gw_s := gw_i1 76 rfl rfl
theorem cc_X2_17 : cn_k RX2 17 yX1_init mX1_init 0 := ⟨⟨Or.inr ⟨"BlowOwed", nw_i1 80 rfl rfl⟩, cw_X1_init⟩, rfl, gw_i1 81 rfl rfl, rfl⟩
theorem cc_X2_34 : cv_k RX2 34 yX1_set mX1_set 4 1 := ⟨⟨Or.inr ⟨"BlowOwed", nw_i3 2 rfl rfl⟩, cw_X1_set⟩, gw_i3 4 rfl rfl, gw_i0 24 rfl rfl, by decide, rfl⟩
theorem cc_X2_42 : cv_k RX2 42 yX2_sweep mX2_sweep 0 2 := ⟨⟨Or.inl (gw_i2 163 rfl rfl), cw_X2_sweep⟩, gw_i2 165 rfl rfl, gw_i0 11 rfl rfl, by decide, rfl⟩
theorem cc_X3_3 : Cond.methodLink RX3 3 Lib.objectInit ∈ gw_s := gw_i2 17 rfl rfl
theorem cc_X3_21 : cv_k RX3 21 yX3_setOff mX3_setOff 2 3 := ⟨⟨Or.inl (gw_i3 136 rfl rfl), cw_X3_setOff⟩, gw_i3 138 rfl rfl, gw_i0 47 rfl rfl, by decide, rfl⟩
theorem cc_X3_25 : cs_k RX3 25 yX3_dayAt mX3_dayAt 2 := ⟨⟨Or.inl (gw_i3 152 rfl rfl), cw_X3_dayAt⟩, gw_i3 153 rfl rfl⟩
theorem cc_X3_41 : cs_k RX3 41 yX3_isMet mX3_isMet 4 := ⟨⟨Or.inl (gw_i3 165 rfl rfl), cw_X3_isMet⟩, gw_i3 166 rfl rfl⟩
theorem cc_X3_45 : cv_k RX3 45 yX3_metAlone mX3_metAlone 2 3 := ⟨⟨Or.inl (gw_i3 177 rfl rfl), cw_X3_metAlone⟩, gw_i3 163 rfl rfl, gw_i0 50 rfl rfl, by decide, rfl⟩
theorem cc_X3_49 : cs_k RX3 49 yJ9_max_7cf53 mJ9_max_7cf53 2 := ⟨⟨Or.inl (gw_i3 178 rfl rfl), cw_J9_max_7cf53⟩, gw_i3 24 rfl rfl⟩
theorem cc_X3_55 : cv_k RX3 55 yX3_lengthen mX3_lengthen 3 3 := ⟨⟨Or.inl (gw_i3 179 rfl rfl), cw_X3_lengthen⟩, gw_i3 181 rfl rfl, gw_i0 52 rfl rfl, by decide, rfl⟩
theorem cc_X3_59 : cv_k RX3 59 yX3_goOnFrom mX3_goOnFrom 2 3 := ⟨⟨Or.inl (gw_i3 183 rfl rfl), cw_X3_goOnFrom⟩, gw_i3 185 rfl rfl, gw_i0 53 rfl rfl, by decide, rfl⟩
theorem cc_X3_62 : cv_k RX3 62 yX0_knightAt mX0_knightAt 1 0 := ⟨⟨Or.inr ⟨"BlowOwed", nw_i3 140 rfl rfl⟩, cw_X0_knightAt⟩, gw_i2 130 rfl rfl, gw_i0 5 rfl rfl, by decide, rfl⟩
theorem cc_X3_81 : cv_k RX3 81 yX5_fillFirstDays mX5_fillFirstDays 3 5 := ⟨⟨Or.inr ⟨"BlowOwed", nw_i3 141 rfl rfl⟩, cw_X5_fillFirstDays⟩, gw_i3 143 rfl rfl, gw_i0 48 rfl rfl, by decide, rfl⟩
theorem cc_X3_87 : cv_k RX3 87 yX2_has mX2_has 1 2 := ⟨⟨Or.inr ⟨"BlowOwed", nw_i3 168 rfl rfl⟩, cw_X2_has⟩, gw_i3 71 rfl rfl, gw_i0 38 rfl rfl, by decide, rfl⟩
theorem cc_X4_3 : Cond.methodLink RX4 3 Lib.objectInit ∈ gw_s := gw_i1 156 rfl rfl
theorem cc_X4_34 : cv_k RX4 34 yX4_isDead mX4_isDead 0 4 := ⟨⟨Or.inl (gw_i3 114 rfl rfl), cw_X4_isDead⟩, gw_i3 39 rfl rfl, gw_i0 30 rfl rfl, by decide, rfl⟩
theorem cc_X5_3 : Cond.methodLink RX5 3 Lib.objectInit ∈ gw_s := gw_i1 53 rfl rfl
theorem cc_X5_22 : Cond.methodLink RX5 22 arraycopyName ∈ gw_s := gw_i2 231 rfl rfl
theorem cc_X5_28 : cv_k RX5 28 yX5_hasChapel mX5_hasChapel 1 5 := ⟨⟨Or.inl (gw_i2 119 rfl rfl), cw_X5_hasChapel⟩, gw_i2 109 rfl rfl, gw_i0 2 rfl rfl, by decide, rfl⟩
theorem cc_X5_32 : cs_k RX5 32 yX11_leftOver mX11_leftOver 2 := ⟨⟨Or.inr ⟨"BlowOwed", nw_i3 97 rfl rfl⟩, cw_X11_leftOver⟩, gw_i3 98 rfl rfl⟩
theorem cc_X5_36 : cv_k RX5 36 yX5_roadDays mX5_roadDays 2 5 := ⟨⟨Or.inl (gw_i3 92 rfl rfl), cw_X5_roadDays⟩, gw_i2 113 rfl rfl, gw_i0 3 rfl rfl, by decide, rfl⟩
theorem cc_X5_39 : cv_k RX5 39 yX5_isWinter mX5_isWinter 1 5 := ⟨⟨Or.inl (gw_i3 93 rfl rfl), cw_X5_isWinter⟩, gw_i3 95 rfl rfl, gw_i0 43 rfl rfl, by decide, rfl⟩
theorem cc_X5_43 : cs_k RX5 43 yJ9_min_7cf53 mJ9_min_7cf53 2 := ⟨⟨Or.inl (gw_i3 151 rfl rfl), cw_J9_min_7cf53⟩, gw_i3 74 rfl rfl⟩
theorem cc_X5_48 : cs_k RX5 48 yJ7_fill_53178 mJ7_fill_53178 2 := ⟨⟨Or.inl (gw_i3 146 rfl rfl), cw_J7_fill_53178⟩, gw_i2 97 rfl rfl⟩
theorem cc_X5_54 : cv_k RX5 54 yX5_firstAcross mX5_firstAcross 3 5 := ⟨⟨Or.inl (gw_i3 147 rfl rfl), cw_X5_firstAcross⟩, gw_i3 149 rfl rfl, gw_i0 49 rfl rfl, by decide, rfl⟩
theorem cc_X6_3 : Cond.methodLink RX6 3 Lib.objectInit ∈ gw_s := gw_i2 33 rfl rfl
theorem cc_X6_18 : cs_k RX6 18 yJ9_max_7cf53 mJ9_max_7cf53 2 := ⟨⟨Or.inl (gw_i3 214 rfl rfl), cw_J9_max_7cf53⟩, gw_i3 24 rfl rfl⟩
theorem cc_X6_24 : cv_k RX6 24 yX6_sumOf mX6_sumOf 2 6 := ⟨⟨Or.inl (gw_i3 215 rfl rfl), cw_X6_sumOf⟩, gw_i3 217 rfl rfl, gw_i0 57 rfl rfl, by decide, rfl⟩
theorem cc_X6_49 : cs_k RX6 49 yJ7_fill_53178 mJ7_fill_53178 2 := ⟨⟨Or.inl (gw_i3 227 rfl rfl), cw_J7_fill_53178⟩, gw_i2 97 rfl rfl⟩
theorem cc_X6_55 : cs_k RX6 55 yX11_isWithin mX11_isWithin 3 := ⟨⟨Or.inr ⟨"BlowOwed", nw_i3 228 rfl rfl⟩, cw_X11_isWithin⟩, gw_i2 90 rfl rfl⟩
theorem cc_X6_59 : cv_k RX6 59 yX6_ringThrough mX6_ringThrough 1 6 := ⟨⟨Or.inl (gw_i3 229 rfl rfl), cw_X6_ringThrough⟩, gw_i3 231 rfl rfl, gw_i0 59 rfl rfl, by decide, rfl⟩
theorem cc_X6_63 : cs_k RX6 63 yJ9_min_7cf53 mJ9_min_7cf53 2 := ⟨⟨Or.inl (gw_i3 237 rfl rfl), cw_J9_min_7cf53⟩, gw_i3 74 rfl rfl⟩
theorem cc_X6_66 : cv_k RX6 66 yX6_nextOf mX6_nextOf 1 6 := ⟨⟨Or.inl (gw_i3 233 rfl rfl), cw_X6_nextOf⟩, gw_i3 235 rfl rfl, gw_i0 60 rfl rfl, by decide, rfl⟩
theorem cc_X7_3 : Cond.methodLink RX7 3 Lib.objectInit ∈ gw_s := gw_i1 31 rfl rfl
theorem cc_X7_19 : cv_k RX7 19 yX7_signAt mX7_signAt 1 7 := ⟨⟨Or.inl (gw_i2 191 rfl rfl), cw_X7_signAt⟩, gw_i2 193 rfl rfl, gw_i0 15 rfl rfl, by decide, rfl⟩
theorem cc_X7_23 : cv_k RX7 23 yX7_countGood mX7_countGood 2 7 := ⟨⟨Or.inl (gw_i2 187 rfl rfl), cw_X7_countGood⟩, gw_i2 189 rfl rfl, gw_i0 14 rfl rfl, by decide, rfl⟩
theorem cc_X7_27 : cv_k RX7 27 yX7_signsOfAct mX7_signsOfAct 1 7 := ⟨⟨Or.inl (gw_i2 210 rfl rfl), cw_X7_signsOfAct⟩, gw_i2 212 rfl rfl, gw_i0 18 rfl rfl, by decide, rfl⟩
theorem cc_X7_30 : cs_k RX7 30 yX7_isLetter mX7_isLetter 1 := ⟨⟨Or.inl (gw_i2 198 rfl rfl), cw_X7_isLetter⟩, gw_i2 199 rfl rfl⟩
theorem cc_X7_34 : cs_k RX7 34 yX7_daysOf mX7_daysOf 1 := ⟨⟨Or.inl (gw_i2 195 rfl rfl), cw_X7_daysOf⟩, gw_i2 196 rfl rfl⟩
theorem cc_X7_37 : cv_k RX7 37 yX7_countGoodDigits mX7_countGoodDigits 1 7 := ⟨⟨Or.inl (gw_i2 201 rfl rfl), cw_X7_countGoodDigits⟩, gw_i2 203 rfl rfl, gw_i0 16 rfl rfl, by decide, rfl⟩
theorem cc_X7_40 : cs_k RX7 40 yX11_isWithin mX11_isWithin 3 := ⟨⟨Or.inr ⟨"BlowOwed", nw_i2 205 rfl rfl⟩, cw_X11_isWithin⟩, gw_i2 90 rfl rfl⟩
theorem cc_X7_44 : cv_k RX7 44 yX7_numberAt mX7_numberAt 1 7 := ⟨⟨Or.inl (gw_i2 206 rfl rfl), cw_X7_numberAt⟩, gw_i2 208 rfl rfl, gw_i0 17 rfl rfl, by decide, rfl⟩
theorem cc_X8_3 : Cond.methodLink RX8 3 Lib.objectInit ∈ gw_s := gw_i2 46 rfl rfl
theorem cc_X8_15 : cs_k RX8 15 yJ7_fill_53178 mJ7_fill_53178 2 := ⟨⟨Or.inl (gw_i4 65 rfl rfl), cw_J7_fill_53178⟩, gw_i2 97 rfl rfl⟩
theorem cc_X8_21 : cv_k RX8 21 yX8_addStriker mX8_addStriker 2 8 := ⟨⟨Or.inl (gw_i4 66 rfl rfl), cw_X8_addStriker⟩, gw_i4 68 rfl rfl, gw_i0 63 rfl rfl, by decide, rfl⟩
theorem cc_X8_35 : cs_k RX8 35 yJ6_bitCount_0f7a4 mJ6_bitCount_0f7a4 1 := ⟨⟨Or.inl (gw_i4 70 rfl rfl), cw_J6_bitCount_0f7a4⟩, gw_i2 145 rfl rfl⟩
theorem cc_X8_52 : cv_k RX8 52 yX0_knightAt mX0_knightAt 1 0 := ⟨⟨Or.inr ⟨"BlowOwed", nw_i4 71 rfl rfl⟩, cw_X0_knightAt⟩, gw_i2 130 rfl rfl, gw_i0 5 rfl rfl, by decide, rfl⟩
theorem cc_X9_3 : Cond.methodLink RX9 3 Lib.objectInit ∈ gw_s := gw_i1 136 rfl rfl
theorem cc_X9_22 : Cond.methodLink RX9 22 arraycopyName ∈ gw_s := gw_i3 10 rfl rfl
end
section
section JH
variable {Y0 : My} {D mc0 ms0 : Nat} {u u2 : Nat × Nat} {M : Me} {pc q : Nat} {loc loc2 : List (Option Value)} {st : List Value} {β γ : Type} {G : β → Option Rs} {F : Option β}
theorem v_weak {X : Xc} (k : V X u M pc loc2 st F G) (h : lo_l loc2 loc) : V X u M pc loc st F G := by
  intro res hres p l e s m args below meth c K b H locs ls A hP hS hz hl
  exact k res hres p l e s m args below meth c K b H locs ls A hP hS hz ⟨hl.1, hl.2.1, fun i v hi => hl.2.2 i v (lo_ls _ _ h i v hi)⟩
theorem v_widen {X : Xc} (h1 : u.1 ≤ u2.1) (h2 : u.2 ≤ u2.2) (k : V X u2 M pc loc st F G) : V X u M pc loc st F G := by
  intro res hres p l e s m args below meth c K b H locs ls A hP hS hz hl
  exact W.widen (k := u2.1) (n := u2.2) h1 h2 (k res hres p l e s m args below meth c K b H locs ls A hP hS hz hl)
theorem v_joinU {X : Xc} {F : Option γ} {Hh : γ → Option β} (jp : Nat) (eM : γ → Me) (eL : γ → List (Option Value)) (eS : γ → List Value)
    (kF : ∀ K : γ → Option Rs, (∀ v, V X u2 (eM v) jp (eL v) (eS v) (some v) K) → V X u M pc loc st F K)
    (kH : ∀ v, V X u2 (eM v) jp (eL v) (eS v) (Hh v) G) : V X u M pc loc st (F.bind Hh) G :=
  v_bind (kF _ (fun v => kH v))
theorem v_lps {X : Xc} {S E : Type} {step : S → Option (S ⊕ E)} {s0 : S} {Hh : E → Option β} (xp : Nat) (eM : S → Me) (eL : S → List (Option Value)) (xM : E → Me) (xL : E → List (Option Value))
    (hx : ∀ z, V X u (xM z) xp (xL z) [] (Hh z) G)
    (hb : ∀ (k : S → Option Rs) (K : E → Option Rs), (∀ t, V X u (eM t) pc (eL t) [] (some t) k) → (∀ z, V X u (xM z) xp (xL z) [] (some z) K) → ∀ t, V X u (eM t) pc (eL t) [] (step t) (lg_k k K)) : V X u (eM s0) pc (eL s0) [] ((lp step s0).bind Hh) G :=
  v_bind (v_loop eM eL (fun k hk t => hb k _ hk (fun z => hx z) t))
def sm_k {E T : Type} (K : E → Option Rs) (L : T → Option Rs) : E ⊕ T → Option Rs := fun z => match z with
  | .inl e => K e
  | .inr t => L t
theorem v_sml {X : Xc} {E T : Type} {x : E} {K : E → Option Rs} {L : T → Option Rs} (h : V X u M pc loc st (some x) K) : V X u M pc loc st (some (Sum.inl x : E ⊕ T)) (sm_k K L) := h
theorem v_lpr {X : Xc} {S E T : Type} {step : S → Option (S ⊕ (E ⊕ T))} {s0 : S} {Hh : E → Option β} {P : T → Option β} (xp : Nat) (eM : S → Me) (eL : S → List (Option Value)) (xM : E → Me) (xL : E → List (Option Value))
    (hx : ∀ z, V X u (xM z) xp (xL z) [] (Hh z) G)
    (hb : ∀ (k : S → Option Rs) (K : E → Option Rs), (∀ t, V X u (eM t) pc (eL t) [] (some t) k) → (∀ z, V X u (xM z) xp (xL z) [] (some z) K) → ∀ t, V X u (eM t) pc (eL t) [] (step t) (lg_k k (sm_k K (fun t => (P t).bind G)))) : V X u (eM s0) pc (eL s0) [] (ex_r (lp step s0) Hh P) G := by
  unfold ex_r
  refine v_bind ?_
  have h := v_loop (X := X) (u := u) (pc := pc) (s0 := s0) (step := step) (K := sm_k (fun z => (Hh z).bind G) (fun t => (P t).bind G)) eM eL (fun k hk t => hb k _ hk (fun z => hx z) t)
  intro res hres
  refine h res ?_
  rw [← hres]
  congr 1
  funext v
  cases v <;> rfl
theorem v_letI {X : Xc} {e : Int32} {Kf : Int32 → Option β} (k : ∀ x, V X u M pc loc (.int x :: st) (Kf x) G) : V X u M pc loc (.int e :: st) (let_v e Kf) G := k e
theorem v_letJ {X : Xc} {e : Int64} {Kf : Int64 → Option β} (k : ∀ x, V X u M pc loc (.long x :: st) (Kf x) G) : V X u M pc loc (.long e :: st) (let_v e Kf) G := k e
theorem v_iincL {X : Xc} {i : Nat} {n : Int} {x cst : Int32} {f : Int32 → List (Option Value)} {Kf : Int32 → Option β} (hdg : decode X.1.2.1 pc = .ok (.iinc i n, 3)) (hq : pc + 3 = q) (hl0 : loc[i]? = some (some (.int x))) (hv : Int32.ofInt n = cst) (hn : nl_k loc i = true) (hL : i < X.1.2.2.1) (he : ∀ v, loc.set i (some (.int v)) = f v) (k : ∀ v, V X u M q (f v) st (Kf v) G) : V X u M pc loc st (let_v (x + cst) Kf) G :=
  v_iinc hdg hq hl0 (by rw [hv]) hn hL (he _) (k _)
theorem v_lcmp {X : Xc} {x y : Int64} (hdg : decode X.1.2.1 pc = .ok (.lcmp, 1)) (hq : pc + 1 = q) (k : V X u M q loc (.int (lg_cmp x y) :: st) F G) : V X u M pc loc (.long y :: .long x :: st) F G := by
  subst hq
  intro res hres p l e s m args below meth c K b H locs ls A hP hS hz hl
  exact W.lcmp A.1 A.2.1 hdg (k res hres p l e s m args below meth c K b H locs ls A hP hS hz hl)
theorem v_icmp_geT {X : Xc} {x y : Int32} {off : Int} {tgt : Nat} (hdg : decode X.1.2.1 pc = .ok (.if_icmp .ge off, 3)) (ht : (pc : Int) + off = (tgt : Int)) (h : y ≤ x) (k : V X u M tgt loc st F G) : V X u M pc loc (.int y :: .int x :: st) F G := by
  intro res hres p l e s m args below meth c K b H locs ls A hP hS hz hl
  exact lv_icmp_ge A.1 A.2.1 hdg ht (fun _ => k res hres p l e s m args below meth c K b H locs ls A hP hS hz hl) (fun h2 => absurd h h2)
theorem v_icmp_geF {X : Xc} {x y : Int32} {off : Int} {tgt : Nat} (hdg : decode X.1.2.1 pc = .ok (.if_icmp .ge off, 3)) (ht : (pc : Int) + off = (tgt : Int)) (hq : pc + 3 = q) (h : ¬ y ≤ x) (k : V X u M q loc st F G) : V X u M pc loc (.int y :: .int x :: st) F G := by
  subst hq
  intro res hres p l e s m args below meth c K b H locs ls A hP hS hz hl
  exact lv_icmp_ge A.1 A.2.1 hdg ht (fun h2 => absurd h2 h) (fun _ => k res hres p l e s m args below meth c K b H locs ls A hP hS hz hl)
theorem v_lkpO {X : Xc} {x : Int32} {dflt : Int} {ps : Array (Int × Int)} {len : Nat} {off : Int} {tgt : Nat} (hdg : decode X.1.2.1 pc = .ok (.lookupswitch dflt ps, len)) (hp : (ps.toList.zip (ps.toList.drop 1)).all (fun (a, next) => a.1 < next.1) = true) (ho : Op.lookupswitch.offset ps.toList dflt x.toInt = off) (ht : (pc : Int) + off = (tgt : Int)) (k : V X u M tgt loc st F G) : V X u M pc loc (.int x :: st) F G := v_lkp hdg hp ho ht k
theorem v_zretC {X : Xc} {F : Option β} {x : Int32} (hr : X.1.2.2.2.1 = some .boolean) (hdg : decode X.1.2.1 pc = .ok (.ireturn, 1)) (hu : u.1 ≤ X.2.2.1 ∧ u.2 ≤ X.2.2.2) (hF : F.bind G = some (some (.int x), M)) : V X u M pc loc [.int x] (if x = 0 ∨ x = 1 then F else none) G := by
  intro res hres
  split at hres
  · rename_i hx
    exact v_zret hr hdg hu hF hx res hres
  · cases hres
theorem v_getIb {X : Xc} {a ci k index : Nat} {Kf : Int32 → Option β} (hdg : decode X.1.2.1 pc = .ok (.getfield index, 3)) (hq : pc + 3 = q) (hf : fi_k X.1.1 index ci k) (kk : ∀ v, V X u M q loc (.int v :: st) (Kf v) G) : V X u M pc loc (.ref a :: st) (gi M a ci k Kf) G := v_getI hdg hq hf.1 hf.2.1 hf.2.2.1 hf.2.2.2 kk
theorem v_getRb {X : Xc} {a ci k index : Nat} {Kf : Nat → Option β} (hdg : decode X.1.2.1 pc = .ok (.getfield index, 3)) (hq : pc + 3 = q) (hf : fr_k X.1.1 index ci k) (kk : ∀ o, V X u M q loc (.ref o :: st) (Kf o) G) : V X u M pc loc (.ref a :: st) (gr M a ci k Kf) G := v_getR hdg hq hf.1 hf.2.1 hf.2.2.1 hf.2.2.2 kk
theorem v_putIb {X : Xc} {a ci k index : Nat} {x : Int32} {Kf : Me → Option β} (hdg : decode X.1.2.1 pc = .ok (.putfield index, 3)) (hq : pc + 3 = q) (hf : wi_k X.1.1 index ci k) (kk : ∀ M2, V X u M2 q loc st (Kf M2) G) : V X u M pc loc (.int x :: .ref a :: st) (pi M a ci k x Kf) G := v_putI hdg hq hf.1 hf.2.1 hf.2.2.1 hf.2.2.2.1 hf.2.2.2.2 kk
theorem v_putZb {X : Xc} {a ci k index : Nat} {x : Int32} {Kf : Me → Option β} (hdg : decode X.1.2.1 pc = .ok (.putfield index, 3)) (hq : pc + 3 = q) (hf : wz_k X.1.1 index ci k) (kk : ∀ M2, V X u M2 q loc st (Kf M2) G) : V X u M pc loc (.int x :: .ref a :: st) (pz M a ci k x Kf) G := v_putZ hdg hq hf.1 hf.2.1 hf.2.2.1 hf.2.2.2.1 hf.2.2.2.2 kk
theorem v_putRb {own : String} {cc : ByteArray} {nL : Nat} {ret : Option FieldType} {a ci k o index : Nat} {Kf : Me → Option β} (hdg : decode cc pc = .ok (.putfield index, 3)) (hq : pc + 3 = q) (hf : wr_k own index ci k) (kk : ∀ M2, V ((own, cc, nL, ret, "<init>"), D, mc0, ms0) u M2 q loc st (Kf M2) G) : V ((own, cc, nL, ret, "<init>"), D, mc0, ms0) u M pc loc (.ref o :: .ref a :: st) (pr M a ci k o Kf) G := v_putR hdg hq hf.1 hf.2.1 hf.2.2.1 hf.2.2.2.1 hf.2.2.2.2.1 rfl hf.2.2.2.2.2 kk
theorem v_newU {X : Xc} {ci index : Nat} {Kf : Nat → Me → Option β} (hdg : decode X.1.2.1 pc = .ok (.new index, 3)) (hq : pc + 3 = q) (hw : no_k X.1.1 index ci) (hu : u2.1 ≤ X.2.2.1 ∧ u2.2 ≤ X.2.2.2) (he : (u.1 + 1, u.2 + nf_c ci) = u2) (kk : ∀ a M2, V X u2 M2 q loc (.ref a :: st) (Kf a M2) G) : V X u M pc loc st (no M ci Kf) G := by
  subst he
  exact v_new hdg hq hw.1 hw.2.1 hw.2.2.1 hw.2.2.2 hu kk
theorem v_newIU {X : Xc} {n : Int32} {N : Nat} {Kf : Nat → Me → Option β} (hdg : decode X.1.2.1 pc = .ok (.newarray .int, 2)) (hq : pc + 2 = q) (h1 : Cond.arrayClass .int ∈ gw_s) (hn : ¬ n < 0) (hN : n.toNatClampNeg = N) (hs : N ≤ 1000) (hu : u2.1 ≤ X.2.2.1 ∧ u2.2 ≤ X.2.2.2) (he : (u.1 + 1, u.2 + N) = u2) (kk : ∀ a M2, V X u2 M2 q loc (.ref a :: st) (Kf a M2) G) : V X u M pc loc (.int n :: st) (na M 20 N Kf) G := by
  subst he
  exact v_newI hdg hq h1 hn hN hs hu kk
theorem v_newZU {X : Xc} {n : Int32} {N : Nat} {Kf : Nat → Me → Option β} (hdg : decode X.1.2.1 pc = .ok (.newarray .boolean, 2)) (hq : pc + 2 = q) (h1 : Cond.arrayClass .boolean ∈ gw_s) (hn : ¬ n < 0) (hN : n.toNatClampNeg = N) (hs : N ≤ 1000) (hu : u2.1 ≤ X.2.2.1 ∧ u2.2 ≤ X.2.2.2) (he : (u.1 + 1, u.2 + N) = u2) (kk : ∀ a M2, V X u2 M2 q loc (.ref a :: st) (Kf a M2) G) : V X u M pc loc (.int n :: st) (na M 21 N Kf) G := by
  subst he
  exact v_newZ hdg hq h1 hn hN hs hu kk
theorem v_newRU {X : Xc} {n : Int32} {N kd t0 index : Nat} {C : String} {Kf : Nat → Me → Option β} (hdg : decode X.1.2.1 pc = .ok (.anewarray index, 3)) (hq : pc + 3 = q) (hkd : 22 ≤ kd) (ht : ∀ K : Kn, (ty_s K)[t0]? = some (K.2.2 kd, .object C)) (h1 : Cond.classLink X.1.1 index C ∈ gw_s) (h2 : Cond.arrayOver (.object C) ∈ nw_s) (hn : ¬ n < 0) (hN : n.toNatClampNeg = N) (hs : N ≤ 1000) (hu : u2.1 ≤ X.2.2.1 ∧ u2.2 ≤ X.2.2.2) (he : (u.1 + 1, u.2 + N) = u2) (kk : ∀ a M2, V X u2 M2 q loc (.ref a :: st) (Kf a M2) G) : V X u M pc loc (.int n :: st) (na M kd N Kf) G := by
  subst he
  exact v_newR hdg hq hkd ht h1 h2 hn hN hs hu kk
theorem v_cEV3 {y : MethodName} {Y : My} {d index a ci : Nat} {w1 w2 w3 : Value} {x : Option (Int64 × Me)} {Kf : Int64 → Me → Option β} (hC : ∀ r M2, x = some (r, M2) → me_k M a = some (ci, nf_c ci) ∧ Ct y Y d 0 0 [.ref a, w1, w2, w3] M (some (.long r), M2)) (hdg : decode Y0.2.1 pc = .ok (.invokevirtual index, 3)) (hq : pc + 3 = q) (hw : cv_k Y0.1 index y Y 3 ci) (hd : d + 1 ≤ D) (hst : (st.map fun v => v.category).sum ≤ 8) (hu : u.1 ≤ mc0 ∧ u.2 ≤ ms0) (kk : ∀ r M2, V (Y0, D, mc0, ms0) u M2 q loc (.long r :: st) (Kf r M2) G) : V (Y0, D, mc0, ms0) u M pc loc (w3 :: w2 :: w1 :: .ref a :: st) (cE x Kf) G := by
  intro res hres
  unfold cE at hres
  cases hx : x with
  | none => rw [hx] at hres; cases hres
  | some r0 =>
    rw [hx] at hres
    obtain ⟨r, M2⟩ := r0
    obtain ⟨hk, hc⟩ := hC r M2 hx
    exact v_callV (X := (Y0, D, mc0, ms0)) (mc := 0) (ms := 0) (av := [w1, w2, w3]) hc hdg hq hw.1 hw.2.1 hw.2.2.1 rfl hd hw.2.2.2.1 hw.2.2.2.2 hk hst hu (kk r M2) res hres
theorem v_cIV0 {y : MethodName} {Y : My} {d index a ci : Nat} {x : Option (Int32 × Me)} {Kf : Int32 → Me → Option β} (hC : ∀ r M2, x = some (r, M2) → me_k M a = some (ci, nf_c ci) ∧ Ct y Y d 0 0 [.ref a] M (some (.int r), M2)) (hdg : decode Y0.2.1 pc = .ok (.invokevirtual index, 3)) (hq : pc + 3 = q) (hw : cv_k Y0.1 index y Y 0 ci) (hd : d + 1 ≤ D) (hst : (st.map fun v => v.category).sum ≤ 8) (hu : u.1 ≤ mc0 ∧ u.2 ≤ ms0) (kk : ∀ r M2, V (Y0, D, mc0, ms0) u M2 q loc (.int r :: st) (Kf r M2) G) : V (Y0, D, mc0, ms0) u M pc loc (.ref a :: st) (cI x Kf) G := by
  intro res hres
  unfold cI at hres
  cases hx : x with
  | none => rw [hx] at hres; cases hres
  | some r0 =>
    rw [hx] at hres
    obtain ⟨r, M2⟩ := r0
    obtain ⟨hk, hc⟩ := hC r M2 hx
    exact v_callV (X := (Y0, D, mc0, ms0)) (mc := 0) (ms := 0) (av := []) hc hdg hq hw.1 hw.2.1 hw.2.2.1 rfl hd hw.2.2.2.1 hw.2.2.2.2 hk hst hu (kk r M2) res hres
theorem v_cIV1 {y : MethodName} {Y : My} {d index a ci : Nat} {w1 : Value} {x : Option (Int32 × Me)} {Kf : Int32 → Me → Option β} (hC : ∀ r M2, x = some (r, M2) → me_k M a = some (ci, nf_c ci) ∧ Ct y Y d 0 0 [.ref a, w1] M (some (.int r), M2)) (hdg : decode Y0.2.1 pc = .ok (.invokevirtual index, 3)) (hq : pc + 3 = q) (hw : cv_k Y0.1 index y Y 1 ci) (hd : d + 1 ≤ D) (hst : (st.map fun v => v.category).sum ≤ 8) (hu : u.1 ≤ mc0 ∧ u.2 ≤ ms0) (kk : ∀ r M2, V (Y0, D, mc0, ms0) u M2 q loc (.int r :: st) (Kf r M2) G) : V (Y0, D, mc0, ms0) u M pc loc (w1 :: .ref a :: st) (cI x Kf) G := by
  intro res hres
  unfold cI at hres
  cases hx : x with
  | none => rw [hx] at hres; cases hres
  | some r0 =>
    rw [hx] at hres
    obtain ⟨r, M2⟩ := r0
    obtain ⟨hk, hc⟩ := hC r M2 hx
    exact v_callV (X := (Y0, D, mc0, ms0)) (mc := 0) (ms := 0) (av := [w1]) hc hdg hq hw.1 hw.2.1 hw.2.2.1 rfl hd hw.2.2.2.1 hw.2.2.2.2 hk hst hu (kk r M2) res hres
theorem v_cIV2 {y : MethodName} {Y : My} {d index a ci : Nat} {w1 w2 : Value} {x : Option (Int32 × Me)} {Kf : Int32 → Me → Option β} (hC : ∀ r M2, x = some (r, M2) → me_k M a = some (ci, nf_c ci) ∧ Ct y Y d 0 0 [.ref a, w1, w2] M (some (.int r), M2)) (hdg : decode Y0.2.1 pc = .ok (.invokevirtual index, 3)) (hq : pc + 3 = q) (hw : cv_k Y0.1 index y Y 2 ci) (hd : d + 1 ≤ D) (hst : (st.map fun v => v.category).sum ≤ 8) (hu : u.1 ≤ mc0 ∧ u.2 ≤ ms0) (kk : ∀ r M2, V (Y0, D, mc0, ms0) u M2 q loc (.int r :: st) (Kf r M2) G) : V (Y0, D, mc0, ms0) u M pc loc (w2 :: w1 :: .ref a :: st) (cI x Kf) G := by
  intro res hres
  unfold cI at hres
  cases hx : x with
  | none => rw [hx] at hres; cases hres
  | some r0 =>
    rw [hx] at hres
    obtain ⟨r, M2⟩ := r0
    obtain ⟨hk, hc⟩ := hC r M2 hx
    exact v_callV (X := (Y0, D, mc0, ms0)) (mc := 0) (ms := 0) (av := [w1, w2]) hc hdg hq hw.1 hw.2.1 hw.2.2.1 rfl hd hw.2.2.2.1 hw.2.2.2.2 hk hst hu (kk r M2) res hres
theorem v_cIV3 {y : MethodName} {Y : My} {d index a ci : Nat} {w1 w2 w3 : Value} {x : Option (Int32 × Me)} {Kf : Int32 → Me → Option β} (hC : ∀ r M2, x = some (r, M2) → me_k M a = some (ci, nf_c ci) ∧ Ct y Y d 0 0 [.ref a, w1, w2, w3] M (some (.int r), M2)) (hdg : decode Y0.2.1 pc = .ok (.invokevirtual index, 3)) (hq : pc + 3 = q) (hw : cv_k Y0.1 index y Y 3 ci) (hd : d + 1 ≤ D) (hst : (st.map fun v => v.category).sum ≤ 8) (hu : u.1 ≤ mc0 ∧ u.2 ≤ ms0) (kk : ∀ r M2, V (Y0, D, mc0, ms0) u M2 q loc (.int r :: st) (Kf r M2) G) : V (Y0, D, mc0, ms0) u M pc loc (w3 :: w2 :: w1 :: .ref a :: st) (cI x Kf) G := by
  intro res hres
  unfold cI at hres
  cases hx : x with
  | none => rw [hx] at hres; cases hres
  | some r0 =>
    rw [hx] at hres
    obtain ⟨r, M2⟩ := r0
    obtain ⟨hk, hc⟩ := hC r M2 hx
    exact v_callV (X := (Y0, D, mc0, ms0)) (mc := 0) (ms := 0) (av := [w1, w2, w3]) hc hdg hq hw.1 hw.2.1 hw.2.2.1 rfl hd hw.2.2.2.1 hw.2.2.2.2 hk hst hu (kk r M2) res hres
theorem v_cLS1 {y : MethodName} {Y : My} {d index : Nat} {w1 : Value} {x : Option Int64} {Kf : Int64 → Option β} (hC : ∀ r, x = some r → Ct y Y d 0 0 [w1] M (some (.long r), M)) (hdg : decode Y0.2.1 pc = .ok (.invokestatic index, 3)) (hq : pc + 3 = q) (hw : cs_k Y0.1 index y Y 1) (hd : d + 1 ≤ D) (hst : (st.map fun v => v.category).sum ≤ 8) (hu : u.1 ≤ mc0 ∧ u.2 ≤ ms0) (kk : ∀ r, V (Y0, D, mc0, ms0) u M q loc (.long r :: st) (Kf r) G) : V (Y0, D, mc0, ms0) u M pc loc (w1 :: st) (cL x Kf) G := by
  intro res hres
  unfold cL at hres
  cases hx : x with
  | none => rw [hx] at hres; cases hres
  | some r0 =>
    rw [hx] at hres
    obtain ⟨r, rfl⟩ : ∃ z, z = r0 := ⟨_, rfl⟩
    exact v_callS (X := (Y0, D, mc0, ms0)) (mc := 0) (ms := 0) (av := [w1]) (hC r hx) hdg hq hw.1 hw.2 rfl hd hst hu (kk r) res hres
theorem v_cLS2 {y : MethodName} {Y : My} {d index : Nat} {w1 w2 : Value} {x : Option Int64} {Kf : Int64 → Option β} (hC : ∀ r, x = some r → Ct y Y d 0 0 [w1, w2] M (some (.long r), M)) (hdg : decode Y0.2.1 pc = .ok (.invokestatic index, 3)) (hq : pc + 3 = q) (hw : cs_k Y0.1 index y Y 2) (hd : d + 1 ≤ D) (hst : (st.map fun v => v.category).sum ≤ 8) (hu : u.1 ≤ mc0 ∧ u.2 ≤ ms0) (kk : ∀ r, V (Y0, D, mc0, ms0) u M q loc (.long r :: st) (Kf r) G) : V (Y0, D, mc0, ms0) u M pc loc (w2 :: w1 :: st) (cL x Kf) G := by
  intro res hres
  unfold cL at hres
  cases hx : x with
  | none => rw [hx] at hres; cases hres
  | some r0 =>
    rw [hx] at hres
    obtain ⟨r, rfl⟩ : ∃ z, z = r0 := ⟨_, rfl⟩
    exact v_callS (X := (Y0, D, mc0, ms0)) (mc := 0) (ms := 0) (av := [w1, w2]) (hC r hx) hdg hq hw.1 hw.2 rfl hd hst hu (kk r) res hres
theorem v_cLS3 {y : MethodName} {Y : My} {d index : Nat} {w1 w2 w3 : Value} {x : Option Int64} {Kf : Int64 → Option β} (hC : ∀ r, x = some r → Ct y Y d 0 0 [w1, w2, w3] M (some (.long r), M)) (hdg : decode Y0.2.1 pc = .ok (.invokestatic index, 3)) (hq : pc + 3 = q) (hw : cs_k Y0.1 index y Y 3) (hd : d + 1 ≤ D) (hst : (st.map fun v => v.category).sum ≤ 8) (hu : u.1 ≤ mc0 ∧ u.2 ≤ ms0) (kk : ∀ r, V (Y0, D, mc0, ms0) u M q loc (.long r :: st) (Kf r) G) : V (Y0, D, mc0, ms0) u M pc loc (w3 :: w2 :: w1 :: st) (cL x Kf) G := by
  intro res hres
  unfold cL at hres
  cases hx : x with
  | none => rw [hx] at hres; cases hres
  | some r0 =>
    rw [hx] at hres
    obtain ⟨r, rfl⟩ : ∃ z, z = r0 := ⟨_, rfl⟩
    exact v_callS (X := (Y0, D, mc0, ms0)) (mc := 0) (ms := 0) (av := [w1, w2, w3]) (hC r hx) hdg hq hw.1 hw.2 rfl hd hst hu (kk r) res hres
theorem v_cLS4 {y : MethodName} {Y : My} {d index : Nat} {w1 w2 w3 w4 : Value} {x : Option Int64} {Kf : Int64 → Option β} (hC : ∀ r, x = some r → Ct y Y d 0 0 [w1, w2, w3, w4] M (some (.long r), M)) (hdg : decode Y0.2.1 pc = .ok (.invokestatic index, 3)) (hq : pc + 3 = q) (hw : cs_k Y0.1 index y Y 4) (hd : d + 1 ≤ D) (hst : (st.map fun v => v.category).sum ≤ 8) (hu : u.1 ≤ mc0 ∧ u.2 ≤ ms0) (kk : ∀ r, V (Y0, D, mc0, ms0) u M q loc (.long r :: st) (Kf r) G) : V (Y0, D, mc0, ms0) u M pc loc (w4 :: w3 :: w2 :: w1 :: st) (cL x Kf) G := by
  intro res hres
  unfold cL at hres
  cases hx : x with
  | none => rw [hx] at hres; cases hres
  | some r0 =>
    rw [hx] at hres
    obtain ⟨r, rfl⟩ : ∃ z, z = r0 := ⟨_, rfl⟩
    exact v_callS (X := (Y0, D, mc0, ms0)) (mc := 0) (ms := 0) (av := [w1, w2, w3, w4]) (hC r hx) hdg hq hw.1 hw.2 rfl hd hst hu (kk r) res hres
theorem v_cMN0 {y : MethodName} {Y : My} {d index a : Nat} {x : Option Me} {Kf : Me → Option β} (hC : ∀ r, x = some r → Ct y Y d 0 0 [.ref a] M (none, r)) (hdg : decode Y0.2.1 pc = .ok (.invokespecial index, 3)) (hq : pc + 3 = q) (hw : cn_k Y0.1 index y Y 0) (hd : d + 1 ≤ D) (hst : (st.map fun v => v.category).sum ≤ 8) (hu : u.1 ≤ mc0 ∧ u.2 ≤ ms0) (kk : ∀ r, V (Y0, D, mc0, ms0) u r q loc (st) (Kf r) G) : V (Y0, D, mc0, ms0) u M pc loc (.ref a :: st) (cM x Kf) G := by
  intro res hres
  unfold cM at hres
  cases hx : x with
  | none => rw [hx] at hres; cases hres
  | some r0 =>
    rw [hx] at hres
    obtain ⟨r, rfl⟩ : ∃ z, z = r0 := ⟨_, rfl⟩
    exact v_callN (X := (Y0, D, mc0, ms0)) (mc := 0) (ms := 0) (av := []) (hC r hx) hdg hq hw.1 hw.2.1 hw.2.2.1 hw.2.2.2 rfl hd hst hu (kk r) res hres
theorem v_cMN0a {y : MethodName} {Y : My} {d index mc ms a : Nat} {x : Option Me} {Kf : Me → Option β} (hC : ∀ r, x = some r → Ct y Y d mc ms [.ref a] M (none, r)) (hdg : decode Y0.2.1 pc = .ok (.invokespecial index, 3)) (hq : pc + 3 = q) (hw : cn_k Y0.1 index y Y 0) (hd : d + 1 ≤ D) (hst : (st.map fun v => v.category).sum ≤ 8) (hu : u2.1 ≤ mc0 ∧ u2.2 ≤ ms0) (he : (u.1 + mc, u.2 + ms) = u2) (kk : ∀ r, V (Y0, D, mc0, ms0) u2 r q loc (st) (Kf r) G) : V (Y0, D, mc0, ms0) u M pc loc (.ref a :: st) (cM x Kf) G := by
  subst he
  intro res hres
  unfold cM at hres
  cases hx : x with
  | none => rw [hx] at hres; cases hres
  | some r0 =>
    rw [hx] at hres
    obtain ⟨r, rfl⟩ : ∃ z, z = r0 := ⟨_, rfl⟩
    exact v_callN (X := (Y0, D, mc0, ms0)) (av := []) (hC r hx) hdg hq hw.1 hw.2.1 hw.2.2.1 hw.2.2.2 rfl hd hst hu (kk r) res hres
theorem v_cMS2 {y : MethodName} {Y : My} {d index : Nat} {w1 w2 : Value} {x : Option Me} {Kf : Me → Option β} (hC : ∀ r, x = some r → Ct y Y d 0 0 [w1, w2] M (none, r)) (hdg : decode Y0.2.1 pc = .ok (.invokestatic index, 3)) (hq : pc + 3 = q) (hw : cs_k Y0.1 index y Y 2) (hd : d + 1 ≤ D) (hst : (st.map fun v => v.category).sum ≤ 8) (hu : u.1 ≤ mc0 ∧ u.2 ≤ ms0) (kk : ∀ r, V (Y0, D, mc0, ms0) u r q loc (st) (Kf r) G) : V (Y0, D, mc0, ms0) u M pc loc (w2 :: w1 :: st) (cM x Kf) G := by
  intro res hres
  unfold cM at hres
  cases hx : x with
  | none => rw [hx] at hres; cases hres
  | some r0 =>
    rw [hx] at hres
    obtain ⟨r, rfl⟩ : ∃ z, z = r0 := ⟨_, rfl⟩
    exact v_callS (X := (Y0, D, mc0, ms0)) (mc := 0) (ms := 0) (av := [w1, w2]) (hC r hx) hdg hq hw.1 hw.2 rfl hd hst hu (kk r) res hres
theorem v_cMV0 {y : MethodName} {Y : My} {d index a ci : Nat} {x : Option Me} {Kf : Me → Option β} (hC : ∀ r, x = some r → me_k M a = some (ci, nf_c ci) ∧ Ct y Y d 0 0 [.ref a] M (none, r)) (hdg : decode Y0.2.1 pc = .ok (.invokevirtual index, 3)) (hq : pc + 3 = q) (hw : cv_k Y0.1 index y Y 0 ci) (hd : d + 1 ≤ D) (hst : (st.map fun v => v.category).sum ≤ 8) (hu : u.1 ≤ mc0 ∧ u.2 ≤ ms0) (kk : ∀ r, V (Y0, D, mc0, ms0) u r q loc (st) (Kf r) G) : V (Y0, D, mc0, ms0) u M pc loc (.ref a :: st) (cM x Kf) G := by
  intro res hres
  unfold cM at hres
  cases hx : x with
  | none => rw [hx] at hres; cases hres
  | some r0 =>
    rw [hx] at hres
    obtain ⟨r, rfl⟩ : ∃ z, z = r0 := ⟨_, rfl⟩
    obtain ⟨hk, hc⟩ := hC r hx
    exact v_callV (X := (Y0, D, mc0, ms0)) (mc := 0) (ms := 0) (av := []) hc hdg hq hw.1 hw.2.1 hw.2.2.1 rfl hd hw.2.2.2.1 hw.2.2.2.2 hk hst hu (kk r) res hres
theorem v_cMV1 {y : MethodName} {Y : My} {d index a ci : Nat} {w1 : Value} {x : Option Me} {Kf : Me → Option β} (hC : ∀ r, x = some r → me_k M a = some (ci, nf_c ci) ∧ Ct y Y d 0 0 [.ref a, w1] M (none, r)) (hdg : decode Y0.2.1 pc = .ok (.invokevirtual index, 3)) (hq : pc + 3 = q) (hw : cv_k Y0.1 index y Y 1 ci) (hd : d + 1 ≤ D) (hst : (st.map fun v => v.category).sum ≤ 8) (hu : u.1 ≤ mc0 ∧ u.2 ≤ ms0) (kk : ∀ r, V (Y0, D, mc0, ms0) u r q loc (st) (Kf r) G) : V (Y0, D, mc0, ms0) u M pc loc (w1 :: .ref a :: st) (cM x Kf) G := by
  intro res hres
  unfold cM at hres
  cases hx : x with
  | none => rw [hx] at hres; cases hres
  | some r0 =>
    rw [hx] at hres
    obtain ⟨r, rfl⟩ : ∃ z, z = r0 := ⟨_, rfl⟩
    obtain ⟨hk, hc⟩ := hC r hx
    exact v_callV (X := (Y0, D, mc0, ms0)) (mc := 0) (ms := 0) (av := [w1]) hc hdg hq hw.1 hw.2.1 hw.2.2.1 rfl hd hw.2.2.2.1 hw.2.2.2.2 hk hst hu (kk r) res hres
theorem v_cMV2 {y : MethodName} {Y : My} {d index a ci : Nat} {w1 w2 : Value} {x : Option Me} {Kf : Me → Option β} (hC : ∀ r, x = some r → me_k M a = some (ci, nf_c ci) ∧ Ct y Y d 0 0 [.ref a, w1, w2] M (none, r)) (hdg : decode Y0.2.1 pc = .ok (.invokevirtual index, 3)) (hq : pc + 3 = q) (hw : cv_k Y0.1 index y Y 2 ci) (hd : d + 1 ≤ D) (hst : (st.map fun v => v.category).sum ≤ 8) (hu : u.1 ≤ mc0 ∧ u.2 ≤ ms0) (kk : ∀ r, V (Y0, D, mc0, ms0) u r q loc (st) (Kf r) G) : V (Y0, D, mc0, ms0) u M pc loc (w2 :: w1 :: .ref a :: st) (cM x Kf) G := by
  intro res hres
  unfold cM at hres
  cases hx : x with
  | none => rw [hx] at hres; cases hres
  | some r0 =>
    rw [hx] at hres
    obtain ⟨r, rfl⟩ : ∃ z, z = r0 := ⟨_, rfl⟩
    obtain ⟨hk, hc⟩ := hC r hx
    exact v_callV (X := (Y0, D, mc0, ms0)) (mc := 0) (ms := 0) (av := [w1, w2]) hc hdg hq hw.1 hw.2.1 hw.2.2.1 rfl hd hw.2.2.2.1 hw.2.2.2.2 hk hst hu (kk r) res hres
theorem v_cMV3 {y : MethodName} {Y : My} {d index a ci : Nat} {w1 w2 w3 : Value} {x : Option Me} {Kf : Me → Option β} (hC : ∀ r, x = some r → me_k M a = some (ci, nf_c ci) ∧ Ct y Y d 0 0 [.ref a, w1, w2, w3] M (none, r)) (hdg : decode Y0.2.1 pc = .ok (.invokevirtual index, 3)) (hq : pc + 3 = q) (hw : cv_k Y0.1 index y Y 3 ci) (hd : d + 1 ≤ D) (hst : (st.map fun v => v.category).sum ≤ 8) (hu : u.1 ≤ mc0 ∧ u.2 ≤ ms0) (kk : ∀ r, V (Y0, D, mc0, ms0) u r q loc (st) (Kf r) G) : V (Y0, D, mc0, ms0) u M pc loc (w3 :: w2 :: w1 :: .ref a :: st) (cM x Kf) G := by
  intro res hres
  unfold cM at hres
  cases hx : x with
  | none => rw [hx] at hres; cases hres
  | some r0 =>
    rw [hx] at hres
    obtain ⟨r, rfl⟩ : ∃ z, z = r0 := ⟨_, rfl⟩
    obtain ⟨hk, hc⟩ := hC r hx
    exact v_callV (X := (Y0, D, mc0, ms0)) (mc := 0) (ms := 0) (av := [w1, w2, w3]) hc hdg hq hw.1 hw.2.1 hw.2.2.1 rfl hd hw.2.2.2.1 hw.2.2.2.2 hk hst hu (kk r) res hres
theorem v_cMV4 {y : MethodName} {Y : My} {d index a ci : Nat} {w1 w2 w3 w4 : Value} {x : Option Me} {Kf : Me → Option β} (hC : ∀ r, x = some r → me_k M a = some (ci, nf_c ci) ∧ Ct y Y d 0 0 [.ref a, w1, w2, w3, w4] M (none, r)) (hdg : decode Y0.2.1 pc = .ok (.invokevirtual index, 3)) (hq : pc + 3 = q) (hw : cv_k Y0.1 index y Y 4 ci) (hd : d + 1 ≤ D) (hst : (st.map fun v => v.category).sum ≤ 8) (hu : u.1 ≤ mc0 ∧ u.2 ≤ ms0) (kk : ∀ r, V (Y0, D, mc0, ms0) u r q loc (st) (Kf r) G) : V (Y0, D, mc0, ms0) u M pc loc (w4 :: w3 :: w2 :: w1 :: .ref a :: st) (cM x Kf) G := by
  intro res hres
  unfold cM at hres
  cases hx : x with
  | none => rw [hx] at hres; cases hres
  | some r0 =>
    rw [hx] at hres
    obtain ⟨r, rfl⟩ : ∃ z, z = r0 := ⟨_, rfl⟩
    obtain ⟨hk, hc⟩ := hC r hx
    exact v_callV (X := (Y0, D, mc0, ms0)) (mc := 0) (ms := 0) (av := [w1, w2, w3, w4]) hc hdg hq hw.1 hw.2.1 hw.2.2.1 rfl hd hw.2.2.2.1 hw.2.2.2.2 hk hst hu (kk r) res hres
theorem v_cPS1 {y : MethodName} {Y : My} {d index : Nat} {w1 : Value} {x : Option Int32} {Kf : Int32 → Option β} (hC : ∀ r, x = some r → Ct y Y d 0 0 [w1] M (some (.int r), M)) (hdg : decode Y0.2.1 pc = .ok (.invokestatic index, 3)) (hq : pc + 3 = q) (hw : cs_k Y0.1 index y Y 1) (hd : d + 1 ≤ D) (hst : (st.map fun v => v.category).sum ≤ 8) (hu : u.1 ≤ mc0 ∧ u.2 ≤ ms0) (kk : ∀ r, V (Y0, D, mc0, ms0) u M q loc (.int r :: st) (Kf r) G) : V (Y0, D, mc0, ms0) u M pc loc (w1 :: st) (cP x Kf) G := by
  intro res hres
  unfold cP at hres
  cases hx : x with
  | none => rw [hx] at hres; cases hres
  | some r0 =>
    rw [hx] at hres
    obtain ⟨r, rfl⟩ : ∃ z, z = r0 := ⟨_, rfl⟩
    exact v_callS (X := (Y0, D, mc0, ms0)) (mc := 0) (ms := 0) (av := [w1]) (hC r hx) hdg hq hw.1 hw.2 rfl hd hst hu (kk r) res hres
theorem v_cPS2 {y : MethodName} {Y : My} {d index : Nat} {w1 w2 : Value} {x : Option Int32} {Kf : Int32 → Option β} (hC : ∀ r, x = some r → Ct y Y d 0 0 [w1, w2] M (some (.int r), M)) (hdg : decode Y0.2.1 pc = .ok (.invokestatic index, 3)) (hq : pc + 3 = q) (hw : cs_k Y0.1 index y Y 2) (hd : d + 1 ≤ D) (hst : (st.map fun v => v.category).sum ≤ 8) (hu : u.1 ≤ mc0 ∧ u.2 ≤ ms0) (kk : ∀ r, V (Y0, D, mc0, ms0) u M q loc (.int r :: st) (Kf r) G) : V (Y0, D, mc0, ms0) u M pc loc (w2 :: w1 :: st) (cP x Kf) G := by
  intro res hres
  unfold cP at hres
  cases hx : x with
  | none => rw [hx] at hres; cases hres
  | some r0 =>
    rw [hx] at hres
    obtain ⟨r, rfl⟩ : ∃ z, z = r0 := ⟨_, rfl⟩
    exact v_callS (X := (Y0, D, mc0, ms0)) (mc := 0) (ms := 0) (av := [w1, w2]) (hC r hx) hdg hq hw.1 hw.2 rfl hd hst hu (kk r) res hres
theorem v_cPS3 {y : MethodName} {Y : My} {d index : Nat} {w1 w2 w3 : Value} {x : Option Int32} {Kf : Int32 → Option β} (hC : ∀ r, x = some r → Ct y Y d 0 0 [w1, w2, w3] M (some (.int r), M)) (hdg : decode Y0.2.1 pc = .ok (.invokestatic index, 3)) (hq : pc + 3 = q) (hw : cs_k Y0.1 index y Y 3) (hd : d + 1 ≤ D) (hst : (st.map fun v => v.category).sum ≤ 8) (hu : u.1 ≤ mc0 ∧ u.2 ≤ ms0) (kk : ∀ r, V (Y0, D, mc0, ms0) u M q loc (.int r :: st) (Kf r) G) : V (Y0, D, mc0, ms0) u M pc loc (w3 :: w2 :: w1 :: st) (cP x Kf) G := by
  intro res hres
  unfold cP at hres
  cases hx : x with
  | none => rw [hx] at hres; cases hres
  | some r0 =>
    rw [hx] at hres
    obtain ⟨r, rfl⟩ : ∃ z, z = r0 := ⟨_, rfl⟩
    exact v_callS (X := (Y0, D, mc0, ms0)) (mc := 0) (ms := 0) (av := [w1, w2, w3]) (hC r hx) hdg hq hw.1 hw.2 rfl hd hst hu (kk r) res hres
theorem v_cPS4 {y : MethodName} {Y : My} {d index : Nat} {w1 w2 w3 w4 : Value} {x : Option Int32} {Kf : Int32 → Option β} (hC : ∀ r, x = some r → Ct y Y d 0 0 [w1, w2, w3, w4] M (some (.int r), M)) (hdg : decode Y0.2.1 pc = .ok (.invokestatic index, 3)) (hq : pc + 3 = q) (hw : cs_k Y0.1 index y Y 4) (hd : d + 1 ≤ D) (hst : (st.map fun v => v.category).sum ≤ 8) (hu : u.1 ≤ mc0 ∧ u.2 ≤ ms0) (kk : ∀ r, V (Y0, D, mc0, ms0) u M q loc (.int r :: st) (Kf r) G) : V (Y0, D, mc0, ms0) u M pc loc (w4 :: w3 :: w2 :: w1 :: st) (cP x Kf) G := by
  intro res hres
  unfold cP at hres
  cases hx : x with
  | none => rw [hx] at hres; cases hres
  | some r0 =>
    rw [hx] at hres
    obtain ⟨r, rfl⟩ : ∃ z, z = r0 := ⟨_, rfl⟩
    exact v_callS (X := (Y0, D, mc0, ms0)) (mc := 0) (ms := 0) (av := [w1, w2, w3, w4]) (hC r hx) hdg hq hw.1 hw.2 rfl hd hst hu (kk r) res hres
theorem v_cPS5 {y : MethodName} {Y : My} {d index : Nat} {w1 w2 w3 w4 w5 : Value} {x : Option Int32} {Kf : Int32 → Option β} (hC : ∀ r, x = some r → Ct y Y d 0 0 [w1, w2, w3, w4, w5] M (some (.int r), M)) (hdg : decode Y0.2.1 pc = .ok (.invokestatic index, 3)) (hq : pc + 3 = q) (hw : cs_k Y0.1 index y Y 5) (hd : d + 1 ≤ D) (hst : (st.map fun v => v.category).sum ≤ 8) (hu : u.1 ≤ mc0 ∧ u.2 ≤ ms0) (kk : ∀ r, V (Y0, D, mc0, ms0) u M q loc (.int r :: st) (Kf r) G) : V (Y0, D, mc0, ms0) u M pc loc (w5 :: w4 :: w3 :: w2 :: w1 :: st) (cP x Kf) G := by
  intro res hres
  unfold cP at hres
  cases hx : x with
  | none => rw [hx] at hres; cases hres
  | some r0 =>
    rw [hx] at hres
    obtain ⟨r, rfl⟩ : ∃ z, z = r0 := ⟨_, rfl⟩
    exact v_callS (X := (Y0, D, mc0, ms0)) (mc := 0) (ms := 0) (av := [w1, w2, w3, w4, w5]) (hC r hx) hdg hq hw.1 hw.2 rfl hd hst hu (kk r) res hres
theorem v_cPV0 {y : MethodName} {Y : My} {d index a ci : Nat} {x : Option Int32} {Kf : Int32 → Option β} (hC : ∀ r, x = some r → me_k M a = some (ci, nf_c ci) ∧ Ct y Y d 0 0 [.ref a] M (some (.int r), M)) (hdg : decode Y0.2.1 pc = .ok (.invokevirtual index, 3)) (hq : pc + 3 = q) (hw : cv_k Y0.1 index y Y 0 ci) (hd : d + 1 ≤ D) (hst : (st.map fun v => v.category).sum ≤ 8) (hu : u.1 ≤ mc0 ∧ u.2 ≤ ms0) (kk : ∀ r, V (Y0, D, mc0, ms0) u M q loc (.int r :: st) (Kf r) G) : V (Y0, D, mc0, ms0) u M pc loc (.ref a :: st) (cP x Kf) G := by
  intro res hres
  unfold cP at hres
  cases hx : x with
  | none => rw [hx] at hres; cases hres
  | some r0 =>
    rw [hx] at hres
    obtain ⟨r, rfl⟩ : ∃ z, z = r0 := ⟨_, rfl⟩
    obtain ⟨hk, hc⟩ := hC r hx
    exact v_callV (X := (Y0, D, mc0, ms0)) (mc := 0) (ms := 0) (av := []) hc hdg hq hw.1 hw.2.1 hw.2.2.1 rfl hd hw.2.2.2.1 hw.2.2.2.2 hk hst hu (kk r) res hres
theorem v_cPV1 {y : MethodName} {Y : My} {d index a ci : Nat} {w1 : Value} {x : Option Int32} {Kf : Int32 → Option β} (hC : ∀ r, x = some r → me_k M a = some (ci, nf_c ci) ∧ Ct y Y d 0 0 [.ref a, w1] M (some (.int r), M)) (hdg : decode Y0.2.1 pc = .ok (.invokevirtual index, 3)) (hq : pc + 3 = q) (hw : cv_k Y0.1 index y Y 1 ci) (hd : d + 1 ≤ D) (hst : (st.map fun v => v.category).sum ≤ 8) (hu : u.1 ≤ mc0 ∧ u.2 ≤ ms0) (kk : ∀ r, V (Y0, D, mc0, ms0) u M q loc (.int r :: st) (Kf r) G) : V (Y0, D, mc0, ms0) u M pc loc (w1 :: .ref a :: st) (cP x Kf) G := by
  intro res hres
  unfold cP at hres
  cases hx : x with
  | none => rw [hx] at hres; cases hres
  | some r0 =>
    rw [hx] at hres
    obtain ⟨r, rfl⟩ : ∃ z, z = r0 := ⟨_, rfl⟩
    obtain ⟨hk, hc⟩ := hC r hx
    exact v_callV (X := (Y0, D, mc0, ms0)) (mc := 0) (ms := 0) (av := [w1]) hc hdg hq hw.1 hw.2.1 hw.2.2.1 rfl hd hw.2.2.2.1 hw.2.2.2.2 hk hst hu (kk r) res hres
theorem v_cPV2 {y : MethodName} {Y : My} {d index a ci : Nat} {w1 w2 : Value} {x : Option Int32} {Kf : Int32 → Option β} (hC : ∀ r, x = some r → me_k M a = some (ci, nf_c ci) ∧ Ct y Y d 0 0 [.ref a, w1, w2] M (some (.int r), M)) (hdg : decode Y0.2.1 pc = .ok (.invokevirtual index, 3)) (hq : pc + 3 = q) (hw : cv_k Y0.1 index y Y 2 ci) (hd : d + 1 ≤ D) (hst : (st.map fun v => v.category).sum ≤ 8) (hu : u.1 ≤ mc0 ∧ u.2 ≤ ms0) (kk : ∀ r, V (Y0, D, mc0, ms0) u M q loc (.int r :: st) (Kf r) G) : V (Y0, D, mc0, ms0) u M pc loc (w2 :: w1 :: .ref a :: st) (cP x Kf) G := by
  intro res hres
  unfold cP at hres
  cases hx : x with
  | none => rw [hx] at hres; cases hres
  | some r0 =>
    rw [hx] at hres
    obtain ⟨r, rfl⟩ : ∃ z, z = r0 := ⟨_, rfl⟩
    obtain ⟨hk, hc⟩ := hC r hx
    exact v_callV (X := (Y0, D, mc0, ms0)) (mc := 0) (ms := 0) (av := [w1, w2]) hc hdg hq hw.1 hw.2.1 hw.2.2.1 rfl hd hw.2.2.2.1 hw.2.2.2.2 hk hst hu (kk r) res hres
theorem v_cPV3 {y : MethodName} {Y : My} {d index a ci : Nat} {w1 w2 w3 : Value} {x : Option Int32} {Kf : Int32 → Option β} (hC : ∀ r, x = some r → me_k M a = some (ci, nf_c ci) ∧ Ct y Y d 0 0 [.ref a, w1, w2, w3] M (some (.int r), M)) (hdg : decode Y0.2.1 pc = .ok (.invokevirtual index, 3)) (hq : pc + 3 = q) (hw : cv_k Y0.1 index y Y 3 ci) (hd : d + 1 ≤ D) (hst : (st.map fun v => v.category).sum ≤ 8) (hu : u.1 ≤ mc0 ∧ u.2 ≤ ms0) (kk : ∀ r, V (Y0, D, mc0, ms0) u M q loc (.int r :: st) (Kf r) G) : V (Y0, D, mc0, ms0) u M pc loc (w3 :: w2 :: w1 :: .ref a :: st) (cP x Kf) G := by
  intro res hres
  unfold cP at hres
  cases hx : x with
  | none => rw [hx] at hres; cases hres
  | some r0 =>
    rw [hx] at hres
    obtain ⟨r, rfl⟩ : ∃ z, z = r0 := ⟨_, rfl⟩
    obtain ⟨hk, hc⟩ := hC r hx
    exact v_callV (X := (Y0, D, mc0, ms0)) (mc := 0) (ms := 0) (av := [w1, w2, w3]) hc hdg hq hw.1 hw.2.1 hw.2.2.1 rfl hd hw.2.2.2.1 hw.2.2.2.2 hk hst hu (kk r) res hres
theorem v_cRV1 {y : MethodName} {Y : My} {d index a ci : Nat} {w1 : Value} {x : Option Nat} {Kf : Nat → Option β} (hC : ∀ r, x = some r → me_k M a = some (ci, nf_c ci) ∧ Ct y Y d 0 0 [.ref a, w1] M (some (.ref r), M)) (hdg : decode Y0.2.1 pc = .ok (.invokevirtual index, 3)) (hq : pc + 3 = q) (hw : cv_k Y0.1 index y Y 1 ci) (hd : d + 1 ≤ D) (hst : (st.map fun v => v.category).sum ≤ 8) (hu : u.1 ≤ mc0 ∧ u.2 ≤ ms0) (kk : ∀ r, V (Y0, D, mc0, ms0) u M q loc (.ref r :: st) (Kf r) G) : V (Y0, D, mc0, ms0) u M pc loc (w1 :: .ref a :: st) (cR x Kf) G := by
  intro res hres
  unfold cR at hres
  cases hx : x with
  | none => rw [hx] at hres; cases hres
  | some r0 =>
    rw [hx] at hres
    obtain ⟨r, rfl⟩ : ∃ z, z = r0 := ⟨_, rfl⟩
    obtain ⟨hk, hc⟩ := hC r hx
    exact v_callV (X := (Y0, D, mc0, ms0)) (mc := 0) (ms := 0) (av := [w1]) hc hdg hq hw.1 hw.2.1 hw.2.2.1 rfl hd hw.2.2.2.1 hw.2.2.2.2 hk hst hu (kk r) res hres
end JH
end
section
theorem dX5_init_0 : decode cX5_init 0 = .ok (.aload_n 0, 1) := by decide +kernel
theorem dX5_init_1 : decode cX5_init 1 = .ok (.invokespecial 3, 3) := by decide +kernel
theorem dX5_init_4 : decode cX5_init 4 = .ok (.aload_n 0, 1) := by decide +kernel
theorem dX5_init_5 : decode cX5_init 5 = .ok (.iconst 4, 1) := by decide +kernel
theorem dX5_init_6 : decode cX5_init 6 = .ok (.putfield 9, 3) := by decide +kernel
theorem dX5_init_9 : decode cX5_init 9 = .ok (.aload_n 0, 1) := by decide +kernel
theorem dX5_init_10 : decode cX5_init 10 = .ok (.sipush 360, 3) := by decide +kernel
theorem dX5_init_13 : decode cX5_init 13 = .ok (.putfield 15, 3) := by decide +kernel
theorem dX5_init_16 : decode cX5_init 16 = .ok (.aload_n 0, 1) := by decide +kernel
theorem dX5_init_17 : decode cX5_init 17 = .ok (.bipush 25, 2) := by decide +kernel
theorem dX5_init_19 : decode cX5_init 19 = .ok (.newarray .int, 2) := by decide +kernel
theorem dX5_init_21 : decode cX5_init 21 = .ok (.putfield 18, 3) := by decide +kernel
theorem dX5_init_24 : decode cX5_init 24 = .ok (.return_, 1) := by decide +kernel
noncomputable def b_X5_init (a0 : Nat) (M : Me) : Option (Me) :=
  pi M a0 5 0 (4 : Int32) fun M1 =>
  pi M1 a0 5 1 (360 : Int32) fun M2 =>
  na M2 20 25 fun o3 M4 =>
  pr M4 a0 5 2 o3 fun M5 =>
  some M5
noncomputable def f_X5_init (a0 : Nat) (M : Me) : Option (Me) := b_X5_init a0 M
set_option maxRecDepth 20000 in
theorem vb_X5_init (d : Nat) (hd : 1 ≤ d) (a0 : Nat) (M : Me) : V (mX5_init, d, 1, 25) (0, 0) M 0 [some (.ref a0)] [] (b_X5_init a0 M) (fun M2 => some (none, M2)) := by
  unfold b_X5_init
  refine v_aload_n (q := 1) dX5_init_0 rfl rfl rfl ?_
  refine v_oinit (q := 4) dX5_init_1 rfl cc_X5_3 aw_obj.1 aw_obj.2 (by show 1 ≤ d; omega) rfl ?_
  refine v_aload_n (q := 5) dX5_init_4 rfl rfl rfl ?_
  refine v_iconst (q := 6) dX5_init_5 rfl ic_4 ?_
  refine v_putIb (q := 9) dX5_init_6 rfl fp_X5_9 (fun M1 => ?_)
  refine v_aload_n (q := 10) dX5_init_9 rfl rfl rfl ?_
  refine v_sipush (q := 13) dX5_init_10 rfl sp_360 ?_
  refine v_putIb (q := 16) dX5_init_13 rfl fp_X5_15 (fun M2 => ?_)
  refine v_aload_n (q := 17) dX5_init_16 rfl rfl rfl ?_
  refine v_bipush (q := 19) dX5_init_17 rfl bp_25 ?_
  refine v_newIU (q := 21) (u2 := (1, 25)) dX5_init_19 rfl aw_int (by decide) (by decide) (Nat.le_of_ble_eq_true rfl) ⟨Nat.le_of_ble_eq_true rfl, Nat.le_of_ble_eq_true rfl⟩ rfl (fun o3 M4 => ?_)
  refine v_putRb (q := 24) dX5_init_21 rfl fp_X5_18 (fun M5 => ?_)
  exact v_vret rfl dX5_init_24 ⟨Nat.le_of_ble_eq_true rfl, Nat.le_of_ble_eq_true rfl⟩ rfl
theorem ct_X5_init (d : Nat) (hd : 1 ≤ d) (a0 : Nat) (M : Me) (r : Me) (hf : f_X5_init a0 M = some r) : Ct yX5_init mX5_init d 1 25 [.ref a0] M (none, r) := by
  have hb : b_X5_init a0 M = some r := hf
  exact ct_of (by decide +kernel) rfl rfl (Nat.le_of_ble_eq_true rfl) (vb_X5_init d hd a0 M) (by rw [hb]; rfl)
theorem dX1_init_0 : decode cX1_init 0 = .ok (.aload_n 0, 1) := by decide +kernel
theorem dX1_init_1 : decode cX1_init 1 = .ok (.invokespecial 1, 3) := by decide +kernel
theorem dX1_init_4 : decode cX1_init 4 = .ok (.return_, 1) := by decide +kernel
noncomputable def b_X1_init (a0 : Nat) (M : Me) : Option (Me) :=
  some M
noncomputable def f_X1_init (a0 : Nat) (M : Me) : Option (Me) := b_X1_init a0 M
set_option maxRecDepth 20000 in
theorem vb_X1_init (d : Nat) (hd : 1 ≤ d) (a0 : Nat) (M : Me) : V (mX1_init, d, 0, 0) (0, 0) M 0 [some (.ref a0)] [] (b_X1_init a0 M) (fun M2 => some (none, M2)) := by
  unfold b_X1_init
  refine v_aload_n (q := 1) dX1_init_0 rfl rfl rfl ?_
  refine v_oinit (q := 4) dX1_init_1 rfl cc_X1_1 aw_obj.1 aw_obj.2 (by show 1 ≤ d; omega) rfl ?_
  exact v_vret rfl dX1_init_4 ⟨Nat.le_of_ble_eq_true rfl, Nat.le_of_ble_eq_true rfl⟩ rfl
theorem ct_X1_init (d : Nat) (hd : 1 ≤ d) (a0 : Nat) (M : Me) (r : Me) (hf : f_X1_init a0 M = some r) : Ct yX1_init mX1_init d 0 0 [.ref a0] M (none, r) := by
  have hb : b_X1_init a0 M = some r := hf
  exact ct_of (by decide +kernel) rfl rfl (Nat.le_of_ble_eq_true rfl) (vb_X1_init d hd a0 M) (by rw [hb]; rfl)
theorem dX2_init_0 : decode cX2_init 0 = .ok (.aload_n 0, 1) := by decide +kernel
theorem dX2_init_1 : decode cX2_init 1 = .ok (.invokespecial 3, 3) := by decide +kernel
theorem dX2_init_4 : decode cX2_init 4 = .ok (.aload_n 0, 1) := by decide +kernel
theorem dX2_init_5 : decode cX2_init 5 = .ok (.bipush 12, 2) := by decide +kernel
theorem dX2_init_7 : decode cX2_init 7 = .ok (.anewarray 9, 3) := by decide +kernel
theorem dX2_init_10 : decode cX2_init 10 = .ok (.putfield 11, 3) := by decide +kernel
theorem dX2_init_13 : decode cX2_init 13 = .ok (.iconst 0, 1) := by decide +kernel
theorem dX2_init_14 : decode cX2_init 14 = .ok (.istore_n 1, 1) := by decide +kernel
theorem dX2_init_15 : decode cX2_init 15 = .ok (.iload_n 1, 1) := by decide +kernel
theorem dX2_init_16 : decode cX2_init 16 = .ok (.bipush 12, 2) := by decide +kernel
theorem dX2_init_18 : decode cX2_init 18 = .ok (.if_icmp .ge 22, 3) := by decide +kernel
theorem dX2_init_21 : decode cX2_init 21 = .ok (.aload_n 0, 1) := by decide +kernel
theorem dX2_init_22 : decode cX2_init 22 = .ok (.getfield 11, 3) := by decide +kernel
theorem dX2_init_25 : decode cX2_init 25 = .ok (.iload_n 1, 1) := by decide +kernel
theorem dX2_init_26 : decode cX2_init 26 = .ok (.new 9, 3) := by decide +kernel
theorem dX2_init_29 : decode cX2_init 29 = .ok (.dup, 1) := by decide +kernel
theorem dX2_init_30 : decode cX2_init 30 = .ok (.invokespecial 17, 3) := by decide +kernel
theorem dX2_init_33 : decode cX2_init 33 = .ok (.aastore, 1) := by decide +kernel
theorem dX2_init_34 : decode cX2_init 34 = .ok (.iinc 1 1, 3) := by decide +kernel
theorem dX2_init_37 : decode cX2_init 37 = .ok (.goto (-22), 3) := by decide +kernel
theorem dX2_init_40 : decode cX2_init 40 = .ok (.return_, 1) := by decide +kernel
noncomputable def b_X2_init (a0 : Nat) (M : Me) : Option (Me) :=
  na M 23 12 fun o1 M2 =>
  pr M2 a0 2 1 o1 fun M3 =>
  gr M3 a0 2 1 fun o4 =>
  no M3 1 fun o5 M6 =>
  cM (f_X1_init o5 M6) fun M7 =>
  sr M7 o4 23 1 (0 : Int32) o5 fun M8 =>
  gr M8 a0 2 1 fun o9 =>
  no M8 1 fun o10 M11 =>
  cM (f_X1_init o10 M11) fun M12 =>
  sr M12 o9 23 1 (1 : Int32) o10 fun M13 =>
  gr M13 a0 2 1 fun o14 =>
  no M13 1 fun o15 M16 =>
  cM (f_X1_init o15 M16) fun M17 =>
  sr M17 o14 23 1 (2 : Int32) o15 fun M18 =>
  gr M18 a0 2 1 fun o19 =>
  no M18 1 fun o20 M21 =>
  cM (f_X1_init o20 M21) fun M22 =>
  sr M22 o19 23 1 (3 : Int32) o20 fun M23 =>
  gr M23 a0 2 1 fun o24 =>
  no M23 1 fun o25 M26 =>
  cM (f_X1_init o25 M26) fun M27 =>
  sr M27 o24 23 1 (4 : Int32) o25 fun M28 =>
  gr M28 a0 2 1 fun o29 =>
  no M28 1 fun o30 M31 =>
  cM (f_X1_init o30 M31) fun M32 =>
  sr M32 o29 23 1 (5 : Int32) o30 fun M33 =>
  gr M33 a0 2 1 fun o34 =>
  no M33 1 fun o35 M36 =>
  cM (f_X1_init o35 M36) fun M37 =>
  sr M37 o34 23 1 (6 : Int32) o35 fun M38 =>
  gr M38 a0 2 1 fun o39 =>
  no M38 1 fun o40 M41 =>
  cM (f_X1_init o40 M41) fun M42 =>
  sr M42 o39 23 1 (7 : Int32) o40 fun M43 =>
  gr M43 a0 2 1 fun o44 =>
  no M43 1 fun o45 M46 =>
  cM (f_X1_init o45 M46) fun M47 =>
  sr M47 o44 23 1 (8 : Int32) o45 fun M48 =>
  gr M48 a0 2 1 fun o49 =>
  no M48 1 fun o50 M51 =>
  cM (f_X1_init o50 M51) fun M52 =>
  sr M52 o49 23 1 (9 : Int32) o50 fun M53 =>
  gr M53 a0 2 1 fun o54 =>
  no M53 1 fun o55 M56 =>
  cM (f_X1_init o55 M56) fun M57 =>
  sr M57 o54 23 1 (10 : Int32) o55 fun M58 =>
  gr M58 a0 2 1 fun o59 =>
  no M58 1 fun o60 M61 =>
  cM (f_X1_init o60 M61) fun M62 =>
  sr M62 o59 23 1 (11 : Int32) o60 fun M63 =>
  some M63
noncomputable def f_X2_init (a0 : Nat) (M : Me) : Option (Me) := b_X2_init a0 M
set_option maxRecDepth 20000 in
theorem vb_X2_init (d : Nat) (hd : 2 ≤ d) (a0 : Nat) (M : Me) : V (mX2_init, d, 13, 72) (0, 0) M 0 [some (.ref a0), none] [] (b_X2_init a0 M) (fun M2 => some (none, M2)) := by
  unfold b_X2_init
  refine v_aload_n (q := 1) dX2_init_0 rfl rfl rfl ?_
  refine v_oinit (q := 4) dX2_init_1 rfl cc_X2_3 aw_obj.1 aw_obj.2 (by show 1 ≤ d; omega) rfl ?_
  refine v_aload_n (q := 5) dX2_init_4 rfl rfl rfl ?_
  refine v_bipush (q := 7) dX2_init_5 rfl bp_12 ?_
  refine v_newRU (q := 10) (t0 := 3) (u2 := (1, 12)) dX2_init_7 rfl (Nat.le_of_ble_eq_true rfl) (fun _ => rfl) cn_X2_9.2.1 ao_1 (by decide) (by decide) (Nat.le_of_ble_eq_true rfl) ⟨Nat.le_of_ble_eq_true rfl, Nat.le_of_ble_eq_true rfl⟩ rfl (fun o1 M2 => ?_)
  refine v_putRb (q := 13) dX2_init_10 rfl fp_X2_11 (fun M3 => ?_)
  refine v_iconst (q := 14) dX2_init_13 rfl ic_0 ?_
  refine v_istore_n (q := 15) (loc2 := [some (.ref a0), some (.int (0 : Int32))]) dX2_init_14 rfl rfl rfl (Nat.le_of_ble_eq_true rfl) rfl ?_
  refine v_iload_n (q := 16) dX2_init_15 rfl rfl rfl ?_
  refine v_bipush (q := 18) dX2_init_16 rfl bp_12 ?_
  refine v_icmp_geF (tgt := 40) (q := 21) dX2_init_18 rfl rfl (by decide) ?_
  refine v_aload_n (q := 22) dX2_init_21 rfl rfl rfl ?_
  refine v_getRb (q := 25) dX2_init_22 rfl fg_X2_11 (fun o4 => ?_)
  refine v_iload_n (q := 26) dX2_init_25 rfl rfl rfl ?_
  refine v_newU (q := 29) (u2 := (2, 17)) dX2_init_26 rfl cn_X2_9 ⟨Nat.le_of_ble_eq_true rfl, Nat.le_of_ble_eq_true rfl⟩ rfl (fun o5 M6 => ?_)
  refine v_dup (q := 30) dX2_init_29 rfl rfl ?_
  refine v_cMN0 (q := 33) (ct_X1_init (d - 1) (by omega) _ _) dX2_init_30 rfl cc_X2_17 (by omega) (Nat.le_of_ble_eq_true rfl) ⟨Nat.le_of_ble_eq_true rfl, Nat.le_of_ble_eq_true rfl⟩ (fun M7 => ?_)
  refine v_aastore (q := 34) (t0 := 3) dX2_init_33 rfl (Nat.le_of_ble_eq_true rfl) (Nat.le_of_ble_eq_true rfl) (fun _ => rfl) (fun M8 => ?_)
  refine v_iinc (q := 37) (v := (1 : Int32)) (loc2 := [some (.ref a0), some (.int (1 : Int32))]) dX2_init_34 rfl rfl (by decide) rfl (Nat.le_of_ble_eq_true rfl) rfl ?_
  refine v_goto (tgt := 15) dX2_init_37 rfl ?_
  refine v_iload_n (q := 16) dX2_init_15 rfl rfl rfl ?_
  refine v_bipush (q := 18) dX2_init_16 rfl bp_12 ?_
  refine v_icmp_geF (tgt := 40) (q := 21) dX2_init_18 rfl rfl (by decide) ?_
  refine v_aload_n (q := 22) dX2_init_21 rfl rfl rfl ?_
  refine v_getRb (q := 25) dX2_init_22 rfl fg_X2_11 (fun o9 => ?_)
  refine v_iload_n (q := 26) dX2_init_25 rfl rfl rfl ?_
  refine v_newU (q := 29) (u2 := (3, 22)) dX2_init_26 rfl cn_X2_9 ⟨Nat.le_of_ble_eq_true rfl, Nat.le_of_ble_eq_true rfl⟩ rfl (fun o10 M11 => ?_)
  refine v_dup (q := 30) dX2_init_29 rfl rfl ?_
  refine v_cMN0 (q := 33) (ct_X1_init (d - 1) (by omega) _ _) dX2_init_30 rfl cc_X2_17 (by omega) (Nat.le_of_ble_eq_true rfl) ⟨Nat.le_of_ble_eq_true rfl, Nat.le_of_ble_eq_true rfl⟩ (fun M12 => ?_)
  refine v_aastore (q := 34) (t0 := 3) dX2_init_33 rfl (Nat.le_of_ble_eq_true rfl) (Nat.le_of_ble_eq_true rfl) (fun _ => rfl) (fun M13 => ?_)
  refine v_iinc (q := 37) (v := (2 : Int32)) (loc2 := [some (.ref a0), some (.int (2 : Int32))]) dX2_init_34 rfl rfl (by decide) rfl (Nat.le_of_ble_eq_true rfl) rfl ?_
  refine v_goto (tgt := 15) dX2_init_37 rfl ?_
  refine v_iload_n (q := 16) dX2_init_15 rfl rfl rfl ?_
  refine v_bipush (q := 18) dX2_init_16 rfl bp_12 ?_
  refine v_icmp_geF (tgt := 40) (q := 21) dX2_init_18 rfl rfl (by decide) ?_
  refine v_aload_n (q := 22) dX2_init_21 rfl rfl rfl ?_
  refine v_getRb (q := 25) dX2_init_22 rfl fg_X2_11 (fun o14 => ?_)
  refine v_iload_n (q := 26) dX2_init_25 rfl rfl rfl ?_
  refine v_newU (q := 29) (u2 := (4, 27)) dX2_init_26 rfl cn_X2_9 ⟨Nat.le_of_ble_eq_true rfl, Nat.le_of_ble_eq_true rfl⟩ rfl (fun o15 M16 => ?_)
  refine v_dup (q := 30) dX2_init_29 rfl rfl ?_
  refine v_cMN0 (q := 33) (ct_X1_init (d - 1) (by omega) _ _) dX2_init_30 rfl cc_X2_17 (by omega) (Nat.le_of_ble_eq_true rfl) ⟨Nat.le_of_ble_eq_true rfl, Nat.le_of_ble_eq_true rfl⟩ (fun M17 => ?_)
  refine v_aastore (q := 34) (t0 := 3) dX2_init_33 rfl (Nat.le_of_ble_eq_true rfl) (Nat.le_of_ble_eq_true rfl) (fun _ => rfl) (fun M18 => ?_)
  refine v_iinc (q := 37) (v := (3 : Int32)) (loc2 := [some (.ref a0), some (.int (3 : Int32))]) dX2_init_34 rfl rfl (by decide) rfl (Nat.le_of_ble_eq_true rfl) rfl ?_
  refine v_goto (tgt := 15) dX2_init_37 rfl ?_
  refine v_iload_n (q := 16) dX2_init_15 rfl rfl rfl ?_
  refine v_bipush (q := 18) dX2_init_16 rfl bp_12 ?_
  refine v_icmp_geF (tgt := 40) (q := 21) dX2_init_18 rfl rfl (by decide) ?_
  refine v_aload_n (q := 22) dX2_init_21 rfl rfl rfl ?_
  refine v_getRb (q := 25) dX2_init_22 rfl fg_X2_11 (fun o19 => ?_)
  refine v_iload_n (q := 26) dX2_init_25 rfl rfl rfl ?_
  refine v_newU (q := 29) (u2 := (5, 32)) dX2_init_26 rfl cn_X2_9 ⟨Nat.le_of_ble_eq_true rfl, Nat.le_of_ble_eq_true rfl⟩ rfl (fun o20 M21 => ?_)
  refine v_dup (q := 30) dX2_init_29 rfl rfl ?_
  refine v_cMN0 (q := 33) (ct_X1_init (d - 1) (by omega) _ _) dX2_init_30 rfl cc_X2_17 (by omega) (Nat.le_of_ble_eq_true rfl) ⟨Nat.le_of_ble_eq_true rfl, Nat.le_of_ble_eq_true rfl⟩ (fun M22 => ?_)
  refine v_aastore (q := 34) (t0 := 3) dX2_init_33 rfl (Nat.le_of_ble_eq_true rfl) (Nat.le_of_ble_eq_true rfl) (fun _ => rfl) (fun M23 => ?_)
  refine v_iinc (q := 37) (v := (4 : Int32)) (loc2 := [some (.ref a0), some (.int (4 : Int32))]) dX2_init_34 rfl rfl (by decide) rfl (Nat.le_of_ble_eq_true rfl) rfl ?_
  refine v_goto (tgt := 15) dX2_init_37 rfl ?_
  refine v_iload_n (q := 16) dX2_init_15 rfl rfl rfl ?_
  refine v_bipush (q := 18) dX2_init_16 rfl bp_12 ?_
  refine v_icmp_geF (tgt := 40) (q := 21) dX2_init_18 rfl rfl (by decide) ?_
  refine v_aload_n (q := 22) dX2_init_21 rfl rfl rfl ?_
  refine v_getRb (q := 25) dX2_init_22 rfl fg_X2_11 (fun o24 => ?_)
  refine v_iload_n (q := 26) dX2_init_25 rfl rfl rfl ?_
  refine v_newU (q := 29) (u2 := (6, 37)) dX2_init_26 rfl cn_X2_9 ⟨Nat.le_of_ble_eq_true rfl, Nat.le_of_ble_eq_true rfl⟩ rfl (fun o25 M26 => ?_)
  refine v_dup (q := 30) dX2_init_29 rfl rfl ?_
  refine v_cMN0 (q := 33) (ct_X1_init (d - 1) (by omega) _ _) dX2_init_30 rfl cc_X2_17 (by omega) (Nat.le_of_ble_eq_true rfl) ⟨Nat.le_of_ble_eq_true rfl, Nat.le_of_ble_eq_true rfl⟩ (fun M27 => ?_)
  refine v_aastore (q := 34) (t0 := 3) dX2_init_33 rfl (Nat.le_of_ble_eq_true rfl) (Nat.le_of_ble_eq_true rfl) (fun _ => rfl) (fun M28 => ?_)
  refine v_iinc (q := 37) (v := (5 : Int32)) (loc2 := [some (.ref a0), some (.int (5 : Int32))]) dX2_init_34 rfl rfl (by decide) rfl (Nat.le_of_ble_eq_true rfl) rfl ?_
  refine v_goto (tgt := 15) dX2_init_37 rfl ?_
  refine v_iload_n (q := 16) dX2_init_15 rfl rfl rfl ?_
  refine v_bipush (q := 18) dX2_init_16 rfl bp_12 ?_
  refine v_icmp_geF (tgt := 40) (q := 21) dX2_init_18 rfl rfl (by decide) ?_
  refine v_aload_n (q := 22) dX2_init_21 rfl rfl rfl ?_
  refine v_getRb (q := 25) dX2_init_22 rfl fg_X2_11 (fun o29 => ?_)
  refine v_iload_n (q := 26) dX2_init_25 rfl rfl rfl ?_
  refine v_newU (q := 29) (u2 := (7, 42)) dX2_init_26 rfl cn_X2_9 ⟨Nat.le_of_ble_eq_true rfl, Nat.le_of_ble_eq_true rfl⟩ rfl (fun o30 M31 => ?_)
  refine v_dup (q := 30) dX2_init_29 rfl rfl ?_
  refine v_cMN0 (q := 33) (ct_X1_init (d - 1) (by omega) _ _) dX2_init_30 rfl cc_X2_17 (by omega) (Nat.le_of_ble_eq_true rfl) ⟨Nat.le_of_ble_eq_true rfl, Nat.le_of_ble_eq_true rfl⟩ (fun M32 => ?_)
  refine v_aastore (q := 34) (t0 := 3) dX2_init_33 rfl (Nat.le_of_ble_eq_true rfl) (Nat.le_of_ble_eq_true rfl) (fun _ => rfl) (fun M33 => ?_)
  refine v_iinc (q := 37) (v := (6 : Int32)) (loc2 := [some (.ref a0), some (.int (6 : Int32))]) dX2_init_34 rfl rfl (by decide) rfl (Nat.le_of_ble_eq_true rfl) rfl ?_
  refine v_goto (tgt := 15) dX2_init_37 rfl ?_
  refine v_iload_n (q := 16) dX2_init_15 rfl rfl rfl ?_
  refine v_bipush (q := 18) dX2_init_16 rfl bp_12 ?_
  refine v_icmp_geF (tgt := 40) (q := 21) dX2_init_18 rfl rfl (by decide) ?_
  refine v_aload_n (q := 22) dX2_init_21 rfl rfl rfl ?_
  refine v_getRb (q := 25) dX2_init_22 rfl fg_X2_11 (fun o34 => ?_)
  refine v_iload_n (q := 26) dX2_init_25 rfl rfl rfl ?_
  refine v_newU (q := 29) (u2 := (8, 47)) dX2_init_26 rfl cn_X2_9 ⟨Nat.le_of_ble_eq_true rfl, Nat.le_of_ble_eq_true rfl⟩ rfl (fun o35 M36 => ?_)
  refine v_dup (q := 30) dX2_init_29 rfl rfl ?_
  refine v_cMN0 (q := 33) (ct_X1_init (d - 1) (by omega) _ _) dX2_init_30 rfl cc_X2_17 (by omega) (Nat.le_of_ble_eq_true rfl) ⟨Nat.le_of_ble_eq_true rfl, Nat.le_of_ble_eq_true rfl⟩ (fun M37 => ?_)
  refine v_aastore (q := 34) (t0 := 3) dX2_init_33 rfl (Nat.le_of_ble_eq_true rfl) (Nat.le_of_ble_eq_true rfl) (fun _ => rfl) (fun M38 => ?_)
  refine v_iinc (q := 37) (v := (7 : Int32)) (loc2 := [some (.ref a0), some (.int (7 : Int32))]) dX2_init_34 rfl rfl (by decide) rfl (Nat.le_of_ble_eq_true rfl) rfl ?_
  refine v_goto (tgt := 15) dX2_init_37 rfl ?_
  refine v_iload_n (q := 16) dX2_init_15 rfl rfl rfl ?_
  refine v_bipush (q := 18) dX2_init_16 rfl bp_12 ?_
  refine v_icmp_geF (tgt := 40) (q := 21) dX2_init_18 rfl rfl (by decide) ?_
  refine v_aload_n (q := 22) dX2_init_21 rfl rfl rfl ?_
  refine v_getRb (q := 25) dX2_init_22 rfl fg_X2_11 (fun o39 => ?_)
  refine v_iload_n (q := 26) dX2_init_25 rfl rfl rfl ?_
  refine v_newU (q := 29) (u2 := (9, 52)) dX2_init_26 rfl cn_X2_9 ⟨Nat.le_of_ble_eq_true rfl, Nat.le_of_ble_eq_true rfl⟩ rfl (fun o40 M41 => ?_)
  refine v_dup (q := 30) dX2_init_29 rfl rfl ?_
  refine v_cMN0 (q := 33) (ct_X1_init (d - 1) (by omega) _ _) dX2_init_30 rfl cc_X2_17 (by omega) (Nat.le_of_ble_eq_true rfl) ⟨Nat.le_of_ble_eq_true rfl, Nat.le_of_ble_eq_true rfl⟩ (fun M42 => ?_)
  refine v_aastore (q := 34) (t0 := 3) dX2_init_33 rfl (Nat.le_of_ble_eq_true rfl) (Nat.le_of_ble_eq_true rfl) (fun _ => rfl) (fun M43 => ?_)
  refine v_iinc (q := 37) (v := (8 : Int32)) (loc2 := [some (.ref a0), some (.int (8 : Int32))]) dX2_init_34 rfl rfl (by decide) rfl (Nat.le_of_ble_eq_true rfl) rfl ?_
  refine v_goto (tgt := 15) dX2_init_37 rfl ?_
  refine v_iload_n (q := 16) dX2_init_15 rfl rfl rfl ?_
  refine v_bipush (q := 18) dX2_init_16 rfl bp_12 ?_
  refine v_icmp_geF (tgt := 40) (q := 21) dX2_init_18 rfl rfl (by decide) ?_
  refine v_aload_n (q := 22) dX2_init_21 rfl rfl rfl ?_
  refine v_getRb (q := 25) dX2_init_22 rfl fg_X2_11 (fun o44 => ?_)
  refine v_iload_n (q := 26) dX2_init_25 rfl rfl rfl ?_
  refine v_newU (q := 29) (u2 := (10, 57)) dX2_init_26 rfl cn_X2_9 ⟨Nat.le_of_ble_eq_true rfl, Nat.le_of_ble_eq_true rfl⟩ rfl (fun o45 M46 => ?_)
  refine v_dup (q := 30) dX2_init_29 rfl rfl ?_
  refine v_cMN0 (q := 33) (ct_X1_init (d - 1) (by omega) _ _) dX2_init_30 rfl cc_X2_17 (by omega) (Nat.le_of_ble_eq_true rfl) ⟨Nat.le_of_ble_eq_true rfl, Nat.le_of_ble_eq_true rfl⟩ (fun M47 => ?_)
  refine v_aastore (q := 34) (t0 := 3) dX2_init_33 rfl (Nat.le_of_ble_eq_true rfl) (Nat.le_of_ble_eq_true rfl) (fun _ => rfl) (fun M48 => ?_)
  refine v_iinc (q := 37) (v := (9 : Int32)) (loc2 := [some (.ref a0), some (.int (9 : Int32))]) dX2_init_34 rfl rfl (by decide) rfl (Nat.le_of_ble_eq_true rfl) rfl ?_
  refine v_goto (tgt := 15) dX2_init_37 rfl ?_
  refine v_iload_n (q := 16) dX2_init_15 rfl rfl rfl ?_
  refine v_bipush (q := 18) dX2_init_16 rfl bp_12 ?_
  refine v_icmp_geF (tgt := 40) (q := 21) dX2_init_18 rfl rfl (by decide) ?_
  refine v_aload_n (q := 22) dX2_init_21 rfl rfl rfl ?_
  refine v_getRb (q := 25) dX2_init_22 rfl fg_X2_11 (fun o49 => ?_)
  refine v_iload_n (q := 26) dX2_init_25 rfl rfl rfl ?_
  refine v_newU (q := 29) (u2 := (11, 62)) dX2_init_26 rfl cn_X2_9 ⟨Nat.le_of_ble_eq_true rfl, Nat.le_of_ble_eq_true rfl⟩ rfl (fun o50 M51 => ?_)
  refine v_dup (q := 30) dX2_init_29 rfl rfl ?_
  refine v_cMN0 (q := 33) (ct_X1_init (d - 1) (by omega) _ _) dX2_init_30 rfl cc_X2_17 (by omega) (Nat.le_of_ble_eq_true rfl) ⟨Nat.le_of_ble_eq_true rfl, Nat.le_of_ble_eq_true rfl⟩ (fun M52 => ?_)
  refine v_aastore (q := 34) (t0 := 3) dX2_init_33 rfl (Nat.le_of_ble_eq_true rfl) (Nat.le_of_ble_eq_true rfl) (fun _ => rfl) (fun M53 => ?_)
  refine v_iinc (q := 37) (v := (10 : Int32)) (loc2 := [some (.ref a0), some (.int (10 : Int32))]) dX2_init_34 rfl rfl (by decide) rfl (Nat.le_of_ble_eq_true rfl) rfl ?_
  refine v_goto (tgt := 15) dX2_init_37 rfl ?_
  refine v_iload_n (q := 16) dX2_init_15 rfl rfl rfl ?_
  refine v_bipush (q := 18) dX2_init_16 rfl bp_12 ?_
  refine v_icmp_geF (tgt := 40) (q := 21) dX2_init_18 rfl rfl (by decide) ?_
  refine v_aload_n (q := 22) dX2_init_21 rfl rfl rfl ?_
  refine v_getRb (q := 25) dX2_init_22 rfl fg_X2_11 (fun o54 => ?_)
  refine v_iload_n (q := 26) dX2_init_25 rfl rfl rfl ?_
  refine v_newU (q := 29) (u2 := (12, 67)) dX2_init_26 rfl cn_X2_9 ⟨Nat.le_of_ble_eq_true rfl, Nat.le_of_ble_eq_true rfl⟩ rfl (fun o55 M56 => ?_)
  refine v_dup (q := 30) dX2_init_29 rfl rfl ?_
  refine v_cMN0 (q := 33) (ct_X1_init (d - 1) (by omega) _ _) dX2_init_30 rfl cc_X2_17 (by omega) (Nat.le_of_ble_eq_true rfl) ⟨Nat.le_of_ble_eq_true rfl, Nat.le_of_ble_eq_true rfl⟩ (fun M57 => ?_)
  refine v_aastore (q := 34) (t0 := 3) dX2_init_33 rfl (Nat.le_of_ble_eq_true rfl) (Nat.le_of_ble_eq_true rfl) (fun _ => rfl) (fun M58 => ?_)
  refine v_iinc (q := 37) (v := (11 : Int32)) (loc2 := [some (.ref a0), some (.int (11 : Int32))]) dX2_init_34 rfl rfl (by decide) rfl (Nat.le_of_ble_eq_true rfl) rfl ?_
  refine v_goto (tgt := 15) dX2_init_37 rfl ?_
  refine v_iload_n (q := 16) dX2_init_15 rfl rfl rfl ?_
  refine v_bipush (q := 18) dX2_init_16 rfl bp_12 ?_
  refine v_icmp_geF (tgt := 40) (q := 21) dX2_init_18 rfl rfl (by decide) ?_
  refine v_aload_n (q := 22) dX2_init_21 rfl rfl rfl ?_
  refine v_getRb (q := 25) dX2_init_22 rfl fg_X2_11 (fun o59 => ?_)
  refine v_iload_n (q := 26) dX2_init_25 rfl rfl rfl ?_
  refine v_newU (q := 29) (u2 := (13, 72)) dX2_init_26 rfl cn_X2_9 ⟨Nat.le_of_ble_eq_true rfl, Nat.le_of_ble_eq_true rfl⟩ rfl (fun o60 M61 => ?_)
  refine v_dup (q := 30) dX2_init_29 rfl rfl ?_
  refine v_cMN0 (q := 33) (ct_X1_init (d - 1) (by omega) _ _) dX2_init_30 rfl cc_X2_17 (by omega) (Nat.le_of_ble_eq_true rfl) ⟨Nat.le_of_ble_eq_true rfl, Nat.le_of_ble_eq_true rfl⟩ (fun M62 => ?_)
  refine v_aastore (q := 34) (t0 := 3) dX2_init_33 rfl (Nat.le_of_ble_eq_true rfl) (Nat.le_of_ble_eq_true rfl) (fun _ => rfl) (fun M63 => ?_)
  refine v_iinc (q := 37) (v := (12 : Int32)) (loc2 := [some (.ref a0), some (.int (12 : Int32))]) dX2_init_34 rfl rfl (by decide) rfl (Nat.le_of_ble_eq_true rfl) rfl ?_
  refine v_goto (tgt := 15) dX2_init_37 rfl ?_
  refine v_iload_n (q := 16) dX2_init_15 rfl rfl rfl ?_
  refine v_bipush (q := 18) dX2_init_16 rfl bp_12 ?_
  refine v_icmp_geT (tgt := 40) dX2_init_18 rfl (by decide) ?_
  exact v_vret rfl dX2_init_40 ⟨Nat.le_of_ble_eq_true rfl, Nat.le_of_ble_eq_true rfl⟩ rfl
theorem ct_X2_init (d : Nat) (hd : 2 ≤ d) (a0 : Nat) (M : Me) (r : Me) (hf : f_X2_init a0 M = some r) : Ct yX2_init mX2_init d 13 72 [.ref a0] M (none, r) := by
  have hb : b_X2_init a0 M = some r := hf
  exact ct_of (by decide +kernel) rfl rfl (Nat.le_of_ble_eq_true rfl) (vb_X2_init d hd a0 M) (by rw [hb]; rfl)
theorem dX9_init_0 : decode cX9_init 0 = .ok (.aload_n 0, 1) := by decide +kernel
theorem dX9_init_1 : decode cX9_init 1 = .ok (.invokespecial 3, 3) := by decide +kernel
theorem dX9_init_4 : decode cX9_init 4 = .ok (.aload_n 0, 1) := by decide +kernel
theorem dX9_init_5 : decode cX9_init 5 = .ok (.bipush 6, 2) := by decide +kernel
theorem dX9_init_7 : decode cX9_init 7 = .ok (.newarray .int, 2) := by decide +kernel
theorem dX9_init_9 : decode cX9_init 9 = .ok (.putfield 9, 3) := by decide +kernel
theorem dX9_init_12 : decode cX9_init 12 = .ok (.aload_n 0, 1) := by decide +kernel
theorem dX9_init_13 : decode cX9_init 13 = .ok (.bipush 6, 2) := by decide +kernel
theorem dX9_init_15 : decode cX9_init 15 = .ok (.newarray .int, 2) := by decide +kernel
theorem dX9_init_17 : decode cX9_init 17 = .ok (.putfield 15, 3) := by decide +kernel
theorem dX9_init_20 : decode cX9_init 20 = .ok (.return_, 1) := by decide +kernel
noncomputable def b_X9_init (a0 : Nat) (M : Me) : Option (Me) :=
  na M 20 6 fun o1 M2 =>
  pr M2 a0 9 1 o1 fun M3 =>
  na M3 20 6 fun o4 M5 =>
  pr M5 a0 9 2 o4 fun M6 =>
  some M6
noncomputable def f_X9_init (a0 : Nat) (M : Me) : Option (Me) := b_X9_init a0 M
set_option maxRecDepth 20000 in
theorem vb_X9_init (d : Nat) (hd : 1 ≤ d) (a0 : Nat) (M : Me) : V (mX9_init, d, 2, 12) (0, 0) M 0 [some (.ref a0)] [] (b_X9_init a0 M) (fun M2 => some (none, M2)) := by
  unfold b_X9_init
  refine v_aload_n (q := 1) dX9_init_0 rfl rfl rfl ?_
  refine v_oinit (q := 4) dX9_init_1 rfl cc_X9_3 aw_obj.1 aw_obj.2 (by show 1 ≤ d; omega) rfl ?_
  refine v_aload_n (q := 5) dX9_init_4 rfl rfl rfl ?_
  refine v_bipush (q := 7) dX9_init_5 rfl bp_6 ?_
  refine v_newIU (q := 9) (u2 := (1, 6)) dX9_init_7 rfl aw_int (by decide) (by decide) (Nat.le_of_ble_eq_true rfl) ⟨Nat.le_of_ble_eq_true rfl, Nat.le_of_ble_eq_true rfl⟩ rfl (fun o1 M2 => ?_)
  refine v_putRb (q := 12) dX9_init_9 rfl fp_X9_9 (fun M3 => ?_)
  refine v_aload_n (q := 13) dX9_init_12 rfl rfl rfl ?_
  refine v_bipush (q := 15) dX9_init_13 rfl bp_6 ?_
  refine v_newIU (q := 17) (u2 := (2, 12)) dX9_init_15 rfl aw_int (by decide) (by decide) (Nat.le_of_ble_eq_true rfl) ⟨Nat.le_of_ble_eq_true rfl, Nat.le_of_ble_eq_true rfl⟩ rfl (fun o4 M5 => ?_)
  refine v_putRb (q := 20) dX9_init_17 rfl fp_X9_15 (fun M6 => ?_)
  exact v_vret rfl dX9_init_20 ⟨Nat.le_of_ble_eq_true rfl, Nat.le_of_ble_eq_true rfl⟩ rfl
theorem ct_X9_init (d : Nat) (hd : 1 ≤ d) (a0 : Nat) (M : Me) (r : Me) (hf : f_X9_init a0 M = some r) : Ct yX9_init mX9_init d 2 12 [.ref a0] M (none, r) := by
  have hb : b_X9_init a0 M = some r := hf
  exact ct_of (by decide +kernel) rfl rfl (Nat.le_of_ble_eq_true rfl) (vb_X9_init d hd a0 M) (by rw [hb]; rfl)
theorem dX4_init_0 : decode cX4_init 0 = .ok (.aload_n 0, 1) := by decide +kernel
theorem dX4_init_1 : decode cX4_init 1 = .ok (.invokespecial 3, 3) := by decide +kernel
theorem dX4_init_4 : decode cX4_init 4 = .ok (.return_, 1) := by decide +kernel
noncomputable def b_X4_init (a0 : Nat) (M : Me) : Option (Me) :=
  some M
noncomputable def f_X4_init (a0 : Nat) (M : Me) : Option (Me) := b_X4_init a0 M
set_option maxRecDepth 20000 in
theorem vb_X4_init (d : Nat) (hd : 1 ≤ d) (a0 : Nat) (M : Me) : V (mX4_init, d, 0, 0) (0, 0) M 0 [some (.ref a0)] [] (b_X4_init a0 M) (fun M2 => some (none, M2)) := by
  unfold b_X4_init
  refine v_aload_n (q := 1) dX4_init_0 rfl rfl rfl ?_
  refine v_oinit (q := 4) dX4_init_1 rfl cc_X4_3 aw_obj.1 aw_obj.2 (by show 1 ≤ d; omega) rfl ?_
  exact v_vret rfl dX4_init_4 ⟨Nat.le_of_ble_eq_true rfl, Nat.le_of_ble_eq_true rfl⟩ rfl
theorem ct_X4_init (d : Nat) (hd : 1 ≤ d) (a0 : Nat) (M : Me) (r : Me) (hf : f_X4_init a0 M = some r) : Ct yX4_init mX4_init d 0 0 [.ref a0] M (none, r) := by
  have hb : b_X4_init a0 M = some r := hf
  exact ct_of (by decide +kernel) rfl rfl (Nat.le_of_ble_eq_true rfl) (vb_X4_init d hd a0 M) (by rw [hb]; rfl)
theorem dX0_init_0 : decode cX0_init 0 = .ok (.aload_n 0, 1) := by decide +kernel
theorem dX0_init_1 : decode cX0_init 1 = .ok (.invokespecial 3, 3) := by decide +kernel
theorem dX0_init_4 : decode cX0_init 4 = .ok (.aload_n 0, 1) := by decide +kernel
theorem dX0_init_5 : decode cX0_init 5 = .ok (.new 9, 3) := by decide +kernel
theorem dX0_init_8 : decode cX0_init 8 = .ok (.dup, 1) := by decide +kernel
theorem dX0_init_9 : decode cX0_init 9 = .ok (.invokespecial 11, 3) := by decide +kernel
theorem dX0_init_12 : decode cX0_init 12 = .ok (.putfield 12, 3) := by decide +kernel
theorem dX0_init_15 : decode cX0_init 15 = .ok (.aload_n 0, 1) := by decide +kernel
theorem dX0_init_16 : decode cX0_init 16 = .ok (.bipush 6, 2) := by decide +kernel
theorem dX0_init_18 : decode cX0_init 18 = .ok (.anewarray 18, 3) := by decide +kernel
theorem dX0_init_21 : decode cX0_init 21 = .ok (.putfield 20, 3) := by decide +kernel
theorem dX0_init_24 : decode cX0_init 24 = .ok (.aload_n 0, 1) := by decide +kernel
theorem dX0_init_25 : decode cX0_init 25 = .ok (.new 24, 3) := by decide +kernel
theorem dX0_init_28 : decode cX0_init 28 = .ok (.dup, 1) := by decide +kernel
theorem dX0_init_29 : decode cX0_init 29 = .ok (.invokespecial 26, 3) := by decide +kernel
theorem dX0_init_32 : decode cX0_init 32 = .ok (.putfield 27, 3) := by decide +kernel
theorem dX0_init_35 : decode cX0_init 35 = .ok (.aload_n 0, 1) := by decide +kernel
theorem dX0_init_36 : decode cX0_init 36 = .ok (.new 31, 3) := by decide +kernel
theorem dX0_init_39 : decode cX0_init 39 = .ok (.dup, 1) := by decide +kernel
theorem dX0_init_40 : decode cX0_init 40 = .ok (.invokespecial 33, 3) := by decide +kernel
theorem dX0_init_43 : decode cX0_init 43 = .ok (.putfield 34, 3) := by decide +kernel
theorem dX0_init_46 : decode cX0_init 46 = .ok (.aload_n 0, 1) := by decide +kernel
theorem dX0_init_47 : decode cX0_init 47 = .ok (.new 18, 3) := by decide +kernel
theorem dX0_init_50 : decode cX0_init 50 = .ok (.dup, 1) := by decide +kernel
theorem dX0_init_51 : decode cX0_init 51 = .ok (.invokespecial 38, 3) := by decide +kernel
theorem dX0_init_54 : decode cX0_init 54 = .ok (.putfield 39, 3) := by decide +kernel
theorem dX0_init_57 : decode cX0_init 57 = .ok (.iconst 0, 1) := by decide +kernel
theorem dX0_init_58 : decode cX0_init 58 = .ok (.istore_n 1, 1) := by decide +kernel
theorem dX0_init_59 : decode cX0_init 59 = .ok (.iload_n 1, 1) := by decide +kernel
theorem dX0_init_60 : decode cX0_init 60 = .ok (.bipush 6, 2) := by decide +kernel
theorem dX0_init_62 : decode cX0_init 62 = .ok (.if_icmp .ge 22, 3) := by decide +kernel
theorem dX0_init_65 : decode cX0_init 65 = .ok (.aload_n 0, 1) := by decide +kernel
theorem dX0_init_66 : decode cX0_init 66 = .ok (.getfield 20, 3) := by decide +kernel
theorem dX0_init_69 : decode cX0_init 69 = .ok (.iload_n 1, 1) := by decide +kernel
theorem dX0_init_70 : decode cX0_init 70 = .ok (.new 18, 3) := by decide +kernel
theorem dX0_init_73 : decode cX0_init 73 = .ok (.dup, 1) := by decide +kernel
theorem dX0_init_74 : decode cX0_init 74 = .ok (.invokespecial 38, 3) := by decide +kernel
theorem dX0_init_77 : decode cX0_init 77 = .ok (.aastore, 1) := by decide +kernel
theorem dX0_init_78 : decode cX0_init 78 = .ok (.iinc 1 1, 3) := by decide +kernel
theorem dX0_init_81 : decode cX0_init 81 = .ok (.goto (-22), 3) := by decide +kernel
theorem dX0_init_84 : decode cX0_init 84 = .ok (.return_, 1) := by decide +kernel
noncomputable def b_X0_init (a0 : Nat) (M : Me) : Option (Me) :=
  no M 5 fun o1 M2 =>
  cM (f_X5_init o1 M2) fun M3 =>
  pr M3 a0 0 0 o1 fun M4 =>
  na M4 22 6 fun o5 M6 =>
  pr M6 a0 0 1 o5 fun M7 =>
  no M7 2 fun o8 M9 =>
  cM (f_X2_init o8 M9) fun M10 =>
  pr M10 a0 0 2 o8 fun M11 =>
  no M11 9 fun o12 M13 =>
  cM (f_X9_init o12 M13) fun M14 =>
  pr M14 a0 0 3 o12 fun M15 =>
  no M15 4 fun o16 M17 =>
  cM (f_X4_init o16 M17) fun M18 =>
  pr M18 a0 0 4 o16 fun M19 =>
  gr M19 a0 0 1 fun o20 =>
  no M19 4 fun o21 M22 =>
  cM (f_X4_init o21 M22) fun M23 =>
  sr M23 o20 22 4 (0 : Int32) o21 fun M24 =>
  gr M24 a0 0 1 fun o25 =>
  no M24 4 fun o26 M27 =>
  cM (f_X4_init o26 M27) fun M28 =>
  sr M28 o25 22 4 (1 : Int32) o26 fun M29 =>
  gr M29 a0 0 1 fun o30 =>
  no M29 4 fun o31 M32 =>
  cM (f_X4_init o31 M32) fun M33 =>
  sr M33 o30 22 4 (2 : Int32) o31 fun M34 =>
  gr M34 a0 0 1 fun o35 =>
  no M34 4 fun o36 M37 =>
  cM (f_X4_init o36 M37) fun M38 =>
  sr M38 o35 22 4 (3 : Int32) o36 fun M39 =>
  gr M39 a0 0 1 fun o40 =>
  no M39 4 fun o41 M42 =>
  cM (f_X4_init o41 M42) fun M43 =>
  sr M43 o40 22 4 (4 : Int32) o41 fun M44 =>
  gr M44 a0 0 1 fun o45 =>
  no M44 4 fun o46 M47 =>
  cM (f_X4_init o46 M47) fun M48 =>
  sr M48 o45 22 4 (5 : Int32) o46 fun M49 =>
  some M49
noncomputable def f_X0_init (a0 : Nat) (M : Me) : Option (Me) := b_X0_init a0 M
set_option maxRecDepth 20000 in
theorem vb_X0_init (d : Nat) (hd : 3 ≤ d) (a0 : Nat) (M : Me) : V (mX0_init, d, 27, 172) (0, 0) M 0 [some (.ref a0), none] [] (b_X0_init a0 M) (fun M2 => some (none, M2)) := by
  unfold b_X0_init
  refine v_aload_n (q := 1) dX0_init_0 rfl rfl rfl ?_
  refine v_oinit (q := 4) dX0_init_1 rfl cc_X0_3 aw_obj.1 aw_obj.2 (by show 1 ≤ d; omega) rfl ?_
  refine v_aload_n (q := 5) dX0_init_4 rfl rfl rfl ?_
  refine v_newU (q := 8) (u2 := (1, 3)) dX0_init_5 rfl cn_X0_9 ⟨Nat.le_of_ble_eq_true rfl, Nat.le_of_ble_eq_true rfl⟩ rfl (fun o1 M2 => ?_)
  refine v_dup (q := 9) dX0_init_8 rfl rfl ?_
  refine v_cMN0a (q := 12) (u2 := (2, 28)) (ct_X5_init (d - 1) (by omega) _ _) dX0_init_9 rfl cc_X0_11 (by omega) (Nat.le_of_ble_eq_true rfl) ⟨Nat.le_of_ble_eq_true rfl, Nat.le_of_ble_eq_true rfl⟩ rfl (fun M3 => ?_)
  refine v_putRb (q := 15) dX0_init_12 rfl fp_X0_12 (fun M4 => ?_)
  refine v_aload_n (q := 16) dX0_init_15 rfl rfl rfl ?_
  refine v_bipush (q := 18) dX0_init_16 rfl bp_6 ?_
  refine v_newRU (q := 21) (t0 := 2) (u2 := (3, 34)) dX0_init_18 rfl (Nat.le_of_ble_eq_true rfl) (fun _ => rfl) cn_X0_18.2.1 ao_4 (by decide) (by decide) (Nat.le_of_ble_eq_true rfl) ⟨Nat.le_of_ble_eq_true rfl, Nat.le_of_ble_eq_true rfl⟩ rfl (fun o5 M6 => ?_)
  refine v_putRb (q := 24) dX0_init_21 rfl fp_X0_20 (fun M7 => ?_)
  refine v_aload_n (q := 25) dX0_init_24 rfl rfl rfl ?_
  refine v_newU (q := 28) (u2 := (4, 36)) dX0_init_25 rfl cn_X0_24 ⟨Nat.le_of_ble_eq_true rfl, Nat.le_of_ble_eq_true rfl⟩ rfl (fun o8 M9 => ?_)
  refine v_dup (q := 29) dX0_init_28 rfl rfl ?_
  refine v_cMN0a (q := 32) (u2 := (17, 108)) (ct_X2_init (d - 1) (by omega) _ _) dX0_init_29 rfl cc_X0_26 (by omega) (Nat.le_of_ble_eq_true rfl) ⟨Nat.le_of_ble_eq_true rfl, Nat.le_of_ble_eq_true rfl⟩ rfl (fun M10 => ?_)
  refine v_putRb (q := 35) dX0_init_32 rfl fp_X0_27 (fun M11 => ?_)
  refine v_aload_n (q := 36) dX0_init_35 rfl rfl rfl ?_
  refine v_newU (q := 39) (u2 := (18, 111)) dX0_init_36 rfl cn_X0_31 ⟨Nat.le_of_ble_eq_true rfl, Nat.le_of_ble_eq_true rfl⟩ rfl (fun o12 M13 => ?_)
  refine v_dup (q := 40) dX0_init_39 rfl rfl ?_
  refine v_cMN0a (q := 43) (u2 := (20, 123)) (ct_X9_init (d - 1) (by omega) _ _) dX0_init_40 rfl cc_X0_33 (by omega) (Nat.le_of_ble_eq_true rfl) ⟨Nat.le_of_ble_eq_true rfl, Nat.le_of_ble_eq_true rfl⟩ rfl (fun M14 => ?_)
  refine v_putRb (q := 46) dX0_init_43 rfl fp_X0_34 (fun M15 => ?_)
  refine v_aload_n (q := 47) dX0_init_46 rfl rfl rfl ?_
  refine v_newU (q := 50) (u2 := (21, 130)) dX0_init_47 rfl cn_X0_18 ⟨Nat.le_of_ble_eq_true rfl, Nat.le_of_ble_eq_true rfl⟩ rfl (fun o16 M17 => ?_)
  refine v_dup (q := 51) dX0_init_50 rfl rfl ?_
  refine v_cMN0 (q := 54) (ct_X4_init (d - 1) (by omega) _ _) dX0_init_51 rfl cc_X0_38 (by omega) (Nat.le_of_ble_eq_true rfl) ⟨Nat.le_of_ble_eq_true rfl, Nat.le_of_ble_eq_true rfl⟩ (fun M18 => ?_)
  refine v_putRb (q := 57) dX0_init_54 rfl fp_X0_39 (fun M19 => ?_)
  refine v_iconst (q := 58) dX0_init_57 rfl ic_0 ?_
  refine v_istore_n (q := 59) (loc2 := [some (.ref a0), some (.int (0 : Int32))]) dX0_init_58 rfl rfl rfl (Nat.le_of_ble_eq_true rfl) rfl ?_
  refine v_iload_n (q := 60) dX0_init_59 rfl rfl rfl ?_
  refine v_bipush (q := 62) dX0_init_60 rfl bp_6 ?_
  refine v_icmp_geF (tgt := 84) (q := 65) dX0_init_62 rfl rfl (by decide) ?_
  refine v_aload_n (q := 66) dX0_init_65 rfl rfl rfl ?_
  refine v_getRb (q := 69) dX0_init_66 rfl fg_X0_20 (fun o20 => ?_)
  refine v_iload_n (q := 70) dX0_init_69 rfl rfl rfl ?_
  refine v_newU (q := 73) (u2 := (22, 137)) dX0_init_70 rfl cn_X0_18 ⟨Nat.le_of_ble_eq_true rfl, Nat.le_of_ble_eq_true rfl⟩ rfl (fun o21 M22 => ?_)
  refine v_dup (q := 74) dX0_init_73 rfl rfl ?_
  refine v_cMN0 (q := 77) (ct_X4_init (d - 1) (by omega) _ _) dX0_init_74 rfl cc_X0_38 (by omega) (Nat.le_of_ble_eq_true rfl) ⟨Nat.le_of_ble_eq_true rfl, Nat.le_of_ble_eq_true rfl⟩ (fun M23 => ?_)
  refine v_aastore (q := 78) (t0 := 2) dX0_init_77 rfl (Nat.le_of_ble_eq_true rfl) (Nat.le_of_ble_eq_true rfl) (fun _ => rfl) (fun M24 => ?_)
  refine v_iinc (q := 81) (v := (1 : Int32)) (loc2 := [some (.ref a0), some (.int (1 : Int32))]) dX0_init_78 rfl rfl (by decide) rfl (Nat.le_of_ble_eq_true rfl) rfl ?_
  refine v_goto (tgt := 59) dX0_init_81 rfl ?_
  refine v_iload_n (q := 60) dX0_init_59 rfl rfl rfl ?_
  refine v_bipush (q := 62) dX0_init_60 rfl bp_6 ?_
  refine v_icmp_geF (tgt := 84) (q := 65) dX0_init_62 rfl rfl (by decide) ?_
  refine v_aload_n (q := 66) dX0_init_65 rfl rfl rfl ?_
  refine v_getRb (q := 69) dX0_init_66 rfl fg_X0_20 (fun o25 => ?_)
  refine v_iload_n (q := 70) dX0_init_69 rfl rfl rfl ?_
  refine v_newU (q := 73) (u2 := (23, 144)) dX0_init_70 rfl cn_X0_18 ⟨Nat.le_of_ble_eq_true rfl, Nat.le_of_ble_eq_true rfl⟩ rfl (fun o26 M27 => ?_)
  refine v_dup (q := 74) dX0_init_73 rfl rfl ?_
  refine v_cMN0 (q := 77) (ct_X4_init (d - 1) (by omega) _ _) dX0_init_74 rfl cc_X0_38 (by omega) (Nat.le_of_ble_eq_true rfl) ⟨Nat.le_of_ble_eq_true rfl, Nat.le_of_ble_eq_true rfl⟩ (fun M28 => ?_)
  refine v_aastore (q := 78) (t0 := 2) dX0_init_77 rfl (Nat.le_of_ble_eq_true rfl) (Nat.le_of_ble_eq_true rfl) (fun _ => rfl) (fun M29 => ?_)
  refine v_iinc (q := 81) (v := (2 : Int32)) (loc2 := [some (.ref a0), some (.int (2 : Int32))]) dX0_init_78 rfl rfl (by decide) rfl (Nat.le_of_ble_eq_true rfl) rfl ?_
  refine v_goto (tgt := 59) dX0_init_81 rfl ?_
  refine v_iload_n (q := 60) dX0_init_59 rfl rfl rfl ?_
  refine v_bipush (q := 62) dX0_init_60 rfl bp_6 ?_
  refine v_icmp_geF (tgt := 84) (q := 65) dX0_init_62 rfl rfl (by decide) ?_
  refine v_aload_n (q := 66) dX0_init_65 rfl rfl rfl ?_
  refine v_getRb (q := 69) dX0_init_66 rfl fg_X0_20 (fun o30 => ?_)
  refine v_iload_n (q := 70) dX0_init_69 rfl rfl rfl ?_
  refine v_newU (q := 73) (u2 := (24, 151)) dX0_init_70 rfl cn_X0_18 ⟨Nat.le_of_ble_eq_true rfl, Nat.le_of_ble_eq_true rfl⟩ rfl (fun o31 M32 => ?_)
  refine v_dup (q := 74) dX0_init_73 rfl rfl ?_
  refine v_cMN0 (q := 77) (ct_X4_init (d - 1) (by omega) _ _) dX0_init_74 rfl cc_X0_38 (by omega) (Nat.le_of_ble_eq_true rfl) ⟨Nat.le_of_ble_eq_true rfl, Nat.le_of_ble_eq_true rfl⟩ (fun M33 => ?_)
  refine v_aastore (q := 78) (t0 := 2) dX0_init_77 rfl (Nat.le_of_ble_eq_true rfl) (Nat.le_of_ble_eq_true rfl) (fun _ => rfl) (fun M34 => ?_)
  refine v_iinc (q := 81) (v := (3 : Int32)) (loc2 := [some (.ref a0), some (.int (3 : Int32))]) dX0_init_78 rfl rfl (by decide) rfl (Nat.le_of_ble_eq_true rfl) rfl ?_
  refine v_goto (tgt := 59) dX0_init_81 rfl ?_
  refine v_iload_n (q := 60) dX0_init_59 rfl rfl rfl ?_
  refine v_bipush (q := 62) dX0_init_60 rfl bp_6 ?_
  refine v_icmp_geF (tgt := 84) (q := 65) dX0_init_62 rfl rfl (by decide) ?_
  refine v_aload_n (q := 66) dX0_init_65 rfl rfl rfl ?_
  refine v_getRb (q := 69) dX0_init_66 rfl fg_X0_20 (fun o35 => ?_)
  refine v_iload_n (q := 70) dX0_init_69 rfl rfl rfl ?_
  refine v_newU (q := 73) (u2 := (25, 158)) dX0_init_70 rfl cn_X0_18 ⟨Nat.le_of_ble_eq_true rfl, Nat.le_of_ble_eq_true rfl⟩ rfl (fun o36 M37 => ?_)
  refine v_dup (q := 74) dX0_init_73 rfl rfl ?_
  refine v_cMN0 (q := 77) (ct_X4_init (d - 1) (by omega) _ _) dX0_init_74 rfl cc_X0_38 (by omega) (Nat.le_of_ble_eq_true rfl) ⟨Nat.le_of_ble_eq_true rfl, Nat.le_of_ble_eq_true rfl⟩ (fun M38 => ?_)
  refine v_aastore (q := 78) (t0 := 2) dX0_init_77 rfl (Nat.le_of_ble_eq_true rfl) (Nat.le_of_ble_eq_true rfl) (fun _ => rfl) (fun M39 => ?_)
  refine v_iinc (q := 81) (v := (4 : Int32)) (loc2 := [some (.ref a0), some (.int (4 : Int32))]) dX0_init_78 rfl rfl (by decide) rfl (Nat.le_of_ble_eq_true rfl) rfl ?_
  refine v_goto (tgt := 59) dX0_init_81 rfl ?_
  refine v_iload_n (q := 60) dX0_init_59 rfl rfl rfl ?_
  refine v_bipush (q := 62) dX0_init_60 rfl bp_6 ?_
  refine v_icmp_geF (tgt := 84) (q := 65) dX0_init_62 rfl rfl (by decide) ?_
  refine v_aload_n (q := 66) dX0_init_65 rfl rfl rfl ?_
  refine v_getRb (q := 69) dX0_init_66 rfl fg_X0_20 (fun o40 => ?_)
  refine v_iload_n (q := 70) dX0_init_69 rfl rfl rfl ?_
  refine v_newU (q := 73) (u2 := (26, 165)) dX0_init_70 rfl cn_X0_18 ⟨Nat.le_of_ble_eq_true rfl, Nat.le_of_ble_eq_true rfl⟩ rfl (fun o41 M42 => ?_)
  refine v_dup (q := 74) dX0_init_73 rfl rfl ?_
  refine v_cMN0 (q := 77) (ct_X4_init (d - 1) (by omega) _ _) dX0_init_74 rfl cc_X0_38 (by omega) (Nat.le_of_ble_eq_true rfl) ⟨Nat.le_of_ble_eq_true rfl, Nat.le_of_ble_eq_true rfl⟩ (fun M43 => ?_)
  refine v_aastore (q := 78) (t0 := 2) dX0_init_77 rfl (Nat.le_of_ble_eq_true rfl) (Nat.le_of_ble_eq_true rfl) (fun _ => rfl) (fun M44 => ?_)
  refine v_iinc (q := 81) (v := (5 : Int32)) (loc2 := [some (.ref a0), some (.int (5 : Int32))]) dX0_init_78 rfl rfl (by decide) rfl (Nat.le_of_ble_eq_true rfl) rfl ?_
  refine v_goto (tgt := 59) dX0_init_81 rfl ?_
  refine v_iload_n (q := 60) dX0_init_59 rfl rfl rfl ?_
  refine v_bipush (q := 62) dX0_init_60 rfl bp_6 ?_
  refine v_icmp_geF (tgt := 84) (q := 65) dX0_init_62 rfl rfl (by decide) ?_
  refine v_aload_n (q := 66) dX0_init_65 rfl rfl rfl ?_
  refine v_getRb (q := 69) dX0_init_66 rfl fg_X0_20 (fun o45 => ?_)
  refine v_iload_n (q := 70) dX0_init_69 rfl rfl rfl ?_
  refine v_newU (q := 73) (u2 := (27, 172)) dX0_init_70 rfl cn_X0_18 ⟨Nat.le_of_ble_eq_true rfl, Nat.le_of_ble_eq_true rfl⟩ rfl (fun o46 M47 => ?_)
  refine v_dup (q := 74) dX0_init_73 rfl rfl ?_
  refine v_cMN0 (q := 77) (ct_X4_init (d - 1) (by omega) _ _) dX0_init_74 rfl cc_X0_38 (by omega) (Nat.le_of_ble_eq_true rfl) ⟨Nat.le_of_ble_eq_true rfl, Nat.le_of_ble_eq_true rfl⟩ (fun M48 => ?_)
  refine v_aastore (q := 78) (t0 := 2) dX0_init_77 rfl (Nat.le_of_ble_eq_true rfl) (Nat.le_of_ble_eq_true rfl) (fun _ => rfl) (fun M49 => ?_)
  refine v_iinc (q := 81) (v := (6 : Int32)) (loc2 := [some (.ref a0), some (.int (6 : Int32))]) dX0_init_78 rfl rfl (by decide) rfl (Nat.le_of_ble_eq_true rfl) rfl ?_
  refine v_goto (tgt := 59) dX0_init_81 rfl ?_
  refine v_iload_n (q := 60) dX0_init_59 rfl rfl rfl ?_
  refine v_bipush (q := 62) dX0_init_60 rfl bp_6 ?_
  refine v_icmp_geT (tgt := 84) dX0_init_62 rfl (by decide) ?_
  exact v_vret rfl dX0_init_84 ⟨Nat.le_of_ble_eq_true rfl, Nat.le_of_ble_eq_true rfl⟩ rfl
theorem ct_X0_init (d : Nat) (hd : 3 ≤ d) (a0 : Nat) (M : Me) (r : Me) (hf : f_X0_init a0 M = some r) : Ct yX0_init mX0_init d 27 172 [.ref a0] M (none, r) := by
  have hb : b_X0_init a0 M = some r := hf
  exact ct_of (by decide +kernel) rfl rfl (Nat.le_of_ble_eq_true rfl) (vb_X0_init d hd a0 M) (by rw [hb]; rfl)
theorem dX5_copy_0 : decode cX5_copy 0 = .ok (.aload_n 0, 1) := by decide +kernel
theorem dX5_copy_1 : decode cX5_copy 1 = .ok (.aload_n 1, 1) := by decide +kernel
theorem dX5_copy_2 : decode cX5_copy 2 = .ok (.getfield 9, 3) := by decide +kernel
theorem dX5_copy_5 : decode cX5_copy 5 = .ok (.putfield 9, 3) := by decide +kernel
theorem dX5_copy_8 : decode cX5_copy 8 = .ok (.aload_n 0, 1) := by decide +kernel
theorem dX5_copy_9 : decode cX5_copy 9 = .ok (.aload_n 1, 1) := by decide +kernel
theorem dX5_copy_10 : decode cX5_copy 10 = .ok (.getfield 15, 3) := by decide +kernel
theorem dX5_copy_13 : decode cX5_copy 13 = .ok (.putfield 15, 3) := by decide +kernel
theorem dX5_copy_16 : decode cX5_copy 16 = .ok (.aload_n 1, 1) := by decide +kernel
theorem dX5_copy_17 : decode cX5_copy 17 = .ok (.getfield 18, 3) := by decide +kernel
theorem dX5_copy_20 : decode cX5_copy 20 = .ok (.iconst 0, 1) := by decide +kernel
theorem dX5_copy_21 : decode cX5_copy 21 = .ok (.aload_n 0, 1) := by decide +kernel
theorem dX5_copy_22 : decode cX5_copy 22 = .ok (.getfield 18, 3) := by decide +kernel
theorem dX5_copy_25 : decode cX5_copy 25 = .ok (.iconst 0, 1) := by decide +kernel
theorem dX5_copy_26 : decode cX5_copy 26 = .ok (.aload_n 0, 1) := by decide +kernel
theorem dX5_copy_27 : decode cX5_copy 27 = .ok (.getfield 18, 3) := by decide +kernel
theorem dX5_copy_30 : decode cX5_copy 30 = .ok (.arraylength, 1) := by decide +kernel
theorem dX5_copy_31 : decode cX5_copy 31 = .ok (.invokestatic 22, 3) := by decide +kernel
theorem dX5_copy_34 : decode cX5_copy 34 = .ok (.return_, 1) := by decide +kernel
noncomputable def b_X5_copy (a0 : Nat) (a1 : Nat) (M : Me) : Option (Me) :=
  gi M a1 5 0 fun v1 =>
  pi M a0 5 0 v1 fun M2 =>
  gi M2 a1 5 1 fun v3 =>
  pi M2 a0 5 1 v3 fun M4 =>
  gr M4 a1 5 2 fun o5 =>
  gr M4 a0 5 2 fun o6 =>
  gr M4 a0 5 2 fun o7 =>
  al M4 o7 20 fun v8 =>
  ac M4 o5 (0 : Int32) o6 (0 : Int32) v8 fun M9 =>
  some M9
noncomputable def f_X5_copy (a0 : Nat) (a1 : Nat) (M : Me) : Option (Me) := ck M a0 5 (b_X5_copy a0 a1 M)
set_option maxRecDepth 20000 in
theorem vb_X5_copy (d : Nat) (hd : 1 ≤ d) (a0 : Nat) (a1 : Nat) (M : Me) : V (mX5_copy, d, 0, 0) (0, 0) M 0 [some (.ref a0), some (.ref a1)] [] (b_X5_copy a0 a1 M) (fun M2 => some (none, M2)) := by
  unfold b_X5_copy
  refine v_aload_n (q := 1) dX5_copy_0 rfl rfl rfl ?_
  refine v_aload_n (q := 2) dX5_copy_1 rfl rfl rfl ?_
  refine v_getIb (q := 5) dX5_copy_2 rfl fg_X5_9 (fun v1 => ?_)
  refine v_putIb (q := 8) dX5_copy_5 rfl fp_X5_9 (fun M2 => ?_)
  refine v_aload_n (q := 9) dX5_copy_8 rfl rfl rfl ?_
  refine v_aload_n (q := 10) dX5_copy_9 rfl rfl rfl ?_
  refine v_getIb (q := 13) dX5_copy_10 rfl fg_X5_15 (fun v3 => ?_)
  refine v_putIb (q := 16) dX5_copy_13 rfl fp_X5_15 (fun M4 => ?_)
  refine v_aload_n (q := 17) dX5_copy_16 rfl rfl rfl ?_
  refine v_getRb (q := 20) dX5_copy_17 rfl fg_X5_18 (fun o5 => ?_)
  refine v_iconst (q := 21) dX5_copy_20 rfl ic_0 ?_
  refine v_aload_n (q := 22) dX5_copy_21 rfl rfl rfl ?_
  refine v_getRb (q := 25) dX5_copy_22 rfl fg_X5_18 (fun o6 => ?_)
  refine v_iconst (q := 26) dX5_copy_25 rfl ic_0 ?_
  refine v_aload_n (q := 27) dX5_copy_26 rfl rfl rfl ?_
  refine v_getRb (q := 30) dX5_copy_27 rfl fg_X5_18 (fun o7 => ?_)
  refine v_alen (q := 31) (t0 := 0) dX5_copy_30 rfl (Nat.le_of_ble_eq_true rfl) (fun _ => rfl) (fun v8 => ?_)
  refine v_acopy (q := 34) dX5_copy_31 rfl cc_X5_22 aw_copy.1 aw_copy.2.1 aw_copy.2.2 (by show 1 ≤ d; omega) rfl (fun M9 => ?_)
  exact v_vret rfl dX5_copy_34 ⟨Nat.le_of_ble_eq_true rfl, Nat.le_of_ble_eq_true rfl⟩ rfl
theorem ct_X5_copy (d : Nat) (hd : 1 ≤ d) (a0 : Nat) (a1 : Nat) (M : Me) (r : Me) (hf : f_X5_copy a0 a1 M = some r) : me_k M a0 = some (5, nf_c 5) ∧ Ct yX5_copy mX5_copy d 0 0 [.ref a0, .ref a1] M (none, r) := by
  obtain ⟨hk, hb⟩ := ck_some hf
  exact ⟨hk, ct_of (by decide +kernel) rfl rfl (Nat.le_of_ble_eq_true rfl) (vb_X5_copy d hd a0 a1 M) (by rw [hb]; rfl)⟩
theorem dX4_copy_0 : decode cX4_copy 0 = .ok (.aload_n 0, 1) := by decide +kernel
theorem dX4_copy_1 : decode cX4_copy 1 = .ok (.aload_n 1, 1) := by decide +kernel
theorem dX4_copy_2 : decode cX4_copy 2 = .ok (.getfield 9, 3) := by decide +kernel
theorem dX4_copy_5 : decode cX4_copy 5 = .ok (.putfield 9, 3) := by decide +kernel
theorem dX4_copy_8 : decode cX4_copy 8 = .ok (.aload_n 0, 1) := by decide +kernel
theorem dX4_copy_9 : decode cX4_copy 9 = .ok (.aload_n 1, 1) := by decide +kernel
theorem dX4_copy_10 : decode cX4_copy 10 = .ok (.getfield 15, 3) := by decide +kernel
theorem dX4_copy_13 : decode cX4_copy 13 = .ok (.putfield 15, 3) := by decide +kernel
theorem dX4_copy_16 : decode cX4_copy 16 = .ok (.aload_n 0, 1) := by decide +kernel
theorem dX4_copy_17 : decode cX4_copy 17 = .ok (.aload_n 1, 1) := by decide +kernel
theorem dX4_copy_18 : decode cX4_copy 18 = .ok (.getfield 19, 3) := by decide +kernel
theorem dX4_copy_21 : decode cX4_copy 21 = .ok (.putfield 19, 3) := by decide +kernel
theorem dX4_copy_24 : decode cX4_copy 24 = .ok (.aload_n 0, 1) := by decide +kernel
theorem dX4_copy_25 : decode cX4_copy 25 = .ok (.aload_n 1, 1) := by decide +kernel
theorem dX4_copy_26 : decode cX4_copy 26 = .ok (.getfield 22, 3) := by decide +kernel
theorem dX4_copy_29 : decode cX4_copy 29 = .ok (.putfield 22, 3) := by decide +kernel
theorem dX4_copy_32 : decode cX4_copy 32 = .ok (.aload_n 0, 1) := by decide +kernel
theorem dX4_copy_33 : decode cX4_copy 33 = .ok (.aload_n 1, 1) := by decide +kernel
theorem dX4_copy_34 : decode cX4_copy 34 = .ok (.getfield 25, 3) := by decide +kernel
theorem dX4_copy_37 : decode cX4_copy 37 = .ok (.putfield 25, 3) := by decide +kernel
theorem dX4_copy_40 : decode cX4_copy 40 = .ok (.aload_n 0, 1) := by decide +kernel
theorem dX4_copy_41 : decode cX4_copy 41 = .ok (.aload_n 1, 1) := by decide +kernel
theorem dX4_copy_42 : decode cX4_copy 42 = .ok (.getfield 28, 3) := by decide +kernel
theorem dX4_copy_45 : decode cX4_copy 45 = .ok (.putfield 28, 3) := by decide +kernel
theorem dX4_copy_48 : decode cX4_copy 48 = .ok (.aload_n 0, 1) := by decide +kernel
theorem dX4_copy_49 : decode cX4_copy 49 = .ok (.aload_n 1, 1) := by decide +kernel
theorem dX4_copy_50 : decode cX4_copy 50 = .ok (.getfield 31, 3) := by decide +kernel
theorem dX4_copy_53 : decode cX4_copy 53 = .ok (.putfield 31, 3) := by decide +kernel
theorem dX4_copy_56 : decode cX4_copy 56 = .ok (.return_, 1) := by decide +kernel
noncomputable def b_X4_copy (a0 : Nat) (a1 : Nat) (M : Me) : Option (Me) :=
  gi M a1 4 0 fun v1 =>
  pz M a0 4 0 v1 fun M2 =>
  gi M2 a1 4 1 fun v3 =>
  pi M2 a0 4 1 v3 fun M4 =>
  gi M4 a1 4 2 fun v5 =>
  pi M4 a0 4 2 v5 fun M6 =>
  gi M6 a1 4 3 fun v7 =>
  pi M6 a0 4 3 v7 fun M8 =>
  gi M8 a1 4 4 fun v9 =>
  pi M8 a0 4 4 v9 fun M10 =>
  gi M10 a1 4 5 fun v11 =>
  pi M10 a0 4 5 v11 fun M12 =>
  gi M12 a1 4 6 fun v13 =>
  pi M12 a0 4 6 v13 fun M14 =>
  some M14
noncomputable def f_X4_copy (a0 : Nat) (a1 : Nat) (M : Me) : Option (Me) := ck M a0 4 (b_X4_copy a0 a1 M)
set_option maxRecDepth 20000 in
theorem vb_X4_copy (d : Nat) (hd : 0 ≤ d) (a0 : Nat) (a1 : Nat) (M : Me) : V (mX4_copy, d, 0, 0) (0, 0) M 0 [some (.ref a0), some (.ref a1)] [] (b_X4_copy a0 a1 M) (fun M2 => some (none, M2)) := by
  unfold b_X4_copy
  refine v_aload_n (q := 1) dX4_copy_0 rfl rfl rfl ?_
  refine v_aload_n (q := 2) dX4_copy_1 rfl rfl rfl ?_
  refine v_getIb (q := 5) dX4_copy_2 rfl fg_X4_9 (fun v1 => ?_)
  refine v_putZb (q := 8) dX4_copy_5 rfl fp_X4_9 (fun M2 => ?_)
  refine v_aload_n (q := 9) dX4_copy_8 rfl rfl rfl ?_
  refine v_aload_n (q := 10) dX4_copy_9 rfl rfl rfl ?_
  refine v_getIb (q := 13) dX4_copy_10 rfl fg_X4_15 (fun v3 => ?_)
  refine v_putIb (q := 16) dX4_copy_13 rfl fp_X4_15 (fun M4 => ?_)
  refine v_aload_n (q := 17) dX4_copy_16 rfl rfl rfl ?_
  refine v_aload_n (q := 18) dX4_copy_17 rfl rfl rfl ?_
  refine v_getIb (q := 21) dX4_copy_18 rfl fg_X4_19 (fun v5 => ?_)
  refine v_putIb (q := 24) dX4_copy_21 rfl fp_X4_19 (fun M6 => ?_)
  refine v_aload_n (q := 25) dX4_copy_24 rfl rfl rfl ?_
  refine v_aload_n (q := 26) dX4_copy_25 rfl rfl rfl ?_
  refine v_getIb (q := 29) dX4_copy_26 rfl fg_X4_22 (fun v7 => ?_)
  refine v_putIb (q := 32) dX4_copy_29 rfl fp_X4_22 (fun M8 => ?_)
  refine v_aload_n (q := 33) dX4_copy_32 rfl rfl rfl ?_
  refine v_aload_n (q := 34) dX4_copy_33 rfl rfl rfl ?_
  refine v_getIb (q := 37) dX4_copy_34 rfl fg_X4_25 (fun v9 => ?_)
  refine v_putIb (q := 40) dX4_copy_37 rfl fp_X4_25 (fun M10 => ?_)
  refine v_aload_n (q := 41) dX4_copy_40 rfl rfl rfl ?_
  refine v_aload_n (q := 42) dX4_copy_41 rfl rfl rfl ?_
  refine v_getIb (q := 45) dX4_copy_42 rfl fg_X4_28 (fun v11 => ?_)
  refine v_putIb (q := 48) dX4_copy_45 rfl fp_X4_28 (fun M12 => ?_)
  refine v_aload_n (q := 49) dX4_copy_48 rfl rfl rfl ?_
  refine v_aload_n (q := 50) dX4_copy_49 rfl rfl rfl ?_
  refine v_getIb (q := 53) dX4_copy_50 rfl fg_X4_31 (fun v13 => ?_)
  refine v_putIb (q := 56) dX4_copy_53 rfl fp_X4_31 (fun M14 => ?_)
  exact v_vret rfl dX4_copy_56 ⟨Nat.le_of_ble_eq_true rfl, Nat.le_of_ble_eq_true rfl⟩ rfl
theorem ct_X4_copy (d : Nat) (hd : 0 ≤ d) (a0 : Nat) (a1 : Nat) (M : Me) (r : Me) (hf : f_X4_copy a0 a1 M = some r) : me_k M a0 = some (4, nf_c 4) ∧ Ct yX4_copy mX4_copy d 0 0 [.ref a0, .ref a1] M (none, r) := by
  obtain ⟨hk, hb⟩ := ck_some hf
  exact ⟨hk, ct_of (by decide +kernel) rfl rfl (Nat.le_of_ble_eq_true rfl) (vb_X4_copy d hd a0 a1 M) (by rw [hb]; rfl)⟩
theorem dX1_set_0 : decode cX1_set 0 = .ok (.aload_n 0, 1) := by decide +kernel
theorem dX1_set_1 : decode cX1_set 1 = .ok (.iload_n 1, 1) := by decide +kernel
theorem dX1_set_2 : decode cX1_set 2 = .ok (.putfield 7, 3) := by decide +kernel
theorem dX1_set_5 : decode cX1_set 5 = .ok (.aload_n 0, 1) := by decide +kernel
theorem dX1_set_6 : decode cX1_set 6 = .ok (.iload_n 2, 1) := by decide +kernel
theorem dX1_set_7 : decode cX1_set 7 = .ok (.putfield 13, 3) := by decide +kernel
theorem dX1_set_10 : decode cX1_set 10 = .ok (.aload_n 0, 1) := by decide +kernel
theorem dX1_set_11 : decode cX1_set 11 = .ok (.iload_n 3, 1) := by decide +kernel
theorem dX1_set_12 : decode cX1_set 12 = .ok (.putfield 16, 3) := by decide +kernel
theorem dX1_set_15 : decode cX1_set 15 = .ok (.aload_n 0, 1) := by decide +kernel
theorem dX1_set_16 : decode cX1_set 16 = .ok (.iload 4, 2) := by decide +kernel
theorem dX1_set_18 : decode cX1_set 18 = .ok (.putfield 19, 3) := by decide +kernel
theorem dX1_set_21 : decode cX1_set 21 = .ok (.aload_n 0, 1) := by decide +kernel
theorem dX1_set_22 : decode cX1_set 22 = .ok (.iconst 0, 1) := by decide +kernel
theorem dX1_set_23 : decode cX1_set 23 = .ok (.putfield 22, 3) := by decide +kernel
theorem dX1_set_26 : decode cX1_set 26 = .ok (.return_, 1) := by decide +kernel
noncomputable def b_X1_set (a0 : Nat) (x1 : Int32) (x2 : Int32) (x3 : Int32) (x4 : Int32) (M : Me) : Option (Me) :=
  pi M a0 1 0 x1 fun M1 =>
  pi M1 a0 1 1 x2 fun M2 =>
  pi M2 a0 1 2 x3 fun M3 =>
  pi M3 a0 1 3 x4 fun M4 =>
  pz M4 a0 1 4 (0 : Int32) fun M5 =>
  some M5
noncomputable def f_X1_set (a0 : Nat) (x1 : Int32) (x2 : Int32) (x3 : Int32) (x4 : Int32) (M : Me) : Option (Me) := ck M a0 1 (b_X1_set a0 x1 x2 x3 x4 M)
set_option maxRecDepth 20000 in
theorem vb_X1_set (d : Nat) (hd : 0 ≤ d) (a0 : Nat) (x1 : Int32) (x2 : Int32) (x3 : Int32) (x4 : Int32) (M : Me) : V (mX1_set, d, 0, 0) (0, 0) M 0 [some (.ref a0), some (.int x1), some (.int x2), some (.int x3), some (.int x4)] [] (b_X1_set a0 x1 x2 x3 x4 M) (fun M2 => some (none, M2)) := by
  unfold b_X1_set
  refine v_aload_n (q := 1) dX1_set_0 rfl rfl rfl ?_
  refine v_iload_n (q := 2) dX1_set_1 rfl rfl rfl ?_
  refine v_putIb (q := 5) dX1_set_2 rfl fp_X1_7 (fun M1 => ?_)
  refine v_aload_n (q := 6) dX1_set_5 rfl rfl rfl ?_
  refine v_iload_n (q := 7) dX1_set_6 rfl rfl rfl ?_
  refine v_putIb (q := 10) dX1_set_7 rfl fp_X1_13 (fun M2 => ?_)
  refine v_aload_n (q := 11) dX1_set_10 rfl rfl rfl ?_
  refine v_iload_n (q := 12) dX1_set_11 rfl rfl rfl ?_
  refine v_putIb (q := 15) dX1_set_12 rfl fp_X1_16 (fun M3 => ?_)
  refine v_aload_n (q := 16) dX1_set_15 rfl rfl rfl ?_
  refine v_iload (q := 18) dX1_set_16 rfl rfl ?_
  refine v_putIb (q := 21) dX1_set_18 rfl fp_X1_19 (fun M4 => ?_)
  refine v_aload_n (q := 22) dX1_set_21 rfl rfl rfl ?_
  refine v_iconst (q := 23) dX1_set_22 rfl ic_0 ?_
  refine v_putZb (q := 26) dX1_set_23 rfl fp_X1_22 (fun M5 => ?_)
  exact v_vret rfl dX1_set_26 ⟨Nat.le_of_ble_eq_true rfl, Nat.le_of_ble_eq_true rfl⟩ rfl
theorem ct_X1_set (d : Nat) (hd : 0 ≤ d) (a0 : Nat) (x1 : Int32) (x2 : Int32) (x3 : Int32) (x4 : Int32) (M : Me) (r : Me) (hf : f_X1_set a0 x1 x2 x3 x4 M = some r) : me_k M a0 = some (1, nf_c 1) ∧ Ct yX1_set mX1_set d 0 0 [.ref a0, .int x1, .int x2, .int x3, .int x4] M (none, r) := by
  obtain ⟨hk, hb⟩ := ck_some hf
  exact ⟨hk, ct_of (by decide +kernel) rfl rfl (Nat.le_of_ble_eq_true rfl) (vb_X1_set d hd a0 x1 x2 x3 x4 M) (by rw [hb]; rfl)⟩
theorem dX2_copy_0 : decode cX2_copy 0 = .ok (.aload_n 0, 1) := by decide +kernel
theorem dX2_copy_1 : decode cX2_copy 1 = .ok (.aload_n 1, 1) := by decide +kernel
theorem dX2_copy_2 : decode cX2_copy 2 = .ok (.getfield 18, 3) := by decide +kernel
theorem dX2_copy_5 : decode cX2_copy 5 = .ok (.putfield 18, 3) := by decide +kernel
theorem dX2_copy_8 : decode cX2_copy 8 = .ok (.iconst 0, 1) := by decide +kernel
theorem dX2_copy_9 : decode cX2_copy 9 = .ok (.istore_n 2, 1) := by decide +kernel
theorem dX2_copy_10 : decode cX2_copy 10 = .ok (.iload_n 2, 1) := by decide +kernel
theorem dX2_copy_11 : decode cX2_copy 11 = .ok (.bipush 12, 2) := by decide +kernel
theorem dX2_copy_13 : decode cX2_copy 13 = .ok (.if_icmp .ge 49, 3) := by decide +kernel
theorem dX2_copy_16 : decode cX2_copy 16 = .ok (.iload_n 2, 1) := by decide +kernel
theorem dX2_copy_17 : decode cX2_copy 17 = .ok (.aload_n 0, 1) := by decide +kernel
theorem dX2_copy_18 : decode cX2_copy 18 = .ok (.getfield 18, 3) := by decide +kernel
theorem dX2_copy_21 : decode cX2_copy 21 = .ok (.if_icmp .ge 41, 3) := by decide +kernel
theorem dX2_copy_24 : decode cX2_copy 24 = .ok (.aload_n 1, 1) := by decide +kernel
theorem dX2_copy_25 : decode cX2_copy 25 = .ok (.getfield 11, 3) := by decide +kernel
theorem dX2_copy_28 : decode cX2_copy 28 = .ok (.iload_n 2, 1) := by decide +kernel
theorem dX2_copy_29 : decode cX2_copy 29 = .ok (.aaload, 1) := by decide +kernel
theorem dX2_copy_30 : decode cX2_copy 30 = .ok (.astore_n 3, 1) := by decide +kernel
theorem dX2_copy_31 : decode cX2_copy 31 = .ok (.aload_n 0, 1) := by decide +kernel
theorem dX2_copy_32 : decode cX2_copy 32 = .ok (.getfield 11, 3) := by decide +kernel
theorem dX2_copy_35 : decode cX2_copy 35 = .ok (.iload_n 2, 1) := by decide +kernel
theorem dX2_copy_36 : decode cX2_copy 36 = .ok (.aaload, 1) := by decide +kernel
theorem dX2_copy_37 : decode cX2_copy 37 = .ok (.aload_n 3, 1) := by decide +kernel
theorem dX2_copy_38 : decode cX2_copy 38 = .ok (.getfield 22, 3) := by decide +kernel
theorem dX2_copy_41 : decode cX2_copy 41 = .ok (.aload_n 3, 1) := by decide +kernel
theorem dX2_copy_42 : decode cX2_copy 42 = .ok (.getfield 25, 3) := by decide +kernel
theorem dX2_copy_45 : decode cX2_copy 45 = .ok (.aload_n 3, 1) := by decide +kernel
theorem dX2_copy_46 : decode cX2_copy 46 = .ok (.getfield 28, 3) := by decide +kernel
theorem dX2_copy_49 : decode cX2_copy 49 = .ok (.aload_n 3, 1) := by decide +kernel
theorem dX2_copy_50 : decode cX2_copy 50 = .ok (.getfield 31, 3) := by decide +kernel
theorem dX2_copy_53 : decode cX2_copy 53 = .ok (.invokevirtual 34, 3) := by decide +kernel
theorem dX2_copy_56 : decode cX2_copy 56 = .ok (.iinc 2 1, 3) := by decide +kernel
theorem dX2_copy_59 : decode cX2_copy 59 = .ok (.goto (-49), 3) := by decide +kernel
theorem dX2_copy_62 : decode cX2_copy 62 = .ok (.return_, 1) := by decide +kernel
noncomputable def s_X2_copy_10 (a0 : Nat) (a1 : Nat) (M3 : Me) (v4 : Int32) : Option ((Me × Int32) ⊕ (Me × Int32)) :=
  if (12 : Int32) ≤ v4 then (
    some (Sum.inr (M3, v4))
  ) else (
    gi M3 a0 2 0 fun v5 =>
    if v5 ≤ v4 then (
      some (Sum.inr (M3, v4))
    ) else (
      gr M3 a1 2 1 fun o6 =>
      lr M3 o6 23 v4 fun o7 =>
      gr M3 a0 2 1 fun o8 =>
      lr M3 o8 23 v4 fun o9 =>
      gi M3 o7 1 0 fun v10 =>
      gi M3 o7 1 1 fun v11 =>
      gi M3 o7 1 2 fun v12 =>
      gi M3 o7 1 3 fun v13 =>
      cM (f_X1_set o9 v10 v11 v12 v13 M3) fun M14 =>
      let_v (v4 + (1 : Int32)) fun v15 =>
      some (Sum.inl (M14, v15))
    )
  )
noncomputable def b_X2_copy (a0 : Nat) (a1 : Nat) (M : Me) : Option (Me) :=
  gi M a1 2 0 fun v1 =>
  pi M a0 2 0 v1 fun M2 =>
  (lp (fun s => s_X2_copy_10 a0 a1 s.1 s.2) (M2, (0 : Int32))).bind fun e16 =>
  some e16.1
noncomputable def f_X2_copy (a0 : Nat) (a1 : Nat) (M : Me) : Option (Me) := ck M a0 2 (b_X2_copy a0 a1 M)
set_option maxRecDepth 20000 in
theorem vb_X2_copy (d : Nat) (hd : 1 ≤ d) (a0 : Nat) (a1 : Nat) (M : Me) : V (mX2_copy, d, 0, 0) (0, 0) M 0 [some (.ref a0), some (.ref a1), none, none] [] (b_X2_copy a0 a1 M) (fun M2 => some (none, M2)) := by
  unfold b_X2_copy
  refine v_aload_n (q := 1) dX2_copy_0 rfl rfl rfl ?_
  refine v_aload_n (q := 2) dX2_copy_1 rfl rfl rfl ?_
  refine v_getIb (q := 5) dX2_copy_2 rfl fg_X2_18 (fun v1 => ?_)
  refine v_putIb (q := 8) dX2_copy_5 rfl fp_X2_18 (fun M2 => ?_)
  refine v_iconst (q := 9) dX2_copy_8 rfl ic_0 ?_
  refine v_istore_n (q := 10) (loc2 := [some (.ref a0), some (.ref a1), some (.int (0 : Int32)), none]) dX2_copy_9 rfl rfl rfl (Nat.le_of_ble_eq_true rfl) rfl ?_
  refine v_lps (S := Me × Int32) 62 (fun s => s.1) (fun s => [some (.ref a0), some (.ref a1), some (.int s.2), none]) (fun e16 => e16.1) (fun e16 => [some (.ref a0), some (.ref a1), some (.int e16.2), none]) (fun e16 => ?_) (fun k K hk hx s => ?_)
  · exact v_vret rfl dX2_copy_62 ⟨Nat.le_of_ble_eq_true rfl, Nat.le_of_ble_eq_true rfl⟩ rfl
  · obtain ⟨M3, v4⟩ := s
    show V _ _ M3 10 [some (.ref a0), some (.ref a1), some (.int v4), none] [] (s_X2_copy_10 a0 a1 M3 v4) _
    unfold s_X2_copy_10
    refine v_iload_n (q := 11) dX2_copy_10 rfl rfl rfl ?_
    refine v_bipush (q := 13) dX2_copy_11 rfl bp_12 ?_
    refine v_icmp_ge (tgt := 62) (q := 16) dX2_copy_13 rfl rfl ?_ ?_
    · exact v_inr (hx (M3, v4))
    · refine v_iload_n (q := 17) dX2_copy_16 rfl rfl rfl ?_
      refine v_aload_n (q := 18) dX2_copy_17 rfl rfl rfl ?_
      refine v_getIb (q := 21) dX2_copy_18 rfl fg_X2_18 (fun v5 => ?_)
      refine v_icmp_ge (tgt := 62) (q := 24) dX2_copy_21 rfl rfl ?_ ?_
      · exact v_inr (hx (M3, v4))
      · refine v_aload_n (q := 25) dX2_copy_24 rfl rfl rfl ?_
        refine v_getRb (q := 28) dX2_copy_25 rfl fg_X2_11 (fun o6 => ?_)
        refine v_iload_n (q := 29) dX2_copy_28 rfl rfl rfl ?_
        refine v_aaload (q := 30) (t0 := 3) dX2_copy_29 rfl (Nat.le_of_ble_eq_true rfl) (fun _ => rfl) (fun o7 => ?_)
        refine v_astore_n (q := 31) (loc2 := [some (.ref a0), some (.ref a1), some (.int v4), some (.ref o7)]) dX2_copy_30 rfl rfl rfl (Nat.le_of_ble_eq_true rfl) rfl ?_
        refine v_aload_n (q := 32) dX2_copy_31 rfl rfl rfl ?_
        refine v_getRb (q := 35) dX2_copy_32 rfl fg_X2_11 (fun o8 => ?_)
        refine v_iload_n (q := 36) dX2_copy_35 rfl rfl rfl ?_
        refine v_aaload (q := 37) (t0 := 3) dX2_copy_36 rfl (Nat.le_of_ble_eq_true rfl) (fun _ => rfl) (fun o9 => ?_)
        refine v_aload_n (q := 38) dX2_copy_37 rfl rfl rfl ?_
        refine v_getIb (q := 41) dX2_copy_38 rfl fg_X2_22 (fun v10 => ?_)
        refine v_aload_n (q := 42) dX2_copy_41 rfl rfl rfl ?_
        refine v_getIb (q := 45) dX2_copy_42 rfl fg_X2_25 (fun v11 => ?_)
        refine v_aload_n (q := 46) dX2_copy_45 rfl rfl rfl ?_
        refine v_getIb (q := 49) dX2_copy_46 rfl fg_X2_28 (fun v12 => ?_)
        refine v_aload_n (q := 50) dX2_copy_49 rfl rfl rfl ?_
        refine v_getIb (q := 53) dX2_copy_50 rfl fg_X2_31 (fun v13 => ?_)
        refine v_cMV4 (q := 56) (ct_X1_set (d - 1) (by omega) _ _ _ _ _ _) dX2_copy_53 rfl cc_X2_34 (by omega) (Nat.le_of_ble_eq_true rfl) ⟨Nat.le_of_ble_eq_true rfl, Nat.le_of_ble_eq_true rfl⟩ (fun M14 => ?_)
        refine v_iincL (q := 59) (x := v4) (cst := (1 : Int32)) (f := fun v15 => [some (.ref a0), some (.ref a1), some (.int v15), some (.ref o7)]) dX2_copy_56 rfl rfl ic_1 rfl (Nat.le_of_ble_eq_true rfl) (fun _ => rfl) (fun v15 => ?_)
        refine v_goto (tgt := 10) dX2_copy_59 rfl ?_
        exact v_inl (v_weak (hk (M14, v15)) ⟨rfl, ⟨rfl, ⟨rfl, trivial⟩⟩⟩)
theorem ct_X2_copy (d : Nat) (hd : 1 ≤ d) (a0 : Nat) (a1 : Nat) (M : Me) (r : Me) (hf : f_X2_copy a0 a1 M = some r) : me_k M a0 = some (2, nf_c 2) ∧ Ct yX2_copy mX2_copy d 0 0 [.ref a0, .ref a1] M (none, r) := by
  obtain ⟨hk, hb⟩ := ck_some hf
  exact ⟨hk, ct_of (by decide +kernel) rfl rfl (Nat.le_of_ble_eq_true rfl) (vb_X2_copy d hd a0 a1 M) (by rw [hb]; rfl)⟩
theorem dX9_copy_0 : decode cX9_copy 0 = .ok (.aload_n 0, 1) := by decide +kernel
theorem dX9_copy_1 : decode cX9_copy 1 = .ok (.aload_n 1, 1) := by decide +kernel
theorem dX9_copy_2 : decode cX9_copy 2 = .ok (.getfield 18, 3) := by decide +kernel
theorem dX9_copy_5 : decode cX9_copy 5 = .ok (.putfield 18, 3) := by decide +kernel
theorem dX9_copy_8 : decode cX9_copy 8 = .ok (.aload_n 1, 1) := by decide +kernel
theorem dX9_copy_9 : decode cX9_copy 9 = .ok (.getfield 9, 3) := by decide +kernel
theorem dX9_copy_12 : decode cX9_copy 12 = .ok (.iconst 0, 1) := by decide +kernel
theorem dX9_copy_13 : decode cX9_copy 13 = .ok (.aload_n 0, 1) := by decide +kernel
theorem dX9_copy_14 : decode cX9_copy 14 = .ok (.getfield 9, 3) := by decide +kernel
theorem dX9_copy_17 : decode cX9_copy 17 = .ok (.iconst 0, 1) := by decide +kernel
theorem dX9_copy_18 : decode cX9_copy 18 = .ok (.bipush 6, 2) := by decide +kernel
theorem dX9_copy_20 : decode cX9_copy 20 = .ok (.invokestatic 22, 3) := by decide +kernel
theorem dX9_copy_23 : decode cX9_copy 23 = .ok (.aload_n 1, 1) := by decide +kernel
theorem dX9_copy_24 : decode cX9_copy 24 = .ok (.getfield 15, 3) := by decide +kernel
theorem dX9_copy_27 : decode cX9_copy 27 = .ok (.iconst 0, 1) := by decide +kernel
theorem dX9_copy_28 : decode cX9_copy 28 = .ok (.aload_n 0, 1) := by decide +kernel
theorem dX9_copy_29 : decode cX9_copy 29 = .ok (.getfield 15, 3) := by decide +kernel
theorem dX9_copy_32 : decode cX9_copy 32 = .ok (.iconst 0, 1) := by decide +kernel
theorem dX9_copy_33 : decode cX9_copy 33 = .ok (.bipush 6, 2) := by decide +kernel
theorem dX9_copy_35 : decode cX9_copy 35 = .ok (.invokestatic 22, 3) := by decide +kernel
theorem dX9_copy_38 : decode cX9_copy 38 = .ok (.return_, 1) := by decide +kernel
noncomputable def b_X9_copy (a0 : Nat) (a1 : Nat) (M : Me) : Option (Me) :=
  gi M a1 9 0 fun v1 =>
  pi M a0 9 0 v1 fun M2 =>
  gr M2 a1 9 1 fun o3 =>
  gr M2 a0 9 1 fun o4 =>
  ac M2 o3 (0 : Int32) o4 (0 : Int32) (6 : Int32) fun M5 =>
  gr M5 a1 9 2 fun o6 =>
  gr M5 a0 9 2 fun o7 =>
  ac M5 o6 (0 : Int32) o7 (0 : Int32) (6 : Int32) fun M8 =>
  some M8
noncomputable def f_X9_copy (a0 : Nat) (a1 : Nat) (M : Me) : Option (Me) := ck M a0 9 (b_X9_copy a0 a1 M)
set_option maxRecDepth 20000 in
theorem vb_X9_copy (d : Nat) (hd : 1 ≤ d) (a0 : Nat) (a1 : Nat) (M : Me) : V (mX9_copy, d, 0, 0) (0, 0) M 0 [some (.ref a0), some (.ref a1)] [] (b_X9_copy a0 a1 M) (fun M2 => some (none, M2)) := by
  unfold b_X9_copy
  refine v_aload_n (q := 1) dX9_copy_0 rfl rfl rfl ?_
  refine v_aload_n (q := 2) dX9_copy_1 rfl rfl rfl ?_
  refine v_getIb (q := 5) dX9_copy_2 rfl fg_X9_18 (fun v1 => ?_)
  refine v_putIb (q := 8) dX9_copy_5 rfl fp_X9_18 (fun M2 => ?_)
  refine v_aload_n (q := 9) dX9_copy_8 rfl rfl rfl ?_
  refine v_getRb (q := 12) dX9_copy_9 rfl fg_X9_9 (fun o3 => ?_)
  refine v_iconst (q := 13) dX9_copy_12 rfl ic_0 ?_
  refine v_aload_n (q := 14) dX9_copy_13 rfl rfl rfl ?_
  refine v_getRb (q := 17) dX9_copy_14 rfl fg_X9_9 (fun o4 => ?_)
  refine v_iconst (q := 18) dX9_copy_17 rfl ic_0 ?_
  refine v_bipush (q := 20) dX9_copy_18 rfl bp_6 ?_
  refine v_acopy (q := 23) dX9_copy_20 rfl cc_X9_22 aw_copy.1 aw_copy.2.1 aw_copy.2.2 (by show 1 ≤ d; omega) rfl (fun M5 => ?_)
  refine v_aload_n (q := 24) dX9_copy_23 rfl rfl rfl ?_
  refine v_getRb (q := 27) dX9_copy_24 rfl fg_X9_15 (fun o6 => ?_)
  refine v_iconst (q := 28) dX9_copy_27 rfl ic_0 ?_
  refine v_aload_n (q := 29) dX9_copy_28 rfl rfl rfl ?_
  refine v_getRb (q := 32) dX9_copy_29 rfl fg_X9_15 (fun o7 => ?_)
  refine v_iconst (q := 33) dX9_copy_32 rfl ic_0 ?_
  refine v_bipush (q := 35) dX9_copy_33 rfl bp_6 ?_
  refine v_acopy (q := 38) dX9_copy_35 rfl cc_X9_22 aw_copy.1 aw_copy.2.1 aw_copy.2.2 (by show 1 ≤ d; omega) rfl (fun M8 => ?_)
  exact v_vret rfl dX9_copy_38 ⟨Nat.le_of_ble_eq_true rfl, Nat.le_of_ble_eq_true rfl⟩ rfl
theorem ct_X9_copy (d : Nat) (hd : 1 ≤ d) (a0 : Nat) (a1 : Nat) (M : Me) (r : Me) (hf : f_X9_copy a0 a1 M = some r) : me_k M a0 = some (9, nf_c 9) ∧ Ct yX9_copy mX9_copy d 0 0 [.ref a0, .ref a1] M (none, r) := by
  obtain ⟨hk, hb⟩ := ck_some hf
  exact ⟨hk, ct_of (by decide +kernel) rfl rfl (Nat.le_of_ble_eq_true rfl) (vb_X9_copy d hd a0 a1 M) (by rw [hb]; rfl)⟩
theorem dX0_copy_0 : decode cX0_copy 0 = .ok (.aload_n 0, 1) := by decide +kernel
theorem dX0_copy_1 : decode cX0_copy 1 = .ok (.getfield 12, 3) := by decide +kernel
theorem dX0_copy_4 : decode cX0_copy 4 = .ok (.aload_n 1, 1) := by decide +kernel
theorem dX0_copy_5 : decode cX0_copy 5 = .ok (.getfield 12, 3) := by decide +kernel
theorem dX0_copy_8 : decode cX0_copy 8 = .ok (.invokevirtual 43, 3) := by decide +kernel
theorem dX0_copy_11 : decode cX0_copy 11 = .ok (.iconst 0, 1) := by decide +kernel
theorem dX0_copy_12 : decode cX0_copy 12 = .ok (.istore_n 2, 1) := by decide +kernel
theorem dX0_copy_13 : decode cX0_copy 13 = .ok (.iload_n 2, 1) := by decide +kernel
theorem dX0_copy_14 : decode cX0_copy 14 = .ok (.bipush 6, 2) := by decide +kernel
theorem dX0_copy_16 : decode cX0_copy 16 = .ok (.if_icmp .ge 24, 3) := by decide +kernel
theorem dX0_copy_19 : decode cX0_copy 19 = .ok (.aload_n 0, 1) := by decide +kernel
theorem dX0_copy_20 : decode cX0_copy 20 = .ok (.getfield 20, 3) := by decide +kernel
theorem dX0_copy_23 : decode cX0_copy 23 = .ok (.iload_n 2, 1) := by decide +kernel
theorem dX0_copy_24 : decode cX0_copy 24 = .ok (.aaload, 1) := by decide +kernel
theorem dX0_copy_25 : decode cX0_copy 25 = .ok (.aload_n 1, 1) := by decide +kernel
theorem dX0_copy_26 : decode cX0_copy 26 = .ok (.getfield 20, 3) := by decide +kernel
theorem dX0_copy_29 : decode cX0_copy 29 = .ok (.iload_n 2, 1) := by decide +kernel
theorem dX0_copy_30 : decode cX0_copy 30 = .ok (.aaload, 1) := by decide +kernel
theorem dX0_copy_31 : decode cX0_copy 31 = .ok (.invokevirtual 47, 3) := by decide +kernel
theorem dX0_copy_34 : decode cX0_copy 34 = .ok (.iinc 2 1, 3) := by decide +kernel
theorem dX0_copy_37 : decode cX0_copy 37 = .ok (.goto (-24), 3) := by decide +kernel
theorem dX0_copy_40 : decode cX0_copy 40 = .ok (.aload_n 0, 1) := by decide +kernel
theorem dX0_copy_41 : decode cX0_copy 41 = .ok (.getfield 27, 3) := by decide +kernel
theorem dX0_copy_44 : decode cX0_copy 44 = .ok (.aload_n 1, 1) := by decide +kernel
theorem dX0_copy_45 : decode cX0_copy 45 = .ok (.getfield 27, 3) := by decide +kernel
theorem dX0_copy_48 : decode cX0_copy 48 = .ok (.invokevirtual 50, 3) := by decide +kernel
theorem dX0_copy_51 : decode cX0_copy 51 = .ok (.aload_n 0, 1) := by decide +kernel
theorem dX0_copy_52 : decode cX0_copy 52 = .ok (.getfield 34, 3) := by decide +kernel
theorem dX0_copy_55 : decode cX0_copy 55 = .ok (.aload_n 1, 1) := by decide +kernel
theorem dX0_copy_56 : decode cX0_copy 56 = .ok (.getfield 34, 3) := by decide +kernel
theorem dX0_copy_59 : decode cX0_copy 59 = .ok (.invokevirtual 53, 3) := by decide +kernel
theorem dX0_copy_62 : decode cX0_copy 62 = .ok (.aload_n 0, 1) := by decide +kernel
theorem dX0_copy_63 : decode cX0_copy 63 = .ok (.aload_n 1, 1) := by decide +kernel
theorem dX0_copy_64 : decode cX0_copy 64 = .ok (.getfield 56, 3) := by decide +kernel
theorem dX0_copy_67 : decode cX0_copy 67 = .ok (.putfield 56, 3) := by decide +kernel
theorem dX0_copy_70 : decode cX0_copy 70 = .ok (.return_, 1) := by decide +kernel
noncomputable def s_X0_copy_13 (a0 : Nat) (a1 : Nat) (M4 : Me) (v5 : Int32) : Option ((Me × Int32) ⊕ (Me × Int32)) :=
  if (6 : Int32) ≤ v5 then (
    some (Sum.inr (M4, v5))
  ) else (
    gr M4 a0 0 1 fun o6 =>
    lr M4 o6 22 v5 fun o7 =>
    gr M4 a1 0 1 fun o8 =>
    lr M4 o8 22 v5 fun o9 =>
    cM (f_X4_copy o7 o9 M4) fun M10 =>
    let_v (v5 + (1 : Int32)) fun v11 =>
    some (Sum.inl (M10, v11))
  )
noncomputable def b_X0_copy (a0 : Nat) (a1 : Nat) (M : Me) : Option (Me) :=
  gr M a0 0 0 fun o1 =>
  gr M a1 0 0 fun o2 =>
  cM (f_X5_copy o1 o2 M) fun M3 =>
  (lp (fun s => s_X0_copy_13 a0 a1 s.1 s.2) (M3, (0 : Int32))).bind fun e12 =>
  gr e12.1 a0 0 2 fun o13 =>
  gr e12.1 a1 0 2 fun o14 =>
  cM (f_X2_copy o13 o14 e12.1) fun M15 =>
  gr M15 a0 0 3 fun o16 =>
  gr M15 a1 0 3 fun o17 =>
  cM (f_X9_copy o16 o17 M15) fun M18 =>
  gi M18 a1 0 5 fun v19 =>
  pi M18 a0 0 5 v19 fun M20 =>
  some M20
noncomputable def f_X0_copy (a0 : Nat) (a1 : Nat) (M : Me) : Option (Me) := ck M a0 0 (b_X0_copy a0 a1 M)
set_option maxRecDepth 20000 in
theorem vb_X0_copy (d : Nat) (hd : 2 ≤ d) (a0 : Nat) (a1 : Nat) (M : Me) : V (mX0_copy, d, 0, 0) (0, 0) M 0 [some (.ref a0), some (.ref a1), none] [] (b_X0_copy a0 a1 M) (fun M2 => some (none, M2)) := by
  unfold b_X0_copy
  refine v_aload_n (q := 1) dX0_copy_0 rfl rfl rfl ?_
  refine v_getRb (q := 4) dX0_copy_1 rfl fg_X0_12 (fun o1 => ?_)
  refine v_aload_n (q := 5) dX0_copy_4 rfl rfl rfl ?_
  refine v_getRb (q := 8) dX0_copy_5 rfl fg_X0_12 (fun o2 => ?_)
  refine v_cMV1 (q := 11) (ct_X5_copy (d - 1) (by omega) _ _ _) dX0_copy_8 rfl cc_X0_43 (by omega) (Nat.le_of_ble_eq_true rfl) ⟨Nat.le_of_ble_eq_true rfl, Nat.le_of_ble_eq_true rfl⟩ (fun M3 => ?_)
  refine v_iconst (q := 12) dX0_copy_11 rfl ic_0 ?_
  refine v_istore_n (q := 13) (loc2 := [some (.ref a0), some (.ref a1), some (.int (0 : Int32))]) dX0_copy_12 rfl rfl rfl (Nat.le_of_ble_eq_true rfl) rfl ?_
  refine v_lps (S := Me × Int32) 40 (fun s => s.1) (fun s => [some (.ref a0), some (.ref a1), some (.int s.2)]) (fun e12 => e12.1) (fun e12 => [some (.ref a0), some (.ref a1), some (.int e12.2)]) (fun e12 => ?_) (fun k K hk hx s => ?_)
  · refine v_aload_n (q := 41) dX0_copy_40 rfl rfl rfl ?_
    refine v_getRb (q := 44) dX0_copy_41 rfl fg_X0_27 (fun o13 => ?_)
    refine v_aload_n (q := 45) dX0_copy_44 rfl rfl rfl ?_
    refine v_getRb (q := 48) dX0_copy_45 rfl fg_X0_27 (fun o14 => ?_)
    refine v_cMV1 (q := 51) (ct_X2_copy (d - 1) (by omega) _ _ _) dX0_copy_48 rfl cc_X0_50 (by omega) (Nat.le_of_ble_eq_true rfl) ⟨Nat.le_of_ble_eq_true rfl, Nat.le_of_ble_eq_true rfl⟩ (fun M15 => ?_)
    refine v_aload_n (q := 52) dX0_copy_51 rfl rfl rfl ?_
    refine v_getRb (q := 55) dX0_copy_52 rfl fg_X0_34 (fun o16 => ?_)
    refine v_aload_n (q := 56) dX0_copy_55 rfl rfl rfl ?_
    refine v_getRb (q := 59) dX0_copy_56 rfl fg_X0_34 (fun o17 => ?_)
    refine v_cMV1 (q := 62) (ct_X9_copy (d - 1) (by omega) _ _ _) dX0_copy_59 rfl cc_X0_53 (by omega) (Nat.le_of_ble_eq_true rfl) ⟨Nat.le_of_ble_eq_true rfl, Nat.le_of_ble_eq_true rfl⟩ (fun M18 => ?_)
    refine v_aload_n (q := 63) dX0_copy_62 rfl rfl rfl ?_
    refine v_aload_n (q := 64) dX0_copy_63 rfl rfl rfl ?_
    refine v_getIb (q := 67) dX0_copy_64 rfl fg_X0_56 (fun v19 => ?_)
    refine v_putIb (q := 70) dX0_copy_67 rfl fp_X0_56 (fun M20 => ?_)
    exact v_vret rfl dX0_copy_70 ⟨Nat.le_of_ble_eq_true rfl, Nat.le_of_ble_eq_true rfl⟩ rfl
  · obtain ⟨M4, v5⟩ := s
    show V _ _ M4 13 [some (.ref a0), some (.ref a1), some (.int v5)] [] (s_X0_copy_13 a0 a1 M4 v5) _
    unfold s_X0_copy_13
    refine v_iload_n (q := 14) dX0_copy_13 rfl rfl rfl ?_
    refine v_bipush (q := 16) dX0_copy_14 rfl bp_6 ?_
    refine v_icmp_ge (tgt := 40) (q := 19) dX0_copy_16 rfl rfl ?_ ?_
    · exact v_inr (hx (M4, v5))
    · refine v_aload_n (q := 20) dX0_copy_19 rfl rfl rfl ?_
      refine v_getRb (q := 23) dX0_copy_20 rfl fg_X0_20 (fun o6 => ?_)
      refine v_iload_n (q := 24) dX0_copy_23 rfl rfl rfl ?_
      refine v_aaload (q := 25) (t0 := 2) dX0_copy_24 rfl (Nat.le_of_ble_eq_true rfl) (fun _ => rfl) (fun o7 => ?_)
      refine v_aload_n (q := 26) dX0_copy_25 rfl rfl rfl ?_
      refine v_getRb (q := 29) dX0_copy_26 rfl fg_X0_20 (fun o8 => ?_)
      refine v_iload_n (q := 30) dX0_copy_29 rfl rfl rfl ?_
      refine v_aaload (q := 31) (t0 := 2) dX0_copy_30 rfl (Nat.le_of_ble_eq_true rfl) (fun _ => rfl) (fun o9 => ?_)
      refine v_cMV1 (q := 34) (ct_X4_copy (d - 1) (by omega) _ _ _) dX0_copy_31 rfl cc_X0_47 (by omega) (Nat.le_of_ble_eq_true rfl) ⟨Nat.le_of_ble_eq_true rfl, Nat.le_of_ble_eq_true rfl⟩ (fun M10 => ?_)
      refine v_iincL (q := 37) (x := v5) (cst := (1 : Int32)) (f := fun v11 => [some (.ref a0), some (.ref a1), some (.int v11)]) dX0_copy_34 rfl rfl ic_1 rfl (Nat.le_of_ble_eq_true rfl) (fun _ => rfl) (fun v11 => ?_)
      refine v_goto (tgt := 13) dX0_copy_37 rfl ?_
      exact v_inl (hk (M10, v11))
theorem ct_X0_copy (d : Nat) (hd : 2 ≤ d) (a0 : Nat) (a1 : Nat) (M : Me) (r : Me) (hf : f_X0_copy a0 a1 M = some r) : me_k M a0 = some (0, nf_c 0) ∧ Ct yX0_copy mX0_copy d 0 0 [.ref a0, .ref a1] M (none, r) := by
  obtain ⟨hk, hb⟩ := ck_some hf
  exact ⟨hk, ct_of (by decide +kernel) rfl rfl (Nat.le_of_ble_eq_true rfl) (vb_X0_copy d hd a0 a1 M) (by rw [hb]; rfl)⟩
theorem dJ7_fill_53178_0 : decode cJ7_fill_53178 0 = .ok (.iconst 0, 1) := by decide +kernel
theorem dJ7_fill_53178_1 : decode cJ7_fill_53178 1 = .ok (.istore_n 2, 1) := by decide +kernel
theorem dJ7_fill_53178_2 : decode cJ7_fill_53178 2 = .ok (.aload_n 0, 1) := by decide +kernel
theorem dJ7_fill_53178_3 : decode cJ7_fill_53178 3 = .ok (.arraylength, 1) := by decide +kernel
theorem dJ7_fill_53178_4 : decode cJ7_fill_53178 4 = .ok (.istore_n 3, 1) := by decide +kernel
theorem dJ7_fill_53178_5 : decode cJ7_fill_53178 5 = .ok (.iload_n 2, 1) := by decide +kernel
theorem dJ7_fill_53178_6 : decode cJ7_fill_53178 6 = .ok (.iload_n 3, 1) := by decide +kernel
theorem dJ7_fill_53178_7 : decode cJ7_fill_53178 7 = .ok (.if_icmp .ge 13, 3) := by decide +kernel
theorem dJ7_fill_53178_10 : decode cJ7_fill_53178 10 = .ok (.aload_n 0, 1) := by decide +kernel
theorem dJ7_fill_53178_11 : decode cJ7_fill_53178 11 = .ok (.iload_n 2, 1) := by decide +kernel
theorem dJ7_fill_53178_12 : decode cJ7_fill_53178 12 = .ok (.iload_n 1, 1) := by decide +kernel
theorem dJ7_fill_53178_13 : decode cJ7_fill_53178 13 = .ok (.iastore, 1) := by decide +kernel
theorem dJ7_fill_53178_14 : decode cJ7_fill_53178 14 = .ok (.iinc 2 1, 3) := by decide +kernel
theorem dJ7_fill_53178_17 : decode cJ7_fill_53178 17 = .ok (.goto (-12), 3) := by decide +kernel
theorem dJ7_fill_53178_20 : decode cJ7_fill_53178 20 = .ok (.return_, 1) := by decide +kernel
noncomputable def s_J7_fill_53178_5 (a0 : Nat) (x1 : Int32) (v1 : Int32) (M2 : Me) (v3 : Int32) : Option ((Me × Int32) ⊕ (Me × Int32)) :=
  if v1 ≤ v3 then (
    some (Sum.inr (M2, v3))
  ) else (
    si M2 a0 v3 x1 fun M4 =>
    let_v (v3 + (1 : Int32)) fun v5 =>
    some (Sum.inl (M4, v5))
  )
noncomputable def b_J7_fill_53178 (a0 : Nat) (x1 : Int32) (M : Me) : Option (Me) :=
  al M a0 20 fun v1 =>
  (lp (fun s => s_J7_fill_53178_5 a0 x1 v1 s.1 s.2) (M, (0 : Int32))).bind fun e6 =>
  some e6.1
noncomputable def f_J7_fill_53178 (a0 : Nat) (x1 : Int32) (M : Me) : Option (Me) := b_J7_fill_53178 a0 x1 M
set_option maxRecDepth 20000 in
theorem vb_J7_fill_53178 (d : Nat) (hd : 0 ≤ d) (a0 : Nat) (x1 : Int32) (M : Me) : V (mJ7_fill_53178, d, 0, 0) (0, 0) M 0 [some (.ref a0), some (.int x1), none, none] [] (b_J7_fill_53178 a0 x1 M) (fun M2 => some (none, M2)) := by
  unfold b_J7_fill_53178
  refine v_iconst (q := 1) dJ7_fill_53178_0 rfl ic_0 ?_
  refine v_istore_n (q := 2) (loc2 := [some (.ref a0), some (.int x1), some (.int (0 : Int32)), none]) dJ7_fill_53178_1 rfl rfl rfl (Nat.le_of_ble_eq_true rfl) rfl ?_
  refine v_aload_n (q := 3) dJ7_fill_53178_2 rfl rfl rfl ?_
  refine v_alen (q := 4) (t0 := 0) dJ7_fill_53178_3 rfl (Nat.le_of_ble_eq_true rfl) (fun _ => rfl) (fun v1 => ?_)
  refine v_istore_n (q := 5) (loc2 := [some (.ref a0), some (.int x1), some (.int (0 : Int32)), some (.int v1)]) dJ7_fill_53178_4 rfl rfl rfl (Nat.le_of_ble_eq_true rfl) rfl ?_
  refine v_lps (S := Me × Int32) 20 (fun s => s.1) (fun s => [some (.ref a0), some (.int x1), some (.int s.2), some (.int v1)]) (fun e6 => e6.1) (fun e6 => [some (.ref a0), some (.int x1), some (.int e6.2), some (.int v1)]) (fun e6 => ?_) (fun k K hk hx s => ?_)
  · exact v_vret rfl dJ7_fill_53178_20 ⟨Nat.le_of_ble_eq_true rfl, Nat.le_of_ble_eq_true rfl⟩ rfl
  · obtain ⟨M2, v3⟩ := s
    show V _ _ M2 5 [some (.ref a0), some (.int x1), some (.int v3), some (.int v1)] [] (s_J7_fill_53178_5 a0 x1 v1 M2 v3) _
    unfold s_J7_fill_53178_5
    refine v_iload_n (q := 6) dJ7_fill_53178_5 rfl rfl rfl ?_
    refine v_iload_n (q := 7) dJ7_fill_53178_6 rfl rfl rfl ?_
    refine v_icmp_ge (tgt := 20) (q := 10) dJ7_fill_53178_7 rfl rfl ?_ ?_
    · exact v_inr (hx (M2, v3))
    · refine v_aload_n (q := 11) dJ7_fill_53178_10 rfl rfl rfl ?_
      refine v_iload_n (q := 12) dJ7_fill_53178_11 rfl rfl rfl ?_
      refine v_iload_n (q := 13) dJ7_fill_53178_12 rfl rfl rfl ?_
      refine v_iastore (q := 14) dJ7_fill_53178_13 rfl (fun M4 => ?_)
      refine v_iincL (q := 17) (x := v3) (cst := (1 : Int32)) (f := fun v5 => [some (.ref a0), some (.int x1), some (.int v5), some (.int v1)]) dJ7_fill_53178_14 rfl rfl ic_1 rfl (Nat.le_of_ble_eq_true rfl) (fun _ => rfl) (fun v5 => ?_)
      refine v_goto (tgt := 5) dJ7_fill_53178_17 rfl ?_
      exact v_inl (hk (M4, v5))
theorem ct_J7_fill_53178 (d : Nat) (hd : 0 ≤ d) (a0 : Nat) (x1 : Int32) (M : Me) (r : Me) (hf : f_J7_fill_53178 a0 x1 M = some r) : Ct yJ7_fill_53178 mJ7_fill_53178 d 0 0 [.ref a0, .int x1] M (none, r) := by
  have hb : b_J7_fill_53178 a0 x1 M = some r := hf
  exact ct_of (by decide +kernel) rfl rfl (Nat.le_of_ble_eq_true rfl) (vb_J7_fill_53178 d hd a0 x1 M) (by rw [hb]; rfl)
theorem dX4_leave_0 : decode cX4_leave 0 = .ok (.aload_n 0, 1) := by decide +kernel
theorem dX4_leave_1 : decode cX4_leave 1 = .ok (.iconst 0, 1) := by decide +kernel
theorem dX4_leave_2 : decode cX4_leave 2 = .ok (.putfield 9, 3) := by decide +kernel
theorem dX4_leave_5 : decode cX4_leave 5 = .ok (.return_, 1) := by decide +kernel
noncomputable def b_X4_leave (a0 : Nat) (M : Me) : Option (Me) :=
  pz M a0 4 0 (0 : Int32) fun M1 =>
  some M1
noncomputable def f_X4_leave (a0 : Nat) (M : Me) : Option (Me) := ck M a0 4 (b_X4_leave a0 M)
set_option maxRecDepth 20000 in
theorem vb_X4_leave (d : Nat) (hd : 0 ≤ d) (a0 : Nat) (M : Me) : V (mX4_leave, d, 0, 0) (0, 0) M 0 [some (.ref a0)] [] (b_X4_leave a0 M) (fun M2 => some (none, M2)) := by
  unfold b_X4_leave
  refine v_aload_n (q := 1) dX4_leave_0 rfl rfl rfl ?_
  refine v_iconst (q := 2) dX4_leave_1 rfl ic_0 ?_
  refine v_putZb (q := 5) dX4_leave_2 rfl fp_X4_9 (fun M1 => ?_)
  exact v_vret rfl dX4_leave_5 ⟨Nat.le_of_ble_eq_true rfl, Nat.le_of_ble_eq_true rfl⟩ rfl
theorem ct_X4_leave (d : Nat) (hd : 0 ≤ d) (a0 : Nat) (M : Me) (r : Me) (hf : f_X4_leave a0 M = some r) : me_k M a0 = some (4, nf_c 4) ∧ Ct yX4_leave mX4_leave d 0 0 [.ref a0] M (none, r) := by
  obtain ⟨hk, hb⟩ := ck_some hf
  exact ⟨hk, ct_of (by decide +kernel) rfl rfl (Nat.le_of_ble_eq_true rfl) (vb_X4_leave d hd a0 M) (by rw [hb]; rfl)⟩
theorem dX0_beginAnew_0 : decode cX0_beginAnew 0 = .ok (.aload_n 0, 1) := by decide +kernel
theorem dX0_beginAnew_1 : decode cX0_beginAnew 1 = .ok (.getfield 12, 3) := by decide +kernel
theorem dX0_beginAnew_4 : decode cX0_beginAnew 4 = .ok (.iload_n 1, 1) := by decide +kernel
theorem dX0_beginAnew_5 : decode cX0_beginAnew 5 = .ok (.putfield 60, 3) := by decide +kernel
theorem dX0_beginAnew_8 : decode cX0_beginAnew 8 = .ok (.aload_n 0, 1) := by decide +kernel
theorem dX0_beginAnew_9 : decode cX0_beginAnew 9 = .ok (.getfield 12, 3) := by decide +kernel
theorem dX0_beginAnew_12 : decode cX0_beginAnew 12 = .ok (.getfield 63, 3) := by decide +kernel
theorem dX0_beginAnew_15 : decode cX0_beginAnew 15 = .ok (.iconst 0, 1) := by decide +kernel
theorem dX0_beginAnew_16 : decode cX0_beginAnew 16 = .ok (.invokestatic 67, 3) := by decide +kernel
theorem dX0_beginAnew_19 : decode cX0_beginAnew 19 = .ok (.iconst 0, 1) := by decide +kernel
theorem dX0_beginAnew_20 : decode cX0_beginAnew 20 = .ok (.istore_n 2, 1) := by decide +kernel
theorem dX0_beginAnew_21 : decode cX0_beginAnew 21 = .ok (.iload_n 2, 1) := by decide +kernel
theorem dX0_beginAnew_22 : decode cX0_beginAnew 22 = .ok (.bipush 6, 2) := by decide +kernel
theorem dX0_beginAnew_24 : decode cX0_beginAnew 24 = .ok (.if_icmp .ge 18, 3) := by decide +kernel
theorem dX0_beginAnew_27 : decode cX0_beginAnew 27 = .ok (.aload_n 0, 1) := by decide +kernel
theorem dX0_beginAnew_28 : decode cX0_beginAnew 28 = .ok (.getfield 20, 3) := by decide +kernel
theorem dX0_beginAnew_31 : decode cX0_beginAnew 31 = .ok (.iload_n 2, 1) := by decide +kernel
theorem dX0_beginAnew_32 : decode cX0_beginAnew 32 = .ok (.aaload, 1) := by decide +kernel
theorem dX0_beginAnew_33 : decode cX0_beginAnew 33 = .ok (.invokevirtual 73, 3) := by decide +kernel
theorem dX0_beginAnew_36 : decode cX0_beginAnew 36 = .ok (.iinc 2 1, 3) := by decide +kernel
theorem dX0_beginAnew_39 : decode cX0_beginAnew 39 = .ok (.goto (-18), 3) := by decide +kernel
theorem dX0_beginAnew_42 : decode cX0_beginAnew 42 = .ok (.aload_n 0, 1) := by decide +kernel
theorem dX0_beginAnew_43 : decode cX0_beginAnew 43 = .ok (.getfield 27, 3) := by decide +kernel
theorem dX0_beginAnew_46 : decode cX0_beginAnew 46 = .ok (.iconst 0, 1) := by decide +kernel
theorem dX0_beginAnew_47 : decode cX0_beginAnew 47 = .ok (.putfield 76, 3) := by decide +kernel
theorem dX0_beginAnew_50 : decode cX0_beginAnew 50 = .ok (.aload_n 0, 1) := by decide +kernel
theorem dX0_beginAnew_51 : decode cX0_beginAnew 51 = .ok (.getfield 34, 3) := by decide +kernel
theorem dX0_beginAnew_54 : decode cX0_beginAnew 54 = .ok (.iconst 0, 1) := by decide +kernel
theorem dX0_beginAnew_55 : decode cX0_beginAnew 55 = .ok (.putfield 79, 3) := by decide +kernel
theorem dX0_beginAnew_58 : decode cX0_beginAnew 58 = .ok (.aload_n 0, 1) := by decide +kernel
theorem dX0_beginAnew_59 : decode cX0_beginAnew 59 = .ok (.iconst 0, 1) := by decide +kernel
theorem dX0_beginAnew_60 : decode cX0_beginAnew 60 = .ok (.putfield 56, 3) := by decide +kernel
theorem dX0_beginAnew_63 : decode cX0_beginAnew 63 = .ok (.return_, 1) := by decide +kernel
noncomputable def s_X0_beginAnew_21 (a0 : Nat) (M6 : Me) (v7 : Int32) : Option ((Me × Int32) ⊕ (Me × Int32)) :=
  if (6 : Int32) ≤ v7 then (
    some (Sum.inr (M6, v7))
  ) else (
    gr M6 a0 0 1 fun o8 =>
    lr M6 o8 22 v7 fun o9 =>
    cM (f_X4_leave o9 M6) fun M10 =>
    let_v (v7 + (1 : Int32)) fun v11 =>
    some (Sum.inl (M10, v11))
  )
noncomputable def b_X0_beginAnew (a0 : Nat) (x1 : Int32) (M : Me) : Option (Me) :=
  gr M a0 0 0 fun o1 =>
  pi M o1 5 0 x1 fun M2 =>
  gr M2 a0 0 0 fun o3 =>
  gr M2 o3 5 2 fun o4 =>
  cM (f_J7_fill_53178 o4 (0 : Int32) M2) fun M5 =>
  (lp (fun s => s_X0_beginAnew_21 a0 s.1 s.2) (M5, (0 : Int32))).bind fun e12 =>
  gr e12.1 a0 0 2 fun o13 =>
  pi e12.1 o13 2 0 (0 : Int32) fun M14 =>
  gr M14 a0 0 3 fun o15 =>
  pi M14 o15 9 0 (0 : Int32) fun M16 =>
  pi M16 a0 0 5 (0 : Int32) fun M17 =>
  some M17
noncomputable def f_X0_beginAnew (a0 : Nat) (x1 : Int32) (M : Me) : Option (Me) := ck M a0 0 (b_X0_beginAnew a0 x1 M)
set_option maxRecDepth 20000 in
theorem vb_X0_beginAnew (d : Nat) (hd : 1 ≤ d) (a0 : Nat) (x1 : Int32) (M : Me) : V (mX0_beginAnew, d, 0, 0) (0, 0) M 0 [some (.ref a0), some (.int x1), none] [] (b_X0_beginAnew a0 x1 M) (fun M2 => some (none, M2)) := by
  unfold b_X0_beginAnew
  refine v_aload_n (q := 1) dX0_beginAnew_0 rfl rfl rfl ?_
  refine v_getRb (q := 4) dX0_beginAnew_1 rfl fg_X0_12 (fun o1 => ?_)
  refine v_iload_n (q := 5) dX0_beginAnew_4 rfl rfl rfl ?_
  refine v_putIb (q := 8) dX0_beginAnew_5 rfl fp_X0_60 (fun M2 => ?_)
  refine v_aload_n (q := 9) dX0_beginAnew_8 rfl rfl rfl ?_
  refine v_getRb (q := 12) dX0_beginAnew_9 rfl fg_X0_12 (fun o3 => ?_)
  refine v_getRb (q := 15) dX0_beginAnew_12 rfl fg_X0_63 (fun o4 => ?_)
  refine v_iconst (q := 16) dX0_beginAnew_15 rfl ic_0 ?_
  refine v_cMS2 (q := 19) (ct_J7_fill_53178 (d - 1) (by omega) _ _ _) dX0_beginAnew_16 rfl cc_X0_67 (by omega) (Nat.le_of_ble_eq_true rfl) ⟨Nat.le_of_ble_eq_true rfl, Nat.le_of_ble_eq_true rfl⟩ (fun M5 => ?_)
  refine v_iconst (q := 20) dX0_beginAnew_19 rfl ic_0 ?_
  refine v_istore_n (q := 21) (loc2 := [some (.ref a0), some (.int x1), some (.int (0 : Int32))]) dX0_beginAnew_20 rfl rfl rfl (Nat.le_of_ble_eq_true rfl) rfl ?_
  refine v_lps (S := Me × Int32) 42 (fun s => s.1) (fun s => [some (.ref a0), some (.int x1), some (.int s.2)]) (fun e12 => e12.1) (fun e12 => [some (.ref a0), some (.int x1), some (.int e12.2)]) (fun e12 => ?_) (fun k K hk hx s => ?_)
  · refine v_aload_n (q := 43) dX0_beginAnew_42 rfl rfl rfl ?_
    refine v_getRb (q := 46) dX0_beginAnew_43 rfl fg_X0_27 (fun o13 => ?_)
    refine v_iconst (q := 47) dX0_beginAnew_46 rfl ic_0 ?_
    refine v_putIb (q := 50) dX0_beginAnew_47 rfl fp_X0_76 (fun M14 => ?_)
    refine v_aload_n (q := 51) dX0_beginAnew_50 rfl rfl rfl ?_
    refine v_getRb (q := 54) dX0_beginAnew_51 rfl fg_X0_34 (fun o15 => ?_)
    refine v_iconst (q := 55) dX0_beginAnew_54 rfl ic_0 ?_
    refine v_putIb (q := 58) dX0_beginAnew_55 rfl fp_X0_79 (fun M16 => ?_)
    refine v_aload_n (q := 59) dX0_beginAnew_58 rfl rfl rfl ?_
    refine v_iconst (q := 60) dX0_beginAnew_59 rfl ic_0 ?_
    refine v_putIb (q := 63) dX0_beginAnew_60 rfl fp_X0_56 (fun M17 => ?_)
    exact v_vret rfl dX0_beginAnew_63 ⟨Nat.le_of_ble_eq_true rfl, Nat.le_of_ble_eq_true rfl⟩ rfl
  · obtain ⟨M6, v7⟩ := s
    show V _ _ M6 21 [some (.ref a0), some (.int x1), some (.int v7)] [] (s_X0_beginAnew_21 a0 M6 v7) _
    unfold s_X0_beginAnew_21
    refine v_iload_n (q := 22) dX0_beginAnew_21 rfl rfl rfl ?_
    refine v_bipush (q := 24) dX0_beginAnew_22 rfl bp_6 ?_
    refine v_icmp_ge (tgt := 42) (q := 27) dX0_beginAnew_24 rfl rfl ?_ ?_
    · exact v_inr (hx (M6, v7))
    · refine v_aload_n (q := 28) dX0_beginAnew_27 rfl rfl rfl ?_
      refine v_getRb (q := 31) dX0_beginAnew_28 rfl fg_X0_20 (fun o8 => ?_)
      refine v_iload_n (q := 32) dX0_beginAnew_31 rfl rfl rfl ?_
      refine v_aaload (q := 33) (t0 := 2) dX0_beginAnew_32 rfl (Nat.le_of_ble_eq_true rfl) (fun _ => rfl) (fun o9 => ?_)
      refine v_cMV0 (q := 36) (ct_X4_leave (d - 1) (by omega) _ _) dX0_beginAnew_33 rfl cc_X0_73 (by omega) (Nat.le_of_ble_eq_true rfl) ⟨Nat.le_of_ble_eq_true rfl, Nat.le_of_ble_eq_true rfl⟩ (fun M10 => ?_)
      refine v_iincL (q := 39) (x := v7) (cst := (1 : Int32)) (f := fun v11 => [some (.ref a0), some (.int x1), some (.int v11)]) dX0_beginAnew_36 rfl rfl ic_1 rfl (Nat.le_of_ble_eq_true rfl) (fun _ => rfl) (fun v11 => ?_)
      refine v_goto (tgt := 21) dX0_beginAnew_39 rfl ?_
      exact v_inl (hk (M10, v11))
theorem ct_X0_beginAnew (d : Nat) (hd : 1 ≤ d) (a0 : Nat) (x1 : Int32) (M : Me) (r : Me) (hf : f_X0_beginAnew a0 x1 M = some r) : me_k M a0 = some (0, nf_c 0) ∧ Ct yX0_beginAnew mX0_beginAnew d 0 0 [.ref a0, .int x1] M (none, r) := by
  obtain ⟨hk, hb⟩ := ck_some hf
  exact ⟨hk, ct_of (by decide +kernel) rfl rfl (Nat.le_of_ble_eq_true rfl) (vb_X0_beginAnew d hd a0 x1 M) (by rw [hb]; rfl)⟩
theorem dX0_knightAt_0 : decode cX0_knightAt 0 = .ok (.iload_n 1, 1) := by decide +kernel
theorem dX0_knightAt_1 : decode cX0_knightAt 1 = .ok (.ifCond .lt 18, 3) := by decide +kernel
theorem dX0_knightAt_4 : decode cX0_knightAt 4 = .ok (.iload_n 1, 1) := by decide +kernel
theorem dX0_knightAt_5 : decode cX0_knightAt 5 = .ok (.bipush 6, 2) := by decide +kernel
theorem dX0_knightAt_7 : decode cX0_knightAt 7 = .ok (.if_icmp .ge 12, 3) := by decide +kernel
theorem dX0_knightAt_10 : decode cX0_knightAt 10 = .ok (.aload_n 0, 1) := by decide +kernel
theorem dX0_knightAt_11 : decode cX0_knightAt 11 = .ok (.getfield 20, 3) := by decide +kernel
theorem dX0_knightAt_14 : decode cX0_knightAt 14 = .ok (.iload_n 1, 1) := by decide +kernel
theorem dX0_knightAt_15 : decode cX0_knightAt 15 = .ok (.aaload, 1) := by decide +kernel
theorem dX0_knightAt_16 : decode cX0_knightAt 16 = .ok (.goto 7, 3) := by decide +kernel
theorem dX0_knightAt_19 : decode cX0_knightAt 19 = .ok (.aload_n 0, 1) := by decide +kernel
theorem dX0_knightAt_20 : decode cX0_knightAt 20 = .ok (.getfield 39, 3) := by decide +kernel
theorem dX0_knightAt_23 : decode cX0_knightAt 23 = .ok (.areturn, 1) := by decide +kernel
noncomputable def b_X0_knightAt (a0 : Nat) (x1 : Int32) (M : Me) : Option (Nat) :=
  (
    if x1 < 0 then (
      gr M a0 0 4 fun o1 =>
      some o1
    ) else (
      if (6 : Int32) ≤ x1 then (
        gr M a0 0 4 fun o2 =>
        some o2
      ) else (
        gr M a0 0 1 fun o3 =>
        lr M o3 22 x1 fun o4 =>
        some o4
      )
    )
  ).bind fun o5 =>
  some o5
noncomputable def f_X0_knightAt (a0 : Nat) (x1 : Int32) (M : Me) : Option (Nat) := ck M a0 0 (b_X0_knightAt a0 x1 M)
set_option maxRecDepth 20000 in
theorem vb_X0_knightAt (d : Nat) (hd : 0 ≤ d) (a0 : Nat) (x1 : Int32) (M : Me) : V (mX0_knightAt, d, 0, 0) (0, 0) M 0 [some (.ref a0), some (.int x1)] [] (b_X0_knightAt a0 x1 M) (fun z => some (some (.ref z), M)) := by
  unfold b_X0_knightAt
  refine v_iload_n (q := 1) dX0_knightAt_0 rfl rfl rfl ?_
  refine v_join (γ := Nat) 23 (fun o5 => M) (fun o5 => [some (.ref a0), some (.int x1)]) (fun o5 => [.ref o5]) (fun K hK => ?_) (fun o5 => ?_)
  · refine v_if_lt (tgt := 19) (q := 4) dX0_knightAt_1 rfl rfl ?_ ?_
    · refine v_aload_n (q := 20) dX0_knightAt_19 rfl rfl rfl ?_
      refine v_getRb (q := 23) dX0_knightAt_20 rfl fg_X0_39 (fun o1 => ?_)
      exact hK o1
    · refine v_iload_n (q := 5) dX0_knightAt_4 rfl rfl rfl ?_
      refine v_bipush (q := 7) dX0_knightAt_5 rfl bp_6 ?_
      refine v_icmp_ge (tgt := 19) (q := 10) dX0_knightAt_7 rfl rfl ?_ ?_
      · refine v_aload_n (q := 20) dX0_knightAt_19 rfl rfl rfl ?_
        refine v_getRb (q := 23) dX0_knightAt_20 rfl fg_X0_39 (fun o2 => ?_)
        exact hK o2
      · refine v_aload_n (q := 11) dX0_knightAt_10 rfl rfl rfl ?_
        refine v_getRb (q := 14) dX0_knightAt_11 rfl fg_X0_20 (fun o3 => ?_)
        refine v_iload_n (q := 15) dX0_knightAt_14 rfl rfl rfl ?_
        refine v_aaload (q := 16) (t0 := 2) dX0_knightAt_15 rfl (Nat.le_of_ble_eq_true rfl) (fun _ => rfl) (fun o4 => ?_)
        refine v_goto (tgt := 23) dX0_knightAt_16 rfl ?_
        exact hK o4
  · exact v_aret rfl dX0_knightAt_23 ⟨Nat.le_of_ble_eq_true rfl, Nat.le_of_ble_eq_true rfl⟩ rfl
theorem ct_X0_knightAt (d : Nat) (hd : 0 ≤ d) (a0 : Nat) (x1 : Int32) (M : Me) (r : Nat) (hf : f_X0_knightAt a0 x1 M = some r) : me_k M a0 = some (0, nf_c 0) ∧ Ct yX0_knightAt mX0_knightAt d 0 0 [.ref a0, .int x1] M (some (.ref r), M) := by
  obtain ⟨hk, hb⟩ := ck_some hf
  exact ⟨hk, ct_of (by decide +kernel) rfl rfl (Nat.le_of_ble_eq_true rfl) (vb_X0_knightAt d hd a0 x1 M) (by rw [hb]; rfl)⟩
theorem dX0_knightBits_0 : decode cX0_knightBits 0 = .ok (.iconst 0, 1) := by decide +kernel
theorem dX0_knightBits_1 : decode cX0_knightBits 1 = .ok (.istore_n 1, 1) := by decide +kernel
theorem dX0_knightBits_2 : decode cX0_knightBits 2 = .ok (.iconst 0, 1) := by decide +kernel
theorem dX0_knightBits_3 : decode cX0_knightBits 3 = .ok (.istore_n 2, 1) := by decide +kernel
theorem dX0_knightBits_4 : decode cX0_knightBits 4 = .ok (.iload_n 2, 1) := by decide +kernel
theorem dX0_knightBits_5 : decode cX0_knightBits 5 = .ok (.bipush 6, 2) := by decide +kernel
theorem dX0_knightBits_7 : decode cX0_knightBits 7 = .ok (.if_icmp .ge 31, 3) := by decide +kernel
theorem dX0_knightBits_10 : decode cX0_knightBits 10 = .ok (.iload_n 1, 1) := by decide +kernel
theorem dX0_knightBits_11 : decode cX0_knightBits 11 = .ok (.aload_n 0, 1) := by decide +kernel
theorem dX0_knightBits_12 : decode cX0_knightBits 12 = .ok (.getfield 20, 3) := by decide +kernel
theorem dX0_knightBits_15 : decode cX0_knightBits 15 = .ok (.iload_n 2, 1) := by decide +kernel
theorem dX0_knightBits_16 : decode cX0_knightBits 16 = .ok (.aaload, 1) := by decide +kernel
theorem dX0_knightBits_17 : decode cX0_knightBits 17 = .ok (.getfield 80, 3) := by decide +kernel
theorem dX0_knightBits_20 : decode cX0_knightBits 20 = .ok (.ifCond .eq 9, 3) := by decide +kernel
theorem dX0_knightBits_23 : decode cX0_knightBits 23 = .ok (.iconst 1, 1) := by decide +kernel
theorem dX0_knightBits_24 : decode cX0_knightBits 24 = .ok (.iload_n 2, 1) := by decide +kernel
theorem dX0_knightBits_25 : decode cX0_knightBits 25 = .ok (.ishl, 1) := by decide +kernel
theorem dX0_knightBits_26 : decode cX0_knightBits 26 = .ok (.goto 4, 3) := by decide +kernel
theorem dX0_knightBits_29 : decode cX0_knightBits 29 = .ok (.iconst 0, 1) := by decide +kernel
theorem dX0_knightBits_30 : decode cX0_knightBits 30 = .ok (.ior, 1) := by decide +kernel
theorem dX0_knightBits_31 : decode cX0_knightBits 31 = .ok (.istore_n 1, 1) := by decide +kernel
theorem dX0_knightBits_32 : decode cX0_knightBits 32 = .ok (.iinc 2 1, 3) := by decide +kernel
theorem dX0_knightBits_35 : decode cX0_knightBits 35 = .ok (.goto (-31), 3) := by decide +kernel
theorem dX0_knightBits_38 : decode cX0_knightBits 38 = .ok (.iload_n 1, 1) := by decide +kernel
theorem dX0_knightBits_39 : decode cX0_knightBits 39 = .ok (.ireturn, 1) := by decide +kernel
noncomputable def s_X0_knightBits_4 (a0 : Nat) (M : Me) (v1 : Int32) (v2 : Int32) : Option ((Int32 × Int32) ⊕ (Int32 × Int32)) :=
  if (6 : Int32) ≤ v2 then (
    some (Sum.inr (v1, v2))
  ) else (
    gr M a0 0 1 fun o3 =>
    lr M o3 22 v2 fun o4 =>
    gi M o4 4 0 fun v5 =>
    (
      if v5 = 0 then (
        some (0 : Int32)
      ) else (
        some ((1 : Int32) <<< (v2 &&& 31))
      )
    ).bind fun v6 =>
    let_v ((v1 ||| v6)) fun v7 =>
    let_v (v2 + (1 : Int32)) fun v8 =>
    some (Sum.inl (v7, v8))
  )
noncomputable def b_X0_knightBits (a0 : Nat) (M : Me) : Option (Int32) :=
  (lp (fun s => s_X0_knightBits_4 a0 M s.1 s.2) ((0 : Int32), (0 : Int32))).bind fun e9 =>
  some e9.1
noncomputable def f_X0_knightBits (a0 : Nat) (M : Me) : Option (Int32) := ck M a0 0 (b_X0_knightBits a0 M)
set_option maxRecDepth 20000 in
theorem vb_X0_knightBits (d : Nat) (hd : 0 ≤ d) (a0 : Nat) (M : Me) : V (mX0_knightBits, d, 0, 0) (0, 0) M 0 [some (.ref a0), none, none] [] (b_X0_knightBits a0 M) (fun z => some (some (.int z), M)) := by
  unfold b_X0_knightBits
  refine v_iconst (q := 1) dX0_knightBits_0 rfl ic_0 ?_
  refine v_istore_n (q := 2) (loc2 := [some (.ref a0), some (.int (0 : Int32)), none]) dX0_knightBits_1 rfl rfl rfl (Nat.le_of_ble_eq_true rfl) rfl ?_
  refine v_iconst (q := 3) dX0_knightBits_2 rfl ic_0 ?_
  refine v_istore_n (q := 4) (loc2 := [some (.ref a0), some (.int (0 : Int32)), some (.int (0 : Int32))]) dX0_knightBits_3 rfl rfl rfl (Nat.le_of_ble_eq_true rfl) rfl ?_
  refine v_lps (S := Int32 × Int32) 38 (fun s => M) (fun s => [some (.ref a0), some (.int s.1), some (.int s.2)]) (fun e9 => M) (fun e9 => [some (.ref a0), some (.int e9.1), some (.int e9.2)]) (fun e9 => ?_) (fun k K hk hx s => ?_)
  · refine v_iload_n (q := 39) dX0_knightBits_38 rfl rfl rfl ?_
    exact v_iret rfl dX0_knightBits_39 ⟨Nat.le_of_ble_eq_true rfl, Nat.le_of_ble_eq_true rfl⟩ rfl
  · obtain ⟨v1, v2⟩ := s
    show V _ _ M 4 [some (.ref a0), some (.int v1), some (.int v2)] [] (s_X0_knightBits_4 a0 M v1 v2) _
    unfold s_X0_knightBits_4
    refine v_iload_n (q := 5) dX0_knightBits_4 rfl rfl rfl ?_
    refine v_bipush (q := 7) dX0_knightBits_5 rfl bp_6 ?_
    refine v_icmp_ge (tgt := 38) (q := 10) dX0_knightBits_7 rfl rfl ?_ ?_
    · exact v_inr (hx (v1, v2))
    · refine v_iload_n (q := 11) dX0_knightBits_10 rfl rfl rfl ?_
      refine v_aload_n (q := 12) dX0_knightBits_11 rfl rfl rfl ?_
      refine v_getRb (q := 15) dX0_knightBits_12 rfl fg_X0_20 (fun o3 => ?_)
      refine v_iload_n (q := 16) dX0_knightBits_15 rfl rfl rfl ?_
      refine v_aaload (q := 17) (t0 := 2) dX0_knightBits_16 rfl (Nat.le_of_ble_eq_true rfl) (fun _ => rfl) (fun o4 => ?_)
      refine v_getIb (q := 20) dX0_knightBits_17 rfl fg_X0_80 (fun v5 => ?_)
      refine v_join (γ := Int32) 30 (fun v6 => M) (fun v6 => [some (.ref a0), some (.int v1), some (.int v2)]) (fun v6 => [.int v6, .int v1]) (fun K hK => ?_) (fun v6 => ?_)
      · refine v_if_eq (tgt := 29) (q := 23) dX0_knightBits_20 rfl rfl ?_ ?_
        · refine v_iconst (q := 30) dX0_knightBits_29 rfl ic_0 ?_
          exact hK (0 : Int32)
        · refine v_iconst (q := 24) dX0_knightBits_23 rfl ic_1 ?_
          refine v_iload_n (q := 25) dX0_knightBits_24 rfl rfl rfl ?_
          refine v_ishl (q := 26) dX0_knightBits_25 rfl ?_
          refine v_goto (tgt := 30) dX0_knightBits_26 rfl ?_
          exact hK ((1 : Int32) <<< (v2 &&& 31))
      · refine v_ior (q := 31) dX0_knightBits_30 rfl ?_
        refine v_letI (fun v7 => ?_)
        refine v_istore_n (q := 32) (loc2 := [some (.ref a0), some (.int v7), some (.int v2)]) dX0_knightBits_31 rfl rfl rfl (Nat.le_of_ble_eq_true rfl) rfl ?_
        refine v_iincL (q := 35) (x := v2) (cst := (1 : Int32)) (f := fun v8 => [some (.ref a0), some (.int v7), some (.int v8)]) dX0_knightBits_32 rfl rfl ic_1 rfl (Nat.le_of_ble_eq_true rfl) (fun _ => rfl) (fun v8 => ?_)
        refine v_goto (tgt := 4) dX0_knightBits_35 rfl ?_
        exact v_inl (hk (v7, v8))
theorem ct_X0_knightBits (d : Nat) (hd : 0 ≤ d) (a0 : Nat) (M : Me) (r : Int32) (hf : f_X0_knightBits a0 M = some r) : me_k M a0 = some (0, nf_c 0) ∧ Ct yX0_knightBits mX0_knightBits d 0 0 [.ref a0] M (some (.int r), M) := by
  obtain ⟨hk, hb⟩ := ck_some hf
  exact ⟨hk, ct_of (by decide +kernel) rfl rfl (Nat.le_of_ble_eq_true rfl) (vb_X0_knightBits d hd a0 M) (by rw [hb]; rfl)⟩
theorem dJ6_bitCount_0f7a4_0 : decode cJ6_bitCount_0f7a4 0 = .ok (.iload_n 0, 1) := by decide +kernel
theorem dJ6_bitCount_0f7a4_1 : decode cJ6_bitCount_0f7a4 1 = .ok (.iload_n 0, 1) := by decide +kernel
theorem dJ6_bitCount_0f7a4_2 : decode cJ6_bitCount_0f7a4 2 = .ok (.iconst 1, 1) := by decide +kernel
theorem dJ6_bitCount_0f7a4_3 : decode cJ6_bitCount_0f7a4 3 = .ok (.iushr, 1) := by decide +kernel
theorem dJ6_bitCount_0f7a4_4 : decode cJ6_bitCount_0f7a4 4 = .ok (.ldc_w 265, 3) := by decide +kernel
theorem dJ6_bitCount_0f7a4_7 : decode cJ6_bitCount_0f7a4 7 = .ok (.iand, 1) := by decide +kernel
theorem dJ6_bitCount_0f7a4_8 : decode cJ6_bitCount_0f7a4 8 = .ok (.isub, 1) := by decide +kernel
theorem dJ6_bitCount_0f7a4_9 : decode cJ6_bitCount_0f7a4 9 = .ok (.istore_n 0, 1) := by decide +kernel
theorem dJ6_bitCount_0f7a4_10 : decode cJ6_bitCount_0f7a4 10 = .ok (.iload_n 0, 1) := by decide +kernel
theorem dJ6_bitCount_0f7a4_11 : decode cJ6_bitCount_0f7a4 11 = .ok (.ldc_w 266, 3) := by decide +kernel
theorem dJ6_bitCount_0f7a4_14 : decode cJ6_bitCount_0f7a4 14 = .ok (.iand, 1) := by decide +kernel
theorem dJ6_bitCount_0f7a4_15 : decode cJ6_bitCount_0f7a4 15 = .ok (.iload_n 0, 1) := by decide +kernel
theorem dJ6_bitCount_0f7a4_16 : decode cJ6_bitCount_0f7a4 16 = .ok (.iconst 2, 1) := by decide +kernel
theorem dJ6_bitCount_0f7a4_17 : decode cJ6_bitCount_0f7a4 17 = .ok (.iushr, 1) := by decide +kernel
theorem dJ6_bitCount_0f7a4_18 : decode cJ6_bitCount_0f7a4 18 = .ok (.ldc_w 266, 3) := by decide +kernel
theorem dJ6_bitCount_0f7a4_21 : decode cJ6_bitCount_0f7a4 21 = .ok (.iand, 1) := by decide +kernel
theorem dJ6_bitCount_0f7a4_22 : decode cJ6_bitCount_0f7a4 22 = .ok (.iadd, 1) := by decide +kernel
theorem dJ6_bitCount_0f7a4_23 : decode cJ6_bitCount_0f7a4 23 = .ok (.istore_n 0, 1) := by decide +kernel
theorem dJ6_bitCount_0f7a4_24 : decode cJ6_bitCount_0f7a4 24 = .ok (.iload_n 0, 1) := by decide +kernel
theorem dJ6_bitCount_0f7a4_25 : decode cJ6_bitCount_0f7a4 25 = .ok (.iload_n 0, 1) := by decide +kernel
theorem dJ6_bitCount_0f7a4_26 : decode cJ6_bitCount_0f7a4 26 = .ok (.iconst 4, 1) := by decide +kernel
theorem dJ6_bitCount_0f7a4_27 : decode cJ6_bitCount_0f7a4 27 = .ok (.iushr, 1) := by decide +kernel
theorem dJ6_bitCount_0f7a4_28 : decode cJ6_bitCount_0f7a4 28 = .ok (.iadd, 1) := by decide +kernel
theorem dJ6_bitCount_0f7a4_29 : decode cJ6_bitCount_0f7a4 29 = .ok (.ldc_w 267, 3) := by decide +kernel
theorem dJ6_bitCount_0f7a4_32 : decode cJ6_bitCount_0f7a4 32 = .ok (.iand, 1) := by decide +kernel
theorem dJ6_bitCount_0f7a4_33 : decode cJ6_bitCount_0f7a4 33 = .ok (.istore_n 0, 1) := by decide +kernel
theorem dJ6_bitCount_0f7a4_34 : decode cJ6_bitCount_0f7a4 34 = .ok (.iload_n 0, 1) := by decide +kernel
theorem dJ6_bitCount_0f7a4_35 : decode cJ6_bitCount_0f7a4 35 = .ok (.iload_n 0, 1) := by decide +kernel
theorem dJ6_bitCount_0f7a4_36 : decode cJ6_bitCount_0f7a4 36 = .ok (.bipush 8, 2) := by decide +kernel
theorem dJ6_bitCount_0f7a4_38 : decode cJ6_bitCount_0f7a4 38 = .ok (.iushr, 1) := by decide +kernel
theorem dJ6_bitCount_0f7a4_39 : decode cJ6_bitCount_0f7a4 39 = .ok (.iadd, 1) := by decide +kernel
theorem dJ6_bitCount_0f7a4_40 : decode cJ6_bitCount_0f7a4 40 = .ok (.istore_n 0, 1) := by decide +kernel
theorem dJ6_bitCount_0f7a4_41 : decode cJ6_bitCount_0f7a4 41 = .ok (.iload_n 0, 1) := by decide +kernel
theorem dJ6_bitCount_0f7a4_42 : decode cJ6_bitCount_0f7a4 42 = .ok (.iload_n 0, 1) := by decide +kernel
theorem dJ6_bitCount_0f7a4_43 : decode cJ6_bitCount_0f7a4 43 = .ok (.bipush 16, 2) := by decide +kernel
theorem dJ6_bitCount_0f7a4_45 : decode cJ6_bitCount_0f7a4 45 = .ok (.iushr, 1) := by decide +kernel
theorem dJ6_bitCount_0f7a4_46 : decode cJ6_bitCount_0f7a4 46 = .ok (.iadd, 1) := by decide +kernel
theorem dJ6_bitCount_0f7a4_47 : decode cJ6_bitCount_0f7a4 47 = .ok (.istore_n 0, 1) := by decide +kernel
theorem dJ6_bitCount_0f7a4_48 : decode cJ6_bitCount_0f7a4 48 = .ok (.iload_n 0, 1) := by decide +kernel
theorem dJ6_bitCount_0f7a4_49 : decode cJ6_bitCount_0f7a4 49 = .ok (.bipush 63, 2) := by decide +kernel
theorem dJ6_bitCount_0f7a4_51 : decode cJ6_bitCount_0f7a4 51 = .ok (.iand, 1) := by decide +kernel
theorem dJ6_bitCount_0f7a4_52 : decode cJ6_bitCount_0f7a4 52 = .ok (.ireturn, 1) := by decide +kernel
noncomputable def b_J6_bitCount_0f7a4 (x0 : Int32) (M : Me) : Option (Int32) :=
  let_v ((x0 - (((x0.toUInt32 >>> ((1 : Int32).toUInt32 &&& Int32.toUInt32 31)).toInt32) &&& (1431655765 : Int32)))) fun v1 =>
  let_v (((v1 &&& (858993459 : Int32)) + (((v1.toUInt32 >>> ((2 : Int32).toUInt32 &&& Int32.toUInt32 31)).toInt32) &&& (858993459 : Int32)))) fun v2 =>
  let_v (((v2 + ((v2.toUInt32 >>> ((4 : Int32).toUInt32 &&& Int32.toUInt32 31)).toInt32)) &&& (252645135 : Int32))) fun v3 =>
  let_v ((v3 + ((v3.toUInt32 >>> ((8 : Int32).toUInt32 &&& Int32.toUInt32 31)).toInt32))) fun v4 =>
  let_v ((v4 + ((v4.toUInt32 >>> ((16 : Int32).toUInt32 &&& Int32.toUInt32 31)).toInt32))) fun v5 =>
  some (v5 &&& (63 : Int32))
noncomputable def f_J6_bitCount_0f7a4 (x0 : Int32) (M : Me) : Option (Int32) := b_J6_bitCount_0f7a4 x0 M
set_option maxRecDepth 20000 in
theorem vb_J6_bitCount_0f7a4 (d : Nat) (hd : 0 ≤ d) (x0 : Int32) (M : Me) : V (mJ6_bitCount_0f7a4, d, 0, 0) (0, 0) M 0 [some (.int x0)] [] (b_J6_bitCount_0f7a4 x0 M) (fun z => some (some (.int z), M)) := by
  unfold b_J6_bitCount_0f7a4
  refine v_iload_n (q := 1) dJ6_bitCount_0f7a4_0 rfl rfl rfl ?_
  refine v_iload_n (q := 2) dJ6_bitCount_0f7a4_1 rfl rfl rfl ?_
  refine v_iconst (q := 3) dJ6_bitCount_0f7a4_2 rfl ic_1 ?_
  refine v_iushr (q := 4) dJ6_bitCount_0f7a4_3 rfl ?_
  refine v_ldcw (q := 7) (v := (1431655765 : Int32)) kc_J6_265 dJ6_bitCount_0f7a4_4 rfl ?_
  refine v_iand (q := 8) dJ6_bitCount_0f7a4_7 rfl ?_
  refine v_isub (q := 9) dJ6_bitCount_0f7a4_8 rfl ?_
  refine v_letI (fun v1 => ?_)
  refine v_istore_n (q := 10) (loc2 := [some (.int v1)]) dJ6_bitCount_0f7a4_9 rfl rfl rfl (Nat.le_of_ble_eq_true rfl) rfl ?_
  refine v_iload_n (q := 11) dJ6_bitCount_0f7a4_10 rfl rfl rfl ?_
  refine v_ldcw (q := 14) (v := (858993459 : Int32)) kc_J6_266 dJ6_bitCount_0f7a4_11 rfl ?_
  refine v_iand (q := 15) dJ6_bitCount_0f7a4_14 rfl ?_
  refine v_iload_n (q := 16) dJ6_bitCount_0f7a4_15 rfl rfl rfl ?_
  refine v_iconst (q := 17) dJ6_bitCount_0f7a4_16 rfl ic_2 ?_
  refine v_iushr (q := 18) dJ6_bitCount_0f7a4_17 rfl ?_
  refine v_ldcw (q := 21) (v := (858993459 : Int32)) kc_J6_266 dJ6_bitCount_0f7a4_18 rfl ?_
  refine v_iand (q := 22) dJ6_bitCount_0f7a4_21 rfl ?_
  refine v_iadd (q := 23) dJ6_bitCount_0f7a4_22 rfl ?_
  refine v_letI (fun v2 => ?_)
  refine v_istore_n (q := 24) (loc2 := [some (.int v2)]) dJ6_bitCount_0f7a4_23 rfl rfl rfl (Nat.le_of_ble_eq_true rfl) rfl ?_
  refine v_iload_n (q := 25) dJ6_bitCount_0f7a4_24 rfl rfl rfl ?_
  refine v_iload_n (q := 26) dJ6_bitCount_0f7a4_25 rfl rfl rfl ?_
  refine v_iconst (q := 27) dJ6_bitCount_0f7a4_26 rfl ic_4 ?_
  refine v_iushr (q := 28) dJ6_bitCount_0f7a4_27 rfl ?_
  refine v_iadd (q := 29) dJ6_bitCount_0f7a4_28 rfl ?_
  refine v_ldcw (q := 32) (v := (252645135 : Int32)) kc_J6_267 dJ6_bitCount_0f7a4_29 rfl ?_
  refine v_iand (q := 33) dJ6_bitCount_0f7a4_32 rfl ?_
  refine v_letI (fun v3 => ?_)
  refine v_istore_n (q := 34) (loc2 := [some (.int v3)]) dJ6_bitCount_0f7a4_33 rfl rfl rfl (Nat.le_of_ble_eq_true rfl) rfl ?_
  refine v_iload_n (q := 35) dJ6_bitCount_0f7a4_34 rfl rfl rfl ?_
  refine v_iload_n (q := 36) dJ6_bitCount_0f7a4_35 rfl rfl rfl ?_
  refine v_bipush (q := 38) dJ6_bitCount_0f7a4_36 rfl bp_8 ?_
  refine v_iushr (q := 39) dJ6_bitCount_0f7a4_38 rfl ?_
  refine v_iadd (q := 40) dJ6_bitCount_0f7a4_39 rfl ?_
  refine v_letI (fun v4 => ?_)
  refine v_istore_n (q := 41) (loc2 := [some (.int v4)]) dJ6_bitCount_0f7a4_40 rfl rfl rfl (Nat.le_of_ble_eq_true rfl) rfl ?_
  refine v_iload_n (q := 42) dJ6_bitCount_0f7a4_41 rfl rfl rfl ?_
  refine v_iload_n (q := 43) dJ6_bitCount_0f7a4_42 rfl rfl rfl ?_
  refine v_bipush (q := 45) dJ6_bitCount_0f7a4_43 rfl bp_16 ?_
  refine v_iushr (q := 46) dJ6_bitCount_0f7a4_45 rfl ?_
  refine v_iadd (q := 47) dJ6_bitCount_0f7a4_46 rfl ?_
  refine v_letI (fun v5 => ?_)
  refine v_istore_n (q := 48) (loc2 := [some (.int v5)]) dJ6_bitCount_0f7a4_47 rfl rfl rfl (Nat.le_of_ble_eq_true rfl) rfl ?_
  refine v_iload_n (q := 49) dJ6_bitCount_0f7a4_48 rfl rfl rfl ?_
  refine v_bipush (q := 51) dJ6_bitCount_0f7a4_49 rfl bp_63 ?_
  refine v_iand (q := 52) dJ6_bitCount_0f7a4_51 rfl ?_
  exact v_iret rfl dJ6_bitCount_0f7a4_52 ⟨Nat.le_of_ble_eq_true rfl, Nat.le_of_ble_eq_true rfl⟩ rfl
theorem ct_J6_bitCount_0f7a4 (d : Nat) (hd : 0 ≤ d) (x0 : Int32) (M : Me) (r : Int32) (hf : f_J6_bitCount_0f7a4 x0 M = some r) : Ct yJ6_bitCount_0f7a4 mJ6_bitCount_0f7a4 d 0 0 [.int x0] M (some (.int r), M) := by
  have hb : b_J6_bitCount_0f7a4 x0 M = some r := hf
  exact ct_of (by decide +kernel) rfl rfl (Nat.le_of_ble_eq_true rfl) (vb_J6_bitCount_0f7a4 d hd x0 M) (by rw [hb]; rfl)
theorem dX0_countKnights_0 : decode cX0_countKnights 0 = .ok (.aload_n 0, 1) := by decide +kernel
theorem dX0_countKnights_1 : decode cX0_countKnights 1 = .ok (.invokevirtual 84, 3) := by decide +kernel
theorem dX0_countKnights_4 : decode cX0_countKnights 4 = .ok (.invokestatic 88, 3) := by decide +kernel
theorem dX0_countKnights_7 : decode cX0_countKnights 7 = .ok (.ireturn, 1) := by decide +kernel
noncomputable def b_X0_countKnights (a0 : Nat) (M : Me) : Option (Int32) :=
  cP (f_X0_knightBits a0 M) fun v1 =>
  cP (f_J6_bitCount_0f7a4 v1 M) fun v2 =>
  some v2
noncomputable def f_X0_countKnights (a0 : Nat) (M : Me) : Option (Int32) := ck M a0 0 (b_X0_countKnights a0 M)
set_option maxRecDepth 20000 in
theorem vb_X0_countKnights (d : Nat) (hd : 1 ≤ d) (a0 : Nat) (M : Me) : V (mX0_countKnights, d, 0, 0) (0, 0) M 0 [some (.ref a0)] [] (b_X0_countKnights a0 M) (fun z => some (some (.int z), M)) := by
  unfold b_X0_countKnights
  refine v_aload_n (q := 1) dX0_countKnights_0 rfl rfl rfl ?_
  refine v_cPV0 (q := 4) (ct_X0_knightBits (d - 1) (by omega) _ _) dX0_countKnights_1 rfl cc_X0_84 (by omega) (Nat.le_of_ble_eq_true rfl) ⟨Nat.le_of_ble_eq_true rfl, Nat.le_of_ble_eq_true rfl⟩ (fun v1 => ?_)
  refine v_cPS1 (q := 7) (ct_J6_bitCount_0f7a4 (d - 1) (by omega) _ _) dX0_countKnights_4 rfl cc_X0_88 (by omega) (Nat.le_of_ble_eq_true rfl) ⟨Nat.le_of_ble_eq_true rfl, Nat.le_of_ble_eq_true rfl⟩ (fun v2 => ?_)
  exact v_iret rfl dX0_countKnights_7 ⟨Nat.le_of_ble_eq_true rfl, Nat.le_of_ble_eq_true rfl⟩ rfl
theorem ct_X0_countKnights (d : Nat) (hd : 1 ≤ d) (a0 : Nat) (M : Me) (r : Int32) (hf : f_X0_countKnights a0 M = some r) : me_k M a0 = some (0, nf_c 0) ∧ Ct yX0_countKnights mX0_countKnights d 0 0 [.ref a0] M (some (.int r), M) := by
  obtain ⟨hk, hb⟩ := ck_some hf
  exact ⟨hk, ct_of (by decide +kernel) rfl rfl (Nat.le_of_ble_eq_true rfl) (vb_X0_countKnights d hd a0 M) (by rw [hb]; rfl)⟩
theorem dX4_isDead_0 : decode cX4_isDead 0 = .ok (.aload_n 0, 1) := by decide +kernel
theorem dX4_isDead_1 : decode cX4_isDead 1 = .ok (.getfield 9, 3) := by decide +kernel
theorem dX4_isDead_4 : decode cX4_isDead 4 = .ok (.ifCond .eq 14, 3) := by decide +kernel
theorem dX4_isDead_7 : decode cX4_isDead 7 = .ok (.aload_n 0, 1) := by decide +kernel
theorem dX4_isDead_8 : decode cX4_isDead 8 = .ok (.getfield 22, 3) := by decide +kernel
theorem dX4_isDead_11 : decode cX4_isDead 11 = .ok (.ifCond .ne 7, 3) := by decide +kernel
theorem dX4_isDead_14 : decode cX4_isDead 14 = .ok (.iconst 1, 1) := by decide +kernel
theorem dX4_isDead_15 : decode cX4_isDead 15 = .ok (.goto 4, 3) := by decide +kernel
theorem dX4_isDead_18 : decode cX4_isDead 18 = .ok (.iconst 0, 1) := by decide +kernel
theorem dX4_isDead_19 : decode cX4_isDead 19 = .ok (.ireturn, 1) := by decide +kernel
noncomputable def b_X4_isDead (a0 : Nat) (M : Me) : Option (Int32) :=
  gi M a0 4 0 fun v1 =>
  (
    if v1 = 0 then (
      some (0 : Int32)
    ) else (
      gi M a0 4 3 fun v2 =>
      if v2 = 0 then (
        some (1 : Int32)
      ) else (
        some (0 : Int32)
      )
    )
  ).bind fun v3 =>
  if v3 = 0 ∨ v3 = 1 then some v3 else none
noncomputable def f_X4_isDead (a0 : Nat) (M : Me) : Option (Int32) := ck M a0 4 (b_X4_isDead a0 M)
set_option maxRecDepth 20000 in
theorem vb_X4_isDead (d : Nat) (hd : 0 ≤ d) (a0 : Nat) (M : Me) : V (mX4_isDead, d, 0, 0) (0, 0) M 0 [some (.ref a0)] [] (b_X4_isDead a0 M) (fun z => some (some (.int z), M)) := by
  unfold b_X4_isDead
  refine v_aload_n (q := 1) dX4_isDead_0 rfl rfl rfl ?_
  refine v_getIb (q := 4) dX4_isDead_1 rfl fg_X4_9 (fun v1 => ?_)
  refine v_join (γ := Int32) 19 (fun v3 => M) (fun v3 => [some (.ref a0)]) (fun v3 => [.int v3]) (fun K hK => ?_) (fun v3 => ?_)
  · refine v_if_eq (tgt := 18) (q := 7) dX4_isDead_4 rfl rfl ?_ ?_
    · refine v_iconst (q := 19) dX4_isDead_18 rfl ic_0 ?_
      exact hK (0 : Int32)
    · refine v_aload_n (q := 8) dX4_isDead_7 rfl rfl rfl ?_
      refine v_getIb (q := 11) dX4_isDead_8 rfl fg_X4_22 (fun v2 => ?_)
      refine v_if_ne (tgt := 18) (q := 14) dX4_isDead_11 rfl rfl ?_ ?_
      · refine v_iconst (q := 19) dX4_isDead_18 rfl ic_0 ?_
        exact hK (0 : Int32)
      · refine v_iconst (q := 15) dX4_isDead_14 rfl ic_1 ?_
        refine v_goto (tgt := 19) dX4_isDead_15 rfl ?_
        exact hK (1 : Int32)
  · exact v_zretC rfl dX4_isDead_19 ⟨Nat.le_of_ble_eq_true rfl, Nat.le_of_ble_eq_true rfl⟩ rfl
theorem ct_X4_isDead (d : Nat) (hd : 0 ≤ d) (a0 : Nat) (M : Me) (r : Int32) (hf : f_X4_isDead a0 M = some r) : me_k M a0 = some (4, nf_c 4) ∧ Ct yX4_isDead mX4_isDead d 0 0 [.ref a0] M (some (.int r), M) := by
  obtain ⟨hk, hb⟩ := ck_some hf
  exact ⟨hk, ct_of (by decide +kernel) rfl rfl (Nat.le_of_ble_eq_true rfl) (vb_X4_isDead d hd a0 M) (by rw [hb]; rfl)⟩
theorem dX0_countDead_0 : decode cX0_countDead 0 = .ok (.iconst 0, 1) := by decide +kernel
theorem dX0_countDead_1 : decode cX0_countDead 1 = .ok (.istore_n 1, 1) := by decide +kernel
theorem dX0_countDead_2 : decode cX0_countDead 2 = .ok (.iconst 0, 1) := by decide +kernel
theorem dX0_countDead_3 : decode cX0_countDead 3 = .ok (.istore_n 2, 1) := by decide +kernel
theorem dX0_countDead_4 : decode cX0_countDead 4 = .ok (.iload_n 2, 1) := by decide +kernel
theorem dX0_countDead_5 : decode cX0_countDead 5 = .ok (.bipush 6, 2) := by decide +kernel
theorem dX0_countDead_7 : decode cX0_countDead 7 = .ok (.if_icmp .ge 29, 3) := by decide +kernel
theorem dX0_countDead_10 : decode cX0_countDead 10 = .ok (.iload_n 1, 1) := by decide +kernel
theorem dX0_countDead_11 : decode cX0_countDead 11 = .ok (.aload_n 0, 1) := by decide +kernel
theorem dX0_countDead_12 : decode cX0_countDead 12 = .ok (.getfield 20, 3) := by decide +kernel
theorem dX0_countDead_15 : decode cX0_countDead 15 = .ok (.iload_n 2, 1) := by decide +kernel
theorem dX0_countDead_16 : decode cX0_countDead 16 = .ok (.aaload, 1) := by decide +kernel
theorem dX0_countDead_17 : decode cX0_countDead 17 = .ok (.invokevirtual 94, 3) := by decide +kernel
theorem dX0_countDead_20 : decode cX0_countDead 20 = .ok (.ifCond .eq 7, 3) := by decide +kernel
theorem dX0_countDead_23 : decode cX0_countDead 23 = .ok (.iconst 1, 1) := by decide +kernel
theorem dX0_countDead_24 : decode cX0_countDead 24 = .ok (.goto 4, 3) := by decide +kernel
theorem dX0_countDead_27 : decode cX0_countDead 27 = .ok (.iconst 0, 1) := by decide +kernel
theorem dX0_countDead_28 : decode cX0_countDead 28 = .ok (.iadd, 1) := by decide +kernel
theorem dX0_countDead_29 : decode cX0_countDead 29 = .ok (.istore_n 1, 1) := by decide +kernel
theorem dX0_countDead_30 : decode cX0_countDead 30 = .ok (.iinc 2 1, 3) := by decide +kernel
theorem dX0_countDead_33 : decode cX0_countDead 33 = .ok (.goto (-29), 3) := by decide +kernel
theorem dX0_countDead_36 : decode cX0_countDead 36 = .ok (.iload_n 1, 1) := by decide +kernel
theorem dX0_countDead_37 : decode cX0_countDead 37 = .ok (.ireturn, 1) := by decide +kernel
noncomputable def s_X0_countDead_4 (a0 : Nat) (M : Me) (v1 : Int32) (v2 : Int32) : Option ((Int32 × Int32) ⊕ (Int32 × Int32)) :=
  if (6 : Int32) ≤ v2 then (
    some (Sum.inr (v1, v2))
  ) else (
    gr M a0 0 1 fun o3 =>
    lr M o3 22 v2 fun o4 =>
    cP (f_X4_isDead o4 M) fun v5 =>
    (
      if v5 = 0 then (
        some (0 : Int32)
      ) else (
        some (1 : Int32)
      )
    ).bind fun v6 =>
    let_v ((v1 + v6)) fun v7 =>
    let_v (v2 + (1 : Int32)) fun v8 =>
    some (Sum.inl (v7, v8))
  )
noncomputable def b_X0_countDead (a0 : Nat) (M : Me) : Option (Int32) :=
  (lp (fun s => s_X0_countDead_4 a0 M s.1 s.2) ((0 : Int32), (0 : Int32))).bind fun e9 =>
  some e9.1
noncomputable def f_X0_countDead (a0 : Nat) (M : Me) : Option (Int32) := ck M a0 0 (b_X0_countDead a0 M)
set_option maxRecDepth 20000 in
theorem vb_X0_countDead (d : Nat) (hd : 1 ≤ d) (a0 : Nat) (M : Me) : V (mX0_countDead, d, 0, 0) (0, 0) M 0 [some (.ref a0), none, none] [] (b_X0_countDead a0 M) (fun z => some (some (.int z), M)) := by
  unfold b_X0_countDead
  refine v_iconst (q := 1) dX0_countDead_0 rfl ic_0 ?_
  refine v_istore_n (q := 2) (loc2 := [some (.ref a0), some (.int (0 : Int32)), none]) dX0_countDead_1 rfl rfl rfl (Nat.le_of_ble_eq_true rfl) rfl ?_
  refine v_iconst (q := 3) dX0_countDead_2 rfl ic_0 ?_
  refine v_istore_n (q := 4) (loc2 := [some (.ref a0), some (.int (0 : Int32)), some (.int (0 : Int32))]) dX0_countDead_3 rfl rfl rfl (Nat.le_of_ble_eq_true rfl) rfl ?_
  refine v_lps (S := Int32 × Int32) 36 (fun s => M) (fun s => [some (.ref a0), some (.int s.1), some (.int s.2)]) (fun e9 => M) (fun e9 => [some (.ref a0), some (.int e9.1), some (.int e9.2)]) (fun e9 => ?_) (fun k K hk hx s => ?_)
  · refine v_iload_n (q := 37) dX0_countDead_36 rfl rfl rfl ?_
    exact v_iret rfl dX0_countDead_37 ⟨Nat.le_of_ble_eq_true rfl, Nat.le_of_ble_eq_true rfl⟩ rfl
  · obtain ⟨v1, v2⟩ := s
    show V _ _ M 4 [some (.ref a0), some (.int v1), some (.int v2)] [] (s_X0_countDead_4 a0 M v1 v2) _
    unfold s_X0_countDead_4
    refine v_iload_n (q := 5) dX0_countDead_4 rfl rfl rfl ?_
    refine v_bipush (q := 7) dX0_countDead_5 rfl bp_6 ?_
    refine v_icmp_ge (tgt := 36) (q := 10) dX0_countDead_7 rfl rfl ?_ ?_
    · exact v_inr (hx (v1, v2))
    · refine v_iload_n (q := 11) dX0_countDead_10 rfl rfl rfl ?_
      refine v_aload_n (q := 12) dX0_countDead_11 rfl rfl rfl ?_
      refine v_getRb (q := 15) dX0_countDead_12 rfl fg_X0_20 (fun o3 => ?_)
      refine v_iload_n (q := 16) dX0_countDead_15 rfl rfl rfl ?_
      refine v_aaload (q := 17) (t0 := 2) dX0_countDead_16 rfl (Nat.le_of_ble_eq_true rfl) (fun _ => rfl) (fun o4 => ?_)
      refine v_cPV0 (q := 20) (ct_X4_isDead (d - 1) (by omega) _ _) dX0_countDead_17 rfl cc_X0_94 (by omega) (Nat.le_of_ble_eq_true rfl) ⟨Nat.le_of_ble_eq_true rfl, Nat.le_of_ble_eq_true rfl⟩ (fun v5 => ?_)
      refine v_join (γ := Int32) 28 (fun v6 => M) (fun v6 => [some (.ref a0), some (.int v1), some (.int v2)]) (fun v6 => [.int v6, .int v1]) (fun K hK => ?_) (fun v6 => ?_)
      · refine v_if_eq (tgt := 27) (q := 23) dX0_countDead_20 rfl rfl ?_ ?_
        · refine v_iconst (q := 28) dX0_countDead_27 rfl ic_0 ?_
          exact hK (0 : Int32)
        · refine v_iconst (q := 24) dX0_countDead_23 rfl ic_1 ?_
          refine v_goto (tgt := 28) dX0_countDead_24 rfl ?_
          exact hK (1 : Int32)
      · refine v_iadd (q := 29) dX0_countDead_28 rfl ?_
        refine v_letI (fun v7 => ?_)
        refine v_istore_n (q := 30) (loc2 := [some (.ref a0), some (.int v7), some (.int v2)]) dX0_countDead_29 rfl rfl rfl (Nat.le_of_ble_eq_true rfl) rfl ?_
        refine v_iincL (q := 33) (x := v2) (cst := (1 : Int32)) (f := fun v8 => [some (.ref a0), some (.int v7), some (.int v8)]) dX0_countDead_30 rfl rfl ic_1 rfl (Nat.le_of_ble_eq_true rfl) (fun _ => rfl) (fun v8 => ?_)
        refine v_goto (tgt := 4) dX0_countDead_33 rfl ?_
        exact v_inl (hk (v7, v8))
theorem ct_X0_countDead (d : Nat) (hd : 1 ≤ d) (a0 : Nat) (M : Me) (r : Int32) (hf : f_X0_countDead a0 M = some r) : me_k M a0 = some (0, nf_c 0) ∧ Ct yX0_countDead mX0_countDead d 0 0 [.ref a0] M (some (.int r), M) := by
  obtain ⟨hk, hb⟩ := ck_some hf
  exact ⟨hk, ct_of (by decide +kernel) rfl rfl (Nat.le_of_ble_eq_true rfl) (vb_X0_countDead d hd a0 M) (by rw [hb]; rfl)⟩
theorem dX0_sumHonour_0 : decode cX0_sumHonour 0 = .ok (.iconst 0, 1) := by decide +kernel
theorem dX0_sumHonour_1 : decode cX0_sumHonour 1 = .ok (.istore_n 1, 1) := by decide +kernel
theorem dX0_sumHonour_2 : decode cX0_sumHonour 2 = .ok (.iconst 0, 1) := by decide +kernel
theorem dX0_sumHonour_3 : decode cX0_sumHonour 3 = .ok (.istore_n 2, 1) := by decide +kernel
theorem dX0_sumHonour_4 : decode cX0_sumHonour 4 = .ok (.iload_n 2, 1) := by decide +kernel
theorem dX0_sumHonour_5 : decode cX0_sumHonour 5 = .ok (.bipush 6, 2) := by decide +kernel
theorem dX0_sumHonour_7 : decode cX0_sumHonour 7 = .ok (.if_icmp .ge 37, 3) := by decide +kernel
theorem dX0_sumHonour_10 : decode cX0_sumHonour 10 = .ok (.iload_n 1, 1) := by decide +kernel
theorem dX0_sumHonour_11 : decode cX0_sumHonour 11 = .ok (.aload_n 0, 1) := by decide +kernel
theorem dX0_sumHonour_12 : decode cX0_sumHonour 12 = .ok (.getfield 20, 3) := by decide +kernel
theorem dX0_sumHonour_15 : decode cX0_sumHonour 15 = .ok (.iload_n 2, 1) := by decide +kernel
theorem dX0_sumHonour_16 : decode cX0_sumHonour 16 = .ok (.aaload, 1) := by decide +kernel
theorem dX0_sumHonour_17 : decode cX0_sumHonour 17 = .ok (.getfield 80, 3) := by decide +kernel
theorem dX0_sumHonour_20 : decode cX0_sumHonour 20 = .ok (.ifCond .eq 15, 3) := by decide +kernel
theorem dX0_sumHonour_23 : decode cX0_sumHonour 23 = .ok (.aload_n 0, 1) := by decide +kernel
theorem dX0_sumHonour_24 : decode cX0_sumHonour 24 = .ok (.getfield 20, 3) := by decide +kernel
theorem dX0_sumHonour_27 : decode cX0_sumHonour 27 = .ok (.iload_n 2, 1) := by decide +kernel
theorem dX0_sumHonour_28 : decode cX0_sumHonour 28 = .ok (.aaload, 1) := by decide +kernel
theorem dX0_sumHonour_29 : decode cX0_sumHonour 29 = .ok (.getfield 98, 3) := by decide +kernel
theorem dX0_sumHonour_32 : decode cX0_sumHonour 32 = .ok (.goto 4, 3) := by decide +kernel
theorem dX0_sumHonour_35 : decode cX0_sumHonour 35 = .ok (.iconst 0, 1) := by decide +kernel
theorem dX0_sumHonour_36 : decode cX0_sumHonour 36 = .ok (.iadd, 1) := by decide +kernel
theorem dX0_sumHonour_37 : decode cX0_sumHonour 37 = .ok (.istore_n 1, 1) := by decide +kernel
theorem dX0_sumHonour_38 : decode cX0_sumHonour 38 = .ok (.iinc 2 1, 3) := by decide +kernel
theorem dX0_sumHonour_41 : decode cX0_sumHonour 41 = .ok (.goto (-37), 3) := by decide +kernel
theorem dX0_sumHonour_44 : decode cX0_sumHonour 44 = .ok (.iload_n 1, 1) := by decide +kernel
theorem dX0_sumHonour_45 : decode cX0_sumHonour 45 = .ok (.ireturn, 1) := by decide +kernel
noncomputable def s_X0_sumHonour_4 (a0 : Nat) (M : Me) (v1 : Int32) (v2 : Int32) : Option ((Int32 × Int32) ⊕ (Int32 × Int32)) :=
  if (6 : Int32) ≤ v2 then (
    some (Sum.inr (v1, v2))
  ) else (
    gr M a0 0 1 fun o3 =>
    lr M o3 22 v2 fun o4 =>
    gi M o4 4 0 fun v5 =>
    (
      if v5 = 0 then (
        some (0 : Int32)
      ) else (
        gr M a0 0 1 fun o6 =>
        lr M o6 22 v2 fun o7 =>
        gi M o7 4 4 fun v8 =>
        some v8
      )
    ).bind fun v9 =>
    let_v ((v1 + v9)) fun v10 =>
    let_v (v2 + (1 : Int32)) fun v11 =>
    some (Sum.inl (v10, v11))
  )
noncomputable def b_X0_sumHonour (a0 : Nat) (M : Me) : Option (Int32) :=
  (lp (fun s => s_X0_sumHonour_4 a0 M s.1 s.2) ((0 : Int32), (0 : Int32))).bind fun e12 =>
  some e12.1
noncomputable def f_X0_sumHonour (a0 : Nat) (M : Me) : Option (Int32) := ck M a0 0 (b_X0_sumHonour a0 M)
set_option maxRecDepth 20000 in
theorem vb_X0_sumHonour (d : Nat) (hd : 0 ≤ d) (a0 : Nat) (M : Me) : V (mX0_sumHonour, d, 0, 0) (0, 0) M 0 [some (.ref a0), none, none] [] (b_X0_sumHonour a0 M) (fun z => some (some (.int z), M)) := by
  unfold b_X0_sumHonour
  refine v_iconst (q := 1) dX0_sumHonour_0 rfl ic_0 ?_
  refine v_istore_n (q := 2) (loc2 := [some (.ref a0), some (.int (0 : Int32)), none]) dX0_sumHonour_1 rfl rfl rfl (Nat.le_of_ble_eq_true rfl) rfl ?_
  refine v_iconst (q := 3) dX0_sumHonour_2 rfl ic_0 ?_
  refine v_istore_n (q := 4) (loc2 := [some (.ref a0), some (.int (0 : Int32)), some (.int (0 : Int32))]) dX0_sumHonour_3 rfl rfl rfl (Nat.le_of_ble_eq_true rfl) rfl ?_
  refine v_lps (S := Int32 × Int32) 44 (fun s => M) (fun s => [some (.ref a0), some (.int s.1), some (.int s.2)]) (fun e12 => M) (fun e12 => [some (.ref a0), some (.int e12.1), some (.int e12.2)]) (fun e12 => ?_) (fun k K hk hx s => ?_)
  · refine v_iload_n (q := 45) dX0_sumHonour_44 rfl rfl rfl ?_
    exact v_iret rfl dX0_sumHonour_45 ⟨Nat.le_of_ble_eq_true rfl, Nat.le_of_ble_eq_true rfl⟩ rfl
  · obtain ⟨v1, v2⟩ := s
    show V _ _ M 4 [some (.ref a0), some (.int v1), some (.int v2)] [] (s_X0_sumHonour_4 a0 M v1 v2) _
    unfold s_X0_sumHonour_4
    refine v_iload_n (q := 5) dX0_sumHonour_4 rfl rfl rfl ?_
    refine v_bipush (q := 7) dX0_sumHonour_5 rfl bp_6 ?_
    refine v_icmp_ge (tgt := 44) (q := 10) dX0_sumHonour_7 rfl rfl ?_ ?_
    · exact v_inr (hx (v1, v2))
    · refine v_iload_n (q := 11) dX0_sumHonour_10 rfl rfl rfl ?_
      refine v_aload_n (q := 12) dX0_sumHonour_11 rfl rfl rfl ?_
      refine v_getRb (q := 15) dX0_sumHonour_12 rfl fg_X0_20 (fun o3 => ?_)
      refine v_iload_n (q := 16) dX0_sumHonour_15 rfl rfl rfl ?_
      refine v_aaload (q := 17) (t0 := 2) dX0_sumHonour_16 rfl (Nat.le_of_ble_eq_true rfl) (fun _ => rfl) (fun o4 => ?_)
      refine v_getIb (q := 20) dX0_sumHonour_17 rfl fg_X0_80 (fun v5 => ?_)
      refine v_join (γ := Int32) 36 (fun v9 => M) (fun v9 => [some (.ref a0), some (.int v1), some (.int v2)]) (fun v9 => [.int v9, .int v1]) (fun K hK => ?_) (fun v9 => ?_)
      · refine v_if_eq (tgt := 35) (q := 23) dX0_sumHonour_20 rfl rfl ?_ ?_
        · refine v_iconst (q := 36) dX0_sumHonour_35 rfl ic_0 ?_
          exact hK (0 : Int32)
        · refine v_aload_n (q := 24) dX0_sumHonour_23 rfl rfl rfl ?_
          refine v_getRb (q := 27) dX0_sumHonour_24 rfl fg_X0_20 (fun o6 => ?_)
          refine v_iload_n (q := 28) dX0_sumHonour_27 rfl rfl rfl ?_
          refine v_aaload (q := 29) (t0 := 2) dX0_sumHonour_28 rfl (Nat.le_of_ble_eq_true rfl) (fun _ => rfl) (fun o7 => ?_)
          refine v_getIb (q := 32) dX0_sumHonour_29 rfl fg_X0_98 (fun v8 => ?_)
          refine v_goto (tgt := 36) dX0_sumHonour_32 rfl ?_
          exact hK v8
      · refine v_iadd (q := 37) dX0_sumHonour_36 rfl ?_
        refine v_letI (fun v10 => ?_)
        refine v_istore_n (q := 38) (loc2 := [some (.ref a0), some (.int v10), some (.int v2)]) dX0_sumHonour_37 rfl rfl rfl (Nat.le_of_ble_eq_true rfl) rfl ?_
        refine v_iincL (q := 41) (x := v2) (cst := (1 : Int32)) (f := fun v11 => [some (.ref a0), some (.int v10), some (.int v11)]) dX0_sumHonour_38 rfl rfl ic_1 rfl (Nat.le_of_ble_eq_true rfl) (fun _ => rfl) (fun v11 => ?_)
        refine v_goto (tgt := 4) dX0_sumHonour_41 rfl ?_
        exact v_inl (hk (v10, v11))
theorem ct_X0_sumHonour (d : Nat) (hd : 0 ≤ d) (a0 : Nat) (M : Me) (r : Int32) (hf : f_X0_sumHonour a0 M = some r) : me_k M a0 = some (0, nf_c 0) ∧ Ct yX0_sumHonour mX0_sumHonour d 0 0 [.ref a0] M (some (.int r), M) := by
  obtain ⟨hk, hb⟩ := ck_some hf
  exact ⟨hk, ct_of (by decide +kernel) rfl rfl (Nat.le_of_ble_eq_true rfl) (vb_X0_sumHonour d hd a0 M) (by rw [hb]; rfl)⟩
end
