-- ===== PART A: goes FIRST, ahead of the names: the tables' words, and 'selects' of the private methods out of them =====
/-- a private method of a class that the tables say can be made, by its rows of tables_1 -/
def lw_okq (q : MethodName × Nat) : Prop := (q.1.cls ≠ "java/lang/invoke/MethodHandle" ∧ q.1.cls ≠ "java/lang/invoke/VarHandle") ∧ Cond.instantiable q.1.cls q.2 ∈ tables_1 ∧ Cond.privateMethod q.1 ∈ tables_1 ∧ Cond.instanceMethod q.1 ∈ tables_1
theorem lw_p0 : lw_okq (⟨"OddShoes$Valley", "beginAnew", "(I)V"⟩, 14) := ⟨⟨by decide +kernel, by decide +kernel⟩, List.mem_of_getElem? (i := 24) (by decide +kernel), List.mem_of_getElem? (i := 355) (by decide +kernel), List.mem_of_getElem? (i := 356) (by decide +kernel)⟩
theorem lw_p1 : lw_okq (⟨"OddShoes$Valley", "personAt", "(I)LOddShoes$Person;"⟩, 14) := ⟨⟨by decide +kernel, by decide +kernel⟩, List.mem_of_getElem? (i := 24) (by decide +kernel), List.mem_of_getElem? (i := 362) (by decide +kernel), List.mem_of_getElem? (i := 363) (by decide +kernel)⟩
theorem lw_p2 : lw_okq (⟨"OddShoes$Person", "vanish", "()V"⟩, 11) := ⟨⟨by decide +kernel, by decide +kernel⟩, List.mem_of_getElem? (i := 31) (by decide +kernel), List.mem_of_getElem? (i := 366) (by decide +kernel), List.mem_of_getElem? (i := 367) (by decide +kernel)⟩
theorem lw_p3 : lw_okq (⟨"OddShoes$Person", "settle", "(IIII)V"⟩, 11) := ⟨⟨by decide +kernel, by decide +kernel⟩, List.mem_of_getElem? (i := 31) (by decide +kernel), List.mem_of_getElem? (i := 370) (by decide +kernel), List.mem_of_getElem? (i := 371) (by decide +kernel)⟩
theorem lw_p4 : lw_okq (⟨"OddShoes$Person", "throwShoes", "()V"⟩, 11) := ⟨⟨by decide +kernel, by decide +kernel⟩, List.mem_of_getElem? (i := 31) (by decide +kernel), List.mem_of_getElem? (i := 374) (by decide +kernel), List.mem_of_getElem? (i := 375) (by decide +kernel)⟩
theorem lw_p5 : lw_okq (⟨"OddShoes$Valley", "areTwoTowns", "(II)Z"⟩, 14) := ⟨⟨by decide +kernel, by decide +kernel⟩, List.mem_of_getElem? (i := 24) (by decide +kernel), List.mem_of_getElem? (i := 382) (by decide +kernel), List.mem_of_getElem? (i := 383) (by decide +kernel)⟩
theorem lw_p6 : lw_okq (⟨"OddShoes$Valley", "isTown", "(I)Z"⟩, 14) := ⟨⟨by decide +kernel, by decide +kernel⟩, List.mem_of_getElem? (i := 24) (by decide +kernel), List.mem_of_getElem? (i := 386) (by decide +kernel), List.mem_of_getElem? (i := 387) (by decide +kernel)⟩
theorem lw_p7 : lw_okq (⟨"OddShoes$Valley", "milesOf", "(I)I"⟩, 14) := ⟨⟨by decide +kernel, by decide +kernel⟩, List.mem_of_getElem? (i := 24) (by decide +kernel), List.mem_of_getElem? (i := 399) (by decide +kernel), List.mem_of_getElem? (i := 400) (by decide +kernel)⟩
theorem lw_p8 : lw_okq (⟨"OddShoes$Valley", "layRoad", "(III)V"⟩, 14) := ⟨⟨by decide +kernel, by decide +kernel⟩, List.mem_of_getElem? (i := 24) (by decide +kernel), List.mem_of_getElem? (i := 406) (by decide +kernel), List.mem_of_getElem? (i := 407) (by decide +kernel)⟩
theorem lw_p9 : lw_okq (⟨"OddShoes$Valley", "sideAt", "(I)I"⟩, 14) := ⟨⟨by decide +kernel, by decide +kernel⟩, List.mem_of_getElem? (i := 24) (by decide +kernel), List.mem_of_getElem? (i := 418) (by decide +kernel), List.mem_of_getElem? (i := 419) (by decide +kernel)⟩
theorem lw_p10 : lw_okq (⟨"OddShoes$Valley", "stockAt", "(II)I"⟩, 14) := ⟨⟨by decide +kernel, by decide +kernel⟩, List.mem_of_getElem? (i := 24) (by decide +kernel), List.mem_of_getElem? (i := 430) (by decide +kernel), List.mem_of_getElem? (i := 431) (by decide +kernel)⟩
theorem lw_p11 : lw_okq (⟨"OddShoes$Valley", "putStock", "(III)V"⟩, 14) := ⟨⟨by decide +kernel, by decide +kernel⟩, List.mem_of_getElem? (i := 24) (by decide +kernel), List.mem_of_getElem? (i := 435) (by decide +kernel), List.mem_of_getElem? (i := 436) (by decide +kernel)⟩
theorem lw_p12 : lw_okq (⟨"OddShoes$Valley", "peopleBits", "()I"⟩, 14) := ⟨⟨by decide +kernel, by decide +kernel⟩, List.mem_of_getElem? (i := 24) (by decide +kernel), List.mem_of_getElem? (i := 445) (by decide +kernel), List.mem_of_getElem? (i := 446) (by decide +kernel)⟩
theorem lw_p13 : lw_okq (⟨"OddShoes$Valley", "isThere", "(I)Z"⟩, 14) := ⟨⟨by decide +kernel, by decide +kernel⟩, List.mem_of_getElem? (i := 24) (by decide +kernel), List.mem_of_getElem? (i := 449) (by decide +kernel), List.mem_of_getElem? (i := 450) (by decide +kernel)⟩
theorem lw_p14 : lw_okq (⟨"OddShoes$Pad", "isFull", "()Z"⟩, 2) := ⟨⟨by decide +kernel, by decide +kernel⟩, List.mem_of_getElem? (i := 152) (by decide +kernel), List.mem_of_getElem? (i := 473) (by decide +kernel), List.mem_of_getElem? (i := 474) (by decide +kernel)⟩
theorem lw_p15 : lw_okq (⟨"OddShoes$Pad", "write", "(I)I"⟩, 2) := ⟨⟨by decide +kernel, by decide +kernel⟩, List.mem_of_getElem? (i := 152) (by decide +kernel), List.mem_of_getElem? (i := 477) (by decide +kernel), List.mem_of_getElem? (i := 478) (by decide +kernel)⟩
def lw_privs_1 : List (MethodName × Nat) := [(⟨"OddShoes$Valley", "beginAnew", "(I)V"⟩, 14), (⟨"OddShoes$Valley", "personAt", "(I)LOddShoes$Person;"⟩, 14), (⟨"OddShoes$Person", "vanish", "()V"⟩, 11), (⟨"OddShoes$Person", "settle", "(IIII)V"⟩, 11), (⟨"OddShoes$Person", "throwShoes", "()V"⟩, 11), (⟨"OddShoes$Valley", "areTwoTowns", "(II)Z"⟩, 14), (⟨"OddShoes$Valley", "isTown", "(I)Z"⟩, 14), (⟨"OddShoes$Valley", "milesOf", "(I)I"⟩, 14), (⟨"OddShoes$Valley", "layRoad", "(III)V"⟩, 14), (⟨"OddShoes$Valley", "sideAt", "(I)I"⟩, 14), (⟨"OddShoes$Valley", "stockAt", "(II)I"⟩, 14), (⟨"OddShoes$Valley", "putStock", "(III)V"⟩, 14), (⟨"OddShoes$Valley", "peopleBits", "()I"⟩, 14), (⟨"OddShoes$Valley", "isThere", "(I)Z"⟩, 14), (⟨"OddShoes$Pad", "isFull", "()Z"⟩, 2), (⟨"OddShoes$Pad", "write", "(I)I"⟩, 2)]
theorem lw_r1 : ∀ q ∈ lw_privs_1, lw_okq q := List.forall_mem_cons.mpr ⟨lw_p0, List.forall_mem_cons.mpr ⟨lw_p1, List.forall_mem_cons.mpr ⟨lw_p2, List.forall_mem_cons.mpr ⟨lw_p3, List.forall_mem_cons.mpr ⟨lw_p4, List.forall_mem_cons.mpr ⟨lw_p5, List.forall_mem_cons.mpr ⟨lw_p6, List.forall_mem_cons.mpr ⟨lw_p7, List.forall_mem_cons.mpr ⟨lw_p8, List.forall_mem_cons.mpr ⟨lw_p9, List.forall_mem_cons.mpr ⟨lw_p10, List.forall_mem_cons.mpr ⟨lw_p11, List.forall_mem_cons.mpr ⟨lw_p12, List.forall_mem_cons.mpr ⟨lw_p13, List.forall_mem_cons.mpr ⟨lw_p14, List.forall_mem_cons.mpr ⟨lw_p15, fun _ h => absurd h List.not_mem_nil⟩⟩⟩⟩⟩⟩⟩⟩⟩⟩⟩⟩⟩⟩⟩⟩
theorem lw_p16 : lw_okq (⟨"OddShoes$Pad", "clear", "()I"⟩, 2) := ⟨⟨by decide +kernel, by decide +kernel⟩, List.mem_of_getElem? (i := 152) (by decide +kernel), List.mem_of_getElem? (i := 486) (by decide +kernel), List.mem_of_getElem? (i := 487) (by decide +kernel)⟩
theorem lw_p17 : lw_okq (⟨"OddShoes$Pad", "firstFault", "(I)I"⟩, 2) := ⟨⟨by decide +kernel, by decide +kernel⟩, List.mem_of_getElem? (i := 152) (by decide +kernel), List.mem_of_getElem? (i := 494) (by decide +kernel), List.mem_of_getElem? (i := 495) (by decide +kernel)⟩
theorem lw_p18 : lw_okq (⟨"OddShoes$Pad", "isWho", "(I)Z"⟩, 2) := ⟨⟨by decide +kernel, by decide +kernel⟩, List.mem_of_getElem? (i := 152) (by decide +kernel), List.mem_of_getElem? (i := 499) (by decide +kernel), List.mem_of_getElem? (i := 500) (by decide +kernel)⟩
theorem lw_p19 : lw_okq (⟨"OddShoes$Pad", "isDeed", "(II)Z"⟩, 2) := ⟨⟨by decide +kernel, by decide +kernel⟩, List.mem_of_getElem? (i := 152) (by decide +kernel), List.mem_of_getElem? (i := 504) (by decide +kernel), List.mem_of_getElem? (i := 505) (by decide +kernel)⟩
theorem lw_p20 : lw_okq (⟨"OddShoes", "refusalOfText", "()I"⟩, 11) := ⟨⟨by decide +kernel, by decide +kernel⟩, List.mem_of_getElem? (i := 16) (by decide +kernel), List.mem_of_getElem? (i := 512) (by decide +kernel), List.mem_of_getElem? (i := 513) (by decide +kernel)⟩
theorem lw_p21 : lw_okq (⟨"OddShoes$Pad", "untoldCount", "()I"⟩, 2) := ⟨⟨by decide +kernel, by decide +kernel⟩, List.mem_of_getElem? (i := 152) (by decide +kernel), List.mem_of_getElem? (i := 516) (by decide +kernel), List.mem_of_getElem? (i := 517) (by decide +kernel)⟩
theorem lw_p22 : lw_okq (⟨"OddShoes$Day", "play", "(LOddShoes$Valley;LOddShoes$Pad;II)Z"⟩, 8) := ⟨⟨by decide +kernel, by decide +kernel⟩, List.mem_of_getElem? (i := 167) (by decide +kernel), List.mem_of_getElem? (i := 521) (by decide +kernel), List.mem_of_getElem? (i := 522) (by decide +kernel)⟩
theorem lw_p23 : lw_okq (⟨"OddShoes$Valley", "becomeLike", "(LOddShoes$Valley;)V"⟩, 14) := ⟨⟨by decide +kernel, by decide +kernel⟩, List.mem_of_getElem? (i := 24) (by decide +kernel), List.mem_of_getElem? (i := 525) (by decide +kernel), List.mem_of_getElem? (i := 526) (by decide +kernel)⟩
theorem lw_p24 : lw_okq (⟨"OddShoes$Person", "becomeLike", "(LOddShoes$Person;)V"⟩, 11) := ⟨⟨by decide +kernel, by decide +kernel⟩, List.mem_of_getElem? (i := 31) (by decide +kernel), List.mem_of_getElem? (i := 532) (by decide +kernel), List.mem_of_getElem? (i := 533) (by decide +kernel)⟩
theorem lw_p25 : lw_okq (⟨"OddShoes$Pad", "stepCount", "()I"⟩, 2) := ⟨⟨by decide +kernel, by decide +kernel⟩, List.mem_of_getElem? (i := 152) (by decide +kernel), List.mem_of_getElem? (i := 537) (by decide +kernel), List.mem_of_getElem? (i := 538) (by decide +kernel)⟩
theorem lw_p26 : lw_okq (⟨"OddShoes$Pad", "deedOf", "(I)I"⟩, 2) := ⟨⟨by decide +kernel, by decide +kernel⟩, List.mem_of_getElem? (i := 152) (by decide +kernel), List.mem_of_getElem? (i := 541) (by decide +kernel), List.mem_of_getElem? (i := 542) (by decide +kernel)⟩
theorem lw_p27 : lw_okq (⟨"OddShoes$Pad", "whoOf", "(I)I"⟩, 2) := ⟨⟨by decide +kernel, by decide +kernel⟩, List.mem_of_getElem? (i := 152) (by decide +kernel), List.mem_of_getElem? (i := 545) (by decide +kernel), List.mem_of_getElem? (i := 546) (by decide +kernel)⟩
theorem lw_p28 : lw_okq (⟨"OddShoes$Valley", "whyNot", "(II)I"⟩, 14) := ⟨⟨by decide +kernel, by decide +kernel⟩, List.mem_of_getElem? (i := 24) (by decide +kernel), List.mem_of_getElem? (i := 552) (by decide +kernel), List.mem_of_getElem? (i := 553) (by decide +kernel)⟩
theorem lw_p29 : lw_okq (⟨"OddShoes$Valley", "whyNoWalk", "(LOddShoes$Person;I)I"⟩, 14) := ⟨⟨by decide +kernel, by decide +kernel⟩, List.mem_of_getElem? (i := 24) (by decide +kernel), List.mem_of_getElem? (i := 559) (by decide +kernel), List.mem_of_getElem? (i := 560) (by decide +kernel)⟩
theorem lw_p30 : lw_okq (⟨"OddShoes$Person", "limps", "(I)Z"⟩, 11) := ⟨⟨by decide +kernel, by decide +kernel⟩, List.mem_of_getElem? (i := 31) (by decide +kernel), List.mem_of_getElem? (i := 565) (by decide +kernel), List.mem_of_getElem? (i := 566) (by decide +kernel)⟩
theorem lw_p31 : lw_okq (⟨"OddShoes$Valley", "mayWalk", "(IZ)Z"⟩, 14) := ⟨⟨by decide +kernel, by decide +kernel⟩, List.mem_of_getElem? (i := 24) (by decide +kernel), List.mem_of_getElem? (i := 572) (by decide +kernel), List.mem_of_getElem? (i := 573) (by decide +kernel)⟩
def lw_privs_2 : List (MethodName × Nat) := [(⟨"OddShoes$Pad", "clear", "()I"⟩, 2), (⟨"OddShoes$Pad", "firstFault", "(I)I"⟩, 2), (⟨"OddShoes$Pad", "isWho", "(I)Z"⟩, 2), (⟨"OddShoes$Pad", "isDeed", "(II)Z"⟩, 2), (⟨"OddShoes", "refusalOfText", "()I"⟩, 11), (⟨"OddShoes$Pad", "untoldCount", "()I"⟩, 2), (⟨"OddShoes$Day", "play", "(LOddShoes$Valley;LOddShoes$Pad;II)Z"⟩, 8), (⟨"OddShoes$Valley", "becomeLike", "(LOddShoes$Valley;)V"⟩, 14), (⟨"OddShoes$Person", "becomeLike", "(LOddShoes$Person;)V"⟩, 11), (⟨"OddShoes$Pad", "stepCount", "()I"⟩, 2), (⟨"OddShoes$Pad", "deedOf", "(I)I"⟩, 2), (⟨"OddShoes$Pad", "whoOf", "(I)I"⟩, 2), (⟨"OddShoes$Valley", "whyNot", "(II)I"⟩, 14), (⟨"OddShoes$Valley", "whyNoWalk", "(LOddShoes$Person;I)I"⟩, 14), (⟨"OddShoes$Person", "limps", "(I)Z"⟩, 11), (⟨"OddShoes$Valley", "mayWalk", "(IZ)Z"⟩, 14)]
theorem lw_r2 : ∀ q ∈ lw_privs_2, lw_okq q := List.forall_mem_cons.mpr ⟨lw_p16, List.forall_mem_cons.mpr ⟨lw_p17, List.forall_mem_cons.mpr ⟨lw_p18, List.forall_mem_cons.mpr ⟨lw_p19, List.forall_mem_cons.mpr ⟨lw_p20, List.forall_mem_cons.mpr ⟨lw_p21, List.forall_mem_cons.mpr ⟨lw_p22, List.forall_mem_cons.mpr ⟨lw_p23, List.forall_mem_cons.mpr ⟨lw_p24, List.forall_mem_cons.mpr ⟨lw_p25, List.forall_mem_cons.mpr ⟨lw_p26, List.forall_mem_cons.mpr ⟨lw_p27, List.forall_mem_cons.mpr ⟨lw_p28, List.forall_mem_cons.mpr ⟨lw_p29, List.forall_mem_cons.mpr ⟨lw_p30, List.forall_mem_cons.mpr ⟨lw_p31, fun _ h => absurd h List.not_mem_nil⟩⟩⟩⟩⟩⟩⟩⟩⟩⟩⟩⟩⟩⟩⟩⟩
theorem lw_p32 : lw_okq (⟨"OddShoes$Valley", "whyNoShoe", "(LOddShoes$Person;)I"⟩, 14) := ⟨⟨by decide +kernel, by decide +kernel⟩, List.mem_of_getElem? (i := 24) (by decide +kernel), List.mem_of_getElem? (i := 576) (by decide +kernel), List.mem_of_getElem? (i := 577) (by decide +kernel)⟩
theorem lw_p33 : lw_okq (⟨"OddShoes$Valley", "hasFor", "(IILOddShoes$Person;)Z"⟩, 14) := ⟨⟨by decide +kernel, by decide +kernel⟩, List.mem_of_getElem? (i := 24) (by decide +kernel), List.mem_of_getElem? (i := 581) (by decide +kernel), List.mem_of_getElem? (i := 582) (by decide +kernel)⟩
theorem lw_p34 : lw_okq (⟨"OddShoes$Person", "sizeOn", "(I)I"⟩, 11) := ⟨⟨by decide +kernel, by decide +kernel⟩, List.mem_of_getElem? (i := 31) (by decide +kernel), List.mem_of_getElem? (i := 585) (by decide +kernel), List.mem_of_getElem? (i := 586) (by decide +kernel)⟩
theorem lw_p35 : lw_okq (⟨"OddShoes$Person", "wears", "(I)Z"⟩, 11) := ⟨⟨by decide +kernel, by decide +kernel⟩, List.mem_of_getElem? (i := 31) (by decide +kernel), List.mem_of_getElem? (i := 589) (by decide +kernel), List.mem_of_getElem? (i := 590) (by decide +kernel)⟩
theorem lw_p36 : lw_okq (⟨"OddShoes$Valley", "priceAt", "(I)I"⟩, 14) := ⟨⟨by decide +kernel, by decide +kernel⟩, List.mem_of_getElem? (i := 24) (by decide +kernel), List.mem_of_getElem? (i := 593) (by decide +kernel), List.mem_of_getElem? (i := 594) (by decide +kernel)⟩
theorem lw_p37 : lw_okq (⟨"OddShoes$Valley", "take", "(II)V"⟩, 14) := ⟨⟨by decide +kernel, by decide +kernel⟩, List.mem_of_getElem? (i := 24) (by decide +kernel), List.mem_of_getElem? (i := 597) (by decide +kernel), List.mem_of_getElem? (i := 598) (by decide +kernel)⟩
theorem lw_p38 : lw_okq (⟨"OddShoes$Valley", "walk", "(LOddShoes$Person;I)V"⟩, 14) := ⟨⟨by decide +kernel, by decide +kernel⟩, List.mem_of_getElem? (i := 24) (by decide +kernel), List.mem_of_getElem? (i := 601) (by decide +kernel), List.mem_of_getElem? (i := 602) (by decide +kernel)⟩
theorem lw_p39 : lw_okq (⟨"OddShoes$Valley", "tread", "(II)V"⟩, 14) := ⟨⟨by decide +kernel, by decide +kernel⟩, List.mem_of_getElem? (i := 24) (by decide +kernel), List.mem_of_getElem? (i := 605) (by decide +kernel), List.mem_of_getElem? (i := 606) (by decide +kernel)⟩
theorem lw_p40 : lw_okq (⟨"OddShoes$Person", "walk", "(II)V"⟩, 11) := ⟨⟨by decide +kernel, by decide +kernel⟩, List.mem_of_getElem? (i := 31) (by decide +kernel), List.mem_of_getElem? (i := 609) (by decide +kernel), List.mem_of_getElem? (i := 610) (by decide +kernel)⟩
theorem lw_p41 : lw_okq (⟨"OddShoes$Valley", "buy", "(LOddShoes$Person;)V"⟩, 14) := ⟨⟨by decide +kernel, by decide +kernel⟩, List.mem_of_getElem? (i := 24) (by decide +kernel), List.mem_of_getElem? (i := 613) (by decide +kernel), List.mem_of_getElem? (i := 614) (by decide +kernel)⟩
theorem lw_p42 : lw_okq (⟨"OddShoes$Person", "putOn", "(I)V"⟩, 11) := ⟨⟨by decide +kernel, by decide +kernel⟩, List.mem_of_getElem? (i := 31) (by decide +kernel), List.mem_of_getElem? (i := 619) (by decide +kernel), List.mem_of_getElem? (i := 620) (by decide +kernel)⟩
theorem lw_p43 : lw_okq (⟨"OddShoes$Day", "lookAtShoes", "(III)V"⟩, 8) := ⟨⟨by decide +kernel, by decide +kernel⟩, List.mem_of_getElem? (i := 167) (by decide +kernel), List.mem_of_getElem? (i := 625) (by decide +kernel), List.mem_of_getElem? (i := 626) (by decide +kernel)⟩
theorem lw_p44 : lw_okq (⟨"OddShoes", "refusalOfDay", "(I)I"⟩, 11) := ⟨⟨by decide +kernel, by decide +kernel⟩, List.mem_of_getElem? (i := 16) (by decide +kernel), List.mem_of_getElem? (i := 634) (by decide +kernel), List.mem_of_getElem? (i := 635) (by decide +kernel)⟩
theorem lw_p45 : lw_okq (⟨"OddShoes$Person", "answer", "(II)I"⟩, 11) := ⟨⟨by decide +kernel, by decide +kernel⟩, List.mem_of_getElem? (i := 31) (by decide +kernel), List.mem_of_getElem? (i := 644) (by decide +kernel), List.mem_of_getElem? (i := 645) (by decide +kernel)⟩
theorem lw_p46 : lw_okq (⟨"OddShoes$Valley", "wornBy", "(II)I"⟩, 14) := ⟨⟨by decide +kernel, by decide +kernel⟩, List.mem_of_getElem? (i := 24) (by decide +kernel), List.mem_of_getElem? (i := 657) (by decide +kernel), List.mem_of_getElem? (i := 658) (by decide +kernel)⟩
theorem lw_p47 : lw_okq (⟨"OddShoes$Ways", "survey", "(LOddShoes$Valley;)V"⟩, 1) := ⟨⟨by decide +kernel, by decide +kernel⟩, List.mem_of_getElem? (i := 208) (by decide +kernel), List.mem_of_getElem? (i := 669) (by decide +kernel), List.mem_of_getElem? (i := 670) (by decide +kernel)⟩
def lw_privs_3 : List (MethodName × Nat) := [(⟨"OddShoes$Valley", "whyNoShoe", "(LOddShoes$Person;)I"⟩, 14), (⟨"OddShoes$Valley", "hasFor", "(IILOddShoes$Person;)Z"⟩, 14), (⟨"OddShoes$Person", "sizeOn", "(I)I"⟩, 11), (⟨"OddShoes$Person", "wears", "(I)Z"⟩, 11), (⟨"OddShoes$Valley", "priceAt", "(I)I"⟩, 14), (⟨"OddShoes$Valley", "take", "(II)V"⟩, 14), (⟨"OddShoes$Valley", "walk", "(LOddShoes$Person;I)V"⟩, 14), (⟨"OddShoes$Valley", "tread", "(II)V"⟩, 14), (⟨"OddShoes$Person", "walk", "(II)V"⟩, 11), (⟨"OddShoes$Valley", "buy", "(LOddShoes$Person;)V"⟩, 14), (⟨"OddShoes$Person", "putOn", "(I)V"⟩, 11), (⟨"OddShoes$Day", "lookAtShoes", "(III)V"⟩, 8), (⟨"OddShoes", "refusalOfDay", "(I)I"⟩, 11), (⟨"OddShoes$Person", "answer", "(II)I"⟩, 11), (⟨"OddShoes$Valley", "wornBy", "(II)I"⟩, 14), (⟨"OddShoes$Ways", "survey", "(LOddShoes$Valley;)V"⟩, 1)]
theorem lw_r3 : ∀ q ∈ lw_privs_3, lw_okq q := List.forall_mem_cons.mpr ⟨lw_p32, List.forall_mem_cons.mpr ⟨lw_p33, List.forall_mem_cons.mpr ⟨lw_p34, List.forall_mem_cons.mpr ⟨lw_p35, List.forall_mem_cons.mpr ⟨lw_p36, List.forall_mem_cons.mpr ⟨lw_p37, List.forall_mem_cons.mpr ⟨lw_p38, List.forall_mem_cons.mpr ⟨lw_p39, List.forall_mem_cons.mpr ⟨lw_p40, List.forall_mem_cons.mpr ⟨lw_p41, List.forall_mem_cons.mpr ⟨lw_p42, List.forall_mem_cons.mpr ⟨lw_p43, List.forall_mem_cons.mpr ⟨lw_p44, List.forall_mem_cons.mpr ⟨lw_p45, List.forall_mem_cons.mpr ⟨lw_p46, List.forall_mem_cons.mpr ⟨lw_p47, fun _ h => absurd h List.not_mem_nil⟩⟩⟩⟩⟩⟩⟩⟩⟩⟩⟩⟩⟩⟩⟩⟩
theorem lw_p48 : lw_okq (⟨"OddShoes$Ways", "surveyFor", "(LOddShoes$Valley;Z)V"⟩, 1) := ⟨⟨by decide +kernel, by decide +kernel⟩, List.mem_of_getElem? (i := 208) (by decide +kernel), List.mem_of_getElem? (i := 673) (by decide +kernel), List.mem_of_getElem? (i := 674) (by decide +kernel)⟩
theorem lw_p49 : lw_okq (⟨"OddShoes$Ways", "shorten", "(IIIZ)V"⟩, 1) := ⟨⟨by decide +kernel, by decide +kernel⟩, List.mem_of_getElem? (i := 208) (by decide +kernel), List.mem_of_getElem? (i := 688) (by decide +kernel), List.mem_of_getElem? (i := 689) (by decide +kernel)⟩
theorem lw_p50 : lw_okq (⟨"OddShoes$Ways", "weightBetween", "(IIZ)I"⟩, 1) := ⟨⟨by decide +kernel, by decide +kernel⟩, List.mem_of_getElem? (i := 208) (by decide +kernel), List.mem_of_getElem? (i := 692) (by decide +kernel), List.mem_of_getElem? (i := 693) (by decide +kernel)⟩
theorem lw_p51 : lw_okq (⟨"OddShoes$Ways", "milesBetween", "(IIZ)I"⟩, 1) := ⟨⟨by decide +kernel, by decide +kernel⟩, List.mem_of_getElem? (i := 208) (by decide +kernel), List.mem_of_getElem? (i := 697) (by decide +kernel), List.mem_of_getElem? (i := 698) (by decide +kernel)⟩
theorem lw_p52 : lw_okq (⟨"OddShoes$Ways", "townOnWay", "(LOddShoes$Valley;IIZI)I"⟩, 1) := ⟨⟨by decide +kernel, by decide +kernel⟩, List.mem_of_getElem? (i := 208) (by decide +kernel), List.mem_of_getElem? (i := 706) (by decide +kernel), List.mem_of_getElem? (i := 707) (by decide +kernel)⟩
theorem lw_p53 : lw_okq (⟨"OddShoes$Ways", "nextTown", "(LOddShoes$Valley;IIZ)I"⟩, 1) := ⟨⟨by decide +kernel, by decide +kernel⟩, List.mem_of_getElem? (i := 208) (by decide +kernel), List.mem_of_getElem? (i := 710) (by decide +kernel), List.mem_of_getElem? (i := 711) (by decide +kernel)⟩
theorem lw_p54 : lw_okq (⟨"OddShoes$Valley", "allTowns", "()I"⟩, 14) := ⟨⟨by decide +kernel, by decide +kernel⟩, List.mem_of_getElem? (i := 24) (by decide +kernel), List.mem_of_getElem? (i := 718) (by decide +kernel), List.mem_of_getElem? (i := 719) (by decide +kernel)⟩
theorem lw_p55 : lw_okq (⟨"OddShoes$Errand", "plan", "(LOddShoes$Valley;LOddShoes$Ways;LOddShoes$Person;I)V"⟩, 6) := ⟨⟨by decide +kernel, by decide +kernel⟩, List.mem_of_getElem? (i := 218) (by decide +kernel), List.mem_of_getElem? (i := 722) (by decide +kernel), List.mem_of_getElem? (i := 723) (by decide +kernel)⟩
theorem lw_p56 : lw_okq (⟨"OddShoes$Errand", "offer", "(LOddShoes$Valley;LOddShoes$Person;III)V"⟩, 6) := ⟨⟨by decide +kernel, by decide +kernel⟩, List.mem_of_getElem? (i := 218) (by decide +kernel), List.mem_of_getElem? (i := 728) (by decide +kernel), List.mem_of_getElem? (i := 729) (by decide +kernel)⟩
theorem lw_p57 : lw_okq (⟨"OddShoes$Errand", "planFrom", "(LOddShoes$Valley;LOddShoes$Ways;LOddShoes$Person;II)V"⟩, 6) := ⟨⟨by decide +kernel, by decide +kernel⟩, List.mem_of_getElem? (i := 218) (by decide +kernel), List.mem_of_getElem? (i := 740) (by decide +kernel), List.mem_of_getElem? (i := 741) (by decide +kernel)⟩
theorem lw_p58 : lw_okq (⟨"OddShoes$Errand", "milesOverOne", "(LOddShoes$Valley;LOddShoes$Ways;LOddShoes$Person;I)I"⟩, 6) := ⟨⟨by decide +kernel, by decide +kernel⟩, List.mem_of_getElem? (i := 218) (by decide +kernel), List.mem_of_getElem? (i := 744) (by decide +kernel), List.mem_of_getElem? (i := 745) (by decide +kernel)⟩
theorem lw_p59 : lw_okq (⟨"OddShoes$Errand", "milesOverTwo", "(LOddShoes$Valley;LOddShoes$Ways;LOddShoes$Person;II)I"⟩, 6) := ⟨⟨by decide +kernel, by decide +kernel⟩, List.mem_of_getElem? (i := 218) (by decide +kernel), List.mem_of_getElem? (i := 748) (by decide +kernel), List.mem_of_getElem? (i := 749) (by decide +kernel)⟩
theorem lw_p60 : lw_okq (⟨"OddShoes$Tour", "plan", "(LOddShoes$Valley;LOddShoes$Ways;LOddShoes$Person;I)V"⟩, 4) := ⟨⟨by decide +kernel, by decide +kernel⟩, List.mem_of_getElem? (i := 249) (by decide +kernel), List.mem_of_getElem? (i := 756) (by decide +kernel), List.mem_of_getElem? (i := 757) (by decide +kernel)⟩
theorem lw_p61 : lw_okq (⟨"OddShoes$Tour", "reckon", "(LOddShoes$Valley;LOddShoes$Ways;IZI)V"⟩, 4) := ⟨⟨by decide +kernel, by decide +kernel⟩, List.mem_of_getElem? (i := 249) (by decide +kernel), List.mem_of_getElem? (i := 761) (by decide +kernel), List.mem_of_getElem? (i := 762) (by decide +kernel)⟩
theorem lw_p62 : lw_okq (⟨"OddShoes$Tour", "over", "(LOddShoes$Ways;IIZI)I"⟩, 4) := ⟨⟨by decide +kernel, by decide +kernel⟩, List.mem_of_getElem? (i := 249) (by decide +kernel), List.mem_of_getElem? (i := 768) (by decide +kernel), List.mem_of_getElem? (i := 769) (by decide +kernel)⟩
theorem lw_p63 : lw_okq (⟨"OddShoes$Tour", "fewestFrom", "(II)I"⟩, 4) := ⟨⟨by decide +kernel, by decide +kernel⟩, List.mem_of_getElem? (i := 249) (by decide +kernel), List.mem_of_getElem? (i := 772) (by decide +kernel), List.mem_of_getElem? (i := 773) (by decide +kernel)⟩
def lw_privs_4 : List (MethodName × Nat) := [(⟨"OddShoes$Ways", "surveyFor", "(LOddShoes$Valley;Z)V"⟩, 1), (⟨"OddShoes$Ways", "shorten", "(IIIZ)V"⟩, 1), (⟨"OddShoes$Ways", "weightBetween", "(IIZ)I"⟩, 1), (⟨"OddShoes$Ways", "milesBetween", "(IIZ)I"⟩, 1), (⟨"OddShoes$Ways", "townOnWay", "(LOddShoes$Valley;IIZI)I"⟩, 1), (⟨"OddShoes$Ways", "nextTown", "(LOddShoes$Valley;IIZ)I"⟩, 1), (⟨"OddShoes$Valley", "allTowns", "()I"⟩, 14), (⟨"OddShoes$Errand", "plan", "(LOddShoes$Valley;LOddShoes$Ways;LOddShoes$Person;I)V"⟩, 6), (⟨"OddShoes$Errand", "offer", "(LOddShoes$Valley;LOddShoes$Person;III)V"⟩, 6), (⟨"OddShoes$Errand", "planFrom", "(LOddShoes$Valley;LOddShoes$Ways;LOddShoes$Person;II)V"⟩, 6), (⟨"OddShoes$Errand", "milesOverOne", "(LOddShoes$Valley;LOddShoes$Ways;LOddShoes$Person;I)I"⟩, 6), (⟨"OddShoes$Errand", "milesOverTwo", "(LOddShoes$Valley;LOddShoes$Ways;LOddShoes$Person;II)I"⟩, 6), (⟨"OddShoes$Tour", "plan", "(LOddShoes$Valley;LOddShoes$Ways;LOddShoes$Person;I)V"⟩, 4), (⟨"OddShoes$Tour", "reckon", "(LOddShoes$Valley;LOddShoes$Ways;IZI)V"⟩, 4), (⟨"OddShoes$Tour", "over", "(LOddShoes$Ways;IIZI)I"⟩, 4), (⟨"OddShoes$Tour", "fewestFrom", "(II)I"⟩, 4)]
theorem lw_r4 : ∀ q ∈ lw_privs_4, lw_okq q := List.forall_mem_cons.mpr ⟨lw_p48, List.forall_mem_cons.mpr ⟨lw_p49, List.forall_mem_cons.mpr ⟨lw_p50, List.forall_mem_cons.mpr ⟨lw_p51, List.forall_mem_cons.mpr ⟨lw_p52, List.forall_mem_cons.mpr ⟨lw_p53, List.forall_mem_cons.mpr ⟨lw_p54, List.forall_mem_cons.mpr ⟨lw_p55, List.forall_mem_cons.mpr ⟨lw_p56, List.forall_mem_cons.mpr ⟨lw_p57, List.forall_mem_cons.mpr ⟨lw_p58, List.forall_mem_cons.mpr ⟨lw_p59, List.forall_mem_cons.mpr ⟨lw_p60, List.forall_mem_cons.mpr ⟨lw_p61, List.forall_mem_cons.mpr ⟨lw_p62, List.forall_mem_cons.mpr ⟨lw_p63, fun _ h => absurd h List.not_mem_nil⟩⟩⟩⟩⟩⟩⟩⟩⟩⟩⟩⟩⟩⟩⟩⟩
theorem lw_p64 : lw_okq (⟨"OddShoes$Tour", "putInOrder", "(LOddShoes$Ways;IZI)V"⟩, 4) := ⟨⟨by decide +kernel, by decide +kernel⟩, List.mem_of_getElem? (i := 249) (by decide +kernel), List.mem_of_getElem? (i := 779) (by decide +kernel), List.mem_of_getElem? (i := 780) (by decide +kernel)⟩
theorem lw_p65 : lw_okq (⟨"OddShoes$Tour", "nextTown", "(LOddShoes$Ways;IZI)I"⟩, 4) := ⟨⟨by decide +kernel, by decide +kernel⟩, List.mem_of_getElem? (i := 249) (by decide +kernel), List.mem_of_getElem? (i := 783) (by decide +kernel), List.mem_of_getElem? (i := 784) (by decide +kernel)⟩
theorem lw_p66 : lw_okq (⟨"OddShoes$Tour", "townAt", "(I)I"⟩, 4) := ⟨⟨by decide +kernel, by decide +kernel⟩, List.mem_of_getElem? (i := 249) (by decide +kernel), List.mem_of_getElem? (i := 787) (by decide +kernel), List.mem_of_getElem? (i := 788) (by decide +kernel)⟩
theorem lw_p67 : lw_okq (⟨"OddShoes$Fetching", "plan", "(LOddShoes$Valley;LOddShoes$Ways;III)V"⟩, 3) := ⟨⟨by decide +kernel, by decide +kernel⟩, List.mem_of_getElem? (i := 269) (by decide +kernel), List.mem_of_getElem? (i := 795) (by decide +kernel), List.mem_of_getElem? (i := 796) (by decide +kernel)⟩
theorem lw_p68 : lw_okq (⟨"OddShoes$Fetching", "offer", "(III)V"⟩, 3) := ⟨⟨by decide +kernel, by decide +kernel⟩, List.mem_of_getElem? (i := 269) (by decide +kernel), List.mem_of_getElem? (i := 808) (by decide +kernel), List.mem_of_getElem? (i := 809) (by decide +kernel)⟩
theorem lw_p69 : lw_okq (⟨"OddShoes$Cut", "find", "(LOddShoes$Valley;II)V"⟩, 1) := ⟨⟨by decide +kernel, by decide +kernel⟩, List.mem_of_getElem? (i := 288) (by decide +kernel), List.mem_of_getElem? (i := 817) (by decide +kernel), List.mem_of_getElem? (i := 818) (by decide +kernel)⟩
theorem lw_p70 : lw_okq (⟨"OddShoes", "mostPairs", "(III)I"⟩, 11) := ⟨⟨by decide +kernel, by decide +kernel⟩, List.mem_of_getElem? (i := 16) (by decide +kernel), List.mem_of_getElem? (i := 836) (by decide +kernel), List.mem_of_getElem? (i := 837) (by decide +kernel)⟩
theorem lw_p71 : lw_okq (⟨"OddShoes$Valley", "shoesAt", "(I)I"⟩, 14) := ⟨⟨by decide +kernel, by decide +kernel⟩, List.mem_of_getElem? (i := 24) (by decide +kernel), List.mem_of_getElem? (i := 840) (by decide +kernel), List.mem_of_getElem? (i := 841) (by decide +kernel)⟩
theorem lw_p72 : lw_okq (⟨"OddShoes", "isAtRest", "(II)Z"⟩, 11) := ⟨⟨by decide +kernel, by decide +kernel⟩, List.mem_of_getElem? (i := 16) (by decide +kernel), List.mem_of_getElem? (i := 848) (by decide +kernel), List.mem_of_getElem? (i := 849) (by decide +kernel)⟩
theorem lw_p73 : lw_okq (⟨"OddShoes$Valley", "buyersAt", "(I)I"⟩, 14) := ⟨⟨by decide +kernel, by decide +kernel⟩, List.mem_of_getElem? (i := 24) (by decide +kernel), List.mem_of_getElem? (i := 852) (by decide +kernel), List.mem_of_getElem? (i := 853) (by decide +kernel)⟩
theorem lw_p74 : lw_okq (⟨"OddShoes$Person", "leavesPrint", "(II)Z"⟩, 11) := ⟨⟨by decide +kernel, by decide +kernel⟩, List.mem_of_getElem? (i := 31) (by decide +kernel), List.mem_of_getElem? (i := 864) (by decide +kernel), List.mem_of_getElem? (i := 865) (by decide +kernel)⟩
theorem lw_p75 : lw_okq (⟨"OddShoes$Valley", "addSight", "(II)I"⟩, 14) := ⟨⟨by decide +kernel, by decide +kernel⟩, List.mem_of_getElem? (i := 24) (by decide +kernel), List.mem_of_getElem? (i := 874) (by decide +kernel), List.mem_of_getElem? (i := 875) (by decide +kernel)⟩
theorem lw_p76 : lw_okq (⟨"OddShoes$Day", "fill", "(LOddShoes$Valley;LOddShoes$Pad;)V"⟩, 8) := ⟨⟨by decide +kernel, by decide +kernel⟩, List.mem_of_getElem? (i := 167) (by decide +kernel), List.mem_of_getElem? (i := 886) (by decide +kernel), List.mem_of_getElem? (i := 887) (by decide +kernel)⟩
theorem lw_p77 : lw_okq (⟨"OddShoes$Valley", "holdsSights", "()Z"⟩, 14) := ⟨⟨by decide +kernel, by decide +kernel⟩, List.mem_of_getElem? (i := 24) (by decide +kernel), List.mem_of_getElem? (i := 893) (by decide +kernel), List.mem_of_getElem? (i := 894) (by decide +kernel)⟩
theorem lw_p78 : lw_okq (⟨"OddShoes$Valley", "peopleOfSizes", "(II)I"⟩, 14) := ⟨⟨by decide +kernel, by decide +kernel⟩, List.mem_of_getElem? (i := 24) (by decide +kernel), List.mem_of_getElem? (i := 902) (by decide +kernel), List.mem_of_getElem? (i := 903) (by decide +kernel)⟩
theorem lw_p79 : lw_okq (⟨"OddShoes$Errand", "weigh", "(LOddShoes$Valley;LOddShoes$Ways;LOddShoes$Person;I)V"⟩, 6) := ⟨⟨by decide +kernel, by decide +kernel⟩, List.mem_of_getElem? (i := 218) (by decide +kernel), List.mem_of_getElem? (i := 912) (by decide +kernel), List.mem_of_getElem? (i := 913) (by decide +kernel)⟩
def lw_privs_5 : List (MethodName × Nat) := [(⟨"OddShoes$Tour", "putInOrder", "(LOddShoes$Ways;IZI)V"⟩, 4), (⟨"OddShoes$Tour", "nextTown", "(LOddShoes$Ways;IZI)I"⟩, 4), (⟨"OddShoes$Tour", "townAt", "(I)I"⟩, 4), (⟨"OddShoes$Fetching", "plan", "(LOddShoes$Valley;LOddShoes$Ways;III)V"⟩, 3), (⟨"OddShoes$Fetching", "offer", "(III)V"⟩, 3), (⟨"OddShoes$Cut", "find", "(LOddShoes$Valley;II)V"⟩, 1), (⟨"OddShoes", "mostPairs", "(III)I"⟩, 11), (⟨"OddShoes$Valley", "shoesAt", "(I)I"⟩, 14), (⟨"OddShoes", "isAtRest", "(II)Z"⟩, 11), (⟨"OddShoes$Valley", "buyersAt", "(I)I"⟩, 14), (⟨"OddShoes$Person", "leavesPrint", "(II)Z"⟩, 11), (⟨"OddShoes$Valley", "addSight", "(II)I"⟩, 14), (⟨"OddShoes$Day", "fill", "(LOddShoes$Valley;LOddShoes$Pad;)V"⟩, 8), (⟨"OddShoes$Valley", "holdsSights", "()Z"⟩, 14), (⟨"OddShoes$Valley", "peopleOfSizes", "(II)I"⟩, 14), (⟨"OddShoes$Errand", "weigh", "(LOddShoes$Valley;LOddShoes$Ways;LOddShoes$Person;I)V"⟩, 6)]
theorem lw_r5 : ∀ q ∈ lw_privs_5, lw_okq q := List.forall_mem_cons.mpr ⟨lw_p64, List.forall_mem_cons.mpr ⟨lw_p65, List.forall_mem_cons.mpr ⟨lw_p66, List.forall_mem_cons.mpr ⟨lw_p67, List.forall_mem_cons.mpr ⟨lw_p68, List.forall_mem_cons.mpr ⟨lw_p69, List.forall_mem_cons.mpr ⟨lw_p70, List.forall_mem_cons.mpr ⟨lw_p71, List.forall_mem_cons.mpr ⟨lw_p72, List.forall_mem_cons.mpr ⟨lw_p73, List.forall_mem_cons.mpr ⟨lw_p74, List.forall_mem_cons.mpr ⟨lw_p75, List.forall_mem_cons.mpr ⟨lw_p76, List.forall_mem_cons.mpr ⟨lw_p77, List.forall_mem_cons.mpr ⟨lw_p78, List.forall_mem_cons.mpr ⟨lw_p79, fun _ h => absurd h List.not_mem_nil⟩⟩⟩⟩⟩⟩⟩⟩⟩⟩⟩⟩⟩⟩⟩⟩
theorem lw_p80 : lw_okq (⟨"OddShoes$Draws", "live", "(LOddShoes$Valley;II)V"⟩, 2) := ⟨⟨by decide +kernel, by decide +kernel⟩, List.mem_of_getElem? (i := 299) (by decide +kernel), List.mem_of_getElem? (i := 932) (by decide +kernel), List.mem_of_getElem? (i := 933) (by decide +kernel)⟩
theorem lw_p81 : lw_okq (⟨"OddShoes$Draws", "takeTurn", "(LOddShoes$Valley;II)V"⟩, 2) := ⟨⟨by decide +kernel, by decide +kernel⟩, List.mem_of_getElem? (i := 299) (by decide +kernel), List.mem_of_getElem? (i := 938) (by decide +kernel), List.mem_of_getElem? (i := 939) (by decide +kernel)⟩
theorem lw_p82 : lw_okq (⟨"OddShoes$Valley", "limpingCount", "()I"⟩, 14) := ⟨⟨by decide +kernel, by decide +kernel⟩, List.mem_of_getElem? (i := 24) (by decide +kernel), List.mem_of_getElem? (i := 947) (by decide +kernel), List.mem_of_getElem? (i := 948) (by decide +kernel)⟩
theorem lw_p83 : lw_okq (⟨"OddShoes", "isImage", "(I)Z"⟩, 11) := ⟨⟨by decide +kernel, by decide +kernel⟩, List.mem_of_getElem? (i := 16) (by decide +kernel), List.mem_of_getElem? (i := 955) (by decide +kernel), List.mem_of_getElem? (i := 956) (by decide +kernel)⟩
theorem lw_p84 : lw_okq (⟨"OddShoes", "toldOfAll", "(I)I"⟩, 11) := ⟨⟨by decide +kernel, by decide +kernel⟩, List.mem_of_getElem? (i := 16) (by decide +kernel), List.mem_of_getElem? (i := 967) (by decide +kernel), List.mem_of_getElem? (i := 968) (by decide +kernel)⟩
theorem lw_p85 : lw_okq (⟨"OddShoes", "toldOfTown", "(II)I"⟩, 11) := ⟨⟨by decide +kernel, by decide +kernel⟩, List.mem_of_getElem? (i := 16) (by decide +kernel), List.mem_of_getElem? (i := 972) (by decide +kernel), List.mem_of_getElem? (i := 973) (by decide +kernel)⟩
theorem lw_p86 : lw_okq (⟨"OddShoes$Valley", "ruleOf", "(I)I"⟩, 14) := ⟨⟨by decide +kernel, by decide +kernel⟩, List.mem_of_getElem? (i := 24) (by decide +kernel), List.mem_of_getElem? (i := 976) (by decide +kernel), List.mem_of_getElem? (i := 977) (by decide +kernel)⟩
theorem lw_p87 : lw_okq (⟨"OddShoesModel", "isTown", "(I)Z"⟩, 42) := ⟨⟨by decide +kernel, by decide +kernel⟩, List.mem_of_getElem? (i := 980) (by decide +kernel), List.mem_of_getElem? (i := 1124) (by decide +kernel), List.mem_of_getElem? (i := 1125) (by decide +kernel)⟩
theorem lw_p88 : lw_okq (⟨"OddShoesModel", "people", "()I"⟩, 42) := ⟨⟨by decide +kernel, by decide +kernel⟩, List.mem_of_getElem? (i := 980) (by decide +kernel), List.mem_of_getElem? (i := 1140) (by decide +kernel), List.mem_of_getElem? (i := 1141) (by decide +kernel)⟩
theorem lw_p89 : lw_okq (⟨"OddShoesModel", "isThere", "(I)Z"⟩, 42) := ⟨⟨by decide +kernel, by decide +kernel⟩, List.mem_of_getElem? (i := 980) (by decide +kernel), List.mem_of_getElem? (i := 1151) (by decide +kernel), List.mem_of_getElem? (i := 1152) (by decide +kernel)⟩
theorem lw_p90 : lw_okq (⟨"OddShoesModel", "faultOf", "()I"⟩, 42) := ⟨⟨by decide +kernel, by decide +kernel⟩, List.mem_of_getElem? (i := 980) (by decide +kernel), List.mem_of_getElem? (i := 1174) (by decide +kernel), List.mem_of_getElem? (i := 1175) (by decide +kernel)⟩
theorem lw_p91 : lw_okq (⟨"OddShoesModel", "opens", "()I"⟩, 42) := ⟨⟨by decide +kernel, by decide +kernel⟩, List.mem_of_getElem? (i := 980) (by decide +kernel), List.mem_of_getElem? (i := 1182) (by decide +kernel), List.mem_of_getElem? (i := 1183) (by decide +kernel)⟩
theorem lw_p92 : lw_okq (⟨"OddShoesModel", "goDay", "(II)I"⟩, 42) := ⟨⟨by decide +kernel, by decide +kernel⟩, List.mem_of_getElem? (i := 980) (by decide +kernel), List.mem_of_getElem? (i := 1187) (by decide +kernel), List.mem_of_getElem? (i := 1188) (by decide +kernel)⟩
theorem lw_p93 : lw_okq (⟨"OddShoesModel", "asNow", "()V"⟩, 42) := ⟨⟨by decide +kernel, by decide +kernel⟩, List.mem_of_getElem? (i := 980) (by decide +kernel), List.mem_of_getElem? (i := 1191) (by decide +kernel), List.mem_of_getElem? (i := 1192) (by decide +kernel)⟩
theorem lw_p94 : lw_okq (⟨"OddShoesModel", "whyNotWalk", "(II)I"⟩, 42) := ⟨⟨by decide +kernel, by decide +kernel⟩, List.mem_of_getElem? (i := 980) (by decide +kernel), List.mem_of_getElem? (i := 1195) (by decide +kernel), List.mem_of_getElem? (i := 1196) (by decide +kernel)⟩
theorem lw_p95 : lw_okq (⟨"OddShoesModel", "limpsNow", "(I)Z"⟩, 42) := ⟨⟨by decide +kernel, by decide +kernel⟩, List.mem_of_getElem? (i := 980) (by decide +kernel), List.mem_of_getElem? (i := 1199) (by decide +kernel), List.mem_of_getElem? (i := 1200) (by decide +kernel)⟩
def lw_privs_6 : List (MethodName × Nat) := [(⟨"OddShoes$Draws", "live", "(LOddShoes$Valley;II)V"⟩, 2), (⟨"OddShoes$Draws", "takeTurn", "(LOddShoes$Valley;II)V"⟩, 2), (⟨"OddShoes$Valley", "limpingCount", "()I"⟩, 14), (⟨"OddShoes", "isImage", "(I)Z"⟩, 11), (⟨"OddShoes", "toldOfAll", "(I)I"⟩, 11), (⟨"OddShoes", "toldOfTown", "(II)I"⟩, 11), (⟨"OddShoes$Valley", "ruleOf", "(I)I"⟩, 14), (⟨"OddShoesModel", "isTown", "(I)Z"⟩, 42), (⟨"OddShoesModel", "people", "()I"⟩, 42), (⟨"OddShoesModel", "isThere", "(I)Z"⟩, 42), (⟨"OddShoesModel", "faultOf", "()I"⟩, 42), (⟨"OddShoesModel", "opens", "()I"⟩, 42), (⟨"OddShoesModel", "goDay", "(II)I"⟩, 42), (⟨"OddShoesModel", "asNow", "()V"⟩, 42), (⟨"OddShoesModel", "whyNotWalk", "(II)I"⟩, 42), (⟨"OddShoesModel", "limpsNow", "(I)Z"⟩, 42)]
theorem lw_r6 : ∀ q ∈ lw_privs_6, lw_okq q := List.forall_mem_cons.mpr ⟨lw_p80, List.forall_mem_cons.mpr ⟨lw_p81, List.forall_mem_cons.mpr ⟨lw_p82, List.forall_mem_cons.mpr ⟨lw_p83, List.forall_mem_cons.mpr ⟨lw_p84, List.forall_mem_cons.mpr ⟨lw_p85, List.forall_mem_cons.mpr ⟨lw_p86, List.forall_mem_cons.mpr ⟨lw_p87, List.forall_mem_cons.mpr ⟨lw_p88, List.forall_mem_cons.mpr ⟨lw_p89, List.forall_mem_cons.mpr ⟨lw_p90, List.forall_mem_cons.mpr ⟨lw_p91, List.forall_mem_cons.mpr ⟨lw_p92, List.forall_mem_cons.mpr ⟨lw_p93, List.forall_mem_cons.mpr ⟨lw_p94, List.forall_mem_cons.mpr ⟨lw_p95, fun _ h => absurd h List.not_mem_nil⟩⟩⟩⟩⟩⟩⟩⟩⟩⟩⟩⟩⟩⟩⟩⟩
theorem lw_p96 : lw_okq (⟨"OddShoesModel", "doesLimp", "(III)Z"⟩, 42) := ⟨⟨by decide +kernel, by decide +kernel⟩, List.mem_of_getElem? (i := 980) (by decide +kernel), List.mem_of_getElem? (i := 1203) (by decide +kernel), List.mem_of_getElem? (i := 1204) (by decide +kernel)⟩
theorem lw_p97 : lw_okq (⟨"OddShoesModel", "mayWalk", "(IIZ)Z"⟩, 42) := ⟨⟨by decide +kernel, by decide +kernel⟩, List.mem_of_getElem? (i := 980) (by decide +kernel), List.mem_of_getElem? (i := 1207) (by decide +kernel), List.mem_of_getElem? (i := 1208) (by decide +kernel)⟩
theorem lw_p98 : lw_okq (⟨"OddShoesModel", "whyNotBuy", "(I)I"⟩, 42) := ⟨⟨by decide +kernel, by decide +kernel⟩, List.mem_of_getElem? (i := 980) (by decide +kernel), List.mem_of_getElem? (i := 1211) (by decide +kernel), List.mem_of_getElem? (i := 1212) (by decide +kernel)⟩
theorem lw_p99 : lw_okq (⟨"OddShoesModel", "walk", "(II)V"⟩, 42) := ⟨⟨by decide +kernel, by decide +kernel⟩, List.mem_of_getElem? (i := 980) (by decide +kernel), List.mem_of_getElem? (i := 1215) (by decide +kernel), List.mem_of_getElem? (i := 1216) (by decide +kernel)⟩
theorem lw_p100 : lw_okq (⟨"OddShoesModel", "buy", "(I)V"⟩, 42) := ⟨⟨by decide +kernel, by decide +kernel⟩, List.mem_of_getElem? (i := 980) (by decide +kernel), List.mem_of_getElem? (i := 1219) (by decide +kernel), List.mem_of_getElem? (i := 1220) (by decide +kernel)⟩
theorem lw_p101 : lw_okq (⟨"OddShoesModel", "barOfDay", "(I)I"⟩, 42) := ⟨⟨by decide +kernel, by decide +kernel⟩, List.mem_of_getElem? (i := 980) (by decide +kernel), List.mem_of_getElem? (i := 1227) (by decide +kernel), List.mem_of_getElem? (i := 1228) (by decide +kernel)⟩
theorem lw_p102 : lw_okq (⟨"OddShoesModel", "stateNow", "(II)I"⟩, 42) := ⟨⟨by decide +kernel, by decide +kernel⟩, List.mem_of_getElem? (i := 980) (by decide +kernel), List.mem_of_getElem? (i := 1235) (by decide +kernel), List.mem_of_getElem? (i := 1236) (by decide +kernel)⟩
theorem lw_p103 : lw_okq (⟨"OddShoesModel", "layFar", "()V"⟩, 42) := ⟨⟨by decide +kernel, by decide +kernel⟩, List.mem_of_getElem? (i := 980) (by decide +kernel), List.mem_of_getElem? (i := 1255) (by decide +kernel), List.mem_of_getElem? (i := 1256) (by decide +kernel)⟩
theorem lw_p104 : lw_okq (⟨"OddShoesModel", "farOf", "(IIZ)I"⟩, 42) := ⟨⟨by decide +kernel, by decide +kernel⟩, List.mem_of_getElem? (i := 980) (by decide +kernel), List.mem_of_getElem? (i := 1259) (by decide +kernel), List.mem_of_getElem? (i := 1260) (by decide +kernel)⟩
theorem lw_p105 : lw_okq (⟨"OddShoesModel", "layShod", "(II)V"⟩, 42) := ⟨⟨by decide +kernel, by decide +kernel⟩, List.mem_of_getElem? (i := 980) (by decide +kernel), List.mem_of_getElem? (i := 1271) (by decide +kernel), List.mem_of_getElem? (i := 1272) (by decide +kernel)⟩
theorem lw_p106 : lw_okq (⟨"OddShoesModel", "offer", "(IIIII)V"⟩, 42) := ⟨⟨by decide +kernel, by decide +kernel⟩, List.mem_of_getElem? (i := 980) (by decide +kernel), List.mem_of_getElem? (i := 1275) (by decide +kernel), List.mem_of_getElem? (i := 1276) (by decide +kernel)⟩
theorem lw_p107 : lw_okq (⟨"OddShoesModel", "sells", "(IIII)Z"⟩, 42) := ⟨⟨by decide +kernel, by decide +kernel⟩, List.mem_of_getElem? (i := 980) (by decide +kernel), List.mem_of_getElem? (i := 1279) (by decide +kernel), List.mem_of_getElem? (i := 1280) (by decide +kernel)⟩
theorem lw_p108 : lw_okq (⟨"OddShoesModel", "sum", "(II)I"⟩, 42) := ⟨⟨by decide +kernel, by decide +kernel⟩, List.mem_of_getElem? (i := 980) (by decide +kernel), List.mem_of_getElem? (i := 1283) (by decide +kernel), List.mem_of_getElem? (i := 1284) (by decide +kernel)⟩
theorem lw_p109 : lw_okq (⟨"OddShoesModel", "second", "(IIIII)V"⟩, 42) := ⟨⟨by decide +kernel, by decide +kernel⟩, List.mem_of_getElem? (i := 980) (by decide +kernel), List.mem_of_getElem? (i := 1287) (by decide +kernel), List.mem_of_getElem? (i := 1288) (by decide +kernel)⟩
theorem lw_p110 : lw_okq (⟨"OddShoesModel", "nextRow", "(I)Z"⟩, 42) := ⟨⟨by decide +kernel, by decide +kernel⟩, List.mem_of_getElem? (i := 980) (by decide +kernel), List.mem_of_getElem? (i := 1295) (by decide +kernel), List.mem_of_getElem? (i := 1296) (by decide +kernel)⟩
theorem lw_p111 : lw_okq (⟨"OddShoesModel", "change", "(II)V"⟩, 42) := ⟨⟨by decide +kernel, by decide +kernel⟩, List.mem_of_getElem? (i := 980) (by decide +kernel), List.mem_of_getElem? (i := 1299) (by decide +kernel), List.mem_of_getElem? (i := 1300) (by decide +kernel)⟩
def lw_privs_7 : List (MethodName × Nat) := [(⟨"OddShoesModel", "doesLimp", "(III)Z"⟩, 42), (⟨"OddShoesModel", "mayWalk", "(IIZ)Z"⟩, 42), (⟨"OddShoesModel", "whyNotBuy", "(I)I"⟩, 42), (⟨"OddShoesModel", "walk", "(II)V"⟩, 42), (⟨"OddShoesModel", "buy", "(I)V"⟩, 42), (⟨"OddShoesModel", "barOfDay", "(I)I"⟩, 42), (⟨"OddShoesModel", "stateNow", "(II)I"⟩, 42), (⟨"OddShoesModel", "layFar", "()V"⟩, 42), (⟨"OddShoesModel", "farOf", "(IIZ)I"⟩, 42), (⟨"OddShoesModel", "layShod", "(II)V"⟩, 42), (⟨"OddShoesModel", "offer", "(IIIII)V"⟩, 42), (⟨"OddShoesModel", "sells", "(IIII)Z"⟩, 42), (⟨"OddShoesModel", "sum", "(II)I"⟩, 42), (⟨"OddShoesModel", "second", "(IIIII)V"⟩, 42), (⟨"OddShoesModel", "nextRow", "(I)Z"⟩, 42), (⟨"OddShoesModel", "change", "(II)V"⟩, 42)]
theorem lw_r7 : ∀ q ∈ lw_privs_7, lw_okq q := List.forall_mem_cons.mpr ⟨lw_p96, List.forall_mem_cons.mpr ⟨lw_p97, List.forall_mem_cons.mpr ⟨lw_p98, List.forall_mem_cons.mpr ⟨lw_p99, List.forall_mem_cons.mpr ⟨lw_p100, List.forall_mem_cons.mpr ⟨lw_p101, List.forall_mem_cons.mpr ⟨lw_p102, List.forall_mem_cons.mpr ⟨lw_p103, List.forall_mem_cons.mpr ⟨lw_p104, List.forall_mem_cons.mpr ⟨lw_p105, List.forall_mem_cons.mpr ⟨lw_p106, List.forall_mem_cons.mpr ⟨lw_p107, List.forall_mem_cons.mpr ⟨lw_p108, List.forall_mem_cons.mpr ⟨lw_p109, List.forall_mem_cons.mpr ⟨lw_p110, List.forall_mem_cons.mpr ⟨lw_p111, fun _ h => absurd h List.not_mem_nil⟩⟩⟩⟩⟩⟩⟩⟩⟩⟩⟩⟩⟩⟩⟩⟩
theorem lw_p112 : lw_okq (⟨"OddShoesModel", "come", "(II)I"⟩, 42) := ⟨⟨by decide +kernel, by decide +kernel⟩, List.mem_of_getElem? (i := 980) (by decide +kernel), List.mem_of_getElem? (i := 1311) (by decide +kernel), List.mem_of_getElem? (i := 1312) (by decide +kernel)⟩
theorem lw_p113 : lw_okq (⟨"OddShoesModel", "rest", "(II)Z"⟩, 42) := ⟨⟨by decide +kernel, by decide +kernel⟩, List.mem_of_getElem? (i := 980) (by decide +kernel), List.mem_of_getElem? (i := 1323) (by decide +kernel), List.mem_of_getElem? (i := 1324) (by decide +kernel)⟩
theorem lw_p114 : lw_okq (⟨"OddShoesModel", "buyers", "(I)I"⟩, 42) := ⟨⟨by decide +kernel, by decide +kernel⟩, List.mem_of_getElem? (i := 980) (by decide +kernel), List.mem_of_getElem? (i := 1327) (by decide +kernel), List.mem_of_getElem? (i := 1328) (by decide +kernel)⟩
theorem lw_p115 : lw_okq (⟨"OddShoesModel", "isPrint", "(III)Z"⟩, 42) := ⟨⟨by decide +kernel, by decide +kernel⟩, List.mem_of_getElem? (i := 980) (by decide +kernel), List.mem_of_getElem? (i := 1339) (by decide +kernel), List.mem_of_getElem? (i := 1340) (by decide +kernel)⟩
def lw_privs_8 : List (MethodName × Nat) := [(⟨"OddShoesModel", "come", "(II)I"⟩, 42), (⟨"OddShoesModel", "rest", "(II)Z"⟩, 42), (⟨"OddShoesModel", "buyers", "(I)I"⟩, 42), (⟨"OddShoesModel", "isPrint", "(III)Z"⟩, 42)]
theorem lw_r8 : ∀ q ∈ lw_privs_8, lw_okq q := List.forall_mem_cons.mpr ⟨lw_p112, List.forall_mem_cons.mpr ⟨lw_p113, List.forall_mem_cons.mpr ⟨lw_p114, List.forall_mem_cons.mpr ⟨lw_p115, fun _ h => absurd h List.not_mem_nil⟩⟩⟩⟩
def lw_privs : List (MethodName × Nat) := lw_privs_1 ++ (lw_privs_2 ++ (lw_privs_3 ++ (lw_privs_4 ++ (lw_privs_5 ++ (lw_privs_6 ++ (lw_privs_7 ++ (lw_privs_8)))))))
def lw_tbl : List Cond := k2_sels lw_privs ++ tables_1
theorem lw_privs_ok : ∀ q ∈ lw_privs, lw_okq q := by
  show ∀ q ∈ lw_privs_1 ++ (lw_privs_2 ++ (lw_privs_3 ++ (lw_privs_4 ++ (lw_privs_5 ++ (lw_privs_6 ++ (lw_privs_7 ++ (lw_privs_8))))))), lw_okq q
  exact List.forall_mem_append.mpr ⟨lw_r1, List.forall_mem_append.mpr ⟨lw_r2, List.forall_mem_append.mpr ⟨lw_r3, List.forall_mem_append.mpr ⟨lw_r4, List.forall_mem_append.mpr ⟨lw_r5, List.forall_mem_append.mpr ⟨lw_r6, List.forall_mem_append.mpr ⟨lw_r7, lw_r8⟩⟩⟩⟩⟩⟩⟩
def RX0 : String := "OddShoes$Cut"
def TX0 : u_T := fun k => match k with
  | _ => ("OddShoes$Cut", "bits", "I", false)
def tyX0 : Nat → FieldType := fun k => match k with
  | _ => .int
abbrev wsX00 : List Cond := u_ws RX0 TX0 1
theorem nmX0 : ∀ a, a < 1 → ∀ b, b < 1 → a ≠ b → (TX0 a).2.1 ≠ (TX0 b).2.1 := by decide +kernel
theorem tyX0_ok : ∀ k, k < 1 → parseFieldDescriptor (TX0 k).2.2.1 = some (tyX0 k) := by decide +kernel
abbrev cX0_init : ByteArray := prog_2_method_1_code
def yX0_init : MethodName := ⟨RX0, "<init>", "()V"⟩
abbrev cX0_find : ByteArray := prog_2_method_2_code
def yX0_find : MethodName := ⟨RX0, "find", "(LOddShoes$Valley;II)V"⟩
abbrev cX0_isLess : ByteArray := prog_2_method_3_code
def yX0_isLess : MethodName := ⟨RX0, "isLess", "(II)Z"⟩
abbrev cX0_roadsOutOf : ByteArray := prog_2_method_4_code
def yX0_roadsOutOf : MethodName := ⟨RX0, "roadsOutOf", "(LOddShoes$Valley;I)I"⟩
def RX1 : String := "OddShoes$Day"
def TX1 : u_T := fun k => match k with
  | 0 => ("OddShoes$Day", "after", "LOddShoes$Valley;", true)
  | 1 => ("OddShoes$Day", "badStep", "I", false)
  | 2 => ("OddShoes$Day", "why", "I", false)
  | 3 => ("OddShoes$Day", "outStep", "I", false)
  | 4 => ("OddShoes$Day", "outWho", "I", false)
  | 5 => ("OddShoes$Day", "outSide", "I", false)
  | 6 => ("OddShoes$Day", "fillings", "I", false)
  | _ => ("OddShoes$Day", "firstFilling", "I", false)
def tyX1 : Nat → FieldType := fun k => match k with
  | 0 => .object "OddShoes$Valley"
  | 1 => .int
  | 2 => .int
  | 3 => .int
  | 4 => .int
  | 5 => .int
  | 6 => .int
  | _ => .int
abbrev wsX10 : List Cond := u_ws RX1 TX1 8
theorem nmX1 : ∀ a, a < 8 → ∀ b, b < 8 → a ≠ b → (TX1 a).2.1 ≠ (TX1 b).2.1 := by decide +kernel
theorem tyX1_ok : ∀ k, k < 8 → parseFieldDescriptor (TX1 k).2.2.1 = some (tyX1 k) := by decide +kernel
abbrev cX1_init : ByteArray := prog_3_method_1_code
def yX1_init : MethodName := ⟨RX1, "<init>", "()V"⟩
abbrev cX1_play : ByteArray := prog_3_method_2_code
def yX1_play : MethodName := ⟨RX1, "play", "(LOddShoes$Valley;LOddShoes$Pad;II)Z"⟩
abbrev cX1_lookAtShoes : ByteArray := prog_3_method_3_code
def yX1_lookAtShoes : MethodName := ⟨RX1, "lookAtShoes", "(III)V"⟩
abbrev cX1_fill : ByteArray := prog_3_method_4_code
def yX1_fill : MethodName := ⟨RX1, "fill", "(LOddShoes$Valley;LOddShoes$Pad;)V"⟩
def RX2 : String := "OddShoes$Draws"
def TX2 : u_T := fun k => match k with
  | 0 => ("OddShoes$Draws", "miles", "I", false)
  | _ => ("OddShoes$Draws", "shoes", "I", false)
def tyX2 : Nat → FieldType := fun k => match k with
  | 0 => .int
  | _ => .int
abbrev wsX20 : List Cond := u_ws RX2 TX2 2
theorem nmX2 : ∀ a, a < 2 → ∀ b, b < 2 → a ≠ b → (TX2 a).2.1 ≠ (TX2 b).2.1 := by decide +kernel
theorem tyX2_ok : ∀ k, k < 2 → parseFieldDescriptor (TX2 k).2.2.1 = some (tyX2 k) := by decide +kernel
abbrev cX2_init : ByteArray := prog_4_method_1_code
def yX2_init : MethodName := ⟨RX2, "<init>", "()V"⟩
abbrev cX2_live : ByteArray := prog_4_method_2_code
def yX2_live : MethodName := ⟨RX2, "live", "(LOddShoes$Valley;II)V"⟩
abbrev cX2_takeTurn : ByteArray := prog_4_method_3_code
def yX2_takeTurn : MethodName := ⟨RX2, "takeTurn", "(LOddShoes$Valley;II)V"⟩
def RX3 : String := "OddShoes$Errand"
def TX3 : u_T := fun k => match k with
  | 0 => ("OddShoes$Errand", "cost", "I", false)
  | 1 => ("OddShoes$Errand", "miles", "I", false)
  | 2 => ("OddShoes$Errand", "firstTown", "I", false)
  | 3 => ("OddShoes$Errand", "secondTown", "I", false)
  | 4 => ("OddShoes$Errand", "upper", "J", false)
  | _ => ("OddShoes$Errand", "lower", "J", false)
def tyX3 : Nat → FieldType := fun k => match k with
  | 0 => .int
  | 1 => .int
  | 2 => .int
  | 3 => .int
  | 4 => .long
  | _ => .long
abbrev wsX30 : List Cond := u_ws RX3 TX3 6
theorem nmX3 : ∀ a, a < 6 → ∀ b, b < 6 → a ≠ b → (TX3 a).2.1 ≠ (TX3 b).2.1 := by decide +kernel
theorem tyX3_ok : ∀ k, k < 6 → parseFieldDescriptor (TX3 k).2.2.1 = some (tyX3 k) := by decide +kernel
abbrev cX3_init : ByteArray := prog_5_method_1_code
def yX3_init : MethodName := ⟨RX3, "<init>", "()V"⟩
abbrev cX3_plan : ByteArray := prog_5_method_2_code
def yX3_plan : MethodName := ⟨RX3, "plan", "(LOddShoes$Valley;LOddShoes$Ways;LOddShoes$Person;I)V"⟩
abbrev cX3_planFrom : ByteArray := prog_5_method_3_code
def yX3_planFrom : MethodName := ⟨RX3, "planFrom", "(LOddShoes$Valley;LOddShoes$Ways;LOddShoes$Person;II)V"⟩
abbrev cX3_milesOverOne : ByteArray := prog_5_method_4_code
def yX3_milesOverOne : MethodName := ⟨RX3, "milesOverOne", "(LOddShoes$Valley;LOddShoes$Ways;LOddShoes$Person;I)I"⟩
abbrev cX3_milesOverTwo : ByteArray := prog_5_method_5_code
def yX3_milesOverTwo : MethodName := ⟨RX3, "milesOverTwo", "(LOddShoes$Valley;LOddShoes$Ways;LOddShoes$Person;II)I"⟩
abbrev cX3_offer : ByteArray := prog_5_method_6_code
def yX3_offer : MethodName := ⟨RX3, "offer", "(LOddShoes$Valley;LOddShoes$Person;III)V"⟩
abbrev cX3_weigh : ByteArray := prog_5_method_7_code
def yX3_weigh : MethodName := ⟨RX3, "weigh", "(LOddShoes$Valley;LOddShoes$Ways;LOddShoes$Person;I)V"⟩
abbrev cX3_sellingTowns : ByteArray := prog_5_method_8_code
def yX3_sellingTowns : MethodName := ⟨RX3, "sellingTowns", "(LOddShoes$Valley;)I"⟩
abbrev cX3_weightOf : ByteArray := prog_5_method_9_code
def yX3_weightOf : MethodName := ⟨RX3, "weightOf", "(III)J"⟩
def RX4 : String := "OddShoes$Fetching"
def TX4 : u_T := fun k => match k with
  | 0 => ("OddShoes$Fetching", "miles", "I", false)
  | 1 => ("OddShoes$Fetching", "forLefts", "I", false)
  | _ => ("OddShoes$Fetching", "forRights", "I", false)
def tyX4 : Nat → FieldType := fun k => match k with
  | 0 => .int
  | 1 => .int
  | _ => .int
abbrev wsX40 : List Cond := u_ws RX4 TX4 3
theorem nmX4 : ∀ a, a < 3 → ∀ b, b < 3 → a ≠ b → (TX4 a).2.1 ≠ (TX4 b).2.1 := by decide +kernel
theorem tyX4_ok : ∀ k, k < 3 → parseFieldDescriptor (TX4 k).2.2.1 = some (tyX4 k) := by decide +kernel
abbrev cX4_init : ByteArray := prog_6_method_1_code
def yX4_init : MethodName := ⟨RX4, "<init>", "()V"⟩
abbrev cX4_plan : ByteArray := prog_6_method_2_code
def yX4_plan : MethodName := ⟨RX4, "plan", "(LOddShoes$Valley;LOddShoes$Ways;III)V"⟩
abbrev cX4_milesOfOne : ByteArray := prog_6_method_3_code
def yX4_milesOfOne : MethodName := ⟨RX4, "milesOfOne", "(LOddShoes$Ways;III)I"⟩
abbrev cX4_milesOfTwo : ByteArray := prog_6_method_4_code
def yX4_milesOfTwo : MethodName := ⟨RX4, "milesOfTwo", "(LOddShoes$Ways;IIII)I"⟩
abbrev cX4_offer : ByteArray := prog_6_method_5_code
def yX4_offer : MethodName := ⟨RX4, "offer", "(III)V"⟩
def RX5 : String := "OddShoes$Pad"
def TX5 : u_T := fun k => match k with
  | 0 => ("OddShoes$Pad", "signs", "[I", true)
  | _ => ("OddShoes$Pad", "count", "I", false)
def tyX5 : Nat → FieldType := fun k => match k with
  | 0 => .array .int
  | _ => .int
abbrev wsX50 : List Cond := u_ws RX5 TX5 2
theorem nmX5 : ∀ a, a < 2 → ∀ b, b < 2 → a ≠ b → (TX5 a).2.1 ≠ (TX5 b).2.1 := by decide +kernel
theorem tyX5_ok : ∀ k, k < 2 → parseFieldDescriptor (TX5 k).2.2.1 = some (tyX5 k) := by decide +kernel
abbrev cX5_init : ByteArray := prog_7_method_1_code
def yX5_init : MethodName := ⟨RX5, "<init>", "()V"⟩
abbrev cX5_isFull : ByteArray := prog_7_method_2_code
def yX5_isFull : MethodName := ⟨RX5, "isFull", "()Z"⟩
abbrev cX5_write : ByteArray := prog_7_method_3_code
def yX5_write : MethodName := ⟨RX5, "write", "(I)I"⟩
abbrev cX5_clear : ByteArray := prog_7_method_4_code
def yX5_clear : MethodName := ⟨RX5, "clear", "()I"⟩
abbrev cX5_firstFault : ByteArray := prog_7_method_5_code
def yX5_firstFault : MethodName := ⟨RX5, "firstFault", "(I)I"⟩
abbrev cX5_isWho : ByteArray := prog_7_method_6_code
def yX5_isWho : MethodName := ⟨RX5, "isWho", "(I)Z"⟩
abbrev cX5_isDeed : ByteArray := prog_7_method_7_code
def yX5_isDeed : MethodName := ⟨RX5, "isDeed", "(II)Z"⟩
abbrev cX5_untoldCount : ByteArray := prog_7_method_8_code
def yX5_untoldCount : MethodName := ⟨RX5, "untoldCount", "()I"⟩
abbrev cX5_stepCount : ByteArray := prog_7_method_9_code
def yX5_stepCount : MethodName := ⟨RX5, "stepCount", "()I"⟩
abbrev cX5_whoOf : ByteArray := prog_7_method_10_code
def yX5_whoOf : MethodName := ⟨RX5, "whoOf", "(I)I"⟩
abbrev cX5_deedOf : ByteArray := prog_7_method_11_code
def yX5_deedOf : MethodName := ⟨RX5, "deedOf", "(I)I"⟩
def RX6 : String := "OddShoes$Person"
def TX6 : u_T := fun k => match k with
  | 0 => ("OddShoes$Person", "there", "Z", false)
  | 1 => ("OddShoes$Person", "home", "I", false)
  | 2 => ("OddShoes$Person", "at", "I", false)
  | 3 => ("OddShoes$Person", "leftSize", "I", false)
  | 4 => ("OddShoes$Person", "rightSize", "I", false)
  | 5 => ("OddShoes$Person", "purse", "I", false)
  | 6 => ("OddShoes$Person", "hasLeft", "Z", false)
  | 7 => ("OddShoes$Person", "hasRight", "Z", false)
  | 8 => ("OddShoes$Person", "leftWear", "I", false)
  | 9 => ("OddShoes$Person", "rightWear", "I", false)
  | _ => ("OddShoes$Person", "walked", "I", false)
def tyX6 : Nat → FieldType := fun k => match k with
  | 0 => .boolean
  | 1 => .int
  | 2 => .int
  | 3 => .int
  | 4 => .int
  | 5 => .int
  | 6 => .boolean
  | 7 => .boolean
  | 8 => .int
  | 9 => .int
  | _ => .int
abbrev wsX60 : List Cond := u_ws RX6 TX6 11
theorem nmX6 : ∀ a, a < 11 → ∀ b, b < 11 → a ≠ b → (TX6 a).2.1 ≠ (TX6 b).2.1 := by decide +kernel
theorem tyX6_ok : ∀ k, k < 11 → parseFieldDescriptor (TX6 k).2.2.1 = some (tyX6 k) := by decide +kernel
abbrev cX6_init : ByteArray := prog_8_method_1_code
def yX6_init : MethodName := ⟨RX6, "<init>", "()V"⟩
abbrev cX6_settle : ByteArray := prog_8_method_2_code
def yX6_settle : MethodName := ⟨RX6, "settle", "(IIII)V"⟩
abbrev cX6_vanish : ByteArray := prog_8_method_3_code
def yX6_vanish : MethodName := ⟨RX6, "vanish", "()V"⟩
abbrev cX6_becomeLike : ByteArray := prog_8_method_4_code
def yX6_becomeLike : MethodName := ⟨RX6, "becomeLike", "(LOddShoes$Person;)V"⟩
abbrev cX6_limps : ByteArray := prog_8_method_5_code
def yX6_limps : MethodName := ⟨RX6, "limps", "(I)Z"⟩
abbrev cX6_wears : ByteArray := prog_8_method_6_code
def yX6_wears : MethodName := ⟨RX6, "wears", "(I)Z"⟩
abbrev cX6_sizeOn : ByteArray := prog_8_method_7_code
def yX6_sizeOn : MethodName := ⟨RX6, "sizeOn", "(I)I"⟩
abbrev cX6_leavesPrint : ByteArray := prog_8_method_8_code
def yX6_leavesPrint : MethodName := ⟨RX6, "leavesPrint", "(II)Z"⟩
abbrev cX6_putOn : ByteArray := prog_8_method_9_code
def yX6_putOn : MethodName := ⟨RX6, "putOn", "(I)V"⟩
abbrev cX6_throwShoes : ByteArray := prog_8_method_10_code
def yX6_throwShoes : MethodName := ⟨RX6, "throwShoes", "()V"⟩
abbrev cX6_walk : ByteArray := prog_8_method_11_code
def yX6_walk : MethodName := ⟨RX6, "walk", "(II)V"⟩
abbrev cX6_answer : ByteArray := prog_8_method_12_code
def yX6_answer : MethodName := ⟨RX6, "answer", "(II)I"⟩
def RX7 : String := "OddShoes$Tour"
def TX7 : u_T := fun k => match k with
  | 0 => ("OddShoes$Tour", "fewest", "[I", true)
  | 1 => ("OddShoes$Tour", "order", "[I", true)
  | 2 => ("OddShoes$Tour", "length", "I", false)
  | _ => ("OddShoes$Tour", "miles", "I", false)
def tyX7 : Nat → FieldType := fun k => match k with
  | 0 => .array .int
  | 1 => .array .int
  | 2 => .int
  | _ => .int
abbrev wsX70 : List Cond := u_ws RX7 TX7 4
theorem nmX7 : ∀ a, a < 4 → ∀ b, b < 4 → a ≠ b → (TX7 a).2.1 ≠ (TX7 b).2.1 := by decide +kernel
theorem tyX7_ok : ∀ k, k < 4 → parseFieldDescriptor (TX7 k).2.2.1 = some (tyX7 k) := by decide +kernel
abbrev cX7_init : ByteArray := prog_9_method_1_code
def yX7_init : MethodName := ⟨RX7, "<init>", "()V"⟩
abbrev cX7_plan : ByteArray := prog_9_method_2_code
def yX7_plan : MethodName := ⟨RX7, "plan", "(LOddShoes$Valley;LOddShoes$Ways;LOddShoes$Person;I)V"⟩
abbrev cX7_reckon : ByteArray := prog_9_method_3_code
def yX7_reckon : MethodName := ⟨RX7, "reckon", "(LOddShoes$Valley;LOddShoes$Ways;IZI)V"⟩
abbrev cX7_over : ByteArray := prog_9_method_4_code
def yX7_over : MethodName := ⟨RX7, "over", "(LOddShoes$Ways;IIZI)I"⟩
abbrev cX7_fewestFrom : ByteArray := prog_9_method_5_code
def yX7_fewestFrom : MethodName := ⟨RX7, "fewestFrom", "(II)I"⟩
abbrev cX7_putInOrder : ByteArray := prog_9_method_6_code
def yX7_putInOrder : MethodName := ⟨RX7, "putInOrder", "(LOddShoes$Ways;IZI)V"⟩
abbrev cX7_nextTown : ByteArray := prog_9_method_7_code
def yX7_nextTown : MethodName := ⟨RX7, "nextTown", "(LOddShoes$Ways;IZI)I"⟩
abbrev cX7_townAt : ByteArray := prog_9_method_8_code
def yX7_townAt : MethodName := ⟨RX7, "townAt", "(I)I"⟩
def RX8 : String := "OddShoes$Valley"
def TX8 : u_T := fun k => match k with
  | 0 => ("OddShoes$Valley", "townCount", "I", false)
  | 1 => ("OddShoes$Valley", "toll", "I", false)
  | 2 => ("OddShoes$Valley", "limit", "I", false)
  | 3 => ("OddShoes$Valley", "sightCount", "I", false)
  | 4 => ("OddShoes$Valley", "miles", "[I", true)
  | 5 => ("OddShoes$Valley", "rules", "[I", true)
  | 6 => ("OddShoes$Valley", "worn", "[I", true)
  | 7 => ("OddShoes$Valley", "sides", "[I", true)
  | 8 => ("OddShoes$Valley", "prices", "[I", true)
  | 9 => ("OddShoes$Valley", "stocks", "[I", true)
  | 10 => ("OddShoes$Valley", "sightPeople", "[I", true)
  | 11 => ("OddShoes$Valley", "sightTowns", "[I", true)
  | 12 => ("OddShoes$Valley", "people", "[LOddShoes$Person;", true)
  | _ => ("OddShoes$Valley", "nobody", "LOddShoes$Person;", true)
def tyX8 : Nat → FieldType := fun k => match k with
  | 0 => .int
  | 1 => .int
  | 2 => .int
  | 3 => .int
  | 4 => .array .int
  | 5 => .array .int
  | 6 => .array .int
  | 7 => .array .int
  | 8 => .array .int
  | 9 => .array .int
  | 10 => .array .int
  | 11 => .array .int
  | 12 => .array (.object "OddShoes$Person")
  | _ => .object "OddShoes$Person"
abbrev wsX80 : List Cond := u_ws RX8 TX8 14
theorem nmX8 : ∀ a, a < 14 → ∀ b, b < 14 → a ≠ b → (TX8 a).2.1 ≠ (TX8 b).2.1 := by decide +kernel
theorem tyX8_ok : ∀ k, k < 14 → parseFieldDescriptor (TX8 k).2.2.1 = some (tyX8 k) := by decide +kernel
abbrev cX8_init : ByteArray := prog_10_method_1_code
def yX8_init : MethodName := ⟨RX8, "<init>", "()V"⟩
abbrev cX8_beginAnew : ByteArray := prog_10_method_2_code
def yX8_beginAnew : MethodName := ⟨RX8, "beginAnew", "(I)V"⟩
abbrev cX8_becomeLike : ByteArray := prog_10_method_3_code
def yX8_becomeLike : MethodName := ⟨RX8, "becomeLike", "(LOddShoes$Valley;)V"⟩
abbrev cX8_isTown : ByteArray := prog_10_method_4_code
def yX8_isTown : MethodName := ⟨RX8, "isTown", "(I)Z"⟩
abbrev cX8_areTwoTowns : ByteArray := prog_10_method_5_code
def yX8_areTwoTowns : MethodName := ⟨RX8, "areTwoTowns", "(II)Z"⟩
abbrev cX8_allTowns : ByteArray := prog_10_method_6_code
def yX8_allTowns : MethodName := ⟨RX8, "allTowns", "()I"⟩
abbrev cX8_personAt : ByteArray := prog_10_method_7_code
def yX8_personAt : MethodName := ⟨RX8, "personAt", "(I)LOddShoes$Person;"⟩
abbrev cX8_isThere : ByteArray := prog_10_method_8_code
def yX8_isThere : MethodName := ⟨RX8, "isThere", "(I)Z"⟩
abbrev cX8_peopleBits : ByteArray := prog_10_method_9_code
def yX8_peopleBits : MethodName := ⟨RX8, "peopleBits", "()I"⟩
abbrev cX8_peopleOfSizes : ByteArray := prog_10_method_10_code
def yX8_peopleOfSizes : MethodName := ⟨RX8, "peopleOfSizes", "(II)I"⟩
abbrev cX8_buyersAt : ByteArray := prog_10_method_11_code
def yX8_buyersAt : MethodName := ⟨RX8, "buyersAt", "(I)I"⟩
abbrev cX8_limpingCount : ByteArray := prog_10_method_12_code
def yX8_limpingCount : MethodName := ⟨RX8, "limpingCount", "()I"⟩
abbrev cX8_milesOf : ByteArray := prog_10_method_13_code
def yX8_milesOf : MethodName := ⟨RX8, "milesOf", "(I)I"⟩
abbrev cX8_ruleOf : ByteArray := prog_10_method_14_code
def yX8_ruleOf : MethodName := ⟨RX8, "ruleOf", "(I)I"⟩
abbrev cX8_wornBy : ByteArray := prog_10_method_15_code
def yX8_wornBy : MethodName := ⟨RX8, "wornBy", "(II)I"⟩
abbrev cX8_layRoad : ByteArray := prog_10_method_16_code
def yX8_layRoad : MethodName := ⟨RX8, "layRoad", "(III)V"⟩
abbrev cX8_mayWalk : ByteArray := prog_10_method_17_code
def yX8_mayWalk : MethodName := ⟨RX8, "mayWalk", "(IZ)Z"⟩
abbrev cX8_sideAt : ByteArray := prog_10_method_18_code
def yX8_sideAt : MethodName := ⟨RX8, "sideAt", "(I)I"⟩
abbrev cX8_priceAt : ByteArray := prog_10_method_19_code
def yX8_priceAt : MethodName := ⟨RX8, "priceAt", "(I)I"⟩
abbrev cX8_stockAt : ByteArray := prog_10_method_20_code
def yX8_stockAt : MethodName := ⟨RX8, "stockAt", "(II)I"⟩
abbrev cX8_putStock : ByteArray := prog_10_method_21_code
def yX8_putStock : MethodName := ⟨RX8, "putStock", "(III)V"⟩
abbrev cX8_shoesAt : ByteArray := prog_10_method_22_code
def yX8_shoesAt : MethodName := ⟨RX8, "shoesAt", "(I)I"⟩
abbrev cX8_hasFor : ByteArray := prog_10_method_23_code
def yX8_hasFor : MethodName := ⟨RX8, "hasFor", "(IILOddShoes$Person;)Z"⟩
abbrev cX8_addSight : ByteArray := prog_10_method_24_code
def yX8_addSight : MethodName := ⟨RX8, "addSight", "(II)I"⟩
abbrev cX8_holdsSights : ByteArray := prog_10_method_25_code
def yX8_holdsSights : MethodName := ⟨RX8, "holdsSights", "()Z"⟩
abbrev cX8_whyNot : ByteArray := prog_10_method_26_code
def yX8_whyNot : MethodName := ⟨RX8, "whyNot", "(II)I"⟩
abbrev cX8_whyNoWalk : ByteArray := prog_10_method_27_code
def yX8_whyNoWalk : MethodName := ⟨RX8, "whyNoWalk", "(LOddShoes$Person;I)I"⟩
abbrev cX8_whyNoShoe : ByteArray := prog_10_method_28_code
def yX8_whyNoShoe : MethodName := ⟨RX8, "whyNoShoe", "(LOddShoes$Person;)I"⟩
abbrev cX8_take : ByteArray := prog_10_method_29_code
def yX8_take : MethodName := ⟨RX8, "take", "(II)V"⟩
abbrev cX8_walk : ByteArray := prog_10_method_30_code
def yX8_walk : MethodName := ⟨RX8, "walk", "(LOddShoes$Person;I)V"⟩
abbrev cX8_tread : ByteArray := prog_10_method_31_code
def yX8_tread : MethodName := ⟨RX8, "tread", "(II)V"⟩
abbrev cX8_buy : ByteArray := prog_10_method_32_code
def yX8_buy : MethodName := ⟨RX8, "buy", "(LOddShoes$Person;)V"⟩
def RX9 : String := "OddShoes$Ways"
def TX9 : u_T := fun k => match k with
  | _ => ("OddShoes$Ways", "weights", "[I", true)
def tyX9 : Nat → FieldType := fun k => match k with
  | _ => .array .int
abbrev wsX90 : List Cond := u_ws RX9 TX9 1
theorem nmX9 : ∀ a, a < 1 → ∀ b, b < 1 → a ≠ b → (TX9 a).2.1 ≠ (TX9 b).2.1 := by decide +kernel
theorem tyX9_ok : ∀ k, k < 1 → parseFieldDescriptor (TX9 k).2.2.1 = some (tyX9 k) := by decide +kernel
abbrev cX9_init : ByteArray := prog_11_method_1_code
def yX9_init : MethodName := ⟨RX9, "<init>", "()V"⟩
abbrev cX9_survey : ByteArray := prog_11_method_2_code
def yX9_survey : MethodName := ⟨RX9, "survey", "(LOddShoes$Valley;)V"⟩
abbrev cX9_surveyFor : ByteArray := prog_11_method_3_code
def yX9_surveyFor : MethodName := ⟨RX9, "surveyFor", "(LOddShoes$Valley;Z)V"⟩
abbrev cX9_shorten : ByteArray := prog_11_method_4_code
def yX9_shorten : MethodName := ⟨RX9, "shorten", "(IIIZ)V"⟩
abbrev cX9_place : ByteArray := prog_11_method_5_code
def yX9_place : MethodName := ⟨RX9, "place", "(IIZ)I"⟩
abbrev cX9_weightOfRoad : ByteArray := prog_11_method_6_code
def yX9_weightOfRoad : MethodName := ⟨RX9, "weightOfRoad", "(LOddShoes$Valley;IIZ)I"⟩
abbrev cX9_weightBetween : ByteArray := prog_11_method_7_code
def yX9_weightBetween : MethodName := ⟨RX9, "weightBetween", "(IIZ)I"⟩
abbrev cX9_milesBetween : ByteArray := prog_11_method_8_code
def yX9_milesBetween : MethodName := ⟨RX9, "milesBetween", "(IIZ)I"⟩
abbrev cX9_townOnWay : ByteArray := prog_11_method_9_code
def yX9_townOnWay : MethodName := ⟨RX9, "townOnWay", "(LOddShoes$Valley;IIZI)I"⟩
abbrev cX9_nextTown : ByteArray := prog_11_method_10_code
def yX9_nextTown : MethodName := ⟨RX9, "nextTown", "(LOddShoes$Valley;IIZ)I"⟩
def RX10 : String := "OddShoes"
def TX10 : u_T := fun k => match k with
  | 0 => ("OddShoes", "valley", "LOddShoes$Valley;", true)
  | 1 => ("OddShoes", "images", "[LOddShoes$Valley;", true)
  | 2 => ("OddShoes", "kept", "[Z", true)
  | 3 => ("OddShoes", "pad", "LOddShoes$Pad;", true)
  | 4 => ("OddShoes", "day", "LOddShoes$Day;", true)
  | 5 => ("OddShoes", "ways", "LOddShoes$Ways;", true)
  | 6 => ("OddShoes", "errand", "LOddShoes$Errand;", true)
  | 7 => ("OddShoes", "tour", "LOddShoes$Tour;", true)
  | 8 => ("OddShoes", "fetching", "LOddShoes$Fetching;", true)
  | 9 => ("OddShoes", "cut", "LOddShoes$Cut;", true)
  | _ => ("OddShoes", "draws", "LOddShoes$Draws;", true)
def tyX10 : Nat → FieldType := fun k => match k with
  | 0 => .object "OddShoes$Valley"
  | 1 => .array (.object "OddShoes$Valley")
  | 2 => .array .boolean
  | 3 => .object "OddShoes$Pad"
  | 4 => .object "OddShoes$Day"
  | 5 => .object "OddShoes$Ways"
  | 6 => .object "OddShoes$Errand"
  | 7 => .object "OddShoes$Tour"
  | 8 => .object "OddShoes$Fetching"
  | 9 => .object "OddShoes$Cut"
  | _ => .object "OddShoes$Draws"
abbrev wsX100 : List Cond := u_ws RX10 TX10 11
theorem nmX10 : ∀ a, a < 11 → ∀ b, b < 11 → a ≠ b → (TX10 a).2.1 ≠ (TX10 b).2.1 := by decide +kernel
theorem tyX10_ok : ∀ k, k < 11 → parseFieldDescriptor (TX10 k).2.2.1 = some (tyX10 k) := by decide +kernel
abbrev cX10_init : ByteArray := prog_1_method_1_code
def yX10_init : MethodName := ⟨RX10, "<init>", "()V"⟩
abbrev cX10_towns : ByteArray := prog_1_method_2_code
def yX10_towns : MethodName := ⟨RX10, "towns", "(I)I"⟩
abbrev cX10_road : ByteArray := prog_1_method_3_code
def yX10_road : MethodName := ⟨RX10, "road", "(IIII)I"⟩
abbrev cX10_shop : ByteArray := prog_1_method_4_code
def yX10_shop : MethodName := ⟨RX10, "shop", "(III)I"⟩
abbrev cX10_stock : ByteArray := prog_1_method_5_code
def yX10_stock : MethodName := ⟨RX10, "stock", "(III)I"⟩
abbrev cX10_person : ByteArray := prog_1_method_6_code
def yX10_person : MethodName := ⟨RX10, "person", "(IIIII)I"⟩
abbrev cX10_leave : ByteArray := prog_1_method_7_code
def yX10_leave : MethodName := ⟨RX10, "leave", "(I)I"⟩
abbrev cX10_set : ByteArray := prog_1_method_8_code
def yX10_set : MethodName := ⟨RX10, "set", "(II)I"⟩
abbrev cX10_say : ByteArray := prog_1_method_9_code
def yX10_say : MethodName := ⟨RX10, "say", "(I)I"⟩
abbrev cX10_wipe : ByteArray := prog_1_method_10_code
def yX10_wipe : MethodName := ⟨RX10, "wipe", "()I"⟩
abbrev cX10_fault : ByteArray := prog_1_method_11_code
def yX10_fault : MethodName := ⟨RX10, "fault", "()I"⟩
abbrev cX10_judge : ByteArray := prog_1_method_12_code
def yX10_judge : MethodName := ⟨RX10, "judge", "(I)I"⟩
abbrev cX10_done : ByteArray := prog_1_method_13_code
def yX10_done : MethodName := ⟨RX10, "done", "()I"⟩
abbrev cX10_state : ByteArray := prog_1_method_14_code
def yX10_state : MethodName := ⟨RX10, "state", "(II)I"⟩
abbrev cX10_behind : ByteArray := prog_1_method_15_code
def yX10_behind : MethodName := ⟨RX10, "behind", "(II)I"⟩
abbrev cX10_trodden : ByteArray := prog_1_method_16_code
def yX10_trodden : MethodName := ⟨RX10, "trodden", "(III)I"⟩
abbrev cX10_givesOut : ByteArray := prog_1_method_17_code
def yX10_givesOut : MethodName := ⟨RX10, "givesOut", "(II)I"⟩
abbrev cX10_far : ByteArray := prog_1_method_18_code
def yX10_far : MethodName := ⟨RX10, "far", "(III)I"⟩
abbrev cX10_way : ByteArray := prog_1_method_19_code
def yX10_way : MethodName := ⟨RX10, "way", "(III)I"⟩
abbrev cX10_shod : ByteArray := prog_1_method_20_code
def yX10_shod : MethodName := ⟨RX10, "shod", "(II)I"⟩
abbrev cX10_round : ByteArray := prog_1_method_21_code
def yX10_round : MethodName := ⟨RX10, "round", "(III)I"⟩
abbrev cX10_together : ByteArray := prog_1_method_22_code
def yX10_together : MethodName := ⟨RX10, "together", "(IIII)I"⟩
abbrev cX10_parted : ByteArray := prog_1_method_23_code
def yX10_parted : MethodName := ⟨RX10, "parted", "(III)I"⟩
abbrev cX10_pairs : ByteArray := prog_1_method_24_code
def yX10_pairs : MethodName := ⟨RX10, "pairs", "(IIII)I"⟩
abbrev cX10_rests : ByteArray := prog_1_method_25_code
def yX10_rests : MethodName := ⟨RX10, "rests", "(I)I"⟩
abbrev cX10_owner : ByteArray := prog_1_method_26_code
def yX10_owner : MethodName := ⟨RX10, "owner", "(I)I"⟩
abbrev cX10_track : ByteArray := prog_1_method_27_code
def yX10_track : MethodName := ⟨RX10, "track", "(III)I"⟩
abbrev cX10_seen : ByteArray := prog_1_method_28_code
def yX10_seen : MethodName := ⟨RX10, "seen", "(II)I"⟩
abbrev cX10_forget : ByteArray := prog_1_method_29_code
def yX10_forget : MethodName := ⟨RX10, "forget", "()I"⟩
abbrev cX10_filled : ByteArray := prog_1_method_30_code
def yX10_filled : MethodName := ⟨RX10, "filled", "(I)I"⟩
abbrev cX10_spy : ByteArray := prog_1_method_31_code
def yX10_spy : MethodName := ⟨RX10, "spy", "(I)I"⟩
abbrev cX10_shut : ByteArray := prog_1_method_32_code
def yX10_shut : MethodName := ⟨RX10, "shut", "(III)J"⟩
abbrev cX10_year : ByteArray := prog_1_method_33_code
def yX10_year : MethodName := ⟨RX10, "year", "(III)I"⟩
abbrev cX10_image : ByteArray := prog_1_method_34_code
def yX10_image : MethodName := ⟨RX10, "image", "(I)I"⟩
abbrev cX10_restore : ByteArray := prog_1_method_35_code
def yX10_restore : MethodName := ⟨RX10, "restore", "(I)I"⟩
abbrev cX10_told : ByteArray := prog_1_method_36_code
def yX10_told : MethodName := ⟨RX10, "told", "(I)I"⟩
abbrev cX10_refusalOfText : ByteArray := prog_1_method_37_code
def yX10_refusalOfText : MethodName := ⟨RX10, "refusalOfText", "()I"⟩
abbrev cX10_refusalOfDay : ByteArray := prog_1_method_38_code
def yX10_refusalOfDay : MethodName := ⟨RX10, "refusalOfDay", "(I)I"⟩
abbrev cX10_isImage : ByteArray := prog_1_method_39_code
def yX10_isImage : MethodName := ⟨RX10, "isImage", "(I)Z"⟩
abbrev cX10_toldOfAll : ByteArray := prog_1_method_40_code
def yX10_toldOfAll : MethodName := ⟨RX10, "toldOfAll", "(I)I"⟩
abbrev cX10_toldOfTown : ByteArray := prog_1_method_41_code
def yX10_toldOfTown : MethodName := ⟨RX10, "toldOfTown", "(II)I"⟩
abbrev cX10_mostPairs : ByteArray := prog_1_method_42_code
def yX10_mostPairs : MethodName := ⟨RX10, "mostPairs", "(III)I"⟩
abbrev cX10_isAtRest : ByteArray := prog_1_method_43_code
def yX10_isAtRest : MethodName := ⟨RX10, "isAtRest", "(II)Z"⟩
abbrev cX10_isWithin : ByteArray := prog_1_method_44_code
def yX10_isWithin : MethodName := ⟨RX10, "isWithin", "(III)Z"⟩
abbrev cX10_isSize : ByteArray := prog_1_method_45_code
def yX10_isSize : MethodName := ⟨RX10, "isSize", "(I)Z"⟩
abbrev cX10_isIn : ByteArray := prog_1_method_46_code
def yX10_isIn : MethodName := ⟨RX10, "isIn", "(II)Z"⟩
abbrev cX10_isWalk : ByteArray := prog_1_method_47_code
def yX10_isWalk : MethodName := ⟨RX10, "isWalk", "(I)Z"⟩
abbrev cX10_valueAt : ByteArray := prog_1_method_48_code
def yX10_valueAt : MethodName := ⟨RX10, "valueAt", "([II)I"⟩
abbrev cX10_put : ByteArray := prog_1_method_49_code
def yX10_put : MethodName := ⟨RX10, "put", "([III)V"⟩
abbrev cX10_copyRow : ByteArray := prog_1_method_50_code
def yX10_copyRow : MethodName := ⟨RX10, "copyRow", "([I[I)V"⟩
abbrev cX10_clearRow : ByteArray := prog_1_method_51_code
def yX10_clearRow : MethodName := ⟨RX10, "clearRow", "([I)V"⟩
abbrev cX10_roadNumber : ByteArray := prog_1_method_52_code
def yX10_roadNumber : MethodName := ⟨RX10, "roadNumber", "(II)I"⟩
abbrev cX10_guessedFor : ByteArray := prog_1_method_53_code
def yX10_guessedFor : MethodName := ⟨RX10, "guessedFor", "(III)I"⟩
abbrev cX10_greatestDivisor : ByteArray := prog_1_method_54_code
def yX10_greatestDivisor : MethodName := ⟨RX10, "greatestDivisor", "(JJ)J"⟩
def RX11 : String := "OddShoesModel"
def TX11 : u_T := fun k => match k with
  | 0 => ("OddShoesModel", "towns", "I", false)
  | 1 => ("OddShoesModel", "miles", "[I", true)
  | 2 => ("OddShoesModel", "rules", "[I", true)
  | 3 => ("OddShoesModel", "trod", "[I", true)
  | 4 => ("OddShoesModel", "side", "[I", true)
  | 5 => ("OddShoesModel", "price", "[I", true)
  | 6 => ("OddShoesModel", "stocks", "[I", true)
  | 7 => ("OddShoesModel", "toll", "I", false)
  | 8 => ("OddShoesModel", "apart", "I", false)
  | 9 => ("OddShoesModel", "there", "I", false)
  | 10 => ("OddShoesModel", "home", "[I", true)
  | 11 => ("OddShoesModel", "foot", "[I", true)
  | 12 => ("OddShoesModel", "purse", "[I", true)
  | 13 => ("OddShoesModel", "place", "[I", true)
  | 14 => ("OddShoesModel", "shoes", "[I", true)
  | 15 => ("OddShoesModel", "wear", "[I", true)
  | 16 => ("OddShoesModel", "walked", "[I", true)
  | 17 => ("OddShoesModel", "sights", "I", false)
  | 18 => ("OddShoesModel", "sight", "[I", true)
  | 19 => ("OddShoesModel", "signs", "I", false)
  | 20 => ("OddShoesModel", "pad", "[I", true)
  | 21 => ("OddShoesModel", "purseNow", "[I", true)
  | 22 => ("OddShoesModel", "placeNow", "[I", true)
  | 23 => ("OddShoesModel", "shoesNow", "[I", true)
  | 24 => ("OddShoesModel", "wearNow", "[I", true)
  | 25 => ("OddShoesModel", "walkedNow", "[I", true)
  | 26 => ("OddShoesModel", "stockNow", "[I", true)
  | 27 => ("OddShoesModel", "trodNow", "[I", true)
  | 28 => ("OddShoesModel", "reason", "I", false)
  | 29 => ("OddShoesModel", "gaveStep", "I", false)
  | 30 => ("OddShoesModel", "gaveWho", "I", false)
  | 31 => ("OddShoesModel", "gaveSide", "I", false)
  | 32 => ("OddShoesModel", "far", "[I", true)
  | 33 => ("OddShoesModel", "left", "[I", true)
  | 34 => ("OddShoesModel", "shodCost", "I", false)
  | 35 => ("OddShoesModel", "shodMiles", "I", false)
  | 36 => ("OddShoesModel", "shodFirst", "I", false)
  | 37 => ("OddShoesModel", "shodSecond", "I", false)
  | 38 => ("OddShoesModel", "row", "[I", true)
  | 39 => ("OddShoesModel", "bestRow", "[I", true)
  | 40 => ("OddShoesModel", "image", "[I", true)
  | _ => ("OddShoesModel", "isKept", "[Z", true)
def tyX11 : Nat → FieldType := fun k => match k with
  | 0 => .int
  | 1 => .array .int
  | 2 => .array .int
  | 3 => .array .int
  | 4 => .array .int
  | 5 => .array .int
  | 6 => .array .int
  | 7 => .int
  | 8 => .int
  | 9 => .int
  | 10 => .array .int
  | 11 => .array .int
  | 12 => .array .int
  | 13 => .array .int
  | 14 => .array .int
  | 15 => .array .int
  | 16 => .array .int
  | 17 => .int
  | 18 => .array .int
  | 19 => .int
  | 20 => .array .int
  | 21 => .array .int
  | 22 => .array .int
  | 23 => .array .int
  | 24 => .array .int
  | 25 => .array .int
  | 26 => .array .int
  | 27 => .array .int
  | 28 => .int
  | 29 => .int
  | 30 => .int
  | 31 => .int
  | 32 => .array .int
  | 33 => .array .int
  | 34 => .int
  | 35 => .int
  | 36 => .int
  | 37 => .int
  | 38 => .array .int
  | 39 => .array .int
  | 40 => .array .int
  | _ => .array .boolean
abbrev wsX110 : List Cond := u_ws RX11 TX11 42
theorem nmX11 : ∀ a, a < 42 → ∀ b, b < 42 → a ≠ b → (TX11 a).2.1 ≠ (TX11 b).2.1 := by decide +kernel
theorem tyX11_ok : ∀ k, k < 42 → parseFieldDescriptor (TX11 k).2.2.1 = some (tyX11 k) := by decide +kernel
abbrev cX11_init : ByteArray := prog_13_method_1_code
def yX11_init : MethodName := ⟨RX11, "<init>", "()V"⟩
abbrev cX11_in : ByteArray := prog_13_method_2_code
def yX11_in : MethodName := ⟨RX11, "in", "(III)Z"⟩
abbrev cX11_has : ByteArray := prog_13_method_3_code
def yX11_has : MethodName := ⟨RX11, "has", "(II)Z"⟩
abbrev cX11_isTown : ByteArray := prog_13_method_4_code
def yX11_isTown : MethodName := ⟨RX11, "isTown", "(I)Z"⟩
abbrev cX11_isThere : ByteArray := prog_13_method_5_code
def yX11_isThere : MethodName := ⟨RX11, "isThere", "(I)Z"⟩
abbrev cX11_bits : ByteArray := prog_13_method_6_code
def yX11_bits : MethodName := ⟨RX11, "bits", "(I)I"⟩
abbrev cX11_towns : ByteArray := prog_13_method_7_code
def yX11_towns : MethodName := ⟨RX11, "towns", "(I)I"⟩
abbrev cX11_road : ByteArray := prog_13_method_8_code
def yX11_road : MethodName := ⟨RX11, "road", "(IIII)I"⟩
abbrev cX11_shop : ByteArray := prog_13_method_9_code
def yX11_shop : MethodName := ⟨RX11, "shop", "(III)I"⟩
abbrev cX11_stock : ByteArray := prog_13_method_10_code
def yX11_stock : MethodName := ⟨RX11, "stock", "(III)I"⟩
abbrev cX11_people : ByteArray := prog_13_method_11_code
def yX11_people : MethodName := ⟨RX11, "people", "()I"⟩
abbrev cX11_person : ByteArray := prog_13_method_12_code
def yX11_person : MethodName := ⟨RX11, "person", "(IIIII)I"⟩
abbrev cX11_leave : ByteArray := prog_13_method_13_code
def yX11_leave : MethodName := ⟨RX11, "leave", "(I)I"⟩
abbrev cX11_set : ByteArray := prog_13_method_14_code
def yX11_set : MethodName := ⟨RX11, "set", "(II)I"⟩
abbrev cX11_say : ByteArray := prog_13_method_15_code
def yX11_say : MethodName := ⟨RX11, "say", "(I)I"⟩
abbrev cX11_wipe : ByteArray := prog_13_method_16_code
def yX11_wipe : MethodName := ⟨RX11, "wipe", "()I"⟩
abbrev cX11_faultOf : ByteArray := prog_13_method_17_code
def yX11_faultOf : MethodName := ⟨RX11, "faultOf", "()I"⟩
abbrev cX11_fault : ByteArray := prog_13_method_18_code
def yX11_fault : MethodName := ⟨RX11, "fault", "()I"⟩
abbrev cX11_opens : ByteArray := prog_13_method_19_code
def yX11_opens : MethodName := ⟨RX11, "opens", "()I"⟩
abbrev cX11_asNow : ByteArray := prog_13_method_20_code
def yX11_asNow : MethodName := ⟨RX11, "asNow", "()V"⟩
abbrev cX11_doesLimp : ByteArray := prog_13_method_21_code
def yX11_doesLimp : MethodName := ⟨RX11, "doesLimp", "(III)Z"⟩
abbrev cX11_limpsNow : ByteArray := prog_13_method_22_code
def yX11_limpsNow : MethodName := ⟨RX11, "limpsNow", "(I)Z"⟩
abbrev cX11_mayWalk : ByteArray := prog_13_method_23_code
def yX11_mayWalk : MethodName := ⟨RX11, "mayWalk", "(IIZ)Z"⟩
abbrev cX11_whyNotWalk : ByteArray := prog_13_method_24_code
def yX11_whyNotWalk : MethodName := ⟨RX11, "whyNotWalk", "(II)I"⟩
abbrev cX11_whyNotBuy : ByteArray := prog_13_method_25_code
def yX11_whyNotBuy : MethodName := ⟨RX11, "whyNotBuy", "(I)I"⟩
abbrev cX11_walk : ByteArray := prog_13_method_26_code
def yX11_walk : MethodName := ⟨RX11, "walk", "(II)V"⟩
abbrev cX11_buy : ByteArray := prog_13_method_27_code
def yX11_buy : MethodName := ⟨RX11, "buy", "(I)V"⟩
abbrev cX11_goDay : ByteArray := prog_13_method_28_code
def yX11_goDay : MethodName := ⟨RX11, "goDay", "(II)I"⟩
abbrev cX11_judge : ByteArray := prog_13_method_29_code
def yX11_judge : MethodName := ⟨RX11, "judge", "(I)I"⟩
abbrev cX11_barOfDay : ByteArray := prog_13_method_30_code
def yX11_barOfDay : MethodName := ⟨RX11, "barOfDay", "(I)I"⟩
abbrev cX11_done : ByteArray := prog_13_method_31_code
def yX11_done : MethodName := ⟨RX11, "done", "()I"⟩
abbrev cX11_stateNow : ByteArray := prog_13_method_32_code
def yX11_stateNow : MethodName := ⟨RX11, "stateNow", "(II)I"⟩
abbrev cX11_state : ByteArray := prog_13_method_33_code
def yX11_state : MethodName := ⟨RX11, "state", "(II)I"⟩
abbrev cX11_behind : ByteArray := prog_13_method_34_code
def yX11_behind : MethodName := ⟨RX11, "behind", "(II)I"⟩
abbrev cX11_trodden : ByteArray := prog_13_method_35_code
def yX11_trodden : MethodName := ⟨RX11, "trodden", "(III)I"⟩
abbrev cX11_givesOut : ByteArray := prog_13_method_36_code
def yX11_givesOut : MethodName := ⟨RX11, "givesOut", "(II)I"⟩
abbrev cX11_layFar : ByteArray := prog_13_method_37_code
def yX11_layFar : MethodName := ⟨RX11, "layFar", "()V"⟩
abbrev cX11_farOf : ByteArray := prog_13_method_38_code
def yX11_farOf : MethodName := ⟨RX11, "farOf", "(IIZ)I"⟩
abbrev cX11_far : ByteArray := prog_13_method_39_code
def yX11_far : MethodName := ⟨RX11, "far", "(III)I"⟩
abbrev cX11_way : ByteArray := prog_13_method_40_code
def yX11_way : MethodName := ⟨RX11, "way", "(III)I"⟩
abbrev cX11_sells : ByteArray := prog_13_method_41_code
def yX11_sells : MethodName := ⟨RX11, "sells", "(IIII)Z"⟩
abbrev cX11_offer : ByteArray := prog_13_method_42_code
def yX11_offer : MethodName := ⟨RX11, "offer", "(IIIII)V"⟩
abbrev cX11_sum : ByteArray := prog_13_method_43_code
def yX11_sum : MethodName := ⟨RX11, "sum", "(II)I"⟩
abbrev cX11_layShod : ByteArray := prog_13_method_44_code
def yX11_layShod : MethodName := ⟨RX11, "layShod", "(II)V"⟩
abbrev cX11_second : ByteArray := prog_13_method_45_code
def yX11_second : MethodName := ⟨RX11, "second", "(IIIII)V"⟩
abbrev cX11_shod : ByteArray := prog_13_method_46_code
def yX11_shod : MethodName := ⟨RX11, "shod", "(II)I"⟩
abbrev cX11_nextRow : ByteArray := prog_13_method_47_code
def yX11_nextRow : MethodName := ⟨RX11, "nextRow", "(I)Z"⟩
abbrev cX11_change : ByteArray := prog_13_method_48_code
def yX11_change : MethodName := ⟨RX11, "change", "(II)V"⟩
abbrev cX11_round : ByteArray := prog_13_method_49_code
def yX11_round : MethodName := ⟨RX11, "round", "(III)I"⟩
abbrev cX11_together : ByteArray := prog_13_method_50_code
def yX11_together : MethodName := ⟨RX11, "together", "(IIII)I"⟩
abbrev cX11_come : ByteArray := prog_13_method_51_code
def yX11_come : MethodName := ⟨RX11, "come", "(II)I"⟩
abbrev cX11_parted : ByteArray := prog_13_method_52_code
def yX11_parted : MethodName := ⟨RX11, "parted", "(III)I"⟩
abbrev cX11_pairs : ByteArray := prog_13_method_53_code
def yX11_pairs : MethodName := ⟨RX11, "pairs", "(IIII)I"⟩
abbrev cX11_buyers : ByteArray := prog_13_method_54_code
def yX11_buyers : MethodName := ⟨RX11, "buyers", "(I)I"⟩
abbrev cX11_rest : ByteArray := prog_13_method_55_code
def yX11_rest : MethodName := ⟨RX11, "rest", "(II)Z"⟩
abbrev cX11_rests : ByteArray := prog_13_method_56_code
def yX11_rests : MethodName := ⟨RX11, "rests", "(I)I"⟩
abbrev cX11_owner : ByteArray := prog_13_method_57_code
def yX11_owner : MethodName := ⟨RX11, "owner", "(I)I"⟩
abbrev cX11_isPrint : ByteArray := prog_13_method_58_code
def yX11_isPrint : MethodName := ⟨RX11, "isPrint", "(III)Z"⟩
abbrev cX11_track : ByteArray := prog_13_method_59_code
def yX11_track : MethodName := ⟨RX11, "track", "(III)I"⟩
abbrev cX11_seen : ByteArray := prog_13_method_60_code
def yX11_seen : MethodName := ⟨RX11, "seen", "(II)I"⟩
abbrev cX11_forget : ByteArray := prog_13_method_61_code
def yX11_forget : MethodName := ⟨RX11, "forget", "()I"⟩
abbrev cX11_filled : ByteArray := prog_13_method_62_code
def yX11_filled : MethodName := ⟨RX11, "filled", "(I)I"⟩
abbrev cX11_spy : ByteArray := prog_13_method_63_code
def yX11_spy : MethodName := ⟨RX11, "spy", "(I)I"⟩
abbrev cX11_power : ByteArray := prog_13_method_64_code
def yX11_power : MethodName := ⟨RX11, "power", "(JI)J"⟩
abbrev cX11_shut : ByteArray := prog_13_method_65_code
def yX11_shut : MethodName := ⟨RX11, "shut", "(III)J"⟩
abbrev cX11_year : ByteArray := prog_13_method_66_code
def yX11_year : MethodName := ⟨RX11, "year", "(III)I"⟩
abbrev cX11_image : ByteArray := prog_13_method_67_code
def yX11_image : MethodName := ⟨RX11, "image", "(I)I"⟩
abbrev cX11_restore : ByteArray := prog_13_method_68_code
def yX11_restore : MethodName := ⟨RX11, "restore", "(I)I"⟩
abbrev cX11_told : ByteArray := prog_13_method_69_code
def yX11_told : MethodName := ⟨RX11, "told", "(I)I"⟩
def RJ6 : String := "java/lang/Integer"
def TJ6 : u_T := fun k => match k with
  | _ => ("", "", "", false)
def tyJ6 : Nat → FieldType := fun k => match k with
  | _ => .int
abbrev wsJ60 : List Cond := u_ws RJ6 TJ6 0
theorem nmJ6 : ∀ a, a < 0 → ∀ b, b < 0 → a ≠ b → (TJ6 a).2.1 ≠ (TJ6 b).2.1 := by decide +kernel
theorem tyJ6_ok : ∀ k, k < 0 → parseFieldDescriptor (TJ6 k).2.2.1 = some (tyJ6 k) := by decide +kernel
abbrev cJ6_bitCount_0f7a4 : ByteArray := prog_14_method_49_code
def yJ6_bitCount_0f7a4 : MethodName := ⟨RJ6, "bitCount", "(I)I"⟩
def RJ9 : String := "java/lang/Math"
def TJ9 : u_T := fun k => match k with
  | _ => ("", "", "", false)
def tyJ9 : Nat → FieldType := fun k => match k with
  | _ => .int
abbrev wsJ90 : List Cond := u_ws RJ9 TJ9 0
theorem nmJ9 : ∀ a, a < 0 → ∀ b, b < 0 → a ≠ b → (TJ9 a).2.1 ≠ (TJ9 b).2.1 := by decide +kernel
theorem tyJ9_ok : ∀ k, k < 0 → parseFieldDescriptor (TJ9 k).2.2.1 = some (tyJ9 k) := by decide +kernel
abbrev cJ9_abs_0f7a4 : ByteArray := prog_15_method_59_code
def yJ9_abs_0f7a4 : MethodName := ⟨RJ9, "abs", "(I)I"⟩
abbrev cJ9_max_7cf53 : ByteArray := prog_15_method_65_code
def yJ9_max_7cf53 : MethodName := ⟨RJ9, "max", "(II)I"⟩
abbrev cJ9_min_7cf53 : ByteArray := prog_15_method_69_code
def yJ9_min_7cf53 : MethodName := ⟨RJ9, "min", "(II)I"⟩
def RL : String := "OddShoesLaw"
abbrev cL_law : ByteArray := code
def yL_law : MethodName := ⟨RL, "law", "([I)Z"⟩
abbrev vwCl : List vw_C := [(RX0, TX0, 1), (RX1, TX1, 8), (RX2, TX2, 2), (RX3, TX3, 6), (RX4, TX4, 3), (RX5, TX5, 2), (RX6, TX6, 11), (RX7, TX7, 4), (RX8, TX8, 14), (RX9, TX9, 1), (RX10, TX10, 11), (RX11, TX11, 42)]
