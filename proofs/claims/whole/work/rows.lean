section
-- ===== PART A: goes FIRST, ahead of the names: the tables' words, and 'selects' of the private methods out of them =====
/-- a private method of a class that the tables say can be made, by its rows of tables_1 -/
def lw_okq (q : MethodName × Nat) : Prop := (q.1.cls ≠ "java/lang/invoke/MethodHandle" ∧ q.1.cls ≠ "java/lang/invoke/VarHandle") ∧ Cond.instantiable q.1.cls q.2 ∈ tables_1 ∧ Cond.privateMethod q.1 ∈ tables_1 ∧ Cond.instanceMethod q.1 ∈ tables_1
theorem lw_p0 : lw_okq (⟨"CarouselMount$Edition", "arrange", "(LCarouselMount$Tree;)V"⟩, 10) := ⟨⟨by decide +kernel, by decide +kernel⟩, List.mem_of_getElem? (i := 47) (by decide +kernel), List.mem_of_getElem? (i := 275) (by decide +kernel), List.mem_of_getElem? (i := 276) (by decide +kernel)⟩
theorem lw_p1 : lw_okq (⟨"CarouselMount$Edition", "assignModules", "(LCarouselMount$Tree;)I"⟩, 10) := ⟨⟨by decide +kernel, by decide +kernel⟩, List.mem_of_getElem? (i := 47) (by decide +kernel), List.mem_of_getElem? (i := 287) (by decide +kernel), List.mem_of_getElem? (i := 288) (by decide +kernel)⟩
theorem lw_p2 : lw_okq (⟨"CarouselMount$Edition", "draftModule", "(LCarouselMount$Tree;I)V"⟩, 10) := ⟨⟨by decide +kernel, by decide +kernel⟩, List.mem_of_getElem? (i := 47) (by decide +kernel), List.mem_of_getElem? (i := 297) (by decide +kernel), List.mem_of_getElem? (i := 298) (by decide +kernel)⟩
theorem lw_p3 : lw_okq (⟨"CarouselMount$Edition", "draftMessage", "(LCarouselMount$Tree;I)V"⟩, 10) := ⟨⟨by decide +kernel, by decide +kernel⟩, List.mem_of_getElem? (i := 47) (by decide +kernel), List.mem_of_getElem? (i := 301) (by decide +kernel), List.mem_of_getElem? (i := 302) (by decide +kernel)⟩
theorem lw_p4 : lw_okq (⟨"CarouselMount$Edition", "write", "(I)V"⟩, 10) := ⟨⟨by decide +kernel, by decide +kernel⟩, List.mem_of_getElem? (i := 47) (by decide +kernel), List.mem_of_getElem? (i := 309) (by decide +kernel), List.mem_of_getElem? (i := 310) (by decide +kernel)⟩
theorem lw_p5 : lw_okq (⟨"CarouselMount$Edition", "draftEntries", "(LCarouselMount$Tree;I)V"⟩, 10) := ⟨⟨by decide +kernel, by decide +kernel⟩, List.mem_of_getElem? (i := 47) (by decide +kernel), List.mem_of_getElem? (i := 319) (by decide +kernel), List.mem_of_getElem? (i := 320) (by decide +kernel)⟩
theorem lw_p6 : lw_okq (⟨"CarouselMount$Edition", "keepDraft", "(I)V"⟩, 10) := ⟨⟨by decide +kernel, by decide +kernel⟩, List.mem_of_getElem? (i := 47) (by decide +kernel), List.mem_of_getElem? (i := 328) (by decide +kernel), List.mem_of_getElem? (i := 329) (by decide +kernel)⟩
theorem lw_p7 : lw_okq (⟨"CarouselMount$Edition", "draftEquals", "(I)Z"⟩, 10) := ⟨⟨by decide +kernel, by decide +kernel⟩, List.mem_of_getElem? (i := 47) (by decide +kernel), List.mem_of_getElem? (i := 332) (by decide +kernel), List.mem_of_getElem? (i := 333) (by decide +kernel)⟩
theorem lw_p8 : lw_okq (⟨"CarouselMount$Cycle", "addList", "(LCarouselMount$Edition;)V"⟩, 4) := ⟨⟨by decide +kernel, by decide +kernel⟩, List.mem_of_getElem? (i := 98) (by decide +kernel), List.mem_of_getElem? (i := 351) (by decide +kernel), List.mem_of_getElem? (i := 352) (by decide +kernel)⟩
theorem lw_p9 : lw_okq (⟨"CarouselMount$Cycle", "begin", "(II)V"⟩, 4) := ⟨⟨by decide +kernel, by decide +kernel⟩, List.mem_of_getElem? (i := 98) (by decide +kernel), List.mem_of_getElem? (i := 355) (by decide +kernel), List.mem_of_getElem? (i := 356) (by decide +kernel)⟩
theorem lw_p10 : lw_okq (⟨"CarouselMount$Cycle", "write", "(I)V"⟩, 4) := ⟨⟨by decide +kernel, by decide +kernel⟩, List.mem_of_getElem? (i := 98) (by decide +kernel), List.mem_of_getElem? (i := 359) (by decide +kernel), List.mem_of_getElem? (i := 360) (by decide +kernel)⟩
theorem lw_p11 : lw_okq (⟨"CarouselMount$Cycle", "writePair", "(I)V"⟩, 4) := ⟨⟨by decide +kernel, by decide +kernel⟩, List.mem_of_getElem? (i := 98) (by decide +kernel), List.mem_of_getElem? (i := 363) (by decide +kernel), List.mem_of_getElem? (i := 364) (by decide +kernel)⟩
theorem lw_p12 : lw_okq (⟨"CarouselMount$Cycle", "writeCheck", "()V"⟩, 4) := ⟨⟨by decide +kernel, by decide +kernel⟩, List.mem_of_getElem? (i := 98) (by decide +kernel), List.mem_of_getElem? (i := 367) (by decide +kernel), List.mem_of_getElem? (i := 368) (by decide +kernel)⟩
theorem lw_p13 : lw_okq (⟨"CarouselMount$Cycle", "addBlock", "(LCarouselMount$Edition;II)V"⟩, 4) := ⟨⟨by decide +kernel, by decide +kernel⟩, List.mem_of_getElem? (i := 98) (by decide +kernel), List.mem_of_getElem? (i := 378) (by decide +kernel), List.mem_of_getElem? (i := 379) (by decide +kernel)⟩
theorem lw_p14 : lw_okq (⟨"CarouselMount$Sender", "prepare", "()V"⟩, 5) := ⟨⟨by decide +kernel, by decide +kernel⟩, List.mem_of_getElem? (i := 92) (by decide +kernel), List.mem_of_getElem? (i := 386) (by decide +kernel), List.mem_of_getElem? (i := 387) (by decide +kernel)⟩
theorem lw_p15 : lw_okq (⟨"CarouselMount$Sender", "load", "(II)V"⟩, 5) := ⟨⟨by decide +kernel, by decide +kernel⟩, List.mem_of_getElem? (i := 92) (by decide +kernel), List.mem_of_getElem? (i := 394) (by decide +kernel), List.mem_of_getElem? (i := 395) (by decide +kernel)⟩
def lw_privs_1 : List (MethodName × Nat) := [(⟨"CarouselMount$Edition", "arrange", "(LCarouselMount$Tree;)V"⟩, 10), (⟨"CarouselMount$Edition", "assignModules", "(LCarouselMount$Tree;)I"⟩, 10), (⟨"CarouselMount$Edition", "draftModule", "(LCarouselMount$Tree;I)V"⟩, 10), (⟨"CarouselMount$Edition", "draftMessage", "(LCarouselMount$Tree;I)V"⟩, 10), (⟨"CarouselMount$Edition", "write", "(I)V"⟩, 10), (⟨"CarouselMount$Edition", "draftEntries", "(LCarouselMount$Tree;I)V"⟩, 10), (⟨"CarouselMount$Edition", "keepDraft", "(I)V"⟩, 10), (⟨"CarouselMount$Edition", "draftEquals", "(I)Z"⟩, 10), (⟨"CarouselMount$Cycle", "addList", "(LCarouselMount$Edition;)V"⟩, 4), (⟨"CarouselMount$Cycle", "begin", "(II)V"⟩, 4), (⟨"CarouselMount$Cycle", "write", "(I)V"⟩, 4), (⟨"CarouselMount$Cycle", "writePair", "(I)V"⟩, 4), (⟨"CarouselMount$Cycle", "writeCheck", "()V"⟩, 4), (⟨"CarouselMount$Cycle", "addBlock", "(LCarouselMount$Edition;II)V"⟩, 4), (⟨"CarouselMount$Sender", "prepare", "()V"⟩, 5), (⟨"CarouselMount$Sender", "load", "(II)V"⟩, 5)]
theorem lw_r1 : ∀ q ∈ lw_privs_1, lw_okq q := List.forall_mem_cons.mpr ⟨lw_p0, List.forall_mem_cons.mpr ⟨lw_p1, List.forall_mem_cons.mpr ⟨lw_p2, List.forall_mem_cons.mpr ⟨lw_p3, List.forall_mem_cons.mpr ⟨lw_p4, List.forall_mem_cons.mpr ⟨lw_p5, List.forall_mem_cons.mpr ⟨lw_p6, List.forall_mem_cons.mpr ⟨lw_p7, List.forall_mem_cons.mpr ⟨lw_p8, List.forall_mem_cons.mpr ⟨lw_p9, List.forall_mem_cons.mpr ⟨lw_p10, List.forall_mem_cons.mpr ⟨lw_p11, List.forall_mem_cons.mpr ⟨lw_p12, List.forall_mem_cons.mpr ⟨lw_p13, List.forall_mem_cons.mpr ⟨lw_p14, List.forall_mem_cons.mpr ⟨lw_p15, fun _ h => absurd h List.not_mem_nil⟩⟩⟩⟩⟩⟩⟩⟩⟩⟩⟩⟩⟩⟩⟩⟩
theorem lw_p16 : lw_okq (⟨"CarouselMount$Receiver", "throwAway", "()V"⟩, 5) := ⟨⟨by decide +kernel, by decide +kernel⟩, List.mem_of_getElem? (i := 136) (by decide +kernel), List.mem_of_getElem? (i := 423) (by decide +kernel), List.mem_of_getElem? (i := 424) (by decide +kernel)⟩
theorem lw_p17 : lw_okq (⟨"CarouselMount$Receiver", "continueSection", "([III)V"⟩, 5) := ⟨⟨by decide +kernel, by decide +kernel⟩, List.mem_of_getElem? (i := 136) (by decide +kernel), List.mem_of_getElem? (i := 427) (by decide +kernel), List.mem_of_getElem? (i := 428) (by decide +kernel)⟩
theorem lw_p18 : lw_okq (⟨"CarouselMount$Receiver", "collect", "(I)V"⟩, 5) := ⟨⟨by decide +kernel, by decide +kernel⟩, List.mem_of_getElem? (i := 136) (by decide +kernel), List.mem_of_getElem? (i := 431) (by decide +kernel), List.mem_of_getElem? (i := 432) (by decide +kernel)⟩
theorem lw_p19 : lw_okq (⟨"CarouselMount$Receiver", "judge", "(I)I"⟩, 5) := ⟨⟨by decide +kernel, by decide +kernel⟩, List.mem_of_getElem? (i := 136) (by decide +kernel), List.mem_of_getElem? (i := 435) (by decide +kernel), List.mem_of_getElem? (i := 436) (by decide +kernel)⟩
theorem lw_p20 : lw_okq (⟨"CarouselMount$Receiver", "hasCheckDue", "(I)Z"⟩, 5) := ⟨⟨by decide +kernel, by decide +kernel⟩, List.mem_of_getElem? (i := 136) (by decide +kernel), List.mem_of_getElem? (i := 439) (by decide +kernel), List.mem_of_getElem? (i := 440) (by decide +kernel)⟩
theorem lw_p21 : lw_okq (⟨"CarouselMount$Receiver", "isList", "(I)Z"⟩, 5) := ⟨⟨by decide +kernel, by decide +kernel⟩, List.mem_of_getElem? (i := 136) (by decide +kernel), List.mem_of_getElem? (i := 447) (by decide +kernel), List.mem_of_getElem? (i := 448) (by decide +kernel)⟩
theorem lw_p22 : lw_okq (⟨"CarouselMount$Mount", "relist", "(III)V"⟩, 6) := ⟨⟨by decide +kernel, by decide +kernel⟩, List.mem_of_getElem? (i := 142) (by decide +kernel), List.mem_of_getElem? (i := 456) (by decide +kernel), List.mem_of_getElem? (i := 457) (by decide +kernel)⟩
theorem lw_p23 : lw_okq (⟨"CarouselMount$Receiver", "isBlock", "(I)Z"⟩, 5) := ⟨⟨by decide +kernel, by decide +kernel⟩, List.mem_of_getElem? (i := 136) (by decide +kernel), List.mem_of_getElem? (i := 460) (by decide +kernel), List.mem_of_getElem? (i := 461) (by decide +kernel)⟩
theorem lw_p24 : lw_okq (⟨"CarouselMount$Receiver", "beginSections", "([II)V"⟩, 5) := ⟨⟨by decide +kernel, by decide +kernel⟩, List.mem_of_getElem? (i := 136) (by decide +kernel), List.mem_of_getElem? (i := 475) (by decide +kernel), List.mem_of_getElem? (i := 476) (by decide +kernel)⟩
theorem lw_p25 : lw_okq (⟨"CarouselMount", "follow", "(III)I"⟩, 4) := ⟨⟨by decide +kernel, by decide +kernel⟩, List.mem_of_getElem? (i := 13) (by decide +kernel), List.mem_of_getElem? (i := 531) (by decide +kernel), List.mem_of_getElem? (i := 532) (by decide +kernel)⟩
theorem lw_p26 : lw_okq (⟨"CarouselMount$Mount", "obstacle", "(I)I"⟩, 6) := ⟨⟨by decide +kernel, by decide +kernel⟩, List.mem_of_getElem? (i := 142) (by decide +kernel), List.mem_of_getElem? (i := 539) (by decide +kernel), List.mem_of_getElem? (i := 540) (by decide +kernel)⟩
theorem lw_p27 : lw_okq (⟨"CarouselMount$Mount", "fits", "(II)Z"⟩, 6) := ⟨⟨by decide +kernel, by decide +kernel⟩, List.mem_of_getElem? (i := 142) (by decide +kernel), List.mem_of_getElem? (i := 544) (by decide +kernel), List.mem_of_getElem? (i := 545) (by decide +kernel)⟩
theorem lw_p28 : lw_okq (⟨"CarouselMount$Mount", "messageWithKey", "(II)I"⟩, 6) := ⟨⟨by decide +kernel, by decide +kernel⟩, List.mem_of_getElem? (i := 142) (by decide +kernel), List.mem_of_getElem? (i := 564) (by decide +kernel), List.mem_of_getElem? (i := 565) (by decide +kernel)⟩
theorem lw_p29 : lw_okq (⟨"CarouselMountModel", "after", "(II)I"⟩, 33) := ⟨⟨by decide +kernel, by decide +kernel⟩, List.mem_of_getElem? (i := 583) (by decide +kernel), List.mem_of_getElem? (i := 697) (by decide +kernel), List.mem_of_getElem? (i := 698) (by decide +kernel)⟩
theorem lw_p30 : lw_okq (⟨"CarouselMountModel", "keepOld", "()V"⟩, 33) := ⟨⟨by decide +kernel, by decide +kernel⟩, List.mem_of_getElem? (i := 583) (by decide +kernel), List.mem_of_getElem? (i := 717) (by decide +kernel), List.mem_of_getElem? (i := 718) (by decide +kernel)⟩
theorem lw_p31 : lw_okq (⟨"CarouselMountModel", "payload", "(I)I"⟩, 33) := ⟨⟨by decide +kernel, by decide +kernel⟩, List.mem_of_getElem? (i := 583) (by decide +kernel), List.mem_of_getElem? (i := 721) (by decide +kernel), List.mem_of_getElem? (i := 722) (by decide +kernel)⟩
def lw_privs_2 : List (MethodName × Nat) := [(⟨"CarouselMount$Receiver", "throwAway", "()V"⟩, 5), (⟨"CarouselMount$Receiver", "continueSection", "([III)V"⟩, 5), (⟨"CarouselMount$Receiver", "collect", "(I)V"⟩, 5), (⟨"CarouselMount$Receiver", "judge", "(I)I"⟩, 5), (⟨"CarouselMount$Receiver", "hasCheckDue", "(I)Z"⟩, 5), (⟨"CarouselMount$Receiver", "isList", "(I)Z"⟩, 5), (⟨"CarouselMount$Mount", "relist", "(III)V"⟩, 6), (⟨"CarouselMount$Receiver", "isBlock", "(I)Z"⟩, 5), (⟨"CarouselMount$Receiver", "beginSections", "([II)V"⟩, 5), (⟨"CarouselMount", "follow", "(III)I"⟩, 4), (⟨"CarouselMount$Mount", "obstacle", "(I)I"⟩, 6), (⟨"CarouselMount$Mount", "fits", "(II)Z"⟩, 6), (⟨"CarouselMount$Mount", "messageWithKey", "(II)I"⟩, 6), (⟨"CarouselMountModel", "after", "(II)I"⟩, 33), (⟨"CarouselMountModel", "keepOld", "()V"⟩, 33), (⟨"CarouselMountModel", "payload", "(I)I"⟩, 33)]
theorem lw_r2 : ∀ q ∈ lw_privs_2, lw_okq q := List.forall_mem_cons.mpr ⟨lw_p16, List.forall_mem_cons.mpr ⟨lw_p17, List.forall_mem_cons.mpr ⟨lw_p18, List.forall_mem_cons.mpr ⟨lw_p19, List.forall_mem_cons.mpr ⟨lw_p20, List.forall_mem_cons.mpr ⟨lw_p21, List.forall_mem_cons.mpr ⟨lw_p22, List.forall_mem_cons.mpr ⟨lw_p23, List.forall_mem_cons.mpr ⟨lw_p24, List.forall_mem_cons.mpr ⟨lw_p25, List.forall_mem_cons.mpr ⟨lw_p26, List.forall_mem_cons.mpr ⟨lw_p27, List.forall_mem_cons.mpr ⟨lw_p28, List.forall_mem_cons.mpr ⟨lw_p29, List.forall_mem_cons.mpr ⟨lw_p30, List.forall_mem_cons.mpr ⟨lw_p31, fun _ h => absurd h List.not_mem_nil⟩⟩⟩⟩⟩⟩⟩⟩⟩⟩⟩⟩⟩⟩⟩⟩
theorem lw_p32 : lw_okq (⟨"CarouselMountModel", "next", "(I)I"⟩, 33) := ⟨⟨by decide +kernel, by decide +kernel⟩, List.mem_of_getElem? (i := 583) (by decide +kernel), List.mem_of_getElem? (i := 725) (by decide +kernel), List.mem_of_getElem? (i := 726) (by decide +kernel)⟩
theorem lw_p33 : lw_okq (⟨"CarouselMountModel", "message", "(I)V"⟩, 33) := ⟨⟨by decide +kernel, by decide +kernel⟩, List.mem_of_getElem? (i := 583) (by decide +kernel), List.mem_of_getElem? (i := 729) (by decide +kernel), List.mem_of_getElem? (i := 730) (by decide +kernel)⟩
theorem lw_p34 : lw_okq (⟨"CarouselMountModel", "put", "(II)V"⟩, 33) := ⟨⟨by decide +kernel, by decide +kernel⟩, List.mem_of_getElem? (i := 583) (by decide +kernel), List.mem_of_getElem? (i := 733) (by decide +kernel), List.mem_of_getElem? (i := 734) (by decide +kernel)⟩
theorem lw_p35 : lw_okq (⟨"CarouselMountModel", "unchanged", "(I)Z"⟩, 33) := ⟨⟨by decide +kernel, by decide +kernel⟩, List.mem_of_getElem? (i := 583) (by decide +kernel), List.mem_of_getElem? (i := 737) (by decide +kernel), List.mem_of_getElem? (i := 738) (by decide +kernel)⟩
theorem lw_p36 : lw_okq (⟨"CarouselMountModel", "writeCycle", "()V"⟩, 33) := ⟨⟨by decide +kernel, by decide +kernel⟩, List.mem_of_getElem? (i := 583) (by decide +kernel), List.mem_of_getElem? (i := 741) (by decide +kernel), List.mem_of_getElem? (i := 742) (by decide +kernel)⟩
theorem lw_p37 : lw_okq (⟨"CarouselMountModel", "emit", "(I)V"⟩, 33) := ⟨⟨by decide +kernel, by decide +kernel⟩, List.mem_of_getElem? (i := 583) (by decide +kernel), List.mem_of_getElem? (i := 745) (by decide +kernel), List.mem_of_getElem? (i := 746) (by decide +kernel)⟩
theorem lw_p38 : lw_okq (⟨"CarouselMountModel", "emitPair", "(I)V"⟩, 33) := ⟨⟨by decide +kernel, by decide +kernel⟩, List.mem_of_getElem? (i := 583) (by decide +kernel), List.mem_of_getElem? (i := 753) (by decide +kernel), List.mem_of_getElem? (i := 754) (by decide +kernel)⟩
theorem lw_p39 : lw_okq (⟨"CarouselMountModel", "emitCheck", "()V"⟩, 33) := ⟨⟨by decide +kernel, by decide +kernel⟩, List.mem_of_getElem? (i := 583) (by decide +kernel), List.mem_of_getElem? (i := 757) (by decide +kernel), List.mem_of_getElem? (i := 758) (by decide +kernel)⟩
theorem lw_p40 : lw_okq (⟨"CarouselMountModel", "build", "()I"⟩, 33) := ⟨⟨by decide +kernel, by decide +kernel⟩, List.mem_of_getElem? (i := 583) (by decide +kernel), List.mem_of_getElem? (i := 774) (by decide +kernel), List.mem_of_getElem? (i := 775) (by decide +kernel)⟩
theorem lw_p41 : lw_okq (⟨"CarouselMountModel", "rest", "()I"⟩, 33) := ⟨⟨by decide +kernel, by decide +kernel⟩, List.mem_of_getElem? (i := 583) (by decide +kernel), List.mem_of_getElem? (i := 778) (by decide +kernel), List.mem_of_getElem? (i := 779) (by decide +kernel)⟩
theorem lw_p42 : lw_okq (⟨"CarouselMountModel", "pass", "(IZ)I"⟩, 33) := ⟨⟨by decide +kernel, by decide +kernel⟩, List.mem_of_getElem? (i := 583) (by decide +kernel), List.mem_of_getElem? (i := 786) (by decide +kernel), List.mem_of_getElem? (i := 787) (by decide +kernel)⟩
theorem lw_p43 : lw_okq (⟨"CarouselMountModel", "sent", "()V"⟩, 33) := ⟨⟨by decide +kernel, by decide +kernel⟩, List.mem_of_getElem? (i := 583) (by decide +kernel), List.mem_of_getElem? (i := 790) (by decide +kernel), List.mem_of_getElem? (i := 791) (by decide +kernel)⟩
theorem lw_p44 : lw_okq (⟨"CarouselMountModel", "receive", "()V"⟩, 33) := ⟨⟨by decide +kernel, by decide +kernel⟩, List.mem_of_getElem? (i := 583) (by decide +kernel), List.mem_of_getElem? (i := 794) (by decide +kernel), List.mem_of_getElem? (i := 795) (by decide +kernel)⟩
theorem lw_p45 : lw_okq (⟨"CarouselMountModel", "throwAway", "()V"⟩, 33) := ⟨⟨by decide +kernel, by decide +kernel⟩, List.mem_of_getElem? (i := 583) (by decide +kernel), List.mem_of_getElem? (i := 798) (by decide +kernel), List.mem_of_getElem? (i := 799) (by decide +kernel)⟩
theorem lw_p46 : lw_okq (⟨"CarouselMountModel", "more", "(II)V"⟩, 33) := ⟨⟨by decide +kernel, by decide +kernel⟩, List.mem_of_getElem? (i := 583) (by decide +kernel), List.mem_of_getElem? (i := 802) (by decide +kernel), List.mem_of_getElem? (i := 803) (by decide +kernel)⟩
theorem lw_p47 : lw_okq (⟨"CarouselMountModel", "take", "(I)V"⟩, 33) := ⟨⟨by decide +kernel, by decide +kernel⟩, List.mem_of_getElem? (i := 583) (by decide +kernel), List.mem_of_getElem? (i := 806) (by decide +kernel), List.mem_of_getElem? (i := 807) (by decide +kernel)⟩
def lw_privs_3 : List (MethodName × Nat) := [(⟨"CarouselMountModel", "next", "(I)I"⟩, 33), (⟨"CarouselMountModel", "message", "(I)V"⟩, 33), (⟨"CarouselMountModel", "put", "(II)V"⟩, 33), (⟨"CarouselMountModel", "unchanged", "(I)Z"⟩, 33), (⟨"CarouselMountModel", "writeCycle", "()V"⟩, 33), (⟨"CarouselMountModel", "emit", "(I)V"⟩, 33), (⟨"CarouselMountModel", "emitPair", "(I)V"⟩, 33), (⟨"CarouselMountModel", "emitCheck", "()V"⟩, 33), (⟨"CarouselMountModel", "build", "()I"⟩, 33), (⟨"CarouselMountModel", "rest", "()I"⟩, 33), (⟨"CarouselMountModel", "pass", "(IZ)I"⟩, 33), (⟨"CarouselMountModel", "sent", "()V"⟩, 33), (⟨"CarouselMountModel", "receive", "()V"⟩, 33), (⟨"CarouselMountModel", "throwAway", "()V"⟩, 33), (⟨"CarouselMountModel", "more", "(II)V"⟩, 33), (⟨"CarouselMountModel", "take", "(I)V"⟩, 33)]
theorem lw_r3 : ∀ q ∈ lw_privs_3, lw_okq q := List.forall_mem_cons.mpr ⟨lw_p32, List.forall_mem_cons.mpr ⟨lw_p33, List.forall_mem_cons.mpr ⟨lw_p34, List.forall_mem_cons.mpr ⟨lw_p35, List.forall_mem_cons.mpr ⟨lw_p36, List.forall_mem_cons.mpr ⟨lw_p37, List.forall_mem_cons.mpr ⟨lw_p38, List.forall_mem_cons.mpr ⟨lw_p39, List.forall_mem_cons.mpr ⟨lw_p40, List.forall_mem_cons.mpr ⟨lw_p41, List.forall_mem_cons.mpr ⟨lw_p42, List.forall_mem_cons.mpr ⟨lw_p43, List.forall_mem_cons.mpr ⟨lw_p44, List.forall_mem_cons.mpr ⟨lw_p45, List.forall_mem_cons.mpr ⟨lw_p46, List.forall_mem_cons.mpr ⟨lw_p47, fun _ h => absurd h List.not_mem_nil⟩⟩⟩⟩⟩⟩⟩⟩⟩⟩⟩⟩⟩⟩⟩⟩
theorem lw_p48 : lw_okq (⟨"CarouselMountModel", "look", "()V"⟩, 33) := ⟨⟨by decide +kernel, by decide +kernel⟩, List.mem_of_getElem? (i := 583) (by decide +kernel), List.mem_of_getElem? (i := 810) (by decide +kernel), List.mem_of_getElem? (i := 811) (by decide +kernel)⟩
theorem lw_p49 : lw_okq (⟨"CarouselMountModel", "checks", "()Z"⟩, 33) := ⟨⟨by decide +kernel, by decide +kernel⟩, List.mem_of_getElem? (i := 583) (by decide +kernel), List.mem_of_getElem? (i := 814) (by decide +kernel), List.mem_of_getElem? (i := 815) (by decide +kernel)⟩
theorem lw_p50 : lw_okq (⟨"CarouselMountModel", "isList", "()Z"⟩, 33) := ⟨⟨by decide +kernel, by decide +kernel⟩, List.mem_of_getElem? (i := 583) (by decide +kernel), List.mem_of_getElem? (i := 818) (by decide +kernel), List.mem_of_getElem? (i := 819) (by decide +kernel)⟩
theorem lw_p51 : lw_okq (⟨"CarouselMountModel", "list", "()V"⟩, 33) := ⟨⟨by decide +kernel, by decide +kernel⟩, List.mem_of_getElem? (i := 583) (by decide +kernel), List.mem_of_getElem? (i := 822) (by decide +kernel), List.mem_of_getElem? (i := 823) (by decide +kernel)⟩
theorem lw_p52 : lw_okq (⟨"CarouselMountModel", "pair", "(I)I"⟩, 33) := ⟨⟨by decide +kernel, by decide +kernel⟩, List.mem_of_getElem? (i := 583) (by decide +kernel), List.mem_of_getElem? (i := 826) (by decide +kernel), List.mem_of_getElem? (i := 827) (by decide +kernel)⟩
theorem lw_p53 : lw_okq (⟨"CarouselMountModel", "nothing", "(I)V"⟩, 33) := ⟨⟨by decide +kernel, by decide +kernel⟩, List.mem_of_getElem? (i := 583) (by decide +kernel), List.mem_of_getElem? (i := 830) (by decide +kernel), List.mem_of_getElem? (i := 831) (by decide +kernel)⟩
theorem lw_p54 : lw_okq (⟨"CarouselMountModel", "fits", "()Z"⟩, 33) := ⟨⟨by decide +kernel, by decide +kernel⟩, List.mem_of_getElem? (i := 583) (by decide +kernel), List.mem_of_getElem? (i := 834) (by decide +kernel), List.mem_of_getElem? (i := 835) (by decide +kernel)⟩
theorem lw_p55 : lw_okq (⟨"CarouselMountModel", "block", "()V"⟩, 33) := ⟨⟨by decide +kernel, by decide +kernel⟩, List.mem_of_getElem? (i := 583) (by decide +kernel), List.mem_of_getElem? (i := 838) (by decide +kernel), List.mem_of_getElem? (i := 839) (by decide +kernel)⟩
theorem lw_p56 : lw_okq (⟨"CarouselMountModel", "heldOf", "(I)I"⟩, 33) := ⟨⟨by decide +kernel, by decide +kernel⟩, List.mem_of_getElem? (i := 583) (by decide +kernel), List.mem_of_getElem? (i := 866) (by decide +kernel), List.mem_of_getElem? (i := 867) (by decide +kernel)⟩
theorem lw_p57 : lw_okq (⟨"CarouselMountModel", "follow", "(III)I"⟩, 33) := ⟨⟨by decide +kernel, by decide +kernel⟩, List.mem_of_getElem? (i := 583) (by decide +kernel), List.mem_of_getElem? (i := 874) (by decide +kernel), List.mem_of_getElem? (i := 875) (by decide +kernel)⟩
theorem lw_p58 : lw_okq (⟨"CarouselMountModel", "gateway", "()I"⟩, 33) := ⟨⟨by decide +kernel, by decide +kernel⟩, List.mem_of_getElem? (i := 583) (by decide +kernel), List.mem_of_getElem? (i := 878) (by decide +kernel), List.mem_of_getElem? (i := 879) (by decide +kernel)⟩
theorem lw_p59 : lw_okq (⟨"CarouselMountModel", "ready", "(I)I"⟩, 33) := ⟨⟨by decide +kernel, by decide +kernel⟩, List.mem_of_getElem? (i := 583) (by decide +kernel), List.mem_of_getElem? (i := 882) (by decide +kernel), List.mem_of_getElem? (i := 883) (by decide +kernel)⟩
theorem lw_p60 : lw_okq (⟨"CarouselMountModel", "first", "(II)I"⟩, 33) := ⟨⟨by decide +kernel, by decide +kernel⟩, List.mem_of_getElem? (i := 583) (by decide +kernel), List.mem_of_getElem? (i := 886) (by decide +kernel), List.mem_of_getElem? (i := 887) (by decide +kernel)⟩
theorem lw_p61 : lw_okq (⟨"CarouselMountModel", "stands", "(II)Z"⟩, 33) := ⟨⟨by decide +kernel, by decide +kernel⟩, List.mem_of_getElem? (i := 583) (by decide +kernel), List.mem_of_getElem? (i := 890) (by decide +kernel), List.mem_of_getElem? (i := 891) (by decide +kernel)⟩
theorem lw_p62 : lw_okq (⟨"CarouselMountModel", "enter", "(II)I"⟩, 33) := ⟨⟨by decide +kernel, by decide +kernel⟩, List.mem_of_getElem? (i := 583) (by decide +kernel), List.mem_of_getElem? (i := 894) (by decide +kernel), List.mem_of_getElem? (i := 895) (by decide +kernel)⟩
def lw_privs_4 : List (MethodName × Nat) := [(⟨"CarouselMountModel", "look", "()V"⟩, 33), (⟨"CarouselMountModel", "checks", "()Z"⟩, 33), (⟨"CarouselMountModel", "isList", "()Z"⟩, 33), (⟨"CarouselMountModel", "list", "()V"⟩, 33), (⟨"CarouselMountModel", "pair", "(I)I"⟩, 33), (⟨"CarouselMountModel", "nothing", "(I)V"⟩, 33), (⟨"CarouselMountModel", "fits", "()Z"⟩, 33), (⟨"CarouselMountModel", "block", "()V"⟩, 33), (⟨"CarouselMountModel", "heldOf", "(I)I"⟩, 33), (⟨"CarouselMountModel", "follow", "(III)I"⟩, 33), (⟨"CarouselMountModel", "gateway", "()I"⟩, 33), (⟨"CarouselMountModel", "ready", "(I)I"⟩, 33), (⟨"CarouselMountModel", "first", "(II)I"⟩, 33), (⟨"CarouselMountModel", "stands", "(II)Z"⟩, 33), (⟨"CarouselMountModel", "enter", "(II)I"⟩, 33)]
theorem lw_r4 : ∀ q ∈ lw_privs_4, lw_okq q := List.forall_mem_cons.mpr ⟨lw_p48, List.forall_mem_cons.mpr ⟨lw_p49, List.forall_mem_cons.mpr ⟨lw_p50, List.forall_mem_cons.mpr ⟨lw_p51, List.forall_mem_cons.mpr ⟨lw_p52, List.forall_mem_cons.mpr ⟨lw_p53, List.forall_mem_cons.mpr ⟨lw_p54, List.forall_mem_cons.mpr ⟨lw_p55, List.forall_mem_cons.mpr ⟨lw_p56, List.forall_mem_cons.mpr ⟨lw_p57, List.forall_mem_cons.mpr ⟨lw_p58, List.forall_mem_cons.mpr ⟨lw_p59, List.forall_mem_cons.mpr ⟨lw_p60, List.forall_mem_cons.mpr ⟨lw_p61, List.forall_mem_cons.mpr ⟨lw_p62, fun _ h => absurd h List.not_mem_nil⟩⟩⟩⟩⟩⟩⟩⟩⟩⟩⟩⟩⟩⟩⟩
def lw_privs : List (MethodName × Nat) := lw_privs_1 ++ (lw_privs_2 ++ (lw_privs_3 ++ (lw_privs_4)))
def lw_tbl : List Cond := k2_sels lw_privs ++ tables_1
theorem lw_privs_ok : ∀ q ∈ lw_privs, lw_okq q := by
  show ∀ q ∈ lw_privs_1 ++ (lw_privs_2 ++ (lw_privs_3 ++ (lw_privs_4))), lw_okq q
  exact List.forall_mem_append.mpr ⟨lw_r1, List.forall_mem_append.mpr ⟨lw_r2, List.forall_mem_append.mpr ⟨lw_r3, lw_r4⟩⟩⟩
-- ===== end of PART A; then your names; then what follows =====
end
section
def R_CM : String := "CarouselMount"
def F_CM : u_T := fun k => match k with
  | 0 => ("CarouselMount", "tree", "LCarouselMount$Tree;", true)
  | 1 => ("CarouselMount", "edition", "LCarouselMount$Edition;", true)
  | 2 => ("CarouselMount", "sender", "LCarouselMount$Sender;", true)
  | _ => ("CarouselMount", "receiver", "LCarouselMount$Receiver;", true)
def t_CM : Nat → FieldType := fun k => match k with
  | 0 => .object "CarouselMount$Tree"
  | 1 => .object "CarouselMount$Edition"
  | 2 => .object "CarouselMount$Sender"
  | _ => .object "CarouselMount$Receiver"
theorem n_CM : ∀ a, a < 4 → ∀ b, b < 4 → a ≠ b → (F_CM a).2.1 ≠ (F_CM b).2.1 := by decide +kernel
theorem to_CM : ∀ k, k < 4 → parseFieldDescriptor (F_CM k).2.2.1 = some (t_CM k) := by decide +kernel
def R_Tree : String := "CarouselMount$Tree"
def F_Tree : u_T := fun k => match k with
  | 0 => ("CarouselMount$Tree", "kinds", "[I", true)
  | 1 => ("CarouselMount$Tree", "parents", "[I", true)
  | 2 => ("CarouselMount$Tree", "names", "[I", true)
  | 3 => ("CarouselMount$Tree", "lengths", "[I", true)
  | _ => ("CarouselMount$Tree", "bytes", "[I", true)
def t_Tree : Nat → FieldType := fun k => match k with
  | 0 => .array .int
  | 1 => .array .int
  | 2 => .array .int
  | 3 => .array .int
  | _ => .array .int
theorem n_Tree : ∀ a, a < 5 → ∀ b, b < 5 → a ≠ b → (F_Tree a).2.1 ≠ (F_Tree b).2.1 := by decide +kernel
theorem to_Tree : ∀ k, k < 5 → parseFieldDescriptor (F_Tree k).2.2.1 = some (t_Tree k) := by decide +kernel
def R_Ed : String := "CarouselMount$Edition"
def F_Ed : u_T := fun k => match k with
  | 0 => ("CarouselMount$Edition", "number", "I", false)
  | 1 => ("CarouselMount$Edition", "moduleCount", "I", false)
  | 2 => ("CarouselMount$Edition", "sizes", "[I", true)
  | 3 => ("CarouselMount$Edition", "versions", "[I", true)
  | 4 => ("CarouselMount$Edition", "bytes", "[I", true)
  | 5 => ("CarouselMount$Edition", "order", "[I", true)
  | 6 => ("CarouselMount$Edition", "orderCount", "I", false)
  | 7 => ("CarouselMount$Edition", "moduleOf", "[I", true)
  | 8 => ("CarouselMount$Edition", "draft", "[I", true)
  | _ => ("CarouselMount$Edition", "draftSize", "I", false)
def t_Ed : Nat → FieldType := fun k => match k with
  | 0 => .int
  | 1 => .int
  | 2 => .array .int
  | 3 => .array .int
  | 4 => .array .int
  | 5 => .array .int
  | 6 => .int
  | 7 => .array .int
  | 8 => .array .int
  | _ => .int
theorem n_Ed : ∀ a, a < 10 → ∀ b, b < 10 → a ≠ b → (F_Ed a).2.1 ≠ (F_Ed b).2.1 := by decide +kernel
theorem to_Ed : ∀ k, k < 10 → parseFieldDescriptor (F_Ed k).2.2.1 = some (t_Ed k) := by decide +kernel
def R_Sn : String := "CarouselMount$Sender"
def F_Sn : u_T := fun k => match k with
  | 0 => ("CarouselMount$Sender", "packet", "[I", true)
  | 1 => ("CarouselMount$Sender", "cycle", "LCarouselMount$Cycle;", true)
  | 2 => ("CarouselMount$Sender", "counter", "I", false)
  | 3 => ("CarouselMount$Sender", "position", "I", false)
  | _ => ("CarouselMount$Sender", "positionBehind", "I", false)
def t_Sn : Nat → FieldType := fun k => match k with
  | 0 => .array .int
  | 1 => .object "CarouselMount$Cycle"
  | 2 => .int
  | 3 => .int
  | _ => .int
theorem n_Sn : ∀ a, a < 5 → ∀ b, b < 5 → a ≠ b → (F_Sn a).2.1 ≠ (F_Sn b).2.1 := by decide +kernel
theorem to_Sn : ∀ k, k < 5 → parseFieldDescriptor (F_Sn k).2.2.1 = some (t_Sn k) := by decide +kernel
def R_Cy : String := "CarouselMount$Cycle"
def F_Cy : u_T := fun k => match k with
  | 0 => ("CarouselMount$Cycle", "bytes", "[I", true)
  | 1 => ("CarouselMount$Cycle", "length", "I", false)
  | 2 => ("CarouselMount$Cycle", "starts", "[I", true)
  | _ => ("CarouselMount$Cycle", "sectionCount", "I", false)
def t_Cy : Nat → FieldType := fun k => match k with
  | 0 => .array .int
  | 1 => .int
  | 2 => .array .int
  | _ => .int
theorem n_Cy : ∀ a, a < 4 → ∀ b, b < 4 → a ≠ b → (F_Cy a).2.1 ≠ (F_Cy b).2.1 := by decide +kernel
theorem to_Cy : ∀ k, k < 4 → parseFieldDescriptor (F_Cy k).2.2.1 = some (t_Cy k) := by decide +kernel
def R_Rc : String := "CarouselMount$Receiver"
def F_Rc : u_T := fun k => match k with
  | 0 => ("CarouselMount$Receiver", "mount", "LCarouselMount$Mount;", true)
  | 1 => ("CarouselMount$Receiver", "counts", "[I", true)
  | 2 => ("CarouselMount$Receiver", "section", "[I", true)
  | 3 => ("CarouselMount$Receiver", "collected", "I", false)
  | _ => ("CarouselMount$Receiver", "lastCounter", "I", false)
def t_Rc : Nat → FieldType := fun k => match k with
  | 0 => .object "CarouselMount$Mount"
  | 1 => .array .int
  | 2 => .array .int
  | 3 => .int
  | _ => .int
theorem n_Rc : ∀ a, a < 5 → ∀ b, b < 5 → a ≠ b → (F_Rc a).2.1 ≠ (F_Rc b).2.1 := by decide +kernel
theorem to_Rc : ∀ k, k < 5 → parseFieldDescriptor (F_Rc k).2.2.1 = some (t_Rc k) := by decide +kernel
def R_Mt : String := "CarouselMount$Mount"
def F_Mt : u_T := fun k => match k with
  | 0 => ("CarouselMount$Mount", "hasList", "Z", false)
  | 1 => ("CarouselMount$Mount", "listTransaction", "I", false)
  | 2 => ("CarouselMount$Mount", "sizes", "[I", true)
  | 3 => ("CarouselMount$Mount", "versions", "[I", true)
  | 4 => ("CarouselMount$Mount", "heldBits", "[I", true)
  | _ => ("CarouselMount$Mount", "bytes", "[I", true)
def t_Mt : Nat → FieldType := fun k => match k with
  | 0 => .boolean
  | 1 => .int
  | 2 => .array .int
  | 3 => .array .int
  | 4 => .array .int
  | _ => .array .int
theorem n_Mt : ∀ a, a < 6 → ∀ b, b < 6 → a ≠ b → (F_Mt a).2.1 ≠ (F_Mt b).2.1 := by decide +kernel
theorem to_Mt : ∀ k, k < 6 → parseFieldDescriptor (F_Mt k).2.2.1 = some (t_Mt k) := by decide +kernel
def R_Md : String := "CarouselMountModel"
def F_Md : u_T := fun k => match k with
  | 0 => ("CarouselMountModel", "kindOf", "[I", true)
  | 1 => ("CarouselMountModel", "parent", "[I", true)
  | 2 => ("CarouselMountModel", "name", "[I", true)
  | 3 => ("CarouselMountModel", "length", "[I", true)
  | 4 => ("CarouselMountModel", "bytes", "[I", true)
  | 5 => ("CarouselMountModel", "transaction", "I", false)
  | 6 => ("CarouselMountModel", "modules", "I", false)
  | 7 => ("CarouselMountModel", "sizes", "[I", true)
  | 8 => ("CarouselMountModel", "versions", "[I", true)
  | 9 => ("CarouselMountModel", "contents", "[I", true)
  | 10 => ("CarouselMountModel", "oldModules", "I", false)
  | 11 => ("CarouselMountModel", "oldSizes", "[I", true)
  | 12 => ("CarouselMountModel", "oldVersions", "[I", true)
  | 13 => ("CarouselMountModel", "oldContents", "[I", true)
  | 14 => ("CarouselMountModel", "liesIn", "[I", true)
  | 15 => ("CarouselMountModel", "cycle", "[I", true)
  | 16 => ("CarouselMountModel", "ends", "[Z", true)
  | 17 => ("CarouselMountModel", "total", "I", false)
  | 18 => ("CarouselMountModel", "sum", "I", false)
  | 19 => ("CarouselMountModel", "position", "I", false)
  | 20 => ("CarouselMountModel", "counter", "I", false)
  | 21 => ("CarouselMountModel", "packet", "[I", true)
  | 22 => ("CarouselMountModel", "heardTransaction", "I", false)
  | 23 => ("CarouselMountModel", "heardCounter", "I", false)
  | 24 => ("CarouselMountModel", "listed", "[Z", true)
  | 25 => ("CarouselMountModel", "listedVersion", "[I", true)
  | 26 => ("CarouselMountModel", "listedSize", "[I", true)
  | 27 => ("CarouselMountModel", "holds", "[Z", true)
  | 28 => ("CarouselMountModel", "store", "[I", true)
  | 29 => ("CarouselMountModel", "collecting", "Z", false)
  | 30 => ("CarouselMountModel", "got", "I", false)
  | 31 => ("CarouselMountModel", "section", "[I", true)
  | _ => ("CarouselMountModel", "counts", "[I", true)
def t_Md : Nat → FieldType := fun k => match k with
  | 0 => .array .int
  | 1 => .array .int
  | 2 => .array .int
  | 3 => .array .int
  | 4 => .array .int
  | 5 => .int
  | 6 => .int
  | 7 => .array .int
  | 8 => .array .int
  | 9 => .array .int
  | 10 => .int
  | 11 => .array .int
  | 12 => .array .int
  | 13 => .array .int
  | 14 => .array .int
  | 15 => .array .int
  | 16 => .array .boolean
  | 17 => .int
  | 18 => .int
  | 19 => .int
  | 20 => .int
  | 21 => .array .int
  | 22 => .int
  | 23 => .int
  | 24 => .array .boolean
  | 25 => .array .int
  | 26 => .array .int
  | 27 => .array .boolean
  | 28 => .array .int
  | 29 => .boolean
  | 30 => .int
  | 31 => .array .int
  | _ => .array .int
theorem n_Md : ∀ a, a < 33 → ∀ b, b < 33 → a ≠ b → (F_Md a).2.1 ≠ (F_Md b).2.1 := by decide +kernel
theorem to_Md : ∀ k, k < 33 → parseFieldDescriptor (F_Md k).2.2.1 = some (t_Md k) := by decide +kernel
def R_Law : String := "CarouselMountLaw"
def R_Arr : String := "java/util/Arrays"
def R_Int : String := "java/lang/Integer"
abbrev zcl : List vw_C := [(R_CM, F_CM, 4), (R_Tree, F_Tree, 5), (R_Ed, F_Ed, 10), (R_Sn, F_Sn, 5), (R_Cy, F_Cy, 4), (R_Rc, F_Rc, 5), (R_Mt, F_Mt, 6), (R_Md, F_Md, 33)]
abbrev b_CM_init : ByteArray := prog_1_method_1_code
def y_CM_init : MethodName := ⟨R_CM, "<init>", "()V"⟩
abbrev b_CM_make : ByteArray := prog_1_method_2_code
def y_CM_make : MethodName := ⟨R_CM, "make", "(IIZ)I"⟩
abbrev b_CM_remove : ByteArray := prog_1_method_3_code
def y_CM_remove : MethodName := ⟨R_CM, "remove", "(I)I"⟩
abbrev b_CM_append : ByteArray := prog_1_method_4_code
def y_CM_append : MethodName := ⟨R_CM, "append", "(II)I"⟩
abbrev b_CM_empty : ByteArray := prog_1_method_5_code
def y_CM_empty : MethodName := ⟨R_CM, "empty", "(I)I"⟩
abbrev b_CM_publish : ByteArray := prog_1_method_6_code
def y_CM_publish : MethodName := ⟨R_CM, "publish", "()I"⟩
abbrev b_CM_modules : ByteArray := prog_1_method_7_code
def y_CM_modules : MethodName := ⟨R_CM, "modules", "()I"⟩
abbrev b_CM_module : ByteArray := prog_1_method_8_code
def y_CM_module : MethodName := ⟨R_CM, "module", "(I)I"⟩
abbrev b_CM_peek : ByteArray := prog_1_method_9_code
def y_CM_peek : MethodName := ⟨R_CM, "peek", "(I)I"⟩
abbrev b_CM_send : ByteArray := prog_1_method_10_code
def y_CM_send : MethodName := ⟨R_CM, "send", "(I)I"⟩
abbrev b_CM_lose : ByteArray := prog_1_method_11_code
def y_CM_lose : MethodName := ⟨R_CM, "lose", "(I)I"⟩
abbrev b_CM_spoil : ByteArray := prog_1_method_12_code
def y_CM_spoil : MethodName := ⟨R_CM, "spoil", "(II)I"⟩
abbrev b_CM_retune : ByteArray := prog_1_method_13_code
def y_CM_retune : MethodName := ⟨R_CM, "retune", "()V"⟩
abbrev b_CM_count : ByteArray := prog_1_method_14_code
def y_CM_count : MethodName := ⟨R_CM, "count", "(I)I"⟩
abbrev b_CM_transaction : ByteArray := prog_1_method_15_code
def y_CM_transaction : MethodName := ⟨R_CM, "transaction", "()I"⟩
abbrev b_CM_held : ByteArray := prog_1_method_16_code
def y_CM_held : MethodName := ⟨R_CM, "held", "(I)I"⟩
abbrev b_CM_kind : ByteArray := prog_1_method_17_code
def y_CM_kind : MethodName := ⟨R_CM, "kind", "(III)I"⟩
abbrev b_CM_size : ByteArray := prog_1_method_18_code
def y_CM_size : MethodName := ⟨R_CM, "size", "(III)I"⟩
abbrev b_CM_read : ByteArray := prog_1_method_19_code
def y_CM_read : MethodName := ⟨R_CM, "read", "(IIII)I"⟩
abbrev b_CM_follow : ByteArray := prog_1_method_20_code
def y_CM_follow : MethodName := ⟨R_CM, "follow", "(III)I"⟩
abbrev b_CM_isEntryKey : ByteArray := prog_1_method_21_code
def y_CM_isEntryKey : MethodName := ⟨R_CM, "isEntryKey", "(I)Z"⟩
abbrev b_CM_isByte : ByteArray := prog_1_method_22_code
def y_CM_isByte : MethodName := ⟨R_CM, "isByte", "(I)Z"⟩
abbrev b_CM_pairAt : ByteArray := prog_1_method_23_code
def y_CM_pairAt : MethodName := ⟨R_CM, "pairAt", "([II)I"⟩
abbrev b_CM_checkOf : ByteArray := prog_1_method_24_code
def y_CM_checkOf : MethodName := ⟨R_CM, "checkOf", "([III)I"⟩
abbrev b_CM_blocksIn : ByteArray := prog_1_method_25_code
def y_CM_blocksIn : MethodName := ⟨R_CM, "blocksIn", "(I)I"⟩
abbrev b_CM_blockLength : ByteArray := prog_1_method_26_code
def y_CM_blockLength : MethodName := ⟨R_CM, "blockLength", "(II)I"⟩
abbrev b_Md_init : ByteArray := prog_9_method_1_code
def y_Md_init : MethodName := ⟨R_Md, "<init>", "()V"⟩
abbrev b_Md_within : ByteArray := prog_9_method_2_code
def y_Md_within : MethodName := ⟨R_Md, "within", "(III)Z"⟩
abbrev b_Md_after : ByteArray := prog_9_method_3_code
def y_Md_after : MethodName := ⟨R_Md, "after", "(II)I"⟩
abbrev b_Md_make : ByteArray := prog_9_method_4_code
def y_Md_make : MethodName := ⟨R_Md, "make", "(IIZ)I"⟩
abbrev b_Md_remove : ByteArray := prog_9_method_5_code
def y_Md_remove : MethodName := ⟨R_Md, "remove", "(I)I"⟩
abbrev b_Md_append : ByteArray := prog_9_method_6_code
def y_Md_append : MethodName := ⟨R_Md, "append", "(II)I"⟩
abbrev b_Md_empty : ByteArray := prog_9_method_7_code
def y_Md_empty : MethodName := ⟨R_Md, "empty", "(I)I"⟩
abbrev b_Md_next : ByteArray := prog_9_method_8_code
def y_Md_next : MethodName := ⟨R_Md, "next", "(I)I"⟩
abbrev b_Md_payload : ByteArray := prog_9_method_9_code
def y_Md_payload : MethodName := ⟨R_Md, "payload", "(I)I"⟩
abbrev b_Md_put : ByteArray := prog_9_method_10_code
def y_Md_put : MethodName := ⟨R_Md, "put", "(II)V"⟩
abbrev b_Md_message : ByteArray := prog_9_method_11_code
def y_Md_message : MethodName := ⟨R_Md, "message", "(I)V"⟩
abbrev b_Md_keepOld : ByteArray := prog_9_method_12_code
def y_Md_keepOld : MethodName := ⟨R_Md, "keepOld", "()V"⟩
abbrev b_Md_unchanged : ByteArray := prog_9_method_13_code
def y_Md_unchanged : MethodName := ⟨R_Md, "unchanged", "(I)Z"⟩
abbrev b_Md_publish : ByteArray := prog_9_method_14_code
def y_Md_publish : MethodName := ⟨R_Md, "publish", "()I"⟩
abbrev b_Md_mixed : ByteArray := prog_9_method_15_code
def y_Md_mixed : MethodName := ⟨R_Md, "mixed", "(II)I"⟩
abbrev b_Md_emit : ByteArray := prog_9_method_16_code
def y_Md_emit : MethodName := ⟨R_Md, "emit", "(I)V"⟩
abbrev b_Md_emitPair : ByteArray := prog_9_method_17_code
def y_Md_emitPair : MethodName := ⟨R_Md, "emitPair", "(I)V"⟩
abbrev b_Md_emitCheck : ByteArray := prog_9_method_18_code
def y_Md_emitCheck : MethodName := ⟨R_Md, "emitCheck", "()V"⟩
abbrev b_Md_writeCycle : ByteArray := prog_9_method_19_code
def y_Md_writeCycle : MethodName := ⟨R_Md, "writeCycle", "()V"⟩
abbrev b_Md_modules : ByteArray := prog_9_method_20_code
def y_Md_modules : MethodName := ⟨R_Md, "modules", "()I"⟩
abbrev b_Md_module : ByteArray := prog_9_method_21_code
def y_Md_module : MethodName := ⟨R_Md, "module", "(I)I"⟩
abbrev b_Md_rest : ByteArray := prog_9_method_22_code
def y_Md_rest : MethodName := ⟨R_Md, "rest", "()I"⟩
abbrev b_Md_build : ByteArray := prog_9_method_23_code
def y_Md_build : MethodName := ⟨R_Md, "build", "()I"⟩
abbrev b_Md_sent : ByteArray := prog_9_method_24_code
def y_Md_sent : MethodName := ⟨R_Md, "sent", "()V"⟩
abbrev b_Md_peek : ByteArray := prog_9_method_25_code
def y_Md_peek : MethodName := ⟨R_Md, "peek", "(I)I"⟩
abbrev b_Md_pass : ByteArray := prog_9_method_26_code
def y_Md_pass : MethodName := ⟨R_Md, "pass", "(IZ)I"⟩
abbrev b_Md_send : ByteArray := prog_9_method_27_code
def y_Md_send : MethodName := ⟨R_Md, "send", "(I)I"⟩
abbrev b_Md_lose : ByteArray := prog_9_method_28_code
def y_Md_lose : MethodName := ⟨R_Md, "lose", "(I)I"⟩
abbrev b_Md_spoil : ByteArray := prog_9_method_29_code
def y_Md_spoil : MethodName := ⟨R_Md, "spoil", "(II)I"⟩
abbrev b_Md_retune : ByteArray := prog_9_method_30_code
def y_Md_retune : MethodName := ⟨R_Md, "retune", "()V"⟩
abbrev b_Md_nothing : ByteArray := prog_9_method_31_code
def y_Md_nothing : MethodName := ⟨R_Md, "nothing", "(I)V"⟩
abbrev b_Md_throwAway : ByteArray := prog_9_method_32_code
def y_Md_throwAway : MethodName := ⟨R_Md, "throwAway", "()V"⟩
abbrev b_Md_receive : ByteArray := prog_9_method_33_code
def y_Md_receive : MethodName := ⟨R_Md, "receive", "()V"⟩
abbrev b_Md_more : ByteArray := prog_9_method_34_code
def y_Md_more : MethodName := ⟨R_Md, "more", "(II)V"⟩
abbrev b_Md_take : ByteArray := prog_9_method_35_code
def y_Md_take : MethodName := ⟨R_Md, "take", "(I)V"⟩
abbrev b_Md_pair : ByteArray := prog_9_method_36_code
def y_Md_pair : MethodName := ⟨R_Md, "pair", "(I)I"⟩
abbrev b_Md_checks : ByteArray := prog_9_method_37_code
def y_Md_checks : MethodName := ⟨R_Md, "checks", "()Z"⟩
abbrev b_Md_isList : ByteArray := prog_9_method_38_code
def y_Md_isList : MethodName := ⟨R_Md, "isList", "()Z"⟩
abbrev b_Md_look : ByteArray := prog_9_method_39_code
def y_Md_look : MethodName := ⟨R_Md, "look", "()V"⟩
abbrev b_Md_list : ByteArray := prog_9_method_40_code
def y_Md_list : MethodName := ⟨R_Md, "list", "()V"⟩
abbrev b_Md_fits : ByteArray := prog_9_method_41_code
def y_Md_fits : MethodName := ⟨R_Md, "fits", "()Z"⟩
abbrev b_Md_block : ByteArray := prog_9_method_42_code
def y_Md_block : MethodName := ⟨R_Md, "block", "()V"⟩
abbrev b_Md_count : ByteArray := prog_9_method_43_code
def y_Md_count : MethodName := ⟨R_Md, "count", "(I)I"⟩
abbrev b_Md_transaction : ByteArray := prog_9_method_44_code
def y_Md_transaction : MethodName := ⟨R_Md, "transaction", "()I"⟩
abbrev b_Md_heldOf : ByteArray := prog_9_method_45_code
def y_Md_heldOf : MethodName := ⟨R_Md, "heldOf", "(I)I"⟩
abbrev b_Md_held : ByteArray := prog_9_method_46_code
def y_Md_held : MethodName := ⟨R_Md, "held", "(I)I"⟩
abbrev b_Md_ready : ByteArray := prog_9_method_47_code
def y_Md_ready : MethodName := ⟨R_Md, "ready", "(I)I"⟩
abbrev b_Md_stands : ByteArray := prog_9_method_48_code
def y_Md_stands : MethodName := ⟨R_Md, "stands", "(II)Z"⟩
abbrev b_Md_first : ByteArray := prog_9_method_49_code
def y_Md_first : MethodName := ⟨R_Md, "first", "(II)I"⟩
abbrev b_Md_gateway : ByteArray := prog_9_method_50_code
def y_Md_gateway : MethodName := ⟨R_Md, "gateway", "()I"⟩
abbrev b_Md_enter : ByteArray := prog_9_method_51_code
def y_Md_enter : MethodName := ⟨R_Md, "enter", "(II)I"⟩
abbrev b_Md_follow : ByteArray := prog_9_method_52_code
def y_Md_follow : MethodName := ⟨R_Md, "follow", "(III)I"⟩
abbrev b_Md_kind : ByteArray := prog_9_method_53_code
def y_Md_kind : MethodName := ⟨R_Md, "kind", "(III)I"⟩
abbrev b_Md_size : ByteArray := prog_9_method_54_code
def y_Md_size : MethodName := ⟨R_Md, "size", "(III)I"⟩
abbrev b_Md_read : ByteArray := prog_9_method_55_code
def y_Md_read : MethodName := ⟨R_Md, "read", "(IIII)I"⟩
abbrev b_Cy_init : ByteArray := prog_2_method_1_code
def y_Cy_init : MethodName := ⟨R_Cy, "<init>", "()V"⟩
abbrev b_Cy_renew : ByteArray := prog_2_method_2_code
def y_Cy_renew : MethodName := ⟨R_Cy, "renew", "(LCarouselMount$Edition;)V"⟩
abbrev b_Cy_startFrom : ByteArray := prog_2_method_3_code
def y_Cy_startFrom : MethodName := ⟨R_Cy, "startFrom", "(I)I"⟩
abbrev b_Cy_addList : ByteArray := prog_2_method_4_code
def y_Cy_addList : MethodName := ⟨R_Cy, "addList", "(LCarouselMount$Edition;)V"⟩
abbrev b_Cy_addBlock : ByteArray := prog_2_method_5_code
def y_Cy_addBlock : MethodName := ⟨R_Cy, "addBlock", "(LCarouselMount$Edition;II)V"⟩
abbrev b_Cy_begin : ByteArray := prog_2_method_6_code
def y_Cy_begin : MethodName := ⟨R_Cy, "begin", "(II)V"⟩
abbrev b_Cy_writeCheck : ByteArray := prog_2_method_7_code
def y_Cy_writeCheck : MethodName := ⟨R_Cy, "writeCheck", "()V"⟩
abbrev b_Cy_writePair : ByteArray := prog_2_method_8_code
def y_Cy_writePair : MethodName := ⟨R_Cy, "writePair", "(I)V"⟩
abbrev b_Cy_write : ByteArray := prog_2_method_9_code
def y_Cy_write : MethodName := ⟨R_Cy, "write", "(I)V"⟩
abbrev b_Ed_init : ByteArray := prog_3_method_1_code
def y_Ed_init : MethodName := ⟨R_Ed, "<init>", "()V"⟩
abbrev b_Ed_byteAt : ByteArray := prog_3_method_2_code
def y_Ed_byteAt : MethodName := ⟨R_Ed, "byteAt", "(II)I"⟩
abbrev b_Ed_renew : ByteArray := prog_3_method_3_code
def y_Ed_renew : MethodName := ⟨R_Ed, "renew", "(LCarouselMount$Tree;)V"⟩
abbrev b_Ed_arrange : ByteArray := prog_3_method_4_code
def y_Ed_arrange : MethodName := ⟨R_Ed, "arrange", "(LCarouselMount$Tree;)V"⟩
abbrev b_Ed_assignModules : ByteArray := prog_3_method_5_code
def y_Ed_assignModules : MethodName := ⟨R_Ed, "assignModules", "(LCarouselMount$Tree;)I"⟩
abbrev b_Ed_draftModule : ByteArray := prog_3_method_6_code
def y_Ed_draftModule : MethodName := ⟨R_Ed, "draftModule", "(LCarouselMount$Tree;I)V"⟩
abbrev b_Ed_draftMessage : ByteArray := prog_3_method_7_code
def y_Ed_draftMessage : MethodName := ⟨R_Ed, "draftMessage", "(LCarouselMount$Tree;I)V"⟩
abbrev b_Ed_draftEntries : ByteArray := prog_3_method_8_code
def y_Ed_draftEntries : MethodName := ⟨R_Ed, "draftEntries", "(LCarouselMount$Tree;I)V"⟩
abbrev b_Ed_write : ByteArray := prog_3_method_9_code
def y_Ed_write : MethodName := ⟨R_Ed, "write", "(I)V"⟩
abbrev b_Ed_keepDraft : ByteArray := prog_3_method_10_code
def y_Ed_keepDraft : MethodName := ⟨R_Ed, "keepDraft", "(I)V"⟩
abbrev b_Ed_draftEquals : ByteArray := prog_3_method_11_code
def y_Ed_draftEquals : MethodName := ⟨R_Ed, "draftEquals", "(I)Z"⟩
abbrev b_Mt_init : ByteArray := prog_4_method_1_code
def y_Mt_init : MethodName := ⟨R_Mt, "<init>", "()V"⟩
abbrev b_Mt_reset : ByteArray := prog_4_method_2_code
def y_Mt_reset : MethodName := ⟨R_Mt, "reset", "()V"⟩
abbrev b_Mt_relist : ByteArray := prog_4_method_3_code
def y_Mt_relist : MethodName := ⟨R_Mt, "relist", "(III)V"⟩
abbrev b_Mt_takeList : ByteArray := prog_4_method_4_code
def y_Mt_takeList : MethodName := ⟨R_Mt, "takeList", "([I)V"⟩
abbrev b_Mt_takeBlock : ByteArray := prog_4_method_5_code
def y_Mt_takeBlock : MethodName := ⟨R_Mt, "takeBlock", "([II)Z"⟩
abbrev b_Mt_isListed : ByteArray := prog_4_method_6_code
def y_Mt_isListed : MethodName := ⟨R_Mt, "isListed", "(I)Z"⟩
abbrev b_Mt_blocksHeld : ByteArray := prog_4_method_7_code
def y_Mt_blocksHeld : MethodName := ⟨R_Mt, "blocksHeld", "(I)I"⟩
abbrev b_Mt_obstacle : ByteArray := prog_4_method_8_code
def y_Mt_obstacle : MethodName := ⟨R_Mt, "obstacle", "(I)I"⟩
abbrev b_Mt_gateway : ByteArray := prog_4_method_9_code
def y_Mt_gateway : MethodName := ⟨R_Mt, "gateway", "()I"⟩
abbrev b_Mt_enter : ByteArray := prog_4_method_10_code
def y_Mt_enter : MethodName := ⟨R_Mt, "enter", "(II)I"⟩
abbrev b_Mt_messageWithKey : ByteArray := prog_4_method_11_code
def y_Mt_messageWithKey : MethodName := ⟨R_Mt, "messageWithKey", "(II)I"⟩
abbrev b_Mt_fits : ByteArray := prog_4_method_12_code
def y_Mt_fits : MethodName := ⟨R_Mt, "fits", "(II)Z"⟩
abbrev b_Mt_isDirectoryAt : ByteArray := prog_4_method_13_code
def y_Mt_isDirectoryAt : MethodName := ⟨R_Mt, "isDirectoryAt", "(I)Z"⟩
abbrev b_Mt_kindAt : ByteArray := prog_4_method_14_code
def y_Mt_kindAt : MethodName := ⟨R_Mt, "kindAt", "(I)I"⟩
abbrev b_Mt_lengthAt : ByteArray := prog_4_method_15_code
def y_Mt_lengthAt : MethodName := ⟨R_Mt, "lengthAt", "(I)I"⟩
abbrev b_Mt_contentAt : ByteArray := prog_4_method_16_code
def y_Mt_contentAt : MethodName := ⟨R_Mt, "contentAt", "(II)I"⟩
abbrev b_Rc_init : ByteArray := prog_5_method_1_code
def y_Rc_init : MethodName := ⟨R_Rc, "<init>", "()V"⟩
abbrev b_Rc_reset : ByteArray := prog_5_method_2_code
def y_Rc_reset : MethodName := ⟨R_Rc, "reset", "()V"⟩
abbrev b_Rc_takePacket : ByteArray := prog_5_method_3_code
def y_Rc_takePacket : MethodName := ⟨R_Rc, "takePacket", "([I)V"⟩
abbrev b_Rc_continueSection : ByteArray := prog_5_method_4_code
def y_Rc_continueSection : MethodName := ⟨R_Rc, "continueSection", "([III)V"⟩
abbrev b_Rc_beginSections : ByteArray := prog_5_method_5_code
def y_Rc_beginSections : MethodName := ⟨R_Rc, "beginSections", "([II)V"⟩
abbrev b_Rc_throwAway : ByteArray := prog_5_method_6_code
def y_Rc_throwAway : MethodName := ⟨R_Rc, "throwAway", "()V"⟩
abbrev b_Rc_collect : ByteArray := prog_5_method_7_code
def y_Rc_collect : MethodName := ⟨R_Rc, "collect", "(I)V"⟩
abbrev b_Rc_judge : ByteArray := prog_5_method_8_code
def y_Rc_judge : MethodName := ⟨R_Rc, "judge", "(I)I"⟩
abbrev b_Rc_hasCheckDue : ByteArray := prog_5_method_9_code
def y_Rc_hasCheckDue : MethodName := ⟨R_Rc, "hasCheckDue", "(I)Z"⟩
abbrev b_Rc_isList : ByteArray := prog_5_method_10_code
def y_Rc_isList : MethodName := ⟨R_Rc, "isList", "(I)Z"⟩
abbrev b_Rc_isBlock : ByteArray := prog_5_method_11_code
def y_Rc_isBlock : MethodName := ⟨R_Rc, "isBlock", "(I)Z"⟩
abbrev b_Sn_init : ByteArray := prog_6_method_1_code
def y_Sn_init : MethodName := ⟨R_Sn, "<init>", "()V"⟩
abbrev b_Sn_isOnAir : ByteArray := prog_6_method_2_code
def y_Sn_isOnAir : MethodName := ⟨R_Sn, "isOnAir", "()Z"⟩
abbrev b_Sn_beginCycleOf : ByteArray := prog_6_method_3_code
def y_Sn_beginCycleOf : MethodName := ⟨R_Sn, "beginCycleOf", "(LCarouselMount$Edition;)V"⟩
abbrev b_Sn_advance : ByteArray := prog_6_method_4_code
def y_Sn_advance : MethodName := ⟨R_Sn, "advance", "()V"⟩
abbrev b_Sn_prepare : ByteArray := prog_6_method_5_code
def y_Sn_prepare : MethodName := ⟨R_Sn, "prepare", "()V"⟩
abbrev b_Sn_load : ByteArray := prog_6_method_6_code
def y_Sn_load : MethodName := ⟨R_Sn, "load", "(II)V"⟩
abbrev b_Tree_init : ByteArray := prog_7_method_1_code
def y_Tree_init : MethodName := ⟨R_Tree, "<init>", "()V"⟩
abbrev b_Tree_isThere : ByteArray := prog_7_method_2_code
def y_Tree_isThere : MethodName := ⟨R_Tree, "isThere", "(I)Z"⟩
abbrev b_Tree_isDirectory : ByteArray := prog_7_method_3_code
def y_Tree_isDirectory : MethodName := ⟨R_Tree, "isDirectory", "(I)Z"⟩
abbrev b_Tree_isFile : ByteArray := prog_7_method_4_code
def y_Tree_isFile : MethodName := ⟨R_Tree, "isFile", "(I)Z"⟩
abbrev b_Tree_kindOf : ByteArray := prog_7_method_5_code
def y_Tree_kindOf : MethodName := ⟨R_Tree, "kindOf", "(I)I"⟩
abbrev b_Tree_nameOf : ByteArray := prog_7_method_6_code
def y_Tree_nameOf : MethodName := ⟨R_Tree, "nameOf", "(I)I"⟩
abbrev b_Tree_fileLength : ByteArray := prog_7_method_7_code
def y_Tree_fileLength : MethodName := ⟨R_Tree, "fileLength", "(I)I"⟩
abbrev b_Tree_fileByte : ByteArray := prog_7_method_8_code
def y_Tree_fileByte : MethodName := ⟨R_Tree, "fileByte", "(II)I"⟩
abbrev b_Tree_hasEntry : ByteArray := prog_7_method_9_code
def y_Tree_hasEntry : MethodName := ⟨R_Tree, "hasEntry", "(II)Z"⟩
abbrev b_Tree_entryCount : ByteArray := prog_7_method_10_code
def y_Tree_entryCount : MethodName := ⟨R_Tree, "entryCount", "(I)I"⟩
abbrev b_Tree_leastFreeKey : ByteArray := prog_7_method_11_code
def y_Tree_leastFreeKey : MethodName := ⟨R_Tree, "leastFreeKey", "()I"⟩
abbrev b_Tree_put : ByteArray := prog_7_method_12_code
def y_Tree_put : MethodName := ⟨R_Tree, "put", "(IIII)V"⟩
abbrev b_Tree_take : ByteArray := prog_7_method_13_code
def y_Tree_take : MethodName := ⟨R_Tree, "take", "(I)V"⟩
abbrev b_Tree_addByte : ByteArray := prog_7_method_14_code
def y_Tree_addByte : MethodName := ⟨R_Tree, "addByte", "(II)I"⟩
abbrev b_Tree_clearFile : ByteArray := prog_7_method_15_code
def y_Tree_clearFile : MethodName := ⟨R_Tree, "clearFile", "(I)I"⟩
abbrev b_Tree_messageLength : ByteArray := prog_7_method_16_code
def y_Tree_messageLength : MethodName := ⟨R_Tree, "messageLength", "(I)I"⟩
abbrev b_Tree_entryAfter : ByteArray := prog_7_method_17_code
def y_Tree_entryAfter : MethodName := ⟨R_Tree, "entryAfter", "(II)I"⟩
abbrev b_Tree_followerOf : ByteArray := prog_7_method_18_code
def y_Tree_followerOf : MethodName := ⟨R_Tree, "followerOf", "(I)I"⟩
abbrev b_Arr_fill : ByteArray := prog_12_method_103_code
def y_Arr_fill : MethodName := ⟨R_Arr, "fill", "([II)V"⟩
abbrev b_Int_bitCount : ByteArray := prog_10_method_49_code
def y_Int_bitCount : MethodName := ⟨R_Int, "bitCount", "(I)I"⟩
abbrev b_Law_law : ByteArray := code
def y_Law_law : MethodName := ⟨R_Law, "law", "([I)Z"⟩
end
section

-- shapes of cells in the order of making: an int (false) or boolean (true) array of n, or an object of class number ci; a slot is none (an int, kept in S) or some v
abbrev zm_Sh : Type := (Bool × Nat) ⊕ (Nat × List (Option Value))
abbrev zm_S : Type := Nat → Nat → Int32
abbrev zm_L : Type := List (Option Value)
abbrev zm_Q : Type := Option Int32 → List zm_Sh → zm_S → Prop
-- a method: name, (code, locals), return type
abbrev zm_M : Type := MethodName × (ByteArray × Nat) × Option FieldType
def zm_v (ad : Nat → Nat) : Value → Value
  | .ref k => .ref (ad k)
  | v => v
theorem zm_cat (ad : Nat → Nat) (v : Value) : (zm_v ad v).category = v.category := by cases v <;> rfl
def zm_o (ad : Nat → Nat) (S : zm_S) (k i : Nat) : Option Value → Value
  | none => .int (S k i)
  | some v => zm_v ad v
def zm_e (cI cZ : ClassId) (ad : Nat → Nat) (S : zm_S) (k : Nat) : zm_Sh → va_E
  | .inl (b, n) => .inl (cond b cZ cI, n, .inl (S k))
  | .inr (ci, rs) => .inr (ci, rs.mapIdx (fun i o => zm_o ad S k i o))
def zm_w (cI cZ : ClassId) (ad : Nat → Nat) (G : List zm_Sh) (S : zm_S) : va_W := G.mapIdx (fun k sh => (ad k, zm_e cI cZ ad S k sh))
theorem zm_w_at {cI cZ : ClassId} {ad : Nat → Nat} {G : List zm_Sh} {S : zm_S} (k : Nat) : (zm_w cI cZ ad G S)[k]? = (G[k]?).map (fun sh => (ad k, zm_e cI cZ ad S k sh)) := by
  unfold zm_w; rw [List.getElem?_mapIdx]
theorem zm_w_get {cI cZ : ClassId} {ad : Nat → Nat} {G : List zm_Sh} {S : zm_S} {k : Nat} {sh : zm_Sh} (h : G[k]? = some sh) : (zm_w cI cZ ad G S)[k]? = some (ad k, zm_e cI cZ ad S k sh) := by
  rw [zm_w_at, h]; rfl
def zm_up (S : zm_S) (k i : Nat) (x : Int32) : zm_S := fun a => if a = k then upd (S k) i x else S a
def zm_upA (S : zm_S) (k : Nat) (f : Nat → Int32) : zm_S := fun a => if a = k then f else S a
theorem zm_up_self (S : zm_S) (k i : Nat) (x : Int32) : zm_up S k i x k = upd (S k) i x := by simp [zm_up]
theorem zm_up_ne (S : zm_S) {k a : Nat} (i : Nat) (x : Int32) (h : a ≠ k) : zm_up S k i x a = S a := by simp [zm_up, h]
theorem zm_upA_self (S : zm_S) (k : Nat) (f : Nat → Int32) : zm_upA S k f k = f := by simp [zm_upA]
theorem zm_upA_ne (S : zm_S) {k a : Nat} (f : Nat → Int32) (h : a ≠ k) : zm_upA S k f a = S a := by simp [zm_upA, h]
theorem zm_e_congr {cI cZ : ClassId} {ad : Nat → Nat} {S S' : zm_S} {k : Nat} (h : S k = S' k) (sh : zm_Sh) : zm_e cI cZ ad S k sh = zm_e cI cZ ad S' k sh := by
  rcases sh with ⟨b, n⟩ | ⟨ci, rs⟩
  · simp [zm_e, h]
  · have e : (fun (i : Nat) (o : Option Value) => zm_o ad S k i o) = (fun (i : Nat) (o : Option Value) => zm_o ad S' k i o) := by
      funext i o
      cases o with
      | none => show Value.int (S k i) = Value.int (S' k i); rw [h]
      | some v => rfl
    simp only [zm_e, e]
-- one cell changed
theorem zm_w_set {cI cZ : ClassId} {ad : Nat → Nat} {G G' : List zm_Sh} {S S' : zm_S} {k : Nat} {e : va_E} {sh sh' : zm_Sh} (hk : G[k]? = some sh) (hl : ∀ j, j ≠ k → G'[j]? = G[j]?) (hs : ∀ j, j ≠ k → S' j = S j) (hk' : G'[k]? = some sh') (he : zm_e cI cZ ad S' k sh' = e) : (zm_w cI cZ ad G S).set k (ad k, e) = zm_w cI cZ ad G' S' := by
  apply List.ext_getElem?
  intro j
  by_cases hj : j = k
  · subst hj
    have h1 : j < (zm_w cI cZ ad G S).length := (List.getElem?_eq_some_iff.mp (zm_w_get hk)).1
    rw [List.getElem?_set_self h1, zm_w_get hk', he]
  · rw [List.getElem?_set_ne (Ne.symm hj), zm_w_at, zm_w_at, hl j hj]
    cases G[j]? with
    | none => rfl
    | some x => simp only [Option.map_some]; rw [zm_e_congr (hs j hj).symm]
theorem zm_w_up {cI cZ : ClassId} {ad : Nat → Nat} {G : List zm_Sh} {S : zm_S} {k i n : Nat} {b : Bool} {x : Int32} (hk : G[k]? = some (.inl (b, n))) : (zm_w cI cZ ad G S).set k (ad k, .inl (cond b cZ cI, n, .inl (upd (S k) i x))) = zm_w cI cZ ad G (zm_up S k i x) :=
  zm_w_set hk (fun _ _ => rfl) (fun j hj => zm_up_ne S i x hj) hk (by simp [zm_e, zm_up_self])
theorem zm_w_upA {cI cZ : ClassId} {ad : Nat → Nat} {G : List zm_Sh} {S : zm_S} {k n : Nat} {b : Bool} {f : Nat → Int32} (hk : G[k]? = some (.inl (b, n))) : (zm_w cI cZ ad G S).set k (ad k, .inl (cond b cZ cI, n, .inl f)) = zm_w cI cZ ad G (zm_upA S k f) :=
  zm_w_set hk (fun _ _ => rfl) (fun j hj => zm_upA_ne S f hj) hk (by simp [zm_e, zm_upA_self])
theorem zm_w_upo {cI cZ : ClassId} {ad : Nat → Nat} {G : List zm_Sh} {S : zm_S} {k i ci : Nat} {rs : List (Option Value)} {x : Int32} (hk : G[k]? = some (.inr (ci, rs))) (hi : rs[i]? = some none) : (zm_w cI cZ ad G S).set k (ad k, .inr (ci, (rs.mapIdx (fun i o => zm_o ad S k i o)).set i (.int x))) = zm_w cI cZ ad G (zm_up S k i x) := by
  refine zm_w_set hk (fun _ _ => rfl) (fun j hj => zm_up_ne S i x hj) hk ?_
  have e : rs.mapIdx (fun i o => zm_o ad (zm_up S k i x) k i o) = rs.mapIdx (fun i o => zm_o ad (zm_up S k i x) k i o) := rfl
  show Sum.inr (ci, rs.mapIdx (fun a o => zm_o ad (zm_up S k i x) k a o)) = _
  congr 2
  apply List.ext_getElem?
  intro j
  rw [List.getElem?_mapIdx]
  by_cases hj : j = i
  · subst hj
    have h1 : j < (rs.mapIdx (fun i o => zm_o ad S k i o)).length := by rw [List.length_mapIdx]; exact (List.getElem?_eq_some_iff.mp hi).1
    rw [List.getElem?_set_self h1, hi]
    show some (Value.int (zm_up S k j x k j)) = _
    rw [zm_up_self]; simp [upd]
  · rw [List.getElem?_set_ne (Ne.symm hj), List.getElem?_mapIdx]
    cases rs[j]? with
    | none => rfl
    | some o =>
      cases o with
      | none => show some (Value.int (zm_up S k i x k j)) = some (Value.int (S k j)); rw [zm_up_self]; simp [upd, hj]
      | some v => rfl
theorem zm_w_upr {cI cZ : ClassId} {ad : Nat → Nat} {G : List zm_Sh} {S : zm_S} {k i ci : Nat} {rs : List (Option Value)} {o : Value} {v : Value} (hk : G[k]? = some (.inr (ci, rs))) (hi : rs[i]? = some (some o)) : (zm_w cI cZ ad G S).set k (ad k, .inr (ci, (rs.mapIdx (fun i o => zm_o ad S k i o)).set i (zm_v ad v))) = zm_w cI cZ ad (G.set k (.inr (ci, rs.set i (some v)))) S := by
  have hkl := (List.getElem?_eq_some_iff.mp hk).1
  have hil := (List.getElem?_eq_some_iff.mp hi).1
  refine zm_w_set hk (fun j hj => List.getElem?_set_ne (Ne.symm hj)) (fun j hj => rfl) (List.getElem?_set_self hkl) ?_
  show Sum.inr (ci, (rs.set i (some v)).mapIdx (fun a o => zm_o ad S k a o)) = _
  congr 2
  apply List.ext_getElem?
  intro j
  rw [List.getElem?_mapIdx]
  by_cases hj : j = i
  · subst hj
    rw [List.getElem?_set_self hil, List.getElem?_set_self (by rw [List.length_mapIdx]; exact hil)]
    rfl
  · rw [List.getElem?_set_ne (Ne.symm hj), List.getElem?_set_ne (Ne.symm hj), List.getElem?_mapIdx]
-- references below n (or the script's position)
def zm_lt (n : Nat) : Value → Bool
  | .ref k => Nat.blt k n || k == 1000000
  | _ => true
def zm_lto (n : Nat) : Option Value → Bool
  | none => true
  | some v => zm_lt n v
def zm_ltG (n : Nat) (G : List zm_Sh) : Bool := G.all (fun sh => match sh with
  | .inl _ => true
  | .inr (_, rs) => rs.all (zm_lto n))
def zm_ltL (n : Nat) (L : zm_L) : Bool := L.all (zm_lto n)
def zm_ltS (n : Nat) (st : List Value) : Bool := st.all (zm_lt n)
theorem zm_v_eq {ad ad' : Nat → Nat} {n : Nat} (ha : ∀ k, k < n ∨ k = 1000000 → ad' k = ad k) {v : Value} (h : zm_lt n v = true) : zm_v ad' v = zm_v ad v := by
  cases v with
  | ref k =>
    simp only [zm_lt, Bool.or_eq_true, Nat.blt_eq, beq_iff_eq] at h
    show Value.ref (ad' k) = Value.ref (ad k)
    rw [ha k h]
  | _ => rfl
theorem zm_o_eq {ad ad' : Nat → Nat} {n : Nat} (ha : ∀ k, k < n ∨ k = 1000000 → ad' k = ad k) {S : zm_S} {k i : Nat} {o : Option Value} (h : zm_lto n o = true) : zm_o ad' S k i o = zm_o ad S k i o := by
  cases o with
  | none => rfl
  | some v => exact zm_v_eq ha h
theorem zm_S_eq {ad ad' : Nat → Nat} {n : Nat} (ha : ∀ k, k < n ∨ k = 1000000 → ad' k = ad k) {st : List Value} (h : zm_ltS n st = true) : st.map (zm_v ad') = st.map (zm_v ad) := by
  apply List.map_congr_left
  intro v hv
  exact zm_v_eq ha (List.all_eq_true.mp h v hv)
-- a new cell at the end
theorem zm_w_push {cI cZ : ClassId} {ad : Nat → Nat} {G : List zm_Sh} {S S' : zm_S} {q : Nat} {sh : zm_Sh} {e : va_E} {ad' : Nat → Nat} (hG : zm_ltG G.length G = true) (ha : ∀ k, k < G.length ∨ k = 1000000 → ad' k = ad k) (hq : ad' G.length = q) (hS : ∀ k, k < G.length → S' k = S k) (he : zm_e cI cZ ad' S' G.length sh = e) : zm_w cI cZ ad G S ++ [(q, e)] = zm_w cI cZ ad' (G ++ [sh]) S' := by
  apply List.ext_getElem?
  intro j
  have hlen : (zm_w cI cZ ad G S).length = G.length := by unfold zm_w; rw [List.length_mapIdx]
  rw [zm_w_at]
  by_cases hj : j < G.length
  · rw [List.getElem?_append_left (by rw [hlen]; exact hj), List.getElem?_append_left hj, zm_w_at]
    have h1 : G[j]? = some G[j] := List.getElem?_eq_getElem hj
    rw [h1]
    simp only [Option.map_some]
    rw [ha j (Or.inl hj)]
    have h2 := List.all_eq_true.mp hG G[j] (List.getElem_mem hj)
    have h3 : zm_e cI cZ ad S j G[j] = zm_e cI cZ ad' S' j G[j] := by
      rw [zm_e_congr (hS j hj).symm]
      generalize G[j] = x at h2
      rcases x with ⟨b, n⟩ | ⟨ci, rs⟩
      · rfl
      · show Sum.inr (ci, _) = Sum.inr (ci, _)
        congr 2
        apply List.ext_getElem?
        intro i
        rw [List.getElem?_mapIdx, List.getElem?_mapIdx]
        cases hri : rs[i]? with
        | none => rfl
        | some o =>
          simp only [Option.map_some]
          rw [zm_o_eq ha (List.all_eq_true.mp h2 o (List.mem_of_getElem? hri))]
    rw [h3]
  · by_cases hj2 : j = G.length
    · subst hj2
      rw [List.getElem?_append_right (by rw [hlen]; omega), List.getElem?_append_right (by omega), hlen]
      simp [hq, he]
    · rw [List.getElem?_append_right (by rw [hlen]; omega), List.getElem?_append_right (by omega), hlen]
      have h1 : ∃ z, j - G.length = z + 1 := ⟨j - G.length - 1, by omega⟩
      obtain ⟨z, hz⟩ := h1
      rw [hz]; rfl
-- locals
def zm_as (ad : Nat → Nat) (L : zm_L) : List (Nat × Value) := (List.range L.length).filterMap (fun i => (L[i]?.join).map (fun v => (i, zm_v ad v)))
def zm_LV (ad : Nat → Nat) (ls : Array Slot) (L : zm_L) : Prop := ls.size = L.length ∧ lv_wf ls ∧ ∀ (i : Nat) (v : Value), L[i]? = some (some v) → v.category = 1 ∧ ls[i]? = some (.val (zm_v ad v))
theorem zm_as_mem {ad : Nat → Nat} {L : zm_L} {q : Nat × Value} : q ∈ zm_as ad L ↔ ∃ v, L[q.1]? = some (some v) ∧ q.2 = zm_v ad v := by
  constructor
  · intro h
    obtain ⟨i, hi, h2⟩ := List.mem_filterMap.mp h
    cases h3 : L[i]? with
    | none => rw [h3] at h2; cases h2
    | some o =>
      rw [h3] at h2
      cases o with
      | none => cases h2
      | some v => simp only [Option.join_some, Option.map_some, Option.some.injEq] at h2; subst h2; exact ⟨v, h3, rfl⟩
  · rintro ⟨v, h1, h2⟩
    refine List.mem_filterMap.mpr ⟨q.1, List.mem_range.mpr (List.getElem?_eq_some_iff.mp h1).1, ?_⟩
    rw [h1]; simp only [Option.join_some, Option.map_some, ← h2]
theorem zm_LV.has {ad : Nat → Nat} {ls : Array Slot} {L : zm_L} (h : zm_LV ad ls L) : lv_has ls L.length (zm_as ad L) := by
  refine ⟨h.1, h.2.1, fun q hq => ?_⟩
  obtain ⟨v, h1, h2⟩ := zm_as_mem.mp hq
  rw [h2]; exact (h.2.2 q.1 v h1).2
theorem zm_LV.at {ad : Nat → Nat} {ls : Array Slot} {L : zm_L} (h : zm_LV ad ls L) {i : Nat} {v : Value} (hi : L[i]? = some (some v)) : ls[i]? = some (.val (zm_v ad v)) := (h.2.2 i v hi).2
theorem zm_LV.store {ad : Nat → Nat} {ls ls' : Array Slot} {L : zm_L} {i : Nat} {v : Value} (h : zm_LV ad ls L) (hc : v.category = 1) (h2 : lv_has ls' L.length ((i, zm_v ad v) :: (zm_as ad L).filter (fun q => !(q.1 == i) && !(q.1 + 1 == i && q.2.category == 2)))) : zm_LV ad ls' (L.set i (some v)) := by
  refine ⟨by rw [List.length_set]; exact h2.1, h2.2.1, fun j w hj => ?_⟩
  by_cases e : j = i
  · subst e
    rw [List.getElem?_set_self (by rw [← List.length_set]; exact (List.getElem?_eq_some_iff.mp hj).1)] at hj
    cases hj
    exact ⟨hc, h2.2.2 (j, zm_v ad v) List.mem_cons_self⟩
  · rw [List.getElem?_set_ne (Ne.symm e)] at hj
    have hw := h.2.2 j w hj
    refine ⟨hw.1, h2.2.2 (j, zm_v ad w) (List.mem_cons_of_mem _ (List.mem_filter.mpr ⟨zm_as_mem.mpr ⟨w, hj, rfl⟩, ?_⟩))⟩
    have hw1 : (zm_v ad w).category = 1 := by rw [zm_cat]; exact hw.1
    simp [e, hw1]
theorem zm_LV.re {ad ad' : Nat → Nat} {ls : Array Slot} {L : zm_L} {n : Nat} (h : zm_LV ad ls L) (ha : ∀ k, k < n ∨ k = 1000000 → ad' k = ad k) (hn : zm_ltL n L = true) : zm_LV ad' ls L := by
  refine ⟨h.1, h.2.1, fun i v hi => ⟨(h.2.2 i v hi).1, ?_⟩⟩
  rw [zm_v_eq ha (List.all_eq_true.mp hn _ (List.mem_of_getElem? hi))]
  exact (h.2.2 i v hi).2
-- fewer locals
def zm_leL : zm_L → zm_L → Bool
  | [], [] => true
  | none :: a, _ :: b => zm_leL a b
  | some v :: a, some w :: b => decide (v = w) && zm_leL a b
  | _, _ => false
def zm_LE (a b : zm_L) : Prop := a.length = b.length ∧ ∀ (i : Nat) (v : Value), a[i]? = some (some v) → b[i]? = some (some v)
theorem zm_LE.nil : zm_LE [] [] := ⟨rfl, fun i v h => by simp at h⟩
theorem zm_LE.skip {a b : zm_L} {o : Option Value} (h : zm_LE a b) : zm_LE (none :: a) (o :: b) := by
  refine ⟨by simp [h.1], fun i v hi => ?_⟩
  cases i with
  | zero => simp at hi
  | succ i => simpa using h.2 i v (by simpa using hi)
theorem zm_LE.cons {a b : zm_L} {o : Option Value} (h : zm_LE a b) : zm_LE (o :: a) (o :: b) := by
  refine ⟨by simp [h.1], fun i v hi => ?_⟩
  cases i with
  | zero => simpa using hi
  | succ i => simpa using h.2 i v (by simpa using hi)
theorem zm_LV.le {ad : Nat → Nat} {ls : Array Slot} {a b : zm_L} (h : zm_LV ad ls b) (hl : zm_LE a b) : zm_LV ad ls a := ⟨by rw [hl.1]; exact h.1, h.2.1, fun i v hi => h.2.2 i v (hl.2 i v hi)⟩
-- the good words of the tables, and those of nest mates
def zm_all : List Cond := lw_tbl.filter goodWord
def zm_isN : Cond → Bool
  | .methodLinkNest .. => true
  | .fieldLinkNest .. => true
  | _ => false
def zm_N (U : State) : Prop := ∀ w ∈ lw_tbl, zm_isN w = true → va_Nw w U
theorem zm_N.warm {s U : State} (hW : s.WarmedH U.vm) (h : zm_N s) : zm_N U := by
  intro w hw hn
  have h1 := h w hw hn
  cases w <;> first | exact va_Nw.warmM hW h1 | exact va_Nw.warmF hW h1 | exact absurd hn (by simp [zm_isN])
theorem zm_isN_on {w : Cond} (hn : zm_isN w = true) : w.onTables = true := by cases w <;> first | rfl | exact absurd hn (by simp [zm_isN])
theorem zm_N.same {s U : State} (hv : s.vm = U.vm) (h : zm_N s) : zm_N U := fun w hw hn => va_Nw.same (zm_isN_on hn) hv (h w hw hn)
-- the context of a running frame
def zm_ps : Option Int32 → List Value → List Value
  | none, st => st
  | some x, st => .int x :: st
def zm_tys (cI cZ : ClassId) : List (ClassId × FieldType) := [(cI, .int), (cZ, .boolean)]
def zm_room (d mc ms : Nat) : Room := { frames := d, cells := mc, slots := ms, locals := 44 * d }
def zm_rd (M : zm_M) (pc : Nat) : Option Int32 → Prop
  | none => M.2.2 = none ∧ decode M.2.1.1 pc = .ok (.return_, 1)
  | some x => (∃ ty, M.2.2 = some ty ∧ narrow ty (.int x) = .int x) ∧ decode M.2.1.1 pc = .ok (.ireturn, 1)
def zm_Cx (M : zm_M) (sc : Option (Nat × (Nat → Int32))) (d mc ms : Nat) (Q : zm_Q)
    (p : Program) (l : Launch) (e : Env) (R : Room) (s : State) (m : MethodId) (args : Array Value) (below : List Frame) (meth : Method) (c : Code)
    (D : va_G) (cI cZ : ClassId) (A : Nat → Prop) (QM : State → Prop) (ad0 : Nat → Nat) (n0 : Nat) : Prop :=
  p.tables.exec = Jvm.exec ∧ c.code = M.2.1.1 ∧ c.maxLocals = M.2.1.2 ∧ s.vm.findClass M.1.cls = some m.cls ∧ ((∀ w ∈ zm_all, w.before args s = true) ∧ zm_N s) ∧
  va_K D zcl (zm_tys cI cZ) s ∧ (∀ q, s.heap.size ≤ q → A q) ∧ (d ≤ R.frames ∧ 44 * d ≤ R.locals ∧ mc ≤ R.cells ∧ ms ≤ R.slots) ∧ meth.name = M.1.name ∧
  (∀ Lx, sc = some Lx → va_X (ad0 1000000) Lx.1 Lx.2 s s.heap ∧ ad0 1000000 < s.heap.size ∧ ¬ A (ad0 1000000)) ∧
  (∀ (v : Option Int32) (pc : Nat) (ls : Array Slot) (H : Heap) (locs : List Loc) (ad : Nat → Nat) (G : List zm_Sh) (S : zm_S) (nc ns : Nat),
    zm_rd M pc v → (∀ k, k < n0 ∨ k = 1000000 → ad k = ad0 k) → n0 ≤ G.length → va_P D zcl (zm_w cI cZ ad G S) H → va_D A (zm_w cI cZ ad G S) → va_S A s.heap H locs → nc ≤ mc → ns ≤ ms → Q v G S →
    W p l e R s m args below meth c H locs nc ns QM (F0 m pc ls (zm_ps v [])))
def zm_WP (M : zm_M) (sc : Option (Nat × (Nat → Int32))) (d mc ms : Nat) (Q : zm_Q) (pc : Nat) (L : zm_L) (st : List Value) (G : List zm_Sh) (S : zm_S) (nc ns : Nat) : Prop :=
  ∀ (p : Program) (l : Launch) (e : Env) (R : Room) (s : State) (m : MethodId) (args : Array Value) (below : List Frame) (meth : Method) (c : Code) (D : va_G) (cI cZ : ClassId) (A : Nat → Prop) (QM : State → Prop) (ad0 : Nat → Nat) (n0 : Nat),
    zm_Cx M sc d mc ms Q p l e R s m args below meth c D cI cZ A QM ad0 n0 →
    ∀ (ad : Nat → Nat) (H : Heap) (locs : List Loc) (ls : Array Slot), (∀ k, k < n0 ∨ k = 1000000 → ad k = ad0 k) → n0 ≤ G.length → va_P D zcl (zm_w cI cZ ad G S) H → va_D A (zm_w cI cZ ad G S) → va_S A s.heap H locs → zm_LV ad ls L → L.length = M.2.1.2 →
      W p l e R s m args below meth c H locs nc ns QM (F0 m pc ls (st.map (zm_v ad)))
-- contracts
def zm_ws (M : zm_M) : List Cond := .code M.1 M.2.1.1 M.2.1.2 M.2.2 :: zm_all
def zm_Pc (D : va_G) (cI cZ : ClassId) (ad : Nat → Nat) (sz : Nat) (av : List Value) (G : List zm_Sh) (S : zm_S) : Array Value → State → Prop :=
  va_Pc (av.map (zm_v ad)) (fun U => U.heap.size = sz ∧ va_P D zcl (zm_w cI cZ ad G S) U.heap ∧ va_K D zcl (zm_tys cI cZ) U ∧ va_D (fun _ => True) (zm_w cI cZ ad G S) ∧ zm_N U)
def zm_B (D : va_G) (cI cZ : ClassId) (ad : Nat → Nat) (sz : Nat) (G : List zm_Sh) (S : zm_S) (Q : zm_Q) (oc : Outcome) (t : State) : Prop :=
  ∃ (v : Option Int32) (ad' : Nat → Nat) (G' : List zm_Sh) (S' : zm_S), oc = .returned (v.map Value.int) ∧ Q v G' S' ∧ (∀ k, k < G.length ∨ k = 1000000 → ad' k = ad k) ∧ G.length ≤ G'.length ∧ va_P D zcl (zm_w cI cZ ad' G' S') t.heap ∧ va_D (va_A (zm_w cI cZ ad G S) sz) (zm_w cI cZ ad' G' S')
def zm_Qc (D : va_G) (cI cZ : ClassId) (ad : Nat → Nat) (sz : Nat) (G : List zm_Sh) (S : zm_S) (Q : zm_Q) : Array Value → State → Outcome → State → Prop :=
  fun _ st oc t => zm_B D cI cZ ad sz G S Q oc t ∧ va_F (va_A (zm_w cI cZ ad G S) sz) st t
def zm_CC (M : zm_M) (d mc ms : Nat) (av : List Value) (G : List zm_Sh) (S : zm_S) (Q : zm_Q) : Prop :=
  ∀ (l : Launch) (D : va_G) (cI cZ : ClassId) (ad : Nat → Nat) (sz : Nat), Met l M.1 (zm_ws M) (zm_room d mc ms) (zm_Pc D cI cZ ad sz av G S) (zm_Qc D cI cZ ad sz G S Q) mc ms (va_A (zm_w cI cZ ad G S) sz)
-- the entry of a method
def zm_c1 (av : List Value) : Bool := av.all (fun v => v.category == 1)
theorem zm_sl_len : ∀ vs : List Value, (∀ v ∈ vs, v.category = 1) → lg_sl vs = vs.map Slot.val
  | [], _ => rfl
  | v :: vs, h => by
    have h1 := h v List.mem_cons_self
    have ih := zm_sl_len vs (fun w hw => h w (List.mem_cons_of_mem _ hw))
    simp only [lg_sl, List.flatMap_cons, h1, List.map_cons] at ih ⊢
    rw [ih]; simp
theorem zm_args_mem : ∀ (vs : List Value) (k i : Nat) (v : Value), (∀ v ∈ vs, v.category = 1) → vs[i]? = some v → (k + i, v) ∈ lv_args k vs
  | [], _, i, _, _, h => by simp at h
  | w :: vs, k, i, v, hc, h => by
    have h1 := hc w List.mem_cons_self
    have e : lv_args k (w :: vs) = (k, w) :: lv_args (k + 1) vs := by simp [lv_args, h1]
    rw [e]
    cases i with
    | zero => simp at h; subst h; exact List.mem_cons_self
    | succ i =>
      have := zm_args_mem vs (k + 1) i v (fun w hw => hc w (List.mem_cons_of_mem _ hw)) (by simpa using h)
      rw [show k + (i + 1) = k + 1 + i by omega]
      exact List.mem_cons_of_mem _ this
theorem zm_entry {ad : Nat → Nat} {av : List Value} {n : Nat} (hc : zm_c1 av = true) (hn : av.length ≤ n) : zm_LV ad ((lg_sl (av.map (zm_v ad)) ++ List.replicate (n - (lg_sl (av.map (zm_v ad))).length) Slot.unset).toArray) (av.map some ++ List.replicate (n - av.length) none) := by
  have hcv : ∀ v ∈ av, v.category = 1 := fun v hv => by simpa using List.all_eq_true.mp hc v hv
  have hcw : ∀ v ∈ av.map (zm_v ad), v.category = 1 := by
    intro v hv
    obtain ⟨w, hw, rfl⟩ := List.mem_map.mp hv
    rw [zm_cat]; exact hcv w hw
  have hlen : (lg_sl (av.map (zm_v ad))).length = av.length := by rw [zm_sl_len _ hcw]; simp
  have h := lv_entry (av.map (zm_v ad)) (n := n) (by rw [hlen]; exact hn)
  refine ⟨by rw [h.1]; simp; omega, h.2.1, fun i v hi => ?_⟩
  have hi2 : av[i]? = some v := by
    by_cases hlt : i < av.length
    · rw [List.getElem?_append_left (by simpa using hlt), List.getElem?_map] at hi
      cases hh : av[i]? with
      | none => rw [hh] at hi; cases hi
      | some w => rw [hh] at hi; simp only [Option.map_some, Option.some.injEq] at hi; rw [hi]
    · rw [List.getElem?_append_right (by simpa using hlt)] at hi
      have := List.mem_of_getElem? hi
      rw [List.mem_replicate] at this
      cases this.2
  refine ⟨hcv v (List.mem_of_getElem? hi2), ?_⟩
  have hm := zm_args_mem (av.map (zm_v ad)) 0 i (zm_v ad v) hcw (by rw [List.getElem?_map, hi2]; rfl)
  rw [Nat.zero_add] at hm
  exact h.2.2 (i, zm_v ad v) hm
theorem zm_CC_intro {M : zm_M} {d mc ms : Nat} {av : List Value} {G : List zm_Sh} {S : zm_S} {Q : zm_Q} (hy : plainName M.1.cls = true) (hc : zm_c1 av = true) (hn : Nat.ble av.length M.2.1.2 = true) (hw : zm_WP M none d mc ms Q 0 (av.map some ++ List.replicate (M.2.1.2 - av.length) none) [] G S 0 0) : zm_CC M d mc ms av G S Q := by
  intro l D cI cZ ad sz
  refine Met.ofW (cc := M.2.1.1) (maxL := M.2.1.2) (ret := M.2.2) hy rfl ?_
  intro p e s m args below meth c s₁ B hml hv
  obtain ⟨rfl, hsz, hP, hK, hD0, hN⟩ := hv
  have hx := B.exec
  have hb := B.bytes
  have hr := B.returns
  have hts := atoms_spec (ws := zm_ws M) B.pre
  have hown : s.vm.findClass M.1.cls = some m.cls := findClass_of_methodNamed B.named
  have hlocks := B.notSynchronized
  have hin : meth.name = M.1.name := (name_of_methodNamed B.named B.method).1
  subst hsz
  have hD := hD0.self (sz := s.heap.size)
  have hnl := Nat.le_of_ble_eq_true hn
  rw [lg_entry_eq]
  refine hw p l e _ s m _ below meth c D cI cZ (va_A (zm_w cI cZ ad G S) s.heap.size) _ ad G.length ?_ ad s.heap [] _ (fun _ _ => rfl) (Nat.le_refl _) hP hD va_S.rf (zm_entry hc hnl) (by simp; omega)
  refine ⟨hx, hb, hml, hown, ⟨fun w h => hts w (List.mem_cons_of_mem _ h), hN⟩, hK, fun q h => Or.inr h, ⟨Nat.le_refl _, Nat.le_refl _, Nat.le_refl _, Nat.le_refl _⟩, hin, (fun Lx h => by cases h), ?_⟩
  intro v pc ls H locs ad' G' S' nc ns hd ha hG hP1 hD1 hS1 h1 h2 hQ
  refine W.widen (k := mc) (n := ms) h1 h2 ?_
  cases v with
  | none =>
    obtain ⟨hr0, hd⟩ := hd
    exact W.vret hx hb (hr.trans hr0) (fun t ht hW => ⟨⟨none, ad', G', S', rfl, hQ, ha, hG, by rw [ht]; exact hP1, hD1⟩, hS1.F ht⟩) hS1.2.2 hd hlocks
  | some x =>
    obtain ⟨⟨ty, hr0, hnar⟩, hd⟩ := hd
    exact W.zret hx hb (hr.trans hr0) hnar (fun t ht hW => ⟨⟨some x, ad', G', S', rfl, hQ, ha, hG, by rw [ht]; exact hP1, hD1⟩, hS1.F ht⟩) hS1.2.2 hd hlocks
-- behind a call
theorem zm_cont {p : Program} {l : Launch} {e : Env} {R : Room} {s : State} {m : MethodId} {args : Array Value} {below : List Frame} {meth : Method} {c : Code} {H : Heap} {locs : List Loc} {cells slots : Nat} {Q : State → Prop} {pc : Nat} {ls : Array Slot} {rest st0 : List Value} {A0 A1 : Nat → Prop} {H0 : Heap} {mc ms : Nat} {free : Addr → Prop} {B : Outcome → State → Prop} {Qa : State → Outcome → State → Prop}
    (hr : va_Run p l e R s m args below meth c H locs cells slots mc ms (F0 m pc ls st0) rest Qa free) (hQ : ∀ st oc t, Qa st oc t → B oc t ∧ va_F A1 st t) (hS : va_S A0 H0 H locs) (hA : ∀ q, q < H.size → A1 q → A0 q) (hf : ∀ q, free q → A0 q)
    (kk : ∀ (v : Option Value) (t : State) (H1 : Heap) (locs1 : List Loc), t.heap = H1 → s.vm.Alike t.vm → B (.returned v) t → H.size ≤ H1.size → va_S A0 H0 H1 locs1 → W p l e R s m args below meth c H1 locs1 (cells + mc) (slots + ms) Q (F0 m (pc + 3) ls (v.toList ++ rest))) : W p l e R s m args below meth c H locs cells slots Q (F0 m pc ls st0) := by
  intro T hT X
  obtain ⟨v, st₀, t, T', L, h0, X', hL, e1, e2, hq, st⟩ := hr T hT X
  obtain ⟨hb, hz, hk⟩ := hQ _ _ _ hq
  rw [h0] at hz hk
  obtain ⟨t2, a1, b1⟩ := kk v t T'.heap (locs ++ L) e1.symm (by rw [← e2]; exact X'.warmed.alike) hb (by rw [e1]; exact hz)
    ⟨Nat.le_trans hS.1 (by rw [e1]; exact hz), fun q h1 h2 => by rw [e1, hk q (Nat.lt_of_lt_of_le h1 hS.1) (fun z => h2 (hA q (Nat.lt_of_lt_of_le h1 hS.1) z))]; exact hS.2.1 q h1 h2, fun q hq => by
      rcases List.mem_append.mp hq with h | h
      · exact hS.2.2 q h
      · exact hf _ (hL q h)⟩ T' rfl X'
  exact ⟨t2, st t2 a1, b1⟩

section
variable {M : zm_M} {sc : Option (Nat × (Nat → Int32))} {d mc ms : Nat} {Q : zm_Q} {pc : Nat} {L : zm_L} {st : List Value} {G : List zm_Sh} {S : zm_S} {nc ns : Nat}
theorem zr_iadd {x y : Int32} {n : Nat} (hd : decode M.2.1.1 pc = .ok (.iadd, 1)) (hn : pc + 1 = n) (k : zm_WP M sc d mc ms Q n L (.int (x + y) :: st) G S nc ns) : zm_WP M sc d mc ms Q pc L (.int y :: .int x :: st) G S nc ns := by
  subst hn
  intro p l e R s m args below meth c D cI cZ A QM ad0 n0 X ad H locs ls h1 h2 hP hD hS hl hz
  exact lv_iadd X.1 X.2.1 hd (k p l e R s m args below meth c D cI cZ A QM ad0 n0 X ad H locs ls h1 h2 hP hD hS hl hz)
theorem zr_isub {x y : Int32} {n : Nat} (hd : decode M.2.1.1 pc = .ok (.isub, 1)) (hn : pc + 1 = n) (k : zm_WP M sc d mc ms Q n L (.int (x - y) :: st) G S nc ns) : zm_WP M sc d mc ms Q pc L (.int y :: .int x :: st) G S nc ns := by
  subst hn
  intro p l e R s m args below meth c D cI cZ A QM ad0 n0 X ad H locs ls h1 h2 hP hD hS hl hz
  exact lv_isub X.1 X.2.1 hd (k p l e R s m args below meth c D cI cZ A QM ad0 n0 X ad H locs ls h1 h2 hP hD hS hl hz)
theorem zr_imul {x y : Int32} {n : Nat} (hd : decode M.2.1.1 pc = .ok (.imul, 1)) (hn : pc + 1 = n) (k : zm_WP M sc d mc ms Q n L (.int (x * y) :: st) G S nc ns) : zm_WP M sc d mc ms Q pc L (.int y :: .int x :: st) G S nc ns := by
  subst hn
  intro p l e R s m args below meth c D cI cZ A QM ad0 n0 X ad H locs ls h1 h2 hP hD hS hl hz
  exact lv_imul X.1 X.2.1 hd (k p l e R s m args below meth c D cI cZ A QM ad0 n0 X ad H locs ls h1 h2 hP hD hS hl hz)
theorem zr_iand {x y : Int32} {n : Nat} (hd : decode M.2.1.1 pc = .ok (.iand, 1)) (hn : pc + 1 = n) (k : zm_WP M sc d mc ms Q n L (.int (x &&& y) :: st) G S nc ns) : zm_WP M sc d mc ms Q pc L (.int y :: .int x :: st) G S nc ns := by
  subst hn
  intro p l e R s m args below meth c D cI cZ A QM ad0 n0 X ad H locs ls h1 h2 hP hD hS hl hz
  exact lv_iand X.1 X.2.1 hd (k p l e R s m args below meth c D cI cZ A QM ad0 n0 X ad H locs ls h1 h2 hP hD hS hl hz)
theorem zr_ior {x y : Int32} {n : Nat} (hd : decode M.2.1.1 pc = .ok (.ior, 1)) (hn : pc + 1 = n) (k : zm_WP M sc d mc ms Q n L (.int (x ||| y) :: st) G S nc ns) : zm_WP M sc d mc ms Q pc L (.int y :: .int x :: st) G S nc ns := by
  subst hn
  intro p l e R s m args below meth c D cI cZ A QM ad0 n0 X ad H locs ls h1 h2 hP hD hS hl hz
  exact lv_ior X.1 X.2.1 hd (k p l e R s m args below meth c D cI cZ A QM ad0 n0 X ad H locs ls h1 h2 hP hD hS hl hz)
theorem zr_ixor {x y : Int32} {n : Nat} (hd : decode M.2.1.1 pc = .ok (.ixor, 1)) (hn : pc + 1 = n) (k : zm_WP M sc d mc ms Q n L (.int (x ^^^ y) :: st) G S nc ns) : zm_WP M sc d mc ms Q pc L (.int y :: .int x :: st) G S nc ns := by
  subst hn
  intro p l e R s m args below meth c D cI cZ A QM ad0 n0 X ad H locs ls h1 h2 hP hD hS hl hz
  exact lv_ixor X.1 X.2.1 hd (k p l e R s m args below meth c D cI cZ A QM ad0 n0 X ad H locs ls h1 h2 hP hD hS hl hz)
theorem zr_ishl {x y : Int32} {n : Nat} (hd : decode M.2.1.1 pc = .ok (.ishl, 1)) (hn : pc + 1 = n) (k : zm_WP M sc d mc ms Q n L (.int (x <<< (y &&& 31)) :: st) G S nc ns) : zm_WP M sc d mc ms Q pc L (.int y :: .int x :: st) G S nc ns := by
  subst hn
  intro p l e R s m args below meth c D cI cZ A QM ad0 n0 X ad H locs ls h1 h2 hP hD hS hl hz
  exact lv_ishl X.1 X.2.1 hd (k p l e R s m args below meth c D cI cZ A QM ad0 n0 X ad H locs ls h1 h2 hP hD hS hl hz)
theorem zr_ishr {x y : Int32} {n : Nat} (hd : decode M.2.1.1 pc = .ok (.ishr, 1)) (hn : pc + 1 = n) (k : zm_WP M sc d mc ms Q n L (.int (x >>> (y &&& 31)) :: st) G S nc ns) : zm_WP M sc d mc ms Q pc L (.int y :: .int x :: st) G S nc ns := by
  subst hn
  intro p l e R s m args below meth c D cI cZ A QM ad0 n0 X ad H locs ls h1 h2 hP hD hS hl hz
  exact lv_ishr X.1 X.2.1 hd (k p l e R s m args below meth c D cI cZ A QM ad0 n0 X ad H locs ls h1 h2 hP hD hS hl hz)
theorem zr_iushr {x y : Int32} {n : Nat} (hd : decode M.2.1.1 pc = .ok (.iushr, 1)) (hn : pc + 1 = n) (k : zm_WP M sc d mc ms Q n L (.int ((x.toUInt32 >>> (y.toUInt32 &&& Int32.toUInt32 31)).toInt32) :: st) G S nc ns) : zm_WP M sc d mc ms Q pc L (.int y :: .int x :: st) G S nc ns := by
  subst hn
  intro p l e R s m args below meth c D cI cZ A QM ad0 n0 X ad H locs ls h1 h2 hP hD hS hl hz
  exact lv_iushr X.1 X.2.1 hd rfl (k p l e R s m args below meth c D cI cZ A QM ad0 n0 X ad H locs ls h1 h2 hP hD hS hl hz)
theorem zr_idiv {x y : Int32} {n : Nat} (hd : decode M.2.1.1 pc = .ok (.idiv, 1)) (hn : pc + 1 = n) (hne : ¬ y = 0) (k : zm_WP M sc d mc ms Q n L (.int (x / y) :: st) G S nc ns) : zm_WP M sc d mc ms Q pc L (.int y :: .int x :: st) G S nc ns := by
  subst hn
  intro p l e R s m args below meth c D cI cZ A QM ad0 n0 X ad H locs ls h1 h2 hP hD hS hl hz
  exact lv_idiv X.1 X.2.1 hd hne (k p l e R s m args below meth c D cI cZ A QM ad0 n0 X ad H locs ls h1 h2 hP hD hS hl hz)
theorem zr_irem {x y : Int32} {n : Nat} (hd : decode M.2.1.1 pc = .ok (.irem, 1)) (hn : pc + 1 = n) (hne : ¬ y = 0) (k : zm_WP M sc d mc ms Q n L (.int (x - x / y * y) :: st) G S nc ns) : zm_WP M sc d mc ms Q pc L (.int y :: .int x :: st) G S nc ns := by
  subst hn
  intro p l e R s m args below meth c D cI cZ A QM ad0 n0 X ad H locs ls h1 h2 hP hD hS hl hz
  exact lv_irem X.1 X.2.1 hd hne (k p l e R s m args below meth c D cI cZ A QM ad0 n0 X ad H locs ls h1 h2 hP hD hS hl hz)
theorem zr_ineg {x : Int32} {n : Nat} (hd : decode M.2.1.1 pc = .ok (.ineg, 1)) (hn : pc + 1 = n) (k : zm_WP M sc d mc ms Q n L (.int (-x) :: st) G S nc ns) : zm_WP M sc d mc ms Q pc L (.int x :: st) G S nc ns := by
  subst hn
  intro p l e R s m args below meth c D cI cZ A QM ad0 n0 X ad H locs ls h1 h2 hP hD hS hl hz
  exact lv_ineg X.1 X.2.1 hd (k p l e R s m args below meth c D cI cZ A QM ad0 n0 X ad H locs ls h1 h2 hP hD hS hl hz)
theorem zr_iconst {i : Int} {v : Int32} {n : Nat} (hd : decode M.2.1.1 pc = .ok (.iconst i, 1)) (hn : pc + 1 = n) (hv : Int32.ofInt i = v) (k : zm_WP M sc d mc ms Q n L (.int v :: st) G S nc ns) : zm_WP M sc d mc ms Q pc L st G S nc ns := by
  subst hn
  intro p l e R s m args below meth c D cI cZ A QM ad0 n0 X ad H locs ls h1 h2 hP hD hS hl hz
  exact lv_iconst X.1 X.2.1 hd hv (k p l e R s m args below meth c D cI cZ A QM ad0 n0 X ad H locs ls h1 h2 hP hD hS hl hz)
theorem zr_bipush {i : Int} {v : Int32} {n : Nat} (hd : decode M.2.1.1 pc = .ok (.bipush i, 2)) (hn : pc + 2 = n) (hv : (Int8.ofInt i).toInt32 = v) (k : zm_WP M sc d mc ms Q n L (.int v :: st) G S nc ns) : zm_WP M sc d mc ms Q pc L st G S nc ns := by
  subst hn
  intro p l e R s m args below meth c D cI cZ A QM ad0 n0 X ad H locs ls h1 h2 hP hD hS hl hz
  exact lv_bipush X.1 X.2.1 hd hv (k p l e R s m args below meth c D cI cZ A QM ad0 n0 X ad H locs ls h1 h2 hP hD hS hl hz)
theorem zr_sipush {i : Int} {v : Int32} {n : Nat} (hd : decode M.2.1.1 pc = .ok (.sipush i, 3)) (hn : pc + 3 = n) (hv : (Int16.ofInt i).toInt32 = v) (k : zm_WP M sc d mc ms Q n L (.int v :: st) G S nc ns) : zm_WP M sc d mc ms Q pc L st G S nc ns := by
  subst hn
  intro p l e R s m args below meth c D cI cZ A QM ad0 n0 X ad H locs ls h1 h2 hP hD hS hl hz
  exact lv_sipush X.1 X.2.1 hd hv (k p l e R s m args below meth c D cI cZ A QM ad0 n0 X ad H locs ls h1 h2 hP hD hS hl hz)
theorem zr_iload_n {k4 : Fin 4} {i : Nat} {x : Int32} {n : Nat} (hd : decode M.2.1.1 pc = .ok (.iload_n k4, 1)) (hn : pc + 1 = n) (hi : (k4 : Nat) = i) (hx : L[i]? = some (some (.int x))) (k : zm_WP M sc d mc ms Q n L (.int x :: st) G S nc ns) : zm_WP M sc d mc ms Q pc L st G S nc ns := by
  subst hn
  intro p l e R s m args below meth c D cI cZ A QM ad0 n0 X ad H locs ls h1 h2 hP hD hS hl hz
  exact lv_iload_n X.1 X.2.1 hd hi (hl.at hx) (k p l e R s m args below meth c D cI cZ A QM ad0 n0 X ad H locs ls h1 h2 hP hD hS hl hz)
theorem zr_aload_n {k4 : Fin 4} {i : Nat} {x : Nat} {n : Nat} (hd : decode M.2.1.1 pc = .ok (.aload_n k4, 1)) (hn : pc + 1 = n) (hi : (k4 : Nat) = i) (hx : L[i]? = some (some (.ref x))) (k : zm_WP M sc d mc ms Q n L (.ref x :: st) G S nc ns) : zm_WP M sc d mc ms Q pc L st G S nc ns := by
  subst hn
  intro p l e R s m args below meth c D cI cZ A QM ad0 n0 X ad H locs ls h1 h2 hP hD hS hl hz
  exact lv_aload_n X.1 X.2.1 hd hi (hl.at hx) (k p l e R s m args below meth c D cI cZ A QM ad0 n0 X ad H locs ls h1 h2 hP hD hS hl hz)
theorem zr_iload {i : Nat} {x : Int32} {n : Nat} (hd : decode M.2.1.1 pc = .ok (.iload i, 2)) (hn : pc + 2 = n) (hx : L[i]? = some (some (.int x))) (k : zm_WP M sc d mc ms Q n L (.int x :: st) G S nc ns) : zm_WP M sc d mc ms Q pc L st G S nc ns := by
  subst hn
  intro p l e R s m args below meth c D cI cZ A QM ad0 n0 X ad H locs ls h1 h2 hP hD hS hl hz
  exact lv_iload X.1 X.2.1 hd (hl.at hx) (k p l e R s m args below meth c D cI cZ A QM ad0 n0 X ad H locs ls h1 h2 hP hD hS hl hz)
theorem zr_aload {i : Nat} {x : Nat} {n : Nat} (hd : decode M.2.1.1 pc = .ok (.aload i, 2)) (hn : pc + 2 = n) (hx : L[i]? = some (some (.ref x))) (k : zm_WP M sc d mc ms Q n L (.ref x :: st) G S nc ns) : zm_WP M sc d mc ms Q pc L st G S nc ns := by
  subst hn
  intro p l e R s m args below meth c D cI cZ A QM ad0 n0 X ad H locs ls h1 h2 hP hD hS hl hz
  exact lv_aload X.1 X.2.1 hd (hl.at hx) (k p l e R s m args below meth c D cI cZ A QM ad0 n0 X ad H locs ls h1 h2 hP hD hS hl hz)
theorem zr_dup {v : Value} {n : Nat} (hd : decode M.2.1.1 pc = .ok (.dup, 1)) (hn : pc + 1 = n) (hv : v.category = 1) (k : zm_WP M sc d mc ms Q n L (v :: v :: st) G S nc ns) : zm_WP M sc d mc ms Q pc L (v :: st) G S nc ns := by
  subst hn
  intro p l e R s m args below meth c D cI cZ A QM ad0 n0 X ad H locs ls h1 h2 hP hD hS hl hz
  exact lv_dup X.1 X.2.1 hd (by rw [zm_cat]; exact hv) (k p l e R s m args below meth c D cI cZ A QM ad0 n0 X ad H locs ls h1 h2 hP hD hS hl hz)
theorem zr_dup2 {v w : Value} {n : Nat} (hd : decode M.2.1.1 pc = .ok (.dup2, 1)) (hn : pc + 1 = n) (hv : v.category = 1) (hw : w.category = 1) (k : zm_WP M sc d mc ms Q n L (v :: w :: v :: w :: st) G S nc ns) : zm_WP M sc d mc ms Q pc L (v :: w :: st) G S nc ns := by
  subst hn
  intro p l e R s m args below meth c D cI cZ A QM ad0 n0 X ad H locs ls h1 h2 hP hD hS hl hz
  exact lv_dup2_11 X.1 X.2.1 hd (by rw [zm_cat]; exact hv) (by rw [zm_cat]; exact hw) (k p l e R s m args below meth c D cI cZ A QM ad0 n0 X ad H locs ls h1 h2 hP hD hS hl hz)
theorem zr_dup_x1 {v w : Value} {n : Nat} (hd : decode M.2.1.1 pc = .ok (.dup_x1, 1)) (hn : pc + 1 = n) (hv : v.category = 1) (hw : w.category = 1) (k : zm_WP M sc d mc ms Q n L (v :: w :: v :: st) G S nc ns) : zm_WP M sc d mc ms Q pc L (v :: w :: st) G S nc ns := by
  subst hn
  intro p l e R s m args below meth c D cI cZ A QM ad0 n0 X ad H locs ls h1 h2 hP hD hS hl hz
  exact lv_dup_x1 X.1 X.2.1 hd (by rw [zm_cat]; exact hv) (by rw [zm_cat]; exact hw) (k p l e R s m args below meth c D cI cZ A QM ad0 n0 X ad H locs ls h1 h2 hP hD hS hl hz)
theorem zr_pop {v : Value} {n : Nat} (hd : decode M.2.1.1 pc = .ok (.pop, 1)) (hn : pc + 1 = n) (hv : v.category = 1) (k : zm_WP M sc d mc ms Q n L st G S nc ns) : zm_WP M sc d mc ms Q pc L (v :: st) G S nc ns := by
  subst hn
  intro p l e R s m args below meth c D cI cZ A QM ad0 n0 X ad H locs ls h1 h2 hP hD hS hl hz
  exact lv_pop X.1 X.2.1 hd (by rw [zm_cat]; exact hv) (k p l e R s m args below meth c D cI cZ A QM ad0 n0 X ad H locs ls h1 h2 hP hD hS hl hz)
theorem zr_istore_n {k4 : Fin 4} {i : Nat} {x : Int32} {n : Nat} {L' : zm_L} (hd : decode M.2.1.1 pc = .ok (.istore_n k4, 1)) (hn : pc + 1 = n) (hi : (k4 : Nat) = i) (hb : Nat.ble (i + 1) L.length = true) (hL : L.set i (some (.int x)) = L') (k : zm_WP M sc d mc ms Q n L' st G S nc ns) : zm_WP M sc d mc ms Q pc L (.int x :: st) G S nc ns := by
  subst hn hL
  intro p l e R s m args below meth c D cI cZ A QM ad0 n0 X ad H locs ls h1 h2 hP hD hS hl hz
  exact lv_istore_n X.1 X.2.1 hd hi hl.has (Nat.le_of_ble_eq_true hb) rfl (fun ls' hls => k p l e R s m args below meth c D cI cZ A QM ad0 n0 X ad H locs ls' h1 h2 hP hD hS (hl.store (v := .int x) rfl hls) (by rw [List.length_set]; exact hz))
theorem zr_istore {i : Nat} {x : Int32} {n : Nat} {L' : zm_L} (hd : decode M.2.1.1 pc = .ok (.istore i, 2)) (hn : pc + 2 = n) (hb : Nat.ble (i + 1) L.length = true) (hL : L.set i (some (.int x)) = L') (k : zm_WP M sc d mc ms Q n L' st G S nc ns) : zm_WP M sc d mc ms Q pc L (.int x :: st) G S nc ns := by
  subst hn hL
  intro p l e R s m args below meth c D cI cZ A QM ad0 n0 X ad H locs ls h1 h2 hP hD hS hl hz
  exact lv_istore X.1 X.2.1 hd hl.has (Nat.le_of_ble_eq_true hb) rfl (fun ls' hls => k p l e R s m args below meth c D cI cZ A QM ad0 n0 X ad H locs ls' h1 h2 hP hD hS (hl.store (v := .int x) rfl hls) (by rw [List.length_set]; exact hz))
theorem zr_astore_n {k4 : Fin 4} {i : Nat} {x : Nat} {n : Nat} {L' : zm_L} (hd : decode M.2.1.1 pc = .ok (.astore_n k4, 1)) (hn : pc + 1 = n) (hi : (k4 : Nat) = i) (hb : Nat.ble (i + 1) L.length = true) (hL : L.set i (some (.ref x)) = L') (k : zm_WP M sc d mc ms Q n L' st G S nc ns) : zm_WP M sc d mc ms Q pc L (.ref x :: st) G S nc ns := by
  subst hn hL
  intro p l e R s m args below meth c D cI cZ A QM ad0 n0 X ad H locs ls h1 h2 hP hD hS hl hz
  exact lv_astore_n X.1 X.2.1 hd hi hl.has (Nat.le_of_ble_eq_true hb) rfl (fun ls' hls => k p l e R s m args below meth c D cI cZ A QM ad0 n0 X ad H locs ls' h1 h2 hP hD hS (hl.store (v := .ref x) rfl hls) (by rw [List.length_set]; exact hz))
theorem zr_astore {i : Nat} {x : Nat} {n : Nat} {L' : zm_L} (hd : decode M.2.1.1 pc = .ok (.astore i, 2)) (hn : pc + 2 = n) (hb : Nat.ble (i + 1) L.length = true) (hL : L.set i (some (.ref x)) = L') (k : zm_WP M sc d mc ms Q n L' st G S nc ns) : zm_WP M sc d mc ms Q pc L (.ref x :: st) G S nc ns := by
  subst hn hL
  intro p l e R s m args below meth c D cI cZ A QM ad0 n0 X ad H locs ls h1 h2 hP hD hS hl hz
  exact lv_astore X.1 X.2.1 hd hl.has (Nat.le_of_ble_eq_true hb) rfl (fun ls' hls => k p l e R s m args below meth c D cI cZ A QM ad0 n0 X ad H locs ls' h1 h2 hP hD hS (hl.store (v := .ref x) rfl hls) (by rw [List.length_set]; exact hz))
theorem zr_iinc {i : Nat} {c0 : Int} {x w : Int32} {n : Nat} {L' : zm_L} (hd : decode M.2.1.1 pc = .ok (.iinc i c0, 3)) (hn : pc + 3 = n) (hw : Int32.ofInt c0 = w) (hx : L[i]? = some (some (.int x))) (hL : L.set i (some (.int (x + w))) = L') (k : zm_WP M sc d mc ms Q n L' st G S nc ns) : zm_WP M sc d mc ms Q pc L st G S nc ns := by
  subst hn hL hw
  intro p l e R s m args below meth c D cI cZ A QM ad0 n0 X ad H locs ls h1 h2 hP hD hS hl hz
  obtain ⟨kq, hq⟩ := List.getElem?_of_mem (zm_as_mem (ad := ad) (L := L) (q := (i, Value.int x)) |>.mpr ⟨.int x, hx, rfl⟩)
  exact lv_iinc X.1 X.2.1 hd hl.has hq rfl (List.getElem?_eq_some_iff.mp hx).1 rfl (fun ls' hls => k p l e R s m args below meth c D cI cZ A QM ad0 n0 X ad H locs ls' h1 h2 hP hD hS (hl.store (v := .int _) rfl hls) (by rw [List.length_set]; exact hz))
theorem zr_weak {L' : zm_L} (h : zm_LE L' L) (k : zm_WP M sc d mc ms Q pc L' st G S nc ns) : zm_WP M sc d mc ms Q pc L st G S nc ns := by
  intro p l e R s m args below meth c D cI cZ A QM ad0 n0 X ad H locs ls h1 h2 hP hD hS hl hz
  exact k p l e R s m args below meth c D cI cZ A QM ad0 n0 X ad H locs ls h1 h2 hP hD hS (hl.le h) (h.1.trans hz)
theorem zr_icmp_eq {x y : Int32} {off : Int} {tgt n : Nat} (hd : decode M.2.1.1 pc = .ok (.if_icmp .eq off, 3)) (hn : pc + 3 = n) (ht : (pc : Int) + off = (tgt : Int)) (kt : x = y → zm_WP M sc d mc ms Q tgt L st G S nc ns) (kf : ¬ x = y → zm_WP M sc d mc ms Q n L st G S nc ns) : zm_WP M sc d mc ms Q pc L (.int y :: .int x :: st) G S nc ns := by
  subst hn
  intro p l e R s m args below meth c D cI cZ A QM ad0 n0 X ad H locs ls h1 h2 hP hD hS hl hz
  exact lv_icmp_eq X.1 X.2.1 hd ht (fun h => kt h p l e R s m args below meth c D cI cZ A QM ad0 n0 X ad H locs ls h1 h2 hP hD hS hl hz) (fun h => kf h p l e R s m args below meth c D cI cZ A QM ad0 n0 X ad H locs ls h1 h2 hP hD hS hl hz)
theorem zr_if_eq {x : Int32} {off : Int} {tgt n : Nat} (hd : decode M.2.1.1 pc = .ok (.ifCond .eq off, 3)) (hn : pc + 3 = n) (ht : (pc : Int) + off = (tgt : Int)) (kt : x = 0 → zm_WP M sc d mc ms Q tgt L st G S nc ns) (kf : ¬ x = 0 → zm_WP M sc d mc ms Q n L st G S nc ns) : zm_WP M sc d mc ms Q pc L (.int x :: st) G S nc ns := by
  subst hn
  intro p l e R s m args below meth c D cI cZ A QM ad0 n0 X ad H locs ls h1 h2 hP hD hS hl hz
  exact lv_if_eq X.1 X.2.1 hd ht (fun h => kt h p l e R s m args below meth c D cI cZ A QM ad0 n0 X ad H locs ls h1 h2 hP hD hS hl hz) (fun h => kf h p l e R s m args below meth c D cI cZ A QM ad0 n0 X ad H locs ls h1 h2 hP hD hS hl hz)
theorem zr_icmp_ne {x y : Int32} {off : Int} {tgt n : Nat} (hd : decode M.2.1.1 pc = .ok (.if_icmp .ne off, 3)) (hn : pc + 3 = n) (ht : (pc : Int) + off = (tgt : Int)) (kt : ¬ x = y → zm_WP M sc d mc ms Q tgt L st G S nc ns) (kf : x = y → zm_WP M sc d mc ms Q n L st G S nc ns) : zm_WP M sc d mc ms Q pc L (.int y :: .int x :: st) G S nc ns := by
  subst hn
  intro p l e R s m args below meth c D cI cZ A QM ad0 n0 X ad H locs ls h1 h2 hP hD hS hl hz
  exact lv_icmp_ne X.1 X.2.1 hd ht (fun h => kt h p l e R s m args below meth c D cI cZ A QM ad0 n0 X ad H locs ls h1 h2 hP hD hS hl hz) (fun h => kf h p l e R s m args below meth c D cI cZ A QM ad0 n0 X ad H locs ls h1 h2 hP hD hS hl hz)
theorem zr_if_ne {x : Int32} {off : Int} {tgt n : Nat} (hd : decode M.2.1.1 pc = .ok (.ifCond .ne off, 3)) (hn : pc + 3 = n) (ht : (pc : Int) + off = (tgt : Int)) (kt : ¬ x = 0 → zm_WP M sc d mc ms Q tgt L st G S nc ns) (kf : x = 0 → zm_WP M sc d mc ms Q n L st G S nc ns) : zm_WP M sc d mc ms Q pc L (.int x :: st) G S nc ns := by
  subst hn
  intro p l e R s m args below meth c D cI cZ A QM ad0 n0 X ad H locs ls h1 h2 hP hD hS hl hz
  exact lv_if_ne X.1 X.2.1 hd ht (fun h => kt h p l e R s m args below meth c D cI cZ A QM ad0 n0 X ad H locs ls h1 h2 hP hD hS hl hz) (fun h => kf h p l e R s m args below meth c D cI cZ A QM ad0 n0 X ad H locs ls h1 h2 hP hD hS hl hz)
theorem zr_icmp_lt {x y : Int32} {off : Int} {tgt n : Nat} (hd : decode M.2.1.1 pc = .ok (.if_icmp .lt off, 3)) (hn : pc + 3 = n) (ht : (pc : Int) + off = (tgt : Int)) (kt : x < y → zm_WP M sc d mc ms Q tgt L st G S nc ns) (kf : ¬ x < y → zm_WP M sc d mc ms Q n L st G S nc ns) : zm_WP M sc d mc ms Q pc L (.int y :: .int x :: st) G S nc ns := by
  subst hn
  intro p l e R s m args below meth c D cI cZ A QM ad0 n0 X ad H locs ls h1 h2 hP hD hS hl hz
  exact lv_icmp_lt X.1 X.2.1 hd ht (fun h => kt h p l e R s m args below meth c D cI cZ A QM ad0 n0 X ad H locs ls h1 h2 hP hD hS hl hz) (fun h => kf h p l e R s m args below meth c D cI cZ A QM ad0 n0 X ad H locs ls h1 h2 hP hD hS hl hz)
theorem zr_if_lt {x : Int32} {off : Int} {tgt n : Nat} (hd : decode M.2.1.1 pc = .ok (.ifCond .lt off, 3)) (hn : pc + 3 = n) (ht : (pc : Int) + off = (tgt : Int)) (kt : x < 0 → zm_WP M sc d mc ms Q tgt L st G S nc ns) (kf : ¬ x < 0 → zm_WP M sc d mc ms Q n L st G S nc ns) : zm_WP M sc d mc ms Q pc L (.int x :: st) G S nc ns := by
  subst hn
  intro p l e R s m args below meth c D cI cZ A QM ad0 n0 X ad H locs ls h1 h2 hP hD hS hl hz
  exact lv_if_lt X.1 X.2.1 hd ht (fun h => kt h p l e R s m args below meth c D cI cZ A QM ad0 n0 X ad H locs ls h1 h2 hP hD hS hl hz) (fun h => kf h p l e R s m args below meth c D cI cZ A QM ad0 n0 X ad H locs ls h1 h2 hP hD hS hl hz)
theorem zr_icmp_ge {x y : Int32} {off : Int} {tgt n : Nat} (hd : decode M.2.1.1 pc = .ok (.if_icmp .ge off, 3)) (hn : pc + 3 = n) (ht : (pc : Int) + off = (tgt : Int)) (kt : y ≤ x → zm_WP M sc d mc ms Q tgt L st G S nc ns) (kf : ¬ y ≤ x → zm_WP M sc d mc ms Q n L st G S nc ns) : zm_WP M sc d mc ms Q pc L (.int y :: .int x :: st) G S nc ns := by
  subst hn
  intro p l e R s m args below meth c D cI cZ A QM ad0 n0 X ad H locs ls h1 h2 hP hD hS hl hz
  exact lv_icmp_ge X.1 X.2.1 hd ht (fun h => kt h p l e R s m args below meth c D cI cZ A QM ad0 n0 X ad H locs ls h1 h2 hP hD hS hl hz) (fun h => kf h p l e R s m args below meth c D cI cZ A QM ad0 n0 X ad H locs ls h1 h2 hP hD hS hl hz)
theorem zr_if_ge {x : Int32} {off : Int} {tgt n : Nat} (hd : decode M.2.1.1 pc = .ok (.ifCond .ge off, 3)) (hn : pc + 3 = n) (ht : (pc : Int) + off = (tgt : Int)) (kt : 0 ≤ x → zm_WP M sc d mc ms Q tgt L st G S nc ns) (kf : ¬ 0 ≤ x → zm_WP M sc d mc ms Q n L st G S nc ns) : zm_WP M sc d mc ms Q pc L (.int x :: st) G S nc ns := by
  subst hn
  intro p l e R s m args below meth c D cI cZ A QM ad0 n0 X ad H locs ls h1 h2 hP hD hS hl hz
  exact lv_if_ge X.1 X.2.1 hd ht (fun h => kt h p l e R s m args below meth c D cI cZ A QM ad0 n0 X ad H locs ls h1 h2 hP hD hS hl hz) (fun h => kf h p l e R s m args below meth c D cI cZ A QM ad0 n0 X ad H locs ls h1 h2 hP hD hS hl hz)
theorem zr_icmp_gt {x y : Int32} {off : Int} {tgt n : Nat} (hd : decode M.2.1.1 pc = .ok (.if_icmp .gt off, 3)) (hn : pc + 3 = n) (ht : (pc : Int) + off = (tgt : Int)) (kt : y < x → zm_WP M sc d mc ms Q tgt L st G S nc ns) (kf : ¬ y < x → zm_WP M sc d mc ms Q n L st G S nc ns) : zm_WP M sc d mc ms Q pc L (.int y :: .int x :: st) G S nc ns := by
  subst hn
  intro p l e R s m args below meth c D cI cZ A QM ad0 n0 X ad H locs ls h1 h2 hP hD hS hl hz
  exact lv_icmp_gt X.1 X.2.1 hd ht (fun h => kt h p l e R s m args below meth c D cI cZ A QM ad0 n0 X ad H locs ls h1 h2 hP hD hS hl hz) (fun h => kf h p l e R s m args below meth c D cI cZ A QM ad0 n0 X ad H locs ls h1 h2 hP hD hS hl hz)
theorem zr_if_gt {x : Int32} {off : Int} {tgt n : Nat} (hd : decode M.2.1.1 pc = .ok (.ifCond .gt off, 3)) (hn : pc + 3 = n) (ht : (pc : Int) + off = (tgt : Int)) (kt : 0 < x → zm_WP M sc d mc ms Q tgt L st G S nc ns) (kf : ¬ 0 < x → zm_WP M sc d mc ms Q n L st G S nc ns) : zm_WP M sc d mc ms Q pc L (.int x :: st) G S nc ns := by
  subst hn
  intro p l e R s m args below meth c D cI cZ A QM ad0 n0 X ad H locs ls h1 h2 hP hD hS hl hz
  exact lv_if_gt X.1 X.2.1 hd ht (fun h => kt h p l e R s m args below meth c D cI cZ A QM ad0 n0 X ad H locs ls h1 h2 hP hD hS hl hz) (fun h => kf h p l e R s m args below meth c D cI cZ A QM ad0 n0 X ad H locs ls h1 h2 hP hD hS hl hz)
theorem zr_icmp_le {x y : Int32} {off : Int} {tgt n : Nat} (hd : decode M.2.1.1 pc = .ok (.if_icmp .le off, 3)) (hn : pc + 3 = n) (ht : (pc : Int) + off = (tgt : Int)) (kt : x ≤ y → zm_WP M sc d mc ms Q tgt L st G S nc ns) (kf : ¬ x ≤ y → zm_WP M sc d mc ms Q n L st G S nc ns) : zm_WP M sc d mc ms Q pc L (.int y :: .int x :: st) G S nc ns := by
  subst hn
  intro p l e R s m args below meth c D cI cZ A QM ad0 n0 X ad H locs ls h1 h2 hP hD hS hl hz
  exact lv_icmp_le X.1 X.2.1 hd ht (fun h => kt h p l e R s m args below meth c D cI cZ A QM ad0 n0 X ad H locs ls h1 h2 hP hD hS hl hz) (fun h => kf h p l e R s m args below meth c D cI cZ A QM ad0 n0 X ad H locs ls h1 h2 hP hD hS hl hz)
theorem zr_if_le {x : Int32} {off : Int} {tgt n : Nat} (hd : decode M.2.1.1 pc = .ok (.ifCond .le off, 3)) (hn : pc + 3 = n) (ht : (pc : Int) + off = (tgt : Int)) (kt : x ≤ 0 → zm_WP M sc d mc ms Q tgt L st G S nc ns) (kf : ¬ x ≤ 0 → zm_WP M sc d mc ms Q n L st G S nc ns) : zm_WP M sc d mc ms Q pc L (.int x :: st) G S nc ns := by
  subst hn
  intro p l e R s m args below meth c D cI cZ A QM ad0 n0 X ad H locs ls h1 h2 hP hD hS hl hz
  exact lv_if_le X.1 X.2.1 hd ht (fun h => kt h p l e R s m args below meth c D cI cZ A QM ad0 n0 X ad H locs ls h1 h2 hP hD hS hl hz) (fun h => kf h p l e R s m args below meth c D cI cZ A QM ad0 n0 X ad H locs ls h1 h2 hP hD hS hl hz)
theorem zr_goto {off : Int} {tgt : Nat} (hd : decode M.2.1.1 pc = .ok (.goto off, 3)) (ht : (pc : Int) + off = (tgt : Int)) (k : zm_WP M sc d mc ms Q tgt L st G S nc ns) : zm_WP M sc d mc ms Q pc L st G S nc ns := by
  intro p l e R s m args below meth c D cI cZ A QM ad0 n0 X ad H locs ls h1 h2 hP hD hS hl hz
  exact lv_goto X.1 X.2.1 hd ht (k p l e R s m args below meth c D cI cZ A QM ad0 n0 X ad H locs ls h1 h2 hP hD hS hl hz)
theorem zr_tableIn {x : Int32} {dflt lo hi off : Int} {offs : Array Int} {len tgt : Nat} (hd : decode M.2.1.1 pc = .ok (.tableswitch dflt lo hi offs, len)) (ha : ¬ x.toInt < lo) (hb : ¬ hi < x.toInt) (ho : offs[(x.toInt - lo).toNat]? = some off) (ht : (pc : Int) + off = (tgt : Int)) (k : zm_WP M sc d mc ms Q tgt L st G S nc ns) : zm_WP M sc d mc ms Q pc L (.int x :: st) G S nc ns := by
  intro p l e R s m args below meth c D cI cZ A QM ad0 n0 X ad H locs ls h1 h2 hP hD hS hl hz
  exact lv_tableIn X.1 X.2.1 hd ha hb ho ht (k p l e R s m args below meth c D cI cZ A QM ad0 n0 X ad H locs ls h1 h2 hP hD hS hl hz)
theorem zr_tableOut {x : Int32} {dflt lo hi : Int} {offs : Array Int} {len tgt : Nat} (hd : decode M.2.1.1 pc = .ok (.tableswitch dflt lo hi offs, len)) (ha : x.toInt < lo ∨ hi < x.toInt) (ht : (pc : Int) + dflt = (tgt : Int)) (k : zm_WP M sc d mc ms Q tgt L st G S nc ns) : zm_WP M sc d mc ms Q pc L (.int x :: st) G S nc ns := by
  intro p l e R s m args below meth c D cI cZ A QM ad0 n0 X ad H locs ls h1 h2 hP hD hS hl hz
  exact lv_tableOut X.1 X.2.1 hd ha ht (k p l e R s m args below meth c D cI cZ A QM ad0 n0 X ad H locs ls h1 h2 hP hD hS hl hz)
theorem zr_ldc {i : Nat} {v : Int32} {n : Nat} (hd : decode M.2.1.1 pc = .ok (.ldc i, 2)) (hn : pc + 2 = n) (hc : Cond.constant M.1.cls i v ∈ zm_all) (k : zm_WP M sc d mc ms Q n L (.int v :: st) G S nc ns) : zm_WP M sc d mc ms Q pc L st G S nc ns := by
  subst hn
  intro p l e R s m args below meth c D cI cZ A QM ad0 n0 X ad H locs ls h1 h2 hP hD hS hl hz
  exact lv_ldc X.1 X.2.1 X.2.2.2.1 (X.2.2.2.2.1.1 _ hc) hd (k p l e R s m args below meth c D cI cZ A QM ad0 n0 X ad H locs ls h1 h2 hP hD hS hl hz)
def zm_ix (i : Int32) (j n : Nat) : Prop := i.toNatClampNeg = j ∧ vp_in i n
end
theorem zm_ixN {j N : Nat} (h : j < N) (hN : N < 2147483648) : zm_ix (nI j) j N := ⟨nI_clamp (by omega), vp_in_nI h hN⟩
theorem zm_nz {x : Int32} (h : x = 0 ∨ x = 1) : narrow .boolean (.int x) = .int x := by rcases h with rfl | rfl <;> rfl
theorem zm_fz {x : Int32} (h : x = 0 ∨ x = 1) : fits .boolean (.int x) = true := by rcases h with rfl | rfl <;> rfl
theorem zm_vz {x : Int32} (h : x = 0 ∨ x = 1) : vp_nar .boolean x = x := by rcases h with rfl | rfl <;> rfl
theorem zm_tyI {cI cZ : ClassId} : (zm_tys cI cZ)[0]? = some (cI, FieldType.int) := rfl
theorem zm_tyZ {cI cZ : ClassId} : (zm_tys cI cZ)[1]? = some (cZ, FieldType.boolean) := rfl
section
variable {M : zm_M} {sc : Option (Nat × (Nat → Int32))} {d mc ms : Nat} {Q : zm_Q} {pc : Nat} {L : zm_L} {st : List Value} {G : List zm_Sh} {S : zm_S} {nc ns : Nat}
theorem zr_iaload {a N : Nat} {i : Int32} (j : Nat) {n : Nat} (hd : decode M.2.1.1 pc = .ok (.iaload, 1)) (hn : pc + 1 = n) (hg : G[a]? = some (.inl (false, N))) (hi : zm_ix i j N) (k : zm_WP M sc d mc ms Q n L (.int (S a j) :: st) G S nc ns) : zm_WP M sc d mc ms Q pc L (.int i :: .ref a :: st) G S nc ns := by
  subst hn
  obtain ⟨rfl, hi⟩ := hi
  intro p l e R s m args below meth c D cI cZ A QM ad0 n0 X ad H locs ls h1 h2 hP hD hS hl hz
  exact va_iald X.1 X.2.1 X.2.2.2.2.2.1 hP a 0 (zm_w_get hg) zm_tyI hi hd (k p l e R s m args below meth c D cI cZ A QM ad0 n0 X ad H locs ls h1 h2 hP hD hS hl hz)
theorem zr_baload {a N : Nat} {i : Int32} (j : Nat) {n : Nat} (hd : decode M.2.1.1 pc = .ok (.baload, 1)) (hn : pc + 1 = n) (hg : G[a]? = some (.inl (true, N))) (hi : zm_ix i j N) (k : zm_WP M sc d mc ms Q n L (.int (S a j) :: st) G S nc ns) : zm_WP M sc d mc ms Q pc L (.int i :: .ref a :: st) G S nc ns := by
  subst hn
  obtain ⟨rfl, hi⟩ := hi
  intro p l e R s m args below meth c D cI cZ A QM ad0 n0 X ad H locs ls h1 h2 hP hD hS hl hz
  exact va_zald X.1 X.2.1 X.2.2.2.2.2.1 hP a 1 (zm_w_get hg) zm_tyZ hi hd (k p l e R s m args below meth c D cI cZ A QM ad0 n0 X ad H locs ls h1 h2 hP hD hS hl hz)
theorem zr_iastore {a N : Nat} {i x : Int32} (j : Nat) {n : Nat} (hd : decode M.2.1.1 pc = .ok (.iastore, 1)) (hn : pc + 1 = n) (hg : G[a]? = some (.inl (false, N))) (hi : zm_ix i j N) (k : zm_WP M sc d mc ms Q n L st G (zm_up S a j x) nc ns) : zm_WP M sc d mc ms Q pc L (.int x :: .int i :: .ref a :: st) G S nc ns := by
  subst hn
  obtain ⟨rfl, hi⟩ := hi
  intro p l e R s m args below meth c D cI cZ A QM ad0 n0 X ad H locs ls h1 h2 hP hD hS hl hz
  refine va_iast X.1 X.2.1 X.2.2.2.2.2.1 hP hD hS a 0 (zm_w_get hg) zm_tyI hi hd (fun H1 locs1 hP1 hD1 hS1 => ?_)
  have eW := zm_w_up (cI := cI) (cZ := cZ) (ad := ad) (i := i.toNatClampNeg) (x := x) (S := S) hg
  exact k p l e R s m args below meth c D cI cZ A QM ad0 n0 X ad H1 locs1 ls h1 h2 (eW ▸ hP1) (eW ▸ hD1) hS1 hl hz
theorem zr_bastore {a N : Nat} {i x : Int32} (j : Nat) {n : Nat} (hd : decode M.2.1.1 pc = .ok (.bastore, 1)) (hn : pc + 1 = n) (hg : G[a]? = some (.inl (true, N))) (hi : zm_ix i j N) (k : zm_WP M sc d mc ms Q n L st G (zm_up S a j (vp_nar .boolean x)) nc ns) : zm_WP M sc d mc ms Q pc L (.int x :: .int i :: .ref a :: st) G S nc ns := by
  subst hn
  obtain ⟨rfl, hi⟩ := hi
  intro p l e R s m args below meth c D cI cZ A QM ad0 n0 X ad H locs ls h1 h2 hP hD hS hl hz
  refine va_zast X.1 X.2.1 X.2.2.2.2.2.1 hP hD hS a 1 (zm_w_get hg) zm_tyZ hi hd (fun H1 locs1 hP1 hD1 hS1 => ?_)
  have eW := zm_w_up (cI := cI) (cZ := cZ) (ad := ad) (i := i.toNatClampNeg) (x := (vp_nar .boolean x)) (S := S) hg
  exact k p l e R s m args below meth c D cI cZ A QM ad0 n0 X ad H1 locs1 ls h1 h2 (eW ▸ hP1) (eW ▸ hD1) hS1 hl hz
theorem zr_alen {a N : Nat} {b : Bool} {v : Int32} {n : Nat} (hd : decode M.2.1.1 pc = .ok (.arraylength, 1)) (hn : pc + 1 = n) (hg : G[a]? = some (.inl (b, N))) (hv : Int32.ofNat N = v) (k : zm_WP M sc d mc ms Q n L (.int v :: st) G S nc ns) : zm_WP M sc d mc ms Q pc L (.ref a :: st) G S nc ns := by
  subst hn
  intro p l e R s m args below meth c D cI cZ A QM ad0 n0 X ad H locs ls h1 h2 hP hD hS hl hz
  cases b with
  | false => exact va_alen X.1 X.2.1 X.2.2.2.2.2.1 hP a 0 (zm_w_get hg) zm_tyI hv hd (k p l e R s m args below meth c D cI cZ A QM ad0 n0 X ad H locs ls h1 h2 hP hD hS hl hz)
  | true => exact va_alen X.1 X.2.1 X.2.2.2.2.2.1 hP a 1 (zm_w_get hg) zm_tyZ hv hd (k p l e R s m args below meth c D cI cZ A QM ad0 n0 X ad H locs ls h1 h2 hP hD hS hl hz)
theorem zr_bastoreV {a N : Nat} {i x : Int32} {n : Nat} (j : Nat) (hd : decode M.2.1.1 pc = .ok (.bastore, 1)) (hn : pc + 1 = n) (hg : G[a]? = some (.inl (true, N))) (hi : zm_ix i j N) (hx : vp_nar .boolean x = x) (k : zm_WP M sc d mc ms Q n L st G (zm_up S a j x) nc ns) : zm_WP M sc d mc ms Q pc L (.int x :: .int i :: .ref a :: st) G S nc ns := zr_bastore j hd hn hg hi (by rw [hx]; exact k)
theorem zr_top {x v : Int32} (h : x = v) (k : zm_WP M sc d mc ms Q pc L (.int v :: st) G S nc ns) : zm_WP M sc d mc ms Q pc L (.int x :: st) G S nc ns := by rw [h]; exact k
theorem zr_ldcw {i : Nat} {v : Int32} {n : Nat} (hd : decode M.2.1.1 pc = .ok (.ldc_w i, 3)) (hn : pc + 3 = n) (hc : Cond.constant M.1.cls i v ∈ zm_all) (k : zm_WP M sc d mc ms Q n L (.int v :: st) G S nc ns) : zm_WP M sc d mc ms Q pc L st G S nc ns := by
  subst hn
  intro p l e R s m args below meth c D cI cZ A QM ad0 n0 X ad H locs ls h1 h2 hP hD hS hl hz
  exact lv_ldcw X.1 X.2.1 X.2.2.2.1 (X.2.2.2.2.1.1 _ hc) hd (k p l e R s m args below meth c D cI cZ A QM ad0 n0 X ad H locs ls h1 h2 hP hD hS hl hz)
theorem zr_sload {N : Nat} {xs : Nat → Int32} {i : Int32} (j : Nat) {n : Nat} (hd : decode M.2.1.1 pc = .ok (.iaload, 1)) (hn : pc + 1 = n) (hi : zm_ix i j N) (k : zm_WP M (some (N, xs)) d mc ms Q n L (.int (xs j) :: st) G S nc ns) : zm_WP M (some (N, xs)) d mc ms Q pc L (.int i :: .ref 1000000 :: st) G S nc ns := by
  subst hn
  obtain ⟨rfl, hi⟩ := hi
  intro p l e R s m args below meth c D cI cZ A QM ad0 n0 X ad H locs ls h1 h2 hP hD hS hl hz
  obtain ⟨hX, hb, hA⟩ := X.2.2.2.2.2.2.2.2.2.1 _ rfl
  rw [← h1 1000000 (Or.inr rfl)] at hX hb hA
  exact va_sld X.1 X.2.1 hX hb hA hS hi hd (k p l e R s m args below meth c D cI cZ A QM ad0 n0 X ad H locs ls h1 h2 hP hD hS hl hz)
theorem zr_slen {N : Nat} {xs : Nat → Int32} {n : Nat} (hd : decode M.2.1.1 pc = .ok (.arraylength, 1)) (hn : pc + 1 = n) (k : zm_WP M (some (N, xs)) d mc ms Q n L (.int (nI N) :: st) G S nc ns) : zm_WP M (some (N, xs)) d mc ms Q pc L (.ref 1000000 :: st) G S nc ns := by
  subst hn
  intro p l e R s m args below meth c D cI cZ A QM ad0 n0 X ad H locs ls h1 h2 hP hD hS hl hz
  obtain ⟨hX, hb, hA⟩ := X.2.2.2.2.2.2.2.2.2.1 _ rfl
  rw [← h1 1000000 (Or.inr rfl)] at hX hb hA
  exact va_slen X.1 X.2.1 hX hb hA hS hd (k p l e R s m args below meth c D cI cZ A QM ad0 n0 X ad H locs ls h1 h2 hP hD hS hl hz)
end
def zm_fw (own : String) (index ci f : Nat) (C : String) (T : u_T) (N : Nat) : Prop :=
  zcl[ci]? = some (C, T, N) ∧ f < N ∧ (∀ w ∈ u_ws C T N, w ∈ zm_all) ∧ (Cond.fieldLink own index (T f).1 (T f).2.1 (T f).2.2.1 ∈ zm_all ∨ ∃ host, Cond.fieldLinkNest own index (T f).1 (T f).2.1 (T f).2.2.1 host ∈ lw_tbl)
def zm_tw (T : u_T) (N : Nat) (ty0 : Nat → FieldType) : Prop := (∀ k, k < N → parseFieldDescriptor (T k).2.2.1 = some (ty0 k)) ∧ ∀ a, a < N → ∀ b, b < N → a ≠ b → (T a).2.1 ≠ (T b).2.1
section
variable {M : zm_M} {sc : Option (Nat × (Nat → Int32))} {d mc ms : Nat} {Q : zm_Q} {pc : Nat} {L : zm_L} {st : List Value} {G : List zm_Sh} {S : zm_S} {nc ns : Nat}
theorem zr_geti {index ci f a : Nat} {C : String} {T : u_T} {N : Nat} {rs : List (Option Value)} {n : Nat} (hd : decode M.2.1.1 pc = .ok (.getfield index, 3)) (hn : pc + 3 = n) (hf : zm_fw M.1.cls index ci f C T N) (hg : G[a]? = some (.inr (ci, rs))) (hv : rs[f]? = some none) (k : zm_WP M sc d mc ms Q n L (.int (S a f) :: st) G S nc ns) : zm_WP M sc d mc ms Q pc L (.ref a :: st) G S nc ns := by
  subst hn
  obtain ⟨hc, hfN, hin, hlink⟩ := hf
  intro p l e R s m args below meth c D cI cZ A QM ad0 n0 X ad H locs ls h1 h2 hP hD hS hl hz
  have hv2 : (rs.mapIdx (fun i o => zm_o ad S a i o))[f]? = some (zm_o ad S a f none) := by rw [List.getElem?_mapIdx, hv]; rfl
  rcases hlink with hlink | ⟨host, hlink⟩
  · exact va_get X.1 X.2.1 X.2.2.2.2.1.1 hin X.2.2.2.1 X.2.2.2.2.2.1 hP a (zm_w_get hg) hc f hfN (X.2.2.2.2.1.1 _ hlink) (fun _ h => h) hv2 hd (k p l e R s m args below meth c D cI cZ A QM ad0 n0 X ad H locs ls h1 h2 hP hD hS hl hz)
  · exact va_getN X.1 X.2.1 X.2.2.2.2.1.1 hin X.2.2.2.1 X.2.2.2.2.2.1 hP a (zm_w_get hg) hc f hfN (va_Nw.use rfl (X.2.2.2.2.1.2 _ hlink rfl)) (fun _ h => h) hv2 hd (k p l e R s m args below meth c D cI cZ A QM ad0 n0 X ad H locs ls h1 h2 hP hD hS hl hz)
theorem zr_getr {index ci f a : Nat} {C : String} {T : u_T} {N : Nat} {rs : List (Option Value)} {v : Value} {n : Nat} (hd : decode M.2.1.1 pc = .ok (.getfield index, 3)) (hn : pc + 3 = n) (hf : zm_fw M.1.cls index ci f C T N) (hg : G[a]? = some (.inr (ci, rs))) (hv : rs[f]? = some (some v)) (k : zm_WP M sc d mc ms Q n L (v :: st) G S nc ns) : zm_WP M sc d mc ms Q pc L (.ref a :: st) G S nc ns := by
  subst hn
  obtain ⟨hc, hfN, hin, hlink⟩ := hf
  intro p l e R s m args below meth c D cI cZ A QM ad0 n0 X ad H locs ls h1 h2 hP hD hS hl hz
  have hv2 : (rs.mapIdx (fun i o => zm_o ad S a i o))[f]? = some (zm_o ad S a f (some v)) := by rw [List.getElem?_mapIdx, hv]; rfl
  rcases hlink with hlink | ⟨host, hlink⟩
  · exact va_get X.1 X.2.1 X.2.2.2.2.1.1 hin X.2.2.2.1 X.2.2.2.2.2.1 hP a (zm_w_get hg) hc f hfN (X.2.2.2.2.1.1 _ hlink) (fun _ h => h) hv2 hd (k p l e R s m args below meth c D cI cZ A QM ad0 n0 X ad H locs ls h1 h2 hP hD hS hl hz)
  · exact va_getN X.1 X.2.1 X.2.2.2.2.1.1 hin X.2.2.2.1 X.2.2.2.2.2.1 hP a (zm_w_get hg) hc f hfN (va_Nw.use rfl (X.2.2.2.2.1.2 _ hlink rfl)) (fun _ h => h) hv2 hd (k p l e R s m args below meth c D cI cZ A QM ad0 n0 X ad H locs ls h1 h2 hP hD hS hl hz)
theorem zr_puti {index ci f a : Nat} {C : String} {T : u_T} {N : Nat} {rs : List (Option Value)} {x : Int32} {ty0 : Nat → FieldType} {ty : FieldType} {n : Nat} (hd : decode M.2.1.1 pc = .ok (.putfield index, 3)) (hn : pc + 3 = n) (hf : zm_fw M.1.cls index ci f C T N) (ht : zm_tw T N ty0) (hfin : (T f).2.2.2 = false) (hty : parseFieldDescriptor (T f).2.2.1 = some ty) (hnar : narrow ty (.int x) = .int x) (hfit : fits ty (.int x) = true) (hg : G[a]? = some (.inr (ci, rs))) (hv : rs[f]? = some none) (k : zm_WP M sc d mc ms Q n L st G (zm_up S a f x) nc ns) : zm_WP M sc d mc ms Q pc L (.int x :: .ref a :: st) G S nc ns := by
  subst hn
  obtain ⟨hc, hfN, hin, hlink⟩ := hf
  intro p l e R s m args below meth c D cI cZ A QM ad0 n0 X ad H locs ls h1 h2 hP hD hS hl hz
  have hl2 : f < (rs.mapIdx (fun i o => zm_o ad S a i o)).length := by rw [List.length_mapIdx]; exact (List.getElem?_eq_some_iff.mp hv).1
  have eW := zm_w_upo (cI := cI) (cZ := cZ) (ad := ad) (x := x) (S := S) hg hv
  rcases hlink with hlink | ⟨host, hlink⟩
  · refine va_put X.1 X.2.1 X.2.2.2.2.1.1 hin ty0 ht.1 ht.2 X.2.2.2.1 X.2.2.2.2.2.1 hP hD hS a (zm_w_get hg) hc f hfN (X.2.2.2.2.1.1 _ hlink) (fun _ h => h) hfin hty hnar hfit hl2 hd (fun H1 locs1 hP1 hD1 hS1 => ?_)
    exact k p l e R s m args below meth c D cI cZ A QM ad0 n0 X ad H1 locs1 ls h1 h2 (eW ▸ hP1) (eW ▸ hD1) hS1 hl hz
  · refine va_putN X.1 X.2.1 X.2.2.2.2.1.1 hin ty0 ht.1 ht.2 X.2.2.2.1 X.2.2.2.2.2.1 hP hD hS a (zm_w_get hg) hc f hfN (va_Nw.use rfl (X.2.2.2.2.1.2 _ hlink rfl)) (fun _ h => h) hfin hty hnar hfit hl2 hd (fun H1 locs1 hP1 hD1 hS1 => ?_)
    exact k p l e R s m args below meth c D cI cZ A QM ad0 n0 X ad H1 locs1 ls h1 h2 (eW ▸ hP1) (eW ▸ hD1) hS1 hl hz
theorem zr_putF {index ci f a r : Nat} {C : String} {T : u_T} {N : Nat} {rs : List (Option Value)} {o : Value} {ty0 : Nat → FieldType} {ty : FieldType} {n : Nat} {G' : List zm_Sh} (hd : decode M.2.1.1 pc = .ok (.putfield index, 3)) (hn : pc + 3 = n) (hf : zm_fw M.1.cls index ci f C T N) (hlk : Cond.fieldLink M.1.cls index (T f).1 (T f).2.1 (T f).2.2.1 ∈ zm_all) (ht : zm_tw T N ty0) (hfin : (T f).2.2.2 = true) (hini : M.1.name = "<init>") (hdecl : (T f).1 = M.1.cls) (hty : parseFieldDescriptor (T f).2.2.1 = some ty) (hnar : ∀ q, narrow ty (.ref q) = .ref q) (hfit : ∀ q, fits ty (.ref q) = true) (hg : G[a]? = some (.inr (ci, rs))) (hv : rs[f]? = some (some o)) (hG : G.set a (.inr (ci, rs.set f (some (.ref r)))) = G') (k : zm_WP M sc d mc ms Q n L st G' S nc ns) : zm_WP M sc d mc ms Q pc L (.ref r :: .ref a :: st) G S nc ns := by
  subst hn hG
  obtain ⟨hc, hfN, hin, hlink⟩ := hf
  intro p l e R s m args below meth c D cI cZ A QM ad0 n0 X ad H locs ls h1 h2 hP hD hS hl hz
  have hl2 : f < (rs.mapIdx (fun i o => zm_o ad S a i o)).length := by rw [List.length_mapIdx]; exact (List.getElem?_eq_some_iff.mp hv).1
  have eW := zm_w_upr (cI := cI) (cZ := cZ) (ad := ad) (v := .ref r) (S := S) hg hv
  refine va_putF X.1 X.2.1 X.2.2.2.2.1.1 hin ty0 ht.1 ht.2 X.2.2.2.1 X.2.2.2.2.2.1 hP hD hS a (zm_w_get hg) hc f hfN (X.2.2.2.2.1.1 _ hlk) (fun _ h => h) hfin (X.2.2.2.2.2.2.2.2.1.trans hini) hdecl hty (hnar _) (hfit _) hl2 hd (fun H1 locs1 hP1 hD1 hS1 => ?_)
  exact k p l e R s m args below meth c D cI cZ A QM ad0 n0 X ad H1 locs1 ls h1 (by rw [List.length_set]; exact h2) (eW ▸ hP1) (eW ▸ hD1) hS1 hl hz
theorem zr_ireturn {x : Int32} {ty : FieldType} (hd : decode M.2.1.1 pc = .ok (.ireturn, 1)) (hr : M.2.2 = some ty) (hnar : narrow ty (.int x) = .int x) (hc : nc ≤ mc) (hs : ns ≤ ms) (hq : Q (some x) G S) : zm_WP M sc d mc ms Q pc L [.int x] G S nc ns := by
  intro p l e R s m args below meth c D cI cZ A QM ad0 n0 X ad H locs ls h1 h2 hP hD hS hl hz
  exact X.2.2.2.2.2.2.2.2.2.2 (some x) pc ls H locs ad G S nc ns ⟨⟨ty, hr, hnar⟩, hd⟩ h1 h2 hP hD hS hc hs hq
theorem zr_return (hd : decode M.2.1.1 pc = .ok (.return_, 1)) (hr : M.2.2 = none) (hc : nc ≤ mc) (hs : ns ≤ ms) (hq : Q none G S) : zm_WP M sc d mc ms Q pc L [] G S nc ns := by
  intro p l e R s m args below meth c D cI cZ A QM ad0 n0 X ad H locs ls h1 h2 hP hD hS hl hz
  exact X.2.2.2.2.2.2.2.2.2.2 none pc ls H locs ad G S nc ns ⟨hr, hd⟩ h1 h2 hP hD hS hc hs hq
theorem zr_newI {x : Int32} {atype : ArrayType} {N g n : Nat} {G' : List zm_Sh} (hd : decode M.2.1.1 pc = .ok (.newarray atype, 2)) (hn : pc + 2 = n) (hat : newarray.typeOf atype = .int) (hcw : Cond.arrayClass .int ∈ zm_all) (hx : ¬ x < 0) (hN : x.toNatClampNeg = N) (hby : N * componentBytes .int ≤ 536870912) (hcs : nc + 1 ≤ mc) (hss : ns + N ≤ ms) (hg : G.length = g) (hG1 : G ++ [.inl (false, N)] = G') (hG : zm_ltG g G = true) (hL : zm_ltL g L = true) (hst : zm_ltS g st = true) (hlen : Nat.blt g 1000000 = true) (k : zm_WP M sc d mc ms Q n L (.ref g :: st) G' (zm_upA S g (fun _ => 0)) (nc + 1) (ns + N)) : zm_WP M sc d mc ms Q pc L (.int x :: st) G S nc ns := by
  subst hn hG1 hg
  intro p l e R s m args below meth c D cI cZ A QM ad0 n0 X ad H locs ls h1 h2 hP hD hS hl hz
  have hlt : G.length < 1000000 := by simpa using hlen
  refine va_newa X.1 X.2.1 (atype := atype) (by rw [hat]; exact X.2.2.2.2.1.1 _ hcw) hat X.2.2.2.2.2.1 hP hD hS X.2.2.2.2.2.2.1 (a0 := (N, .inl (fun _ => 0))) (fun cA => rfl) hx hN hby (Nat.le_trans hcs X.2.2.2.2.2.2.2.1.2.2.1) (Nat.le_trans hss X.2.2.2.2.2.2.2.1.2.2.2) hd (fun q cA H1 hK1 hP1 hD1 hS1 => ?_)
  have e0 : cA = cI := by
    have a1 := (hK1.2 2 (cA, .int) rfl).2
    have a2 := (X.2.2.2.2.2.1.2 0 (cI, .int) rfl).2
    exact Option.some.inj (a1.symm.trans a2)
  rw [e0] at hP1 hD1
  let ad' : Nat → Nat := fun k => if k = G.length then q else ad k
  have ha : ∀ k, k < G.length ∨ k = 1000000 → ad' k = ad k := fun k hk => if_neg (by omega)
  have hq : ad' G.length = q := if_pos rfl
  have eW := zm_w_push (cI := cI) (cZ := cZ) (ad := ad) (ad' := ad') (S := S) (S' := zm_upA S G.length (fun _ => 0)) (q := q) (sh := .inl (false, N)) hG ha hq (fun k hk => zm_upA_ne S _ (by omega)) rfl
  have e1 : zm_e cI cZ ad' (zm_upA S G.length (fun _ => 0)) G.length (.inl (false, N)) = .inl (cI, N, .inl (fun _ => 0)) := by simp [zm_e, zm_upA_self]
  rw [e1] at eW
  have e2 : (Value.ref G.length :: st).map (zm_v ad') = .ref q :: st.map (zm_v ad) := by
    rw [List.map_cons, zm_S_eq ha hst]; show Value.ref (ad' G.length) :: _ = _; rw [hq]
  rw [← e2]
  exact k p l e R s m args below meth c D cI cZ A QM ad0 n0 X ad' H1 locs ls (fun k hk => (ha k (by omega)).trans (h1 k hk)) (by rw [List.length_append]; omega) (eW ▸ hP1) (eW ▸ hD1) hS1 (hl.re ha hL) hz
theorem zr_newZ {x : Int32} {atype : ArrayType} {N g n : Nat} {G' : List zm_Sh} (hd : decode M.2.1.1 pc = .ok (.newarray atype, 2)) (hn : pc + 2 = n) (hat : newarray.typeOf atype = .boolean) (hcw : Cond.arrayClass .boolean ∈ zm_all) (hx : ¬ x < 0) (hN : x.toNatClampNeg = N) (hby : N * componentBytes .boolean ≤ 536870912) (hcs : nc + 1 ≤ mc) (hss : ns + N ≤ ms) (hg : G.length = g) (hG1 : G ++ [.inl (true, N)] = G') (hG : zm_ltG g G = true) (hL : zm_ltL g L = true) (hst : zm_ltS g st = true) (hlen : Nat.blt g 1000000 = true) (k : zm_WP M sc d mc ms Q n L (.ref g :: st) G' (zm_upA S g (fun _ => 0)) (nc + 1) (ns + N)) : zm_WP M sc d mc ms Q pc L (.int x :: st) G S nc ns := by
  subst hn hG1 hg
  intro p l e R s m args below meth c D cI cZ A QM ad0 n0 X ad H locs ls h1 h2 hP hD hS hl hz
  have hlt : G.length < 1000000 := by simpa using hlen
  refine va_newa X.1 X.2.1 (atype := atype) (by rw [hat]; exact X.2.2.2.2.1.1 _ hcw) hat X.2.2.2.2.2.1 hP hD hS X.2.2.2.2.2.2.1 (a0 := (N, .inl (fun _ => 0))) (fun cA => rfl) hx hN hby (Nat.le_trans hcs X.2.2.2.2.2.2.2.1.2.2.1) (Nat.le_trans hss X.2.2.2.2.2.2.2.1.2.2.2) hd (fun q cA H1 hK1 hP1 hD1 hS1 => ?_)
  have e0 : cA = cZ := by
    have a1 := (hK1.2 2 (cA, .boolean) rfl).2
    have a2 := (X.2.2.2.2.2.1.2 1 (cZ, .boolean) rfl).2
    exact Option.some.inj (a1.symm.trans a2)
  rw [e0] at hP1 hD1
  let ad' : Nat → Nat := fun k => if k = G.length then q else ad k
  have ha : ∀ k, k < G.length ∨ k = 1000000 → ad' k = ad k := fun k hk => if_neg (by omega)
  have hq : ad' G.length = q := if_pos rfl
  have eW := zm_w_push (cI := cI) (cZ := cZ) (ad := ad) (ad' := ad') (S := S) (S' := zm_upA S G.length (fun _ => 0)) (q := q) (sh := .inl (true, N)) hG ha hq (fun k hk => zm_upA_ne S _ (by omega)) rfl
  have e1 : zm_e cI cZ ad' (zm_upA S G.length (fun _ => 0)) G.length (.inl (true, N)) = .inl (cZ, N, .inl (fun _ => 0)) := by simp [zm_e, zm_upA_self]
  rw [e1] at eW
  have e2 : (Value.ref G.length :: st).map (zm_v ad') = .ref q :: st.map (zm_v ad) := by
    rw [List.map_cons, zm_S_eq ha hst]; show Value.ref (ad' G.length) :: _ = _; rw [hq]
  rw [← e2]
  exact k p l e R s m args below meth c D cI cZ A QM ad0 n0 X ad' H1 locs ls (fun k hk => (ha k (by omega)).trans (h1 k hk)) (by rw [List.length_append]; omega) (eW ▸ hP1) (eW ▸ hD1) hS1 (hl.re ha hL) hz
end
def zm_dv : Option Value → Value
  | none => .int 0
  | some v => v
def zm_nl : Option Value → Bool
  | none => true
  | some .null => true
  | _ => false
section
variable {M : zm_M} {sc : Option (Nat × (Nat → Int32))} {d mc ms : Nat} {Q : zm_Q} {pc : Nat} {L : zm_L} {st : List Value} {G : List zm_Sh} {S : zm_S} {nc ns : Nat}
theorem zr_new {index ci N g n : Nat} {C : String} {T : u_T} {ty0 : Nat → FieldType} {rs : List (Option Value)} {G' : List zm_Sh} (hd : decode M.2.1.1 pc = .ok (.new index, 3)) (hn : pc + 3 = n) (hc : zcl[ci]? = some (C, T, N)) (hin : ∀ w ∈ u_ws C T N, w ∈ zm_all) (ht : zm_tw T N ty0) (hw : Cond.classLink M.1.cls index C ∈ zm_all ∧ Cond.instantiable C N ∈ zm_all ∧ Cond.initialized C ∈ zm_all) (hdf : ∀ j, j < N → defaultValue (ty0 j) = vp_V (rs.map zm_dv) j) (hnl : rs.all zm_nl = true) (hcs : nc + 1 ≤ mc) (hss : ns + N ≤ ms) (hg : G.length = g) (hG1 : G ++ [.inr (ci, rs)] = G') (hG : zm_ltG g G = true) (hL : zm_ltL g L = true) (hst : zm_ltS g st = true) (hlen : Nat.blt g 1000000 = true) (k : zm_WP M sc d mc ms Q n L (.ref g :: st) G' (zm_upA S g (fun _ => 0)) (nc + 1) (ns + N)) : zm_WP M sc d mc ms Q pc L st G S nc ns := by
  subst hn hG1 hg
  intro p l e R s m args below meth c D cI cZ A QM ad0 n0 X ad H locs ls h1 h2 hP hD hS hl hz
  have hlt : G.length < 1000000 := by simpa using hlen
  refine va_new X.1 X.2.1 X.2.2.2.2.1.1 hin ty0 ht.1 X.2.2.2.1 (X.2.2.2.2.1.1 _ hw.1) (X.2.2.2.2.1.1 _ hw.2.1) (X.2.2.2.2.1.1 _ hw.2.2) X.2.2.2.2.2.1 hP hD hS X.2.2.2.2.2.2.1 hc (fs := rs.map zm_dv) hdf (Nat.le_trans hcs X.2.2.2.2.2.2.2.1.2.2.1) (Nat.le_trans hss X.2.2.2.2.2.2.2.1.2.2.2) hd (fun q H1 hP1 hD1 hS1 => ?_)
  let ad' : Nat → Nat := fun k => if k = G.length then q else ad k
  have ha : ∀ k, k < G.length ∨ k = 1000000 → ad' k = ad k := fun k hk => if_neg (by omega)
  have hq : ad' G.length = q := if_pos rfl
  have eW := zm_w_push (cI := cI) (cZ := cZ) (ad := ad) (ad' := ad') (S := S) (S' := zm_upA S G.length (fun _ => 0)) (q := q) (sh := .inr (ci, rs)) hG ha hq (fun k hk => zm_upA_ne S _ (by omega)) rfl
  have e1 : zm_e cI cZ ad' (zm_upA S G.length (fun _ => 0)) G.length (.inr (ci, rs)) = .inr (ci, rs.map zm_dv) := by
    show Sum.inr (ci, _) = Sum.inr (ci, _)
    congr 2
    apply List.ext_getElem?
    intro j
    rw [List.getElem?_mapIdx, List.getElem?_map]
    cases hj : rs[j]? with
    | none => rfl
    | some o =>
      have ho := List.all_eq_true.mp hnl o (List.mem_of_getElem? hj)
      cases o with
      | none => show some (Value.int (zm_upA S G.length (fun _ => 0) G.length j)) = some (Value.int 0); rw [zm_upA_self]
      | some v => cases v with
        | null => rfl
        | _ => cases ho
  rw [e1] at eW
  have e2 : (Value.ref G.length :: st).map (zm_v ad') = .ref q :: st.map (zm_v ad) := by
    rw [List.map_cons, zm_S_eq ha hst]; show Value.ref (ad' G.length) :: _ = _; rw [hq]
  rw [← e2]
  exact k p l e R s m args below meth c D cI cZ A QM ad0 n0 X ad' H1 locs ls (fun k hk => (ha k (by omega)).trans (h1 k hk)) (by rw [List.length_append]; omega) (eW ▸ hP1) (eW ▸ hD1) hS1 (hl.re ha hL) hz
end
theorem zm_sum (ad : Nat → Nat) (st : List Value) : ((st.map (zm_v ad)).map fun v => v.category).sum = (st.map fun v => v.category).sum := by rw [List.map_map]; congr 1; apply List.map_congr_left; intro v _; exact zm_cat ad v
theorem zm_goodIn {M' : zm_M} (h : Cond.code M'.1 M'.2.1.1 M'.2.1.2 M'.2.2 ∈ zm_all) : GoodIn zm_all (zm_ws M') := by
  intro w hw
  have hm : w ∈ zm_all := by
    rcases List.mem_cons.mp hw with rfl | hw
    · exact h
    · exact hw
  exact ⟨hm, good_of_word (List.mem_filter.mp hm).2⟩
def zm_cw (own : String) (index : Nat) (M' : zm_M) (np : Nat) : Prop :=
  Cond.code M'.1 M'.2.1.1 M'.2.1.2 M'.2.2 ∈ zm_all ∧ Cond.initialized M'.1.cls ∈ zm_all ∧ (M'.1.cls ≠ "java/lang/invoke/MethodHandle" ∧ M'.1.cls ≠ "java/lang/invoke/VarHandle" ∧ (parseMethodDescriptor M'.1.desc).map (fun d => d.parameters.length) = some np) ∧ M'.2.1.2 ≤ 25 ∧ (Cond.methodLink own index M'.1 ∈ zm_all ∨ ∃ host, Cond.methodLinkNest own index M'.1 host ∈ lw_tbl)
theorem zm_fb {D : va_G} {cI cZ : ClassId} {ad : Nat → Nat} {sz : Nat} {av : List Value} {G : List zm_Sh} {S : zm_S} : FrameBlind (zm_Pc D cI cZ ad sz av G S) := fun a U g mk q => by
  obtain ⟨q0, q1, qP, qK, qD, qN⟩ := q
  exact ⟨q0, q1, qP, va_K.moved (u := U) (U := U.calling g mk a) (Vm.Alike.refl U.vm) qK, qD, zm_N.same (s := U) (U := U.calling g mk a) rfl qN⟩
theorem zm_pre {D : va_G} {cI cZ : ClassId} {ad : Nat → Nat} {A : Nat → Prop} {av : List Value} {G : List zm_Sh} {S : zm_S} {s : State} {H : Heap} (hK : va_K D zcl (zm_tys cI cZ) s) (hP : va_P D zcl (zm_w cI cZ ad G S) H) (hD : va_D A (zm_w cI cZ ad G S)) (hN : zm_N s) : PreS s H (zm_Pc D cI cZ ad H.size av G S) (av.map (zm_v ad)) :=
  ⟨zm_fb, fun U hU hW => ⟨rfl, by rw [hU], by rw [hU]; exact hP, va_K.moved hW.alike hK, hD.weaken (fun _ _ _ _ => trivial), zm_N.warm hW hN⟩⟩
theorem zm_callB {s : State} {args : Array Value} {R : Room} {own : String} {index np d mc' ms' : Nat} {M' : zm_M} (hts : ∀ w ∈ zm_all, w.before args s = true) (hw : zm_cw own index M' np) (hl : Cond.methodLink own index M'.1 ∈ zm_all) (hR : d + 1 ≤ R.frames ∧ 44 * (d + 1) ≤ R.locals) : CallB R s args own index M'.1 M'.2.1.1 M'.2.1.2 M'.2.2 (zm_ws M') (zm_room d mc' ms') mc' ms' np :=
  callB_of np hts (zm_goodIn hw.1) rfl rfl rfl (hts _ hw.2.1) (hts _ hl) hw.2.2.1 ⟨hR.1, by have := hw.2.2.2.1; show 8 + (M'.2.1.2 + 11) + 44 * d ≤ R.locals; omega⟩
theorem zm_callN {s : State} {args : Array Value} {R : Room} {own host : String} {index np d mc' ms' : Nat} {M' : zm_M} (hts : ∀ w ∈ zm_all, w.before args s = true) (hN : zm_N s) (hw : zm_cw own index M' np) (hl : Cond.methodLinkNest own index M'.1 host ∈ lw_tbl) (hR : d + 1 ≤ R.frames ∧ 44 * (d + 1) ≤ R.locals) : va_CN R s args own index M'.1 host M'.2.1.1 M'.2.1.2 M'.2.2 (zm_ws M') (zm_room d mc' ms') mc' ms' np := by
  refine ⟨⟨rfl, rfl, hR.1, by have := hw.2.2.2.1; show 8 + (M'.2.1.2 + 11) + 44 * d ≤ R.locals; omega, pay_in hts (zm_goodIn hw.1), List.mem_cons_self⟩, hts _ hw.1, hts _ hw.2.1, ⟨hw.2.2.1.1, hw.2.2.1.2.1⟩, fun sig h => ?_, va_Nw.use rfl (hN _ hl rfl)⟩
  have h2 := hw.2.2.1.2.2
  rw [h] at h2
  exact (Option.some.inj h2).symm
section
variable {M : zm_M} {sc : Option (Nat × (Nat → Int32))} {d mc ms : Nat} {Q : zm_Q} {pc : Nat} {L : zm_L} {st : List Value} {G : List zm_Sh} {S : zm_S} {nc ns : Nat}
theorem zm_after {Q' : zm_Q} {mc' ms' n : Nat} {rest : List Value} (hn : pc + 3 = n) (hL : zm_ltL G.length L = true) (hst : zm_ltS G.length rest = true)
    (hk : ∀ v G' S', Q' v G' S' → zm_WP M sc (d + 1) mc ms Q n L (zm_ps v rest) G' S' (nc + mc') (ns + ms'))
    {p : Program} {l : Launch} {e : Env} {R : Room} {s : State} {m : MethodId} {args : Array Value} {below : List Frame} {meth : Method} {c : Code} {D : va_G} {cI cZ : ClassId} {A : Nat → Prop} {QM : State → Prop} {ad0 : Nat → Nat} {n0 : Nat} (X : zm_Cx M sc (d + 1) mc ms Q p l e R s m args below meth c D cI cZ A QM ad0 n0)
    {ad : Nat → Nat} {H : Heap} {locs : List Loc} {ls : Array Slot} {a : Array Value} {st0 : List Value} (h1 : ∀ k, k < n0 ∨ k = 1000000 → ad k = ad0 k) (h2 : n0 ≤ G.length) (hD : va_D A (zm_w cI cZ ad G S)) (hS : va_S A s.heap H locs) (hl : zm_LV ad ls L) (hz : L.length = M.2.1.2)
    (hr : va_Run p l e R s m args below meth c H locs nc ns mc' ms' (F0 m pc ls st0) (rest.map (zm_v ad)) (zm_Qc D cI cZ ad H.size G S Q' a) (va_A (zm_w cI cZ ad G S) H.size)) : W p l e R s m args below meth c H locs nc ns QM (F0 m pc ls st0) := by
  subst hn
  have hFc : ∀ q, va_A (zm_w cI cZ ad G S) H.size q → A q := by
    rintro q (⟨k, e, h⟩ | h)
    · exact hD.2 k _ h
    · exact X.2.2.2.2.2.2.1 q (Nat.le_trans hS.1 h)
  refine zm_cont hr (fun st oc t h => h) hS (fun q _ h => hFc q h) hFc (fun v t H1 locs1 ht hvm hB hz1 hS1 => ?_)
  obtain ⟨v', ad', G', S', hv, hQ, ha, hGl, hP1, hD1⟩ := hB
  have hv2 : v = v'.map Value.int := by injection hv
  subst hv2
  rw [ht] at hP1
  have := hk v' G' S' hQ p l e R s m args below meth c D cI cZ A QM ad0 n0 X ad' H1 locs1 ls (fun k hk => (ha k (by omega)).trans (h1 k hk)) (Nat.le_trans h2 hGl) hP1 (hD1.weaken (fun _ q _ h => hFc q.1 h)) hS1 (hl.re ha hL) hz
  cases v' with
  | none =>
    have e3 : (zm_ps none rest).map (zm_v ad') = rest.map (zm_v ad) := zm_S_eq ha hst
    rw [e3] at this; exact this
  | some x =>
    have e3 : (zm_ps (some x) rest).map (zm_v ad') = .int x :: rest.map (zm_v ad) := by
      show (Value.int x :: rest).map (zm_v ad') = _
      rw [List.map_cons, zm_S_eq ha hst]; rfl
    rw [e3] at this; exact this
theorem zr_callV {M' : zm_M} {mc' ms' index np n b ci N : Nat} {T : u_T} {rs : List (Option Value)} {av rest : List Value} (hd : decode M.2.1.1 pc = .ok (.invokevirtual index, 3)) (hn : pc + 3 = n) (hw : zm_cw M.1.cls index M' np) (hw2 : Cond.instanceMethod M'.1 ∈ zm_all ∧ Cond.selects M'.1.cls M'.1 M'.1 ∈ zm_all) (hg : G[b]? = some (.inr (ci, rs))) (hc : zcl[ci]? = some (M'.1.cls, T, N)) (hst : st = av.reverse ++ .ref b :: rest) (hav : av.length = np) (hL : zm_ltL G.length L = true) (hr : zm_ltS G.length rest = true) (hs : Nat.ble (rest.map fun v => v.category).sum 8 = true) (hcs : nc + mc' ≤ mc) (hss : ns + ms' ≤ ms) (k : zm_CC M' d mc' ms' (.ref b :: av) G S (fun v G' S' => zm_WP M sc (d + 1) mc ms Q n L (zm_ps v rest) G' S' (nc + mc') (ns + ms'))) : zm_WP M sc (d + 1) mc ms Q pc L st G S nc ns := by
  intro p l e R s m args below meth c D cI cZ A QM ad0 n0 X ad H locs ls h1 h2 hP hD hS hl hz
  have hroom : 2 * (F0 m pc ls (st.map (zm_v ad))).monitorRoom + ((rest.map (zm_v ad)).map fun v => v.category).sum ≤ 8 := lv_room (by rw [zm_sum]; exact Nat.le_of_ble_eq_true hs)
  have hsz : ls.size = M.2.1.2 := hl.1.trans hz
  have hst2 : st.map (zm_v ad) = (av.map (zm_v ad)).reverse ++ .ref (ad b) :: rest.map (zm_v ad) := by rw [hst, List.map_append, List.map_reverse]; rfl
  have hp : PreV s H M'.1.cls (ad b) (zm_Pc D cI cZ ad H.size (.ref b :: av) G S) (av.map (zm_v ad)) := ⟨zm_fb, va_recv X.2.2.2.2.2.1 hP hc (zm_w_get hg), (zm_pre (av := .ref b :: av) X.2.2.2.2.2.1 hP hD X.2.2.2.2.1.2).2⟩
  rcases hw.2.2.2.2 with hlk | ⟨host, hlk⟩
  · exact zm_after hn hL hr (fun v G' S' h => h) X h1 h2 hD hS hl hz (va_runV ⟨X.1, X.2.1, X.2.2.1, X.2.2.2.1, X.2.2.2.2.1.1⟩ (k l D cI cZ ad H.size) ⟨zm_callB X.2.2.2.2.1.1 hw hlk ⟨X.2.2.2.2.2.2.2.1.1, X.2.2.2.2.2.2.2.1.2.1⟩, X.2.2.2.2.1.1 _ hw2.1, X.2.2.2.2.1.1 _ hw2.2⟩ hp rfl (by rw [List.length_map]; exact hav) hsz hst2 hroom hd ⟨Nat.le_trans hcs X.2.2.2.2.2.2.2.1.2.2.1, Nat.le_trans hss X.2.2.2.2.2.2.2.1.2.2.2⟩)
  · exact zm_after hn hL hr (fun v G' S' h => h) X h1 h2 hD hS hl hz (va_runVN ⟨X.1, X.2.1, X.2.2.1, X.2.2.2.1, X.2.2.2.2.1.1⟩ (k l D cI cZ ad H.size) ⟨zm_callN X.2.2.2.2.1.1 X.2.2.2.2.1.2 hw hlk ⟨X.2.2.2.2.2.2.2.1.1, X.2.2.2.2.2.2.2.1.2.1⟩, X.2.2.2.2.1.1 _ hw2.1, X.2.2.2.2.1.1 _ hw2.2⟩ hp rfl (by rw [List.length_map]; exact hav) hsz hst2 hroom hd ⟨Nat.le_trans hcs X.2.2.2.2.2.2.2.1.2.2.1, Nat.le_trans hss X.2.2.2.2.2.2.2.1.2.2.2⟩)
theorem zr_callS {M' : zm_M} {mc' ms' index np n : Nat} {av rest : List Value} (hd : decode M.2.1.1 pc = .ok (.invokestatic index, 3)) (hn : pc + 3 = n) (hw : zm_cw M.1.cls index M' np) (hw2 : Cond.static M'.1 ∈ zm_all) (hst : st = av.reverse ++ rest) (hav : av.length = np) (hL : zm_ltL G.length L = true) (hr : zm_ltS G.length rest = true) (hs : Nat.ble (rest.map fun v => v.category).sum 8 = true) (hcs : nc + mc' ≤ mc) (hss : ns + ms' ≤ ms) (k : zm_CC M' d mc' ms' av G S (fun v G' S' => zm_WP M sc (d + 1) mc ms Q n L (zm_ps v rest) G' S' (nc + mc') (ns + ms'))) : zm_WP M sc (d + 1) mc ms Q pc L st G S nc ns := by
  intro p l e R s m args below meth c D cI cZ A QM ad0 n0 X ad H locs ls h1 h2 hP hD hS hl hz
  have hroom : 2 * (F0 m pc ls (st.map (zm_v ad))).monitorRoom + ((rest.map (zm_v ad)).map fun v => v.category).sum ≤ 8 := lv_room (by rw [zm_sum]; exact Nat.le_of_ble_eq_true hs)
  have hsz : ls.size = M.2.1.2 := hl.1.trans hz
  have hst2 : st.map (zm_v ad) = (av.map (zm_v ad)).reverse ++ rest.map (zm_v ad) := by rw [hst, List.map_append, List.map_reverse]
  rcases hw.2.2.2.2 with hlk | ⟨host, hlk⟩
  · exact zm_after hn hL hr (fun v G' S' h => h) X h1 h2 hD hS hl hz (va_runS ⟨X.1, X.2.1, X.2.2.1, X.2.2.2.1, X.2.2.2.2.1.1⟩ (k l D cI cZ ad H.size) ⟨zm_callB X.2.2.2.2.1.1 hw hlk ⟨X.2.2.2.2.2.2.2.1.1, X.2.2.2.2.2.2.2.1.2.1⟩, X.2.2.2.2.1.1 _ hw2⟩ (zm_pre X.2.2.2.2.2.1 hP hD X.2.2.2.2.1.2) rfl (by rw [List.length_map]; exact hav) hsz hst2 hroom hd ⟨Nat.le_trans hcs X.2.2.2.2.2.2.2.1.2.2.1, Nat.le_trans hss X.2.2.2.2.2.2.2.1.2.2.2⟩)
  · exact zm_after hn hL hr (fun v G' S' h => h) X h1 h2 hD hS hl hz (va_runSN ⟨X.1, X.2.1, X.2.2.1, X.2.2.2.1, X.2.2.2.2.1.1⟩ (k l D cI cZ ad H.size) ⟨zm_callN X.2.2.2.2.1.1 X.2.2.2.2.1.2 hw hlk ⟨X.2.2.2.2.2.2.2.1.1, X.2.2.2.2.2.2.2.1.2.1⟩, X.2.2.2.2.1.1 _ hw2, trivial⟩ (zm_pre X.2.2.2.2.2.1 hP hD X.2.2.2.2.1.2) rfl (by rw [List.length_map]; exact hav) hsz hst2 hroom hd ⟨Nat.le_trans hcs X.2.2.2.2.2.2.2.1.2.2.1, Nat.le_trans hss X.2.2.2.2.2.2.2.1.2.2.2⟩)
theorem zr_callI {M' : zm_M} {mc' ms' index np n b : Nat} {av rest : List Value} (hd : decode M.2.1.1 pc = .ok (.invokespecial index, 3)) (hn : pc + 3 = n) (hw : zm_cw M.1.cls index M' np) (hret : M'.2.2 = none) (hin : M'.1.name = "<init>") (hw2 : Cond.instanceMethod M'.1 ∈ zm_all) (hst : st = av.reverse ++ .ref b :: rest) (hav : av.length = np) (hL : zm_ltL G.length L = true) (hr : zm_ltS G.length rest = true) (hs : Nat.ble (rest.map fun v => v.category).sum 8 = true) (hcs : nc + mc' ≤ mc) (hss : ns + ms' ≤ ms) (k : zm_CC M' d mc' ms' (.ref b :: av) G S (fun v G' S' => zm_WP M sc (d + 1) mc ms Q n L (zm_ps v rest) G' S' (nc + mc') (ns + ms'))) : zm_WP M sc (d + 1) mc ms Q pc L st G S nc ns := by
  intro p l e R s m args below meth c D cI cZ A QM ad0 n0 X ad H locs ls h1 h2 hP hD hS hl hz
  have hroom : 2 * (F0 m pc ls (st.map (zm_v ad))).monitorRoom + ((rest.map (zm_v ad)).map fun v => v.category).sum ≤ 8 := lv_room (by rw [zm_sum]; exact Nat.le_of_ble_eq_true hs)
  have hsz : ls.size = M.2.1.2 := hl.1.trans hz
  have hst2 : st.map (zm_v ad) = (av.map (zm_v ad)).reverse ++ .ref (ad b) :: rest.map (zm_v ad) := by rw [hst, List.map_append, List.map_reverse]; rfl
  rcases hw.2.2.2.2 with hlk | ⟨host, hlk⟩
  · have cb := zm_callB (mc' := mc') (ms' := ms') (d := d) (R := R) (s := s) (args := args) X.2.2.2.2.1.1 hw hlk ⟨X.2.2.2.2.2.2.2.1.1, X.2.2.2.2.2.2.2.1.2.1⟩
    rw [hret] at cb
    exact zm_after hn hL hr (fun v G' S' h => h) X h1 h2 hD hS hl hz (va_runI ⟨X.1, X.2.1, X.2.2.1, X.2.2.2.1, X.2.2.2.2.1.1⟩ (k l D cI cZ ad H.size) ⟨cb, hin, X.2.2.2.2.1.1 _ hw2⟩ (zm_pre (av := .ref b :: av) X.2.2.2.2.2.1 hP hD X.2.2.2.2.1.2) rfl (by rw [List.length_map]; exact hav) hsz hst2 hroom hd ⟨Nat.le_trans hcs X.2.2.2.2.2.2.2.1.2.2.1, Nat.le_trans hss X.2.2.2.2.2.2.2.1.2.2.2⟩)
  · have cb := zm_callN (mc' := mc') (ms' := ms') (d := d) (R := R) (s := s) (args := args) X.2.2.2.2.1.1 X.2.2.2.2.1.2 hw hlk ⟨X.2.2.2.2.2.2.2.1.1, X.2.2.2.2.2.2.2.1.2.1⟩
    rw [hret] at cb
    exact zm_after hn hL hr (fun v G' S' h => h) X h1 h2 hD hS hl hz (va_runIN ⟨X.1, X.2.1, X.2.2.1, X.2.2.2.1, X.2.2.2.2.1.1⟩ (k l D cI cZ ad H.size) ⟨cb, hin, X.2.2.2.2.1.1 _ hw2⟩ (zm_pre (av := .ref b :: av) X.2.2.2.2.2.1 hP hD X.2.2.2.2.1.2) rfl (by rw [List.length_map]; exact hav) hsz hst2 hroom hd ⟨Nat.le_trans hcs X.2.2.2.2.2.2.2.1.2.2.1, Nat.le_trans hss X.2.2.2.2.2.2.2.1.2.2.2⟩)
theorem zr_objInit {index n a : Nat} (hd : decode M.2.1.1 pc = .ok (.invokespecial index, 3)) (hn : pc + 3 = n) (hw : Cond.methodLink M.1.cls index Lib.objectInit ∈ zm_all ∧ Cond.instanceMethod Lib.objectInit ∈ zm_all ∧ Cond.code Lib.objectInit ⟨#[0xb1]⟩ 1 none ∈ zm_all) (hs : Nat.ble (st.map fun v => v.category).sum 8 = true) (k : zm_WP M sc (d + 1) mc ms Q n L st G S nc ns) : zm_WP M sc (d + 1) mc ms Q pc L (.ref a :: st) G S nc ns := by
  subst hn
  intro p l e R s m args below meth c D cI cZ A QM ad0 n0 X ad H locs ls h1 h2 hP hD hS hl hz
  have hroom : 2 * (F0 m pc ls (st.map (zm_v ad))).monitorRoom + ((st.map (zm_v ad)).map fun v => v.category).sum ≤ 8 := lv_room (by rw [zm_sum]; exact Nat.le_of_ble_eq_true hs)
  have hR := X.2.2.2.2.2.2.2.1
  exact W.objInit X.1 X.2.1 X.2.2.2.1 (X.2.2.2.2.1.1 _ hw.1) (X.2.2.2.2.1.1 _ hw.2.1) (X.2.2.2.2.1.1 _ hw.2.2) rfl (by rw [X.2.2.1, ← hz]; exact hl.1) rfl hd (by omega) (Nat.le_trans (Nat.add_le_add_right hroom 12) (by omega)) (k p l e R s m args below meth c D cI cZ A QM ad0 n0 X ad H locs ls h1 h2 hP hD hS hl hz)
theorem zr_copy {index n a0 a1 N0 N1 : Nat} {sp dp w : Int32} (j0 j1 jn : Nat) (hd : decode M.2.1.1 pc = .ok (.invokestatic index, 3)) (hn : pc + 3 = n) (hw : Cond.methodLink M.1.cls index arraycopyName ∈ zm_all ∧ Cond.native arraycopyName ∈ zm_all ∧ Cond.static arraycopyName ∈ zm_all ∧ Cond.initialized "java/lang/System" ∈ zm_all) (hg0 : G[a0]? = some (.inl (false, N0))) (hg1 : G[a1]? = some (.inl (false, N1))) (hsp : ¬ sp < 0 ∧ sp.toNatClampNeg = j0) (hdp : ¬ dp < 0 ∧ dp.toNatClampNeg = j1) (hwn : ¬ w < 0 ∧ w.toNatClampNeg = jn) (hb0 : j0 + jn ≤ N0) (hb1 : j1 + jn ≤ N1) (hs : Nat.ble (st.map fun v => v.category).sum 8 = true) (k : zm_WP M sc (d + 1) mc ms Q n L st G (zm_upA S a1 (va_cpy (S a0) (S a1) j0 j1 jn)) nc ns) : zm_WP M sc (d + 1) mc ms Q pc L (.int w :: .int dp :: .ref a1 :: .int sp :: .ref a0 :: st) G S nc ns := by
  subst hn
  obtain ⟨hsp, rfl⟩ := hsp
  obtain ⟨hdp, rfl⟩ := hdp
  obtain ⟨hwn, rfl⟩ := hwn
  intro p l e R s m args below meth c D cI cZ A QM ad0 n0 X ad H locs ls h1 h2 hP hD hS hl hz
  have hR := X.2.2.2.2.2.2.2.1
  have hs8 := Nat.le_of_ble_eq_true hs
  have hnf : nativeFrameWords "java/lang/System" "arraycopy" 5 + 11 ≤ 36 := by decide +kernel
  have eW := zm_w_upA (cI := cI) (cZ := cZ) (ad := ad) (f := va_cpy (S a0) (S a1) sp.toNatClampNeg dp.toNatClampNeg w.toNatClampNeg) (S := S) hg1
  refine va_copyi X.1 X.2.1 (X.2.2.1.trans (hl.1.trans hz).symm) X.2.2.2.1 (X.2.2.2.2.1.1 _ hw.1) (X.2.2.2.2.1.1 _ hw.2.1) (X.2.2.2.2.1.1 _ hw.2.2.1) (X.2.2.2.2.1.1 _ hw.2.2.2) X.2.2.2.2.2.1 hP hD hS a0 a1 0 0 (zm_w_get hg0) (zm_w_get hg1) zm_tyI zm_tyI rfl hsp hdp hwn hb0 hb1 (fun _ _ => rfl) (by omega) (by rw [zm_sum]; omega) hd (fun H1 locs1 hP1 hD1 hS1 => ?_)
  exact k p l e R s m args below meth c D cI cZ A QM ad0 n0 X ad H1 locs1 ls h1 h2 (eW ▸ hP1) (eW ▸ hD1) hS1 hl hz
end
end
section
theorem d_CM_init_0 : decode b_CM_init 0 = .ok (.aload_n 0, 1) := by decide +kernel
theorem d_CM_init_1 : decode b_CM_init 1 = .ok (.invokespecial 1, 3) := by decide +kernel
theorem d_CM_init_4 : decode b_CM_init 4 = .ok (.aload_n 0, 1) := by decide +kernel
theorem d_CM_init_5 : decode b_CM_init 5 = .ok (.new 7, 3) := by decide +kernel
theorem d_CM_init_8 : decode b_CM_init 8 = .ok (.dup, 1) := by decide +kernel
theorem d_CM_init_9 : decode b_CM_init 9 = .ok (.invokespecial 9, 3) := by decide +kernel
theorem d_CM_init_12 : decode b_CM_init 12 = .ok (.putfield 10, 3) := by decide +kernel
theorem d_CM_init_15 : decode b_CM_init 15 = .ok (.aload_n 0, 1) := by decide +kernel
theorem d_CM_init_16 : decode b_CM_init 16 = .ok (.new 16, 3) := by decide +kernel
theorem d_CM_init_19 : decode b_CM_init 19 = .ok (.dup, 1) := by decide +kernel
theorem d_CM_init_20 : decode b_CM_init 20 = .ok (.invokespecial 18, 3) := by decide +kernel
theorem d_CM_init_23 : decode b_CM_init 23 = .ok (.putfield 19, 3) := by decide +kernel
theorem d_CM_init_26 : decode b_CM_init 26 = .ok (.aload_n 0, 1) := by decide +kernel
theorem d_CM_init_27 : decode b_CM_init 27 = .ok (.new 23, 3) := by decide +kernel
theorem d_CM_init_30 : decode b_CM_init 30 = .ok (.dup, 1) := by decide +kernel
theorem d_CM_init_31 : decode b_CM_init 31 = .ok (.invokespecial 25, 3) := by decide +kernel
theorem d_CM_init_34 : decode b_CM_init 34 = .ok (.putfield 26, 3) := by decide +kernel
theorem d_CM_init_37 : decode b_CM_init 37 = .ok (.aload_n 0, 1) := by decide +kernel
theorem d_CM_init_38 : decode b_CM_init 38 = .ok (.new 30, 3) := by decide +kernel
theorem d_CM_init_41 : decode b_CM_init 41 = .ok (.dup, 1) := by decide +kernel
theorem d_CM_init_42 : decode b_CM_init 42 = .ok (.invokespecial 32, 3) := by decide +kernel
theorem d_CM_init_45 : decode b_CM_init 45 = .ok (.putfield 33, 3) := by decide +kernel
theorem d_CM_init_48 : decode b_CM_init 48 = .ok (.return_, 1) := by decide +kernel
theorem d_CM_make_0 : decode b_CM_make 0 = .ok (.iload_n 1, 1) := by decide +kernel
theorem d_CM_make_1 : decode b_CM_make 1 = .ok (.ifCond .lt 21, 3) := by decide +kernel
theorem d_CM_make_4 : decode b_CM_make 4 = .ok (.iload_n 1, 1) := by decide +kernel
theorem d_CM_make_5 : decode b_CM_make 5 = .ok (.bipush 12, 2) := by decide +kernel
theorem d_CM_make_7 : decode b_CM_make 7 = .ok (.if_icmp .ge 15, 3) := by decide +kernel
theorem d_CM_make_10 : decode b_CM_make 10 = .ok (.iload_n 2, 1) := by decide +kernel
theorem d_CM_make_11 : decode b_CM_make 11 = .ok (.iconst 1, 1) := by decide +kernel
theorem d_CM_make_12 : decode b_CM_make 12 = .ok (.if_icmp .lt 10, 3) := by decide +kernel
theorem d_CM_make_15 : decode b_CM_make 15 = .ok (.iload_n 2, 1) := by decide +kernel
theorem d_CM_make_16 : decode b_CM_make 16 = .ok (.sipush 255, 3) := by decide +kernel
theorem d_CM_make_19 : decode b_CM_make 19 = .ok (.if_icmp .le 5, 3) := by decide +kernel
theorem d_CM_make_22 : decode b_CM_make 22 = .ok (.iconst (-1), 1) := by decide +kernel
theorem d_CM_make_23 : decode b_CM_make 23 = .ok (.ireturn, 1) := by decide +kernel
theorem d_CM_make_24 : decode b_CM_make 24 = .ok (.aload_n 0, 1) := by decide +kernel
theorem d_CM_make_25 : decode b_CM_make 25 = .ok (.getfield 10, 3) := by decide +kernel
theorem d_CM_make_28 : decode b_CM_make 28 = .ok (.iload_n 1, 1) := by decide +kernel
theorem d_CM_make_29 : decode b_CM_make 29 = .ok (.invokevirtual 37, 3) := by decide +kernel
theorem d_CM_make_32 : decode b_CM_make 32 = .ok (.ifCond .ne 6, 3) := by decide +kernel
theorem d_CM_make_35 : decode b_CM_make 35 = .ok (.bipush (-2), 2) := by decide +kernel
theorem d_CM_make_37 : decode b_CM_make 37 = .ok (.ireturn, 1) := by decide +kernel
theorem d_CM_make_38 : decode b_CM_make 38 = .ok (.aload_n 0, 1) := by decide +kernel
theorem d_CM_make_39 : decode b_CM_make 39 = .ok (.getfield 10, 3) := by decide +kernel
theorem d_CM_make_42 : decode b_CM_make 42 = .ok (.iload_n 1, 1) := by decide +kernel
theorem d_CM_make_43 : decode b_CM_make 43 = .ok (.iload_n 2, 1) := by decide +kernel
theorem d_CM_make_44 : decode b_CM_make 44 = .ok (.invokevirtual 41, 3) := by decide +kernel
theorem d_CM_make_47 : decode b_CM_make 47 = .ok (.ifCond .eq 6, 3) := by decide +kernel
theorem d_CM_make_50 : decode b_CM_make 50 = .ok (.bipush (-3), 2) := by decide +kernel
theorem d_CM_make_52 : decode b_CM_make 52 = .ok (.ireturn, 1) := by decide +kernel
theorem d_CM_make_53 : decode b_CM_make 53 = .ok (.aload_n 0, 1) := by decide +kernel
theorem d_CM_make_54 : decode b_CM_make 54 = .ok (.getfield 10, 3) := by decide +kernel
theorem d_CM_make_57 : decode b_CM_make 57 = .ok (.invokevirtual 45, 3) := by decide +kernel
theorem d_CM_make_60 : decode b_CM_make 60 = .ok (.istore 4, 2) := by decide +kernel
theorem d_CM_make_62 : decode b_CM_make 62 = .ok (.iload 4, 2) := by decide +kernel
theorem d_CM_make_64 : decode b_CM_make 64 = .ok (.iconst (-1), 1) := by decide +kernel
theorem d_CM_make_65 : decode b_CM_make 65 = .ok (.if_icmp .ne 6, 3) := by decide +kernel
theorem d_CM_make_68 : decode b_CM_make 68 = .ok (.bipush (-4), 2) := by decide +kernel
theorem d_CM_make_70 : decode b_CM_make 70 = .ok (.ireturn, 1) := by decide +kernel
theorem d_CM_make_71 : decode b_CM_make 71 = .ok (.aload_n 0, 1) := by decide +kernel
theorem d_CM_make_72 : decode b_CM_make 72 = .ok (.getfield 10, 3) := by decide +kernel
theorem d_CM_make_75 : decode b_CM_make 75 = .ok (.iload 4, 2) := by decide +kernel
theorem d_CM_make_77 : decode b_CM_make 77 = .ok (.iload_n 1, 1) := by decide +kernel
theorem d_CM_make_78 : decode b_CM_make 78 = .ok (.iload_n 2, 1) := by decide +kernel
theorem d_CM_make_79 : decode b_CM_make 79 = .ok (.iload_n 3, 1) := by decide +kernel
theorem d_CM_make_80 : decode b_CM_make 80 = .ok (.ifCond .eq 7, 3) := by decide +kernel
theorem d_CM_make_83 : decode b_CM_make 83 = .ok (.iconst 2, 1) := by decide +kernel
theorem d_CM_make_84 : decode b_CM_make 84 = .ok (.goto 4, 3) := by decide +kernel
theorem d_CM_make_87 : decode b_CM_make 87 = .ok (.iconst 3, 1) := by decide +kernel
theorem d_CM_make_88 : decode b_CM_make 88 = .ok (.invokevirtual 49, 3) := by decide +kernel
theorem d_CM_make_91 : decode b_CM_make 91 = .ok (.iload 4, 2) := by decide +kernel
theorem d_CM_make_93 : decode b_CM_make 93 = .ok (.ireturn, 1) := by decide +kernel
theorem d_CM_remove_0 : decode b_CM_remove 0 = .ok (.iload_n 1, 1) := by decide +kernel
theorem d_CM_remove_1 : decode b_CM_remove 1 = .ok (.invokestatic 53, 3) := by decide +kernel
theorem d_CM_remove_4 : decode b_CM_remove 4 = .ok (.ifCond .ne 5, 3) := by decide +kernel
theorem d_CM_remove_7 : decode b_CM_remove 7 = .ok (.iconst (-1), 1) := by decide +kernel
theorem d_CM_remove_8 : decode b_CM_remove 8 = .ok (.ireturn, 1) := by decide +kernel
theorem d_CM_remove_9 : decode b_CM_remove 9 = .ok (.aload_n 0, 1) := by decide +kernel
theorem d_CM_remove_10 : decode b_CM_remove 10 = .ok (.getfield 10, 3) := by decide +kernel
theorem d_CM_remove_13 : decode b_CM_remove 13 = .ok (.iload_n 1, 1) := by decide +kernel
theorem d_CM_remove_14 : decode b_CM_remove 14 = .ok (.invokevirtual 56, 3) := by decide +kernel
theorem d_CM_remove_17 : decode b_CM_remove 17 = .ok (.ifCond .ne 6, 3) := by decide +kernel
theorem d_CM_remove_20 : decode b_CM_remove 20 = .ok (.bipush (-2), 2) := by decide +kernel
theorem d_CM_remove_22 : decode b_CM_remove 22 = .ok (.ireturn, 1) := by decide +kernel
theorem d_CM_remove_23 : decode b_CM_remove 23 = .ok (.aload_n 0, 1) := by decide +kernel
theorem d_CM_remove_24 : decode b_CM_remove 24 = .ok (.getfield 10, 3) := by decide +kernel
theorem d_CM_remove_27 : decode b_CM_remove 27 = .ok (.iload_n 1, 1) := by decide +kernel
theorem d_CM_remove_28 : decode b_CM_remove 28 = .ok (.invokevirtual 59, 3) := by decide +kernel
theorem d_CM_remove_31 : decode b_CM_remove 31 = .ok (.ifCond .le 6, 3) := by decide +kernel
theorem d_CM_remove_34 : decode b_CM_remove 34 = .ok (.bipush (-5), 2) := by decide +kernel
theorem d_CM_remove_36 : decode b_CM_remove 36 = .ok (.ireturn, 1) := by decide +kernel
theorem d_CM_remove_37 : decode b_CM_remove 37 = .ok (.aload_n 0, 1) := by decide +kernel
theorem d_CM_remove_38 : decode b_CM_remove 38 = .ok (.getfield 10, 3) := by decide +kernel
theorem d_CM_remove_41 : decode b_CM_remove 41 = .ok (.iload_n 1, 1) := by decide +kernel
theorem d_CM_remove_42 : decode b_CM_remove 42 = .ok (.invokevirtual 63, 3) := by decide +kernel
theorem d_CM_remove_45 : decode b_CM_remove 45 = .ok (.iconst 0, 1) := by decide +kernel
theorem d_CM_remove_46 : decode b_CM_remove 46 = .ok (.ireturn, 1) := by decide +kernel
theorem d_CM_append_0 : decode b_CM_append 0 = .ok (.iload_n 1, 1) := by decide +kernel
theorem d_CM_append_1 : decode b_CM_append 1 = .ok (.invokestatic 53, 3) := by decide +kernel
theorem d_CM_append_4 : decode b_CM_append 4 = .ok (.ifCond .eq 10, 3) := by decide +kernel
theorem d_CM_append_7 : decode b_CM_append 7 = .ok (.iload_n 2, 1) := by decide +kernel
theorem d_CM_append_8 : decode b_CM_append 8 = .ok (.invokestatic 67, 3) := by decide +kernel
theorem d_CM_append_11 : decode b_CM_append 11 = .ok (.ifCond .ne 5, 3) := by decide +kernel
theorem d_CM_append_14 : decode b_CM_append 14 = .ok (.iconst (-1), 1) := by decide +kernel
theorem d_CM_append_15 : decode b_CM_append 15 = .ok (.ireturn, 1) := by decide +kernel
theorem d_CM_append_16 : decode b_CM_append 16 = .ok (.aload_n 0, 1) := by decide +kernel
theorem d_CM_append_17 : decode b_CM_append 17 = .ok (.getfield 10, 3) := by decide +kernel
theorem d_CM_append_20 : decode b_CM_append 20 = .ok (.iload_n 1, 1) := by decide +kernel
theorem d_CM_append_21 : decode b_CM_append 21 = .ok (.invokevirtual 70, 3) := by decide +kernel
theorem d_CM_append_24 : decode b_CM_append 24 = .ok (.ifCond .ne 6, 3) := by decide +kernel
theorem d_CM_append_27 : decode b_CM_append 27 = .ok (.bipush (-2), 2) := by decide +kernel
theorem d_CM_append_29 : decode b_CM_append 29 = .ok (.ireturn, 1) := by decide +kernel
theorem d_CM_append_30 : decode b_CM_append 30 = .ok (.aload_n 0, 1) := by decide +kernel
theorem d_CM_append_31 : decode b_CM_append 31 = .ok (.getfield 10, 3) := by decide +kernel
theorem d_CM_append_34 : decode b_CM_append 34 = .ok (.iload_n 1, 1) := by decide +kernel
theorem d_CM_append_35 : decode b_CM_append 35 = .ok (.invokevirtual 73, 3) := by decide +kernel
theorem d_CM_append_38 : decode b_CM_append 38 = .ok (.bipush 12, 2) := by decide +kernel
theorem d_CM_append_40 : decode b_CM_append 40 = .ok (.if_icmp .lt 6, 3) := by decide +kernel
theorem d_CM_append_43 : decode b_CM_append 43 = .ok (.bipush (-4), 2) := by decide +kernel
theorem d_CM_append_45 : decode b_CM_append 45 = .ok (.ireturn, 1) := by decide +kernel
theorem d_CM_append_46 : decode b_CM_append 46 = .ok (.aload_n 0, 1) := by decide +kernel
theorem d_CM_append_47 : decode b_CM_append 47 = .ok (.getfield 10, 3) := by decide +kernel
theorem d_CM_append_50 : decode b_CM_append 50 = .ok (.iload_n 1, 1) := by decide +kernel
theorem d_CM_append_51 : decode b_CM_append 51 = .ok (.iload_n 2, 1) := by decide +kernel
theorem d_CM_append_52 : decode b_CM_append 52 = .ok (.invokevirtual 76, 3) := by decide +kernel
theorem d_CM_append_55 : decode b_CM_append 55 = .ok (.ireturn, 1) := by decide +kernel
theorem d_CM_empty_0 : decode b_CM_empty 0 = .ok (.iload_n 1, 1) := by decide +kernel
theorem d_CM_empty_1 : decode b_CM_empty 1 = .ok (.invokestatic 53, 3) := by decide +kernel
theorem d_CM_empty_4 : decode b_CM_empty 4 = .ok (.ifCond .ne 5, 3) := by decide +kernel
theorem d_CM_empty_7 : decode b_CM_empty 7 = .ok (.iconst (-1), 1) := by decide +kernel
theorem d_CM_empty_8 : decode b_CM_empty 8 = .ok (.ireturn, 1) := by decide +kernel
theorem d_CM_empty_9 : decode b_CM_empty 9 = .ok (.aload_n 0, 1) := by decide +kernel
theorem d_CM_empty_10 : decode b_CM_empty 10 = .ok (.getfield 10, 3) := by decide +kernel
theorem d_CM_empty_13 : decode b_CM_empty 13 = .ok (.iload_n 1, 1) := by decide +kernel
theorem d_CM_empty_14 : decode b_CM_empty 14 = .ok (.invokevirtual 70, 3) := by decide +kernel
theorem d_CM_empty_17 : decode b_CM_empty 17 = .ok (.ifCond .ne 6, 3) := by decide +kernel
theorem d_CM_empty_20 : decode b_CM_empty 20 = .ok (.bipush (-2), 2) := by decide +kernel
theorem d_CM_empty_22 : decode b_CM_empty 22 = .ok (.ireturn, 1) := by decide +kernel
theorem d_CM_empty_23 : decode b_CM_empty 23 = .ok (.aload_n 0, 1) := by decide +kernel
theorem d_CM_empty_24 : decode b_CM_empty 24 = .ok (.getfield 10, 3) := by decide +kernel
theorem d_CM_empty_27 : decode b_CM_empty 27 = .ok (.iload_n 1, 1) := by decide +kernel
theorem d_CM_empty_28 : decode b_CM_empty 28 = .ok (.invokevirtual 80, 3) := by decide +kernel
theorem d_CM_empty_31 : decode b_CM_empty 31 = .ok (.ireturn, 1) := by decide +kernel
theorem d_CM_publish_0 : decode b_CM_publish 0 = .ok (.aload_n 0, 1) := by decide +kernel
theorem d_CM_publish_1 : decode b_CM_publish 1 = .ok (.getfield 19, 3) := by decide +kernel
theorem d_CM_publish_4 : decode b_CM_publish 4 = .ok (.aload_n 0, 1) := by decide +kernel
theorem d_CM_publish_5 : decode b_CM_publish 5 = .ok (.getfield 10, 3) := by decide +kernel
theorem d_CM_publish_8 : decode b_CM_publish 8 = .ok (.invokevirtual 83, 3) := by decide +kernel
theorem d_CM_publish_11 : decode b_CM_publish 11 = .ok (.aload_n 0, 1) := by decide +kernel
theorem d_CM_publish_12 : decode b_CM_publish 12 = .ok (.getfield 26, 3) := by decide +kernel
theorem d_CM_publish_15 : decode b_CM_publish 15 = .ok (.aload_n 0, 1) := by decide +kernel
theorem d_CM_publish_16 : decode b_CM_publish 16 = .ok (.getfield 19, 3) := by decide +kernel
theorem d_CM_publish_19 : decode b_CM_publish 19 = .ok (.invokevirtual 87, 3) := by decide +kernel
theorem d_CM_publish_22 : decode b_CM_publish 22 = .ok (.aload_n 0, 1) := by decide +kernel
theorem d_CM_publish_23 : decode b_CM_publish 23 = .ok (.getfield 19, 3) := by decide +kernel
theorem d_CM_publish_26 : decode b_CM_publish 26 = .ok (.getfield 91, 3) := by decide +kernel
theorem d_CM_publish_29 : decode b_CM_publish 29 = .ok (.ireturn, 1) := by decide +kernel
theorem d_CM_modules_0 : decode b_CM_modules 0 = .ok (.aload_n 0, 1) := by decide +kernel
theorem d_CM_modules_1 : decode b_CM_modules 1 = .ok (.getfield 19, 3) := by decide +kernel
theorem d_CM_modules_4 : decode b_CM_modules 4 = .ok (.getfield 95, 3) := by decide +kernel
theorem d_CM_modules_7 : decode b_CM_modules 7 = .ok (.ireturn, 1) := by decide +kernel
theorem d_CM_module_0 : decode b_CM_module 0 = .ok (.iload_n 1, 1) := by decide +kernel
theorem d_CM_module_1 : decode b_CM_module 1 = .ok (.ifCond .lt 14, 3) := by decide +kernel
theorem d_CM_module_4 : decode b_CM_module 4 = .ok (.iload_n 1, 1) := by decide +kernel
theorem d_CM_module_5 : decode b_CM_module 5 = .ok (.aload_n 0, 1) := by decide +kernel
theorem d_CM_module_6 : decode b_CM_module 6 = .ok (.getfield 19, 3) := by decide +kernel
theorem d_CM_module_9 : decode b_CM_module 9 = .ok (.getfield 95, 3) := by decide +kernel
theorem d_CM_module_12 : decode b_CM_module 12 = .ok (.if_icmp .lt 6, 3) := by decide +kernel
theorem d_CM_module_15 : decode b_CM_module 15 = .ok (.bipush (-2), 2) := by decide +kernel
theorem d_CM_module_17 : decode b_CM_module 17 = .ok (.ireturn, 1) := by decide +kernel
theorem d_CM_module_18 : decode b_CM_module 18 = .ok (.ldc 98, 2) := by decide +kernel
theorem d_CM_module_20 : decode b_CM_module 20 = .ok (.aload_n 0, 1) := by decide +kernel
theorem d_CM_module_21 : decode b_CM_module 21 = .ok (.getfield 19, 3) := by decide +kernel
theorem d_CM_module_24 : decode b_CM_module 24 = .ok (.getfield 99, 3) := by decide +kernel
theorem d_CM_module_27 : decode b_CM_module 27 = .ok (.iload_n 1, 1) := by decide +kernel
theorem d_CM_module_28 : decode b_CM_module 28 = .ok (.iaload, 1) := by decide +kernel
theorem d_CM_module_29 : decode b_CM_module 29 = .ok (.imul, 1) := by decide +kernel
theorem d_CM_module_30 : decode b_CM_module 30 = .ok (.aload_n 0, 1) := by decide +kernel
theorem d_CM_module_31 : decode b_CM_module 31 = .ok (.getfield 19, 3) := by decide +kernel
theorem d_CM_module_34 : decode b_CM_module 34 = .ok (.getfield 103, 3) := by decide +kernel
theorem d_CM_module_37 : decode b_CM_module 37 = .ok (.iload_n 1, 1) := by decide +kernel
theorem d_CM_module_38 : decode b_CM_module 38 = .ok (.iaload, 1) := by decide +kernel
theorem d_CM_module_39 : decode b_CM_module 39 = .ok (.iadd, 1) := by decide +kernel
theorem d_CM_module_40 : decode b_CM_module 40 = .ok (.ireturn, 1) := by decide +kernel
theorem d_CM_peek_0 : decode b_CM_peek 0 = .ok (.aload_n 0, 1) := by decide +kernel
theorem d_CM_peek_1 : decode b_CM_peek 1 = .ok (.getfield 26, 3) := by decide +kernel
theorem d_CM_peek_4 : decode b_CM_peek 4 = .ok (.invokevirtual 106, 3) := by decide +kernel
theorem d_CM_peek_7 : decode b_CM_peek 7 = .ok (.ifCond .eq 13, 3) := by decide +kernel
theorem d_CM_peek_10 : decode b_CM_peek 10 = .ok (.iload_n 1, 1) := by decide +kernel
theorem d_CM_peek_11 : decode b_CM_peek 11 = .ok (.ifCond .lt 9, 3) := by decide +kernel
theorem d_CM_peek_14 : decode b_CM_peek 14 = .ok (.iload_n 1, 1) := by decide +kernel
theorem d_CM_peek_15 : decode b_CM_peek 15 = .ok (.bipush 16, 2) := by decide +kernel
theorem d_CM_peek_17 : decode b_CM_peek 17 = .ok (.if_icmp .lt 6, 3) := by decide +kernel
theorem d_CM_peek_20 : decode b_CM_peek 20 = .ok (.bipush (-2), 2) := by decide +kernel
theorem d_CM_peek_22 : decode b_CM_peek 22 = .ok (.ireturn, 1) := by decide +kernel
theorem d_CM_peek_23 : decode b_CM_peek 23 = .ok (.aload_n 0, 1) := by decide +kernel
theorem d_CM_peek_24 : decode b_CM_peek 24 = .ok (.getfield 26, 3) := by decide +kernel
theorem d_CM_peek_27 : decode b_CM_peek 27 = .ok (.getfield 110, 3) := by decide +kernel
theorem d_CM_peek_30 : decode b_CM_peek 30 = .ok (.iload_n 1, 1) := by decide +kernel
theorem d_CM_peek_31 : decode b_CM_peek 31 = .ok (.iaload, 1) := by decide +kernel
theorem d_CM_peek_32 : decode b_CM_peek 32 = .ok (.ireturn, 1) := by decide +kernel
theorem d_CM_send_0 : decode b_CM_send 0 = .ok (.iload_n 1, 1) := by decide +kernel
theorem d_CM_send_1 : decode b_CM_send 1 = .ok (.ifCond .lt 9, 3) := by decide +kernel
theorem d_CM_send_4 : decode b_CM_send 4 = .ok (.iload_n 1, 1) := by decide +kernel
theorem d_CM_send_5 : decode b_CM_send 5 = .ok (.bipush 64, 2) := by decide +kernel
theorem d_CM_send_7 : decode b_CM_send 7 = .ok (.if_icmp .le 5, 3) := by decide +kernel
theorem d_CM_send_10 : decode b_CM_send 10 = .ok (.iconst (-1), 1) := by decide +kernel
theorem d_CM_send_11 : decode b_CM_send 11 = .ok (.ireturn, 1) := by decide +kernel
theorem d_CM_send_12 : decode b_CM_send 12 = .ok (.aload_n 0, 1) := by decide +kernel
theorem d_CM_send_13 : decode b_CM_send 13 = .ok (.getfield 26, 3) := by decide +kernel
theorem d_CM_send_16 : decode b_CM_send 16 = .ok (.invokevirtual 106, 3) := by decide +kernel
theorem d_CM_send_19 : decode b_CM_send 19 = .ok (.ifCond .ne 6, 3) := by decide +kernel
theorem d_CM_send_22 : decode b_CM_send 22 = .ok (.bipush (-2), 2) := by decide +kernel
theorem d_CM_send_24 : decode b_CM_send 24 = .ok (.ireturn, 1) := by decide +kernel
theorem d_CM_send_25 : decode b_CM_send 25 = .ok (.iconst 0, 1) := by decide +kernel
theorem d_CM_send_26 : decode b_CM_send 26 = .ok (.istore_n 2, 1) := by decide +kernel
theorem d_CM_send_27 : decode b_CM_send 27 = .ok (.iload_n 2, 1) := by decide +kernel
theorem d_CM_send_28 : decode b_CM_send 28 = .ok (.iload_n 1, 1) := by decide +kernel
theorem d_CM_send_29 : decode b_CM_send 29 = .ok (.if_icmp .ge 30, 3) := by decide +kernel
theorem d_CM_send_32 : decode b_CM_send 32 = .ok (.aload_n 0, 1) := by decide +kernel
theorem d_CM_send_33 : decode b_CM_send 33 = .ok (.getfield 33, 3) := by decide +kernel
theorem d_CM_send_36 : decode b_CM_send 36 = .ok (.aload_n 0, 1) := by decide +kernel
theorem d_CM_send_37 : decode b_CM_send 37 = .ok (.getfield 26, 3) := by decide +kernel
theorem d_CM_send_40 : decode b_CM_send 40 = .ok (.getfield 110, 3) := by decide +kernel
theorem d_CM_send_43 : decode b_CM_send 43 = .ok (.invokevirtual 113, 3) := by decide +kernel
theorem d_CM_send_46 : decode b_CM_send 46 = .ok (.aload_n 0, 1) := by decide +kernel
theorem d_CM_send_47 : decode b_CM_send 47 = .ok (.getfield 26, 3) := by decide +kernel
theorem d_CM_send_50 : decode b_CM_send 50 = .ok (.invokevirtual 117, 3) := by decide +kernel
theorem d_CM_send_53 : decode b_CM_send 53 = .ok (.iinc 2 1, 3) := by decide +kernel
theorem d_CM_send_56 : decode b_CM_send 56 = .ok (.goto (-29), 3) := by decide +kernel
theorem d_CM_send_59 : decode b_CM_send 59 = .ok (.iload_n 1, 1) := by decide +kernel
theorem d_CM_send_60 : decode b_CM_send 60 = .ok (.ireturn, 1) := by decide +kernel
theorem d_CM_lose_0 : decode b_CM_lose 0 = .ok (.iload_n 1, 1) := by decide +kernel
theorem d_CM_lose_1 : decode b_CM_lose 1 = .ok (.ifCond .lt 9, 3) := by decide +kernel
theorem d_CM_lose_4 : decode b_CM_lose 4 = .ok (.iload_n 1, 1) := by decide +kernel
theorem d_CM_lose_5 : decode b_CM_lose 5 = .ok (.bipush 64, 2) := by decide +kernel
theorem d_CM_lose_7 : decode b_CM_lose 7 = .ok (.if_icmp .le 5, 3) := by decide +kernel
theorem d_CM_lose_10 : decode b_CM_lose 10 = .ok (.iconst (-1), 1) := by decide +kernel
theorem d_CM_lose_11 : decode b_CM_lose 11 = .ok (.ireturn, 1) := by decide +kernel
theorem d_CM_lose_12 : decode b_CM_lose 12 = .ok (.aload_n 0, 1) := by decide +kernel
theorem d_CM_lose_13 : decode b_CM_lose 13 = .ok (.getfield 26, 3) := by decide +kernel
theorem d_CM_lose_16 : decode b_CM_lose 16 = .ok (.invokevirtual 106, 3) := by decide +kernel
theorem d_CM_lose_19 : decode b_CM_lose 19 = .ok (.ifCond .ne 6, 3) := by decide +kernel
theorem d_CM_lose_22 : decode b_CM_lose 22 = .ok (.bipush (-2), 2) := by decide +kernel
theorem d_CM_lose_24 : decode b_CM_lose 24 = .ok (.ireturn, 1) := by decide +kernel
theorem d_CM_lose_25 : decode b_CM_lose 25 = .ok (.iconst 0, 1) := by decide +kernel
theorem d_CM_lose_26 : decode b_CM_lose 26 = .ok (.istore_n 2, 1) := by decide +kernel
theorem d_CM_lose_27 : decode b_CM_lose 27 = .ok (.iload_n 2, 1) := by decide +kernel
theorem d_CM_lose_28 : decode b_CM_lose 28 = .ok (.iload_n 1, 1) := by decide +kernel
theorem d_CM_lose_29 : decode b_CM_lose 29 = .ok (.if_icmp .ge 16, 3) := by decide +kernel
theorem d_CM_lose_32 : decode b_CM_lose 32 = .ok (.aload_n 0, 1) := by decide +kernel
theorem d_CM_lose_33 : decode b_CM_lose 33 = .ok (.getfield 26, 3) := by decide +kernel
theorem d_CM_lose_36 : decode b_CM_lose 36 = .ok (.invokevirtual 117, 3) := by decide +kernel
theorem d_CM_lose_39 : decode b_CM_lose 39 = .ok (.iinc 2 1, 3) := by decide +kernel
theorem d_CM_lose_42 : decode b_CM_lose 42 = .ok (.goto (-15), 3) := by decide +kernel
theorem d_CM_lose_45 : decode b_CM_lose 45 = .ok (.iload_n 1, 1) := by decide +kernel
theorem d_CM_lose_46 : decode b_CM_lose 46 = .ok (.ireturn, 1) := by decide +kernel
theorem d_CM_spoil_0 : decode b_CM_spoil 0 = .ok (.iload_n 1, 1) := by decide +kernel
theorem d_CM_spoil_1 : decode b_CM_spoil 1 = .ok (.ifCond .lt 16, 3) := by decide +kernel
theorem d_CM_spoil_4 : decode b_CM_spoil 4 = .ok (.iload_n 1, 1) := by decide +kernel
theorem d_CM_spoil_5 : decode b_CM_spoil 5 = .ok (.bipush 16, 2) := by decide +kernel
theorem d_CM_spoil_7 : decode b_CM_spoil 7 = .ok (.if_icmp .ge 10, 3) := by decide +kernel
theorem d_CM_spoil_10 : decode b_CM_spoil 10 = .ok (.iload_n 2, 1) := by decide +kernel
theorem d_CM_spoil_11 : decode b_CM_spoil 11 = .ok (.invokestatic 67, 3) := by decide +kernel
theorem d_CM_spoil_14 : decode b_CM_spoil 14 = .ok (.ifCond .ne 5, 3) := by decide +kernel
theorem d_CM_spoil_17 : decode b_CM_spoil 17 = .ok (.iconst (-1), 1) := by decide +kernel
theorem d_CM_spoil_18 : decode b_CM_spoil 18 = .ok (.ireturn, 1) := by decide +kernel
theorem d_CM_spoil_19 : decode b_CM_spoil 19 = .ok (.aload_n 0, 1) := by decide +kernel
theorem d_CM_spoil_20 : decode b_CM_spoil 20 = .ok (.getfield 26, 3) := by decide +kernel
theorem d_CM_spoil_23 : decode b_CM_spoil 23 = .ok (.invokevirtual 106, 3) := by decide +kernel
theorem d_CM_spoil_26 : decode b_CM_spoil 26 = .ok (.ifCond .ne 6, 3) := by decide +kernel
theorem d_CM_spoil_29 : decode b_CM_spoil 29 = .ok (.bipush (-2), 2) := by decide +kernel
theorem d_CM_spoil_31 : decode b_CM_spoil 31 = .ok (.ireturn, 1) := by decide +kernel
theorem d_CM_spoil_32 : decode b_CM_spoil 32 = .ok (.aload_n 0, 1) := by decide +kernel
theorem d_CM_spoil_33 : decode b_CM_spoil 33 = .ok (.getfield 26, 3) := by decide +kernel
theorem d_CM_spoil_36 : decode b_CM_spoil 36 = .ok (.getfield 110, 3) := by decide +kernel
theorem d_CM_spoil_39 : decode b_CM_spoil 39 = .ok (.iload_n 1, 1) := by decide +kernel
theorem d_CM_spoil_40 : decode b_CM_spoil 40 = .ok (.dup2, 1) := by decide +kernel
theorem d_CM_spoil_41 : decode b_CM_spoil 41 = .ok (.iaload, 1) := by decide +kernel
theorem d_CM_spoil_42 : decode b_CM_spoil 42 = .ok (.iload_n 2, 1) := by decide +kernel
theorem d_CM_spoil_43 : decode b_CM_spoil 43 = .ok (.ixor, 1) := by decide +kernel
theorem d_CM_spoil_44 : decode b_CM_spoil 44 = .ok (.iastore, 1) := by decide +kernel
theorem d_CM_spoil_45 : decode b_CM_spoil 45 = .ok (.aload_n 0, 1) := by decide +kernel
theorem d_CM_spoil_46 : decode b_CM_spoil 46 = .ok (.getfield 33, 3) := by decide +kernel
theorem d_CM_spoil_49 : decode b_CM_spoil 49 = .ok (.aload_n 0, 1) := by decide +kernel
theorem d_CM_spoil_50 : decode b_CM_spoil 50 = .ok (.getfield 26, 3) := by decide +kernel
theorem d_CM_spoil_53 : decode b_CM_spoil 53 = .ok (.getfield 110, 3) := by decide +kernel
theorem d_CM_spoil_56 : decode b_CM_spoil 56 = .ok (.invokevirtual 113, 3) := by decide +kernel
theorem d_CM_spoil_59 : decode b_CM_spoil 59 = .ok (.aload_n 0, 1) := by decide +kernel
theorem d_CM_spoil_60 : decode b_CM_spoil 60 = .ok (.getfield 26, 3) := by decide +kernel
theorem d_CM_spoil_63 : decode b_CM_spoil 63 = .ok (.invokevirtual 117, 3) := by decide +kernel
theorem d_CM_spoil_66 : decode b_CM_spoil 66 = .ok (.iconst 1, 1) := by decide +kernel
theorem d_CM_spoil_67 : decode b_CM_spoil 67 = .ok (.ireturn, 1) := by decide +kernel
theorem d_CM_retune_0 : decode b_CM_retune 0 = .ok (.aload_n 0, 1) := by decide +kernel
theorem d_CM_retune_1 : decode b_CM_retune 1 = .ok (.getfield 33, 3) := by decide +kernel
theorem d_CM_retune_4 : decode b_CM_retune 4 = .ok (.invokevirtual 120, 3) := by decide +kernel
theorem d_CM_retune_7 : decode b_CM_retune 7 = .ok (.return_, 1) := by decide +kernel
theorem d_CM_count_0 : decode b_CM_count 0 = .ok (.iload_n 1, 1) := by decide +kernel
theorem d_CM_count_1 : decode b_CM_count 1 = .ok (.ifCond .lt 15, 3) := by decide +kernel
theorem d_CM_count_4 : decode b_CM_count 4 = .ok (.iload_n 1, 1) := by decide +kernel
theorem d_CM_count_5 : decode b_CM_count 5 = .ok (.aload_n 0, 1) := by decide +kernel
theorem d_CM_count_6 : decode b_CM_count 6 = .ok (.getfield 33, 3) := by decide +kernel
theorem d_CM_count_9 : decode b_CM_count 9 = .ok (.getfield 123, 3) := by decide +kernel
theorem d_CM_count_12 : decode b_CM_count 12 = .ok (.arraylength, 1) := by decide +kernel
theorem d_CM_count_13 : decode b_CM_count 13 = .ok (.if_icmp .lt 5, 3) := by decide +kernel
theorem d_CM_count_16 : decode b_CM_count 16 = .ok (.iconst (-1), 1) := by decide +kernel
theorem d_CM_count_17 : decode b_CM_count 17 = .ok (.ireturn, 1) := by decide +kernel
theorem d_CM_count_18 : decode b_CM_count 18 = .ok (.aload_n 0, 1) := by decide +kernel
theorem d_CM_count_19 : decode b_CM_count 19 = .ok (.getfield 33, 3) := by decide +kernel
theorem d_CM_count_22 : decode b_CM_count 22 = .ok (.getfield 123, 3) := by decide +kernel
theorem d_CM_count_25 : decode b_CM_count 25 = .ok (.iload_n 1, 1) := by decide +kernel
theorem d_CM_count_26 : decode b_CM_count 26 = .ok (.iaload, 1) := by decide +kernel
theorem d_CM_count_27 : decode b_CM_count 27 = .ok (.ireturn, 1) := by decide +kernel
theorem d_CM_transaction_0 : decode b_CM_transaction 0 = .ok (.aload_n 0, 1) := by decide +kernel
theorem d_CM_transaction_1 : decode b_CM_transaction 1 = .ok (.getfield 33, 3) := by decide +kernel
theorem d_CM_transaction_4 : decode b_CM_transaction 4 = .ok (.getfield 126, 3) := by decide +kernel
theorem d_CM_transaction_7 : decode b_CM_transaction 7 = .ok (.astore_n 1, 1) := by decide +kernel
theorem d_CM_transaction_8 : decode b_CM_transaction 8 = .ok (.aload_n 1, 1) := by decide +kernel
theorem d_CM_transaction_9 : decode b_CM_transaction 9 = .ok (.getfield 130, 3) := by decide +kernel
theorem d_CM_transaction_12 : decode b_CM_transaction 12 = .ok (.ifCond .eq 10, 3) := by decide +kernel
theorem d_CM_transaction_15 : decode b_CM_transaction 15 = .ok (.aload_n 1, 1) := by decide +kernel
theorem d_CM_transaction_16 : decode b_CM_transaction 16 = .ok (.getfield 136, 3) := by decide +kernel
theorem d_CM_transaction_19 : decode b_CM_transaction 19 = .ok (.goto 5, 3) := by decide +kernel
theorem d_CM_transaction_22 : decode b_CM_transaction 22 = .ok (.bipush (-2), 2) := by decide +kernel
theorem d_CM_transaction_24 : decode b_CM_transaction 24 = .ok (.ireturn, 1) := by decide +kernel
theorem d_CM_held_0 : decode b_CM_held 0 = .ok (.aload_n 0, 1) := by decide +kernel
theorem d_CM_held_1 : decode b_CM_held 1 = .ok (.getfield 33, 3) := by decide +kernel
theorem d_CM_held_4 : decode b_CM_held 4 = .ok (.getfield 126, 3) := by decide +kernel
theorem d_CM_held_7 : decode b_CM_held 7 = .ok (.astore_n 2, 1) := by decide +kernel
theorem d_CM_held_8 : decode b_CM_held 8 = .ok (.aload_n 2, 1) := by decide +kernel
theorem d_CM_held_9 : decode b_CM_held 9 = .ok (.iload_n 1, 1) := by decide +kernel
theorem d_CM_held_10 : decode b_CM_held 10 = .ok (.invokevirtual 139, 3) := by decide +kernel
theorem d_CM_held_13 : decode b_CM_held 13 = .ok (.ifCond .eq 11, 3) := by decide +kernel
theorem d_CM_held_16 : decode b_CM_held 16 = .ok (.aload_n 2, 1) := by decide +kernel
theorem d_CM_held_17 : decode b_CM_held 17 = .ok (.iload_n 1, 1) := by decide +kernel
theorem d_CM_held_18 : decode b_CM_held 18 = .ok (.invokevirtual 142, 3) := by decide +kernel
theorem d_CM_held_21 : decode b_CM_held 21 = .ok (.goto 5, 3) := by decide +kernel
theorem d_CM_held_24 : decode b_CM_held 24 = .ok (.bipush (-2), 2) := by decide +kernel
theorem d_CM_held_26 : decode b_CM_held 26 = .ok (.ireturn, 1) := by decide +kernel
theorem d_CM_kind_0 : decode b_CM_kind 0 = .ok (.aload_n 0, 1) := by decide +kernel
theorem d_CM_kind_1 : decode b_CM_kind 1 = .ok (.iload_n 1, 1) := by decide +kernel
theorem d_CM_kind_2 : decode b_CM_kind 2 = .ok (.iload_n 2, 1) := by decide +kernel
theorem d_CM_kind_3 : decode b_CM_kind 3 = .ok (.iload_n 3, 1) := by decide +kernel
theorem d_CM_kind_4 : decode b_CM_kind 4 = .ok (.invokevirtual 145, 3) := by decide +kernel
theorem d_CM_kind_7 : decode b_CM_kind 7 = .ok (.istore 4, 2) := by decide +kernel
theorem d_CM_kind_9 : decode b_CM_kind 9 = .ok (.iload 4, 2) := by decide +kernel
theorem d_CM_kind_11 : decode b_CM_kind 11 = .ok (.ifCond .ge 8, 3) := by decide +kernel
theorem d_CM_kind_14 : decode b_CM_kind 14 = .ok (.iload 4, 2) := by decide +kernel
theorem d_CM_kind_16 : decode b_CM_kind 16 = .ok (.goto 15, 3) := by decide +kernel
theorem d_CM_kind_19 : decode b_CM_kind 19 = .ok (.aload_n 0, 1) := by decide +kernel
theorem d_CM_kind_20 : decode b_CM_kind 20 = .ok (.getfield 33, 3) := by decide +kernel
theorem d_CM_kind_23 : decode b_CM_kind 23 = .ok (.getfield 126, 3) := by decide +kernel
theorem d_CM_kind_26 : decode b_CM_kind 26 = .ok (.iload 4, 2) := by decide +kernel
theorem d_CM_kind_28 : decode b_CM_kind 28 = .ok (.invokevirtual 149, 3) := by decide +kernel
theorem d_CM_kind_31 : decode b_CM_kind 31 = .ok (.ireturn, 1) := by decide +kernel
theorem d_CM_size_0 : decode b_CM_size 0 = .ok (.aload_n 0, 1) := by decide +kernel
theorem d_CM_size_1 : decode b_CM_size 1 = .ok (.iload_n 1, 1) := by decide +kernel
theorem d_CM_size_2 : decode b_CM_size 2 = .ok (.iload_n 2, 1) := by decide +kernel
theorem d_CM_size_3 : decode b_CM_size 3 = .ok (.iload_n 3, 1) := by decide +kernel
theorem d_CM_size_4 : decode b_CM_size 4 = .ok (.invokevirtual 145, 3) := by decide +kernel
theorem d_CM_size_7 : decode b_CM_size 7 = .ok (.istore 4, 2) := by decide +kernel
theorem d_CM_size_9 : decode b_CM_size 9 = .ok (.iload 4, 2) := by decide +kernel
theorem d_CM_size_11 : decode b_CM_size 11 = .ok (.ifCond .ge 6, 3) := by decide +kernel
theorem d_CM_size_14 : decode b_CM_size 14 = .ok (.iload 4, 2) := by decide +kernel
theorem d_CM_size_16 : decode b_CM_size 16 = .ok (.ireturn, 1) := by decide +kernel
theorem d_CM_size_17 : decode b_CM_size 17 = .ok (.aload_n 0, 1) := by decide +kernel
theorem d_CM_size_18 : decode b_CM_size 18 = .ok (.getfield 33, 3) := by decide +kernel
theorem d_CM_size_21 : decode b_CM_size 21 = .ok (.getfield 126, 3) := by decide +kernel
theorem d_CM_size_24 : decode b_CM_size 24 = .ok (.astore 5, 2) := by decide +kernel
theorem d_CM_size_26 : decode b_CM_size 26 = .ok (.aload 5, 2) := by decide +kernel
theorem d_CM_size_28 : decode b_CM_size 28 = .ok (.iload 4, 2) := by decide +kernel
theorem d_CM_size_30 : decode b_CM_size 30 = .ok (.invokevirtual 152, 3) := by decide +kernel
theorem d_CM_size_33 : decode b_CM_size 33 = .ok (.istore 6, 2) := by decide +kernel
theorem d_CM_size_35 : decode b_CM_size 35 = .ok (.aload 5, 2) := by decide +kernel
theorem d_CM_size_37 : decode b_CM_size 37 = .ok (.iload 4, 2) := by decide +kernel
theorem d_CM_size_39 : decode b_CM_size 39 = .ok (.invokevirtual 155, 3) := by decide +kernel
theorem d_CM_size_42 : decode b_CM_size 42 = .ok (.ifCond .eq 10, 3) := by decide +kernel
theorem d_CM_size_45 : decode b_CM_size 45 = .ok (.iload 6, 2) := by decide +kernel
theorem d_CM_size_47 : decode b_CM_size 47 = .ok (.iconst 4, 1) := by decide +kernel
theorem d_CM_size_48 : decode b_CM_size 48 = .ok (.idiv, 1) := by decide +kernel
theorem d_CM_size_49 : decode b_CM_size 49 = .ok (.goto 5, 3) := by decide +kernel
theorem d_CM_size_52 : decode b_CM_size 52 = .ok (.iload 6, 2) := by decide +kernel
theorem d_CM_size_54 : decode b_CM_size 54 = .ok (.ireturn, 1) := by decide +kernel
theorem d_CM_read_0 : decode b_CM_read 0 = .ok (.aload_n 0, 1) := by decide +kernel
theorem d_CM_read_1 : decode b_CM_read 1 = .ok (.iload_n 1, 1) := by decide +kernel
theorem d_CM_read_2 : decode b_CM_read 2 = .ok (.iload_n 2, 1) := by decide +kernel
theorem d_CM_read_3 : decode b_CM_read 3 = .ok (.iload_n 3, 1) := by decide +kernel
theorem d_CM_read_4 : decode b_CM_read 4 = .ok (.invokevirtual 145, 3) := by decide +kernel
theorem d_CM_read_7 : decode b_CM_read 7 = .ok (.istore 5, 2) := by decide +kernel
theorem d_CM_read_9 : decode b_CM_read 9 = .ok (.iload 5, 2) := by decide +kernel
theorem d_CM_read_11 : decode b_CM_read 11 = .ok (.ifCond .ge 6, 3) := by decide +kernel
theorem d_CM_read_14 : decode b_CM_read 14 = .ok (.iload 5, 2) := by decide +kernel
theorem d_CM_read_16 : decode b_CM_read 16 = .ok (.ireturn, 1) := by decide +kernel
theorem d_CM_read_17 : decode b_CM_read 17 = .ok (.iload 4, 2) := by decide +kernel
theorem d_CM_read_19 : decode b_CM_read 19 = .ok (.ifCond .lt 20, 3) := by decide +kernel
theorem d_CM_read_22 : decode b_CM_read 22 = .ok (.iload 4, 2) := by decide +kernel
theorem d_CM_read_24 : decode b_CM_read 24 = .ok (.aload_n 0, 1) := by decide +kernel
theorem d_CM_read_25 : decode b_CM_read 25 = .ok (.getfield 33, 3) := by decide +kernel
theorem d_CM_read_28 : decode b_CM_read 28 = .ok (.getfield 126, 3) := by decide +kernel
theorem d_CM_read_31 : decode b_CM_read 31 = .ok (.iload 5, 2) := by decide +kernel
theorem d_CM_read_33 : decode b_CM_read 33 = .ok (.invokevirtual 152, 3) := by decide +kernel
theorem d_CM_read_36 : decode b_CM_read 36 = .ok (.if_icmp .lt 6, 3) := by decide +kernel
theorem d_CM_read_39 : decode b_CM_read 39 = .ok (.bipush (-2), 2) := by decide +kernel
theorem d_CM_read_41 : decode b_CM_read 41 = .ok (.ireturn, 1) := by decide +kernel
theorem d_CM_read_42 : decode b_CM_read 42 = .ok (.aload_n 0, 1) := by decide +kernel
theorem d_CM_read_43 : decode b_CM_read 43 = .ok (.getfield 33, 3) := by decide +kernel
theorem d_CM_read_46 : decode b_CM_read 46 = .ok (.getfield 126, 3) := by decide +kernel
theorem d_CM_read_49 : decode b_CM_read 49 = .ok (.iload 5, 2) := by decide +kernel
theorem d_CM_read_51 : decode b_CM_read 51 = .ok (.iload 4, 2) := by decide +kernel
theorem d_CM_read_53 : decode b_CM_read 53 = .ok (.invokevirtual 158, 3) := by decide +kernel
theorem d_CM_read_56 : decode b_CM_read 56 = .ok (.ireturn, 1) := by decide +kernel
theorem d_CM_follow_0 : decode b_CM_follow 0 = .ok (.iload_n 1, 1) := by decide +kernel
theorem d_CM_follow_1 : decode b_CM_follow 1 = .ok (.invokestatic 67, 3) := by decide +kernel
theorem d_CM_follow_4 : decode b_CM_follow 4 = .ok (.ifCond .eq 17, 3) := by decide +kernel
theorem d_CM_follow_7 : decode b_CM_follow 7 = .ok (.iload_n 2, 1) := by decide +kernel
theorem d_CM_follow_8 : decode b_CM_follow 8 = .ok (.invokestatic 67, 3) := by decide +kernel
theorem d_CM_follow_11 : decode b_CM_follow 11 = .ok (.ifCond .eq 10, 3) := by decide +kernel
theorem d_CM_follow_14 : decode b_CM_follow 14 = .ok (.iload_n 3, 1) := by decide +kernel
theorem d_CM_follow_15 : decode b_CM_follow 15 = .ok (.invokestatic 67, 3) := by decide +kernel
theorem d_CM_follow_18 : decode b_CM_follow 18 = .ok (.ifCond .ne 5, 3) := by decide +kernel
theorem d_CM_follow_21 : decode b_CM_follow 21 = .ok (.iconst (-1), 1) := by decide +kernel
theorem d_CM_follow_22 : decode b_CM_follow 22 = .ok (.ireturn, 1) := by decide +kernel
theorem d_CM_follow_23 : decode b_CM_follow 23 = .ok (.aload_n 0, 1) := by decide +kernel
theorem d_CM_follow_24 : decode b_CM_follow 24 = .ok (.getfield 33, 3) := by decide +kernel
theorem d_CM_follow_27 : decode b_CM_follow 27 = .ok (.getfield 126, 3) := by decide +kernel
theorem d_CM_follow_30 : decode b_CM_follow 30 = .ok (.astore 4, 2) := by decide +kernel
theorem d_CM_follow_32 : decode b_CM_follow 32 = .ok (.aload 4, 2) := by decide +kernel
theorem d_CM_follow_34 : decode b_CM_follow 34 = .ok (.invokevirtual 161, 3) := by decide +kernel
theorem d_CM_follow_37 : decode b_CM_follow 37 = .ok (.istore 5, 2) := by decide +kernel
theorem d_CM_follow_39 : decode b_CM_follow 39 = .ok (.iload_n 1, 1) := by decide +kernel
theorem d_CM_follow_40 : decode b_CM_follow 40 = .ok (.ifCond .eq 8, 3) := by decide +kernel
theorem d_CM_follow_43 : decode b_CM_follow 43 = .ok (.iload 5, 2) := by decide +kernel
theorem d_CM_follow_45 : decode b_CM_follow 45 = .ok (.ifCond .ge 6, 3) := by decide +kernel
theorem d_CM_follow_48 : decode b_CM_follow 48 = .ok (.iload 5, 2) := by decide +kernel
theorem d_CM_follow_50 : decode b_CM_follow 50 = .ok (.ireturn, 1) := by decide +kernel
theorem d_CM_follow_51 : decode b_CM_follow 51 = .ok (.aload 4, 2) := by decide +kernel
theorem d_CM_follow_53 : decode b_CM_follow 53 = .ok (.iload 5, 2) := by decide +kernel
theorem d_CM_follow_55 : decode b_CM_follow 55 = .ok (.iload_n 1, 1) := by decide +kernel
theorem d_CM_follow_56 : decode b_CM_follow 56 = .ok (.invokevirtual 164, 3) := by decide +kernel
theorem d_CM_follow_59 : decode b_CM_follow 59 = .ok (.istore 5, 2) := by decide +kernel
theorem d_CM_follow_61 : decode b_CM_follow 61 = .ok (.iload_n 2, 1) := by decide +kernel
theorem d_CM_follow_62 : decode b_CM_follow 62 = .ok (.ifCond .eq 8, 3) := by decide +kernel
theorem d_CM_follow_65 : decode b_CM_follow 65 = .ok (.iload 5, 2) := by decide +kernel
theorem d_CM_follow_67 : decode b_CM_follow 67 = .ok (.ifCond .ge 6, 3) := by decide +kernel
theorem d_CM_follow_70 : decode b_CM_follow 70 = .ok (.iload 5, 2) := by decide +kernel
theorem d_CM_follow_72 : decode b_CM_follow 72 = .ok (.ireturn, 1) := by decide +kernel
theorem d_CM_follow_73 : decode b_CM_follow 73 = .ok (.aload 4, 2) := by decide +kernel
theorem d_CM_follow_75 : decode b_CM_follow 75 = .ok (.iload 5, 2) := by decide +kernel
theorem d_CM_follow_77 : decode b_CM_follow 77 = .ok (.iload_n 2, 1) := by decide +kernel
theorem d_CM_follow_78 : decode b_CM_follow 78 = .ok (.invokevirtual 164, 3) := by decide +kernel
theorem d_CM_follow_81 : decode b_CM_follow 81 = .ok (.istore 5, 2) := by decide +kernel
theorem d_CM_follow_83 : decode b_CM_follow 83 = .ok (.iload_n 3, 1) := by decide +kernel
theorem d_CM_follow_84 : decode b_CM_follow 84 = .ok (.ifCond .eq 8, 3) := by decide +kernel
theorem d_CM_follow_87 : decode b_CM_follow 87 = .ok (.iload 5, 2) := by decide +kernel
theorem d_CM_follow_89 : decode b_CM_follow 89 = .ok (.ifCond .ge 6, 3) := by decide +kernel
theorem d_CM_follow_92 : decode b_CM_follow 92 = .ok (.iload 5, 2) := by decide +kernel
theorem d_CM_follow_94 : decode b_CM_follow 94 = .ok (.ireturn, 1) := by decide +kernel
theorem d_CM_follow_95 : decode b_CM_follow 95 = .ok (.aload 4, 2) := by decide +kernel
theorem d_CM_follow_97 : decode b_CM_follow 97 = .ok (.iload 5, 2) := by decide +kernel
theorem d_CM_follow_99 : decode b_CM_follow 99 = .ok (.iload_n 3, 1) := by decide +kernel
theorem d_CM_follow_100 : decode b_CM_follow 100 = .ok (.invokevirtual 164, 3) := by decide +kernel
theorem d_CM_follow_103 : decode b_CM_follow 103 = .ok (.ireturn, 1) := by decide +kernel
theorem d_CM_isEntryKey_0 : decode b_CM_isEntryKey 0 = .ok (.iload_n 0, 1) := by decide +kernel
theorem d_CM_isEntryKey_1 : decode b_CM_isEntryKey 1 = .ok (.iconst 1, 1) := by decide +kernel
theorem d_CM_isEntryKey_2 : decode b_CM_isEntryKey 2 = .ok (.if_icmp .lt 13, 3) := by decide +kernel
theorem d_CM_isEntryKey_5 : decode b_CM_isEntryKey 5 = .ok (.iload_n 0, 1) := by decide +kernel
theorem d_CM_isEntryKey_6 : decode b_CM_isEntryKey 6 = .ok (.bipush 12, 2) := by decide +kernel
theorem d_CM_isEntryKey_8 : decode b_CM_isEntryKey 8 = .ok (.if_icmp .ge 7, 3) := by decide +kernel
theorem d_CM_isEntryKey_11 : decode b_CM_isEntryKey 11 = .ok (.iconst 1, 1) := by decide +kernel
theorem d_CM_isEntryKey_12 : decode b_CM_isEntryKey 12 = .ok (.goto 4, 3) := by decide +kernel
theorem d_CM_isEntryKey_15 : decode b_CM_isEntryKey 15 = .ok (.iconst 0, 1) := by decide +kernel
theorem d_CM_isEntryKey_16 : decode b_CM_isEntryKey 16 = .ok (.ireturn, 1) := by decide +kernel
theorem d_CM_isByte_0 : decode b_CM_isByte 0 = .ok (.iload_n 0, 1) := by decide +kernel
theorem d_CM_isByte_1 : decode b_CM_isByte 1 = .ok (.ifCond .lt 14, 3) := by decide +kernel
theorem d_CM_isByte_4 : decode b_CM_isByte 4 = .ok (.iload_n 0, 1) := by decide +kernel
theorem d_CM_isByte_5 : decode b_CM_isByte 5 = .ok (.sipush 255, 3) := by decide +kernel
theorem d_CM_isByte_8 : decode b_CM_isByte 8 = .ok (.if_icmp .gt 7, 3) := by decide +kernel
theorem d_CM_isByte_11 : decode b_CM_isByte 11 = .ok (.iconst 1, 1) := by decide +kernel
theorem d_CM_isByte_12 : decode b_CM_isByte 12 = .ok (.goto 4, 3) := by decide +kernel
theorem d_CM_isByte_15 : decode b_CM_isByte 15 = .ok (.iconst 0, 1) := by decide +kernel
theorem d_CM_isByte_16 : decode b_CM_isByte 16 = .ok (.ireturn, 1) := by decide +kernel
theorem d_CM_pairAt_0 : decode b_CM_pairAt 0 = .ok (.aload_n 0, 1) := by decide +kernel
theorem d_CM_pairAt_1 : decode b_CM_pairAt 1 = .ok (.iload_n 1, 1) := by decide +kernel
theorem d_CM_pairAt_2 : decode b_CM_pairAt 2 = .ok (.iaload, 1) := by decide +kernel
theorem d_CM_pairAt_3 : decode b_CM_pairAt 3 = .ok (.sipush 256, 3) := by decide +kernel
theorem d_CM_pairAt_6 : decode b_CM_pairAt 6 = .ok (.imul, 1) := by decide +kernel
theorem d_CM_pairAt_7 : decode b_CM_pairAt 7 = .ok (.aload_n 0, 1) := by decide +kernel
theorem d_CM_pairAt_8 : decode b_CM_pairAt 8 = .ok (.iload_n 1, 1) := by decide +kernel
theorem d_CM_pairAt_9 : decode b_CM_pairAt 9 = .ok (.iconst 1, 1) := by decide +kernel
theorem d_CM_pairAt_10 : decode b_CM_pairAt 10 = .ok (.iadd, 1) := by decide +kernel
theorem d_CM_pairAt_11 : decode b_CM_pairAt 11 = .ok (.iaload, 1) := by decide +kernel
theorem d_CM_pairAt_12 : decode b_CM_pairAt 12 = .ok (.iadd, 1) := by decide +kernel
theorem d_CM_pairAt_13 : decode b_CM_pairAt 13 = .ok (.ireturn, 1) := by decide +kernel
theorem d_CM_checkOf_0 : decode b_CM_checkOf 0 = .ok (.iconst (-1), 1) := by decide +kernel
theorem d_CM_checkOf_1 : decode b_CM_checkOf 1 = .ok (.istore_n 3, 1) := by decide +kernel
theorem d_CM_checkOf_2 : decode b_CM_checkOf 2 = .ok (.iload_n 1, 1) := by decide +kernel
theorem d_CM_checkOf_3 : decode b_CM_checkOf 3 = .ok (.istore 4, 2) := by decide +kernel
theorem d_CM_checkOf_5 : decode b_CM_checkOf 5 = .ok (.iload 4, 2) := by decide +kernel
theorem d_CM_checkOf_7 : decode b_CM_checkOf 7 = .ok (.iload_n 2, 1) := by decide +kernel
theorem d_CM_checkOf_8 : decode b_CM_checkOf 8 = .ok (.if_icmp .ge 52, 3) := by decide +kernel
theorem d_CM_checkOf_11 : decode b_CM_checkOf 11 = .ok (.iload_n 3, 1) := by decide +kernel
theorem d_CM_checkOf_12 : decode b_CM_checkOf 12 = .ok (.aload_n 0, 1) := by decide +kernel
theorem d_CM_checkOf_13 : decode b_CM_checkOf 13 = .ok (.iload 4, 2) := by decide +kernel
theorem d_CM_checkOf_15 : decode b_CM_checkOf 15 = .ok (.iaload, 1) := by decide +kernel
theorem d_CM_checkOf_16 : decode b_CM_checkOf 16 = .ok (.bipush 24, 2) := by decide +kernel
theorem d_CM_checkOf_18 : decode b_CM_checkOf 18 = .ok (.ishl, 1) := by decide +kernel
theorem d_CM_checkOf_19 : decode b_CM_checkOf 19 = .ok (.ixor, 1) := by decide +kernel
theorem d_CM_checkOf_20 : decode b_CM_checkOf 20 = .ok (.istore_n 3, 1) := by decide +kernel
theorem d_CM_checkOf_21 : decode b_CM_checkOf 21 = .ok (.iconst 0, 1) := by decide +kernel
theorem d_CM_checkOf_22 : decode b_CM_checkOf 22 = .ok (.istore 5, 2) := by decide +kernel
theorem d_CM_checkOf_24 : decode b_CM_checkOf 24 = .ok (.iload 5, 2) := by decide +kernel
theorem d_CM_checkOf_26 : decode b_CM_checkOf 26 = .ok (.bipush 8, 2) := by decide +kernel
theorem d_CM_checkOf_28 : decode b_CM_checkOf 28 = .ok (.if_icmp .ge 26, 3) := by decide +kernel
theorem d_CM_checkOf_31 : decode b_CM_checkOf 31 = .ok (.iload_n 3, 1) := by decide +kernel
theorem d_CM_checkOf_32 : decode b_CM_checkOf 32 = .ok (.ifCond .ge 12, 3) := by decide +kernel
theorem d_CM_checkOf_35 : decode b_CM_checkOf 35 = .ok (.iload_n 3, 1) := by decide +kernel
theorem d_CM_checkOf_36 : decode b_CM_checkOf 36 = .ok (.iconst 1, 1) := by decide +kernel
theorem d_CM_checkOf_37 : decode b_CM_checkOf 37 = .ok (.ishl, 1) := by decide +kernel
theorem d_CM_checkOf_38 : decode b_CM_checkOf 38 = .ok (.ldc 167, 2) := by decide +kernel
theorem d_CM_checkOf_40 : decode b_CM_checkOf 40 = .ok (.ixor, 1) := by decide +kernel
theorem d_CM_checkOf_41 : decode b_CM_checkOf 41 = .ok (.goto 6, 3) := by decide +kernel
theorem d_CM_checkOf_44 : decode b_CM_checkOf 44 = .ok (.iload_n 3, 1) := by decide +kernel
theorem d_CM_checkOf_45 : decode b_CM_checkOf 45 = .ok (.iconst 1, 1) := by decide +kernel
theorem d_CM_checkOf_46 : decode b_CM_checkOf 46 = .ok (.ishl, 1) := by decide +kernel
theorem d_CM_checkOf_47 : decode b_CM_checkOf 47 = .ok (.istore_n 3, 1) := by decide +kernel
theorem d_CM_checkOf_48 : decode b_CM_checkOf 48 = .ok (.iinc 5 1, 3) := by decide +kernel
theorem d_CM_checkOf_51 : decode b_CM_checkOf 51 = .ok (.goto (-27), 3) := by decide +kernel
theorem d_CM_checkOf_54 : decode b_CM_checkOf 54 = .ok (.iinc 4 1, 3) := by decide +kernel
theorem d_CM_checkOf_57 : decode b_CM_checkOf 57 = .ok (.goto (-52), 3) := by decide +kernel
theorem d_CM_checkOf_60 : decode b_CM_checkOf 60 = .ok (.iload_n 3, 1) := by decide +kernel
theorem d_CM_checkOf_61 : decode b_CM_checkOf 61 = .ok (.ireturn, 1) := by decide +kernel
theorem d_CM_blocksIn_0 : decode b_CM_blocksIn 0 = .ok (.iload_n 0, 1) := by decide +kernel
theorem d_CM_blocksIn_1 : decode b_CM_blocksIn 1 = .ok (.bipush 8, 2) := by decide +kernel
theorem d_CM_blocksIn_3 : decode b_CM_blocksIn 3 = .ok (.iadd, 1) := by decide +kernel
theorem d_CM_blocksIn_4 : decode b_CM_blocksIn 4 = .ok (.iconst 1, 1) := by decide +kernel
theorem d_CM_blocksIn_5 : decode b_CM_blocksIn 5 = .ok (.isub, 1) := by decide +kernel
theorem d_CM_blocksIn_6 : decode b_CM_blocksIn 6 = .ok (.bipush 8, 2) := by decide +kernel
theorem d_CM_blocksIn_8 : decode b_CM_blocksIn 8 = .ok (.idiv, 1) := by decide +kernel
theorem d_CM_blocksIn_9 : decode b_CM_blocksIn 9 = .ok (.ireturn, 1) := by decide +kernel
theorem d_CM_blockLength_0 : decode b_CM_blockLength 0 = .ok (.iload_n 0, 1) := by decide +kernel
theorem d_CM_blockLength_1 : decode b_CM_blockLength 1 = .ok (.iload_n 1, 1) := by decide +kernel
theorem d_CM_blockLength_2 : decode b_CM_blockLength 2 = .ok (.bipush 8, 2) := by decide +kernel
theorem d_CM_blockLength_4 : decode b_CM_blockLength 4 = .ok (.imul, 1) := by decide +kernel
theorem d_CM_blockLength_5 : decode b_CM_blockLength 5 = .ok (.isub, 1) := by decide +kernel
theorem d_CM_blockLength_6 : decode b_CM_blockLength 6 = .ok (.istore_n 2, 1) := by decide +kernel
theorem d_CM_blockLength_7 : decode b_CM_blockLength 7 = .ok (.iload_n 2, 1) := by decide +kernel
theorem d_CM_blockLength_8 : decode b_CM_blockLength 8 = .ok (.bipush 8, 2) := by decide +kernel
theorem d_CM_blockLength_10 : decode b_CM_blockLength 10 = .ok (.if_icmp .ge 7, 3) := by decide +kernel
theorem d_CM_blockLength_13 : decode b_CM_blockLength 13 = .ok (.iload_n 2, 1) := by decide +kernel
theorem d_CM_blockLength_14 : decode b_CM_blockLength 14 = .ok (.goto 5, 3) := by decide +kernel
theorem d_CM_blockLength_17 : decode b_CM_blockLength 17 = .ok (.bipush 8, 2) := by decide +kernel
theorem d_CM_blockLength_19 : decode b_CM_blockLength 19 = .ok (.ireturn, 1) := by decide +kernel
theorem d_Ed_init_0 : decode b_Ed_init 0 = .ok (.aload_n 0, 1) := by decide +kernel
theorem d_Ed_init_1 : decode b_Ed_init 1 = .ok (.invokespecial 3, 3) := by decide +kernel
theorem d_Ed_init_4 : decode b_Ed_init 4 = .ok (.aload_n 0, 1) := by decide +kernel
theorem d_Ed_init_5 : decode b_Ed_init 5 = .ok (.iconst 0, 1) := by decide +kernel
theorem d_Ed_init_6 : decode b_Ed_init 6 = .ok (.putfield 9, 3) := by decide +kernel
theorem d_Ed_init_9 : decode b_Ed_init 9 = .ok (.aload_n 0, 1) := by decide +kernel
theorem d_Ed_init_10 : decode b_Ed_init 10 = .ok (.iconst 0, 1) := by decide +kernel
theorem d_Ed_init_11 : decode b_Ed_init 11 = .ok (.putfield 15, 3) := by decide +kernel
theorem d_Ed_init_14 : decode b_Ed_init 14 = .ok (.aload_n 0, 1) := by decide +kernel
theorem d_Ed_init_15 : decode b_Ed_init 15 = .ok (.bipush 12, 2) := by decide +kernel
theorem d_Ed_init_17 : decode b_Ed_init 17 = .ok (.newarray .int, 2) := by decide +kernel
theorem d_Ed_init_19 : decode b_Ed_init 19 = .ok (.putfield 18, 3) := by decide +kernel
theorem d_Ed_init_22 : decode b_Ed_init 22 = .ok (.aload_n 0, 1) := by decide +kernel
theorem d_Ed_init_23 : decode b_Ed_init 23 = .ok (.bipush 12, 2) := by decide +kernel
theorem d_Ed_init_25 : decode b_Ed_init 25 = .ok (.newarray .int, 2) := by decide +kernel
theorem d_Ed_init_27 : decode b_Ed_init 27 = .ok (.putfield 22, 3) := by decide +kernel
theorem d_Ed_init_30 : decode b_Ed_init 30 = .ok (.aload_n 0, 1) := by decide +kernel
theorem d_Ed_init_31 : decode b_Ed_init 31 = .ok (.sipush 576, 3) := by decide +kernel
theorem d_Ed_init_34 : decode b_Ed_init 34 = .ok (.newarray .int, 2) := by decide +kernel
theorem d_Ed_init_36 : decode b_Ed_init 36 = .ok (.putfield 25, 3) := by decide +kernel
theorem d_Ed_init_39 : decode b_Ed_init 39 = .ok (.aload_n 0, 1) := by decide +kernel
theorem d_Ed_init_40 : decode b_Ed_init 40 = .ok (.bipush 12, 2) := by decide +kernel
theorem d_Ed_init_42 : decode b_Ed_init 42 = .ok (.newarray .int, 2) := by decide +kernel
theorem d_Ed_init_44 : decode b_Ed_init 44 = .ok (.putfield 28, 3) := by decide +kernel
theorem d_Ed_init_47 : decode b_Ed_init 47 = .ok (.aload_n 0, 1) := by decide +kernel
theorem d_Ed_init_48 : decode b_Ed_init 48 = .ok (.iconst 0, 1) := by decide +kernel
theorem d_Ed_init_49 : decode b_Ed_init 49 = .ok (.putfield 31, 3) := by decide +kernel
theorem d_Ed_init_52 : decode b_Ed_init 52 = .ok (.aload_n 0, 1) := by decide +kernel
theorem d_Ed_init_53 : decode b_Ed_init 53 = .ok (.bipush 12, 2) := by decide +kernel
theorem d_Ed_init_55 : decode b_Ed_init 55 = .ok (.newarray .int, 2) := by decide +kernel
theorem d_Ed_init_57 : decode b_Ed_init 57 = .ok (.putfield 34, 3) := by decide +kernel
theorem d_Ed_init_60 : decode b_Ed_init 60 = .ok (.aload_n 0, 1) := by decide +kernel
theorem d_Ed_init_61 : decode b_Ed_init 61 = .ok (.bipush 48, 2) := by decide +kernel
theorem d_Ed_init_63 : decode b_Ed_init 63 = .ok (.newarray .int, 2) := by decide +kernel
theorem d_Ed_init_65 : decode b_Ed_init 65 = .ok (.putfield 37, 3) := by decide +kernel
theorem d_Ed_init_68 : decode b_Ed_init 68 = .ok (.aload_n 0, 1) := by decide +kernel
theorem d_Ed_init_69 : decode b_Ed_init 69 = .ok (.iconst 0, 1) := by decide +kernel
theorem d_Ed_init_70 : decode b_Ed_init 70 = .ok (.putfield 40, 3) := by decide +kernel
theorem d_Ed_init_73 : decode b_Ed_init 73 = .ok (.return_, 1) := by decide +kernel
theorem d_Ed_byteAt_0 : decode b_Ed_byteAt 0 = .ok (.aload_n 0, 1) := by decide +kernel
theorem d_Ed_byteAt_1 : decode b_Ed_byteAt 1 = .ok (.getfield 25, 3) := by decide +kernel
theorem d_Ed_byteAt_4 : decode b_Ed_byteAt 4 = .ok (.iload_n 1, 1) := by decide +kernel
theorem d_Ed_byteAt_5 : decode b_Ed_byteAt 5 = .ok (.bipush 48, 2) := by decide +kernel
theorem d_Ed_byteAt_7 : decode b_Ed_byteAt 7 = .ok (.imul, 1) := by decide +kernel
theorem d_Ed_byteAt_8 : decode b_Ed_byteAt 8 = .ok (.iload_n 2, 1) := by decide +kernel
theorem d_Ed_byteAt_9 : decode b_Ed_byteAt 9 = .ok (.iadd, 1) := by decide +kernel
theorem d_Ed_byteAt_10 : decode b_Ed_byteAt 10 = .ok (.iaload, 1) := by decide +kernel
theorem d_Ed_byteAt_11 : decode b_Ed_byteAt 11 = .ok (.ireturn, 1) := by decide +kernel
theorem d_Ed_renew_0 : decode b_Ed_renew 0 = .ok (.aload_n 0, 1) := by decide +kernel
theorem d_Ed_renew_1 : decode b_Ed_renew 1 = .ok (.dup, 1) := by decide +kernel
theorem d_Ed_renew_2 : decode b_Ed_renew 2 = .ok (.getfield 9, 3) := by decide +kernel
theorem d_Ed_renew_5 : decode b_Ed_renew 5 = .ok (.iconst 1, 1) := by decide +kernel
theorem d_Ed_renew_6 : decode b_Ed_renew 6 = .ok (.iadd, 1) := by decide +kernel
theorem d_Ed_renew_7 : decode b_Ed_renew 7 = .ok (.putfield 9, 3) := by decide +kernel
theorem d_Ed_renew_10 : decode b_Ed_renew 10 = .ok (.aload_n 0, 1) := by decide +kernel
theorem d_Ed_renew_11 : decode b_Ed_renew 11 = .ok (.aload_n 1, 1) := by decide +kernel
theorem d_Ed_renew_12 : decode b_Ed_renew 12 = .ok (.invokevirtual 43, 3) := by decide +kernel
theorem d_Ed_renew_15 : decode b_Ed_renew 15 = .ok (.aload_n 0, 1) := by decide +kernel
theorem d_Ed_renew_16 : decode b_Ed_renew 16 = .ok (.aload_n 1, 1) := by decide +kernel
theorem d_Ed_renew_17 : decode b_Ed_renew 17 = .ok (.invokevirtual 47, 3) := by decide +kernel
theorem d_Ed_renew_20 : decode b_Ed_renew 20 = .ok (.istore_n 2, 1) := by decide +kernel
theorem d_Ed_renew_21 : decode b_Ed_renew 21 = .ok (.iconst 0, 1) := by decide +kernel
theorem d_Ed_renew_22 : decode b_Ed_renew 22 = .ok (.istore_n 3, 1) := by decide +kernel
theorem d_Ed_renew_23 : decode b_Ed_renew 23 = .ok (.iload_n 3, 1) := by decide +kernel
theorem d_Ed_renew_24 : decode b_Ed_renew 24 = .ok (.iload_n 2, 1) := by decide +kernel
theorem d_Ed_renew_25 : decode b_Ed_renew 25 = .ok (.if_icmp .ge 20, 3) := by decide +kernel
theorem d_Ed_renew_28 : decode b_Ed_renew 28 = .ok (.aload_n 0, 1) := by decide +kernel
theorem d_Ed_renew_29 : decode b_Ed_renew 29 = .ok (.aload_n 1, 1) := by decide +kernel
theorem d_Ed_renew_30 : decode b_Ed_renew 30 = .ok (.iload_n 3, 1) := by decide +kernel
theorem d_Ed_renew_31 : decode b_Ed_renew 31 = .ok (.invokevirtual 51, 3) := by decide +kernel
theorem d_Ed_renew_34 : decode b_Ed_renew 34 = .ok (.aload_n 0, 1) := by decide +kernel
theorem d_Ed_renew_35 : decode b_Ed_renew 35 = .ok (.iload_n 3, 1) := by decide +kernel
theorem d_Ed_renew_36 : decode b_Ed_renew 36 = .ok (.invokevirtual 55, 3) := by decide +kernel
theorem d_Ed_renew_39 : decode b_Ed_renew 39 = .ok (.iinc 3 1, 3) := by decide +kernel
theorem d_Ed_renew_42 : decode b_Ed_renew 42 = .ok (.goto (-19), 3) := by decide +kernel
theorem d_Ed_renew_45 : decode b_Ed_renew 45 = .ok (.aload_n 0, 1) := by decide +kernel
theorem d_Ed_renew_46 : decode b_Ed_renew 46 = .ok (.iload_n 2, 1) := by decide +kernel
theorem d_Ed_renew_47 : decode b_Ed_renew 47 = .ok (.putfield 15, 3) := by decide +kernel
theorem d_Ed_renew_50 : decode b_Ed_renew 50 = .ok (.return_, 1) := by decide +kernel
theorem d_Ed_arrange_0 : decode b_Ed_arrange 0 = .ok (.aload_n 0, 1) := by decide +kernel
theorem d_Ed_arrange_1 : decode b_Ed_arrange 1 = .ok (.iconst 0, 1) := by decide +kernel
theorem d_Ed_arrange_2 : decode b_Ed_arrange 2 = .ok (.putfield 31, 3) := by decide +kernel
theorem d_Ed_arrange_5 : decode b_Ed_arrange 5 = .ok (.iconst 0, 1) := by decide +kernel
theorem d_Ed_arrange_6 : decode b_Ed_arrange 6 = .ok (.istore_n 2, 1) := by decide +kernel
theorem d_Ed_arrange_7 : decode b_Ed_arrange 7 = .ok (.iconst 0, 1) := by decide +kernel
theorem d_Ed_arrange_8 : decode b_Ed_arrange 8 = .ok (.istore_n 3, 1) := by decide +kernel
theorem d_Ed_arrange_9 : decode b_Ed_arrange 9 = .ok (.iload_n 3, 1) := by decide +kernel
theorem d_Ed_arrange_10 : decode b_Ed_arrange 10 = .ok (.bipush 12, 2) := by decide +kernel
theorem d_Ed_arrange_12 : decode b_Ed_arrange 12 = .ok (.if_icmp .ge 37, 3) := by decide +kernel
theorem d_Ed_arrange_15 : decode b_Ed_arrange 15 = .ok (.iload_n 2, 1) := by decide +kernel
theorem d_Ed_arrange_16 : decode b_Ed_arrange 16 = .ok (.iconst (-1), 1) := by decide +kernel
theorem d_Ed_arrange_17 : decode b_Ed_arrange 17 = .ok (.if_icmp .eq 32, 3) := by decide +kernel
theorem d_Ed_arrange_20 : decode b_Ed_arrange 20 = .ok (.aload_n 0, 1) := by decide +kernel
theorem d_Ed_arrange_21 : decode b_Ed_arrange 21 = .ok (.getfield 28, 3) := by decide +kernel
theorem d_Ed_arrange_24 : decode b_Ed_arrange 24 = .ok (.iload_n 3, 1) := by decide +kernel
theorem d_Ed_arrange_25 : decode b_Ed_arrange 25 = .ok (.iload_n 2, 1) := by decide +kernel
theorem d_Ed_arrange_26 : decode b_Ed_arrange 26 = .ok (.iastore, 1) := by decide +kernel
theorem d_Ed_arrange_27 : decode b_Ed_arrange 27 = .ok (.aload_n 0, 1) := by decide +kernel
theorem d_Ed_arrange_28 : decode b_Ed_arrange 28 = .ok (.dup, 1) := by decide +kernel
theorem d_Ed_arrange_29 : decode b_Ed_arrange 29 = .ok (.getfield 31, 3) := by decide +kernel
theorem d_Ed_arrange_32 : decode b_Ed_arrange 32 = .ok (.iconst 1, 1) := by decide +kernel
theorem d_Ed_arrange_33 : decode b_Ed_arrange 33 = .ok (.iadd, 1) := by decide +kernel
theorem d_Ed_arrange_34 : decode b_Ed_arrange 34 = .ok (.putfield 31, 3) := by decide +kernel
theorem d_Ed_arrange_37 : decode b_Ed_arrange 37 = .ok (.aload_n 1, 1) := by decide +kernel
theorem d_Ed_arrange_38 : decode b_Ed_arrange 38 = .ok (.iload_n 2, 1) := by decide +kernel
theorem d_Ed_arrange_39 : decode b_Ed_arrange 39 = .ok (.invokevirtual 59, 3) := by decide +kernel
theorem d_Ed_arrange_42 : decode b_Ed_arrange 42 = .ok (.istore_n 2, 1) := by decide +kernel
theorem d_Ed_arrange_43 : decode b_Ed_arrange 43 = .ok (.iinc 3 1, 3) := by decide +kernel
theorem d_Ed_arrange_46 : decode b_Ed_arrange 46 = .ok (.goto (-37), 3) := by decide +kernel
theorem d_Ed_arrange_49 : decode b_Ed_arrange 49 = .ok (.return_, 1) := by decide +kernel
theorem d_Ed_assignModules_0 : decode b_Ed_assignModules 0 = .ok (.iconst 0, 1) := by decide +kernel
theorem d_Ed_assignModules_1 : decode b_Ed_assignModules 1 = .ok (.istore_n 2, 1) := by decide +kernel
theorem d_Ed_assignModules_2 : decode b_Ed_assignModules 2 = .ok (.iconst 0, 1) := by decide +kernel
theorem d_Ed_assignModules_3 : decode b_Ed_assignModules 3 = .ok (.istore_n 3, 1) := by decide +kernel
theorem d_Ed_assignModules_4 : decode b_Ed_assignModules 4 = .ok (.iconst 0, 1) := by decide +kernel
theorem d_Ed_assignModules_5 : decode b_Ed_assignModules 5 = .ok (.istore 4, 2) := by decide +kernel
theorem d_Ed_assignModules_7 : decode b_Ed_assignModules 7 = .ok (.iload 4, 2) := by decide +kernel
theorem d_Ed_assignModules_9 : decode b_Ed_assignModules 9 = .ok (.aload_n 0, 1) := by decide +kernel
theorem d_Ed_assignModules_10 : decode b_Ed_assignModules 10 = .ok (.getfield 31, 3) := by decide +kernel
theorem d_Ed_assignModules_13 : decode b_Ed_assignModules 13 = .ok (.if_icmp .ge 61, 3) := by decide +kernel
theorem d_Ed_assignModules_16 : decode b_Ed_assignModules 16 = .ok (.iconst 3, 1) := by decide +kernel
theorem d_Ed_assignModules_17 : decode b_Ed_assignModules 17 = .ok (.aload_n 1, 1) := by decide +kernel
theorem d_Ed_assignModules_18 : decode b_Ed_assignModules 18 = .ok (.aload_n 0, 1) := by decide +kernel
theorem d_Ed_assignModules_19 : decode b_Ed_assignModules 19 = .ok (.getfield 28, 3) := by decide +kernel
theorem d_Ed_assignModules_22 : decode b_Ed_assignModules 22 = .ok (.iload 4, 2) := by decide +kernel
theorem d_Ed_assignModules_24 : decode b_Ed_assignModules 24 = .ok (.iaload, 1) := by decide +kernel
theorem d_Ed_assignModules_25 : decode b_Ed_assignModules 25 = .ok (.invokevirtual 65, 3) := by decide +kernel
theorem d_Ed_assignModules_28 : decode b_Ed_assignModules 28 = .ok (.iadd, 1) := by decide +kernel
theorem d_Ed_assignModules_29 : decode b_Ed_assignModules 29 = .ok (.istore 5, 2) := by decide +kernel
theorem d_Ed_assignModules_31 : decode b_Ed_assignModules 31 = .ok (.iload 4, 2) := by decide +kernel
theorem d_Ed_assignModules_33 : decode b_Ed_assignModules 33 = .ok (.ifCond .le 17, 3) := by decide +kernel
theorem d_Ed_assignModules_36 : decode b_Ed_assignModules 36 = .ok (.iload_n 3, 1) := by decide +kernel
theorem d_Ed_assignModules_37 : decode b_Ed_assignModules 37 = .ok (.iload 5, 2) := by decide +kernel
theorem d_Ed_assignModules_39 : decode b_Ed_assignModules 39 = .ok (.iadd, 1) := by decide +kernel
theorem d_Ed_assignModules_40 : decode b_Ed_assignModules 40 = .ok (.bipush 24, 2) := by decide +kernel
theorem d_Ed_assignModules_42 : decode b_Ed_assignModules 42 = .ok (.if_icmp .le 8, 3) := by decide +kernel
theorem d_Ed_assignModules_45 : decode b_Ed_assignModules 45 = .ok (.iinc 2 1, 3) := by decide +kernel
theorem d_Ed_assignModules_48 : decode b_Ed_assignModules 48 = .ok (.iconst 0, 1) := by decide +kernel
theorem d_Ed_assignModules_49 : decode b_Ed_assignModules 49 = .ok (.istore_n 3, 1) := by decide +kernel
theorem d_Ed_assignModules_50 : decode b_Ed_assignModules 50 = .ok (.aload_n 0, 1) := by decide +kernel
theorem d_Ed_assignModules_51 : decode b_Ed_assignModules 51 = .ok (.getfield 34, 3) := by decide +kernel
theorem d_Ed_assignModules_54 : decode b_Ed_assignModules 54 = .ok (.aload_n 0, 1) := by decide +kernel
theorem d_Ed_assignModules_55 : decode b_Ed_assignModules 55 = .ok (.getfield 28, 3) := by decide +kernel
theorem d_Ed_assignModules_58 : decode b_Ed_assignModules 58 = .ok (.iload 4, 2) := by decide +kernel
theorem d_Ed_assignModules_60 : decode b_Ed_assignModules 60 = .ok (.iaload, 1) := by decide +kernel
theorem d_Ed_assignModules_61 : decode b_Ed_assignModules 61 = .ok (.iload_n 2, 1) := by decide +kernel
theorem d_Ed_assignModules_62 : decode b_Ed_assignModules 62 = .ok (.iastore, 1) := by decide +kernel
theorem d_Ed_assignModules_63 : decode b_Ed_assignModules 63 = .ok (.iload_n 3, 1) := by decide +kernel
theorem d_Ed_assignModules_64 : decode b_Ed_assignModules 64 = .ok (.iload 5, 2) := by decide +kernel
theorem d_Ed_assignModules_66 : decode b_Ed_assignModules 66 = .ok (.iadd, 1) := by decide +kernel
theorem d_Ed_assignModules_67 : decode b_Ed_assignModules 67 = .ok (.istore_n 3, 1) := by decide +kernel
theorem d_Ed_assignModules_68 : decode b_Ed_assignModules 68 = .ok (.iinc 4 1, 3) := by decide +kernel
theorem d_Ed_assignModules_71 : decode b_Ed_assignModules 71 = .ok (.goto (-64), 3) := by decide +kernel
theorem d_Ed_assignModules_74 : decode b_Ed_assignModules 74 = .ok (.iload_n 2, 1) := by decide +kernel
theorem d_Ed_assignModules_75 : decode b_Ed_assignModules 75 = .ok (.iconst 1, 1) := by decide +kernel
theorem d_Ed_assignModules_76 : decode b_Ed_assignModules 76 = .ok (.iadd, 1) := by decide +kernel
theorem d_Ed_assignModules_77 : decode b_Ed_assignModules 77 = .ok (.ireturn, 1) := by decide +kernel
theorem d_Ed_draftModule_0 : decode b_Ed_draftModule 0 = .ok (.aload_n 0, 1) := by decide +kernel
theorem d_Ed_draftModule_1 : decode b_Ed_draftModule 1 = .ok (.iconst 0, 1) := by decide +kernel
theorem d_Ed_draftModule_2 : decode b_Ed_draftModule 2 = .ok (.putfield 40, 3) := by decide +kernel
theorem d_Ed_draftModule_5 : decode b_Ed_draftModule 5 = .ok (.iconst 0, 1) := by decide +kernel
theorem d_Ed_draftModule_6 : decode b_Ed_draftModule 6 = .ok (.istore_n 3, 1) := by decide +kernel
theorem d_Ed_draftModule_7 : decode b_Ed_draftModule 7 = .ok (.iload_n 3, 1) := by decide +kernel
theorem d_Ed_draftModule_8 : decode b_Ed_draftModule 8 = .ok (.aload_n 0, 1) := by decide +kernel
theorem d_Ed_draftModule_9 : decode b_Ed_draftModule 9 = .ok (.getfield 31, 3) := by decide +kernel
theorem d_Ed_draftModule_12 : decode b_Ed_draftModule 12 = .ok (.if_icmp .ge 35, 3) := by decide +kernel
theorem d_Ed_draftModule_15 : decode b_Ed_draftModule 15 = .ok (.aload_n 0, 1) := by decide +kernel
theorem d_Ed_draftModule_16 : decode b_Ed_draftModule 16 = .ok (.getfield 34, 3) := by decide +kernel
theorem d_Ed_draftModule_19 : decode b_Ed_draftModule 19 = .ok (.aload_n 0, 1) := by decide +kernel
theorem d_Ed_draftModule_20 : decode b_Ed_draftModule 20 = .ok (.getfield 28, 3) := by decide +kernel
theorem d_Ed_draftModule_23 : decode b_Ed_draftModule 23 = .ok (.iload_n 3, 1) := by decide +kernel
theorem d_Ed_draftModule_24 : decode b_Ed_draftModule 24 = .ok (.iaload, 1) := by decide +kernel
theorem d_Ed_draftModule_25 : decode b_Ed_draftModule 25 = .ok (.iaload, 1) := by decide +kernel
theorem d_Ed_draftModule_26 : decode b_Ed_draftModule 26 = .ok (.iload_n 2, 1) := by decide +kernel
theorem d_Ed_draftModule_27 : decode b_Ed_draftModule 27 = .ok (.if_icmp .ne 14, 3) := by decide +kernel
theorem d_Ed_draftModule_30 : decode b_Ed_draftModule 30 = .ok (.aload_n 0, 1) := by decide +kernel
theorem d_Ed_draftModule_31 : decode b_Ed_draftModule 31 = .ok (.aload_n 1, 1) := by decide +kernel
theorem d_Ed_draftModule_32 : decode b_Ed_draftModule 32 = .ok (.aload_n 0, 1) := by decide +kernel
theorem d_Ed_draftModule_33 : decode b_Ed_draftModule 33 = .ok (.getfield 28, 3) := by decide +kernel
theorem d_Ed_draftModule_36 : decode b_Ed_draftModule 36 = .ok (.iload_n 3, 1) := by decide +kernel
theorem d_Ed_draftModule_37 : decode b_Ed_draftModule 37 = .ok (.iaload, 1) := by decide +kernel
theorem d_Ed_draftModule_38 : decode b_Ed_draftModule 38 = .ok (.invokevirtual 68, 3) := by decide +kernel
theorem d_Ed_draftModule_41 : decode b_Ed_draftModule 41 = .ok (.iinc 3 1, 3) := by decide +kernel
theorem d_Ed_draftModule_44 : decode b_Ed_draftModule 44 = .ok (.goto (-37), 3) := by decide +kernel
theorem d_Ed_draftModule_47 : decode b_Ed_draftModule 47 = .ok (.return_, 1) := by decide +kernel
theorem d_Ed_draftMessage_0 : decode b_Ed_draftMessage 0 = .ok (.aload_n 0, 1) := by decide +kernel
theorem d_Ed_draftMessage_1 : decode b_Ed_draftMessage 1 = .ok (.aload_n 1, 1) := by decide +kernel
theorem d_Ed_draftMessage_2 : decode b_Ed_draftMessage 2 = .ok (.iload_n 2, 1) := by decide +kernel
theorem d_Ed_draftMessage_3 : decode b_Ed_draftMessage 3 = .ok (.invokevirtual 71, 3) := by decide +kernel
theorem d_Ed_draftMessage_6 : decode b_Ed_draftMessage 6 = .ok (.invokevirtual 74, 3) := by decide +kernel
theorem d_Ed_draftMessage_9 : decode b_Ed_draftMessage 9 = .ok (.aload_n 0, 1) := by decide +kernel
theorem d_Ed_draftMessage_10 : decode b_Ed_draftMessage 10 = .ok (.iload_n 2, 1) := by decide +kernel
theorem d_Ed_draftMessage_11 : decode b_Ed_draftMessage 11 = .ok (.invokevirtual 74, 3) := by decide +kernel
theorem d_Ed_draftMessage_14 : decode b_Ed_draftMessage 14 = .ok (.aload_n 0, 1) := by decide +kernel
theorem d_Ed_draftMessage_15 : decode b_Ed_draftMessage 15 = .ok (.aload_n 1, 1) := by decide +kernel
theorem d_Ed_draftMessage_16 : decode b_Ed_draftMessage 16 = .ok (.iload_n 2, 1) := by decide +kernel
theorem d_Ed_draftMessage_17 : decode b_Ed_draftMessage 17 = .ok (.invokevirtual 65, 3) := by decide +kernel
theorem d_Ed_draftMessage_20 : decode b_Ed_draftMessage 20 = .ok (.invokevirtual 74, 3) := by decide +kernel
theorem d_Ed_draftMessage_23 : decode b_Ed_draftMessage 23 = .ok (.aload_n 1, 1) := by decide +kernel
theorem d_Ed_draftMessage_24 : decode b_Ed_draftMessage 24 = .ok (.iload_n 2, 1) := by decide +kernel
theorem d_Ed_draftMessage_25 : decode b_Ed_draftMessage 25 = .ok (.invokevirtual 77, 3) := by decide +kernel
theorem d_Ed_draftMessage_28 : decode b_Ed_draftMessage 28 = .ok (.ifCond .eq 33, 3) := by decide +kernel
theorem d_Ed_draftMessage_31 : decode b_Ed_draftMessage 31 = .ok (.iconst 0, 1) := by decide +kernel
theorem d_Ed_draftMessage_32 : decode b_Ed_draftMessage 32 = .ok (.istore_n 3, 1) := by decide +kernel
theorem d_Ed_draftMessage_33 : decode b_Ed_draftMessage 33 = .ok (.iload_n 3, 1) := by decide +kernel
theorem d_Ed_draftMessage_34 : decode b_Ed_draftMessage 34 = .ok (.aload_n 1, 1) := by decide +kernel
theorem d_Ed_draftMessage_35 : decode b_Ed_draftMessage 35 = .ok (.iload_n 2, 1) := by decide +kernel
theorem d_Ed_draftMessage_36 : decode b_Ed_draftMessage 36 = .ok (.invokevirtual 81, 3) := by decide +kernel
theorem d_Ed_draftMessage_39 : decode b_Ed_draftMessage 39 = .ok (.if_icmp .ge 19, 3) := by decide +kernel
theorem d_Ed_draftMessage_42 : decode b_Ed_draftMessage 42 = .ok (.aload_n 0, 1) := by decide +kernel
theorem d_Ed_draftMessage_43 : decode b_Ed_draftMessage 43 = .ok (.aload_n 1, 1) := by decide +kernel
theorem d_Ed_draftMessage_44 : decode b_Ed_draftMessage 44 = .ok (.iload_n 2, 1) := by decide +kernel
theorem d_Ed_draftMessage_45 : decode b_Ed_draftMessage 45 = .ok (.iload_n 3, 1) := by decide +kernel
theorem d_Ed_draftMessage_46 : decode b_Ed_draftMessage 46 = .ok (.invokevirtual 84, 3) := by decide +kernel
theorem d_Ed_draftMessage_49 : decode b_Ed_draftMessage 49 = .ok (.invokevirtual 74, 3) := by decide +kernel
theorem d_Ed_draftMessage_52 : decode b_Ed_draftMessage 52 = .ok (.iinc 3 1, 3) := by decide +kernel
theorem d_Ed_draftMessage_55 : decode b_Ed_draftMessage 55 = .ok (.goto (-22), 3) := by decide +kernel
theorem d_Ed_draftMessage_58 : decode b_Ed_draftMessage 58 = .ok (.goto 9, 3) := by decide +kernel
theorem d_Ed_draftMessage_61 : decode b_Ed_draftMessage 61 = .ok (.aload_n 0, 1) := by decide +kernel
theorem d_Ed_draftMessage_62 : decode b_Ed_draftMessage 62 = .ok (.aload_n 1, 1) := by decide +kernel
theorem d_Ed_draftMessage_63 : decode b_Ed_draftMessage 63 = .ok (.iload_n 2, 1) := by decide +kernel
theorem d_Ed_draftMessage_64 : decode b_Ed_draftMessage 64 = .ok (.invokevirtual 88, 3) := by decide +kernel
theorem d_Ed_draftMessage_67 : decode b_Ed_draftMessage 67 = .ok (.return_, 1) := by decide +kernel
theorem d_Ed_draftEntries_0 : decode b_Ed_draftEntries 0 = .ok (.aload_n 1, 1) := by decide +kernel
theorem d_Ed_draftEntries_1 : decode b_Ed_draftEntries 1 = .ok (.iload_n 2, 1) := by decide +kernel
theorem d_Ed_draftEntries_2 : decode b_Ed_draftEntries 2 = .ok (.iconst 0, 1) := by decide +kernel
theorem d_Ed_draftEntries_3 : decode b_Ed_draftEntries 3 = .ok (.invokevirtual 91, 3) := by decide +kernel
theorem d_Ed_draftEntries_6 : decode b_Ed_draftEntries 6 = .ok (.istore_n 3, 1) := by decide +kernel
theorem d_Ed_draftEntries_7 : decode b_Ed_draftEntries 7 = .ok (.iconst 0, 1) := by decide +kernel
theorem d_Ed_draftEntries_8 : decode b_Ed_draftEntries 8 = .ok (.istore 4, 2) := by decide +kernel
theorem d_Ed_draftEntries_10 : decode b_Ed_draftEntries 10 = .ok (.iload 4, 2) := by decide +kernel
theorem d_Ed_draftEntries_12 : decode b_Ed_draftEntries 12 = .ok (.bipush 12, 2) := by decide +kernel
theorem d_Ed_draftEntries_14 : decode b_Ed_draftEntries 14 = .ok (.if_icmp .ge 58, 3) := by decide +kernel
theorem d_Ed_draftEntries_17 : decode b_Ed_draftEntries 17 = .ok (.iload_n 3, 1) := by decide +kernel
theorem d_Ed_draftEntries_18 : decode b_Ed_draftEntries 18 = .ok (.iconst (-1), 1) := by decide +kernel
theorem d_Ed_draftEntries_19 : decode b_Ed_draftEntries 19 = .ok (.if_icmp .eq 53, 3) := by decide +kernel
theorem d_Ed_draftEntries_22 : decode b_Ed_draftEntries 22 = .ok (.aload_n 0, 1) := by decide +kernel
theorem d_Ed_draftEntries_23 : decode b_Ed_draftEntries 23 = .ok (.aload_n 1, 1) := by decide +kernel
theorem d_Ed_draftEntries_24 : decode b_Ed_draftEntries 24 = .ok (.iload_n 3, 1) := by decide +kernel
theorem d_Ed_draftEntries_25 : decode b_Ed_draftEntries 25 = .ok (.invokevirtual 94, 3) := by decide +kernel
theorem d_Ed_draftEntries_28 : decode b_Ed_draftEntries 28 = .ok (.invokevirtual 74, 3) := by decide +kernel
theorem d_Ed_draftEntries_31 : decode b_Ed_draftEntries 31 = .ok (.aload_n 0, 1) := by decide +kernel
theorem d_Ed_draftEntries_32 : decode b_Ed_draftEntries 32 = .ok (.aload_n 1, 1) := by decide +kernel
theorem d_Ed_draftEntries_33 : decode b_Ed_draftEntries 33 = .ok (.iload_n 3, 1) := by decide +kernel
theorem d_Ed_draftEntries_34 : decode b_Ed_draftEntries 34 = .ok (.invokevirtual 71, 3) := by decide +kernel
theorem d_Ed_draftEntries_37 : decode b_Ed_draftEntries 37 = .ok (.invokevirtual 74, 3) := by decide +kernel
theorem d_Ed_draftEntries_40 : decode b_Ed_draftEntries 40 = .ok (.aload_n 0, 1) := by decide +kernel
theorem d_Ed_draftEntries_41 : decode b_Ed_draftEntries 41 = .ok (.aload_n 0, 1) := by decide +kernel
theorem d_Ed_draftEntries_42 : decode b_Ed_draftEntries 42 = .ok (.getfield 34, 3) := by decide +kernel
theorem d_Ed_draftEntries_45 : decode b_Ed_draftEntries 45 = .ok (.iload_n 3, 1) := by decide +kernel
theorem d_Ed_draftEntries_46 : decode b_Ed_draftEntries 46 = .ok (.iaload, 1) := by decide +kernel
theorem d_Ed_draftEntries_47 : decode b_Ed_draftEntries 47 = .ok (.invokevirtual 74, 3) := by decide +kernel
theorem d_Ed_draftEntries_50 : decode b_Ed_draftEntries 50 = .ok (.aload_n 0, 1) := by decide +kernel
theorem d_Ed_draftEntries_51 : decode b_Ed_draftEntries 51 = .ok (.iload_n 3, 1) := by decide +kernel
theorem d_Ed_draftEntries_52 : decode b_Ed_draftEntries 52 = .ok (.invokevirtual 74, 3) := by decide +kernel
theorem d_Ed_draftEntries_55 : decode b_Ed_draftEntries 55 = .ok (.aload_n 1, 1) := by decide +kernel
theorem d_Ed_draftEntries_56 : decode b_Ed_draftEntries 56 = .ok (.iload_n 2, 1) := by decide +kernel
theorem d_Ed_draftEntries_57 : decode b_Ed_draftEntries 57 = .ok (.aload_n 1, 1) := by decide +kernel
theorem d_Ed_draftEntries_58 : decode b_Ed_draftEntries 58 = .ok (.iload_n 3, 1) := by decide +kernel
theorem d_Ed_draftEntries_59 : decode b_Ed_draftEntries 59 = .ok (.invokevirtual 94, 3) := by decide +kernel
theorem d_Ed_draftEntries_62 : decode b_Ed_draftEntries 62 = .ok (.invokevirtual 91, 3) := by decide +kernel
theorem d_Ed_draftEntries_65 : decode b_Ed_draftEntries 65 = .ok (.istore_n 3, 1) := by decide +kernel
theorem d_Ed_draftEntries_66 : decode b_Ed_draftEntries 66 = .ok (.iinc 4 1, 3) := by decide +kernel
theorem d_Ed_draftEntries_69 : decode b_Ed_draftEntries 69 = .ok (.goto (-59), 3) := by decide +kernel
theorem d_Ed_draftEntries_72 : decode b_Ed_draftEntries 72 = .ok (.return_, 1) := by decide +kernel
theorem d_Ed_write_0 : decode b_Ed_write 0 = .ok (.aload_n 0, 1) := by decide +kernel
theorem d_Ed_write_1 : decode b_Ed_write 1 = .ok (.getfield 40, 3) := by decide +kernel
theorem d_Ed_write_4 : decode b_Ed_write 4 = .ok (.aload_n 0, 1) := by decide +kernel
theorem d_Ed_write_5 : decode b_Ed_write 5 = .ok (.getfield 37, 3) := by decide +kernel
theorem d_Ed_write_8 : decode b_Ed_write 8 = .ok (.arraylength, 1) := by decide +kernel
theorem d_Ed_write_9 : decode b_Ed_write 9 = .ok (.if_icmp .ge 23, 3) := by decide +kernel
theorem d_Ed_write_12 : decode b_Ed_write 12 = .ok (.aload_n 0, 1) := by decide +kernel
theorem d_Ed_write_13 : decode b_Ed_write 13 = .ok (.getfield 37, 3) := by decide +kernel
theorem d_Ed_write_16 : decode b_Ed_write 16 = .ok (.aload_n 0, 1) := by decide +kernel
theorem d_Ed_write_17 : decode b_Ed_write 17 = .ok (.getfield 40, 3) := by decide +kernel
theorem d_Ed_write_20 : decode b_Ed_write 20 = .ok (.iload_n 1, 1) := by decide +kernel
theorem d_Ed_write_21 : decode b_Ed_write 21 = .ok (.iastore, 1) := by decide +kernel
theorem d_Ed_write_22 : decode b_Ed_write 22 = .ok (.aload_n 0, 1) := by decide +kernel
theorem d_Ed_write_23 : decode b_Ed_write 23 = .ok (.dup, 1) := by decide +kernel
theorem d_Ed_write_24 : decode b_Ed_write 24 = .ok (.getfield 40, 3) := by decide +kernel
theorem d_Ed_write_27 : decode b_Ed_write 27 = .ok (.iconst 1, 1) := by decide +kernel
theorem d_Ed_write_28 : decode b_Ed_write 28 = .ok (.iadd, 1) := by decide +kernel
theorem d_Ed_write_29 : decode b_Ed_write 29 = .ok (.putfield 40, 3) := by decide +kernel
theorem d_Ed_write_32 : decode b_Ed_write 32 = .ok (.return_, 1) := by decide +kernel
theorem d_Ed_keepDraft_0 : decode b_Ed_keepDraft 0 = .ok (.iload_n 1, 1) := by decide +kernel
theorem d_Ed_keepDraft_1 : decode b_Ed_keepDraft 1 = .ok (.aload_n 0, 1) := by decide +kernel
theorem d_Ed_keepDraft_2 : decode b_Ed_keepDraft 2 = .ok (.getfield 15, 3) := by decide +kernel
theorem d_Ed_keepDraft_5 : decode b_Ed_keepDraft 5 = .ok (.if_icmp .ge 11, 3) := by decide +kernel
theorem d_Ed_keepDraft_8 : decode b_Ed_keepDraft 8 = .ok (.aload_n 0, 1) := by decide +kernel
theorem d_Ed_keepDraft_9 : decode b_Ed_keepDraft 9 = .ok (.iload_n 1, 1) := by decide +kernel
theorem d_Ed_keepDraft_10 : decode b_Ed_keepDraft 10 = .ok (.invokevirtual 97, 3) := by decide +kernel
theorem d_Ed_keepDraft_13 : decode b_Ed_keepDraft 13 = .ok (.ifCond .ne 13, 3) := by decide +kernel
theorem d_Ed_keepDraft_16 : decode b_Ed_keepDraft 16 = .ok (.aload_n 0, 1) := by decide +kernel
theorem d_Ed_keepDraft_17 : decode b_Ed_keepDraft 17 = .ok (.getfield 22, 3) := by decide +kernel
theorem d_Ed_keepDraft_20 : decode b_Ed_keepDraft 20 = .ok (.iload_n 1, 1) := by decide +kernel
theorem d_Ed_keepDraft_21 : decode b_Ed_keepDraft 21 = .ok (.aload_n 0, 1) := by decide +kernel
theorem d_Ed_keepDraft_22 : decode b_Ed_keepDraft 22 = .ok (.getfield 9, 3) := by decide +kernel
theorem d_Ed_keepDraft_25 : decode b_Ed_keepDraft 25 = .ok (.iastore, 1) := by decide +kernel
theorem d_Ed_keepDraft_26 : decode b_Ed_keepDraft 26 = .ok (.aload_n 0, 1) := by decide +kernel
theorem d_Ed_keepDraft_27 : decode b_Ed_keepDraft 27 = .ok (.getfield 18, 3) := by decide +kernel
theorem d_Ed_keepDraft_30 : decode b_Ed_keepDraft 30 = .ok (.iload_n 1, 1) := by decide +kernel
theorem d_Ed_keepDraft_31 : decode b_Ed_keepDraft 31 = .ok (.aload_n 0, 1) := by decide +kernel
theorem d_Ed_keepDraft_32 : decode b_Ed_keepDraft 32 = .ok (.getfield 40, 3) := by decide +kernel
theorem d_Ed_keepDraft_35 : decode b_Ed_keepDraft 35 = .ok (.iastore, 1) := by decide +kernel
theorem d_Ed_keepDraft_36 : decode b_Ed_keepDraft 36 = .ok (.aload_n 0, 1) := by decide +kernel
theorem d_Ed_keepDraft_37 : decode b_Ed_keepDraft 37 = .ok (.getfield 37, 3) := by decide +kernel
theorem d_Ed_keepDraft_40 : decode b_Ed_keepDraft 40 = .ok (.iconst 0, 1) := by decide +kernel
theorem d_Ed_keepDraft_41 : decode b_Ed_keepDraft 41 = .ok (.aload_n 0, 1) := by decide +kernel
theorem d_Ed_keepDraft_42 : decode b_Ed_keepDraft 42 = .ok (.getfield 25, 3) := by decide +kernel
theorem d_Ed_keepDraft_45 : decode b_Ed_keepDraft 45 = .ok (.iload_n 1, 1) := by decide +kernel
theorem d_Ed_keepDraft_46 : decode b_Ed_keepDraft 46 = .ok (.bipush 48, 2) := by decide +kernel
theorem d_Ed_keepDraft_48 : decode b_Ed_keepDraft 48 = .ok (.imul, 1) := by decide +kernel
theorem d_Ed_keepDraft_49 : decode b_Ed_keepDraft 49 = .ok (.aload_n 0, 1) := by decide +kernel
theorem d_Ed_keepDraft_50 : decode b_Ed_keepDraft 50 = .ok (.getfield 40, 3) := by decide +kernel
theorem d_Ed_keepDraft_53 : decode b_Ed_keepDraft 53 = .ok (.invokestatic 100, 3) := by decide +kernel
theorem d_Ed_keepDraft_56 : decode b_Ed_keepDraft 56 = .ok (.return_, 1) := by decide +kernel
theorem d_Ed_draftEquals_0 : decode b_Ed_draftEquals 0 = .ok (.aload_n 0, 1) := by decide +kernel
theorem d_Ed_draftEquals_1 : decode b_Ed_draftEquals 1 = .ok (.getfield 18, 3) := by decide +kernel
theorem d_Ed_draftEquals_4 : decode b_Ed_draftEquals 4 = .ok (.iload_n 1, 1) := by decide +kernel
theorem d_Ed_draftEquals_5 : decode b_Ed_draftEquals 5 = .ok (.iaload, 1) := by decide +kernel
theorem d_Ed_draftEquals_6 : decode b_Ed_draftEquals 6 = .ok (.aload_n 0, 1) := by decide +kernel
theorem d_Ed_draftEquals_7 : decode b_Ed_draftEquals 7 = .ok (.getfield 40, 3) := by decide +kernel
theorem d_Ed_draftEquals_10 : decode b_Ed_draftEquals 10 = .ok (.if_icmp .eq 5, 3) := by decide +kernel
theorem d_Ed_draftEquals_13 : decode b_Ed_draftEquals 13 = .ok (.iconst 0, 1) := by decide +kernel
theorem d_Ed_draftEquals_14 : decode b_Ed_draftEquals 14 = .ok (.ireturn, 1) := by decide +kernel
theorem d_Ed_draftEquals_15 : decode b_Ed_draftEquals 15 = .ok (.iconst 0, 1) := by decide +kernel
theorem d_Ed_draftEquals_16 : decode b_Ed_draftEquals 16 = .ok (.istore_n 2, 1) := by decide +kernel
theorem d_Ed_draftEquals_17 : decode b_Ed_draftEquals 17 = .ok (.iload_n 2, 1) := by decide +kernel
theorem d_Ed_draftEquals_18 : decode b_Ed_draftEquals 18 = .ok (.aload_n 0, 1) := by decide +kernel
theorem d_Ed_draftEquals_19 : decode b_Ed_draftEquals 19 = .ok (.getfield 40, 3) := by decide +kernel
theorem d_Ed_draftEquals_22 : decode b_Ed_draftEquals 22 = .ok (.if_icmp .ge 26, 3) := by decide +kernel
theorem d_Ed_draftEquals_25 : decode b_Ed_draftEquals 25 = .ok (.aload_n 0, 1) := by decide +kernel
theorem d_Ed_draftEquals_26 : decode b_Ed_draftEquals 26 = .ok (.iload_n 1, 1) := by decide +kernel
theorem d_Ed_draftEquals_27 : decode b_Ed_draftEquals 27 = .ok (.iload_n 2, 1) := by decide +kernel
theorem d_Ed_draftEquals_28 : decode b_Ed_draftEquals 28 = .ok (.invokevirtual 106, 3) := by decide +kernel
theorem d_Ed_draftEquals_31 : decode b_Ed_draftEquals 31 = .ok (.aload_n 0, 1) := by decide +kernel
theorem d_Ed_draftEquals_32 : decode b_Ed_draftEquals 32 = .ok (.getfield 37, 3) := by decide +kernel
theorem d_Ed_draftEquals_35 : decode b_Ed_draftEquals 35 = .ok (.iload_n 2, 1) := by decide +kernel
theorem d_Ed_draftEquals_36 : decode b_Ed_draftEquals 36 = .ok (.iaload, 1) := by decide +kernel
theorem d_Ed_draftEquals_37 : decode b_Ed_draftEquals 37 = .ok (.if_icmp .eq 5, 3) := by decide +kernel
theorem d_Ed_draftEquals_40 : decode b_Ed_draftEquals 40 = .ok (.iconst 0, 1) := by decide +kernel
theorem d_Ed_draftEquals_41 : decode b_Ed_draftEquals 41 = .ok (.ireturn, 1) := by decide +kernel
theorem d_Ed_draftEquals_42 : decode b_Ed_draftEquals 42 = .ok (.iinc 2 1, 3) := by decide +kernel
theorem d_Ed_draftEquals_45 : decode b_Ed_draftEquals 45 = .ok (.goto (-28), 3) := by decide +kernel
theorem d_Ed_draftEquals_48 : decode b_Ed_draftEquals 48 = .ok (.iconst 1, 1) := by decide +kernel
theorem d_Ed_draftEquals_49 : decode b_Ed_draftEquals 49 = .ok (.ireturn, 1) := by decide +kernel
theorem d_Tree_init_0 : decode b_Tree_init 0 = .ok (.aload_n 0, 1) := by decide +kernel
theorem d_Tree_init_1 : decode b_Tree_init 1 = .ok (.invokespecial 3, 3) := by decide +kernel
theorem d_Tree_init_4 : decode b_Tree_init 4 = .ok (.aload_n 0, 1) := by decide +kernel
theorem d_Tree_init_5 : decode b_Tree_init 5 = .ok (.bipush 12, 2) := by decide +kernel
theorem d_Tree_init_7 : decode b_Tree_init 7 = .ok (.newarray .int, 2) := by decide +kernel
theorem d_Tree_init_9 : decode b_Tree_init 9 = .ok (.putfield 9, 3) := by decide +kernel
theorem d_Tree_init_12 : decode b_Tree_init 12 = .ok (.aload_n 0, 1) := by decide +kernel
theorem d_Tree_init_13 : decode b_Tree_init 13 = .ok (.bipush 12, 2) := by decide +kernel
theorem d_Tree_init_15 : decode b_Tree_init 15 = .ok (.newarray .int, 2) := by decide +kernel
theorem d_Tree_init_17 : decode b_Tree_init 17 = .ok (.putfield 15, 3) := by decide +kernel
theorem d_Tree_init_20 : decode b_Tree_init 20 = .ok (.aload_n 0, 1) := by decide +kernel
theorem d_Tree_init_21 : decode b_Tree_init 21 = .ok (.bipush 12, 2) := by decide +kernel
theorem d_Tree_init_23 : decode b_Tree_init 23 = .ok (.newarray .int, 2) := by decide +kernel
theorem d_Tree_init_25 : decode b_Tree_init 25 = .ok (.putfield 18, 3) := by decide +kernel
theorem d_Tree_init_28 : decode b_Tree_init 28 = .ok (.aload_n 0, 1) := by decide +kernel
theorem d_Tree_init_29 : decode b_Tree_init 29 = .ok (.bipush 12, 2) := by decide +kernel
theorem d_Tree_init_31 : decode b_Tree_init 31 = .ok (.newarray .int, 2) := by decide +kernel
theorem d_Tree_init_33 : decode b_Tree_init 33 = .ok (.putfield 21, 3) := by decide +kernel
theorem d_Tree_init_36 : decode b_Tree_init 36 = .ok (.aload_n 0, 1) := by decide +kernel
theorem d_Tree_init_37 : decode b_Tree_init 37 = .ok (.sipush 144, 3) := by decide +kernel
theorem d_Tree_init_40 : decode b_Tree_init 40 = .ok (.newarray .int, 2) := by decide +kernel
theorem d_Tree_init_42 : decode b_Tree_init 42 = .ok (.putfield 24, 3) := by decide +kernel
theorem d_Tree_init_45 : decode b_Tree_init 45 = .ok (.aload_n 0, 1) := by decide +kernel
theorem d_Tree_init_46 : decode b_Tree_init 46 = .ok (.getfield 9, 3) := by decide +kernel
theorem d_Tree_init_49 : decode b_Tree_init 49 = .ok (.iconst 0, 1) := by decide +kernel
theorem d_Tree_init_50 : decode b_Tree_init 50 = .ok (.iconst 1, 1) := by decide +kernel
theorem d_Tree_init_51 : decode b_Tree_init 51 = .ok (.iastore, 1) := by decide +kernel
theorem d_Tree_init_52 : decode b_Tree_init 52 = .ok (.aload_n 0, 1) := by decide +kernel
theorem d_Tree_init_53 : decode b_Tree_init 53 = .ok (.getfield 15, 3) := by decide +kernel
theorem d_Tree_init_56 : decode b_Tree_init 56 = .ok (.iconst (-1), 1) := by decide +kernel
theorem d_Tree_init_57 : decode b_Tree_init 57 = .ok (.invokestatic 27, 3) := by decide +kernel
theorem d_Tree_init_60 : decode b_Tree_init 60 = .ok (.return_, 1) := by decide +kernel
theorem d_Tree_isThere_0 : decode b_Tree_isThere 0 = .ok (.aload_n 0, 1) := by decide +kernel
theorem d_Tree_isThere_1 : decode b_Tree_isThere 1 = .ok (.getfield 9, 3) := by decide +kernel
theorem d_Tree_isThere_4 : decode b_Tree_isThere 4 = .ok (.iload_n 1, 1) := by decide +kernel
theorem d_Tree_isThere_5 : decode b_Tree_isThere 5 = .ok (.iaload, 1) := by decide +kernel
theorem d_Tree_isThere_6 : decode b_Tree_isThere 6 = .ok (.ifCond .eq 7, 3) := by decide +kernel
theorem d_Tree_isThere_9 : decode b_Tree_isThere 9 = .ok (.iconst 1, 1) := by decide +kernel
theorem d_Tree_isThere_10 : decode b_Tree_isThere 10 = .ok (.goto 4, 3) := by decide +kernel
theorem d_Tree_isThere_13 : decode b_Tree_isThere 13 = .ok (.iconst 0, 1) := by decide +kernel
theorem d_Tree_isThere_14 : decode b_Tree_isThere 14 = .ok (.ireturn, 1) := by decide +kernel
theorem d_Tree_isDirectory_0 : decode b_Tree_isDirectory 0 = .ok (.aload_n 0, 1) := by decide +kernel
theorem d_Tree_isDirectory_1 : decode b_Tree_isDirectory 1 = .ok (.getfield 9, 3) := by decide +kernel
theorem d_Tree_isDirectory_4 : decode b_Tree_isDirectory 4 = .ok (.iload_n 1, 1) := by decide +kernel
theorem d_Tree_isDirectory_5 : decode b_Tree_isDirectory 5 = .ok (.iaload, 1) := by decide +kernel
theorem d_Tree_isDirectory_6 : decode b_Tree_isDirectory 6 = .ok (.iconst 1, 1) := by decide +kernel
theorem d_Tree_isDirectory_7 : decode b_Tree_isDirectory 7 = .ok (.if_icmp .eq 13, 3) := by decide +kernel
theorem d_Tree_isDirectory_10 : decode b_Tree_isDirectory 10 = .ok (.aload_n 0, 1) := by decide +kernel
theorem d_Tree_isDirectory_11 : decode b_Tree_isDirectory 11 = .ok (.getfield 9, 3) := by decide +kernel
theorem d_Tree_isDirectory_14 : decode b_Tree_isDirectory 14 = .ok (.iload_n 1, 1) := by decide +kernel
theorem d_Tree_isDirectory_15 : decode b_Tree_isDirectory 15 = .ok (.iaload, 1) := by decide +kernel
theorem d_Tree_isDirectory_16 : decode b_Tree_isDirectory 16 = .ok (.iconst 2, 1) := by decide +kernel
theorem d_Tree_isDirectory_17 : decode b_Tree_isDirectory 17 = .ok (.if_icmp .ne 7, 3) := by decide +kernel
theorem d_Tree_isDirectory_20 : decode b_Tree_isDirectory 20 = .ok (.iconst 1, 1) := by decide +kernel
theorem d_Tree_isDirectory_21 : decode b_Tree_isDirectory 21 = .ok (.goto 4, 3) := by decide +kernel
theorem d_Tree_isDirectory_24 : decode b_Tree_isDirectory 24 = .ok (.iconst 0, 1) := by decide +kernel
theorem d_Tree_isDirectory_25 : decode b_Tree_isDirectory 25 = .ok (.ireturn, 1) := by decide +kernel
theorem d_Tree_isFile_0 : decode b_Tree_isFile 0 = .ok (.aload_n 0, 1) := by decide +kernel
theorem d_Tree_isFile_1 : decode b_Tree_isFile 1 = .ok (.getfield 9, 3) := by decide +kernel
theorem d_Tree_isFile_4 : decode b_Tree_isFile 4 = .ok (.iload_n 1, 1) := by decide +kernel
theorem d_Tree_isFile_5 : decode b_Tree_isFile 5 = .ok (.iaload, 1) := by decide +kernel
theorem d_Tree_isFile_6 : decode b_Tree_isFile 6 = .ok (.iconst 3, 1) := by decide +kernel
theorem d_Tree_isFile_7 : decode b_Tree_isFile 7 = .ok (.if_icmp .ne 7, 3) := by decide +kernel
theorem d_Tree_isFile_10 : decode b_Tree_isFile 10 = .ok (.iconst 1, 1) := by decide +kernel
theorem d_Tree_isFile_11 : decode b_Tree_isFile 11 = .ok (.goto 4, 3) := by decide +kernel
theorem d_Tree_isFile_14 : decode b_Tree_isFile 14 = .ok (.iconst 0, 1) := by decide +kernel
theorem d_Tree_isFile_15 : decode b_Tree_isFile 15 = .ok (.ireturn, 1) := by decide +kernel
theorem d_Tree_kindOf_0 : decode b_Tree_kindOf 0 = .ok (.aload_n 0, 1) := by decide +kernel
theorem d_Tree_kindOf_1 : decode b_Tree_kindOf 1 = .ok (.getfield 9, 3) := by decide +kernel
theorem d_Tree_kindOf_4 : decode b_Tree_kindOf 4 = .ok (.iload_n 1, 1) := by decide +kernel
theorem d_Tree_kindOf_5 : decode b_Tree_kindOf 5 = .ok (.iaload, 1) := by decide +kernel
theorem d_Tree_kindOf_6 : decode b_Tree_kindOf 6 = .ok (.ireturn, 1) := by decide +kernel
theorem d_Tree_nameOf_0 : decode b_Tree_nameOf 0 = .ok (.aload_n 0, 1) := by decide +kernel
theorem d_Tree_nameOf_1 : decode b_Tree_nameOf 1 = .ok (.getfield 18, 3) := by decide +kernel
theorem d_Tree_nameOf_4 : decode b_Tree_nameOf 4 = .ok (.iload_n 1, 1) := by decide +kernel
theorem d_Tree_nameOf_5 : decode b_Tree_nameOf 5 = .ok (.iaload, 1) := by decide +kernel
theorem d_Tree_nameOf_6 : decode b_Tree_nameOf 6 = .ok (.ireturn, 1) := by decide +kernel
theorem d_Tree_fileLength_0 : decode b_Tree_fileLength 0 = .ok (.aload_n 0, 1) := by decide +kernel
theorem d_Tree_fileLength_1 : decode b_Tree_fileLength 1 = .ok (.getfield 21, 3) := by decide +kernel
theorem d_Tree_fileLength_4 : decode b_Tree_fileLength 4 = .ok (.iload_n 1, 1) := by decide +kernel
theorem d_Tree_fileLength_5 : decode b_Tree_fileLength 5 = .ok (.iaload, 1) := by decide +kernel
theorem d_Tree_fileLength_6 : decode b_Tree_fileLength 6 = .ok (.ireturn, 1) := by decide +kernel
theorem d_Tree_fileByte_0 : decode b_Tree_fileByte 0 = .ok (.aload_n 0, 1) := by decide +kernel
theorem d_Tree_fileByte_1 : decode b_Tree_fileByte 1 = .ok (.getfield 24, 3) := by decide +kernel
theorem d_Tree_fileByte_4 : decode b_Tree_fileByte 4 = .ok (.iload_n 1, 1) := by decide +kernel
theorem d_Tree_fileByte_5 : decode b_Tree_fileByte 5 = .ok (.bipush 12, 2) := by decide +kernel
theorem d_Tree_fileByte_7 : decode b_Tree_fileByte 7 = .ok (.imul, 1) := by decide +kernel
theorem d_Tree_fileByte_8 : decode b_Tree_fileByte 8 = .ok (.iload_n 2, 1) := by decide +kernel
theorem d_Tree_fileByte_9 : decode b_Tree_fileByte 9 = .ok (.iadd, 1) := by decide +kernel
theorem d_Tree_fileByte_10 : decode b_Tree_fileByte 10 = .ok (.iaload, 1) := by decide +kernel
theorem d_Tree_fileByte_11 : decode b_Tree_fileByte 11 = .ok (.ireturn, 1) := by decide +kernel
theorem d_Tree_hasEntry_0 : decode b_Tree_hasEntry 0 = .ok (.iconst 1, 1) := by decide +kernel
theorem d_Tree_hasEntry_1 : decode b_Tree_hasEntry 1 = .ok (.istore_n 3, 1) := by decide +kernel
theorem d_Tree_hasEntry_2 : decode b_Tree_hasEntry 2 = .ok (.iload_n 3, 1) := by decide +kernel
theorem d_Tree_hasEntry_3 : decode b_Tree_hasEntry 3 = .ok (.bipush 12, 2) := by decide +kernel
theorem d_Tree_hasEntry_5 : decode b_Tree_hasEntry 5 = .ok (.if_icmp .ge 31, 3) := by decide +kernel
theorem d_Tree_hasEntry_8 : decode b_Tree_hasEntry 8 = .ok (.aload_n 0, 1) := by decide +kernel
theorem d_Tree_hasEntry_9 : decode b_Tree_hasEntry 9 = .ok (.getfield 15, 3) := by decide +kernel
theorem d_Tree_hasEntry_12 : decode b_Tree_hasEntry 12 = .ok (.iload_n 3, 1) := by decide +kernel
theorem d_Tree_hasEntry_13 : decode b_Tree_hasEntry 13 = .ok (.iaload, 1) := by decide +kernel
theorem d_Tree_hasEntry_14 : decode b_Tree_hasEntry 14 = .ok (.iload_n 1, 1) := by decide +kernel
theorem d_Tree_hasEntry_15 : decode b_Tree_hasEntry 15 = .ok (.if_icmp .ne 15, 3) := by decide +kernel
theorem d_Tree_hasEntry_18 : decode b_Tree_hasEntry 18 = .ok (.aload_n 0, 1) := by decide +kernel
theorem d_Tree_hasEntry_19 : decode b_Tree_hasEntry 19 = .ok (.getfield 18, 3) := by decide +kernel
theorem d_Tree_hasEntry_22 : decode b_Tree_hasEntry 22 = .ok (.iload_n 3, 1) := by decide +kernel
theorem d_Tree_hasEntry_23 : decode b_Tree_hasEntry 23 = .ok (.iaload, 1) := by decide +kernel
theorem d_Tree_hasEntry_24 : decode b_Tree_hasEntry 24 = .ok (.iload_n 2, 1) := by decide +kernel
theorem d_Tree_hasEntry_25 : decode b_Tree_hasEntry 25 = .ok (.if_icmp .ne 5, 3) := by decide +kernel
theorem d_Tree_hasEntry_28 : decode b_Tree_hasEntry 28 = .ok (.iconst 1, 1) := by decide +kernel
theorem d_Tree_hasEntry_29 : decode b_Tree_hasEntry 29 = .ok (.ireturn, 1) := by decide +kernel
theorem d_Tree_hasEntry_30 : decode b_Tree_hasEntry 30 = .ok (.iinc 3 1, 3) := by decide +kernel
theorem d_Tree_hasEntry_33 : decode b_Tree_hasEntry 33 = .ok (.goto (-31), 3) := by decide +kernel
theorem d_Tree_hasEntry_36 : decode b_Tree_hasEntry 36 = .ok (.iconst 0, 1) := by decide +kernel
theorem d_Tree_hasEntry_37 : decode b_Tree_hasEntry 37 = .ok (.ireturn, 1) := by decide +kernel
theorem d_Tree_entryCount_0 : decode b_Tree_entryCount 0 = .ok (.iconst 0, 1) := by decide +kernel
theorem d_Tree_entryCount_1 : decode b_Tree_entryCount 1 = .ok (.istore_n 2, 1) := by decide +kernel
theorem d_Tree_entryCount_2 : decode b_Tree_entryCount 2 = .ok (.iconst 1, 1) := by decide +kernel
theorem d_Tree_entryCount_3 : decode b_Tree_entryCount 3 = .ok (.istore_n 3, 1) := by decide +kernel
theorem d_Tree_entryCount_4 : decode b_Tree_entryCount 4 = .ok (.iload_n 3, 1) := by decide +kernel
theorem d_Tree_entryCount_5 : decode b_Tree_entryCount 5 = .ok (.bipush 12, 2) := by decide +kernel
theorem d_Tree_entryCount_7 : decode b_Tree_entryCount 7 = .ok (.if_icmp .ge 22, 3) := by decide +kernel
theorem d_Tree_entryCount_10 : decode b_Tree_entryCount 10 = .ok (.aload_n 0, 1) := by decide +kernel
theorem d_Tree_entryCount_11 : decode b_Tree_entryCount 11 = .ok (.getfield 15, 3) := by decide +kernel
theorem d_Tree_entryCount_14 : decode b_Tree_entryCount 14 = .ok (.iload_n 3, 1) := by decide +kernel
theorem d_Tree_entryCount_15 : decode b_Tree_entryCount 15 = .ok (.iaload, 1) := by decide +kernel
theorem d_Tree_entryCount_16 : decode b_Tree_entryCount 16 = .ok (.iload_n 1, 1) := by decide +kernel
theorem d_Tree_entryCount_17 : decode b_Tree_entryCount 17 = .ok (.if_icmp .ne 6, 3) := by decide +kernel
theorem d_Tree_entryCount_20 : decode b_Tree_entryCount 20 = .ok (.iinc 2 1, 3) := by decide +kernel
theorem d_Tree_entryCount_23 : decode b_Tree_entryCount 23 = .ok (.iinc 3 1, 3) := by decide +kernel
theorem d_Tree_entryCount_26 : decode b_Tree_entryCount 26 = .ok (.goto (-22), 3) := by decide +kernel
theorem d_Tree_entryCount_29 : decode b_Tree_entryCount 29 = .ok (.iload_n 2, 1) := by decide +kernel
theorem d_Tree_entryCount_30 : decode b_Tree_entryCount 30 = .ok (.ireturn, 1) := by decide +kernel
theorem d_Tree_leastFreeKey_0 : decode b_Tree_leastFreeKey 0 = .ok (.iconst 1, 1) := by decide +kernel
theorem d_Tree_leastFreeKey_1 : decode b_Tree_leastFreeKey 1 = .ok (.istore_n 1, 1) := by decide +kernel
theorem d_Tree_leastFreeKey_2 : decode b_Tree_leastFreeKey 2 = .ok (.iload_n 1, 1) := by decide +kernel
theorem d_Tree_leastFreeKey_3 : decode b_Tree_leastFreeKey 3 = .ok (.bipush 12, 2) := by decide +kernel
theorem d_Tree_leastFreeKey_5 : decode b_Tree_leastFreeKey 5 = .ok (.if_icmp .ge 19, 3) := by decide +kernel
theorem d_Tree_leastFreeKey_8 : decode b_Tree_leastFreeKey 8 = .ok (.aload_n 0, 1) := by decide +kernel
theorem d_Tree_leastFreeKey_9 : decode b_Tree_leastFreeKey 9 = .ok (.iload_n 1, 1) := by decide +kernel
theorem d_Tree_leastFreeKey_10 : decode b_Tree_leastFreeKey 10 = .ok (.invokevirtual 33, 3) := by decide +kernel
theorem d_Tree_leastFreeKey_13 : decode b_Tree_leastFreeKey 13 = .ok (.ifCond .ne 5, 3) := by decide +kernel
theorem d_Tree_leastFreeKey_16 : decode b_Tree_leastFreeKey 16 = .ok (.iload_n 1, 1) := by decide +kernel
theorem d_Tree_leastFreeKey_17 : decode b_Tree_leastFreeKey 17 = .ok (.ireturn, 1) := by decide +kernel
theorem d_Tree_leastFreeKey_18 : decode b_Tree_leastFreeKey 18 = .ok (.iinc 1 1, 3) := by decide +kernel
theorem d_Tree_leastFreeKey_21 : decode b_Tree_leastFreeKey 21 = .ok (.goto (-19), 3) := by decide +kernel
theorem d_Tree_leastFreeKey_24 : decode b_Tree_leastFreeKey 24 = .ok (.iconst (-1), 1) := by decide +kernel
theorem d_Tree_leastFreeKey_25 : decode b_Tree_leastFreeKey 25 = .ok (.ireturn, 1) := by decide +kernel
theorem d_Tree_put_0 : decode b_Tree_put 0 = .ok (.aload_n 0, 1) := by decide +kernel
theorem d_Tree_put_1 : decode b_Tree_put 1 = .ok (.getfield 9, 3) := by decide +kernel
theorem d_Tree_put_4 : decode b_Tree_put 4 = .ok (.iload_n 1, 1) := by decide +kernel
theorem d_Tree_put_5 : decode b_Tree_put 5 = .ok (.iload 4, 2) := by decide +kernel
theorem d_Tree_put_7 : decode b_Tree_put 7 = .ok (.iastore, 1) := by decide +kernel
theorem d_Tree_put_8 : decode b_Tree_put 8 = .ok (.aload_n 0, 1) := by decide +kernel
theorem d_Tree_put_9 : decode b_Tree_put 9 = .ok (.getfield 15, 3) := by decide +kernel
theorem d_Tree_put_12 : decode b_Tree_put 12 = .ok (.iload_n 1, 1) := by decide +kernel
theorem d_Tree_put_13 : decode b_Tree_put 13 = .ok (.iload_n 2, 1) := by decide +kernel
theorem d_Tree_put_14 : decode b_Tree_put 14 = .ok (.iastore, 1) := by decide +kernel
theorem d_Tree_put_15 : decode b_Tree_put 15 = .ok (.aload_n 0, 1) := by decide +kernel
theorem d_Tree_put_16 : decode b_Tree_put 16 = .ok (.getfield 18, 3) := by decide +kernel
theorem d_Tree_put_19 : decode b_Tree_put 19 = .ok (.iload_n 1, 1) := by decide +kernel
theorem d_Tree_put_20 : decode b_Tree_put 20 = .ok (.iload_n 3, 1) := by decide +kernel
theorem d_Tree_put_21 : decode b_Tree_put 21 = .ok (.iastore, 1) := by decide +kernel
theorem d_Tree_put_22 : decode b_Tree_put 22 = .ok (.aload_n 0, 1) := by decide +kernel
theorem d_Tree_put_23 : decode b_Tree_put 23 = .ok (.getfield 21, 3) := by decide +kernel
theorem d_Tree_put_26 : decode b_Tree_put 26 = .ok (.iload_n 1, 1) := by decide +kernel
theorem d_Tree_put_27 : decode b_Tree_put 27 = .ok (.iconst 0, 1) := by decide +kernel
theorem d_Tree_put_28 : decode b_Tree_put 28 = .ok (.iastore, 1) := by decide +kernel
theorem d_Tree_put_29 : decode b_Tree_put 29 = .ok (.return_, 1) := by decide +kernel
theorem d_Tree_take_0 : decode b_Tree_take 0 = .ok (.aload_n 0, 1) := by decide +kernel
theorem d_Tree_take_1 : decode b_Tree_take 1 = .ok (.getfield 9, 3) := by decide +kernel
theorem d_Tree_take_4 : decode b_Tree_take 4 = .ok (.iload_n 1, 1) := by decide +kernel
theorem d_Tree_take_5 : decode b_Tree_take 5 = .ok (.iconst 0, 1) := by decide +kernel
theorem d_Tree_take_6 : decode b_Tree_take 6 = .ok (.iastore, 1) := by decide +kernel
theorem d_Tree_take_7 : decode b_Tree_take 7 = .ok (.aload_n 0, 1) := by decide +kernel
theorem d_Tree_take_8 : decode b_Tree_take 8 = .ok (.getfield 15, 3) := by decide +kernel
theorem d_Tree_take_11 : decode b_Tree_take 11 = .ok (.iload_n 1, 1) := by decide +kernel
theorem d_Tree_take_12 : decode b_Tree_take 12 = .ok (.iconst (-1), 1) := by decide +kernel
theorem d_Tree_take_13 : decode b_Tree_take 13 = .ok (.iastore, 1) := by decide +kernel
theorem d_Tree_take_14 : decode b_Tree_take 14 = .ok (.return_, 1) := by decide +kernel
theorem d_Tree_addByte_0 : decode b_Tree_addByte 0 = .ok (.aload_n 0, 1) := by decide +kernel
theorem d_Tree_addByte_1 : decode b_Tree_addByte 1 = .ok (.getfield 24, 3) := by decide +kernel
theorem d_Tree_addByte_4 : decode b_Tree_addByte 4 = .ok (.iload_n 1, 1) := by decide +kernel
theorem d_Tree_addByte_5 : decode b_Tree_addByte 5 = .ok (.bipush 12, 2) := by decide +kernel
theorem d_Tree_addByte_7 : decode b_Tree_addByte 7 = .ok (.imul, 1) := by decide +kernel
theorem d_Tree_addByte_8 : decode b_Tree_addByte 8 = .ok (.aload_n 0, 1) := by decide +kernel
theorem d_Tree_addByte_9 : decode b_Tree_addByte 9 = .ok (.getfield 21, 3) := by decide +kernel
theorem d_Tree_addByte_12 : decode b_Tree_addByte 12 = .ok (.iload_n 1, 1) := by decide +kernel
theorem d_Tree_addByte_13 : decode b_Tree_addByte 13 = .ok (.iaload, 1) := by decide +kernel
theorem d_Tree_addByte_14 : decode b_Tree_addByte 14 = .ok (.iadd, 1) := by decide +kernel
theorem d_Tree_addByte_15 : decode b_Tree_addByte 15 = .ok (.iload_n 2, 1) := by decide +kernel
theorem d_Tree_addByte_16 : decode b_Tree_addByte 16 = .ok (.iastore, 1) := by decide +kernel
theorem d_Tree_addByte_17 : decode b_Tree_addByte 17 = .ok (.aload_n 0, 1) := by decide +kernel
theorem d_Tree_addByte_18 : decode b_Tree_addByte 18 = .ok (.getfield 21, 3) := by decide +kernel
theorem d_Tree_addByte_21 : decode b_Tree_addByte 21 = .ok (.iload_n 1, 1) := by decide +kernel
theorem d_Tree_addByte_22 : decode b_Tree_addByte 22 = .ok (.dup2, 1) := by decide +kernel
theorem d_Tree_addByte_23 : decode b_Tree_addByte 23 = .ok (.iaload, 1) := by decide +kernel
theorem d_Tree_addByte_24 : decode b_Tree_addByte 24 = .ok (.iconst 1, 1) := by decide +kernel
theorem d_Tree_addByte_25 : decode b_Tree_addByte 25 = .ok (.iadd, 1) := by decide +kernel
theorem d_Tree_addByte_26 : decode b_Tree_addByte 26 = .ok (.iastore, 1) := by decide +kernel
theorem d_Tree_addByte_27 : decode b_Tree_addByte 27 = .ok (.aload_n 0, 1) := by decide +kernel
theorem d_Tree_addByte_28 : decode b_Tree_addByte 28 = .ok (.getfield 21, 3) := by decide +kernel
theorem d_Tree_addByte_31 : decode b_Tree_addByte 31 = .ok (.iload_n 1, 1) := by decide +kernel
theorem d_Tree_addByte_32 : decode b_Tree_addByte 32 = .ok (.iaload, 1) := by decide +kernel
theorem d_Tree_addByte_33 : decode b_Tree_addByte 33 = .ok (.ireturn, 1) := by decide +kernel
theorem d_Tree_clearFile_0 : decode b_Tree_clearFile 0 = .ok (.aload_n 0, 1) := by decide +kernel
theorem d_Tree_clearFile_1 : decode b_Tree_clearFile 1 = .ok (.getfield 21, 3) := by decide +kernel
theorem d_Tree_clearFile_4 : decode b_Tree_clearFile 4 = .ok (.iload_n 1, 1) := by decide +kernel
theorem d_Tree_clearFile_5 : decode b_Tree_clearFile 5 = .ok (.iaload, 1) := by decide +kernel
theorem d_Tree_clearFile_6 : decode b_Tree_clearFile 6 = .ok (.istore_n 2, 1) := by decide +kernel
theorem d_Tree_clearFile_7 : decode b_Tree_clearFile 7 = .ok (.aload_n 0, 1) := by decide +kernel
theorem d_Tree_clearFile_8 : decode b_Tree_clearFile 8 = .ok (.getfield 21, 3) := by decide +kernel
theorem d_Tree_clearFile_11 : decode b_Tree_clearFile 11 = .ok (.iload_n 1, 1) := by decide +kernel
theorem d_Tree_clearFile_12 : decode b_Tree_clearFile 12 = .ok (.iconst 0, 1) := by decide +kernel
theorem d_Tree_clearFile_13 : decode b_Tree_clearFile 13 = .ok (.iastore, 1) := by decide +kernel
theorem d_Tree_clearFile_14 : decode b_Tree_clearFile 14 = .ok (.iload_n 2, 1) := by decide +kernel
theorem d_Tree_clearFile_15 : decode b_Tree_clearFile 15 = .ok (.ireturn, 1) := by decide +kernel
theorem d_Tree_messageLength_0 : decode b_Tree_messageLength 0 = .ok (.aload_n 0, 1) := by decide +kernel
theorem d_Tree_messageLength_1 : decode b_Tree_messageLength 1 = .ok (.iload_n 1, 1) := by decide +kernel
theorem d_Tree_messageLength_2 : decode b_Tree_messageLength 2 = .ok (.invokevirtual 37, 3) := by decide +kernel
theorem d_Tree_messageLength_5 : decode b_Tree_messageLength 5 = .ok (.ifCond .eq 12, 3) := by decide +kernel
theorem d_Tree_messageLength_8 : decode b_Tree_messageLength 8 = .ok (.aload_n 0, 1) := by decide +kernel
theorem d_Tree_messageLength_9 : decode b_Tree_messageLength 9 = .ok (.getfield 21, 3) := by decide +kernel
theorem d_Tree_messageLength_12 : decode b_Tree_messageLength 12 = .ok (.iload_n 1, 1) := by decide +kernel
theorem d_Tree_messageLength_13 : decode b_Tree_messageLength 13 = .ok (.iaload, 1) := by decide +kernel
theorem d_Tree_messageLength_14 : decode b_Tree_messageLength 14 = .ok (.goto 10, 3) := by decide +kernel
theorem d_Tree_messageLength_17 : decode b_Tree_messageLength 17 = .ok (.iconst 4, 1) := by decide +kernel
theorem d_Tree_messageLength_18 : decode b_Tree_messageLength 18 = .ok (.aload_n 0, 1) := by decide +kernel
theorem d_Tree_messageLength_19 : decode b_Tree_messageLength 19 = .ok (.iload_n 1, 1) := by decide +kernel
theorem d_Tree_messageLength_20 : decode b_Tree_messageLength 20 = .ok (.invokevirtual 40, 3) := by decide +kernel
theorem d_Tree_messageLength_23 : decode b_Tree_messageLength 23 = .ok (.imul, 1) := by decide +kernel
theorem d_Tree_messageLength_24 : decode b_Tree_messageLength 24 = .ok (.ireturn, 1) := by decide +kernel
theorem d_Tree_entryAfter_0 : decode b_Tree_entryAfter 0 = .ok (.iconst (-1), 1) := by decide +kernel
theorem d_Tree_entryAfter_1 : decode b_Tree_entryAfter 1 = .ok (.istore_n 3, 1) := by decide +kernel
theorem d_Tree_entryAfter_2 : decode b_Tree_entryAfter 2 = .ok (.iconst 1, 1) := by decide +kernel
theorem d_Tree_entryAfter_3 : decode b_Tree_entryAfter 3 = .ok (.istore 4, 2) := by decide +kernel
theorem d_Tree_entryAfter_5 : decode b_Tree_entryAfter 5 = .ok (.iload 4, 2) := by decide +kernel
theorem d_Tree_entryAfter_7 : decode b_Tree_entryAfter 7 = .ok (.bipush 12, 2) := by decide +kernel
theorem d_Tree_entryAfter_9 : decode b_Tree_entryAfter 9 = .ok (.if_icmp .ge 67, 3) := by decide +kernel
theorem d_Tree_entryAfter_12 : decode b_Tree_entryAfter 12 = .ok (.aload_n 0, 1) := by decide +kernel
theorem d_Tree_entryAfter_13 : decode b_Tree_entryAfter 13 = .ok (.getfield 15, 3) := by decide +kernel
theorem d_Tree_entryAfter_16 : decode b_Tree_entryAfter 16 = .ok (.iload 4, 2) := by decide +kernel
theorem d_Tree_entryAfter_18 : decode b_Tree_entryAfter 18 = .ok (.iaload, 1) := by decide +kernel
theorem d_Tree_entryAfter_19 : decode b_Tree_entryAfter 19 = .ok (.iload_n 1, 1) := by decide +kernel
theorem d_Tree_entryAfter_20 : decode b_Tree_entryAfter 20 = .ok (.if_icmp .ne 18, 3) := by decide +kernel
theorem d_Tree_entryAfter_23 : decode b_Tree_entryAfter 23 = .ok (.aload_n 0, 1) := by decide +kernel
theorem d_Tree_entryAfter_24 : decode b_Tree_entryAfter 24 = .ok (.getfield 18, 3) := by decide +kernel
theorem d_Tree_entryAfter_27 : decode b_Tree_entryAfter 27 = .ok (.iload 4, 2) := by decide +kernel
theorem d_Tree_entryAfter_29 : decode b_Tree_entryAfter 29 = .ok (.iaload, 1) := by decide +kernel
theorem d_Tree_entryAfter_30 : decode b_Tree_entryAfter 30 = .ok (.iload_n 2, 1) := by decide +kernel
theorem d_Tree_entryAfter_31 : decode b_Tree_entryAfter 31 = .ok (.if_icmp .le 7, 3) := by decide +kernel
theorem d_Tree_entryAfter_34 : decode b_Tree_entryAfter 34 = .ok (.iconst 1, 1) := by decide +kernel
theorem d_Tree_entryAfter_35 : decode b_Tree_entryAfter 35 = .ok (.goto 4, 3) := by decide +kernel
theorem d_Tree_entryAfter_38 : decode b_Tree_entryAfter 38 = .ok (.iconst 0, 1) := by decide +kernel
theorem d_Tree_entryAfter_39 : decode b_Tree_entryAfter 39 = .ok (.istore 5, 2) := by decide +kernel
theorem d_Tree_entryAfter_41 : decode b_Tree_entryAfter 41 = .ok (.iload 5, 2) := by decide +kernel
theorem d_Tree_entryAfter_43 : decode b_Tree_entryAfter 43 = .ok (.ifCond .eq 27, 3) := by decide +kernel
theorem d_Tree_entryAfter_46 : decode b_Tree_entryAfter 46 = .ok (.iload_n 3, 1) := by decide +kernel
theorem d_Tree_entryAfter_47 : decode b_Tree_entryAfter 47 = .ok (.iconst (-1), 1) := by decide +kernel
theorem d_Tree_entryAfter_48 : decode b_Tree_entryAfter 48 = .ok (.if_icmp .eq 19, 3) := by decide +kernel
theorem d_Tree_entryAfter_51 : decode b_Tree_entryAfter 51 = .ok (.aload_n 0, 1) := by decide +kernel
theorem d_Tree_entryAfter_52 : decode b_Tree_entryAfter 52 = .ok (.getfield 18, 3) := by decide +kernel
theorem d_Tree_entryAfter_55 : decode b_Tree_entryAfter 55 = .ok (.iload 4, 2) := by decide +kernel
theorem d_Tree_entryAfter_57 : decode b_Tree_entryAfter 57 = .ok (.iaload, 1) := by decide +kernel
theorem d_Tree_entryAfter_58 : decode b_Tree_entryAfter 58 = .ok (.aload_n 0, 1) := by decide +kernel
theorem d_Tree_entryAfter_59 : decode b_Tree_entryAfter 59 = .ok (.getfield 18, 3) := by decide +kernel
theorem d_Tree_entryAfter_62 : decode b_Tree_entryAfter 62 = .ok (.iload_n 3, 1) := by decide +kernel
theorem d_Tree_entryAfter_63 : decode b_Tree_entryAfter 63 = .ok (.iaload, 1) := by decide +kernel
theorem d_Tree_entryAfter_64 : decode b_Tree_entryAfter 64 = .ok (.if_icmp .ge 6, 3) := by decide +kernel
theorem d_Tree_entryAfter_67 : decode b_Tree_entryAfter 67 = .ok (.iload 4, 2) := by decide +kernel
theorem d_Tree_entryAfter_69 : decode b_Tree_entryAfter 69 = .ok (.istore_n 3, 1) := by decide +kernel
theorem d_Tree_entryAfter_70 : decode b_Tree_entryAfter 70 = .ok (.iinc 4 1, 3) := by decide +kernel
theorem d_Tree_entryAfter_73 : decode b_Tree_entryAfter 73 = .ok (.goto (-68), 3) := by decide +kernel
theorem d_Tree_entryAfter_76 : decode b_Tree_entryAfter 76 = .ok (.iload_n 3, 1) := by decide +kernel
theorem d_Tree_entryAfter_77 : decode b_Tree_entryAfter 77 = .ok (.ireturn, 1) := by decide +kernel
theorem d_Tree_followerOf_0 : decode b_Tree_followerOf 0 = .ok (.aload_n 0, 1) := by decide +kernel
theorem d_Tree_followerOf_1 : decode b_Tree_followerOf 1 = .ok (.iload_n 1, 1) := by decide +kernel
theorem d_Tree_followerOf_2 : decode b_Tree_followerOf 2 = .ok (.iconst 0, 1) := by decide +kernel
theorem d_Tree_followerOf_3 : decode b_Tree_followerOf 3 = .ok (.invokevirtual 44, 3) := by decide +kernel
theorem d_Tree_followerOf_6 : decode b_Tree_followerOf 6 = .ok (.istore_n 2, 1) := by decide +kernel
theorem d_Tree_followerOf_7 : decode b_Tree_followerOf 7 = .ok (.iload_n 1, 1) := by decide +kernel
theorem d_Tree_followerOf_8 : decode b_Tree_followerOf 8 = .ok (.istore_n 3, 1) := by decide +kernel
theorem d_Tree_followerOf_9 : decode b_Tree_followerOf 9 = .ok (.iconst 0, 1) := by decide +kernel
theorem d_Tree_followerOf_10 : decode b_Tree_followerOf 10 = .ok (.istore 4, 2) := by decide +kernel
theorem d_Tree_followerOf_12 : decode b_Tree_followerOf 12 = .ok (.iload 4, 2) := by decide +kernel
theorem d_Tree_followerOf_14 : decode b_Tree_followerOf 14 = .ok (.bipush 12, 2) := by decide +kernel
theorem d_Tree_followerOf_16 : decode b_Tree_followerOf 16 = .ok (.if_icmp .ge 42, 3) := by decide +kernel
theorem d_Tree_followerOf_19 : decode b_Tree_followerOf 19 = .ok (.iload_n 2, 1) := by decide +kernel
theorem d_Tree_followerOf_20 : decode b_Tree_followerOf 20 = .ok (.iconst (-1), 1) := by decide +kernel
theorem d_Tree_followerOf_21 : decode b_Tree_followerOf 21 = .ok (.if_icmp .ne 37, 3) := by decide +kernel
theorem d_Tree_followerOf_24 : decode b_Tree_followerOf 24 = .ok (.iload_n 3, 1) := by decide +kernel
theorem d_Tree_followerOf_25 : decode b_Tree_followerOf 25 = .ok (.ifCond .le 33, 3) := by decide +kernel
theorem d_Tree_followerOf_28 : decode b_Tree_followerOf 28 = .ok (.aload_n 0, 1) := by decide +kernel
theorem d_Tree_followerOf_29 : decode b_Tree_followerOf 29 = .ok (.aload_n 0, 1) := by decide +kernel
theorem d_Tree_followerOf_30 : decode b_Tree_followerOf 30 = .ok (.getfield 15, 3) := by decide +kernel
theorem d_Tree_followerOf_33 : decode b_Tree_followerOf 33 = .ok (.iload_n 3, 1) := by decide +kernel
theorem d_Tree_followerOf_34 : decode b_Tree_followerOf 34 = .ok (.iaload, 1) := by decide +kernel
theorem d_Tree_followerOf_35 : decode b_Tree_followerOf 35 = .ok (.aload_n 0, 1) := by decide +kernel
theorem d_Tree_followerOf_36 : decode b_Tree_followerOf 36 = .ok (.getfield 18, 3) := by decide +kernel
theorem d_Tree_followerOf_39 : decode b_Tree_followerOf 39 = .ok (.iload_n 3, 1) := by decide +kernel
theorem d_Tree_followerOf_40 : decode b_Tree_followerOf 40 = .ok (.iaload, 1) := by decide +kernel
theorem d_Tree_followerOf_41 : decode b_Tree_followerOf 41 = .ok (.invokevirtual 44, 3) := by decide +kernel
theorem d_Tree_followerOf_44 : decode b_Tree_followerOf 44 = .ok (.istore_n 2, 1) := by decide +kernel
theorem d_Tree_followerOf_45 : decode b_Tree_followerOf 45 = .ok (.aload_n 0, 1) := by decide +kernel
theorem d_Tree_followerOf_46 : decode b_Tree_followerOf 46 = .ok (.getfield 15, 3) := by decide +kernel
theorem d_Tree_followerOf_49 : decode b_Tree_followerOf 49 = .ok (.iload_n 3, 1) := by decide +kernel
theorem d_Tree_followerOf_50 : decode b_Tree_followerOf 50 = .ok (.iaload, 1) := by decide +kernel
theorem d_Tree_followerOf_51 : decode b_Tree_followerOf 51 = .ok (.istore_n 3, 1) := by decide +kernel
theorem d_Tree_followerOf_52 : decode b_Tree_followerOf 52 = .ok (.iinc 4 1, 3) := by decide +kernel
theorem d_Tree_followerOf_55 : decode b_Tree_followerOf 55 = .ok (.goto (-43), 3) := by decide +kernel
theorem d_Tree_followerOf_58 : decode b_Tree_followerOf 58 = .ok (.iload_n 2, 1) := by decide +kernel
theorem d_Tree_followerOf_59 : decode b_Tree_followerOf 59 = .ok (.ireturn, 1) := by decide +kernel
end
section
theorem d_Cy_init_0 : decode b_Cy_init 0 = .ok (.aload_n 0, 1) := by decide +kernel
theorem d_Cy_init_1 : decode b_Cy_init 1 = .ok (.invokespecial 3, 3) := by decide +kernel
theorem d_Cy_init_4 : decode b_Cy_init 4 = .ok (.aload_n 0, 1) := by decide +kernel
theorem d_Cy_init_5 : decode b_Cy_init 5 = .ok (.sipush 1341, 3) := by decide +kernel
theorem d_Cy_init_8 : decode b_Cy_init 8 = .ok (.newarray .int, 2) := by decide +kernel
theorem d_Cy_init_10 : decode b_Cy_init 10 = .ok (.putfield 11, 3) := by decide +kernel
theorem d_Cy_init_13 : decode b_Cy_init 13 = .ok (.aload_n 0, 1) := by decide +kernel
theorem d_Cy_init_14 : decode b_Cy_init 14 = .ok (.iconst 0, 1) := by decide +kernel
theorem d_Cy_init_15 : decode b_Cy_init 15 = .ok (.putfield 15, 3) := by decide +kernel
theorem d_Cy_init_18 : decode b_Cy_init 18 = .ok (.aload_n 0, 1) := by decide +kernel
theorem d_Cy_init_19 : decode b_Cy_init 19 = .ok (.bipush 73, 2) := by decide +kernel
theorem d_Cy_init_21 : decode b_Cy_init 21 = .ok (.newarray .int, 2) := by decide +kernel
theorem d_Cy_init_23 : decode b_Cy_init 23 = .ok (.putfield 19, 3) := by decide +kernel
theorem d_Cy_init_26 : decode b_Cy_init 26 = .ok (.aload_n 0, 1) := by decide +kernel
theorem d_Cy_init_27 : decode b_Cy_init 27 = .ok (.iconst 0, 1) := by decide +kernel
theorem d_Cy_init_28 : decode b_Cy_init 28 = .ok (.putfield 22, 3) := by decide +kernel
theorem d_Cy_init_31 : decode b_Cy_init 31 = .ok (.return_, 1) := by decide +kernel
theorem d_Cy_renew_0 : decode b_Cy_renew 0 = .ok (.aload_n 0, 1) := by decide +kernel
theorem d_Cy_renew_1 : decode b_Cy_renew 1 = .ok (.iconst 0, 1) := by decide +kernel
theorem d_Cy_renew_2 : decode b_Cy_renew 2 = .ok (.putfield 15, 3) := by decide +kernel
theorem d_Cy_renew_5 : decode b_Cy_renew 5 = .ok (.aload_n 0, 1) := by decide +kernel
theorem d_Cy_renew_6 : decode b_Cy_renew 6 = .ok (.iconst 0, 1) := by decide +kernel
theorem d_Cy_renew_7 : decode b_Cy_renew 7 = .ok (.putfield 22, 3) := by decide +kernel
theorem d_Cy_renew_10 : decode b_Cy_renew 10 = .ok (.aload_n 0, 1) := by decide +kernel
theorem d_Cy_renew_11 : decode b_Cy_renew 11 = .ok (.aload_n 1, 1) := by decide +kernel
theorem d_Cy_renew_12 : decode b_Cy_renew 12 = .ok (.invokevirtual 25, 3) := by decide +kernel
theorem d_Cy_renew_15 : decode b_Cy_renew 15 = .ok (.iconst 0, 1) := by decide +kernel
theorem d_Cy_renew_16 : decode b_Cy_renew 16 = .ok (.istore_n 2, 1) := by decide +kernel
theorem d_Cy_renew_17 : decode b_Cy_renew 17 = .ok (.iload_n 2, 1) := by decide +kernel
theorem d_Cy_renew_18 : decode b_Cy_renew 18 = .ok (.aload_n 1, 1) := by decide +kernel
theorem d_Cy_renew_19 : decode b_Cy_renew 19 = .ok (.getfield 29, 3) := by decide +kernel
theorem d_Cy_renew_22 : decode b_Cy_renew 22 = .ok (.if_icmp .ge 42, 3) := by decide +kernel
theorem d_Cy_renew_25 : decode b_Cy_renew 25 = .ok (.aload_n 1, 1) := by decide +kernel
theorem d_Cy_renew_26 : decode b_Cy_renew 26 = .ok (.getfield 34, 3) := by decide +kernel
theorem d_Cy_renew_29 : decode b_Cy_renew 29 = .ok (.iload_n 2, 1) := by decide +kernel
theorem d_Cy_renew_30 : decode b_Cy_renew 30 = .ok (.iaload, 1) := by decide +kernel
theorem d_Cy_renew_31 : decode b_Cy_renew 31 = .ok (.invokestatic 37, 3) := by decide +kernel
theorem d_Cy_renew_34 : decode b_Cy_renew 34 = .ok (.istore_n 3, 1) := by decide +kernel
theorem d_Cy_renew_35 : decode b_Cy_renew 35 = .ok (.iconst 0, 1) := by decide +kernel
theorem d_Cy_renew_36 : decode b_Cy_renew 36 = .ok (.istore 4, 2) := by decide +kernel
theorem d_Cy_renew_38 : decode b_Cy_renew 38 = .ok (.iload 4, 2) := by decide +kernel
theorem d_Cy_renew_40 : decode b_Cy_renew 40 = .ok (.iload_n 3, 1) := by decide +kernel
theorem d_Cy_renew_41 : decode b_Cy_renew 41 = .ok (.if_icmp .ge 17, 3) := by decide +kernel
theorem d_Cy_renew_44 : decode b_Cy_renew 44 = .ok (.aload_n 0, 1) := by decide +kernel
theorem d_Cy_renew_45 : decode b_Cy_renew 45 = .ok (.aload_n 1, 1) := by decide +kernel
theorem d_Cy_renew_46 : decode b_Cy_renew 46 = .ok (.iload_n 2, 1) := by decide +kernel
theorem d_Cy_renew_47 : decode b_Cy_renew 47 = .ok (.iload 4, 2) := by decide +kernel
theorem d_Cy_renew_49 : decode b_Cy_renew 49 = .ok (.invokevirtual 41, 3) := by decide +kernel
theorem d_Cy_renew_52 : decode b_Cy_renew 52 = .ok (.iinc 4 1, 3) := by decide +kernel
theorem d_Cy_renew_55 : decode b_Cy_renew 55 = .ok (.goto (-17), 3) := by decide +kernel
theorem d_Cy_renew_58 : decode b_Cy_renew 58 = .ok (.iinc 2 1, 3) := by decide +kernel
theorem d_Cy_renew_61 : decode b_Cy_renew 61 = .ok (.goto (-44), 3) := by decide +kernel
theorem d_Cy_renew_64 : decode b_Cy_renew 64 = .ok (.return_, 1) := by decide +kernel
theorem d_Cy_startFrom_0 : decode b_Cy_startFrom 0 = .ok (.iconst 0, 1) := by decide +kernel
theorem d_Cy_startFrom_1 : decode b_Cy_startFrom 1 = .ok (.istore_n 2, 1) := by decide +kernel
theorem d_Cy_startFrom_2 : decode b_Cy_startFrom 2 = .ok (.iload_n 2, 1) := by decide +kernel
theorem d_Cy_startFrom_3 : decode b_Cy_startFrom 3 = .ok (.aload_n 0, 1) := by decide +kernel
theorem d_Cy_startFrom_4 : decode b_Cy_startFrom 4 = .ok (.getfield 22, 3) := by decide +kernel
theorem d_Cy_startFrom_7 : decode b_Cy_startFrom 7 = .ok (.if_icmp .ge 26, 3) := by decide +kernel
theorem d_Cy_startFrom_10 : decode b_Cy_startFrom 10 = .ok (.aload_n 0, 1) := by decide +kernel
theorem d_Cy_startFrom_11 : decode b_Cy_startFrom 11 = .ok (.getfield 19, 3) := by decide +kernel
theorem d_Cy_startFrom_14 : decode b_Cy_startFrom 14 = .ok (.iload_n 2, 1) := by decide +kernel
theorem d_Cy_startFrom_15 : decode b_Cy_startFrom 15 = .ok (.iaload, 1) := by decide +kernel
theorem d_Cy_startFrom_16 : decode b_Cy_startFrom 16 = .ok (.iload_n 1, 1) := by decide +kernel
theorem d_Cy_startFrom_17 : decode b_Cy_startFrom 17 = .ok (.if_icmp .lt 10, 3) := by decide +kernel
theorem d_Cy_startFrom_20 : decode b_Cy_startFrom 20 = .ok (.aload_n 0, 1) := by decide +kernel
theorem d_Cy_startFrom_21 : decode b_Cy_startFrom 21 = .ok (.getfield 19, 3) := by decide +kernel
theorem d_Cy_startFrom_24 : decode b_Cy_startFrom 24 = .ok (.iload_n 2, 1) := by decide +kernel
theorem d_Cy_startFrom_25 : decode b_Cy_startFrom 25 = .ok (.iaload, 1) := by decide +kernel
theorem d_Cy_startFrom_26 : decode b_Cy_startFrom 26 = .ok (.ireturn, 1) := by decide +kernel
theorem d_Cy_startFrom_27 : decode b_Cy_startFrom 27 = .ok (.iinc 2 1, 3) := by decide +kernel
theorem d_Cy_startFrom_30 : decode b_Cy_startFrom 30 = .ok (.goto (-28), 3) := by decide +kernel
theorem d_Cy_startFrom_33 : decode b_Cy_startFrom 33 = .ok (.aload_n 0, 1) := by decide +kernel
theorem d_Cy_startFrom_34 : decode b_Cy_startFrom 34 = .ok (.getfield 15, 3) := by decide +kernel
theorem d_Cy_startFrom_37 : decode b_Cy_startFrom 37 = .ok (.ireturn, 1) := by decide +kernel
theorem d_Cy_addList_0 : decode b_Cy_addList 0 = .ok (.aload_n 0, 1) := by decide +kernel
theorem d_Cy_addList_1 : decode b_Cy_addList 1 = .ok (.bipush 59, 2) := by decide +kernel
theorem d_Cy_addList_3 : decode b_Cy_addList 3 = .ok (.iconst 5, 1) := by decide +kernel
theorem d_Cy_addList_4 : decode b_Cy_addList 4 = .ok (.iconst 3, 1) := by decide +kernel
theorem d_Cy_addList_5 : decode b_Cy_addList 5 = .ok (.aload_n 1, 1) := by decide +kernel
theorem d_Cy_addList_6 : decode b_Cy_addList 6 = .ok (.getfield 29, 3) := by decide +kernel
theorem d_Cy_addList_9 : decode b_Cy_addList 9 = .ok (.imul, 1) := by decide +kernel
theorem d_Cy_addList_10 : decode b_Cy_addList 10 = .ok (.iadd, 1) := by decide +kernel
theorem d_Cy_addList_11 : decode b_Cy_addList 11 = .ok (.invokevirtual 45, 3) := by decide +kernel
theorem d_Cy_addList_14 : decode b_Cy_addList 14 = .ok (.aload_n 0, 1) := by decide +kernel
theorem d_Cy_addList_15 : decode b_Cy_addList 15 = .ok (.aload_n 1, 1) := by decide +kernel
theorem d_Cy_addList_16 : decode b_Cy_addList 16 = .ok (.getfield 49, 3) := by decide +kernel
theorem d_Cy_addList_19 : decode b_Cy_addList 19 = .ok (.invokevirtual 52, 3) := by decide +kernel
theorem d_Cy_addList_22 : decode b_Cy_addList 22 = .ok (.aload_n 0, 1) := by decide +kernel
theorem d_Cy_addList_23 : decode b_Cy_addList 23 = .ok (.aload_n 1, 1) := by decide +kernel
theorem d_Cy_addList_24 : decode b_Cy_addList 24 = .ok (.getfield 29, 3) := by decide +kernel
theorem d_Cy_addList_27 : decode b_Cy_addList 27 = .ok (.invokevirtual 56, 3) := by decide +kernel
theorem d_Cy_addList_30 : decode b_Cy_addList 30 = .ok (.iconst 0, 1) := by decide +kernel
theorem d_Cy_addList_31 : decode b_Cy_addList 31 = .ok (.istore_n 2, 1) := by decide +kernel
theorem d_Cy_addList_32 : decode b_Cy_addList 32 = .ok (.iload_n 2, 1) := by decide +kernel
theorem d_Cy_addList_33 : decode b_Cy_addList 33 = .ok (.aload_n 1, 1) := by decide +kernel
theorem d_Cy_addList_34 : decode b_Cy_addList 34 = .ok (.getfield 29, 3) := by decide +kernel
theorem d_Cy_addList_37 : decode b_Cy_addList 37 = .ok (.if_icmp .ge 29, 3) := by decide +kernel
theorem d_Cy_addList_40 : decode b_Cy_addList 40 = .ok (.aload_n 0, 1) := by decide +kernel
theorem d_Cy_addList_41 : decode b_Cy_addList 41 = .ok (.aload_n 1, 1) := by decide +kernel
theorem d_Cy_addList_42 : decode b_Cy_addList 42 = .ok (.getfield 34, 3) := by decide +kernel
theorem d_Cy_addList_45 : decode b_Cy_addList 45 = .ok (.iload_n 2, 1) := by decide +kernel
theorem d_Cy_addList_46 : decode b_Cy_addList 46 = .ok (.iaload, 1) := by decide +kernel
theorem d_Cy_addList_47 : decode b_Cy_addList 47 = .ok (.invokevirtual 56, 3) := by decide +kernel
theorem d_Cy_addList_50 : decode b_Cy_addList 50 = .ok (.aload_n 0, 1) := by decide +kernel
theorem d_Cy_addList_51 : decode b_Cy_addList 51 = .ok (.aload_n 1, 1) := by decide +kernel
theorem d_Cy_addList_52 : decode b_Cy_addList 52 = .ok (.getfield 59, 3) := by decide +kernel
theorem d_Cy_addList_55 : decode b_Cy_addList 55 = .ok (.iload_n 2, 1) := by decide +kernel
theorem d_Cy_addList_56 : decode b_Cy_addList 56 = .ok (.iaload, 1) := by decide +kernel
theorem d_Cy_addList_57 : decode b_Cy_addList 57 = .ok (.invokevirtual 52, 3) := by decide +kernel
theorem d_Cy_addList_60 : decode b_Cy_addList 60 = .ok (.iinc 2 1, 3) := by decide +kernel
theorem d_Cy_addList_63 : decode b_Cy_addList 63 = .ok (.goto (-31), 3) := by decide +kernel
theorem d_Cy_addList_66 : decode b_Cy_addList 66 = .ok (.aload_n 0, 1) := by decide +kernel
theorem d_Cy_addList_67 : decode b_Cy_addList 67 = .ok (.invokevirtual 62, 3) := by decide +kernel
theorem d_Cy_addList_70 : decode b_Cy_addList 70 = .ok (.return_, 1) := by decide +kernel
theorem d_Cy_addBlock_0 : decode b_Cy_addBlock 0 = .ok (.aload_n 1, 1) := by decide +kernel
theorem d_Cy_addBlock_1 : decode b_Cy_addBlock 1 = .ok (.getfield 34, 3) := by decide +kernel
theorem d_Cy_addBlock_4 : decode b_Cy_addBlock 4 = .ok (.iload_n 2, 1) := by decide +kernel
theorem d_Cy_addBlock_5 : decode b_Cy_addBlock 5 = .ok (.iaload, 1) := by decide +kernel
theorem d_Cy_addBlock_6 : decode b_Cy_addBlock 6 = .ok (.iload_n 3, 1) := by decide +kernel
theorem d_Cy_addBlock_7 : decode b_Cy_addBlock 7 = .ok (.invokestatic 65, 3) := by decide +kernel
theorem d_Cy_addBlock_10 : decode b_Cy_addBlock 10 = .ok (.istore 4, 2) := by decide +kernel
theorem d_Cy_addBlock_12 : decode b_Cy_addBlock 12 = .ok (.aload_n 0, 1) := by decide +kernel
theorem d_Cy_addBlock_13 : decode b_Cy_addBlock 13 = .ok (.bipush 60, 2) := by decide +kernel
theorem d_Cy_addBlock_15 : decode b_Cy_addBlock 15 = .ok (.bipush 6, 2) := by decide +kernel
theorem d_Cy_addBlock_17 : decode b_Cy_addBlock 17 = .ok (.iload 4, 2) := by decide +kernel
theorem d_Cy_addBlock_19 : decode b_Cy_addBlock 19 = .ok (.iadd, 1) := by decide +kernel
theorem d_Cy_addBlock_20 : decode b_Cy_addBlock 20 = .ok (.invokevirtual 45, 3) := by decide +kernel
theorem d_Cy_addBlock_23 : decode b_Cy_addBlock 23 = .ok (.aload_n 0, 1) := by decide +kernel
theorem d_Cy_addBlock_24 : decode b_Cy_addBlock 24 = .ok (.iload_n 2, 1) := by decide +kernel
theorem d_Cy_addBlock_25 : decode b_Cy_addBlock 25 = .ok (.invokevirtual 56, 3) := by decide +kernel
theorem d_Cy_addBlock_28 : decode b_Cy_addBlock 28 = .ok (.aload_n 0, 1) := by decide +kernel
theorem d_Cy_addBlock_29 : decode b_Cy_addBlock 29 = .ok (.aload_n 1, 1) := by decide +kernel
theorem d_Cy_addBlock_30 : decode b_Cy_addBlock 30 = .ok (.getfield 59, 3) := by decide +kernel
theorem d_Cy_addBlock_33 : decode b_Cy_addBlock 33 = .ok (.iload_n 2, 1) := by decide +kernel
theorem d_Cy_addBlock_34 : decode b_Cy_addBlock 34 = .ok (.iaload, 1) := by decide +kernel
theorem d_Cy_addBlock_35 : decode b_Cy_addBlock 35 = .ok (.invokevirtual 52, 3) := by decide +kernel
theorem d_Cy_addBlock_38 : decode b_Cy_addBlock 38 = .ok (.aload_n 0, 1) := by decide +kernel
theorem d_Cy_addBlock_39 : decode b_Cy_addBlock 39 = .ok (.iload_n 3, 1) := by decide +kernel
theorem d_Cy_addBlock_40 : decode b_Cy_addBlock 40 = .ok (.invokevirtual 56, 3) := by decide +kernel
theorem d_Cy_addBlock_43 : decode b_Cy_addBlock 43 = .ok (.iconst 0, 1) := by decide +kernel
theorem d_Cy_addBlock_44 : decode b_Cy_addBlock 44 = .ok (.istore 5, 2) := by decide +kernel
theorem d_Cy_addBlock_46 : decode b_Cy_addBlock 46 = .ok (.iload 5, 2) := by decide +kernel
theorem d_Cy_addBlock_48 : decode b_Cy_addBlock 48 = .ok (.iload 4, 2) := by decide +kernel
theorem d_Cy_addBlock_50 : decode b_Cy_addBlock 50 = .ok (.if_icmp .ge 25, 3) := by decide +kernel
theorem d_Cy_addBlock_53 : decode b_Cy_addBlock 53 = .ok (.aload_n 0, 1) := by decide +kernel
theorem d_Cy_addBlock_54 : decode b_Cy_addBlock 54 = .ok (.aload_n 1, 1) := by decide +kernel
theorem d_Cy_addBlock_55 : decode b_Cy_addBlock 55 = .ok (.iload_n 2, 1) := by decide +kernel
theorem d_Cy_addBlock_56 : decode b_Cy_addBlock 56 = .ok (.iload_n 3, 1) := by decide +kernel
theorem d_Cy_addBlock_57 : decode b_Cy_addBlock 57 = .ok (.bipush 8, 2) := by decide +kernel
theorem d_Cy_addBlock_59 : decode b_Cy_addBlock 59 = .ok (.imul, 1) := by decide +kernel
theorem d_Cy_addBlock_60 : decode b_Cy_addBlock 60 = .ok (.iload 5, 2) := by decide +kernel
theorem d_Cy_addBlock_62 : decode b_Cy_addBlock 62 = .ok (.iadd, 1) := by decide +kernel
theorem d_Cy_addBlock_63 : decode b_Cy_addBlock 63 = .ok (.invokevirtual 69, 3) := by decide +kernel
theorem d_Cy_addBlock_66 : decode b_Cy_addBlock 66 = .ok (.invokevirtual 56, 3) := by decide +kernel
theorem d_Cy_addBlock_69 : decode b_Cy_addBlock 69 = .ok (.iinc 5 1, 3) := by decide +kernel
theorem d_Cy_addBlock_72 : decode b_Cy_addBlock 72 = .ok (.goto (-26), 3) := by decide +kernel
theorem d_Cy_addBlock_75 : decode b_Cy_addBlock 75 = .ok (.aload_n 0, 1) := by decide +kernel
theorem d_Cy_addBlock_76 : decode b_Cy_addBlock 76 = .ok (.invokevirtual 62, 3) := by decide +kernel
theorem d_Cy_addBlock_79 : decode b_Cy_addBlock 79 = .ok (.return_, 1) := by decide +kernel
theorem d_Cy_begin_0 : decode b_Cy_begin 0 = .ok (.aload_n 0, 1) := by decide +kernel
theorem d_Cy_begin_1 : decode b_Cy_begin 1 = .ok (.getfield 22, 3) := by decide +kernel
theorem d_Cy_begin_4 : decode b_Cy_begin 4 = .ok (.aload_n 0, 1) := by decide +kernel
theorem d_Cy_begin_5 : decode b_Cy_begin 5 = .ok (.getfield 19, 3) := by decide +kernel
theorem d_Cy_begin_8 : decode b_Cy_begin 8 = .ok (.arraylength, 1) := by decide +kernel
theorem d_Cy_begin_9 : decode b_Cy_begin 9 = .ok (.if_icmp .ge 26, 3) := by decide +kernel
theorem d_Cy_begin_12 : decode b_Cy_begin 12 = .ok (.aload_n 0, 1) := by decide +kernel
theorem d_Cy_begin_13 : decode b_Cy_begin 13 = .ok (.getfield 19, 3) := by decide +kernel
theorem d_Cy_begin_16 : decode b_Cy_begin 16 = .ok (.aload_n 0, 1) := by decide +kernel
theorem d_Cy_begin_17 : decode b_Cy_begin 17 = .ok (.getfield 22, 3) := by decide +kernel
theorem d_Cy_begin_20 : decode b_Cy_begin 20 = .ok (.aload_n 0, 1) := by decide +kernel
theorem d_Cy_begin_21 : decode b_Cy_begin 21 = .ok (.getfield 15, 3) := by decide +kernel
theorem d_Cy_begin_24 : decode b_Cy_begin 24 = .ok (.iastore, 1) := by decide +kernel
theorem d_Cy_begin_25 : decode b_Cy_begin 25 = .ok (.aload_n 0, 1) := by decide +kernel
theorem d_Cy_begin_26 : decode b_Cy_begin 26 = .ok (.dup, 1) := by decide +kernel
theorem d_Cy_begin_27 : decode b_Cy_begin 27 = .ok (.getfield 22, 3) := by decide +kernel
theorem d_Cy_begin_30 : decode b_Cy_begin 30 = .ok (.iconst 1, 1) := by decide +kernel
theorem d_Cy_begin_31 : decode b_Cy_begin 31 = .ok (.iadd, 1) := by decide +kernel
theorem d_Cy_begin_32 : decode b_Cy_begin 32 = .ok (.putfield 22, 3) := by decide +kernel
theorem d_Cy_begin_35 : decode b_Cy_begin 35 = .ok (.aload_n 0, 1) := by decide +kernel
theorem d_Cy_begin_36 : decode b_Cy_begin 36 = .ok (.iload_n 1, 1) := by decide +kernel
theorem d_Cy_begin_37 : decode b_Cy_begin 37 = .ok (.invokevirtual 56, 3) := by decide +kernel
theorem d_Cy_begin_40 : decode b_Cy_begin 40 = .ok (.aload_n 0, 1) := by decide +kernel
theorem d_Cy_begin_41 : decode b_Cy_begin 41 = .ok (.iload_n 2, 1) := by decide +kernel
theorem d_Cy_begin_42 : decode b_Cy_begin 42 = .ok (.iconst 2, 1) := by decide +kernel
theorem d_Cy_begin_43 : decode b_Cy_begin 43 = .ok (.isub, 1) := by decide +kernel
theorem d_Cy_begin_44 : decode b_Cy_begin 44 = .ok (.iconst 4, 1) := by decide +kernel
theorem d_Cy_begin_45 : decode b_Cy_begin 45 = .ok (.iadd, 1) := by decide +kernel
theorem d_Cy_begin_46 : decode b_Cy_begin 46 = .ok (.invokevirtual 56, 3) := by decide +kernel
theorem d_Cy_begin_49 : decode b_Cy_begin 49 = .ok (.return_, 1) := by decide +kernel
theorem d_Cy_writeCheck_0 : decode b_Cy_writeCheck 0 = .ok (.aload_n 0, 1) := by decide +kernel
theorem d_Cy_writeCheck_1 : decode b_Cy_writeCheck 1 = .ok (.getfield 11, 3) := by decide +kernel
theorem d_Cy_writeCheck_4 : decode b_Cy_writeCheck 4 = .ok (.aload_n 0, 1) := by decide +kernel
theorem d_Cy_writeCheck_5 : decode b_Cy_writeCheck 5 = .ok (.getfield 19, 3) := by decide +kernel
theorem d_Cy_writeCheck_8 : decode b_Cy_writeCheck 8 = .ok (.aload_n 0, 1) := by decide +kernel
theorem d_Cy_writeCheck_9 : decode b_Cy_writeCheck 9 = .ok (.getfield 22, 3) := by decide +kernel
theorem d_Cy_writeCheck_12 : decode b_Cy_writeCheck 12 = .ok (.iconst 1, 1) := by decide +kernel
theorem d_Cy_writeCheck_13 : decode b_Cy_writeCheck 13 = .ok (.isub, 1) := by decide +kernel
theorem d_Cy_writeCheck_14 : decode b_Cy_writeCheck 14 = .ok (.iaload, 1) := by decide +kernel
theorem d_Cy_writeCheck_15 : decode b_Cy_writeCheck 15 = .ok (.aload_n 0, 1) := by decide +kernel
theorem d_Cy_writeCheck_16 : decode b_Cy_writeCheck 16 = .ok (.getfield 15, 3) := by decide +kernel
theorem d_Cy_writeCheck_19 : decode b_Cy_writeCheck 19 = .ok (.invokestatic 72, 3) := by decide +kernel
theorem d_Cy_writeCheck_22 : decode b_Cy_writeCheck 22 = .ok (.istore_n 1, 1) := by decide +kernel
theorem d_Cy_writeCheck_23 : decode b_Cy_writeCheck 23 = .ok (.aload_n 0, 1) := by decide +kernel
theorem d_Cy_writeCheck_24 : decode b_Cy_writeCheck 24 = .ok (.iload_n 1, 1) := by decide +kernel
theorem d_Cy_writeCheck_25 : decode b_Cy_writeCheck 25 = .ok (.bipush 16, 2) := by decide +kernel
theorem d_Cy_writeCheck_27 : decode b_Cy_writeCheck 27 = .ok (.iushr, 1) := by decide +kernel
theorem d_Cy_writeCheck_28 : decode b_Cy_writeCheck 28 = .ok (.invokevirtual 52, 3) := by decide +kernel
theorem d_Cy_writeCheck_31 : decode b_Cy_writeCheck 31 = .ok (.aload_n 0, 1) := by decide +kernel
theorem d_Cy_writeCheck_32 : decode b_Cy_writeCheck 32 = .ok (.iload_n 1, 1) := by decide +kernel
theorem d_Cy_writeCheck_33 : decode b_Cy_writeCheck 33 = .ok (.invokevirtual 52, 3) := by decide +kernel
theorem d_Cy_writeCheck_36 : decode b_Cy_writeCheck 36 = .ok (.return_, 1) := by decide +kernel
theorem d_Cy_writePair_0 : decode b_Cy_writePair 0 = .ok (.aload_n 0, 1) := by decide +kernel
theorem d_Cy_writePair_1 : decode b_Cy_writePair 1 = .ok (.iload_n 1, 1) := by decide +kernel
theorem d_Cy_writePair_2 : decode b_Cy_writePair 2 = .ok (.bipush 8, 2) := by decide +kernel
theorem d_Cy_writePair_4 : decode b_Cy_writePair 4 = .ok (.ishr, 1) := by decide +kernel
theorem d_Cy_writePair_5 : decode b_Cy_writePair 5 = .ok (.invokevirtual 56, 3) := by decide +kernel
theorem d_Cy_writePair_8 : decode b_Cy_writePair 8 = .ok (.aload_n 0, 1) := by decide +kernel
theorem d_Cy_writePair_9 : decode b_Cy_writePair 9 = .ok (.iload_n 1, 1) := by decide +kernel
theorem d_Cy_writePair_10 : decode b_Cy_writePair 10 = .ok (.invokevirtual 56, 3) := by decide +kernel
theorem d_Cy_writePair_13 : decode b_Cy_writePair 13 = .ok (.return_, 1) := by decide +kernel
theorem d_Cy_write_0 : decode b_Cy_write 0 = .ok (.aload_n 0, 1) := by decide +kernel
theorem d_Cy_write_1 : decode b_Cy_write 1 = .ok (.getfield 15, 3) := by decide +kernel
theorem d_Cy_write_4 : decode b_Cy_write 4 = .ok (.aload_n 0, 1) := by decide +kernel
theorem d_Cy_write_5 : decode b_Cy_write 5 = .ok (.getfield 11, 3) := by decide +kernel
theorem d_Cy_write_8 : decode b_Cy_write 8 = .ok (.arraylength, 1) := by decide +kernel
theorem d_Cy_write_9 : decode b_Cy_write 9 = .ok (.if_icmp .ge 27, 3) := by decide +kernel
theorem d_Cy_write_12 : decode b_Cy_write 12 = .ok (.aload_n 0, 1) := by decide +kernel
theorem d_Cy_write_13 : decode b_Cy_write 13 = .ok (.getfield 11, 3) := by decide +kernel
theorem d_Cy_write_16 : decode b_Cy_write 16 = .ok (.aload_n 0, 1) := by decide +kernel
theorem d_Cy_write_17 : decode b_Cy_write 17 = .ok (.getfield 15, 3) := by decide +kernel
theorem d_Cy_write_20 : decode b_Cy_write 20 = .ok (.iload_n 1, 1) := by decide +kernel
theorem d_Cy_write_21 : decode b_Cy_write 21 = .ok (.sipush 255, 3) := by decide +kernel
theorem d_Cy_write_24 : decode b_Cy_write 24 = .ok (.iand, 1) := by decide +kernel
theorem d_Cy_write_25 : decode b_Cy_write 25 = .ok (.iastore, 1) := by decide +kernel
theorem d_Cy_write_26 : decode b_Cy_write 26 = .ok (.aload_n 0, 1) := by decide +kernel
theorem d_Cy_write_27 : decode b_Cy_write 27 = .ok (.dup, 1) := by decide +kernel
theorem d_Cy_write_28 : decode b_Cy_write 28 = .ok (.getfield 15, 3) := by decide +kernel
theorem d_Cy_write_31 : decode b_Cy_write 31 = .ok (.iconst 1, 1) := by decide +kernel
theorem d_Cy_write_32 : decode b_Cy_write 32 = .ok (.iadd, 1) := by decide +kernel
theorem d_Cy_write_33 : decode b_Cy_write 33 = .ok (.putfield 15, 3) := by decide +kernel
theorem d_Cy_write_36 : decode b_Cy_write 36 = .ok (.return_, 1) := by decide +kernel
theorem d_Mt_init_0 : decode b_Mt_init 0 = .ok (.aload_n 0, 1) := by decide +kernel
theorem d_Mt_init_1 : decode b_Mt_init 1 = .ok (.invokespecial 3, 3) := by decide +kernel
theorem d_Mt_init_4 : decode b_Mt_init 4 = .ok (.aload_n 0, 1) := by decide +kernel
theorem d_Mt_init_5 : decode b_Mt_init 5 = .ok (.iconst 0, 1) := by decide +kernel
theorem d_Mt_init_6 : decode b_Mt_init 6 = .ok (.putfield 9, 3) := by decide +kernel
theorem d_Mt_init_9 : decode b_Mt_init 9 = .ok (.aload_n 0, 1) := by decide +kernel
theorem d_Mt_init_10 : decode b_Mt_init 10 = .ok (.iconst 0, 1) := by decide +kernel
theorem d_Mt_init_11 : decode b_Mt_init 11 = .ok (.putfield 15, 3) := by decide +kernel
theorem d_Mt_init_14 : decode b_Mt_init 14 = .ok (.aload_n 0, 1) := by decide +kernel
theorem d_Mt_init_15 : decode b_Mt_init 15 = .ok (.bipush 12, 2) := by decide +kernel
theorem d_Mt_init_17 : decode b_Mt_init 17 = .ok (.newarray .int, 2) := by decide +kernel
theorem d_Mt_init_19 : decode b_Mt_init 19 = .ok (.putfield 19, 3) := by decide +kernel
theorem d_Mt_init_22 : decode b_Mt_init 22 = .ok (.aload_n 0, 1) := by decide +kernel
theorem d_Mt_init_23 : decode b_Mt_init 23 = .ok (.bipush 12, 2) := by decide +kernel
theorem d_Mt_init_25 : decode b_Mt_init 25 = .ok (.newarray .int, 2) := by decide +kernel
theorem d_Mt_init_27 : decode b_Mt_init 27 = .ok (.putfield 23, 3) := by decide +kernel
theorem d_Mt_init_30 : decode b_Mt_init 30 = .ok (.aload_n 0, 1) := by decide +kernel
theorem d_Mt_init_31 : decode b_Mt_init 31 = .ok (.bipush 12, 2) := by decide +kernel
theorem d_Mt_init_33 : decode b_Mt_init 33 = .ok (.newarray .int, 2) := by decide +kernel
theorem d_Mt_init_35 : decode b_Mt_init 35 = .ok (.putfield 26, 3) := by decide +kernel
theorem d_Mt_init_38 : decode b_Mt_init 38 = .ok (.aload_n 0, 1) := by decide +kernel
theorem d_Mt_init_39 : decode b_Mt_init 39 = .ok (.sipush 576, 3) := by decide +kernel
theorem d_Mt_init_42 : decode b_Mt_init 42 = .ok (.newarray .int, 2) := by decide +kernel
theorem d_Mt_init_44 : decode b_Mt_init 44 = .ok (.putfield 29, 3) := by decide +kernel
theorem d_Mt_init_47 : decode b_Mt_init 47 = .ok (.return_, 1) := by decide +kernel
theorem d_Mt_reset_0 : decode b_Mt_reset 0 = .ok (.aload_n 0, 1) := by decide +kernel
theorem d_Mt_reset_1 : decode b_Mt_reset 1 = .ok (.iconst 0, 1) := by decide +kernel
theorem d_Mt_reset_2 : decode b_Mt_reset 2 = .ok (.putfield 9, 3) := by decide +kernel
theorem d_Mt_reset_5 : decode b_Mt_reset 5 = .ok (.aload_n 0, 1) := by decide +kernel
theorem d_Mt_reset_6 : decode b_Mt_reset 6 = .ok (.iconst 0, 1) := by decide +kernel
theorem d_Mt_reset_7 : decode b_Mt_reset 7 = .ok (.putfield 15, 3) := by decide +kernel
theorem d_Mt_reset_10 : decode b_Mt_reset 10 = .ok (.iconst 0, 1) := by decide +kernel
theorem d_Mt_reset_11 : decode b_Mt_reset 11 = .ok (.istore_n 1, 1) := by decide +kernel
theorem d_Mt_reset_12 : decode b_Mt_reset 12 = .ok (.iload_n 1, 1) := by decide +kernel
theorem d_Mt_reset_13 : decode b_Mt_reset 13 = .ok (.bipush 12, 2) := by decide +kernel
theorem d_Mt_reset_15 : decode b_Mt_reset 15 = .ok (.if_icmp .ge 16, 3) := by decide +kernel
theorem d_Mt_reset_18 : decode b_Mt_reset 18 = .ok (.aload_n 0, 1) := by decide +kernel
theorem d_Mt_reset_19 : decode b_Mt_reset 19 = .ok (.iload_n 1, 1) := by decide +kernel
theorem d_Mt_reset_20 : decode b_Mt_reset 20 = .ok (.iconst 0, 1) := by decide +kernel
theorem d_Mt_reset_21 : decode b_Mt_reset 21 = .ok (.iconst 0, 1) := by decide +kernel
theorem d_Mt_reset_22 : decode b_Mt_reset 22 = .ok (.invokevirtual 32, 3) := by decide +kernel
theorem d_Mt_reset_25 : decode b_Mt_reset 25 = .ok (.iinc 1 1, 3) := by decide +kernel
theorem d_Mt_reset_28 : decode b_Mt_reset 28 = .ok (.goto (-16), 3) := by decide +kernel
theorem d_Mt_reset_31 : decode b_Mt_reset 31 = .ok (.return_, 1) := by decide +kernel
theorem d_Mt_relist_0 : decode b_Mt_relist 0 = .ok (.aload_n 0, 1) := by decide +kernel
theorem d_Mt_relist_1 : decode b_Mt_relist 1 = .ok (.getfield 19, 3) := by decide +kernel
theorem d_Mt_relist_4 : decode b_Mt_relist 4 = .ok (.iload_n 1, 1) := by decide +kernel
theorem d_Mt_relist_5 : decode b_Mt_relist 5 = .ok (.iload_n 2, 1) := by decide +kernel
theorem d_Mt_relist_6 : decode b_Mt_relist 6 = .ok (.iastore, 1) := by decide +kernel
theorem d_Mt_relist_7 : decode b_Mt_relist 7 = .ok (.aload_n 0, 1) := by decide +kernel
theorem d_Mt_relist_8 : decode b_Mt_relist 8 = .ok (.getfield 23, 3) := by decide +kernel
theorem d_Mt_relist_11 : decode b_Mt_relist 11 = .ok (.iload_n 1, 1) := by decide +kernel
theorem d_Mt_relist_12 : decode b_Mt_relist 12 = .ok (.iload_n 3, 1) := by decide +kernel
theorem d_Mt_relist_13 : decode b_Mt_relist 13 = .ok (.iastore, 1) := by decide +kernel
theorem d_Mt_relist_14 : decode b_Mt_relist 14 = .ok (.aload_n 0, 1) := by decide +kernel
theorem d_Mt_relist_15 : decode b_Mt_relist 15 = .ok (.getfield 26, 3) := by decide +kernel
theorem d_Mt_relist_18 : decode b_Mt_relist 18 = .ok (.iload_n 1, 1) := by decide +kernel
theorem d_Mt_relist_19 : decode b_Mt_relist 19 = .ok (.iconst 0, 1) := by decide +kernel
theorem d_Mt_relist_20 : decode b_Mt_relist 20 = .ok (.iastore, 1) := by decide +kernel
theorem d_Mt_relist_21 : decode b_Mt_relist 21 = .ok (.return_, 1) := by decide +kernel
theorem d_Mt_takeList_0 : decode b_Mt_takeList 0 = .ok (.aload_n 0, 1) := by decide +kernel
theorem d_Mt_takeList_1 : decode b_Mt_takeList 1 = .ok (.iconst 1, 1) := by decide +kernel
theorem d_Mt_takeList_2 : decode b_Mt_takeList 2 = .ok (.putfield 9, 3) := by decide +kernel
theorem d_Mt_takeList_5 : decode b_Mt_takeList 5 = .ok (.aload_n 0, 1) := by decide +kernel
theorem d_Mt_takeList_6 : decode b_Mt_takeList 6 = .ok (.aload_n 1, 1) := by decide +kernel
theorem d_Mt_takeList_7 : decode b_Mt_takeList 7 = .ok (.iconst 2, 1) := by decide +kernel
theorem d_Mt_takeList_8 : decode b_Mt_takeList 8 = .ok (.invokestatic 36, 3) := by decide +kernel
theorem d_Mt_takeList_11 : decode b_Mt_takeList 11 = .ok (.putfield 15, 3) := by decide +kernel
theorem d_Mt_takeList_14 : decode b_Mt_takeList 14 = .ok (.aload_n 1, 1) := by decide +kernel
theorem d_Mt_takeList_15 : decode b_Mt_takeList 15 = .ok (.iconst 4, 1) := by decide +kernel
theorem d_Mt_takeList_16 : decode b_Mt_takeList 16 = .ok (.iaload, 1) := by decide +kernel
theorem d_Mt_takeList_17 : decode b_Mt_takeList 17 = .ok (.istore_n 2, 1) := by decide +kernel
theorem d_Mt_takeList_18 : decode b_Mt_takeList 18 = .ok (.iconst 0, 1) := by decide +kernel
theorem d_Mt_takeList_19 : decode b_Mt_takeList 19 = .ok (.istore_n 3, 1) := by decide +kernel
theorem d_Mt_takeList_20 : decode b_Mt_takeList 20 = .ok (.iload_n 3, 1) := by decide +kernel
theorem d_Mt_takeList_21 : decode b_Mt_takeList 21 = .ok (.bipush 12, 2) := by decide +kernel
theorem d_Mt_takeList_23 : decode b_Mt_takeList 23 = .ok (.if_icmp .ge 81, 3) := by decide +kernel
theorem d_Mt_takeList_26 : decode b_Mt_takeList 26 = .ok (.iconst 5, 1) := by decide +kernel
theorem d_Mt_takeList_27 : decode b_Mt_takeList 27 = .ok (.iconst 3, 1) := by decide +kernel
theorem d_Mt_takeList_28 : decode b_Mt_takeList 28 = .ok (.iload_n 3, 1) := by decide +kernel
theorem d_Mt_takeList_29 : decode b_Mt_takeList 29 = .ok (.imul, 1) := by decide +kernel
theorem d_Mt_takeList_30 : decode b_Mt_takeList 30 = .ok (.iadd, 1) := by decide +kernel
theorem d_Mt_takeList_31 : decode b_Mt_takeList 31 = .ok (.istore 4, 2) := by decide +kernel
theorem d_Mt_takeList_33 : decode b_Mt_takeList 33 = .ok (.iload_n 3, 1) := by decide +kernel
theorem d_Mt_takeList_34 : decode b_Mt_takeList 34 = .ok (.iload_n 2, 1) := by decide +kernel
theorem d_Mt_takeList_35 : decode b_Mt_takeList 35 = .ok (.if_icmp .ge 10, 3) := by decide +kernel
theorem d_Mt_takeList_38 : decode b_Mt_takeList 38 = .ok (.aload_n 1, 1) := by decide +kernel
theorem d_Mt_takeList_39 : decode b_Mt_takeList 39 = .ok (.iload 4, 2) := by decide +kernel
theorem d_Mt_takeList_41 : decode b_Mt_takeList 41 = .ok (.iaload, 1) := by decide +kernel
theorem d_Mt_takeList_42 : decode b_Mt_takeList 42 = .ok (.goto 4, 3) := by decide +kernel
theorem d_Mt_takeList_45 : decode b_Mt_takeList 45 = .ok (.iconst 0, 1) := by decide +kernel
theorem d_Mt_takeList_46 : decode b_Mt_takeList 46 = .ok (.istore 5, 2) := by decide +kernel
theorem d_Mt_takeList_48 : decode b_Mt_takeList 48 = .ok (.iload_n 3, 1) := by decide +kernel
theorem d_Mt_takeList_49 : decode b_Mt_takeList 49 = .ok (.iload_n 2, 1) := by decide +kernel
theorem d_Mt_takeList_50 : decode b_Mt_takeList 50 = .ok (.if_icmp .ge 14, 3) := by decide +kernel
theorem d_Mt_takeList_53 : decode b_Mt_takeList 53 = .ok (.aload_n 1, 1) := by decide +kernel
theorem d_Mt_takeList_54 : decode b_Mt_takeList 54 = .ok (.iload 4, 2) := by decide +kernel
theorem d_Mt_takeList_56 : decode b_Mt_takeList 56 = .ok (.iconst 1, 1) := by decide +kernel
theorem d_Mt_takeList_57 : decode b_Mt_takeList 57 = .ok (.iadd, 1) := by decide +kernel
theorem d_Mt_takeList_58 : decode b_Mt_takeList 58 = .ok (.invokestatic 36, 3) := by decide +kernel
theorem d_Mt_takeList_61 : decode b_Mt_takeList 61 = .ok (.goto 4, 3) := by decide +kernel
theorem d_Mt_takeList_64 : decode b_Mt_takeList 64 = .ok (.iconst 0, 1) := by decide +kernel
theorem d_Mt_takeList_65 : decode b_Mt_takeList 65 = .ok (.istore 6, 2) := by decide +kernel
theorem d_Mt_takeList_67 : decode b_Mt_takeList 67 = .ok (.aload_n 0, 1) := by decide +kernel
theorem d_Mt_takeList_68 : decode b_Mt_takeList 68 = .ok (.getfield 19, 3) := by decide +kernel
theorem d_Mt_takeList_71 : decode b_Mt_takeList 71 = .ok (.iload_n 3, 1) := by decide +kernel
theorem d_Mt_takeList_72 : decode b_Mt_takeList 72 = .ok (.iaload, 1) := by decide +kernel
theorem d_Mt_takeList_73 : decode b_Mt_takeList 73 = .ok (.iload 5, 2) := by decide +kernel
theorem d_Mt_takeList_75 : decode b_Mt_takeList 75 = .ok (.if_icmp .ne 14, 3) := by decide +kernel
theorem d_Mt_takeList_78 : decode b_Mt_takeList 78 = .ok (.aload_n 0, 1) := by decide +kernel
theorem d_Mt_takeList_79 : decode b_Mt_takeList 79 = .ok (.getfield 23, 3) := by decide +kernel
theorem d_Mt_takeList_82 : decode b_Mt_takeList 82 = .ok (.iload_n 3, 1) := by decide +kernel
theorem d_Mt_takeList_83 : decode b_Mt_takeList 83 = .ok (.iaload, 1) := by decide +kernel
theorem d_Mt_takeList_84 : decode b_Mt_takeList 84 = .ok (.iload 6, 2) := by decide +kernel
theorem d_Mt_takeList_86 : decode b_Mt_takeList 86 = .ok (.if_icmp .eq 12, 3) := by decide +kernel
theorem d_Mt_takeList_89 : decode b_Mt_takeList 89 = .ok (.aload_n 0, 1) := by decide +kernel
theorem d_Mt_takeList_90 : decode b_Mt_takeList 90 = .ok (.iload_n 3, 1) := by decide +kernel
theorem d_Mt_takeList_91 : decode b_Mt_takeList 91 = .ok (.iload 5, 2) := by decide +kernel
theorem d_Mt_takeList_93 : decode b_Mt_takeList 93 = .ok (.iload 6, 2) := by decide +kernel
theorem d_Mt_takeList_95 : decode b_Mt_takeList 95 = .ok (.invokevirtual 32, 3) := by decide +kernel
theorem d_Mt_takeList_98 : decode b_Mt_takeList 98 = .ok (.iinc 3 1, 3) := by decide +kernel
theorem d_Mt_takeList_101 : decode b_Mt_takeList 101 = .ok (.goto (-81), 3) := by decide +kernel
theorem d_Mt_takeList_104 : decode b_Mt_takeList 104 = .ok (.return_, 1) := by decide +kernel
theorem d_Mt_takeBlock_0 : decode b_Mt_takeBlock 0 = .ok (.aload_n 1, 1) := by decide +kernel
theorem d_Mt_takeBlock_1 : decode b_Mt_takeBlock 1 = .ok (.iconst 2, 1) := by decide +kernel
theorem d_Mt_takeBlock_2 : decode b_Mt_takeBlock 2 = .ok (.iaload, 1) := by decide +kernel
theorem d_Mt_takeBlock_3 : decode b_Mt_takeBlock 3 = .ok (.istore_n 3, 1) := by decide +kernel
theorem d_Mt_takeBlock_4 : decode b_Mt_takeBlock 4 = .ok (.aload_n 1, 1) := by decide +kernel
theorem d_Mt_takeBlock_5 : decode b_Mt_takeBlock 5 = .ok (.iconst 5, 1) := by decide +kernel
theorem d_Mt_takeBlock_6 : decode b_Mt_takeBlock 6 = .ok (.iaload, 1) := by decide +kernel
theorem d_Mt_takeBlock_7 : decode b_Mt_takeBlock 7 = .ok (.istore 4, 2) := by decide +kernel
theorem d_Mt_takeBlock_9 : decode b_Mt_takeBlock 9 = .ok (.aload_n 0, 1) := by decide +kernel
theorem d_Mt_takeBlock_10 : decode b_Mt_takeBlock 10 = .ok (.iload_n 3, 1) := by decide +kernel
theorem d_Mt_takeBlock_11 : decode b_Mt_takeBlock 11 = .ok (.invokevirtual 40, 3) := by decide +kernel
theorem d_Mt_takeBlock_14 : decode b_Mt_takeBlock 14 = .ok (.ifCond .eq 17, 3) := by decide +kernel
theorem d_Mt_takeBlock_17 : decode b_Mt_takeBlock 17 = .ok (.aload_n 0, 1) := by decide +kernel
theorem d_Mt_takeBlock_18 : decode b_Mt_takeBlock 18 = .ok (.getfield 23, 3) := by decide +kernel
theorem d_Mt_takeBlock_21 : decode b_Mt_takeBlock 21 = .ok (.iload_n 3, 1) := by decide +kernel
theorem d_Mt_takeBlock_22 : decode b_Mt_takeBlock 22 = .ok (.iaload, 1) := by decide +kernel
theorem d_Mt_takeBlock_23 : decode b_Mt_takeBlock 23 = .ok (.aload_n 1, 1) := by decide +kernel
theorem d_Mt_takeBlock_24 : decode b_Mt_takeBlock 24 = .ok (.iconst 3, 1) := by decide +kernel
theorem d_Mt_takeBlock_25 : decode b_Mt_takeBlock 25 = .ok (.invokestatic 36, 3) := by decide +kernel
theorem d_Mt_takeBlock_28 : decode b_Mt_takeBlock 28 = .ok (.if_icmp .eq 5, 3) := by decide +kernel
theorem d_Mt_takeBlock_31 : decode b_Mt_takeBlock 31 = .ok (.iconst 0, 1) := by decide +kernel
theorem d_Mt_takeBlock_32 : decode b_Mt_takeBlock 32 = .ok (.ireturn, 1) := by decide +kernel
theorem d_Mt_takeBlock_33 : decode b_Mt_takeBlock 33 = .ok (.iload 4, 2) := by decide +kernel
theorem d_Mt_takeBlock_35 : decode b_Mt_takeBlock 35 = .ok (.aload_n 0, 1) := by decide +kernel
theorem d_Mt_takeBlock_36 : decode b_Mt_takeBlock 36 = .ok (.getfield 19, 3) := by decide +kernel
theorem d_Mt_takeBlock_39 : decode b_Mt_takeBlock 39 = .ok (.iload_n 3, 1) := by decide +kernel
theorem d_Mt_takeBlock_40 : decode b_Mt_takeBlock 40 = .ok (.iaload, 1) := by decide +kernel
theorem d_Mt_takeBlock_41 : decode b_Mt_takeBlock 41 = .ok (.invokestatic 44, 3) := by decide +kernel
theorem d_Mt_takeBlock_44 : decode b_Mt_takeBlock 44 = .ok (.if_icmp .ge 18, 3) := by decide +kernel
theorem d_Mt_takeBlock_47 : decode b_Mt_takeBlock 47 = .ok (.iload_n 2, 1) := by decide +kernel
theorem d_Mt_takeBlock_48 : decode b_Mt_takeBlock 48 = .ok (.aload_n 0, 1) := by decide +kernel
theorem d_Mt_takeBlock_49 : decode b_Mt_takeBlock 49 = .ok (.getfield 19, 3) := by decide +kernel
theorem d_Mt_takeBlock_52 : decode b_Mt_takeBlock 52 = .ok (.iload_n 3, 1) := by decide +kernel
theorem d_Mt_takeBlock_53 : decode b_Mt_takeBlock 53 = .ok (.iaload, 1) := by decide +kernel
theorem d_Mt_takeBlock_54 : decode b_Mt_takeBlock 54 = .ok (.iload 4, 2) := by decide +kernel
theorem d_Mt_takeBlock_56 : decode b_Mt_takeBlock 56 = .ok (.invokestatic 48, 3) := by decide +kernel
theorem d_Mt_takeBlock_59 : decode b_Mt_takeBlock 59 = .ok (.if_icmp .eq 5, 3) := by decide +kernel
theorem d_Mt_takeBlock_62 : decode b_Mt_takeBlock 62 = .ok (.iconst 0, 1) := by decide +kernel
theorem d_Mt_takeBlock_63 : decode b_Mt_takeBlock 63 = .ok (.ireturn, 1) := by decide +kernel
theorem d_Mt_takeBlock_64 : decode b_Mt_takeBlock 64 = .ok (.iload_n 3, 1) := by decide +kernel
theorem d_Mt_takeBlock_65 : decode b_Mt_takeBlock 65 = .ok (.bipush 48, 2) := by decide +kernel
theorem d_Mt_takeBlock_67 : decode b_Mt_takeBlock 67 = .ok (.imul, 1) := by decide +kernel
theorem d_Mt_takeBlock_68 : decode b_Mt_takeBlock 68 = .ok (.iload 4, 2) := by decide +kernel
theorem d_Mt_takeBlock_70 : decode b_Mt_takeBlock 70 = .ok (.bipush 8, 2) := by decide +kernel
theorem d_Mt_takeBlock_72 : decode b_Mt_takeBlock 72 = .ok (.imul, 1) := by decide +kernel
theorem d_Mt_takeBlock_73 : decode b_Mt_takeBlock 73 = .ok (.iadd, 1) := by decide +kernel
theorem d_Mt_takeBlock_74 : decode b_Mt_takeBlock 74 = .ok (.istore 5, 2) := by decide +kernel
theorem d_Mt_takeBlock_76 : decode b_Mt_takeBlock 76 = .ok (.aload_n 1, 1) := by decide +kernel
theorem d_Mt_takeBlock_77 : decode b_Mt_takeBlock 77 = .ok (.bipush 6, 2) := by decide +kernel
theorem d_Mt_takeBlock_79 : decode b_Mt_takeBlock 79 = .ok (.aload_n 0, 1) := by decide +kernel
theorem d_Mt_takeBlock_80 : decode b_Mt_takeBlock 80 = .ok (.getfield 29, 3) := by decide +kernel
theorem d_Mt_takeBlock_83 : decode b_Mt_takeBlock 83 = .ok (.iload 5, 2) := by decide +kernel
theorem d_Mt_takeBlock_85 : decode b_Mt_takeBlock 85 = .ok (.iload_n 2, 1) := by decide +kernel
theorem d_Mt_takeBlock_86 : decode b_Mt_takeBlock 86 = .ok (.invokestatic 52, 3) := by decide +kernel
theorem d_Mt_takeBlock_89 : decode b_Mt_takeBlock 89 = .ok (.aload_n 0, 1) := by decide +kernel
theorem d_Mt_takeBlock_90 : decode b_Mt_takeBlock 90 = .ok (.getfield 26, 3) := by decide +kernel
theorem d_Mt_takeBlock_93 : decode b_Mt_takeBlock 93 = .ok (.iload_n 3, 1) := by decide +kernel
theorem d_Mt_takeBlock_94 : decode b_Mt_takeBlock 94 = .ok (.dup2, 1) := by decide +kernel
theorem d_Mt_takeBlock_95 : decode b_Mt_takeBlock 95 = .ok (.iaload, 1) := by decide +kernel
theorem d_Mt_takeBlock_96 : decode b_Mt_takeBlock 96 = .ok (.iconst 1, 1) := by decide +kernel
theorem d_Mt_takeBlock_97 : decode b_Mt_takeBlock 97 = .ok (.iload 4, 2) := by decide +kernel
theorem d_Mt_takeBlock_99 : decode b_Mt_takeBlock 99 = .ok (.ishl, 1) := by decide +kernel
theorem d_Mt_takeBlock_100 : decode b_Mt_takeBlock 100 = .ok (.ior, 1) := by decide +kernel
theorem d_Mt_takeBlock_101 : decode b_Mt_takeBlock 101 = .ok (.iastore, 1) := by decide +kernel
theorem d_Mt_takeBlock_102 : decode b_Mt_takeBlock 102 = .ok (.iconst 1, 1) := by decide +kernel
theorem d_Mt_takeBlock_103 : decode b_Mt_takeBlock 103 = .ok (.ireturn, 1) := by decide +kernel
theorem d_Mt_isListed_0 : decode b_Mt_isListed 0 = .ok (.iload_n 1, 1) := by decide +kernel
theorem d_Mt_isListed_1 : decode b_Mt_isListed 1 = .ok (.ifCond .lt 22, 3) := by decide +kernel
theorem d_Mt_isListed_4 : decode b_Mt_isListed 4 = .ok (.iload_n 1, 1) := by decide +kernel
theorem d_Mt_isListed_5 : decode b_Mt_isListed 5 = .ok (.bipush 12, 2) := by decide +kernel
theorem d_Mt_isListed_7 : decode b_Mt_isListed 7 = .ok (.if_icmp .ge 16, 3) := by decide +kernel
theorem d_Mt_isListed_10 : decode b_Mt_isListed 10 = .ok (.aload_n 0, 1) := by decide +kernel
theorem d_Mt_isListed_11 : decode b_Mt_isListed 11 = .ok (.getfield 19, 3) := by decide +kernel
theorem d_Mt_isListed_14 : decode b_Mt_isListed 14 = .ok (.iload_n 1, 1) := by decide +kernel
theorem d_Mt_isListed_15 : decode b_Mt_isListed 15 = .ok (.iaload, 1) := by decide +kernel
theorem d_Mt_isListed_16 : decode b_Mt_isListed 16 = .ok (.ifCond .le 7, 3) := by decide +kernel
theorem d_Mt_isListed_19 : decode b_Mt_isListed 19 = .ok (.iconst 1, 1) := by decide +kernel
theorem d_Mt_isListed_20 : decode b_Mt_isListed 20 = .ok (.goto 4, 3) := by decide +kernel
theorem d_Mt_isListed_23 : decode b_Mt_isListed 23 = .ok (.iconst 0, 1) := by decide +kernel
theorem d_Mt_isListed_24 : decode b_Mt_isListed 24 = .ok (.ireturn, 1) := by decide +kernel
theorem d_Mt_blocksHeld_0 : decode b_Mt_blocksHeld 0 = .ok (.aload_n 0, 1) := by decide +kernel
theorem d_Mt_blocksHeld_1 : decode b_Mt_blocksHeld 1 = .ok (.getfield 26, 3) := by decide +kernel
theorem d_Mt_blocksHeld_4 : decode b_Mt_blocksHeld 4 = .ok (.iload_n 1, 1) := by decide +kernel
theorem d_Mt_blocksHeld_5 : decode b_Mt_blocksHeld 5 = .ok (.iaload, 1) := by decide +kernel
theorem d_Mt_blocksHeld_6 : decode b_Mt_blocksHeld 6 = .ok (.invokestatic 58, 3) := by decide +kernel
theorem d_Mt_blocksHeld_9 : decode b_Mt_blocksHeld 9 = .ok (.ireturn, 1) := by decide +kernel
theorem d_Mt_obstacle_0 : decode b_Mt_obstacle 0 = .ok (.aload_n 0, 1) := by decide +kernel
theorem d_Mt_obstacle_1 : decode b_Mt_obstacle 1 = .ok (.getfield 9, 3) := by decide +kernel
theorem d_Mt_obstacle_4 : decode b_Mt_obstacle 4 = .ok (.ifCond .ne 6, 3) := by decide +kernel
theorem d_Mt_obstacle_7 : decode b_Mt_obstacle 7 = .ok (.bipush (-6), 2) := by decide +kernel
theorem d_Mt_obstacle_9 : decode b_Mt_obstacle 9 = .ok (.ireturn, 1) := by decide +kernel
theorem d_Mt_obstacle_10 : decode b_Mt_obstacle 10 = .ok (.aload_n 0, 1) := by decide +kernel
theorem d_Mt_obstacle_11 : decode b_Mt_obstacle 11 = .ok (.iload_n 1, 1) := by decide +kernel
theorem d_Mt_obstacle_12 : decode b_Mt_obstacle 12 = .ok (.invokevirtual 40, 3) := by decide +kernel
theorem d_Mt_obstacle_15 : decode b_Mt_obstacle 15 = .ok (.ifCond .ne 6, 3) := by decide +kernel
theorem d_Mt_obstacle_18 : decode b_Mt_obstacle 18 = .ok (.bipush (-2), 2) := by decide +kernel
theorem d_Mt_obstacle_20 : decode b_Mt_obstacle 20 = .ok (.ireturn, 1) := by decide +kernel
theorem d_Mt_obstacle_21 : decode b_Mt_obstacle 21 = .ok (.aload_n 0, 1) := by decide +kernel
theorem d_Mt_obstacle_22 : decode b_Mt_obstacle 22 = .ok (.iload_n 1, 1) := by decide +kernel
theorem d_Mt_obstacle_23 : decode b_Mt_obstacle 23 = .ok (.invokevirtual 63, 3) := by decide +kernel
theorem d_Mt_obstacle_26 : decode b_Mt_obstacle 26 = .ok (.aload_n 0, 1) := by decide +kernel
theorem d_Mt_obstacle_27 : decode b_Mt_obstacle 27 = .ok (.getfield 19, 3) := by decide +kernel
theorem d_Mt_obstacle_30 : decode b_Mt_obstacle 30 = .ok (.iload_n 1, 1) := by decide +kernel
theorem d_Mt_obstacle_31 : decode b_Mt_obstacle 31 = .ok (.iaload, 1) := by decide +kernel
theorem d_Mt_obstacle_32 : decode b_Mt_obstacle 32 = .ok (.invokestatic 44, 3) := by decide +kernel
theorem d_Mt_obstacle_35 : decode b_Mt_obstacle 35 = .ok (.if_icmp .ne 7, 3) := by decide +kernel
theorem d_Mt_obstacle_38 : decode b_Mt_obstacle 38 = .ok (.iconst 0, 1) := by decide +kernel
theorem d_Mt_obstacle_39 : decode b_Mt_obstacle 39 = .ok (.goto 5, 3) := by decide +kernel
theorem d_Mt_obstacle_42 : decode b_Mt_obstacle 42 = .ok (.bipush (-6), 2) := by decide +kernel
theorem d_Mt_obstacle_44 : decode b_Mt_obstacle 44 = .ok (.ireturn, 1) := by decide +kernel
theorem d_Mt_gateway_0 : decode b_Mt_gateway 0 = .ok (.aload_n 0, 1) := by decide +kernel
theorem d_Mt_gateway_1 : decode b_Mt_gateway 1 = .ok (.iconst 0, 1) := by decide +kernel
theorem d_Mt_gateway_2 : decode b_Mt_gateway 2 = .ok (.invokevirtual 66, 3) := by decide +kernel
theorem d_Mt_gateway_5 : decode b_Mt_gateway 5 = .ok (.istore_n 1, 1) := by decide +kernel
theorem d_Mt_gateway_6 : decode b_Mt_gateway 6 = .ok (.iload_n 1, 1) := by decide +kernel
theorem d_Mt_gateway_7 : decode b_Mt_gateway 7 = .ok (.ifCond .ge 5, 3) := by decide +kernel
theorem d_Mt_gateway_10 : decode b_Mt_gateway 10 = .ok (.iload_n 1, 1) := by decide +kernel
theorem d_Mt_gateway_11 : decode b_Mt_gateway 11 = .ok (.ireturn, 1) := by decide +kernel
theorem d_Mt_gateway_12 : decode b_Mt_gateway 12 = .ok (.aload_n 0, 1) := by decide +kernel
theorem d_Mt_gateway_13 : decode b_Mt_gateway 13 = .ok (.iconst 0, 1) := by decide +kernel
theorem d_Mt_gateway_14 : decode b_Mt_gateway 14 = .ok (.aload_n 0, 1) := by decide +kernel
theorem d_Mt_gateway_15 : decode b_Mt_gateway 15 = .ok (.getfield 19, 3) := by decide +kernel
theorem d_Mt_gateway_18 : decode b_Mt_gateway 18 = .ok (.iconst 0, 1) := by decide +kernel
theorem d_Mt_gateway_19 : decode b_Mt_gateway 19 = .ok (.iaload, 1) := by decide +kernel
theorem d_Mt_gateway_20 : decode b_Mt_gateway 20 = .ok (.invokevirtual 69, 3) := by decide +kernel
theorem d_Mt_gateway_23 : decode b_Mt_gateway 23 = .ok (.ifCond .eq 16, 3) := by decide +kernel
theorem d_Mt_gateway_26 : decode b_Mt_gateway 26 = .ok (.aload_n 0, 1) := by decide +kernel
theorem d_Mt_gateway_27 : decode b_Mt_gateway 27 = .ok (.iconst 0, 1) := by decide +kernel
theorem d_Mt_gateway_28 : decode b_Mt_gateway 28 = .ok (.invokevirtual 73, 3) := by decide +kernel
theorem d_Mt_gateway_31 : decode b_Mt_gateway 31 = .ok (.iconst 1, 1) := by decide +kernel
theorem d_Mt_gateway_32 : decode b_Mt_gateway 32 = .ok (.if_icmp .ne 7, 3) := by decide +kernel
theorem d_Mt_gateway_35 : decode b_Mt_gateway 35 = .ok (.iconst 0, 1) := by decide +kernel
theorem d_Mt_gateway_36 : decode b_Mt_gateway 36 = .ok (.goto 5, 3) := by decide +kernel
theorem d_Mt_gateway_39 : decode b_Mt_gateway 39 = .ok (.bipush (-2), 2) := by decide +kernel
theorem d_Mt_gateway_41 : decode b_Mt_gateway 41 = .ok (.ireturn, 1) := by decide +kernel
theorem d_Mt_enter_0 : decode b_Mt_enter 0 = .ok (.aload_n 0, 1) := by decide +kernel
theorem d_Mt_enter_1 : decode b_Mt_enter 1 = .ok (.iload_n 1, 1) := by decide +kernel
theorem d_Mt_enter_2 : decode b_Mt_enter 2 = .ok (.invokevirtual 76, 3) := by decide +kernel
theorem d_Mt_enter_5 : decode b_Mt_enter 5 = .ok (.ifCond .ne 6, 3) := by decide +kernel
theorem d_Mt_enter_8 : decode b_Mt_enter 8 = .ok (.bipush (-2), 2) := by decide +kernel
theorem d_Mt_enter_10 : decode b_Mt_enter 10 = .ok (.ireturn, 1) := by decide +kernel
theorem d_Mt_enter_11 : decode b_Mt_enter 11 = .ok (.aload_n 0, 1) := by decide +kernel
theorem d_Mt_enter_12 : decode b_Mt_enter 12 = .ok (.iload_n 1, 1) := by decide +kernel
theorem d_Mt_enter_13 : decode b_Mt_enter 13 = .ok (.invokevirtual 79, 3) := by decide +kernel
theorem d_Mt_enter_16 : decode b_Mt_enter 16 = .ok (.iconst 4, 1) := by decide +kernel
theorem d_Mt_enter_17 : decode b_Mt_enter 17 = .ok (.idiv, 1) := by decide +kernel
theorem d_Mt_enter_18 : decode b_Mt_enter 18 = .ok (.istore_n 3, 1) := by decide +kernel
theorem d_Mt_enter_19 : decode b_Mt_enter 19 = .ok (.iconst 0, 1) := by decide +kernel
theorem d_Mt_enter_20 : decode b_Mt_enter 20 = .ok (.istore 4, 2) := by decide +kernel
theorem d_Mt_enter_22 : decode b_Mt_enter 22 = .ok (.iload 4, 2) := by decide +kernel
theorem d_Mt_enter_24 : decode b_Mt_enter 24 = .ok (.iload_n 3, 1) := by decide +kernel
theorem d_Mt_enter_25 : decode b_Mt_enter 25 = .ok (.if_icmp .ge 53, 3) := by decide +kernel
theorem d_Mt_enter_28 : decode b_Mt_enter 28 = .ok (.iload_n 1, 1) := by decide +kernel
theorem d_Mt_enter_29 : decode b_Mt_enter 29 = .ok (.iconst 3, 1) := by decide +kernel
theorem d_Mt_enter_30 : decode b_Mt_enter 30 = .ok (.iadd, 1) := by decide +kernel
theorem d_Mt_enter_31 : decode b_Mt_enter 31 = .ok (.iconst 4, 1) := by decide +kernel
theorem d_Mt_enter_32 : decode b_Mt_enter 32 = .ok (.iload 4, 2) := by decide +kernel
theorem d_Mt_enter_34 : decode b_Mt_enter 34 = .ok (.imul, 1) := by decide +kernel
theorem d_Mt_enter_35 : decode b_Mt_enter 35 = .ok (.iadd, 1) := by decide +kernel
theorem d_Mt_enter_36 : decode b_Mt_enter 36 = .ok (.istore 5, 2) := by decide +kernel
theorem d_Mt_enter_38 : decode b_Mt_enter 38 = .ok (.aload_n 0, 1) := by decide +kernel
theorem d_Mt_enter_39 : decode b_Mt_enter 39 = .ok (.getfield 29, 3) := by decide +kernel
theorem d_Mt_enter_42 : decode b_Mt_enter 42 = .ok (.iload 5, 2) := by decide +kernel
theorem d_Mt_enter_44 : decode b_Mt_enter 44 = .ok (.iaload, 1) := by decide +kernel
theorem d_Mt_enter_45 : decode b_Mt_enter 45 = .ok (.iload_n 2, 1) := by decide +kernel
theorem d_Mt_enter_46 : decode b_Mt_enter 46 = .ok (.if_icmp .ne 26, 3) := by decide +kernel
theorem d_Mt_enter_49 : decode b_Mt_enter 49 = .ok (.aload_n 0, 1) := by decide +kernel
theorem d_Mt_enter_50 : decode b_Mt_enter 50 = .ok (.aload_n 0, 1) := by decide +kernel
theorem d_Mt_enter_51 : decode b_Mt_enter 51 = .ok (.getfield 29, 3) := by decide +kernel
theorem d_Mt_enter_54 : decode b_Mt_enter 54 = .ok (.iload 5, 2) := by decide +kernel
theorem d_Mt_enter_56 : decode b_Mt_enter 56 = .ok (.iconst 2, 1) := by decide +kernel
theorem d_Mt_enter_57 : decode b_Mt_enter 57 = .ok (.iadd, 1) := by decide +kernel
theorem d_Mt_enter_58 : decode b_Mt_enter 58 = .ok (.iaload, 1) := by decide +kernel
theorem d_Mt_enter_59 : decode b_Mt_enter 59 = .ok (.aload_n 0, 1) := by decide +kernel
theorem d_Mt_enter_60 : decode b_Mt_enter 60 = .ok (.getfield 29, 3) := by decide +kernel
theorem d_Mt_enter_63 : decode b_Mt_enter 63 = .ok (.iload 5, 2) := by decide +kernel
theorem d_Mt_enter_65 : decode b_Mt_enter 65 = .ok (.iconst 3, 1) := by decide +kernel
theorem d_Mt_enter_66 : decode b_Mt_enter 66 = .ok (.iadd, 1) := by decide +kernel
theorem d_Mt_enter_67 : decode b_Mt_enter 67 = .ok (.iaload, 1) := by decide +kernel
theorem d_Mt_enter_68 : decode b_Mt_enter 68 = .ok (.invokevirtual 82, 3) := by decide +kernel
theorem d_Mt_enter_71 : decode b_Mt_enter 71 = .ok (.ireturn, 1) := by decide +kernel
theorem d_Mt_enter_72 : decode b_Mt_enter 72 = .ok (.iinc 4 1, 3) := by decide +kernel
theorem d_Mt_enter_75 : decode b_Mt_enter 75 = .ok (.goto (-53), 3) := by decide +kernel
theorem d_Mt_enter_78 : decode b_Mt_enter 78 = .ok (.bipush (-2), 2) := by decide +kernel
theorem d_Mt_enter_80 : decode b_Mt_enter 80 = .ok (.ireturn, 1) := by decide +kernel
theorem d_Mt_messageWithKey_0 : decode b_Mt_messageWithKey 0 = .ok (.aload_n 0, 1) := by decide +kernel
theorem d_Mt_messageWithKey_1 : decode b_Mt_messageWithKey 1 = .ok (.iload_n 1, 1) := by decide +kernel
theorem d_Mt_messageWithKey_2 : decode b_Mt_messageWithKey 2 = .ok (.invokevirtual 66, 3) := by decide +kernel
theorem d_Mt_messageWithKey_5 : decode b_Mt_messageWithKey 5 = .ok (.istore_n 3, 1) := by decide +kernel
theorem d_Mt_messageWithKey_6 : decode b_Mt_messageWithKey 6 = .ok (.iload_n 3, 1) := by decide +kernel
theorem d_Mt_messageWithKey_7 : decode b_Mt_messageWithKey 7 = .ok (.ifCond .ge 5, 3) := by decide +kernel
theorem d_Mt_messageWithKey_10 : decode b_Mt_messageWithKey 10 = .ok (.iload_n 3, 1) := by decide +kernel
theorem d_Mt_messageWithKey_11 : decode b_Mt_messageWithKey 11 = .ok (.ireturn, 1) := by decide +kernel
theorem d_Mt_messageWithKey_12 : decode b_Mt_messageWithKey 12 = .ok (.iload_n 1, 1) := by decide +kernel
theorem d_Mt_messageWithKey_13 : decode b_Mt_messageWithKey 13 = .ok (.bipush 48, 2) := by decide +kernel
theorem d_Mt_messageWithKey_15 : decode b_Mt_messageWithKey 15 = .ok (.imul, 1) := by decide +kernel
theorem d_Mt_messageWithKey_16 : decode b_Mt_messageWithKey 16 = .ok (.istore 4, 2) := by decide +kernel
theorem d_Mt_messageWithKey_18 : decode b_Mt_messageWithKey 18 = .ok (.iload 4, 2) := by decide +kernel
theorem d_Mt_messageWithKey_20 : decode b_Mt_messageWithKey 20 = .ok (.aload_n 0, 1) := by decide +kernel
theorem d_Mt_messageWithKey_21 : decode b_Mt_messageWithKey 21 = .ok (.getfield 19, 3) := by decide +kernel
theorem d_Mt_messageWithKey_24 : decode b_Mt_messageWithKey 24 = .ok (.iload_n 1, 1) := by decide +kernel
theorem d_Mt_messageWithKey_25 : decode b_Mt_messageWithKey 25 = .ok (.iaload, 1) := by decide +kernel
theorem d_Mt_messageWithKey_26 : decode b_Mt_messageWithKey 26 = .ok (.iadd, 1) := by decide +kernel
theorem d_Mt_messageWithKey_27 : decode b_Mt_messageWithKey 27 = .ok (.istore 5, 2) := by decide +kernel
theorem d_Mt_messageWithKey_29 : decode b_Mt_messageWithKey 29 = .ok (.iconst 0, 1) := by decide +kernel
theorem d_Mt_messageWithKey_30 : decode b_Mt_messageWithKey 30 = .ok (.istore 6, 2) := by decide +kernel
theorem d_Mt_messageWithKey_32 : decode b_Mt_messageWithKey 32 = .ok (.iload 6, 2) := by decide +kernel
theorem d_Mt_messageWithKey_34 : decode b_Mt_messageWithKey 34 = .ok (.bipush 48, 2) := by decide +kernel
theorem d_Mt_messageWithKey_36 : decode b_Mt_messageWithKey 36 = .ok (.if_icmp .ge 49, 3) := by decide +kernel
theorem d_Mt_messageWithKey_39 : decode b_Mt_messageWithKey 39 = .ok (.aload_n 0, 1) := by decide +kernel
theorem d_Mt_messageWithKey_40 : decode b_Mt_messageWithKey 40 = .ok (.iload 4, 2) := by decide +kernel
theorem d_Mt_messageWithKey_42 : decode b_Mt_messageWithKey 42 = .ok (.iload 5, 2) := by decide +kernel
theorem d_Mt_messageWithKey_44 : decode b_Mt_messageWithKey 44 = .ok (.invokevirtual 69, 3) := by decide +kernel
theorem d_Mt_messageWithKey_47 : decode b_Mt_messageWithKey 47 = .ok (.ifCond .eq 38, 3) := by decide +kernel
theorem d_Mt_messageWithKey_50 : decode b_Mt_messageWithKey 50 = .ok (.aload_n 0, 1) := by decide +kernel
theorem d_Mt_messageWithKey_51 : decode b_Mt_messageWithKey 51 = .ok (.getfield 29, 3) := by decide +kernel
theorem d_Mt_messageWithKey_54 : decode b_Mt_messageWithKey 54 = .ok (.iload 4, 2) := by decide +kernel
theorem d_Mt_messageWithKey_56 : decode b_Mt_messageWithKey 56 = .ok (.iconst 1, 1) := by decide +kernel
theorem d_Mt_messageWithKey_57 : decode b_Mt_messageWithKey 57 = .ok (.iadd, 1) := by decide +kernel
theorem d_Mt_messageWithKey_58 : decode b_Mt_messageWithKey 58 = .ok (.iaload, 1) := by decide +kernel
theorem d_Mt_messageWithKey_59 : decode b_Mt_messageWithKey 59 = .ok (.iload_n 2, 1) := by decide +kernel
theorem d_Mt_messageWithKey_60 : decode b_Mt_messageWithKey 60 = .ok (.if_icmp .ne 6, 3) := by decide +kernel
theorem d_Mt_messageWithKey_63 : decode b_Mt_messageWithKey 63 = .ok (.iload 4, 2) := by decide +kernel
theorem d_Mt_messageWithKey_65 : decode b_Mt_messageWithKey 65 = .ok (.ireturn, 1) := by decide +kernel
theorem d_Mt_messageWithKey_66 : decode b_Mt_messageWithKey 66 = .ok (.iload 4, 2) := by decide +kernel
theorem d_Mt_messageWithKey_68 : decode b_Mt_messageWithKey 68 = .ok (.iconst 3, 1) := by decide +kernel
theorem d_Mt_messageWithKey_69 : decode b_Mt_messageWithKey 69 = .ok (.aload_n 0, 1) := by decide +kernel
theorem d_Mt_messageWithKey_70 : decode b_Mt_messageWithKey 70 = .ok (.iload 4, 2) := by decide +kernel
theorem d_Mt_messageWithKey_72 : decode b_Mt_messageWithKey 72 = .ok (.invokevirtual 79, 3) := by decide +kernel
theorem d_Mt_messageWithKey_75 : decode b_Mt_messageWithKey 75 = .ok (.iadd, 1) := by decide +kernel
theorem d_Mt_messageWithKey_76 : decode b_Mt_messageWithKey 76 = .ok (.iadd, 1) := by decide +kernel
theorem d_Mt_messageWithKey_77 : decode b_Mt_messageWithKey 77 = .ok (.istore 4, 2) := by decide +kernel
theorem d_Mt_messageWithKey_79 : decode b_Mt_messageWithKey 79 = .ok (.iinc 6 1, 3) := by decide +kernel
theorem d_Mt_messageWithKey_82 : decode b_Mt_messageWithKey 82 = .ok (.goto (-50), 3) := by decide +kernel
theorem d_Mt_messageWithKey_85 : decode b_Mt_messageWithKey 85 = .ok (.bipush (-2), 2) := by decide +kernel
theorem d_Mt_messageWithKey_87 : decode b_Mt_messageWithKey 87 = .ok (.ireturn, 1) := by decide +kernel
theorem d_Mt_fits_0 : decode b_Mt_fits 0 = .ok (.iload_n 1, 1) := by decide +kernel
theorem d_Mt_fits_1 : decode b_Mt_fits 1 = .ok (.iconst 3, 1) := by decide +kernel
theorem d_Mt_fits_2 : decode b_Mt_fits 2 = .ok (.iadd, 1) := by decide +kernel
theorem d_Mt_fits_3 : decode b_Mt_fits 3 = .ok (.iload_n 2, 1) := by decide +kernel
theorem d_Mt_fits_4 : decode b_Mt_fits 4 = .ok (.if_icmp .gt 20, 3) := by decide +kernel
theorem d_Mt_fits_7 : decode b_Mt_fits 7 = .ok (.iload_n 1, 1) := by decide +kernel
theorem d_Mt_fits_8 : decode b_Mt_fits 8 = .ok (.iconst 3, 1) := by decide +kernel
theorem d_Mt_fits_9 : decode b_Mt_fits 9 = .ok (.iadd, 1) := by decide +kernel
theorem d_Mt_fits_10 : decode b_Mt_fits 10 = .ok (.aload_n 0, 1) := by decide +kernel
theorem d_Mt_fits_11 : decode b_Mt_fits 11 = .ok (.iload_n 1, 1) := by decide +kernel
theorem d_Mt_fits_12 : decode b_Mt_fits 12 = .ok (.invokevirtual 79, 3) := by decide +kernel
theorem d_Mt_fits_15 : decode b_Mt_fits 15 = .ok (.iadd, 1) := by decide +kernel
theorem d_Mt_fits_16 : decode b_Mt_fits 16 = .ok (.iload_n 2, 1) := by decide +kernel
theorem d_Mt_fits_17 : decode b_Mt_fits 17 = .ok (.if_icmp .gt 7, 3) := by decide +kernel
theorem d_Mt_fits_20 : decode b_Mt_fits 20 = .ok (.iconst 1, 1) := by decide +kernel
theorem d_Mt_fits_21 : decode b_Mt_fits 21 = .ok (.goto 4, 3) := by decide +kernel
theorem d_Mt_fits_24 : decode b_Mt_fits 24 = .ok (.iconst 0, 1) := by decide +kernel
theorem d_Mt_fits_25 : decode b_Mt_fits 25 = .ok (.ireturn, 1) := by decide +kernel
theorem d_Mt_isDirectoryAt_0 : decode b_Mt_isDirectoryAt 0 = .ok (.aload_n 0, 1) := by decide +kernel
theorem d_Mt_isDirectoryAt_1 : decode b_Mt_isDirectoryAt 1 = .ok (.iload_n 1, 1) := by decide +kernel
theorem d_Mt_isDirectoryAt_2 : decode b_Mt_isDirectoryAt 2 = .ok (.invokevirtual 73, 3) := by decide +kernel
theorem d_Mt_isDirectoryAt_5 : decode b_Mt_isDirectoryAt 5 = .ok (.iconst 1, 1) := by decide +kernel
theorem d_Mt_isDirectoryAt_6 : decode b_Mt_isDirectoryAt 6 = .ok (.if_icmp .eq 12, 3) := by decide +kernel
theorem d_Mt_isDirectoryAt_9 : decode b_Mt_isDirectoryAt 9 = .ok (.aload_n 0, 1) := by decide +kernel
theorem d_Mt_isDirectoryAt_10 : decode b_Mt_isDirectoryAt 10 = .ok (.iload_n 1, 1) := by decide +kernel
theorem d_Mt_isDirectoryAt_11 : decode b_Mt_isDirectoryAt 11 = .ok (.invokevirtual 73, 3) := by decide +kernel
theorem d_Mt_isDirectoryAt_14 : decode b_Mt_isDirectoryAt 14 = .ok (.iconst 2, 1) := by decide +kernel
theorem d_Mt_isDirectoryAt_15 : decode b_Mt_isDirectoryAt 15 = .ok (.if_icmp .ne 7, 3) := by decide +kernel
theorem d_Mt_isDirectoryAt_18 : decode b_Mt_isDirectoryAt 18 = .ok (.iconst 1, 1) := by decide +kernel
theorem d_Mt_isDirectoryAt_19 : decode b_Mt_isDirectoryAt 19 = .ok (.goto 4, 3) := by decide +kernel
theorem d_Mt_isDirectoryAt_22 : decode b_Mt_isDirectoryAt 22 = .ok (.iconst 0, 1) := by decide +kernel
theorem d_Mt_isDirectoryAt_23 : decode b_Mt_isDirectoryAt 23 = .ok (.ireturn, 1) := by decide +kernel
theorem d_Mt_kindAt_0 : decode b_Mt_kindAt 0 = .ok (.aload_n 0, 1) := by decide +kernel
theorem d_Mt_kindAt_1 : decode b_Mt_kindAt 1 = .ok (.getfield 29, 3) := by decide +kernel
theorem d_Mt_kindAt_4 : decode b_Mt_kindAt 4 = .ok (.iload_n 1, 1) := by decide +kernel
theorem d_Mt_kindAt_5 : decode b_Mt_kindAt 5 = .ok (.iaload, 1) := by decide +kernel
theorem d_Mt_kindAt_6 : decode b_Mt_kindAt 6 = .ok (.ireturn, 1) := by decide +kernel
theorem d_Mt_lengthAt_0 : decode b_Mt_lengthAt 0 = .ok (.aload_n 0, 1) := by decide +kernel
theorem d_Mt_lengthAt_1 : decode b_Mt_lengthAt 1 = .ok (.getfield 29, 3) := by decide +kernel
theorem d_Mt_lengthAt_4 : decode b_Mt_lengthAt 4 = .ok (.iload_n 1, 1) := by decide +kernel
theorem d_Mt_lengthAt_5 : decode b_Mt_lengthAt 5 = .ok (.iconst 2, 1) := by decide +kernel
theorem d_Mt_lengthAt_6 : decode b_Mt_lengthAt 6 = .ok (.iadd, 1) := by decide +kernel
theorem d_Mt_lengthAt_7 : decode b_Mt_lengthAt 7 = .ok (.iaload, 1) := by decide +kernel
theorem d_Mt_lengthAt_8 : decode b_Mt_lengthAt 8 = .ok (.ireturn, 1) := by decide +kernel
theorem d_Mt_contentAt_0 : decode b_Mt_contentAt 0 = .ok (.aload_n 0, 1) := by decide +kernel
theorem d_Mt_contentAt_1 : decode b_Mt_contentAt 1 = .ok (.getfield 29, 3) := by decide +kernel
theorem d_Mt_contentAt_4 : decode b_Mt_contentAt 4 = .ok (.iload_n 1, 1) := by decide +kernel
theorem d_Mt_contentAt_5 : decode b_Mt_contentAt 5 = .ok (.iconst 3, 1) := by decide +kernel
theorem d_Mt_contentAt_6 : decode b_Mt_contentAt 6 = .ok (.iadd, 1) := by decide +kernel
theorem d_Mt_contentAt_7 : decode b_Mt_contentAt 7 = .ok (.iload_n 2, 1) := by decide +kernel
theorem d_Mt_contentAt_8 : decode b_Mt_contentAt 8 = .ok (.iadd, 1) := by decide +kernel
theorem d_Mt_contentAt_9 : decode b_Mt_contentAt 9 = .ok (.iaload, 1) := by decide +kernel
theorem d_Mt_contentAt_10 : decode b_Mt_contentAt 10 = .ok (.ireturn, 1) := by decide +kernel
theorem d_Rc_init_0 : decode b_Rc_init 0 = .ok (.aload_n 0, 1) := by decide +kernel
theorem d_Rc_init_1 : decode b_Rc_init 1 = .ok (.invokespecial 3, 3) := by decide +kernel
theorem d_Rc_init_4 : decode b_Rc_init 4 = .ok (.aload_n 0, 1) := by decide +kernel
theorem d_Rc_init_5 : decode b_Rc_init 5 = .ok (.new 9, 3) := by decide +kernel
theorem d_Rc_init_8 : decode b_Rc_init 8 = .ok (.dup, 1) := by decide +kernel
theorem d_Rc_init_9 : decode b_Rc_init 9 = .ok (.invokespecial 11, 3) := by decide +kernel
theorem d_Rc_init_12 : decode b_Rc_init 12 = .ok (.putfield 12, 3) := by decide +kernel
theorem d_Rc_init_15 : decode b_Rc_init 15 = .ok (.aload_n 0, 1) := by decide +kernel
theorem d_Rc_init_16 : decode b_Rc_init 16 = .ok (.bipush 6, 2) := by decide +kernel
theorem d_Rc_init_18 : decode b_Rc_init 18 = .ok (.newarray .int, 2) := by decide +kernel
theorem d_Rc_init_20 : decode b_Rc_init 20 = .ok (.putfield 18, 3) := by decide +kernel
theorem d_Rc_init_23 : decode b_Rc_init 23 = .ok (.aload_n 0, 1) := by decide +kernel
theorem d_Rc_init_24 : decode b_Rc_init 24 = .ok (.sipush 257, 3) := by decide +kernel
theorem d_Rc_init_27 : decode b_Rc_init 27 = .ok (.newarray .int, 2) := by decide +kernel
theorem d_Rc_init_29 : decode b_Rc_init 29 = .ok (.putfield 22, 3) := by decide +kernel
theorem d_Rc_init_32 : decode b_Rc_init 32 = .ok (.aload_n 0, 1) := by decide +kernel
theorem d_Rc_init_33 : decode b_Rc_init 33 = .ok (.iconst 0, 1) := by decide +kernel
theorem d_Rc_init_34 : decode b_Rc_init 34 = .ok (.putfield 25, 3) := by decide +kernel
theorem d_Rc_init_37 : decode b_Rc_init 37 = .ok (.aload_n 0, 1) := by decide +kernel
theorem d_Rc_init_38 : decode b_Rc_init 38 = .ok (.iconst (-1), 1) := by decide +kernel
theorem d_Rc_init_39 : decode b_Rc_init 39 = .ok (.putfield 29, 3) := by decide +kernel
theorem d_Rc_init_42 : decode b_Rc_init 42 = .ok (.return_, 1) := by decide +kernel
theorem d_Rc_reset_0 : decode b_Rc_reset 0 = .ok (.aload_n 0, 1) := by decide +kernel
theorem d_Rc_reset_1 : decode b_Rc_reset 1 = .ok (.getfield 12, 3) := by decide +kernel
theorem d_Rc_reset_4 : decode b_Rc_reset 4 = .ok (.invokevirtual 32, 3) := by decide +kernel
theorem d_Rc_reset_7 : decode b_Rc_reset 7 = .ok (.aload_n 0, 1) := by decide +kernel
theorem d_Rc_reset_8 : decode b_Rc_reset 8 = .ok (.getfield 18, 3) := by decide +kernel
theorem d_Rc_reset_11 : decode b_Rc_reset 11 = .ok (.iconst 0, 1) := by decide +kernel
theorem d_Rc_reset_12 : decode b_Rc_reset 12 = .ok (.invokestatic 35, 3) := by decide +kernel
theorem d_Rc_reset_15 : decode b_Rc_reset 15 = .ok (.aload_n 0, 1) := by decide +kernel
theorem d_Rc_reset_16 : decode b_Rc_reset 16 = .ok (.iconst 0, 1) := by decide +kernel
theorem d_Rc_reset_17 : decode b_Rc_reset 17 = .ok (.putfield 25, 3) := by decide +kernel
theorem d_Rc_reset_20 : decode b_Rc_reset 20 = .ok (.aload_n 0, 1) := by decide +kernel
theorem d_Rc_reset_21 : decode b_Rc_reset 21 = .ok (.iconst (-1), 1) := by decide +kernel
theorem d_Rc_reset_22 : decode b_Rc_reset 22 = .ok (.putfield 29, 3) := by decide +kernel
theorem d_Rc_reset_25 : decode b_Rc_reset 25 = .ok (.return_, 1) := by decide +kernel
theorem d_Rc_takePacket_0 : decode b_Rc_takePacket 0 = .ok (.aload_n 1, 1) := by decide +kernel
theorem d_Rc_takePacket_1 : decode b_Rc_takePacket 1 = .ok (.iconst 1, 1) := by decide +kernel
theorem d_Rc_takePacket_2 : decode b_Rc_takePacket 2 = .ok (.iaload, 1) := by decide +kernel
theorem d_Rc_takePacket_3 : decode b_Rc_takePacket 3 = .ok (.istore_n 2, 1) := by decide +kernel
theorem d_Rc_takePacket_4 : decode b_Rc_takePacket 4 = .ok (.aload_n 1, 1) := by decide +kernel
theorem d_Rc_takePacket_5 : decode b_Rc_takePacket 5 = .ok (.iconst 0, 1) := by decide +kernel
theorem d_Rc_takePacket_6 : decode b_Rc_takePacket 6 = .ok (.iaload, 1) := by decide +kernel
theorem d_Rc_takePacket_7 : decode b_Rc_takePacket 7 = .ok (.bipush 71, 2) := by decide +kernel
theorem d_Rc_takePacket_9 : decode b_Rc_takePacket 9 = .ok (.if_icmp .ne 11, 3) := by decide +kernel
theorem d_Rc_takePacket_12 : decode b_Rc_takePacket 12 = .ok (.iload_n 2, 1) := by decide +kernel
theorem d_Rc_takePacket_13 : decode b_Rc_takePacket 13 = .ok (.sipush 176, 3) := by decide +kernel
theorem d_Rc_takePacket_16 : decode b_Rc_takePacket 16 = .ok (.iand, 1) := by decide +kernel
theorem d_Rc_takePacket_17 : decode b_Rc_takePacket 17 = .ok (.ifCond .eq 14, 3) := by decide +kernel
theorem d_Rc_takePacket_20 : decode b_Rc_takePacket 20 = .ok (.aload_n 0, 1) := by decide +kernel
theorem d_Rc_takePacket_21 : decode b_Rc_takePacket 21 = .ok (.getfield 18, 3) := by decide +kernel
theorem d_Rc_takePacket_24 : decode b_Rc_takePacket 24 = .ok (.iconst 5, 1) := by decide +kernel
theorem d_Rc_takePacket_25 : decode b_Rc_takePacket 25 = .ok (.dup2, 1) := by decide +kernel
theorem d_Rc_takePacket_26 : decode b_Rc_takePacket 26 = .ok (.iaload, 1) := by decide +kernel
theorem d_Rc_takePacket_27 : decode b_Rc_takePacket 27 = .ok (.iconst 1, 1) := by decide +kernel
theorem d_Rc_takePacket_28 : decode b_Rc_takePacket 28 = .ok (.iadd, 1) := by decide +kernel
theorem d_Rc_takePacket_29 : decode b_Rc_takePacket 29 = .ok (.iastore, 1) := by decide +kernel
theorem d_Rc_takePacket_30 : decode b_Rc_takePacket 30 = .ok (.return_, 1) := by decide +kernel
theorem d_Rc_takePacket_31 : decode b_Rc_takePacket 31 = .ok (.iload_n 2, 1) := by decide +kernel
theorem d_Rc_takePacket_32 : decode b_Rc_takePacket 32 = .ok (.bipush 15, 2) := by decide +kernel
theorem d_Rc_takePacket_34 : decode b_Rc_takePacket 34 = .ok (.iand, 1) := by decide +kernel
theorem d_Rc_takePacket_35 : decode b_Rc_takePacket 35 = .ok (.istore_n 3, 1) := by decide +kernel
theorem d_Rc_takePacket_36 : decode b_Rc_takePacket 36 = .ok (.aload_n 0, 1) := by decide +kernel
theorem d_Rc_takePacket_37 : decode b_Rc_takePacket 37 = .ok (.getfield 29, 3) := by decide +kernel
theorem d_Rc_takePacket_40 : decode b_Rc_takePacket 40 = .ok (.iconst (-1), 1) := by decide +kernel
theorem d_Rc_takePacket_41 : decode b_Rc_takePacket 41 = .ok (.if_icmp .eq 20, 3) := by decide +kernel
theorem d_Rc_takePacket_44 : decode b_Rc_takePacket 44 = .ok (.iload_n 3, 1) := by decide +kernel
theorem d_Rc_takePacket_45 : decode b_Rc_takePacket 45 = .ok (.aload_n 0, 1) := by decide +kernel
theorem d_Rc_takePacket_46 : decode b_Rc_takePacket 46 = .ok (.getfield 29, 3) := by decide +kernel
theorem d_Rc_takePacket_49 : decode b_Rc_takePacket 49 = .ok (.iconst 1, 1) := by decide +kernel
theorem d_Rc_takePacket_50 : decode b_Rc_takePacket 50 = .ok (.iadd, 1) := by decide +kernel
theorem d_Rc_takePacket_51 : decode b_Rc_takePacket 51 = .ok (.bipush 15, 2) := by decide +kernel
theorem d_Rc_takePacket_53 : decode b_Rc_takePacket 53 = .ok (.iand, 1) := by decide +kernel
theorem d_Rc_takePacket_54 : decode b_Rc_takePacket 54 = .ok (.if_icmp .eq 7, 3) := by decide +kernel
theorem d_Rc_takePacket_57 : decode b_Rc_takePacket 57 = .ok (.aload_n 0, 1) := by decide +kernel
theorem d_Rc_takePacket_58 : decode b_Rc_takePacket 58 = .ok (.invokevirtual 41, 3) := by decide +kernel
theorem d_Rc_takePacket_61 : decode b_Rc_takePacket 61 = .ok (.aload_n 0, 1) := by decide +kernel
theorem d_Rc_takePacket_62 : decode b_Rc_takePacket 62 = .ok (.iload_n 3, 1) := by decide +kernel
theorem d_Rc_takePacket_63 : decode b_Rc_takePacket 63 = .ok (.putfield 29, 3) := by decide +kernel
theorem d_Rc_takePacket_66 : decode b_Rc_takePacket 66 = .ok (.aload_n 1, 1) := by decide +kernel
theorem d_Rc_takePacket_67 : decode b_Rc_takePacket 67 = .ok (.iconst 2, 1) := by decide +kernel
theorem d_Rc_takePacket_68 : decode b_Rc_takePacket 68 = .ok (.iaload, 1) := by decide +kernel
theorem d_Rc_takePacket_69 : decode b_Rc_takePacket 69 = .ok (.istore 4, 2) := by decide +kernel
theorem d_Rc_takePacket_71 : decode b_Rc_takePacket 71 = .ok (.iload_n 2, 1) := by decide +kernel
theorem d_Rc_takePacket_72 : decode b_Rc_takePacket 72 = .ok (.bipush 64, 2) := by decide +kernel
theorem d_Rc_takePacket_74 : decode b_Rc_takePacket 74 = .ok (.iand, 1) := by decide +kernel
theorem d_Rc_takePacket_75 : decode b_Rc_takePacket 75 = .ok (.ifCond .ne 14, 3) := by decide +kernel
theorem d_Rc_takePacket_78 : decode b_Rc_takePacket 78 = .ok (.aload_n 0, 1) := by decide +kernel
theorem d_Rc_takePacket_79 : decode b_Rc_takePacket 79 = .ok (.aload_n 1, 1) := by decide +kernel
theorem d_Rc_takePacket_80 : decode b_Rc_takePacket 80 = .ok (.iconst 2, 1) := by decide +kernel
theorem d_Rc_takePacket_81 : decode b_Rc_takePacket 81 = .ok (.bipush 16, 2) := by decide +kernel
theorem d_Rc_takePacket_83 : decode b_Rc_takePacket 83 = .ok (.invokevirtual 44, 3) := by decide +kernel
theorem d_Rc_takePacket_86 : decode b_Rc_takePacket 86 = .ok (.goto 42, 3) := by decide +kernel
theorem d_Rc_takePacket_89 : decode b_Rc_takePacket 89 = .ok (.iload 4, 2) := by decide +kernel
theorem d_Rc_takePacket_91 : decode b_Rc_takePacket 91 = .ok (.bipush 13, 2) := by decide +kernel
theorem d_Rc_takePacket_93 : decode b_Rc_takePacket 93 = .ok (.if_icmp .le 10, 3) := by decide +kernel
theorem d_Rc_takePacket_96 : decode b_Rc_takePacket 96 = .ok (.aload_n 0, 1) := by decide +kernel
theorem d_Rc_takePacket_97 : decode b_Rc_takePacket 97 = .ok (.invokevirtual 41, 3) := by decide +kernel
theorem d_Rc_takePacket_100 : decode b_Rc_takePacket 100 = .ok (.goto 28, 3) := by decide +kernel
theorem d_Rc_takePacket_103 : decode b_Rc_takePacket 103 = .ok (.iconst 3, 1) := by decide +kernel
theorem d_Rc_takePacket_104 : decode b_Rc_takePacket 104 = .ok (.iload 4, 2) := by decide +kernel
theorem d_Rc_takePacket_106 : decode b_Rc_takePacket 106 = .ok (.iadd, 1) := by decide +kernel
theorem d_Rc_takePacket_107 : decode b_Rc_takePacket 107 = .ok (.istore 5, 2) := by decide +kernel
theorem d_Rc_takePacket_109 : decode b_Rc_takePacket 109 = .ok (.aload_n 0, 1) := by decide +kernel
theorem d_Rc_takePacket_110 : decode b_Rc_takePacket 110 = .ok (.aload_n 1, 1) := by decide +kernel
theorem d_Rc_takePacket_111 : decode b_Rc_takePacket 111 = .ok (.iconst 3, 1) := by decide +kernel
theorem d_Rc_takePacket_112 : decode b_Rc_takePacket 112 = .ok (.iload 5, 2) := by decide +kernel
theorem d_Rc_takePacket_114 : decode b_Rc_takePacket 114 = .ok (.invokevirtual 44, 3) := by decide +kernel
theorem d_Rc_takePacket_117 : decode b_Rc_takePacket 117 = .ok (.aload_n 0, 1) := by decide +kernel
theorem d_Rc_takePacket_118 : decode b_Rc_takePacket 118 = .ok (.invokevirtual 41, 3) := by decide +kernel
theorem d_Rc_takePacket_121 : decode b_Rc_takePacket 121 = .ok (.aload_n 0, 1) := by decide +kernel
theorem d_Rc_takePacket_122 : decode b_Rc_takePacket 122 = .ok (.aload_n 1, 1) := by decide +kernel
theorem d_Rc_takePacket_123 : decode b_Rc_takePacket 123 = .ok (.iload 5, 2) := by decide +kernel
theorem d_Rc_takePacket_125 : decode b_Rc_takePacket 125 = .ok (.invokevirtual 48, 3) := by decide +kernel
theorem d_Rc_takePacket_128 : decode b_Rc_takePacket 128 = .ok (.return_, 1) := by decide +kernel
theorem d_Rc_continueSection_0 : decode b_Rc_continueSection 0 = .ok (.iload_n 2, 1) := by decide +kernel
theorem d_Rc_continueSection_1 : decode b_Rc_continueSection 1 = .ok (.istore 4, 2) := by decide +kernel
theorem d_Rc_continueSection_3 : decode b_Rc_continueSection 3 = .ok (.iload 4, 2) := by decide +kernel
theorem d_Rc_continueSection_5 : decode b_Rc_continueSection 5 = .ok (.iload_n 3, 1) := by decide +kernel
theorem d_Rc_continueSection_6 : decode b_Rc_continueSection 6 = .ok (.if_icmp .ge 24, 3) := by decide +kernel
theorem d_Rc_continueSection_9 : decode b_Rc_continueSection 9 = .ok (.aload_n 0, 1) := by decide +kernel
theorem d_Rc_continueSection_10 : decode b_Rc_continueSection 10 = .ok (.getfield 25, 3) := by decide +kernel
theorem d_Rc_continueSection_13 : decode b_Rc_continueSection 13 = .ok (.ifCond .le 17, 3) := by decide +kernel
theorem d_Rc_continueSection_16 : decode b_Rc_continueSection 16 = .ok (.aload_n 0, 1) := by decide +kernel
theorem d_Rc_continueSection_17 : decode b_Rc_continueSection 17 = .ok (.aload_n 1, 1) := by decide +kernel
theorem d_Rc_continueSection_18 : decode b_Rc_continueSection 18 = .ok (.iload 4, 2) := by decide +kernel
theorem d_Rc_continueSection_20 : decode b_Rc_continueSection 20 = .ok (.iaload, 1) := by decide +kernel
theorem d_Rc_continueSection_21 : decode b_Rc_continueSection 21 = .ok (.invokevirtual 51, 3) := by decide +kernel
theorem d_Rc_continueSection_24 : decode b_Rc_continueSection 24 = .ok (.iinc 4 1, 3) := by decide +kernel
theorem d_Rc_continueSection_27 : decode b_Rc_continueSection 27 = .ok (.goto (-24), 3) := by decide +kernel
theorem d_Rc_continueSection_30 : decode b_Rc_continueSection 30 = .ok (.return_, 1) := by decide +kernel
theorem d_Rc_beginSections_0 : decode b_Rc_beginSections 0 = .ok (.iload_n 2, 1) := by decide +kernel
theorem d_Rc_beginSections_1 : decode b_Rc_beginSections 1 = .ok (.istore_n 3, 1) := by decide +kernel
theorem d_Rc_beginSections_2 : decode b_Rc_beginSections 2 = .ok (.iload_n 3, 1) := by decide +kernel
theorem d_Rc_beginSections_3 : decode b_Rc_beginSections 3 = .ok (.bipush 16, 2) := by decide +kernel
theorem d_Rc_beginSections_5 : decode b_Rc_beginSections 5 = .ok (.if_icmp .ge 33, 3) := by decide +kernel
theorem d_Rc_beginSections_8 : decode b_Rc_beginSections 8 = .ok (.aload_n 0, 1) := by decide +kernel
theorem d_Rc_beginSections_9 : decode b_Rc_beginSections 9 = .ok (.getfield 25, 3) := by decide +kernel
theorem d_Rc_beginSections_12 : decode b_Rc_beginSections 12 = .ok (.ifCond .ne 13, 3) := by decide +kernel
theorem d_Rc_beginSections_15 : decode b_Rc_beginSections 15 = .ok (.aload_n 1, 1) := by decide +kernel
theorem d_Rc_beginSections_16 : decode b_Rc_beginSections 16 = .ok (.iload_n 3, 1) := by decide +kernel
theorem d_Rc_beginSections_17 : decode b_Rc_beginSections 17 = .ok (.iaload, 1) := by decide +kernel
theorem d_Rc_beginSections_18 : decode b_Rc_beginSections 18 = .ok (.sipush 255, 3) := by decide +kernel
theorem d_Rc_beginSections_21 : decode b_Rc_beginSections 21 = .ok (.if_icmp .ne 4, 3) := by decide +kernel
theorem d_Rc_beginSections_24 : decode b_Rc_beginSections 24 = .ok (.return_, 1) := by decide +kernel
theorem d_Rc_beginSections_25 : decode b_Rc_beginSections 25 = .ok (.aload_n 0, 1) := by decide +kernel
theorem d_Rc_beginSections_26 : decode b_Rc_beginSections 26 = .ok (.aload_n 1, 1) := by decide +kernel
theorem d_Rc_beginSections_27 : decode b_Rc_beginSections 27 = .ok (.iload_n 3, 1) := by decide +kernel
theorem d_Rc_beginSections_28 : decode b_Rc_beginSections 28 = .ok (.iaload, 1) := by decide +kernel
theorem d_Rc_beginSections_29 : decode b_Rc_beginSections 29 = .ok (.invokevirtual 51, 3) := by decide +kernel
theorem d_Rc_beginSections_32 : decode b_Rc_beginSections 32 = .ok (.iinc 3 1, 3) := by decide +kernel
theorem d_Rc_beginSections_35 : decode b_Rc_beginSections 35 = .ok (.goto (-33), 3) := by decide +kernel
theorem d_Rc_beginSections_38 : decode b_Rc_beginSections 38 = .ok (.return_, 1) := by decide +kernel
theorem d_Rc_throwAway_0 : decode b_Rc_throwAway 0 = .ok (.aload_n 0, 1) := by decide +kernel
theorem d_Rc_throwAway_1 : decode b_Rc_throwAway 1 = .ok (.getfield 25, 3) := by decide +kernel
theorem d_Rc_throwAway_4 : decode b_Rc_throwAway 4 = .ok (.ifCond .le 18, 3) := by decide +kernel
theorem d_Rc_throwAway_7 : decode b_Rc_throwAway 7 = .ok (.aload_n 0, 1) := by decide +kernel
theorem d_Rc_throwAway_8 : decode b_Rc_throwAway 8 = .ok (.getfield 18, 3) := by decide +kernel
theorem d_Rc_throwAway_11 : decode b_Rc_throwAway 11 = .ok (.iconst 4, 1) := by decide +kernel
theorem d_Rc_throwAway_12 : decode b_Rc_throwAway 12 = .ok (.dup2, 1) := by decide +kernel
theorem d_Rc_throwAway_13 : decode b_Rc_throwAway 13 = .ok (.iaload, 1) := by decide +kernel
theorem d_Rc_throwAway_14 : decode b_Rc_throwAway 14 = .ok (.iconst 1, 1) := by decide +kernel
theorem d_Rc_throwAway_15 : decode b_Rc_throwAway 15 = .ok (.iadd, 1) := by decide +kernel
theorem d_Rc_throwAway_16 : decode b_Rc_throwAway 16 = .ok (.iastore, 1) := by decide +kernel
theorem d_Rc_throwAway_17 : decode b_Rc_throwAway 17 = .ok (.aload_n 0, 1) := by decide +kernel
theorem d_Rc_throwAway_18 : decode b_Rc_throwAway 18 = .ok (.iconst 0, 1) := by decide +kernel
theorem d_Rc_throwAway_19 : decode b_Rc_throwAway 19 = .ok (.putfield 25, 3) := by decide +kernel
theorem d_Rc_throwAway_22 : decode b_Rc_throwAway 22 = .ok (.return_, 1) := by decide +kernel
theorem d_Rc_collect_0 : decode b_Rc_collect 0 = .ok (.aload_n 0, 1) := by decide +kernel
theorem d_Rc_collect_1 : decode b_Rc_collect 1 = .ok (.getfield 22, 3) := by decide +kernel
theorem d_Rc_collect_4 : decode b_Rc_collect 4 = .ok (.aload_n 0, 1) := by decide +kernel
theorem d_Rc_collect_5 : decode b_Rc_collect 5 = .ok (.getfield 25, 3) := by decide +kernel
theorem d_Rc_collect_8 : decode b_Rc_collect 8 = .ok (.iload_n 1, 1) := by decide +kernel
theorem d_Rc_collect_9 : decode b_Rc_collect 9 = .ok (.iastore, 1) := by decide +kernel
theorem d_Rc_collect_10 : decode b_Rc_collect 10 = .ok (.aload_n 0, 1) := by decide +kernel
theorem d_Rc_collect_11 : decode b_Rc_collect 11 = .ok (.dup, 1) := by decide +kernel
theorem d_Rc_collect_12 : decode b_Rc_collect 12 = .ok (.getfield 25, 3) := by decide +kernel
theorem d_Rc_collect_15 : decode b_Rc_collect 15 = .ok (.iconst 1, 1) := by decide +kernel
theorem d_Rc_collect_16 : decode b_Rc_collect 16 = .ok (.iadd, 1) := by decide +kernel
theorem d_Rc_collect_17 : decode b_Rc_collect 17 = .ok (.putfield 25, 3) := by decide +kernel
theorem d_Rc_collect_20 : decode b_Rc_collect 20 = .ok (.aload_n 0, 1) := by decide +kernel
theorem d_Rc_collect_21 : decode b_Rc_collect 21 = .ok (.getfield 25, 3) := by decide +kernel
theorem d_Rc_collect_24 : decode b_Rc_collect 24 = .ok (.iconst 2, 1) := by decide +kernel
theorem d_Rc_collect_25 : decode b_Rc_collect 25 = .ok (.if_icmp .lt 42, 3) := by decide +kernel
theorem d_Rc_collect_28 : decode b_Rc_collect 28 = .ok (.aload_n 0, 1) := by decide +kernel
theorem d_Rc_collect_29 : decode b_Rc_collect 29 = .ok (.getfield 25, 3) := by decide +kernel
theorem d_Rc_collect_32 : decode b_Rc_collect 32 = .ok (.iconst 2, 1) := by decide +kernel
theorem d_Rc_collect_33 : decode b_Rc_collect 33 = .ok (.aload_n 0, 1) := by decide +kernel
theorem d_Rc_collect_34 : decode b_Rc_collect 34 = .ok (.getfield 22, 3) := by decide +kernel
theorem d_Rc_collect_37 : decode b_Rc_collect 37 = .ok (.iconst 1, 1) := by decide +kernel
theorem d_Rc_collect_38 : decode b_Rc_collect 38 = .ok (.iaload, 1) := by decide +kernel
theorem d_Rc_collect_39 : decode b_Rc_collect 39 = .ok (.iadd, 1) := by decide +kernel
theorem d_Rc_collect_40 : decode b_Rc_collect 40 = .ok (.if_icmp .ne 27, 3) := by decide +kernel
theorem d_Rc_collect_43 : decode b_Rc_collect 43 = .ok (.aload_n 0, 1) := by decide +kernel
theorem d_Rc_collect_44 : decode b_Rc_collect 44 = .ok (.getfield 25, 3) := by decide +kernel
theorem d_Rc_collect_47 : decode b_Rc_collect 47 = .ok (.istore_n 2, 1) := by decide +kernel
theorem d_Rc_collect_48 : decode b_Rc_collect 48 = .ok (.aload_n 0, 1) := by decide +kernel
theorem d_Rc_collect_49 : decode b_Rc_collect 49 = .ok (.iconst 0, 1) := by decide +kernel
theorem d_Rc_collect_50 : decode b_Rc_collect 50 = .ok (.putfield 25, 3) := by decide +kernel
theorem d_Rc_collect_53 : decode b_Rc_collect 53 = .ok (.aload_n 0, 1) := by decide +kernel
theorem d_Rc_collect_54 : decode b_Rc_collect 54 = .ok (.getfield 18, 3) := by decide +kernel
theorem d_Rc_collect_57 : decode b_Rc_collect 57 = .ok (.aload_n 0, 1) := by decide +kernel
theorem d_Rc_collect_58 : decode b_Rc_collect 58 = .ok (.iload_n 2, 1) := by decide +kernel
theorem d_Rc_collect_59 : decode b_Rc_collect 59 = .ok (.invokevirtual 55, 3) := by decide +kernel
theorem d_Rc_collect_62 : decode b_Rc_collect 62 = .ok (.dup2, 1) := by decide +kernel
theorem d_Rc_collect_63 : decode b_Rc_collect 63 = .ok (.iaload, 1) := by decide +kernel
theorem d_Rc_collect_64 : decode b_Rc_collect 64 = .ok (.iconst 1, 1) := by decide +kernel
theorem d_Rc_collect_65 : decode b_Rc_collect 65 = .ok (.iadd, 1) := by decide +kernel
theorem d_Rc_collect_66 : decode b_Rc_collect 66 = .ok (.iastore, 1) := by decide +kernel
theorem d_Rc_collect_67 : decode b_Rc_collect 67 = .ok (.return_, 1) := by decide +kernel
theorem d_Rc_judge_0 : decode b_Rc_judge 0 = .ok (.iload_n 1, 1) := by decide +kernel
theorem d_Rc_judge_1 : decode b_Rc_judge 1 = .ok (.bipush 6, 2) := by decide +kernel
theorem d_Rc_judge_3 : decode b_Rc_judge 3 = .ok (.if_icmp .lt 11, 3) := by decide +kernel
theorem d_Rc_judge_6 : decode b_Rc_judge 6 = .ok (.aload_n 0, 1) := by decide +kernel
theorem d_Rc_judge_7 : decode b_Rc_judge 7 = .ok (.iload_n 1, 1) := by decide +kernel
theorem d_Rc_judge_8 : decode b_Rc_judge 8 = .ok (.invokevirtual 59, 3) := by decide +kernel
theorem d_Rc_judge_11 : decode b_Rc_judge 11 = .ok (.ifCond .ne 5, 3) := by decide +kernel
theorem d_Rc_judge_14 : decode b_Rc_judge 14 = .ok (.iconst 2, 1) := by decide +kernel
theorem d_Rc_judge_15 : decode b_Rc_judge 15 = .ok (.ireturn, 1) := by decide +kernel
theorem d_Rc_judge_16 : decode b_Rc_judge 16 = .ok (.aload_n 0, 1) := by decide +kernel
theorem d_Rc_judge_17 : decode b_Rc_judge 17 = .ok (.iload_n 1, 1) := by decide +kernel
theorem d_Rc_judge_18 : decode b_Rc_judge 18 = .ok (.invokevirtual 63, 3) := by decide +kernel
theorem d_Rc_judge_21 : decode b_Rc_judge 21 = .ok (.ifCond .eq 16, 3) := by decide +kernel
theorem d_Rc_judge_24 : decode b_Rc_judge 24 = .ok (.aload_n 0, 1) := by decide +kernel
theorem d_Rc_judge_25 : decode b_Rc_judge 25 = .ok (.getfield 12, 3) := by decide +kernel
theorem d_Rc_judge_28 : decode b_Rc_judge 28 = .ok (.aload_n 0, 1) := by decide +kernel
theorem d_Rc_judge_29 : decode b_Rc_judge 29 = .ok (.getfield 22, 3) := by decide +kernel
theorem d_Rc_judge_32 : decode b_Rc_judge 32 = .ok (.invokevirtual 66, 3) := by decide +kernel
theorem d_Rc_judge_35 : decode b_Rc_judge 35 = .ok (.iconst 0, 1) := by decide +kernel
theorem d_Rc_judge_36 : decode b_Rc_judge 36 = .ok (.ireturn, 1) := by decide +kernel
theorem d_Rc_judge_37 : decode b_Rc_judge 37 = .ok (.aload_n 0, 1) := by decide +kernel
theorem d_Rc_judge_38 : decode b_Rc_judge 38 = .ok (.iload_n 1, 1) := by decide +kernel
theorem d_Rc_judge_39 : decode b_Rc_judge 39 = .ok (.invokevirtual 70, 3) := by decide +kernel
theorem d_Rc_judge_42 : decode b_Rc_judge 42 = .ok (.ifCond .eq 25, 3) := by decide +kernel
theorem d_Rc_judge_45 : decode b_Rc_judge 45 = .ok (.aload_n 0, 1) := by decide +kernel
theorem d_Rc_judge_46 : decode b_Rc_judge 46 = .ok (.getfield 12, 3) := by decide +kernel
theorem d_Rc_judge_49 : decode b_Rc_judge 49 = .ok (.aload_n 0, 1) := by decide +kernel
theorem d_Rc_judge_50 : decode b_Rc_judge 50 = .ok (.getfield 22, 3) := by decide +kernel
theorem d_Rc_judge_53 : decode b_Rc_judge 53 = .ok (.iload_n 1, 1) := by decide +kernel
theorem d_Rc_judge_54 : decode b_Rc_judge 54 = .ok (.bipush 6, 2) := by decide +kernel
theorem d_Rc_judge_56 : decode b_Rc_judge 56 = .ok (.isub, 1) := by decide +kernel
theorem d_Rc_judge_57 : decode b_Rc_judge 57 = .ok (.iconst 4, 1) := by decide +kernel
theorem d_Rc_judge_58 : decode b_Rc_judge 58 = .ok (.isub, 1) := by decide +kernel
theorem d_Rc_judge_59 : decode b_Rc_judge 59 = .ok (.invokevirtual 73, 3) := by decide +kernel
theorem d_Rc_judge_62 : decode b_Rc_judge 62 = .ok (.ifCond .eq 5, 3) := by decide +kernel
theorem d_Rc_judge_65 : decode b_Rc_judge 65 = .ok (.iconst 1, 1) := by decide +kernel
theorem d_Rc_judge_66 : decode b_Rc_judge 66 = .ok (.ireturn, 1) := by decide +kernel
theorem d_Rc_judge_67 : decode b_Rc_judge 67 = .ok (.iconst 3, 1) := by decide +kernel
theorem d_Rc_judge_68 : decode b_Rc_judge 68 = .ok (.ireturn, 1) := by decide +kernel
theorem d_Rc_hasCheckDue_0 : decode b_Rc_hasCheckDue 0 = .ok (.iload_n 1, 1) := by decide +kernel
theorem d_Rc_hasCheckDue_1 : decode b_Rc_hasCheckDue 1 = .ok (.iconst 4, 1) := by decide +kernel
theorem d_Rc_hasCheckDue_2 : decode b_Rc_hasCheckDue 2 = .ok (.isub, 1) := by decide +kernel
theorem d_Rc_hasCheckDue_3 : decode b_Rc_hasCheckDue 3 = .ok (.istore_n 2, 1) := by decide +kernel
theorem d_Rc_hasCheckDue_4 : decode b_Rc_hasCheckDue 4 = .ok (.aload_n 0, 1) := by decide +kernel
theorem d_Rc_hasCheckDue_5 : decode b_Rc_hasCheckDue 5 = .ok (.getfield 22, 3) := by decide +kernel
theorem d_Rc_hasCheckDue_8 : decode b_Rc_hasCheckDue 8 = .ok (.iload_n 2, 1) := by decide +kernel
theorem d_Rc_hasCheckDue_9 : decode b_Rc_hasCheckDue 9 = .ok (.invokestatic 77, 3) := by decide +kernel
theorem d_Rc_hasCheckDue_12 : decode b_Rc_hasCheckDue 12 = .ok (.bipush 16, 2) := by decide +kernel
theorem d_Rc_hasCheckDue_14 : decode b_Rc_hasCheckDue 14 = .ok (.ishl, 1) := by decide +kernel
theorem d_Rc_hasCheckDue_15 : decode b_Rc_hasCheckDue 15 = .ok (.aload_n 0, 1) := by decide +kernel
theorem d_Rc_hasCheckDue_16 : decode b_Rc_hasCheckDue 16 = .ok (.getfield 22, 3) := by decide +kernel
theorem d_Rc_hasCheckDue_19 : decode b_Rc_hasCheckDue 19 = .ok (.iload_n 2, 1) := by decide +kernel
theorem d_Rc_hasCheckDue_20 : decode b_Rc_hasCheckDue 20 = .ok (.iconst 2, 1) := by decide +kernel
theorem d_Rc_hasCheckDue_21 : decode b_Rc_hasCheckDue 21 = .ok (.iadd, 1) := by decide +kernel
theorem d_Rc_hasCheckDue_22 : decode b_Rc_hasCheckDue 22 = .ok (.invokestatic 77, 3) := by decide +kernel
theorem d_Rc_hasCheckDue_25 : decode b_Rc_hasCheckDue 25 = .ok (.ior, 1) := by decide +kernel
theorem d_Rc_hasCheckDue_26 : decode b_Rc_hasCheckDue 26 = .ok (.istore_n 3, 1) := by decide +kernel
theorem d_Rc_hasCheckDue_27 : decode b_Rc_hasCheckDue 27 = .ok (.iload_n 3, 1) := by decide +kernel
theorem d_Rc_hasCheckDue_28 : decode b_Rc_hasCheckDue 28 = .ok (.aload_n 0, 1) := by decide +kernel
theorem d_Rc_hasCheckDue_29 : decode b_Rc_hasCheckDue 29 = .ok (.getfield 22, 3) := by decide +kernel
theorem d_Rc_hasCheckDue_32 : decode b_Rc_hasCheckDue 32 = .ok (.iconst 0, 1) := by decide +kernel
theorem d_Rc_hasCheckDue_33 : decode b_Rc_hasCheckDue 33 = .ok (.iload_n 2, 1) := by decide +kernel
theorem d_Rc_hasCheckDue_34 : decode b_Rc_hasCheckDue 34 = .ok (.invokestatic 81, 3) := by decide +kernel
theorem d_Rc_hasCheckDue_37 : decode b_Rc_hasCheckDue 37 = .ok (.if_icmp .ne 7, 3) := by decide +kernel
theorem d_Rc_hasCheckDue_40 : decode b_Rc_hasCheckDue 40 = .ok (.iconst 1, 1) := by decide +kernel
theorem d_Rc_hasCheckDue_41 : decode b_Rc_hasCheckDue 41 = .ok (.goto 4, 3) := by decide +kernel
theorem d_Rc_hasCheckDue_44 : decode b_Rc_hasCheckDue 44 = .ok (.iconst 0, 1) := by decide +kernel
theorem d_Rc_hasCheckDue_45 : decode b_Rc_hasCheckDue 45 = .ok (.ireturn, 1) := by decide +kernel
theorem d_Rc_isList_0 : decode b_Rc_isList 0 = .ok (.aload_n 0, 1) := by decide +kernel
theorem d_Rc_isList_1 : decode b_Rc_isList 1 = .ok (.getfield 22, 3) := by decide +kernel
theorem d_Rc_isList_4 : decode b_Rc_isList 4 = .ok (.iconst 0, 1) := by decide +kernel
theorem d_Rc_isList_5 : decode b_Rc_isList 5 = .ok (.iaload, 1) := by decide +kernel
theorem d_Rc_isList_6 : decode b_Rc_isList 6 = .ok (.bipush 59, 2) := by decide +kernel
theorem d_Rc_isList_8 : decode b_Rc_isList 8 = .ok (.if_icmp .ne 9, 3) := by decide +kernel
theorem d_Rc_isList_11 : decode b_Rc_isList 11 = .ok (.iload_n 1, 1) := by decide +kernel
theorem d_Rc_isList_12 : decode b_Rc_isList 12 = .ok (.bipush 9, 2) := by decide +kernel
theorem d_Rc_isList_14 : decode b_Rc_isList 14 = .ok (.if_icmp .ge 5, 3) := by decide +kernel
theorem d_Rc_isList_17 : decode b_Rc_isList 17 = .ok (.iconst 0, 1) := by decide +kernel
theorem d_Rc_isList_18 : decode b_Rc_isList 18 = .ok (.ireturn, 1) := by decide +kernel
theorem d_Rc_isList_19 : decode b_Rc_isList 19 = .ok (.aload_n 0, 1) := by decide +kernel
theorem d_Rc_isList_20 : decode b_Rc_isList 20 = .ok (.getfield 22, 3) := by decide +kernel
theorem d_Rc_isList_23 : decode b_Rc_isList 23 = .ok (.iconst 4, 1) := by decide +kernel
theorem d_Rc_isList_24 : decode b_Rc_isList 24 = .ok (.iaload, 1) := by decide +kernel
theorem d_Rc_isList_25 : decode b_Rc_isList 25 = .ok (.istore_n 2, 1) := by decide +kernel
theorem d_Rc_isList_26 : decode b_Rc_isList 26 = .ok (.iload_n 2, 1) := by decide +kernel
theorem d_Rc_isList_27 : decode b_Rc_isList 27 = .ok (.iconst 1, 1) := by decide +kernel
theorem d_Rc_isList_28 : decode b_Rc_isList 28 = .ok (.if_icmp .lt 9, 3) := by decide +kernel
theorem d_Rc_isList_31 : decode b_Rc_isList 31 = .ok (.iload_n 2, 1) := by decide +kernel
theorem d_Rc_isList_32 : decode b_Rc_isList 32 = .ok (.bipush 12, 2) := by decide +kernel
theorem d_Rc_isList_34 : decode b_Rc_isList 34 = .ok (.if_icmp .le 5, 3) := by decide +kernel
theorem d_Rc_isList_37 : decode b_Rc_isList 37 = .ok (.iconst 0, 1) := by decide +kernel
theorem d_Rc_isList_38 : decode b_Rc_isList 38 = .ok (.ireturn, 1) := by decide +kernel
theorem d_Rc_isList_39 : decode b_Rc_isList 39 = .ok (.iload_n 1, 1) := by decide +kernel
theorem d_Rc_isList_40 : decode b_Rc_isList 40 = .ok (.iconst 5, 1) := by decide +kernel
theorem d_Rc_isList_41 : decode b_Rc_isList 41 = .ok (.iconst 3, 1) := by decide +kernel
theorem d_Rc_isList_42 : decode b_Rc_isList 42 = .ok (.iload_n 2, 1) := by decide +kernel
theorem d_Rc_isList_43 : decode b_Rc_isList 43 = .ok (.imul, 1) := by decide +kernel
theorem d_Rc_isList_44 : decode b_Rc_isList 44 = .ok (.iadd, 1) := by decide +kernel
theorem d_Rc_isList_45 : decode b_Rc_isList 45 = .ok (.iconst 4, 1) := by decide +kernel
theorem d_Rc_isList_46 : decode b_Rc_isList 46 = .ok (.iadd, 1) := by decide +kernel
theorem d_Rc_isList_47 : decode b_Rc_isList 47 = .ok (.if_icmp .eq 5, 3) := by decide +kernel
theorem d_Rc_isList_50 : decode b_Rc_isList 50 = .ok (.iconst 0, 1) := by decide +kernel
theorem d_Rc_isList_51 : decode b_Rc_isList 51 = .ok (.ireturn, 1) := by decide +kernel
theorem d_Rc_isList_52 : decode b_Rc_isList 52 = .ok (.iconst 0, 1) := by decide +kernel
theorem d_Rc_isList_53 : decode b_Rc_isList 53 = .ok (.istore_n 3, 1) := by decide +kernel
theorem d_Rc_isList_54 : decode b_Rc_isList 54 = .ok (.iload_n 3, 1) := by decide +kernel
theorem d_Rc_isList_55 : decode b_Rc_isList 55 = .ok (.iload_n 2, 1) := by decide +kernel
theorem d_Rc_isList_56 : decode b_Rc_isList 56 = .ok (.if_icmp .ge 36, 3) := by decide +kernel
theorem d_Rc_isList_59 : decode b_Rc_isList 59 = .ok (.aload_n 0, 1) := by decide +kernel
theorem d_Rc_isList_60 : decode b_Rc_isList 60 = .ok (.getfield 22, 3) := by decide +kernel
theorem d_Rc_isList_63 : decode b_Rc_isList 63 = .ok (.iconst 5, 1) := by decide +kernel
theorem d_Rc_isList_64 : decode b_Rc_isList 64 = .ok (.iconst 3, 1) := by decide +kernel
theorem d_Rc_isList_65 : decode b_Rc_isList 65 = .ok (.iload_n 3, 1) := by decide +kernel
theorem d_Rc_isList_66 : decode b_Rc_isList 66 = .ok (.imul, 1) := by decide +kernel
theorem d_Rc_isList_67 : decode b_Rc_isList 67 = .ok (.iadd, 1) := by decide +kernel
theorem d_Rc_isList_68 : decode b_Rc_isList 68 = .ok (.iaload, 1) := by decide +kernel
theorem d_Rc_isList_69 : decode b_Rc_isList 69 = .ok (.istore 4, 2) := by decide +kernel
theorem d_Rc_isList_71 : decode b_Rc_isList 71 = .ok (.iload 4, 2) := by decide +kernel
theorem d_Rc_isList_73 : decode b_Rc_isList 73 = .ok (.iconst 1, 1) := by decide +kernel
theorem d_Rc_isList_74 : decode b_Rc_isList 74 = .ok (.if_icmp .lt 10, 3) := by decide +kernel
theorem d_Rc_isList_77 : decode b_Rc_isList 77 = .ok (.iload 4, 2) := by decide +kernel
theorem d_Rc_isList_79 : decode b_Rc_isList 79 = .ok (.bipush 48, 2) := by decide +kernel
theorem d_Rc_isList_81 : decode b_Rc_isList 81 = .ok (.if_icmp .le 5, 3) := by decide +kernel
theorem d_Rc_isList_84 : decode b_Rc_isList 84 = .ok (.iconst 0, 1) := by decide +kernel
theorem d_Rc_isList_85 : decode b_Rc_isList 85 = .ok (.ireturn, 1) := by decide +kernel
theorem d_Rc_isList_86 : decode b_Rc_isList 86 = .ok (.iinc 3 1, 3) := by decide +kernel
theorem d_Rc_isList_89 : decode b_Rc_isList 89 = .ok (.goto (-35), 3) := by decide +kernel
theorem d_Rc_isList_92 : decode b_Rc_isList 92 = .ok (.iconst 1, 1) := by decide +kernel
theorem d_Rc_isList_93 : decode b_Rc_isList 93 = .ok (.ireturn, 1) := by decide +kernel
theorem d_Rc_isBlock_0 : decode b_Rc_isBlock 0 = .ok (.iload_n 1, 1) := by decide +kernel
theorem d_Rc_isBlock_1 : decode b_Rc_isBlock 1 = .ok (.bipush 6, 2) := by decide +kernel
theorem d_Rc_isBlock_3 : decode b_Rc_isBlock 3 = .ok (.isub, 1) := by decide +kernel
theorem d_Rc_isBlock_4 : decode b_Rc_isBlock 4 = .ok (.iconst 4, 1) := by decide +kernel
theorem d_Rc_isBlock_5 : decode b_Rc_isBlock 5 = .ok (.isub, 1) := by decide +kernel
theorem d_Rc_isBlock_6 : decode b_Rc_isBlock 6 = .ok (.istore_n 2, 1) := by decide +kernel
theorem d_Rc_isBlock_7 : decode b_Rc_isBlock 7 = .ok (.aload_n 0, 1) := by decide +kernel
theorem d_Rc_isBlock_8 : decode b_Rc_isBlock 8 = .ok (.getfield 22, 3) := by decide +kernel
theorem d_Rc_isBlock_11 : decode b_Rc_isBlock 11 = .ok (.iconst 0, 1) := by decide +kernel
theorem d_Rc_isBlock_12 : decode b_Rc_isBlock 12 = .ok (.iaload, 1) := by decide +kernel
theorem d_Rc_isBlock_13 : decode b_Rc_isBlock 13 = .ok (.bipush 60, 2) := by decide +kernel
theorem d_Rc_isBlock_15 : decode b_Rc_isBlock 15 = .ok (.if_icmp .ne 18, 3) := by decide +kernel
theorem d_Rc_isBlock_18 : decode b_Rc_isBlock 18 = .ok (.iload_n 2, 1) := by decide +kernel
theorem d_Rc_isBlock_19 : decode b_Rc_isBlock 19 = .ok (.iconst 1, 1) := by decide +kernel
theorem d_Rc_isBlock_20 : decode b_Rc_isBlock 20 = .ok (.if_icmp .lt 13, 3) := by decide +kernel
theorem d_Rc_isBlock_23 : decode b_Rc_isBlock 23 = .ok (.iload_n 2, 1) := by decide +kernel
theorem d_Rc_isBlock_24 : decode b_Rc_isBlock 24 = .ok (.bipush 8, 2) := by decide +kernel
theorem d_Rc_isBlock_26 : decode b_Rc_isBlock 26 = .ok (.if_icmp .gt 7, 3) := by decide +kernel
theorem d_Rc_isBlock_29 : decode b_Rc_isBlock 29 = .ok (.iconst 1, 1) := by decide +kernel
theorem d_Rc_isBlock_30 : decode b_Rc_isBlock 30 = .ok (.goto 4, 3) := by decide +kernel
theorem d_Rc_isBlock_33 : decode b_Rc_isBlock 33 = .ok (.iconst 0, 1) := by decide +kernel
theorem d_Rc_isBlock_34 : decode b_Rc_isBlock 34 = .ok (.ireturn, 1) := by decide +kernel
theorem d_Sn_init_0 : decode b_Sn_init 0 = .ok (.aload_n 0, 1) := by decide +kernel
theorem d_Sn_init_1 : decode b_Sn_init 1 = .ok (.invokespecial 3, 3) := by decide +kernel
theorem d_Sn_init_4 : decode b_Sn_init 4 = .ok (.aload_n 0, 1) := by decide +kernel
theorem d_Sn_init_5 : decode b_Sn_init 5 = .ok (.bipush 16, 2) := by decide +kernel
theorem d_Sn_init_7 : decode b_Sn_init 7 = .ok (.newarray .int, 2) := by decide +kernel
theorem d_Sn_init_9 : decode b_Sn_init 9 = .ok (.putfield 9, 3) := by decide +kernel
theorem d_Sn_init_12 : decode b_Sn_init 12 = .ok (.aload_n 0, 1) := by decide +kernel
theorem d_Sn_init_13 : decode b_Sn_init 13 = .ok (.new 15, 3) := by decide +kernel
theorem d_Sn_init_16 : decode b_Sn_init 16 = .ok (.dup, 1) := by decide +kernel
theorem d_Sn_init_17 : decode b_Sn_init 17 = .ok (.invokespecial 17, 3) := by decide +kernel
theorem d_Sn_init_20 : decode b_Sn_init 20 = .ok (.putfield 18, 3) := by decide +kernel
theorem d_Sn_init_23 : decode b_Sn_init 23 = .ok (.aload_n 0, 1) := by decide +kernel
theorem d_Sn_init_24 : decode b_Sn_init 24 = .ok (.iconst 0, 1) := by decide +kernel
theorem d_Sn_init_25 : decode b_Sn_init 25 = .ok (.putfield 22, 3) := by decide +kernel
theorem d_Sn_init_28 : decode b_Sn_init 28 = .ok (.aload_n 0, 1) := by decide +kernel
theorem d_Sn_init_29 : decode b_Sn_init 29 = .ok (.iconst 0, 1) := by decide +kernel
theorem d_Sn_init_30 : decode b_Sn_init 30 = .ok (.putfield 26, 3) := by decide +kernel
theorem d_Sn_init_33 : decode b_Sn_init 33 = .ok (.aload_n 0, 1) := by decide +kernel
theorem d_Sn_init_34 : decode b_Sn_init 34 = .ok (.iconst 0, 1) := by decide +kernel
theorem d_Sn_init_35 : decode b_Sn_init 35 = .ok (.putfield 29, 3) := by decide +kernel
theorem d_Sn_init_38 : decode b_Sn_init 38 = .ok (.return_, 1) := by decide +kernel
theorem d_Sn_isOnAir_0 : decode b_Sn_isOnAir 0 = .ok (.aload_n 0, 1) := by decide +kernel
theorem d_Sn_isOnAir_1 : decode b_Sn_isOnAir 1 = .ok (.getfield 18, 3) := by decide +kernel
theorem d_Sn_isOnAir_4 : decode b_Sn_isOnAir 4 = .ok (.getfield 32, 3) := by decide +kernel
theorem d_Sn_isOnAir_7 : decode b_Sn_isOnAir 7 = .ok (.ifCond .le 7, 3) := by decide +kernel
theorem d_Sn_isOnAir_10 : decode b_Sn_isOnAir 10 = .ok (.iconst 1, 1) := by decide +kernel
theorem d_Sn_isOnAir_11 : decode b_Sn_isOnAir 11 = .ok (.goto 4, 3) := by decide +kernel
theorem d_Sn_isOnAir_14 : decode b_Sn_isOnAir 14 = .ok (.iconst 0, 1) := by decide +kernel
theorem d_Sn_isOnAir_15 : decode b_Sn_isOnAir 15 = .ok (.ireturn, 1) := by decide +kernel
theorem d_Sn_beginCycleOf_0 : decode b_Sn_beginCycleOf 0 = .ok (.aload_n 0, 1) := by decide +kernel
theorem d_Sn_beginCycleOf_1 : decode b_Sn_beginCycleOf 1 = .ok (.getfield 18, 3) := by decide +kernel
theorem d_Sn_beginCycleOf_4 : decode b_Sn_beginCycleOf 4 = .ok (.aload_n 1, 1) := by decide +kernel
theorem d_Sn_beginCycleOf_5 : decode b_Sn_beginCycleOf 5 = .ok (.invokevirtual 35, 3) := by decide +kernel
theorem d_Sn_beginCycleOf_8 : decode b_Sn_beginCycleOf 8 = .ok (.aload_n 0, 1) := by decide +kernel
theorem d_Sn_beginCycleOf_9 : decode b_Sn_beginCycleOf 9 = .ok (.iconst 0, 1) := by decide +kernel
theorem d_Sn_beginCycleOf_10 : decode b_Sn_beginCycleOf 10 = .ok (.putfield 26, 3) := by decide +kernel
theorem d_Sn_beginCycleOf_13 : decode b_Sn_beginCycleOf 13 = .ok (.aload_n 0, 1) := by decide +kernel
theorem d_Sn_beginCycleOf_14 : decode b_Sn_beginCycleOf 14 = .ok (.invokevirtual 39, 3) := by decide +kernel
theorem d_Sn_beginCycleOf_17 : decode b_Sn_beginCycleOf 17 = .ok (.return_, 1) := by decide +kernel
theorem d_Sn_advance_0 : decode b_Sn_advance 0 = .ok (.aload_n 0, 1) := by decide +kernel
theorem d_Sn_advance_1 : decode b_Sn_advance 1 = .ok (.aload_n 0, 1) := by decide +kernel
theorem d_Sn_advance_2 : decode b_Sn_advance 2 = .ok (.getfield 22, 3) := by decide +kernel
theorem d_Sn_advance_5 : decode b_Sn_advance 5 = .ok (.iconst 1, 1) := by decide +kernel
theorem d_Sn_advance_6 : decode b_Sn_advance 6 = .ok (.iadd, 1) := by decide +kernel
theorem d_Sn_advance_7 : decode b_Sn_advance 7 = .ok (.bipush 15, 2) := by decide +kernel
theorem d_Sn_advance_9 : decode b_Sn_advance 9 = .ok (.iand, 1) := by decide +kernel
theorem d_Sn_advance_10 : decode b_Sn_advance 10 = .ok (.putfield 22, 3) := by decide +kernel
theorem d_Sn_advance_13 : decode b_Sn_advance 13 = .ok (.aload_n 0, 1) := by decide +kernel
theorem d_Sn_advance_14 : decode b_Sn_advance 14 = .ok (.aload_n 0, 1) := by decide +kernel
theorem d_Sn_advance_15 : decode b_Sn_advance 15 = .ok (.getfield 29, 3) := by decide +kernel
theorem d_Sn_advance_18 : decode b_Sn_advance 18 = .ok (.aload_n 0, 1) := by decide +kernel
theorem d_Sn_advance_19 : decode b_Sn_advance 19 = .ok (.getfield 18, 3) := by decide +kernel
theorem d_Sn_advance_22 : decode b_Sn_advance 22 = .ok (.getfield 32, 3) := by decide +kernel
theorem d_Sn_advance_25 : decode b_Sn_advance 25 = .ok (.if_icmp .ge 10, 3) := by decide +kernel
theorem d_Sn_advance_28 : decode b_Sn_advance 28 = .ok (.aload_n 0, 1) := by decide +kernel
theorem d_Sn_advance_29 : decode b_Sn_advance 29 = .ok (.getfield 29, 3) := by decide +kernel
theorem d_Sn_advance_32 : decode b_Sn_advance 32 = .ok (.goto 4, 3) := by decide +kernel
theorem d_Sn_advance_35 : decode b_Sn_advance 35 = .ok (.iconst 0, 1) := by decide +kernel
theorem d_Sn_advance_36 : decode b_Sn_advance 36 = .ok (.putfield 26, 3) := by decide +kernel
theorem d_Sn_advance_39 : decode b_Sn_advance 39 = .ok (.aload_n 0, 1) := by decide +kernel
theorem d_Sn_advance_40 : decode b_Sn_advance 40 = .ok (.invokevirtual 39, 3) := by decide +kernel
theorem d_Sn_advance_43 : decode b_Sn_advance 43 = .ok (.return_, 1) := by decide +kernel
theorem d_Sn_prepare_0 : decode b_Sn_prepare 0 = .ok (.aload_n 0, 1) := by decide +kernel
theorem d_Sn_prepare_1 : decode b_Sn_prepare 1 = .ok (.getfield 18, 3) := by decide +kernel
theorem d_Sn_prepare_4 : decode b_Sn_prepare 4 = .ok (.aload_n 0, 1) := by decide +kernel
theorem d_Sn_prepare_5 : decode b_Sn_prepare 5 = .ok (.getfield 26, 3) := by decide +kernel
theorem d_Sn_prepare_8 : decode b_Sn_prepare 8 = .ok (.invokevirtual 42, 3) := by decide +kernel
theorem d_Sn_prepare_11 : decode b_Sn_prepare 11 = .ok (.istore_n 1, 1) := by decide +kernel
theorem d_Sn_prepare_12 : decode b_Sn_prepare 12 = .ok (.iload_n 1, 1) := by decide +kernel
theorem d_Sn_prepare_13 : decode b_Sn_prepare 13 = .ok (.aload_n 0, 1) := by decide +kernel
theorem d_Sn_prepare_14 : decode b_Sn_prepare 14 = .ok (.getfield 26, 3) := by decide +kernel
theorem d_Sn_prepare_17 : decode b_Sn_prepare 17 = .ok (.isub, 1) := by decide +kernel
theorem d_Sn_prepare_18 : decode b_Sn_prepare 18 = .ok (.istore_n 2, 1) := by decide +kernel
theorem d_Sn_prepare_19 : decode b_Sn_prepare 19 = .ok (.iload_n 2, 1) := by decide +kernel
theorem d_Sn_prepare_20 : decode b_Sn_prepare 20 = .ok (.bipush 12, 2) := by decide +kernel
theorem d_Sn_prepare_22 : decode b_Sn_prepare 22 = .ok (.if_icmp .gt 18, 3) := by decide +kernel
theorem d_Sn_prepare_25 : decode b_Sn_prepare 25 = .ok (.iload_n 1, 1) := by decide +kernel
theorem d_Sn_prepare_26 : decode b_Sn_prepare 26 = .ok (.aload_n 0, 1) := by decide +kernel
theorem d_Sn_prepare_27 : decode b_Sn_prepare 27 = .ok (.getfield 18, 3) := by decide +kernel
theorem d_Sn_prepare_30 : decode b_Sn_prepare 30 = .ok (.getfield 32, 3) := by decide +kernel
theorem d_Sn_prepare_33 : decode b_Sn_prepare 33 = .ok (.if_icmp .ge 7, 3) := by decide +kernel
theorem d_Sn_prepare_36 : decode b_Sn_prepare 36 = .ok (.iconst 1, 1) := by decide +kernel
theorem d_Sn_prepare_37 : decode b_Sn_prepare 37 = .ok (.goto 4, 3) := by decide +kernel
theorem d_Sn_prepare_40 : decode b_Sn_prepare 40 = .ok (.iconst 0, 1) := by decide +kernel
theorem d_Sn_prepare_41 : decode b_Sn_prepare 41 = .ok (.istore_n 3, 1) := by decide +kernel
theorem d_Sn_prepare_42 : decode b_Sn_prepare 42 = .ok (.aload_n 0, 1) := by decide +kernel
theorem d_Sn_prepare_43 : decode b_Sn_prepare 43 = .ok (.getfield 9, 3) := by decide +kernel
theorem d_Sn_prepare_46 : decode b_Sn_prepare 46 = .ok (.iconst 0, 1) := by decide +kernel
theorem d_Sn_prepare_47 : decode b_Sn_prepare 47 = .ok (.bipush 71, 2) := by decide +kernel
theorem d_Sn_prepare_49 : decode b_Sn_prepare 49 = .ok (.iastore, 1) := by decide +kernel
theorem d_Sn_prepare_50 : decode b_Sn_prepare 50 = .ok (.aload_n 0, 1) := by decide +kernel
theorem d_Sn_prepare_51 : decode b_Sn_prepare 51 = .ok (.getfield 9, 3) := by decide +kernel
theorem d_Sn_prepare_54 : decode b_Sn_prepare 54 = .ok (.iconst 1, 1) := by decide +kernel
theorem d_Sn_prepare_55 : decode b_Sn_prepare 55 = .ok (.iload_n 3, 1) := by decide +kernel
theorem d_Sn_prepare_56 : decode b_Sn_prepare 56 = .ok (.ifCond .eq 13, 3) := by decide +kernel
theorem d_Sn_prepare_59 : decode b_Sn_prepare 59 = .ok (.bipush 64, 2) := by decide +kernel
theorem d_Sn_prepare_61 : decode b_Sn_prepare 61 = .ok (.aload_n 0, 1) := by decide +kernel
theorem d_Sn_prepare_62 : decode b_Sn_prepare 62 = .ok (.getfield 22, 3) := by decide +kernel
theorem d_Sn_prepare_65 : decode b_Sn_prepare 65 = .ok (.ior, 1) := by decide +kernel
theorem d_Sn_prepare_66 : decode b_Sn_prepare 66 = .ok (.goto 7, 3) := by decide +kernel
theorem d_Sn_prepare_69 : decode b_Sn_prepare 69 = .ok (.aload_n 0, 1) := by decide +kernel
theorem d_Sn_prepare_70 : decode b_Sn_prepare 70 = .ok (.getfield 22, 3) := by decide +kernel
theorem d_Sn_prepare_73 : decode b_Sn_prepare 73 = .ok (.iastore, 1) := by decide +kernel
theorem d_Sn_prepare_74 : decode b_Sn_prepare 74 = .ok (.iload_n 3, 1) := by decide +kernel
theorem d_Sn_prepare_75 : decode b_Sn_prepare 75 = .ok (.ifCond .eq 25, 3) := by decide +kernel
theorem d_Sn_prepare_78 : decode b_Sn_prepare 78 = .ok (.aload_n 0, 1) := by decide +kernel
theorem d_Sn_prepare_79 : decode b_Sn_prepare 79 = .ok (.getfield 9, 3) := by decide +kernel
theorem d_Sn_prepare_82 : decode b_Sn_prepare 82 = .ok (.iconst 2, 1) := by decide +kernel
theorem d_Sn_prepare_83 : decode b_Sn_prepare 83 = .ok (.iload_n 2, 1) := by decide +kernel
theorem d_Sn_prepare_84 : decode b_Sn_prepare 84 = .ok (.iastore, 1) := by decide +kernel
theorem d_Sn_prepare_85 : decode b_Sn_prepare 85 = .ok (.aload_n 0, 1) := by decide +kernel
theorem d_Sn_prepare_86 : decode b_Sn_prepare 86 = .ok (.iconst 3, 1) := by decide +kernel
theorem d_Sn_prepare_87 : decode b_Sn_prepare 87 = .ok (.aload_n 0, 1) := by decide +kernel
theorem d_Sn_prepare_88 : decode b_Sn_prepare 88 = .ok (.getfield 18, 3) := by decide +kernel
theorem d_Sn_prepare_91 : decode b_Sn_prepare 91 = .ok (.getfield 32, 3) := by decide +kernel
theorem d_Sn_prepare_94 : decode b_Sn_prepare 94 = .ok (.invokevirtual 46, 3) := by decide +kernel
theorem d_Sn_prepare_97 : decode b_Sn_prepare 97 = .ok (.goto 9, 3) := by decide +kernel
theorem d_Sn_prepare_100 : decode b_Sn_prepare 100 = .ok (.aload_n 0, 1) := by decide +kernel
theorem d_Sn_prepare_101 : decode b_Sn_prepare 101 = .ok (.iconst 2, 1) := by decide +kernel
theorem d_Sn_prepare_102 : decode b_Sn_prepare 102 = .ok (.iload_n 1, 1) := by decide +kernel
theorem d_Sn_prepare_103 : decode b_Sn_prepare 103 = .ok (.invokevirtual 46, 3) := by decide +kernel
theorem d_Sn_prepare_106 : decode b_Sn_prepare 106 = .ok (.return_, 1) := by decide +kernel
theorem d_Sn_load_0 : decode b_Sn_load 0 = .ok (.aload_n 0, 1) := by decide +kernel
theorem d_Sn_load_1 : decode b_Sn_load 1 = .ok (.getfield 26, 3) := by decide +kernel
theorem d_Sn_load_4 : decode b_Sn_load 4 = .ok (.istore_n 3, 1) := by decide +kernel
theorem d_Sn_load_5 : decode b_Sn_load 5 = .ok (.iload_n 1, 1) := by decide +kernel
theorem d_Sn_load_6 : decode b_Sn_load 6 = .ok (.istore 4, 2) := by decide +kernel
theorem d_Sn_load_8 : decode b_Sn_load 8 = .ok (.iload 4, 2) := by decide +kernel
theorem d_Sn_load_10 : decode b_Sn_load 10 = .ok (.bipush 16, 2) := by decide +kernel
theorem d_Sn_load_12 : decode b_Sn_load 12 = .ok (.if_icmp .ge 46, 3) := by decide +kernel
theorem d_Sn_load_15 : decode b_Sn_load 15 = .ok (.iload_n 3, 1) := by decide +kernel
theorem d_Sn_load_16 : decode b_Sn_load 16 = .ok (.iload_n 2, 1) := by decide +kernel
theorem d_Sn_load_17 : decode b_Sn_load 17 = .ok (.if_icmp .ge 25, 3) := by decide +kernel
theorem d_Sn_load_20 : decode b_Sn_load 20 = .ok (.aload_n 0, 1) := by decide +kernel
theorem d_Sn_load_21 : decode b_Sn_load 21 = .ok (.getfield 9, 3) := by decide +kernel
theorem d_Sn_load_24 : decode b_Sn_load 24 = .ok (.iload 4, 2) := by decide +kernel
theorem d_Sn_load_26 : decode b_Sn_load 26 = .ok (.aload_n 0, 1) := by decide +kernel
theorem d_Sn_load_27 : decode b_Sn_load 27 = .ok (.getfield 18, 3) := by decide +kernel
theorem d_Sn_load_30 : decode b_Sn_load 30 = .ok (.getfield 50, 3) := by decide +kernel
theorem d_Sn_load_33 : decode b_Sn_load 33 = .ok (.iload_n 3, 1) := by decide +kernel
theorem d_Sn_load_34 : decode b_Sn_load 34 = .ok (.iaload, 1) := by decide +kernel
theorem d_Sn_load_35 : decode b_Sn_load 35 = .ok (.iastore, 1) := by decide +kernel
theorem d_Sn_load_36 : decode b_Sn_load 36 = .ok (.iinc 3 1, 3) := by decide +kernel
theorem d_Sn_load_39 : decode b_Sn_load 39 = .ok (.goto 13, 3) := by decide +kernel
theorem d_Sn_load_42 : decode b_Sn_load 42 = .ok (.aload_n 0, 1) := by decide +kernel
theorem d_Sn_load_43 : decode b_Sn_load 43 = .ok (.getfield 9, 3) := by decide +kernel
theorem d_Sn_load_46 : decode b_Sn_load 46 = .ok (.iload 4, 2) := by decide +kernel
theorem d_Sn_load_48 : decode b_Sn_load 48 = .ok (.sipush 255, 3) := by decide +kernel
theorem d_Sn_load_51 : decode b_Sn_load 51 = .ok (.iastore, 1) := by decide +kernel
theorem d_Sn_load_52 : decode b_Sn_load 52 = .ok (.iinc 4 1, 3) := by decide +kernel
theorem d_Sn_load_55 : decode b_Sn_load 55 = .ok (.goto (-47), 3) := by decide +kernel
theorem d_Sn_load_58 : decode b_Sn_load 58 = .ok (.aload_n 0, 1) := by decide +kernel
theorem d_Sn_load_59 : decode b_Sn_load 59 = .ok (.iload_n 3, 1) := by decide +kernel
theorem d_Sn_load_60 : decode b_Sn_load 60 = .ok (.putfield 29, 3) := by decide +kernel
theorem d_Sn_load_63 : decode b_Sn_load 63 = .ok (.return_, 1) := by decide +kernel
end
section
theorem d_Md_init_0 : decode b_Md_init 0 = .ok (.aload_n 0, 1) := by decide +kernel
theorem d_Md_init_1 : decode b_Md_init 1 = .ok (.invokespecial 1, 3) := by decide +kernel
theorem d_Md_init_4 : decode b_Md_init 4 = .ok (.aload_n 0, 1) := by decide +kernel
theorem d_Md_init_5 : decode b_Md_init 5 = .ok (.bipush 12, 2) := by decide +kernel
theorem d_Md_init_7 : decode b_Md_init 7 = .ok (.newarray .int, 2) := by decide +kernel
theorem d_Md_init_9 : decode b_Md_init 9 = .ok (.putfield 7, 3) := by decide +kernel
theorem d_Md_init_12 : decode b_Md_init 12 = .ok (.aload_n 0, 1) := by decide +kernel
theorem d_Md_init_13 : decode b_Md_init 13 = .ok (.bipush 12, 2) := by decide +kernel
theorem d_Md_init_15 : decode b_Md_init 15 = .ok (.newarray .int, 2) := by decide +kernel
theorem d_Md_init_17 : decode b_Md_init 17 = .ok (.putfield 13, 3) := by decide +kernel
theorem d_Md_init_20 : decode b_Md_init 20 = .ok (.aload_n 0, 1) := by decide +kernel
theorem d_Md_init_21 : decode b_Md_init 21 = .ok (.bipush 12, 2) := by decide +kernel
theorem d_Md_init_23 : decode b_Md_init 23 = .ok (.newarray .int, 2) := by decide +kernel
theorem d_Md_init_25 : decode b_Md_init 25 = .ok (.putfield 16, 3) := by decide +kernel
theorem d_Md_init_28 : decode b_Md_init 28 = .ok (.aload_n 0, 1) := by decide +kernel
theorem d_Md_init_29 : decode b_Md_init 29 = .ok (.bipush 12, 2) := by decide +kernel
theorem d_Md_init_31 : decode b_Md_init 31 = .ok (.newarray .int, 2) := by decide +kernel
theorem d_Md_init_33 : decode b_Md_init 33 = .ok (.putfield 19, 3) := by decide +kernel
theorem d_Md_init_36 : decode b_Md_init 36 = .ok (.aload_n 0, 1) := by decide +kernel
theorem d_Md_init_37 : decode b_Md_init 37 = .ok (.sipush 144, 3) := by decide +kernel
theorem d_Md_init_40 : decode b_Md_init 40 = .ok (.newarray .int, 2) := by decide +kernel
theorem d_Md_init_42 : decode b_Md_init 42 = .ok (.putfield 22, 3) := by decide +kernel
theorem d_Md_init_45 : decode b_Md_init 45 = .ok (.aload_n 0, 1) := by decide +kernel
theorem d_Md_init_46 : decode b_Md_init 46 = .ok (.bipush 12, 2) := by decide +kernel
theorem d_Md_init_48 : decode b_Md_init 48 = .ok (.newarray .int, 2) := by decide +kernel
theorem d_Md_init_50 : decode b_Md_init 50 = .ok (.putfield 25, 3) := by decide +kernel
theorem d_Md_init_53 : decode b_Md_init 53 = .ok (.aload_n 0, 1) := by decide +kernel
theorem d_Md_init_54 : decode b_Md_init 54 = .ok (.bipush 12, 2) := by decide +kernel
theorem d_Md_init_56 : decode b_Md_init 56 = .ok (.newarray .int, 2) := by decide +kernel
theorem d_Md_init_58 : decode b_Md_init 58 = .ok (.putfield 28, 3) := by decide +kernel
theorem d_Md_init_61 : decode b_Md_init 61 = .ok (.aload_n 0, 1) := by decide +kernel
theorem d_Md_init_62 : decode b_Md_init 62 = .ok (.sipush 576, 3) := by decide +kernel
theorem d_Md_init_65 : decode b_Md_init 65 = .ok (.newarray .int, 2) := by decide +kernel
theorem d_Md_init_67 : decode b_Md_init 67 = .ok (.putfield 31, 3) := by decide +kernel
theorem d_Md_init_70 : decode b_Md_init 70 = .ok (.aload_n 0, 1) := by decide +kernel
theorem d_Md_init_71 : decode b_Md_init 71 = .ok (.bipush 12, 2) := by decide +kernel
theorem d_Md_init_73 : decode b_Md_init 73 = .ok (.newarray .int, 2) := by decide +kernel
theorem d_Md_init_75 : decode b_Md_init 75 = .ok (.putfield 34, 3) := by decide +kernel
theorem d_Md_init_78 : decode b_Md_init 78 = .ok (.aload_n 0, 1) := by decide +kernel
theorem d_Md_init_79 : decode b_Md_init 79 = .ok (.bipush 12, 2) := by decide +kernel
theorem d_Md_init_81 : decode b_Md_init 81 = .ok (.newarray .int, 2) := by decide +kernel
theorem d_Md_init_83 : decode b_Md_init 83 = .ok (.putfield 37, 3) := by decide +kernel
theorem d_Md_init_86 : decode b_Md_init 86 = .ok (.aload_n 0, 1) := by decide +kernel
theorem d_Md_init_87 : decode b_Md_init 87 = .ok (.sipush 576, 3) := by decide +kernel
theorem d_Md_init_90 : decode b_Md_init 90 = .ok (.newarray .int, 2) := by decide +kernel
theorem d_Md_init_92 : decode b_Md_init 92 = .ok (.putfield 40, 3) := by decide +kernel
theorem d_Md_init_95 : decode b_Md_init 95 = .ok (.aload_n 0, 1) := by decide +kernel
theorem d_Md_init_96 : decode b_Md_init 96 = .ok (.bipush 12, 2) := by decide +kernel
theorem d_Md_init_98 : decode b_Md_init 98 = .ok (.newarray .int, 2) := by decide +kernel
theorem d_Md_init_100 : decode b_Md_init 100 = .ok (.putfield 43, 3) := by decide +kernel
theorem d_Md_init_103 : decode b_Md_init 103 = .ok (.aload_n 0, 1) := by decide +kernel
theorem d_Md_init_104 : decode b_Md_init 104 = .ok (.sipush 700, 3) := by decide +kernel
theorem d_Md_init_107 : decode b_Md_init 107 = .ok (.newarray .int, 2) := by decide +kernel
theorem d_Md_init_109 : decode b_Md_init 109 = .ok (.putfield 46, 3) := by decide +kernel
theorem d_Md_init_112 : decode b_Md_init 112 = .ok (.aload_n 0, 1) := by decide +kernel
theorem d_Md_init_113 : decode b_Md_init 113 = .ok (.sipush 700, 3) := by decide +kernel
theorem d_Md_init_116 : decode b_Md_init 116 = .ok (.newarray .boolean, 2) := by decide +kernel
theorem d_Md_init_118 : decode b_Md_init 118 = .ok (.putfield 49, 3) := by decide +kernel
theorem d_Md_init_121 : decode b_Md_init 121 = .ok (.aload_n 0, 1) := by decide +kernel
theorem d_Md_init_122 : decode b_Md_init 122 = .ok (.bipush 16, 2) := by decide +kernel
theorem d_Md_init_124 : decode b_Md_init 124 = .ok (.newarray .int, 2) := by decide +kernel
theorem d_Md_init_126 : decode b_Md_init 126 = .ok (.putfield 53, 3) := by decide +kernel
theorem d_Md_init_129 : decode b_Md_init 129 = .ok (.aload_n 0, 1) := by decide +kernel
theorem d_Md_init_130 : decode b_Md_init 130 = .ok (.iconst (-1), 1) := by decide +kernel
theorem d_Md_init_131 : decode b_Md_init 131 = .ok (.putfield 56, 3) := by decide +kernel
theorem d_Md_init_134 : decode b_Md_init 134 = .ok (.aload_n 0, 1) := by decide +kernel
theorem d_Md_init_135 : decode b_Md_init 135 = .ok (.iconst (-1), 1) := by decide +kernel
theorem d_Md_init_136 : decode b_Md_init 136 = .ok (.putfield 60, 3) := by decide +kernel
theorem d_Md_init_139 : decode b_Md_init 139 = .ok (.aload_n 0, 1) := by decide +kernel
theorem d_Md_init_140 : decode b_Md_init 140 = .ok (.bipush 12, 2) := by decide +kernel
theorem d_Md_init_142 : decode b_Md_init 142 = .ok (.newarray .boolean, 2) := by decide +kernel
theorem d_Md_init_144 : decode b_Md_init 144 = .ok (.putfield 63, 3) := by decide +kernel
theorem d_Md_init_147 : decode b_Md_init 147 = .ok (.aload_n 0, 1) := by decide +kernel
theorem d_Md_init_148 : decode b_Md_init 148 = .ok (.bipush 12, 2) := by decide +kernel
theorem d_Md_init_150 : decode b_Md_init 150 = .ok (.newarray .int, 2) := by decide +kernel
theorem d_Md_init_152 : decode b_Md_init 152 = .ok (.putfield 66, 3) := by decide +kernel
theorem d_Md_init_155 : decode b_Md_init 155 = .ok (.aload_n 0, 1) := by decide +kernel
theorem d_Md_init_156 : decode b_Md_init 156 = .ok (.bipush 12, 2) := by decide +kernel
theorem d_Md_init_158 : decode b_Md_init 158 = .ok (.newarray .int, 2) := by decide +kernel
theorem d_Md_init_160 : decode b_Md_init 160 = .ok (.putfield 69, 3) := by decide +kernel
theorem d_Md_init_163 : decode b_Md_init 163 = .ok (.aload_n 0, 1) := by decide +kernel
theorem d_Md_init_164 : decode b_Md_init 164 = .ok (.bipush 72, 2) := by decide +kernel
theorem d_Md_init_166 : decode b_Md_init 166 = .ok (.newarray .boolean, 2) := by decide +kernel
theorem d_Md_init_168 : decode b_Md_init 168 = .ok (.putfield 72, 3) := by decide +kernel
theorem d_Md_init_171 : decode b_Md_init 171 = .ok (.aload_n 0, 1) := by decide +kernel
theorem d_Md_init_172 : decode b_Md_init 172 = .ok (.sipush 576, 3) := by decide +kernel
theorem d_Md_init_175 : decode b_Md_init 175 = .ok (.newarray .int, 2) := by decide +kernel
theorem d_Md_init_177 : decode b_Md_init 177 = .ok (.putfield 75, 3) := by decide +kernel
theorem d_Md_init_180 : decode b_Md_init 180 = .ok (.aload_n 0, 1) := by decide +kernel
theorem d_Md_init_181 : decode b_Md_init 181 = .ok (.sipush 258, 3) := by decide +kernel
theorem d_Md_init_184 : decode b_Md_init 184 = .ok (.newarray .int, 2) := by decide +kernel
theorem d_Md_init_186 : decode b_Md_init 186 = .ok (.putfield 78, 3) := by decide +kernel
theorem d_Md_init_189 : decode b_Md_init 189 = .ok (.aload_n 0, 1) := by decide +kernel
theorem d_Md_init_190 : decode b_Md_init 190 = .ok (.bipush 6, 2) := by decide +kernel
theorem d_Md_init_192 : decode b_Md_init 192 = .ok (.newarray .int, 2) := by decide +kernel
theorem d_Md_init_194 : decode b_Md_init 194 = .ok (.putfield 81, 3) := by decide +kernel
theorem d_Md_init_197 : decode b_Md_init 197 = .ok (.aload_n 0, 1) := by decide +kernel
theorem d_Md_init_198 : decode b_Md_init 198 = .ok (.getfield 7, 3) := by decide +kernel
theorem d_Md_init_201 : decode b_Md_init 201 = .ok (.iconst 0, 1) := by decide +kernel
theorem d_Md_init_202 : decode b_Md_init 202 = .ok (.iconst 1, 1) := by decide +kernel
theorem d_Md_init_203 : decode b_Md_init 203 = .ok (.iastore, 1) := by decide +kernel
theorem d_Md_init_204 : decode b_Md_init 204 = .ok (.return_, 1) := by decide +kernel
theorem d_Md_after_0 : decode b_Md_after 0 = .ok (.iconst (-1), 1) := by decide +kernel
theorem d_Md_after_1 : decode b_Md_after 1 = .ok (.istore_n 3, 1) := by decide +kernel
theorem d_Md_after_2 : decode b_Md_after 2 = .ok (.iconst 1, 1) := by decide +kernel
theorem d_Md_after_3 : decode b_Md_after 3 = .ok (.istore 4, 2) := by decide +kernel
theorem d_Md_after_5 : decode b_Md_after 5 = .ok (.iload 4, 2) := by decide +kernel
theorem d_Md_after_7 : decode b_Md_after 7 = .ok (.bipush 12, 2) := by decide +kernel
theorem d_Md_after_9 : decode b_Md_after 9 = .ok (.if_icmp .ge 80, 3) := by decide +kernel
theorem d_Md_after_12 : decode b_Md_after 12 = .ok (.aload_n 0, 1) := by decide +kernel
theorem d_Md_after_13 : decode b_Md_after 13 = .ok (.getfield 7, 3) := by decide +kernel
theorem d_Md_after_16 : decode b_Md_after 16 = .ok (.iload 4, 2) := by decide +kernel
theorem d_Md_after_18 : decode b_Md_after 18 = .ok (.iaload, 1) := by decide +kernel
theorem d_Md_after_19 : decode b_Md_after 19 = .ok (.ifCond .eq 29, 3) := by decide +kernel
theorem d_Md_after_22 : decode b_Md_after 22 = .ok (.aload_n 0, 1) := by decide +kernel
theorem d_Md_after_23 : decode b_Md_after 23 = .ok (.getfield 13, 3) := by decide +kernel
theorem d_Md_after_26 : decode b_Md_after 26 = .ok (.iload 4, 2) := by decide +kernel
theorem d_Md_after_28 : decode b_Md_after 28 = .ok (.iaload, 1) := by decide +kernel
theorem d_Md_after_29 : decode b_Md_after 29 = .ok (.iload_n 1, 1) := by decide +kernel
theorem d_Md_after_30 : decode b_Md_after 30 = .ok (.if_icmp .ne 18, 3) := by decide +kernel
theorem d_Md_after_33 : decode b_Md_after 33 = .ok (.aload_n 0, 1) := by decide +kernel
theorem d_Md_after_34 : decode b_Md_after 34 = .ok (.getfield 16, 3) := by decide +kernel
theorem d_Md_after_37 : decode b_Md_after 37 = .ok (.iload 4, 2) := by decide +kernel
theorem d_Md_after_39 : decode b_Md_after 39 = .ok (.iaload, 1) := by decide +kernel
theorem d_Md_after_40 : decode b_Md_after 40 = .ok (.iload_n 2, 1) := by decide +kernel
theorem d_Md_after_41 : decode b_Md_after 41 = .ok (.if_icmp .le 7, 3) := by decide +kernel
theorem d_Md_after_44 : decode b_Md_after 44 = .ok (.iconst 1, 1) := by decide +kernel
theorem d_Md_after_45 : decode b_Md_after 45 = .ok (.goto 4, 3) := by decide +kernel
theorem d_Md_after_48 : decode b_Md_after 48 = .ok (.iconst 0, 1) := by decide +kernel
theorem d_Md_after_49 : decode b_Md_after 49 = .ok (.istore 5, 2) := by decide +kernel
theorem d_Md_after_51 : decode b_Md_after 51 = .ok (.iload 5, 2) := by decide +kernel
theorem d_Md_after_53 : decode b_Md_after 53 = .ok (.ifCond .eq 28, 3) := by decide +kernel
theorem d_Md_after_56 : decode b_Md_after 56 = .ok (.iload_n 3, 1) := by decide +kernel
theorem d_Md_after_57 : decode b_Md_after 57 = .ok (.ifCond .lt 19, 3) := by decide +kernel
theorem d_Md_after_60 : decode b_Md_after 60 = .ok (.aload_n 0, 1) := by decide +kernel
theorem d_Md_after_61 : decode b_Md_after 61 = .ok (.getfield 16, 3) := by decide +kernel
theorem d_Md_after_64 : decode b_Md_after 64 = .ok (.iload 4, 2) := by decide +kernel
theorem d_Md_after_66 : decode b_Md_after 66 = .ok (.iaload, 1) := by decide +kernel
theorem d_Md_after_67 : decode b_Md_after 67 = .ok (.aload_n 0, 1) := by decide +kernel
theorem d_Md_after_68 : decode b_Md_after 68 = .ok (.getfield 16, 3) := by decide +kernel
theorem d_Md_after_71 : decode b_Md_after 71 = .ok (.iload_n 3, 1) := by decide +kernel
theorem d_Md_after_72 : decode b_Md_after 72 = .ok (.iaload, 1) := by decide +kernel
theorem d_Md_after_73 : decode b_Md_after 73 = .ok (.if_icmp .ge 8, 3) := by decide +kernel
theorem d_Md_after_76 : decode b_Md_after 76 = .ok (.iload 4, 2) := by decide +kernel
theorem d_Md_after_78 : decode b_Md_after 78 = .ok (.goto 4, 3) := by decide +kernel
theorem d_Md_after_81 : decode b_Md_after 81 = .ok (.iload_n 3, 1) := by decide +kernel
theorem d_Md_after_82 : decode b_Md_after 82 = .ok (.istore_n 3, 1) := by decide +kernel
theorem d_Md_after_83 : decode b_Md_after 83 = .ok (.iinc 4 1, 3) := by decide +kernel
theorem d_Md_after_86 : decode b_Md_after 86 = .ok (.goto (-81), 3) := by decide +kernel
theorem d_Md_after_89 : decode b_Md_after 89 = .ok (.iload_n 3, 1) := by decide +kernel
theorem d_Md_after_90 : decode b_Md_after 90 = .ok (.ireturn, 1) := by decide +kernel
theorem d_Md_append_0 : decode b_Md_append 0 = .ok (.iload_n 1, 1) := by decide +kernel
theorem d_Md_append_1 : decode b_Md_append 1 = .ok (.iconst 1, 1) := by decide +kernel
theorem d_Md_append_2 : decode b_Md_append 2 = .ok (.bipush 11, 2) := by decide +kernel
theorem d_Md_append_4 : decode b_Md_append 4 = .ok (.invokestatic 84, 3) := by decide +kernel
theorem d_Md_append_7 : decode b_Md_append 7 = .ok (.ifCond .eq 14, 3) := by decide +kernel
theorem d_Md_append_10 : decode b_Md_append 10 = .ok (.iload_n 2, 1) := by decide +kernel
theorem d_Md_append_11 : decode b_Md_append 11 = .ok (.iconst 0, 1) := by decide +kernel
theorem d_Md_append_12 : decode b_Md_append 12 = .ok (.sipush 255, 3) := by decide +kernel
theorem d_Md_append_15 : decode b_Md_append 15 = .ok (.invokestatic 84, 3) := by decide +kernel
theorem d_Md_append_18 : decode b_Md_append 18 = .ok (.ifCond .ne 5, 3) := by decide +kernel
theorem d_Md_append_21 : decode b_Md_append 21 = .ok (.iconst (-1), 1) := by decide +kernel
theorem d_Md_append_22 : decode b_Md_append 22 = .ok (.ireturn, 1) := by decide +kernel
theorem d_Md_append_23 : decode b_Md_append 23 = .ok (.aload_n 0, 1) := by decide +kernel
theorem d_Md_append_24 : decode b_Md_append 24 = .ok (.getfield 7, 3) := by decide +kernel
theorem d_Md_append_27 : decode b_Md_append 27 = .ok (.iload_n 1, 1) := by decide +kernel
theorem d_Md_append_28 : decode b_Md_append 28 = .ok (.iaload, 1) := by decide +kernel
theorem d_Md_append_29 : decode b_Md_append 29 = .ok (.iconst 3, 1) := by decide +kernel
theorem d_Md_append_30 : decode b_Md_append 30 = .ok (.if_icmp .eq 6, 3) := by decide +kernel
theorem d_Md_append_33 : decode b_Md_append 33 = .ok (.bipush (-2), 2) := by decide +kernel
theorem d_Md_append_35 : decode b_Md_append 35 = .ok (.ireturn, 1) := by decide +kernel
theorem d_Md_append_36 : decode b_Md_append 36 = .ok (.aload_n 0, 1) := by decide +kernel
theorem d_Md_append_37 : decode b_Md_append 37 = .ok (.getfield 19, 3) := by decide +kernel
theorem d_Md_append_40 : decode b_Md_append 40 = .ok (.iload_n 1, 1) := by decide +kernel
theorem d_Md_append_41 : decode b_Md_append 41 = .ok (.iaload, 1) := by decide +kernel
theorem d_Md_append_42 : decode b_Md_append 42 = .ok (.bipush 12, 2) := by decide +kernel
theorem d_Md_append_44 : decode b_Md_append 44 = .ok (.if_icmp .ne 6, 3) := by decide +kernel
theorem d_Md_append_47 : decode b_Md_append 47 = .ok (.bipush (-4), 2) := by decide +kernel
theorem d_Md_append_49 : decode b_Md_append 49 = .ok (.ireturn, 1) := by decide +kernel
theorem d_Md_append_50 : decode b_Md_append 50 = .ok (.aload_n 0, 1) := by decide +kernel
theorem d_Md_append_51 : decode b_Md_append 51 = .ok (.getfield 22, 3) := by decide +kernel
theorem d_Md_append_54 : decode b_Md_append 54 = .ok (.bipush 12, 2) := by decide +kernel
theorem d_Md_append_56 : decode b_Md_append 56 = .ok (.iload_n 1, 1) := by decide +kernel
theorem d_Md_append_57 : decode b_Md_append 57 = .ok (.imul, 1) := by decide +kernel
theorem d_Md_append_58 : decode b_Md_append 58 = .ok (.aload_n 0, 1) := by decide +kernel
theorem d_Md_append_59 : decode b_Md_append 59 = .ok (.getfield 19, 3) := by decide +kernel
theorem d_Md_append_62 : decode b_Md_append 62 = .ok (.iload_n 1, 1) := by decide +kernel
theorem d_Md_append_63 : decode b_Md_append 63 = .ok (.iaload, 1) := by decide +kernel
theorem d_Md_append_64 : decode b_Md_append 64 = .ok (.iadd, 1) := by decide +kernel
theorem d_Md_append_65 : decode b_Md_append 65 = .ok (.iload_n 2, 1) := by decide +kernel
theorem d_Md_append_66 : decode b_Md_append 66 = .ok (.iastore, 1) := by decide +kernel
theorem d_Md_append_67 : decode b_Md_append 67 = .ok (.aload_n 0, 1) := by decide +kernel
theorem d_Md_append_68 : decode b_Md_append 68 = .ok (.getfield 19, 3) := by decide +kernel
theorem d_Md_append_71 : decode b_Md_append 71 = .ok (.iload_n 1, 1) := by decide +kernel
theorem d_Md_append_72 : decode b_Md_append 72 = .ok (.dup2, 1) := by decide +kernel
theorem d_Md_append_73 : decode b_Md_append 73 = .ok (.iaload, 1) := by decide +kernel
theorem d_Md_append_74 : decode b_Md_append 74 = .ok (.iconst 1, 1) := by decide +kernel
theorem d_Md_append_75 : decode b_Md_append 75 = .ok (.iadd, 1) := by decide +kernel
theorem d_Md_append_76 : decode b_Md_append 76 = .ok (.iastore, 1) := by decide +kernel
theorem d_Md_append_77 : decode b_Md_append 77 = .ok (.aload_n 0, 1) := by decide +kernel
theorem d_Md_append_78 : decode b_Md_append 78 = .ok (.getfield 19, 3) := by decide +kernel
theorem d_Md_append_81 : decode b_Md_append 81 = .ok (.iload_n 1, 1) := by decide +kernel
theorem d_Md_append_82 : decode b_Md_append 82 = .ok (.iaload, 1) := by decide +kernel
theorem d_Md_append_83 : decode b_Md_append 83 = .ok (.ireturn, 1) := by decide +kernel
theorem d_Md_empty_0 : decode b_Md_empty 0 = .ok (.iload_n 1, 1) := by decide +kernel
theorem d_Md_empty_1 : decode b_Md_empty 1 = .ok (.iconst 1, 1) := by decide +kernel
theorem d_Md_empty_2 : decode b_Md_empty 2 = .ok (.bipush 11, 2) := by decide +kernel
theorem d_Md_empty_4 : decode b_Md_empty 4 = .ok (.invokestatic 84, 3) := by decide +kernel
theorem d_Md_empty_7 : decode b_Md_empty 7 = .ok (.ifCond .ne 5, 3) := by decide +kernel
theorem d_Md_empty_10 : decode b_Md_empty 10 = .ok (.iconst (-1), 1) := by decide +kernel
theorem d_Md_empty_11 : decode b_Md_empty 11 = .ok (.ireturn, 1) := by decide +kernel
theorem d_Md_empty_12 : decode b_Md_empty 12 = .ok (.aload_n 0, 1) := by decide +kernel
theorem d_Md_empty_13 : decode b_Md_empty 13 = .ok (.getfield 7, 3) := by decide +kernel
theorem d_Md_empty_16 : decode b_Md_empty 16 = .ok (.iload_n 1, 1) := by decide +kernel
theorem d_Md_empty_17 : decode b_Md_empty 17 = .ok (.iaload, 1) := by decide +kernel
theorem d_Md_empty_18 : decode b_Md_empty 18 = .ok (.iconst 3, 1) := by decide +kernel
theorem d_Md_empty_19 : decode b_Md_empty 19 = .ok (.if_icmp .eq 6, 3) := by decide +kernel
theorem d_Md_empty_22 : decode b_Md_empty 22 = .ok (.bipush (-2), 2) := by decide +kernel
theorem d_Md_empty_24 : decode b_Md_empty 24 = .ok (.ireturn, 1) := by decide +kernel
theorem d_Md_empty_25 : decode b_Md_empty 25 = .ok (.aload_n 0, 1) := by decide +kernel
theorem d_Md_empty_26 : decode b_Md_empty 26 = .ok (.getfield 19, 3) := by decide +kernel
theorem d_Md_empty_29 : decode b_Md_empty 29 = .ok (.iload_n 1, 1) := by decide +kernel
theorem d_Md_empty_30 : decode b_Md_empty 30 = .ok (.iaload, 1) := by decide +kernel
theorem d_Md_empty_31 : decode b_Md_empty 31 = .ok (.istore_n 2, 1) := by decide +kernel
theorem d_Md_empty_32 : decode b_Md_empty 32 = .ok (.aload_n 0, 1) := by decide +kernel
theorem d_Md_empty_33 : decode b_Md_empty 33 = .ok (.getfield 19, 3) := by decide +kernel
theorem d_Md_empty_36 : decode b_Md_empty 36 = .ok (.iload_n 1, 1) := by decide +kernel
theorem d_Md_empty_37 : decode b_Md_empty 37 = .ok (.iconst 0, 1) := by decide +kernel
theorem d_Md_empty_38 : decode b_Md_empty 38 = .ok (.iastore, 1) := by decide +kernel
theorem d_Md_empty_39 : decode b_Md_empty 39 = .ok (.iload_n 2, 1) := by decide +kernel
theorem d_Md_empty_40 : decode b_Md_empty 40 = .ok (.ireturn, 1) := by decide +kernel
theorem d_Md_emit_0 : decode b_Md_emit 0 = .ok (.aload_n 0, 1) := by decide +kernel
theorem d_Md_emit_1 : decode b_Md_emit 1 = .ok (.getfield 46, 3) := by decide +kernel
theorem d_Md_emit_4 : decode b_Md_emit 4 = .ok (.aload_n 0, 1) := by decide +kernel
theorem d_Md_emit_5 : decode b_Md_emit 5 = .ok (.getfield 130, 3) := by decide +kernel
theorem d_Md_emit_8 : decode b_Md_emit 8 = .ok (.iload_n 1, 1) := by decide +kernel
theorem d_Md_emit_9 : decode b_Md_emit 9 = .ok (.iastore, 1) := by decide +kernel
theorem d_Md_emit_10 : decode b_Md_emit 10 = .ok (.aload_n 0, 1) := by decide +kernel
theorem d_Md_emit_11 : decode b_Md_emit 11 = .ok (.getfield 49, 3) := by decide +kernel
theorem d_Md_emit_14 : decode b_Md_emit 14 = .ok (.aload_n 0, 1) := by decide +kernel
theorem d_Md_emit_15 : decode b_Md_emit 15 = .ok (.getfield 130, 3) := by decide +kernel
theorem d_Md_emit_18 : decode b_Md_emit 18 = .ok (.iconst 0, 1) := by decide +kernel
theorem d_Md_emit_19 : decode b_Md_emit 19 = .ok (.bastore, 1) := by decide +kernel
theorem d_Md_emit_20 : decode b_Md_emit 20 = .ok (.aload_n 0, 1) := by decide +kernel
theorem d_Md_emit_21 : decode b_Md_emit 21 = .ok (.dup, 1) := by decide +kernel
theorem d_Md_emit_22 : decode b_Md_emit 22 = .ok (.getfield 130, 3) := by decide +kernel
theorem d_Md_emit_25 : decode b_Md_emit 25 = .ok (.iconst 1, 1) := by decide +kernel
theorem d_Md_emit_26 : decode b_Md_emit 26 = .ok (.iadd, 1) := by decide +kernel
theorem d_Md_emit_27 : decode b_Md_emit 27 = .ok (.putfield 130, 3) := by decide +kernel
theorem d_Md_emit_30 : decode b_Md_emit 30 = .ok (.aload_n 0, 1) := by decide +kernel
theorem d_Md_emit_31 : decode b_Md_emit 31 = .ok (.aload_n 0, 1) := by decide +kernel
theorem d_Md_emit_32 : decode b_Md_emit 32 = .ok (.getfield 133, 3) := by decide +kernel
theorem d_Md_emit_35 : decode b_Md_emit 35 = .ok (.iload_n 1, 1) := by decide +kernel
theorem d_Md_emit_36 : decode b_Md_emit 36 = .ok (.invokestatic 136, 3) := by decide +kernel
theorem d_Md_emit_39 : decode b_Md_emit 39 = .ok (.putfield 133, 3) := by decide +kernel
theorem d_Md_emit_42 : decode b_Md_emit 42 = .ok (.return_, 1) := by decide +kernel
theorem d_Md_emitPair_0 : decode b_Md_emitPair 0 = .ok (.aload_n 0, 1) := by decide +kernel
theorem d_Md_emitPair_1 : decode b_Md_emitPair 1 = .ok (.iload_n 1, 1) := by decide +kernel
theorem d_Md_emitPair_2 : decode b_Md_emitPair 2 = .ok (.sipush 256, 3) := by decide +kernel
theorem d_Md_emitPair_5 : decode b_Md_emitPair 5 = .ok (.idiv, 1) := by decide +kernel
theorem d_Md_emitPair_6 : decode b_Md_emitPair 6 = .ok (.sipush 256, 3) := by decide +kernel
theorem d_Md_emitPair_9 : decode b_Md_emitPair 9 = .ok (.irem, 1) := by decide +kernel
theorem d_Md_emitPair_10 : decode b_Md_emitPair 10 = .ok (.invokevirtual 139, 3) := by decide +kernel
theorem d_Md_emitPair_13 : decode b_Md_emitPair 13 = .ok (.aload_n 0, 1) := by decide +kernel
theorem d_Md_emitPair_14 : decode b_Md_emitPair 14 = .ok (.iload_n 1, 1) := by decide +kernel
theorem d_Md_emitPair_15 : decode b_Md_emitPair 15 = .ok (.sipush 256, 3) := by decide +kernel
theorem d_Md_emitPair_18 : decode b_Md_emitPair 18 = .ok (.irem, 1) := by decide +kernel
theorem d_Md_emitPair_19 : decode b_Md_emitPair 19 = .ok (.invokevirtual 139, 3) := by decide +kernel
theorem d_Md_emitPair_22 : decode b_Md_emitPair 22 = .ok (.return_, 1) := by decide +kernel
theorem d_Md_emitCheck_0 : decode b_Md_emitCheck 0 = .ok (.aload_n 0, 1) := by decide +kernel
theorem d_Md_emitCheck_1 : decode b_Md_emitCheck 1 = .ok (.getfield 133, 3) := by decide +kernel
theorem d_Md_emitCheck_4 : decode b_Md_emitCheck 4 = .ok (.istore_n 1, 1) := by decide +kernel
theorem d_Md_emitCheck_5 : decode b_Md_emitCheck 5 = .ok (.aload_n 0, 1) := by decide +kernel
theorem d_Md_emitCheck_6 : decode b_Md_emitCheck 6 = .ok (.iload_n 1, 1) := by decide +kernel
theorem d_Md_emitCheck_7 : decode b_Md_emitCheck 7 = .ok (.bipush 24, 2) := by decide +kernel
theorem d_Md_emitCheck_9 : decode b_Md_emitCheck 9 = .ok (.iushr, 1) := by decide +kernel
theorem d_Md_emitCheck_10 : decode b_Md_emitCheck 10 = .ok (.invokevirtual 139, 3) := by decide +kernel
theorem d_Md_emitCheck_13 : decode b_Md_emitCheck 13 = .ok (.aload_n 0, 1) := by decide +kernel
theorem d_Md_emitCheck_14 : decode b_Md_emitCheck 14 = .ok (.iload_n 1, 1) := by decide +kernel
theorem d_Md_emitCheck_15 : decode b_Md_emitCheck 15 = .ok (.bipush 16, 2) := by decide +kernel
theorem d_Md_emitCheck_17 : decode b_Md_emitCheck 17 = .ok (.iushr, 1) := by decide +kernel
theorem d_Md_emitCheck_18 : decode b_Md_emitCheck 18 = .ok (.sipush 255, 3) := by decide +kernel
theorem d_Md_emitCheck_21 : decode b_Md_emitCheck 21 = .ok (.iand, 1) := by decide +kernel
theorem d_Md_emitCheck_22 : decode b_Md_emitCheck 22 = .ok (.invokevirtual 139, 3) := by decide +kernel
theorem d_Md_emitCheck_25 : decode b_Md_emitCheck 25 = .ok (.aload_n 0, 1) := by decide +kernel
theorem d_Md_emitCheck_26 : decode b_Md_emitCheck 26 = .ok (.iload_n 1, 1) := by decide +kernel
theorem d_Md_emitCheck_27 : decode b_Md_emitCheck 27 = .ok (.bipush 8, 2) := by decide +kernel
theorem d_Md_emitCheck_29 : decode b_Md_emitCheck 29 = .ok (.iushr, 1) := by decide +kernel
theorem d_Md_emitCheck_30 : decode b_Md_emitCheck 30 = .ok (.sipush 255, 3) := by decide +kernel
theorem d_Md_emitCheck_33 : decode b_Md_emitCheck 33 = .ok (.iand, 1) := by decide +kernel
theorem d_Md_emitCheck_34 : decode b_Md_emitCheck 34 = .ok (.invokevirtual 139, 3) := by decide +kernel
theorem d_Md_emitCheck_37 : decode b_Md_emitCheck 37 = .ok (.aload_n 0, 1) := by decide +kernel
theorem d_Md_emitCheck_38 : decode b_Md_emitCheck 38 = .ok (.iload_n 1, 1) := by decide +kernel
theorem d_Md_emitCheck_39 : decode b_Md_emitCheck 39 = .ok (.sipush 255, 3) := by decide +kernel
theorem d_Md_emitCheck_42 : decode b_Md_emitCheck 42 = .ok (.iand, 1) := by decide +kernel
theorem d_Md_emitCheck_43 : decode b_Md_emitCheck 43 = .ok (.invokevirtual 139, 3) := by decide +kernel
theorem d_Md_emitCheck_46 : decode b_Md_emitCheck 46 = .ok (.aload_n 0, 1) := by decide +kernel
theorem d_Md_emitCheck_47 : decode b_Md_emitCheck 47 = .ok (.getfield 49, 3) := by decide +kernel
theorem d_Md_emitCheck_50 : decode b_Md_emitCheck 50 = .ok (.aload_n 0, 1) := by decide +kernel
theorem d_Md_emitCheck_51 : decode b_Md_emitCheck 51 = .ok (.getfield 130, 3) := by decide +kernel
theorem d_Md_emitCheck_54 : decode b_Md_emitCheck 54 = .ok (.iconst 1, 1) := by decide +kernel
theorem d_Md_emitCheck_55 : decode b_Md_emitCheck 55 = .ok (.isub, 1) := by decide +kernel
theorem d_Md_emitCheck_56 : decode b_Md_emitCheck 56 = .ok (.iconst 1, 1) := by decide +kernel
theorem d_Md_emitCheck_57 : decode b_Md_emitCheck 57 = .ok (.bastore, 1) := by decide +kernel
theorem d_Md_emitCheck_58 : decode b_Md_emitCheck 58 = .ok (.aload_n 0, 1) := by decide +kernel
theorem d_Md_emitCheck_59 : decode b_Md_emitCheck 59 = .ok (.iconst (-1), 1) := by decide +kernel
theorem d_Md_emitCheck_60 : decode b_Md_emitCheck 60 = .ok (.putfield 133, 3) := by decide +kernel
theorem d_Md_emitCheck_63 : decode b_Md_emitCheck 63 = .ok (.return_, 1) := by decide +kernel
theorem d_Md_build_0 : decode b_Md_build 0 = .ok (.aload_n 0, 1) := by decide +kernel
theorem d_Md_build_1 : decode b_Md_build 1 = .ok (.invokevirtual 149, 3) := by decide +kernel
theorem d_Md_build_4 : decode b_Md_build 4 = .ok (.istore_n 1, 1) := by decide +kernel
theorem d_Md_build_5 : decode b_Md_build 5 = .ok (.iload_n 1, 1) := by decide +kernel
theorem d_Md_build_6 : decode b_Md_build 6 = .ok (.bipush 12, 2) := by decide +kernel
theorem d_Md_build_8 : decode b_Md_build 8 = .ok (.if_icmp .gt 20, 3) := by decide +kernel
theorem d_Md_build_11 : decode b_Md_build 11 = .ok (.aload_n 0, 1) := by decide +kernel
theorem d_Md_build_12 : decode b_Md_build 12 = .ok (.getfield 126, 3) := by decide +kernel
theorem d_Md_build_15 : decode b_Md_build 15 = .ok (.iload_n 1, 1) := by decide +kernel
theorem d_Md_build_16 : decode b_Md_build 16 = .ok (.iadd, 1) := by decide +kernel
theorem d_Md_build_17 : decode b_Md_build 17 = .ok (.aload_n 0, 1) := by decide +kernel
theorem d_Md_build_18 : decode b_Md_build 18 = .ok (.getfield 130, 3) := by decide +kernel
theorem d_Md_build_21 : decode b_Md_build 21 = .ok (.if_icmp .ge 7, 3) := by decide +kernel
theorem d_Md_build_24 : decode b_Md_build 24 = .ok (.iconst 1, 1) := by decide +kernel
theorem d_Md_build_25 : decode b_Md_build 25 = .ok (.goto 4, 3) := by decide +kernel
theorem d_Md_build_28 : decode b_Md_build 28 = .ok (.iconst 0, 1) := by decide +kernel
theorem d_Md_build_29 : decode b_Md_build 29 = .ok (.istore_n 2, 1) := by decide +kernel
theorem d_Md_build_30 : decode b_Md_build 30 = .ok (.aload_n 0, 1) := by decide +kernel
theorem d_Md_build_31 : decode b_Md_build 31 = .ok (.getfield 130, 3) := by decide +kernel
theorem d_Md_build_34 : decode b_Md_build 34 = .ok (.aload_n 0, 1) := by decide +kernel
theorem d_Md_build_35 : decode b_Md_build 35 = .ok (.getfield 126, 3) := by decide +kernel
theorem d_Md_build_38 : decode b_Md_build 38 = .ok (.isub, 1) := by decide +kernel
theorem d_Md_build_39 : decode b_Md_build 39 = .ok (.istore_n 3, 1) := by decide +kernel
theorem d_Md_build_40 : decode b_Md_build 40 = .ok (.iload_n 2, 1) := by decide +kernel
theorem d_Md_build_41 : decode b_Md_build 41 = .ok (.ifCond .eq 8, 3) := by decide +kernel
theorem d_Md_build_44 : decode b_Md_build 44 = .ok (.bipush 13, 2) := by decide +kernel
theorem d_Md_build_46 : decode b_Md_build 46 = .ok (.goto 5, 3) := by decide +kernel
theorem d_Md_build_49 : decode b_Md_build 49 = .ok (.bipush 14, 2) := by decide +kernel
theorem d_Md_build_51 : decode b_Md_build 51 = .ok (.istore 4, 2) := by decide +kernel
theorem d_Md_build_53 : decode b_Md_build 53 = .ok (.iload_n 2, 1) := by decide +kernel
theorem d_Md_build_54 : decode b_Md_build 54 = .ok (.ifCond .eq 7, 3) := by decide +kernel
theorem d_Md_build_57 : decode b_Md_build 57 = .ok (.iload_n 3, 1) := by decide +kernel
theorem d_Md_build_58 : decode b_Md_build 58 = .ok (.goto 4, 3) := by decide +kernel
theorem d_Md_build_61 : decode b_Md_build 61 = .ok (.iload_n 1, 1) := by decide +kernel
theorem d_Md_build_62 : decode b_Md_build 62 = .ok (.istore 5, 2) := by decide +kernel
theorem d_Md_build_64 : decode b_Md_build 64 = .ok (.iload 5, 2) := by decide +kernel
theorem d_Md_build_66 : decode b_Md_build 66 = .ok (.iload 4, 2) := by decide +kernel
theorem d_Md_build_68 : decode b_Md_build 68 = .ok (.if_icmp .ge 8, 3) := by decide +kernel
theorem d_Md_build_71 : decode b_Md_build 71 = .ok (.iload 5, 2) := by decide +kernel
theorem d_Md_build_73 : decode b_Md_build 73 = .ok (.goto 5, 3) := by decide +kernel
theorem d_Md_build_76 : decode b_Md_build 76 = .ok (.iload 4, 2) := by decide +kernel
theorem d_Md_build_78 : decode b_Md_build 78 = .ok (.istore 6, 2) := by decide +kernel
theorem d_Md_build_80 : decode b_Md_build 80 = .ok (.iconst 0, 1) := by decide +kernel
theorem d_Md_build_81 : decode b_Md_build 81 = .ok (.istore 7, 2) := by decide +kernel
theorem d_Md_build_83 : decode b_Md_build 83 = .ok (.iload 7, 2) := by decide +kernel
theorem d_Md_build_85 : decode b_Md_build 85 = .ok (.bipush 16, 2) := by decide +kernel
theorem d_Md_build_87 : decode b_Md_build 87 = .ok (.if_icmp .ge 19, 3) := by decide +kernel
theorem d_Md_build_90 : decode b_Md_build 90 = .ok (.aload_n 0, 1) := by decide +kernel
theorem d_Md_build_91 : decode b_Md_build 91 = .ok (.getfield 53, 3) := by decide +kernel
theorem d_Md_build_94 : decode b_Md_build 94 = .ok (.iload 7, 2) := by decide +kernel
theorem d_Md_build_96 : decode b_Md_build 96 = .ok (.sipush 255, 3) := by decide +kernel
theorem d_Md_build_99 : decode b_Md_build 99 = .ok (.iastore, 1) := by decide +kernel
theorem d_Md_build_100 : decode b_Md_build 100 = .ok (.iinc 7 1, 3) := by decide +kernel
theorem d_Md_build_103 : decode b_Md_build 103 = .ok (.goto (-20), 3) := by decide +kernel
theorem d_Md_build_106 : decode b_Md_build 106 = .ok (.aload_n 0, 1) := by decide +kernel
theorem d_Md_build_107 : decode b_Md_build 107 = .ok (.getfield 53, 3) := by decide +kernel
theorem d_Md_build_110 : decode b_Md_build 110 = .ok (.iconst 0, 1) := by decide +kernel
theorem d_Md_build_111 : decode b_Md_build 111 = .ok (.bipush 71, 2) := by decide +kernel
theorem d_Md_build_113 : decode b_Md_build 113 = .ok (.iastore, 1) := by decide +kernel
theorem d_Md_build_114 : decode b_Md_build 114 = .ok (.aload_n 0, 1) := by decide +kernel
theorem d_Md_build_115 : decode b_Md_build 115 = .ok (.getfield 53, 3) := by decide +kernel
theorem d_Md_build_118 : decode b_Md_build 118 = .ok (.iconst 1, 1) := by decide +kernel
theorem d_Md_build_119 : decode b_Md_build 119 = .ok (.aload_n 0, 1) := by decide +kernel
theorem d_Md_build_120 : decode b_Md_build 120 = .ok (.getfield 153, 3) := by decide +kernel
theorem d_Md_build_123 : decode b_Md_build 123 = .ok (.iload_n 2, 1) := by decide +kernel
theorem d_Md_build_124 : decode b_Md_build 124 = .ok (.ifCond .eq 8, 3) := by decide +kernel
theorem d_Md_build_127 : decode b_Md_build 127 = .ok (.bipush 64, 2) := by decide +kernel
theorem d_Md_build_129 : decode b_Md_build 129 = .ok (.goto 4, 3) := by decide +kernel
theorem d_Md_build_132 : decode b_Md_build 132 = .ok (.iconst 0, 1) := by decide +kernel
theorem d_Md_build_133 : decode b_Md_build 133 = .ok (.iadd, 1) := by decide +kernel
theorem d_Md_build_134 : decode b_Md_build 134 = .ok (.iastore, 1) := by decide +kernel
theorem d_Md_build_135 : decode b_Md_build 135 = .ok (.aload_n 0, 1) := by decide +kernel
theorem d_Md_build_136 : decode b_Md_build 136 = .ok (.getfield 53, 3) := by decide +kernel
theorem d_Md_build_139 : decode b_Md_build 139 = .ok (.iconst 2, 1) := by decide +kernel
theorem d_Md_build_140 : decode b_Md_build 140 = .ok (.iload_n 2, 1) := by decide +kernel
theorem d_Md_build_141 : decode b_Md_build 141 = .ok (.ifCond .eq 7, 3) := by decide +kernel
theorem d_Md_build_144 : decode b_Md_build 144 = .ok (.iload_n 1, 1) := by decide +kernel
theorem d_Md_build_145 : decode b_Md_build 145 = .ok (.goto 6, 3) := by decide +kernel
theorem d_Md_build_148 : decode b_Md_build 148 = .ok (.sipush 255, 3) := by decide +kernel
theorem d_Md_build_151 : decode b_Md_build 151 = .ok (.iastore, 1) := by decide +kernel
theorem d_Md_build_152 : decode b_Md_build 152 = .ok (.iload_n 2, 1) := by decide +kernel
theorem d_Md_build_153 : decode b_Md_build 153 = .ok (.ifCond .eq 7, 3) := by decide +kernel
theorem d_Md_build_156 : decode b_Md_build 156 = .ok (.iconst 3, 1) := by decide +kernel
theorem d_Md_build_157 : decode b_Md_build 157 = .ok (.goto 4, 3) := by decide +kernel
theorem d_Md_build_160 : decode b_Md_build 160 = .ok (.iconst 2, 1) := by decide +kernel
theorem d_Md_build_161 : decode b_Md_build 161 = .ok (.istore 7, 2) := by decide +kernel
theorem d_Md_build_163 : decode b_Md_build 163 = .ok (.iconst 0, 1) := by decide +kernel
theorem d_Md_build_164 : decode b_Md_build 164 = .ok (.istore 8, 2) := by decide +kernel
theorem d_Md_build_166 : decode b_Md_build 166 = .ok (.iload 8, 2) := by decide +kernel
theorem d_Md_build_168 : decode b_Md_build 168 = .ok (.iload 6, 2) := by decide +kernel
theorem d_Md_build_170 : decode b_Md_build 170 = .ok (.if_icmp .ge 31, 3) := by decide +kernel
theorem d_Md_build_173 : decode b_Md_build 173 = .ok (.aload_n 0, 1) := by decide +kernel
theorem d_Md_build_174 : decode b_Md_build 174 = .ok (.getfield 53, 3) := by decide +kernel
theorem d_Md_build_177 : decode b_Md_build 177 = .ok (.iload 7, 2) := by decide +kernel
theorem d_Md_build_179 : decode b_Md_build 179 = .ok (.iload 8, 2) := by decide +kernel
theorem d_Md_build_181 : decode b_Md_build 181 = .ok (.iadd, 1) := by decide +kernel
theorem d_Md_build_182 : decode b_Md_build 182 = .ok (.aload_n 0, 1) := by decide +kernel
theorem d_Md_build_183 : decode b_Md_build 183 = .ok (.getfield 46, 3) := by decide +kernel
theorem d_Md_build_186 : decode b_Md_build 186 = .ok (.aload_n 0, 1) := by decide +kernel
theorem d_Md_build_187 : decode b_Md_build 187 = .ok (.getfield 126, 3) := by decide +kernel
theorem d_Md_build_190 : decode b_Md_build 190 = .ok (.iload 8, 2) := by decide +kernel
theorem d_Md_build_192 : decode b_Md_build 192 = .ok (.iadd, 1) := by decide +kernel
theorem d_Md_build_193 : decode b_Md_build 193 = .ok (.iaload, 1) := by decide +kernel
theorem d_Md_build_194 : decode b_Md_build 194 = .ok (.iastore, 1) := by decide +kernel
theorem d_Md_build_195 : decode b_Md_build 195 = .ok (.iinc 8 1, 3) := by decide +kernel
theorem d_Md_build_198 : decode b_Md_build 198 = .ok (.goto (-32), 3) := by decide +kernel
theorem d_Md_build_201 : decode b_Md_build 201 = .ok (.iload 6, 2) := by decide +kernel
theorem d_Md_build_203 : decode b_Md_build 203 = .ok (.ireturn, 1) := by decide +kernel
theorem d_Md_checks_0 : decode b_Md_checks 0 = .ok (.iconst (-1), 1) := by decide +kernel
theorem d_Md_checks_1 : decode b_Md_checks 1 = .ok (.istore_n 1, 1) := by decide +kernel
theorem d_Md_checks_2 : decode b_Md_checks 2 = .ok (.iconst 0, 1) := by decide +kernel
theorem d_Md_checks_3 : decode b_Md_checks 3 = .ok (.istore_n 2, 1) := by decide +kernel
theorem d_Md_checks_4 : decode b_Md_checks 4 = .ok (.iload_n 2, 1) := by decide +kernel
theorem d_Md_checks_5 : decode b_Md_checks 5 = .ok (.aload_n 0, 1) := by decide +kernel
theorem d_Md_checks_6 : decode b_Md_checks 6 = .ok (.getfield 182, 3) := by decide +kernel
theorem d_Md_checks_9 : decode b_Md_checks 9 = .ok (.iconst 4, 1) := by decide +kernel
theorem d_Md_checks_10 : decode b_Md_checks 10 = .ok (.isub, 1) := by decide +kernel
theorem d_Md_checks_11 : decode b_Md_checks 11 = .ok (.if_icmp .ge 20, 3) := by decide +kernel
theorem d_Md_checks_14 : decode b_Md_checks 14 = .ok (.iload_n 1, 1) := by decide +kernel
theorem d_Md_checks_15 : decode b_Md_checks 15 = .ok (.aload_n 0, 1) := by decide +kernel
theorem d_Md_checks_16 : decode b_Md_checks 16 = .ok (.getfield 78, 3) := by decide +kernel
theorem d_Md_checks_19 : decode b_Md_checks 19 = .ok (.iload_n 2, 1) := by decide +kernel
theorem d_Md_checks_20 : decode b_Md_checks 20 = .ok (.iaload, 1) := by decide +kernel
theorem d_Md_checks_21 : decode b_Md_checks 21 = .ok (.invokestatic 136, 3) := by decide +kernel
theorem d_Md_checks_24 : decode b_Md_checks 24 = .ok (.istore_n 1, 1) := by decide +kernel
theorem d_Md_checks_25 : decode b_Md_checks 25 = .ok (.iinc 2 1, 3) := by decide +kernel
theorem d_Md_checks_28 : decode b_Md_checks 28 = .ok (.goto (-24), 3) := by decide +kernel
theorem d_Md_checks_31 : decode b_Md_checks 31 = .ok (.iconst 0, 1) := by decide +kernel
theorem d_Md_checks_32 : decode b_Md_checks 32 = .ok (.istore_n 2, 1) := by decide +kernel
theorem d_Md_checks_33 : decode b_Md_checks 33 = .ok (.aload_n 0, 1) := by decide +kernel
theorem d_Md_checks_34 : decode b_Md_checks 34 = .ok (.getfield 182, 3) := by decide +kernel
theorem d_Md_checks_37 : decode b_Md_checks 37 = .ok (.iconst 4, 1) := by decide +kernel
theorem d_Md_checks_38 : decode b_Md_checks 38 = .ok (.isub, 1) := by decide +kernel
theorem d_Md_checks_39 : decode b_Md_checks 39 = .ok (.istore_n 3, 1) := by decide +kernel
theorem d_Md_checks_40 : decode b_Md_checks 40 = .ok (.iload_n 3, 1) := by decide +kernel
theorem d_Md_checks_41 : decode b_Md_checks 41 = .ok (.aload_n 0, 1) := by decide +kernel
theorem d_Md_checks_42 : decode b_Md_checks 42 = .ok (.getfield 182, 3) := by decide +kernel
theorem d_Md_checks_45 : decode b_Md_checks 45 = .ok (.if_icmp .ge 21, 3) := by decide +kernel
theorem d_Md_checks_48 : decode b_Md_checks 48 = .ok (.iload_n 2, 1) := by decide +kernel
theorem d_Md_checks_49 : decode b_Md_checks 49 = .ok (.bipush 8, 2) := by decide +kernel
theorem d_Md_checks_51 : decode b_Md_checks 51 = .ok (.ishl, 1) := by decide +kernel
theorem d_Md_checks_52 : decode b_Md_checks 52 = .ok (.aload_n 0, 1) := by decide +kernel
theorem d_Md_checks_53 : decode b_Md_checks 53 = .ok (.getfield 78, 3) := by decide +kernel
theorem d_Md_checks_56 : decode b_Md_checks 56 = .ok (.iload_n 3, 1) := by decide +kernel
theorem d_Md_checks_57 : decode b_Md_checks 57 = .ok (.iaload, 1) := by decide +kernel
theorem d_Md_checks_58 : decode b_Md_checks 58 = .ok (.ior, 1) := by decide +kernel
theorem d_Md_checks_59 : decode b_Md_checks 59 = .ok (.istore_n 2, 1) := by decide +kernel
theorem d_Md_checks_60 : decode b_Md_checks 60 = .ok (.iinc 3 1, 3) := by decide +kernel
theorem d_Md_checks_63 : decode b_Md_checks 63 = .ok (.goto (-23), 3) := by decide +kernel
theorem d_Md_checks_66 : decode b_Md_checks 66 = .ok (.iload_n 1, 1) := by decide +kernel
theorem d_Md_checks_67 : decode b_Md_checks 67 = .ok (.iload_n 2, 1) := by decide +kernel
theorem d_Md_checks_68 : decode b_Md_checks 68 = .ok (.if_icmp .ne 7, 3) := by decide +kernel
theorem d_Md_checks_71 : decode b_Md_checks 71 = .ok (.iconst 1, 1) := by decide +kernel
theorem d_Md_checks_72 : decode b_Md_checks 72 = .ok (.goto 4, 3) := by decide +kernel
theorem d_Md_checks_75 : decode b_Md_checks 75 = .ok (.iconst 0, 1) := by decide +kernel
theorem d_Md_checks_76 : decode b_Md_checks 76 = .ok (.ireturn, 1) := by decide +kernel
theorem d_Md_isList_0 : decode b_Md_isList 0 = .ok (.aload_n 0, 1) := by decide +kernel
theorem d_Md_isList_1 : decode b_Md_isList 1 = .ok (.getfield 78, 3) := by decide +kernel
theorem d_Md_isList_4 : decode b_Md_isList 4 = .ok (.iconst 0, 1) := by decide +kernel
theorem d_Md_isList_5 : decode b_Md_isList 5 = .ok (.iaload, 1) := by decide +kernel
theorem d_Md_isList_6 : decode b_Md_isList 6 = .ok (.bipush 59, 2) := by decide +kernel
theorem d_Md_isList_8 : decode b_Md_isList 8 = .ok (.if_icmp .ne 45, 3) := by decide +kernel
theorem d_Md_isList_11 : decode b_Md_isList 11 = .ok (.aload_n 0, 1) := by decide +kernel
theorem d_Md_isList_12 : decode b_Md_isList 12 = .ok (.getfield 182, 3) := by decide +kernel
theorem d_Md_isList_15 : decode b_Md_isList 15 = .ok (.bipush 9, 2) := by decide +kernel
theorem d_Md_isList_17 : decode b_Md_isList 17 = .ok (.if_icmp .lt 36, 3) := by decide +kernel
theorem d_Md_isList_20 : decode b_Md_isList 20 = .ok (.aload_n 0, 1) := by decide +kernel
theorem d_Md_isList_21 : decode b_Md_isList 21 = .ok (.getfield 182, 3) := by decide +kernel
theorem d_Md_isList_24 : decode b_Md_isList 24 = .ok (.bipush 9, 2) := by decide +kernel
theorem d_Md_isList_26 : decode b_Md_isList 26 = .ok (.iconst 3, 1) := by decide +kernel
theorem d_Md_isList_27 : decode b_Md_isList 27 = .ok (.aload_n 0, 1) := by decide +kernel
theorem d_Md_isList_28 : decode b_Md_isList 28 = .ok (.getfield 78, 3) := by decide +kernel
theorem d_Md_isList_31 : decode b_Md_isList 31 = .ok (.iconst 4, 1) := by decide +kernel
theorem d_Md_isList_32 : decode b_Md_isList 32 = .ok (.iaload, 1) := by decide +kernel
theorem d_Md_isList_33 : decode b_Md_isList 33 = .ok (.imul, 1) := by decide +kernel
theorem d_Md_isList_34 : decode b_Md_isList 34 = .ok (.iadd, 1) := by decide +kernel
theorem d_Md_isList_35 : decode b_Md_isList 35 = .ok (.if_icmp .ne 18, 3) := by decide +kernel
theorem d_Md_isList_38 : decode b_Md_isList 38 = .ok (.aload_n 0, 1) := by decide +kernel
theorem d_Md_isList_39 : decode b_Md_isList 39 = .ok (.getfield 78, 3) := by decide +kernel
theorem d_Md_isList_42 : decode b_Md_isList 42 = .ok (.iconst 4, 1) := by decide +kernel
theorem d_Md_isList_43 : decode b_Md_isList 43 = .ok (.iaload, 1) := by decide +kernel
theorem d_Md_isList_44 : decode b_Md_isList 44 = .ok (.iconst 1, 1) := by decide +kernel
theorem d_Md_isList_45 : decode b_Md_isList 45 = .ok (.bipush 12, 2) := by decide +kernel
theorem d_Md_isList_47 : decode b_Md_isList 47 = .ok (.invokestatic 84, 3) := by decide +kernel
theorem d_Md_isList_50 : decode b_Md_isList 50 = .ok (.ifCond .ne 5, 3) := by decide +kernel
theorem d_Md_isList_53 : decode b_Md_isList 53 = .ok (.iconst 0, 1) := by decide +kernel
theorem d_Md_isList_54 : decode b_Md_isList 54 = .ok (.ireturn, 1) := by decide +kernel
theorem d_Md_isList_55 : decode b_Md_isList 55 = .ok (.iconst 1, 1) := by decide +kernel
theorem d_Md_isList_56 : decode b_Md_isList 56 = .ok (.istore_n 1, 1) := by decide +kernel
theorem d_Md_isList_57 : decode b_Md_isList 57 = .ok (.iconst 0, 1) := by decide +kernel
theorem d_Md_isList_58 : decode b_Md_isList 58 = .ok (.istore_n 2, 1) := by decide +kernel
theorem d_Md_isList_59 : decode b_Md_isList 59 = .ok (.iload_n 2, 1) := by decide +kernel
theorem d_Md_isList_60 : decode b_Md_isList 60 = .ok (.aload_n 0, 1) := by decide +kernel
theorem d_Md_isList_61 : decode b_Md_isList 61 = .ok (.getfield 78, 3) := by decide +kernel
theorem d_Md_isList_64 : decode b_Md_isList 64 = .ok (.iconst 4, 1) := by decide +kernel
theorem d_Md_isList_65 : decode b_Md_isList 65 = .ok (.iaload, 1) := by decide +kernel
theorem d_Md_isList_66 : decode b_Md_isList 66 = .ok (.if_icmp .ge 38, 3) := by decide +kernel
theorem d_Md_isList_69 : decode b_Md_isList 69 = .ok (.iload_n 1, 1) := by decide +kernel
theorem d_Md_isList_70 : decode b_Md_isList 70 = .ok (.ifCond .eq 26, 3) := by decide +kernel
theorem d_Md_isList_73 : decode b_Md_isList 73 = .ok (.aload_n 0, 1) := by decide +kernel
theorem d_Md_isList_74 : decode b_Md_isList 74 = .ok (.getfield 78, 3) := by decide +kernel
theorem d_Md_isList_77 : decode b_Md_isList 77 = .ok (.iconst 5, 1) := by decide +kernel
theorem d_Md_isList_78 : decode b_Md_isList 78 = .ok (.iconst 3, 1) := by decide +kernel
theorem d_Md_isList_79 : decode b_Md_isList 79 = .ok (.iload_n 2, 1) := by decide +kernel
theorem d_Md_isList_80 : decode b_Md_isList 80 = .ok (.imul, 1) := by decide +kernel
theorem d_Md_isList_81 : decode b_Md_isList 81 = .ok (.iadd, 1) := by decide +kernel
theorem d_Md_isList_82 : decode b_Md_isList 82 = .ok (.iaload, 1) := by decide +kernel
theorem d_Md_isList_83 : decode b_Md_isList 83 = .ok (.iconst 1, 1) := by decide +kernel
theorem d_Md_isList_84 : decode b_Md_isList 84 = .ok (.bipush 48, 2) := by decide +kernel
theorem d_Md_isList_86 : decode b_Md_isList 86 = .ok (.invokestatic 84, 3) := by decide +kernel
theorem d_Md_isList_89 : decode b_Md_isList 89 = .ok (.ifCond .eq 7, 3) := by decide +kernel
theorem d_Md_isList_92 : decode b_Md_isList 92 = .ok (.iconst 1, 1) := by decide +kernel
theorem d_Md_isList_93 : decode b_Md_isList 93 = .ok (.goto 4, 3) := by decide +kernel
theorem d_Md_isList_96 : decode b_Md_isList 96 = .ok (.iconst 0, 1) := by decide +kernel
theorem d_Md_isList_97 : decode b_Md_isList 97 = .ok (.istore_n 1, 1) := by decide +kernel
theorem d_Md_isList_98 : decode b_Md_isList 98 = .ok (.iinc 2 1, 3) := by decide +kernel
theorem d_Md_isList_101 : decode b_Md_isList 101 = .ok (.goto (-42), 3) := by decide +kernel
theorem d_Md_isList_104 : decode b_Md_isList 104 = .ok (.iload_n 1, 1) := by decide +kernel
theorem d_Md_isList_105 : decode b_Md_isList 105 = .ok (.ireturn, 1) := by decide +kernel
theorem d_Md_fits_0 : decode b_Md_fits 0 = .ok (.aload_n 0, 1) := by decide +kernel
theorem d_Md_fits_1 : decode b_Md_fits 1 = .ok (.getfield 78, 3) := by decide +kernel
theorem d_Md_fits_4 : decode b_Md_fits 4 = .ok (.iconst 2, 1) := by decide +kernel
theorem d_Md_fits_5 : decode b_Md_fits 5 = .ok (.iaload, 1) := by decide +kernel
theorem d_Md_fits_6 : decode b_Md_fits 6 = .ok (.istore_n 1, 1) := by decide +kernel
theorem d_Md_fits_7 : decode b_Md_fits 7 = .ok (.iload_n 1, 1) := by decide +kernel
theorem d_Md_fits_8 : decode b_Md_fits 8 = .ok (.bipush 11, 2) := by decide +kernel
theorem d_Md_fits_10 : decode b_Md_fits 10 = .ok (.if_icmp .gt 26, 3) := by decide +kernel
theorem d_Md_fits_13 : decode b_Md_fits 13 = .ok (.aload_n 0, 1) := by decide +kernel
theorem d_Md_fits_14 : decode b_Md_fits 14 = .ok (.getfield 63, 3) := by decide +kernel
theorem d_Md_fits_17 : decode b_Md_fits 17 = .ok (.iload_n 1, 1) := by decide +kernel
theorem d_Md_fits_18 : decode b_Md_fits 18 = .ok (.baload, 1) := by decide +kernel
theorem d_Md_fits_19 : decode b_Md_fits 19 = .ok (.ifCond .eq 17, 3) := by decide +kernel
theorem d_Md_fits_22 : decode b_Md_fits 22 = .ok (.aload_n 0, 1) := by decide +kernel
theorem d_Md_fits_23 : decode b_Md_fits 23 = .ok (.getfield 66, 3) := by decide +kernel
theorem d_Md_fits_26 : decode b_Md_fits 26 = .ok (.iload_n 1, 1) := by decide +kernel
theorem d_Md_fits_27 : decode b_Md_fits 27 = .ok (.iaload, 1) := by decide +kernel
theorem d_Md_fits_28 : decode b_Md_fits 28 = .ok (.aload_n 0, 1) := by decide +kernel
theorem d_Md_fits_29 : decode b_Md_fits 29 = .ok (.iconst 3, 1) := by decide +kernel
theorem d_Md_fits_30 : decode b_Md_fits 30 = .ok (.invokevirtual 207, 3) := by decide +kernel
theorem d_Md_fits_33 : decode b_Md_fits 33 = .ok (.if_icmp .eq 5, 3) := by decide +kernel
theorem d_Md_fits_36 : decode b_Md_fits 36 = .ok (.iconst 0, 1) := by decide +kernel
theorem d_Md_fits_37 : decode b_Md_fits 37 = .ok (.ireturn, 1) := by decide +kernel
theorem d_Md_fits_38 : decode b_Md_fits 38 = .ok (.aload_n 0, 1) := by decide +kernel
theorem d_Md_fits_39 : decode b_Md_fits 39 = .ok (.getfield 69, 3) := by decide +kernel
theorem d_Md_fits_42 : decode b_Md_fits 42 = .ok (.iload_n 1, 1) := by decide +kernel
theorem d_Md_fits_43 : decode b_Md_fits 43 = .ok (.iaload, 1) := by decide +kernel
theorem d_Md_fits_44 : decode b_Md_fits 44 = .ok (.bipush 8, 2) := by decide +kernel
theorem d_Md_fits_46 : decode b_Md_fits 46 = .ok (.aload_n 0, 1) := by decide +kernel
theorem d_Md_fits_47 : decode b_Md_fits 47 = .ok (.getfield 78, 3) := by decide +kernel
theorem d_Md_fits_50 : decode b_Md_fits 50 = .ok (.iconst 5, 1) := by decide +kernel
theorem d_Md_fits_51 : decode b_Md_fits 51 = .ok (.iaload, 1) := by decide +kernel
theorem d_Md_fits_52 : decode b_Md_fits 52 = .ok (.imul, 1) := by decide +kernel
theorem d_Md_fits_53 : decode b_Md_fits 53 = .ok (.isub, 1) := by decide +kernel
theorem d_Md_fits_54 : decode b_Md_fits 54 = .ok (.istore_n 2, 1) := by decide +kernel
theorem d_Md_fits_55 : decode b_Md_fits 55 = .ok (.iload_n 2, 1) := by decide +kernel
theorem d_Md_fits_56 : decode b_Md_fits 56 = .ok (.ifCond .le 29, 3) := by decide +kernel
theorem d_Md_fits_59 : decode b_Md_fits 59 = .ok (.aload_n 0, 1) := by decide +kernel
theorem d_Md_fits_60 : decode b_Md_fits 60 = .ok (.getfield 182, 3) := by decide +kernel
theorem d_Md_fits_63 : decode b_Md_fits 63 = .ok (.bipush 10, 2) := by decide +kernel
theorem d_Md_fits_65 : decode b_Md_fits 65 = .ok (.isub, 1) := by decide +kernel
theorem d_Md_fits_66 : decode b_Md_fits 66 = .ok (.iload_n 2, 1) := by decide +kernel
theorem d_Md_fits_67 : decode b_Md_fits 67 = .ok (.bipush 8, 2) := by decide +kernel
theorem d_Md_fits_69 : decode b_Md_fits 69 = .ok (.if_icmp .ge 7, 3) := by decide +kernel
theorem d_Md_fits_72 : decode b_Md_fits 72 = .ok (.iload_n 2, 1) := by decide +kernel
theorem d_Md_fits_73 : decode b_Md_fits 73 = .ok (.goto 5, 3) := by decide +kernel
theorem d_Md_fits_76 : decode b_Md_fits 76 = .ok (.bipush 8, 2) := by decide +kernel
theorem d_Md_fits_78 : decode b_Md_fits 78 = .ok (.if_icmp .ne 7, 3) := by decide +kernel
theorem d_Md_fits_81 : decode b_Md_fits 81 = .ok (.iconst 1, 1) := by decide +kernel
theorem d_Md_fits_82 : decode b_Md_fits 82 = .ok (.goto 4, 3) := by decide +kernel
theorem d_Md_fits_85 : decode b_Md_fits 85 = .ok (.iconst 0, 1) := by decide +kernel
theorem d_Md_fits_86 : decode b_Md_fits 86 = .ok (.ireturn, 1) := by decide +kernel
theorem d_Md_block_0 : decode b_Md_block 0 = .ok (.aload_n 0, 1) := by decide +kernel
theorem d_Md_block_1 : decode b_Md_block 1 = .ok (.getfield 81, 3) := by decide +kernel
theorem d_Md_block_4 : decode b_Md_block 4 = .ok (.iconst 1, 1) := by decide +kernel
theorem d_Md_block_5 : decode b_Md_block 5 = .ok (.dup2, 1) := by decide +kernel
theorem d_Md_block_6 : decode b_Md_block 6 = .ok (.iaload, 1) := by decide +kernel
theorem d_Md_block_7 : decode b_Md_block 7 = .ok (.iconst 1, 1) := by decide +kernel
theorem d_Md_block_8 : decode b_Md_block 8 = .ok (.iadd, 1) := by decide +kernel
theorem d_Md_block_9 : decode b_Md_block 9 = .ok (.iastore, 1) := by decide +kernel
theorem d_Md_block_10 : decode b_Md_block 10 = .ok (.aload_n 0, 1) := by decide +kernel
theorem d_Md_block_11 : decode b_Md_block 11 = .ok (.getfield 78, 3) := by decide +kernel
theorem d_Md_block_14 : decode b_Md_block 14 = .ok (.iconst 2, 1) := by decide +kernel
theorem d_Md_block_15 : decode b_Md_block 15 = .ok (.iaload, 1) := by decide +kernel
theorem d_Md_block_16 : decode b_Md_block 16 = .ok (.istore_n 1, 1) := by decide +kernel
theorem d_Md_block_17 : decode b_Md_block 17 = .ok (.aload_n 0, 1) := by decide +kernel
theorem d_Md_block_18 : decode b_Md_block 18 = .ok (.getfield 72, 3) := by decide +kernel
theorem d_Md_block_21 : decode b_Md_block 21 = .ok (.bipush 6, 2) := by decide +kernel
theorem d_Md_block_23 : decode b_Md_block 23 = .ok (.iload_n 1, 1) := by decide +kernel
theorem d_Md_block_24 : decode b_Md_block 24 = .ok (.imul, 1) := by decide +kernel
theorem d_Md_block_25 : decode b_Md_block 25 = .ok (.aload_n 0, 1) := by decide +kernel
theorem d_Md_block_26 : decode b_Md_block 26 = .ok (.getfield 78, 3) := by decide +kernel
theorem d_Md_block_29 : decode b_Md_block 29 = .ok (.iconst 5, 1) := by decide +kernel
theorem d_Md_block_30 : decode b_Md_block 30 = .ok (.iaload, 1) := by decide +kernel
theorem d_Md_block_31 : decode b_Md_block 31 = .ok (.iadd, 1) := by decide +kernel
theorem d_Md_block_32 : decode b_Md_block 32 = .ok (.iconst 1, 1) := by decide +kernel
theorem d_Md_block_33 : decode b_Md_block 33 = .ok (.bastore, 1) := by decide +kernel
theorem d_Md_block_34 : decode b_Md_block 34 = .ok (.iconst 0, 1) := by decide +kernel
theorem d_Md_block_35 : decode b_Md_block 35 = .ok (.istore_n 2, 1) := by decide +kernel
theorem d_Md_block_36 : decode b_Md_block 36 = .ok (.iload_n 2, 1) := by decide +kernel
theorem d_Md_block_37 : decode b_Md_block 37 = .ok (.aload_n 0, 1) := by decide +kernel
theorem d_Md_block_38 : decode b_Md_block 38 = .ok (.getfield 182, 3) := by decide +kernel
theorem d_Md_block_41 : decode b_Md_block 41 = .ok (.bipush 10, 2) := by decide +kernel
theorem d_Md_block_43 : decode b_Md_block 43 = .ok (.isub, 1) := by decide +kernel
theorem d_Md_block_44 : decode b_Md_block 44 = .ok (.if_icmp .ge 39, 3) := by decide +kernel
theorem d_Md_block_47 : decode b_Md_block 47 = .ok (.aload_n 0, 1) := by decide +kernel
theorem d_Md_block_48 : decode b_Md_block 48 = .ok (.getfield 75, 3) := by decide +kernel
theorem d_Md_block_51 : decode b_Md_block 51 = .ok (.bipush 48, 2) := by decide +kernel
theorem d_Md_block_53 : decode b_Md_block 53 = .ok (.iload_n 1, 1) := by decide +kernel
theorem d_Md_block_54 : decode b_Md_block 54 = .ok (.imul, 1) := by decide +kernel
theorem d_Md_block_55 : decode b_Md_block 55 = .ok (.bipush 8, 2) := by decide +kernel
theorem d_Md_block_57 : decode b_Md_block 57 = .ok (.aload_n 0, 1) := by decide +kernel
theorem d_Md_block_58 : decode b_Md_block 58 = .ok (.getfield 78, 3) := by decide +kernel
theorem d_Md_block_61 : decode b_Md_block 61 = .ok (.iconst 5, 1) := by decide +kernel
theorem d_Md_block_62 : decode b_Md_block 62 = .ok (.iaload, 1) := by decide +kernel
theorem d_Md_block_63 : decode b_Md_block 63 = .ok (.imul, 1) := by decide +kernel
theorem d_Md_block_64 : decode b_Md_block 64 = .ok (.iadd, 1) := by decide +kernel
theorem d_Md_block_65 : decode b_Md_block 65 = .ok (.iload_n 2, 1) := by decide +kernel
theorem d_Md_block_66 : decode b_Md_block 66 = .ok (.iadd, 1) := by decide +kernel
theorem d_Md_block_67 : decode b_Md_block 67 = .ok (.aload_n 0, 1) := by decide +kernel
theorem d_Md_block_68 : decode b_Md_block 68 = .ok (.getfield 78, 3) := by decide +kernel
theorem d_Md_block_71 : decode b_Md_block 71 = .ok (.bipush 6, 2) := by decide +kernel
theorem d_Md_block_73 : decode b_Md_block 73 = .ok (.iload_n 2, 1) := by decide +kernel
theorem d_Md_block_74 : decode b_Md_block 74 = .ok (.iadd, 1) := by decide +kernel
theorem d_Md_block_75 : decode b_Md_block 75 = .ok (.iaload, 1) := by decide +kernel
theorem d_Md_block_76 : decode b_Md_block 76 = .ok (.iastore, 1) := by decide +kernel
theorem d_Md_block_77 : decode b_Md_block 77 = .ok (.iinc 2 1, 3) := by decide +kernel
theorem d_Md_block_80 : decode b_Md_block 80 = .ok (.goto (-44), 3) := by decide +kernel
theorem d_Md_block_83 : decode b_Md_block 83 = .ok (.return_, 1) := by decide +kernel
theorem d_Md_count_0 : decode b_Md_count 0 = .ok (.iload_n 1, 1) := by decide +kernel
theorem d_Md_count_1 : decode b_Md_count 1 = .ok (.iconst 0, 1) := by decide +kernel
theorem d_Md_count_2 : decode b_Md_count 2 = .ok (.iconst 5, 1) := by decide +kernel
theorem d_Md_count_3 : decode b_Md_count 3 = .ok (.invokestatic 84, 3) := by decide +kernel
theorem d_Md_count_6 : decode b_Md_count 6 = .ok (.ifCond .eq 12, 3) := by decide +kernel
theorem d_Md_count_9 : decode b_Md_count 9 = .ok (.aload_n 0, 1) := by decide +kernel
theorem d_Md_count_10 : decode b_Md_count 10 = .ok (.getfield 81, 3) := by decide +kernel
theorem d_Md_count_13 : decode b_Md_count 13 = .ok (.iload_n 1, 1) := by decide +kernel
theorem d_Md_count_14 : decode b_Md_count 14 = .ok (.iaload, 1) := by decide +kernel
theorem d_Md_count_15 : decode b_Md_count 15 = .ok (.goto 4, 3) := by decide +kernel
theorem d_Md_count_18 : decode b_Md_count 18 = .ok (.iconst (-1), 1) := by decide +kernel
theorem d_Md_count_19 : decode b_Md_count 19 = .ok (.ireturn, 1) := by decide +kernel
theorem d_Md_heldOf_0 : decode b_Md_heldOf 0 = .ok (.iconst 0, 1) := by decide +kernel
theorem d_Md_heldOf_1 : decode b_Md_heldOf 1 = .ok (.istore_n 2, 1) := by decide +kernel
theorem d_Md_heldOf_2 : decode b_Md_heldOf 2 = .ok (.bipush 6, 2) := by decide +kernel
theorem d_Md_heldOf_4 : decode b_Md_heldOf 4 = .ok (.iload_n 1, 1) := by decide +kernel
theorem d_Md_heldOf_5 : decode b_Md_heldOf 5 = .ok (.imul, 1) := by decide +kernel
theorem d_Md_heldOf_6 : decode b_Md_heldOf 6 = .ok (.istore_n 3, 1) := by decide +kernel
theorem d_Md_heldOf_7 : decode b_Md_heldOf 7 = .ok (.iload_n 3, 1) := by decide +kernel
theorem d_Md_heldOf_8 : decode b_Md_heldOf 8 = .ok (.bipush 6, 2) := by decide +kernel
theorem d_Md_heldOf_10 : decode b_Md_heldOf 10 = .ok (.iload_n 1, 1) := by decide +kernel
theorem d_Md_heldOf_11 : decode b_Md_heldOf 11 = .ok (.imul, 1) := by decide +kernel
theorem d_Md_heldOf_12 : decode b_Md_heldOf 12 = .ok (.bipush 6, 2) := by decide +kernel
theorem d_Md_heldOf_14 : decode b_Md_heldOf 14 = .ok (.iadd, 1) := by decide +kernel
theorem d_Md_heldOf_15 : decode b_Md_heldOf 15 = .ok (.if_icmp .ge 26, 3) := by decide +kernel
theorem d_Md_heldOf_18 : decode b_Md_heldOf 18 = .ok (.aload_n 0, 1) := by decide +kernel
theorem d_Md_heldOf_19 : decode b_Md_heldOf 19 = .ok (.getfield 72, 3) := by decide +kernel
theorem d_Md_heldOf_22 : decode b_Md_heldOf 22 = .ok (.iload_n 3, 1) := by decide +kernel
theorem d_Md_heldOf_23 : decode b_Md_heldOf 23 = .ok (.baload, 1) := by decide +kernel
theorem d_Md_heldOf_24 : decode b_Md_heldOf 24 = .ok (.ifCond .eq 9, 3) := by decide +kernel
theorem d_Md_heldOf_27 : decode b_Md_heldOf 27 = .ok (.iload_n 2, 1) := by decide +kernel
theorem d_Md_heldOf_28 : decode b_Md_heldOf 28 = .ok (.iconst 1, 1) := by decide +kernel
theorem d_Md_heldOf_29 : decode b_Md_heldOf 29 = .ok (.iadd, 1) := by decide +kernel
theorem d_Md_heldOf_30 : decode b_Md_heldOf 30 = .ok (.goto 4, 3) := by decide +kernel
theorem d_Md_heldOf_33 : decode b_Md_heldOf 33 = .ok (.iload_n 2, 1) := by decide +kernel
theorem d_Md_heldOf_34 : decode b_Md_heldOf 34 = .ok (.istore_n 2, 1) := by decide +kernel
theorem d_Md_heldOf_35 : decode b_Md_heldOf 35 = .ok (.iinc 3 1, 3) := by decide +kernel
theorem d_Md_heldOf_38 : decode b_Md_heldOf 38 = .ok (.goto (-31), 3) := by decide +kernel
theorem d_Md_heldOf_41 : decode b_Md_heldOf 41 = .ok (.iload_n 2, 1) := by decide +kernel
theorem d_Md_heldOf_42 : decode b_Md_heldOf 42 = .ok (.ireturn, 1) := by decide +kernel
theorem d_Md_held_0 : decode b_Md_held 0 = .ok (.iload_n 1, 1) := by decide +kernel
theorem d_Md_held_1 : decode b_Md_held 1 = .ok (.iconst 0, 1) := by decide +kernel
theorem d_Md_held_2 : decode b_Md_held 2 = .ok (.bipush 11, 2) := by decide +kernel
theorem d_Md_held_4 : decode b_Md_held 4 = .ok (.invokestatic 84, 3) := by decide +kernel
theorem d_Md_held_7 : decode b_Md_held 7 = .ok (.ifCond .eq 20, 3) := by decide +kernel
theorem d_Md_held_10 : decode b_Md_held 10 = .ok (.aload_n 0, 1) := by decide +kernel
theorem d_Md_held_11 : decode b_Md_held 11 = .ok (.getfield 63, 3) := by decide +kernel
theorem d_Md_held_14 : decode b_Md_held 14 = .ok (.iload_n 1, 1) := by decide +kernel
theorem d_Md_held_15 : decode b_Md_held 15 = .ok (.baload, 1) := by decide +kernel
theorem d_Md_held_16 : decode b_Md_held 16 = .ok (.ifCond .eq 11, 3) := by decide +kernel
theorem d_Md_held_19 : decode b_Md_held 19 = .ok (.aload_n 0, 1) := by decide +kernel
theorem d_Md_held_20 : decode b_Md_held 20 = .ok (.iload_n 1, 1) := by decide +kernel
theorem d_Md_held_21 : decode b_Md_held 21 = .ok (.invokevirtual 210, 3) := by decide +kernel
theorem d_Md_held_24 : decode b_Md_held 24 = .ok (.goto 5, 3) := by decide +kernel
theorem d_Md_held_27 : decode b_Md_held 27 = .ok (.bipush (-2), 2) := by decide +kernel
theorem d_Md_held_29 : decode b_Md_held 29 = .ok (.ireturn, 1) := by decide +kernel
theorem d_Md_first_0 : decode b_Md_first 0 = .ok (.iconst 0, 1) := by decide +kernel
theorem d_Md_first_1 : decode b_Md_first 1 = .ok (.istore_n 3, 1) := by decide +kernel
theorem d_Md_first_2 : decode b_Md_first 2 = .ok (.aload_n 0, 1) := by decide +kernel
theorem d_Md_first_3 : decode b_Md_first 3 = .ok (.iload_n 1, 1) := by decide +kernel
theorem d_Md_first_4 : decode b_Md_first 4 = .ok (.iload_n 3, 1) := by decide +kernel
theorem d_Md_first_5 : decode b_Md_first 5 = .ok (.invokevirtual 213, 3) := by decide +kernel
theorem d_Md_first_8 : decode b_Md_first 8 = .ok (.ifCond .eq 52, 3) := by decide +kernel
theorem d_Md_first_11 : decode b_Md_first 11 = .ok (.iload_n 2, 1) := by decide +kernel
theorem d_Md_first_12 : decode b_Md_first 12 = .ok (.ifCond .lt 20, 3) := by decide +kernel
theorem d_Md_first_15 : decode b_Md_first 15 = .ok (.aload_n 0, 1) := by decide +kernel
theorem d_Md_first_16 : decode b_Md_first 16 = .ok (.getfield 75, 3) := by decide +kernel
theorem d_Md_first_19 : decode b_Md_first 19 = .ok (.bipush 48, 2) := by decide +kernel
theorem d_Md_first_21 : decode b_Md_first 21 = .ok (.iload_n 1, 1) := by decide +kernel
theorem d_Md_first_22 : decode b_Md_first 22 = .ok (.imul, 1) := by decide +kernel
theorem d_Md_first_23 : decode b_Md_first 23 = .ok (.iload_n 3, 1) := by decide +kernel
theorem d_Md_first_24 : decode b_Md_first 24 = .ok (.iadd, 1) := by decide +kernel
theorem d_Md_first_25 : decode b_Md_first 25 = .ok (.iconst 1, 1) := by decide +kernel
theorem d_Md_first_26 : decode b_Md_first 26 = .ok (.iadd, 1) := by decide +kernel
theorem d_Md_first_27 : decode b_Md_first 27 = .ok (.iaload, 1) := by decide +kernel
theorem d_Md_first_28 : decode b_Md_first 28 = .ok (.iload_n 2, 1) := by decide +kernel
theorem d_Md_first_29 : decode b_Md_first 29 = .ok (.if_icmp .ne 10, 3) := by decide +kernel
theorem d_Md_first_32 : decode b_Md_first 32 = .ok (.bipush 48, 2) := by decide +kernel
theorem d_Md_first_34 : decode b_Md_first 34 = .ok (.iload_n 1, 1) := by decide +kernel
theorem d_Md_first_35 : decode b_Md_first 35 = .ok (.imul, 1) := by decide +kernel
theorem d_Md_first_36 : decode b_Md_first 36 = .ok (.iload_n 3, 1) := by decide +kernel
theorem d_Md_first_37 : decode b_Md_first 37 = .ok (.iadd, 1) := by decide +kernel
theorem d_Md_first_38 : decode b_Md_first 38 = .ok (.ireturn, 1) := by decide +kernel
theorem d_Md_first_39 : decode b_Md_first 39 = .ok (.iload_n 3, 1) := by decide +kernel
theorem d_Md_first_40 : decode b_Md_first 40 = .ok (.iconst 3, 1) := by decide +kernel
theorem d_Md_first_41 : decode b_Md_first 41 = .ok (.iadd, 1) := by decide +kernel
theorem d_Md_first_42 : decode b_Md_first 42 = .ok (.aload_n 0, 1) := by decide +kernel
theorem d_Md_first_43 : decode b_Md_first 43 = .ok (.getfield 75, 3) := by decide +kernel
theorem d_Md_first_46 : decode b_Md_first 46 = .ok (.bipush 48, 2) := by decide +kernel
theorem d_Md_first_48 : decode b_Md_first 48 = .ok (.iload_n 1, 1) := by decide +kernel
theorem d_Md_first_49 : decode b_Md_first 49 = .ok (.imul, 1) := by decide +kernel
theorem d_Md_first_50 : decode b_Md_first 50 = .ok (.iload_n 3, 1) := by decide +kernel
theorem d_Md_first_51 : decode b_Md_first 51 = .ok (.iadd, 1) := by decide +kernel
theorem d_Md_first_52 : decode b_Md_first 52 = .ok (.iconst 2, 1) := by decide +kernel
theorem d_Md_first_53 : decode b_Md_first 53 = .ok (.iadd, 1) := by decide +kernel
theorem d_Md_first_54 : decode b_Md_first 54 = .ok (.iaload, 1) := by decide +kernel
theorem d_Md_first_55 : decode b_Md_first 55 = .ok (.iadd, 1) := by decide +kernel
theorem d_Md_first_56 : decode b_Md_first 56 = .ok (.istore_n 3, 1) := by decide +kernel
theorem d_Md_first_57 : decode b_Md_first 57 = .ok (.goto (-55), 3) := by decide +kernel
theorem d_Md_first_60 : decode b_Md_first 60 = .ok (.bipush (-2), 2) := by decide +kernel
theorem d_Md_first_62 : decode b_Md_first 62 = .ok (.ireturn, 1) := by decide +kernel
theorem d_Md_gateway_0 : decode b_Md_gateway 0 = .ok (.aload_n 0, 1) := by decide +kernel
theorem d_Md_gateway_1 : decode b_Md_gateway 1 = .ok (.iconst 0, 1) := by decide +kernel
theorem d_Md_gateway_2 : decode b_Md_gateway 2 = .ok (.invokevirtual 217, 3) := by decide +kernel
theorem d_Md_gateway_5 : decode b_Md_gateway 5 = .ok (.istore_n 1, 1) := by decide +kernel
theorem d_Md_gateway_6 : decode b_Md_gateway 6 = .ok (.iload_n 1, 1) := by decide +kernel
theorem d_Md_gateway_7 : decode b_Md_gateway 7 = .ok (.ifCond .eq 5, 3) := by decide +kernel
theorem d_Md_gateway_10 : decode b_Md_gateway 10 = .ok (.iload_n 1, 1) := by decide +kernel
theorem d_Md_gateway_11 : decode b_Md_gateway 11 = .ok (.ireturn, 1) := by decide +kernel
theorem d_Md_gateway_12 : decode b_Md_gateway 12 = .ok (.aload_n 0, 1) := by decide +kernel
theorem d_Md_gateway_13 : decode b_Md_gateway 13 = .ok (.iconst 0, 1) := by decide +kernel
theorem d_Md_gateway_14 : decode b_Md_gateway 14 = .ok (.iconst (-1), 1) := by decide +kernel
theorem d_Md_gateway_15 : decode b_Md_gateway 15 = .ok (.invokevirtual 220, 3) := by decide +kernel
theorem d_Md_gateway_18 : decode b_Md_gateway 18 = .ok (.istore_n 2, 1) := by decide +kernel
theorem d_Md_gateway_19 : decode b_Md_gateway 19 = .ok (.iload_n 2, 1) := by decide +kernel
theorem d_Md_gateway_20 : decode b_Md_gateway 20 = .ok (.ifCond .lt 17, 3) := by decide +kernel
theorem d_Md_gateway_23 : decode b_Md_gateway 23 = .ok (.aload_n 0, 1) := by decide +kernel
theorem d_Md_gateway_24 : decode b_Md_gateway 24 = .ok (.getfield 75, 3) := by decide +kernel
theorem d_Md_gateway_27 : decode b_Md_gateway 27 = .ok (.iload_n 2, 1) := by decide +kernel
theorem d_Md_gateway_28 : decode b_Md_gateway 28 = .ok (.iaload, 1) := by decide +kernel
theorem d_Md_gateway_29 : decode b_Md_gateway 29 = .ok (.iconst 1, 1) := by decide +kernel
theorem d_Md_gateway_30 : decode b_Md_gateway 30 = .ok (.if_icmp .ne 7, 3) := by decide +kernel
theorem d_Md_gateway_33 : decode b_Md_gateway 33 = .ok (.iload_n 2, 1) := by decide +kernel
theorem d_Md_gateway_34 : decode b_Md_gateway 34 = .ok (.goto 5, 3) := by decide +kernel
theorem d_Md_gateway_37 : decode b_Md_gateway 37 = .ok (.bipush (-2), 2) := by decide +kernel
theorem d_Md_gateway_39 : decode b_Md_gateway 39 = .ok (.ireturn, 1) := by decide +kernel
theorem d_Md_enter_0 : decode b_Md_enter 0 = .ok (.aload_n 0, 1) := by decide +kernel
theorem d_Md_enter_1 : decode b_Md_enter 1 = .ok (.getfield 75, 3) := by decide +kernel
theorem d_Md_enter_4 : decode b_Md_enter 4 = .ok (.iload_n 1, 1) := by decide +kernel
theorem d_Md_enter_5 : decode b_Md_enter 5 = .ok (.iaload, 1) := by decide +kernel
theorem d_Md_enter_6 : decode b_Md_enter 6 = .ok (.iconst 1, 1) := by decide +kernel
theorem d_Md_enter_7 : decode b_Md_enter 7 = .ok (.if_icmp .eq 16, 3) := by decide +kernel
theorem d_Md_enter_10 : decode b_Md_enter 10 = .ok (.aload_n 0, 1) := by decide +kernel
theorem d_Md_enter_11 : decode b_Md_enter 11 = .ok (.getfield 75, 3) := by decide +kernel
theorem d_Md_enter_14 : decode b_Md_enter 14 = .ok (.iload_n 1, 1) := by decide +kernel
theorem d_Md_enter_15 : decode b_Md_enter 15 = .ok (.iaload, 1) := by decide +kernel
theorem d_Md_enter_16 : decode b_Md_enter 16 = .ok (.iconst 2, 1) := by decide +kernel
theorem d_Md_enter_17 : decode b_Md_enter 17 = .ok (.if_icmp .eq 6, 3) := by decide +kernel
theorem d_Md_enter_20 : decode b_Md_enter 20 = .ok (.bipush (-2), 2) := by decide +kernel
theorem d_Md_enter_22 : decode b_Md_enter 22 = .ok (.ireturn, 1) := by decide +kernel
theorem d_Md_enter_23 : decode b_Md_enter 23 = .ok (.aload_n 0, 1) := by decide +kernel
theorem d_Md_enter_24 : decode b_Md_enter 24 = .ok (.getfield 75, 3) := by decide +kernel
theorem d_Md_enter_27 : decode b_Md_enter 27 = .ok (.iload_n 1, 1) := by decide +kernel
theorem d_Md_enter_28 : decode b_Md_enter 28 = .ok (.iconst 2, 1) := by decide +kernel
theorem d_Md_enter_29 : decode b_Md_enter 29 = .ok (.iadd, 1) := by decide +kernel
theorem d_Md_enter_30 : decode b_Md_enter 30 = .ok (.iaload, 1) := by decide +kernel
theorem d_Md_enter_31 : decode b_Md_enter 31 = .ok (.iconst 4, 1) := by decide +kernel
theorem d_Md_enter_32 : decode b_Md_enter 32 = .ok (.idiv, 1) := by decide +kernel
theorem d_Md_enter_33 : decode b_Md_enter 33 = .ok (.istore_n 3, 1) := by decide +kernel
theorem d_Md_enter_34 : decode b_Md_enter 34 = .ok (.iconst 0, 1) := by decide +kernel
theorem d_Md_enter_35 : decode b_Md_enter 35 = .ok (.istore 4, 2) := by decide +kernel
theorem d_Md_enter_37 : decode b_Md_enter 37 = .ok (.iload 4, 2) := by decide +kernel
theorem d_Md_enter_39 : decode b_Md_enter 39 = .ok (.iload_n 3, 1) := by decide +kernel
theorem d_Md_enter_40 : decode b_Md_enter 40 = .ok (.if_icmp .ge 78, 3) := by decide +kernel
theorem d_Md_enter_43 : decode b_Md_enter 43 = .ok (.iload_n 1, 1) := by decide +kernel
theorem d_Md_enter_44 : decode b_Md_enter 44 = .ok (.iconst 3, 1) := by decide +kernel
theorem d_Md_enter_45 : decode b_Md_enter 45 = .ok (.iadd, 1) := by decide +kernel
theorem d_Md_enter_46 : decode b_Md_enter 46 = .ok (.iconst 4, 1) := by decide +kernel
theorem d_Md_enter_47 : decode b_Md_enter 47 = .ok (.iload 4, 2) := by decide +kernel
theorem d_Md_enter_49 : decode b_Md_enter 49 = .ok (.imul, 1) := by decide +kernel
theorem d_Md_enter_50 : decode b_Md_enter 50 = .ok (.iadd, 1) := by decide +kernel
theorem d_Md_enter_51 : decode b_Md_enter 51 = .ok (.istore 5, 2) := by decide +kernel
theorem d_Md_enter_53 : decode b_Md_enter 53 = .ok (.aload_n 0, 1) := by decide +kernel
theorem d_Md_enter_54 : decode b_Md_enter 54 = .ok (.getfield 75, 3) := by decide +kernel
theorem d_Md_enter_57 : decode b_Md_enter 57 = .ok (.iload 5, 2) := by decide +kernel
theorem d_Md_enter_59 : decode b_Md_enter 59 = .ok (.iaload, 1) := by decide +kernel
theorem d_Md_enter_60 : decode b_Md_enter 60 = .ok (.iload_n 2, 1) := by decide +kernel
theorem d_Md_enter_61 : decode b_Md_enter 61 = .ok (.if_icmp .ne 51, 3) := by decide +kernel
theorem d_Md_enter_64 : decode b_Md_enter 64 = .ok (.aload_n 0, 1) := by decide +kernel
theorem d_Md_enter_65 : decode b_Md_enter 65 = .ok (.aload_n 0, 1) := by decide +kernel
theorem d_Md_enter_66 : decode b_Md_enter 66 = .ok (.getfield 75, 3) := by decide +kernel
theorem d_Md_enter_69 : decode b_Md_enter 69 = .ok (.iload 5, 2) := by decide +kernel
theorem d_Md_enter_71 : decode b_Md_enter 71 = .ok (.iconst 2, 1) := by decide +kernel
theorem d_Md_enter_72 : decode b_Md_enter 72 = .ok (.iadd, 1) := by decide +kernel
theorem d_Md_enter_73 : decode b_Md_enter 73 = .ok (.iaload, 1) := by decide +kernel
theorem d_Md_enter_74 : decode b_Md_enter 74 = .ok (.invokevirtual 217, 3) := by decide +kernel
theorem d_Md_enter_77 : decode b_Md_enter 77 = .ok (.istore 6, 2) := by decide +kernel
theorem d_Md_enter_79 : decode b_Md_enter 79 = .ok (.iload 6, 2) := by decide +kernel
theorem d_Md_enter_81 : decode b_Md_enter 81 = .ok (.ifCond .eq 8, 3) := by decide +kernel
theorem d_Md_enter_84 : decode b_Md_enter 84 = .ok (.iload 6, 2) := by decide +kernel
theorem d_Md_enter_86 : decode b_Md_enter 86 = .ok (.goto 25, 3) := by decide +kernel
theorem d_Md_enter_89 : decode b_Md_enter 89 = .ok (.aload_n 0, 1) := by decide +kernel
theorem d_Md_enter_90 : decode b_Md_enter 90 = .ok (.aload_n 0, 1) := by decide +kernel
theorem d_Md_enter_91 : decode b_Md_enter 91 = .ok (.getfield 75, 3) := by decide +kernel
theorem d_Md_enter_94 : decode b_Md_enter 94 = .ok (.iload 5, 2) := by decide +kernel
theorem d_Md_enter_96 : decode b_Md_enter 96 = .ok (.iconst 2, 1) := by decide +kernel
theorem d_Md_enter_97 : decode b_Md_enter 97 = .ok (.iadd, 1) := by decide +kernel
theorem d_Md_enter_98 : decode b_Md_enter 98 = .ok (.iaload, 1) := by decide +kernel
theorem d_Md_enter_99 : decode b_Md_enter 99 = .ok (.aload_n 0, 1) := by decide +kernel
theorem d_Md_enter_100 : decode b_Md_enter 100 = .ok (.getfield 75, 3) := by decide +kernel
theorem d_Md_enter_103 : decode b_Md_enter 103 = .ok (.iload 5, 2) := by decide +kernel
theorem d_Md_enter_105 : decode b_Md_enter 105 = .ok (.iconst 3, 1) := by decide +kernel
theorem d_Md_enter_106 : decode b_Md_enter 106 = .ok (.iadd, 1) := by decide +kernel
theorem d_Md_enter_107 : decode b_Md_enter 107 = .ok (.iaload, 1) := by decide +kernel
theorem d_Md_enter_108 : decode b_Md_enter 108 = .ok (.invokevirtual 220, 3) := by decide +kernel
theorem d_Md_enter_111 : decode b_Md_enter 111 = .ok (.ireturn, 1) := by decide +kernel
theorem d_Md_enter_112 : decode b_Md_enter 112 = .ok (.iinc 4 1, 3) := by decide +kernel
theorem d_Md_enter_115 : decode b_Md_enter 115 = .ok (.goto (-78), 3) := by decide +kernel
theorem d_Md_enter_118 : decode b_Md_enter 118 = .ok (.bipush (-2), 2) := by decide +kernel
theorem d_Md_enter_120 : decode b_Md_enter 120 = .ok (.ireturn, 1) := by decide +kernel
theorem d_Md_follow_0 : decode b_Md_follow 0 = .ok (.iload_n 1, 1) := by decide +kernel
theorem d_Md_follow_1 : decode b_Md_follow 1 = .ok (.iconst 0, 1) := by decide +kernel
theorem d_Md_follow_2 : decode b_Md_follow 2 = .ok (.sipush 255, 3) := by decide +kernel
theorem d_Md_follow_5 : decode b_Md_follow 5 = .ok (.invokestatic 84, 3) := by decide +kernel
theorem d_Md_follow_8 : decode b_Md_follow 8 = .ok (.ifCond .eq 25, 3) := by decide +kernel
theorem d_Md_follow_11 : decode b_Md_follow 11 = .ok (.iload_n 2, 1) := by decide +kernel
theorem d_Md_follow_12 : decode b_Md_follow 12 = .ok (.iconst 0, 1) := by decide +kernel
theorem d_Md_follow_13 : decode b_Md_follow 13 = .ok (.sipush 255, 3) := by decide +kernel
theorem d_Md_follow_16 : decode b_Md_follow 16 = .ok (.invokestatic 84, 3) := by decide +kernel
theorem d_Md_follow_19 : decode b_Md_follow 19 = .ok (.ifCond .eq 14, 3) := by decide +kernel
theorem d_Md_follow_22 : decode b_Md_follow 22 = .ok (.iload_n 3, 1) := by decide +kernel
theorem d_Md_follow_23 : decode b_Md_follow 23 = .ok (.iconst 0, 1) := by decide +kernel
theorem d_Md_follow_24 : decode b_Md_follow 24 = .ok (.sipush 255, 3) := by decide +kernel
theorem d_Md_follow_27 : decode b_Md_follow 27 = .ok (.invokestatic 84, 3) := by decide +kernel
theorem d_Md_follow_30 : decode b_Md_follow 30 = .ok (.ifCond .ne 5, 3) := by decide +kernel
theorem d_Md_follow_33 : decode b_Md_follow 33 = .ok (.iconst (-1), 1) := by decide +kernel
theorem d_Md_follow_34 : decode b_Md_follow 34 = .ok (.ireturn, 1) := by decide +kernel
theorem d_Md_follow_35 : decode b_Md_follow 35 = .ok (.aload_n 0, 1) := by decide +kernel
theorem d_Md_follow_36 : decode b_Md_follow 36 = .ok (.invokevirtual 223, 3) := by decide +kernel
theorem d_Md_follow_39 : decode b_Md_follow 39 = .ok (.istore 4, 2) := by decide +kernel
theorem d_Md_follow_41 : decode b_Md_follow 41 = .ok (.iload 4, 2) := by decide +kernel
theorem d_Md_follow_43 : decode b_Md_follow 43 = .ok (.ifCond .lt 52, 3) := by decide +kernel
theorem d_Md_follow_46 : decode b_Md_follow 46 = .ok (.iload_n 1, 1) := by decide +kernel
theorem d_Md_follow_47 : decode b_Md_follow 47 = .ok (.ifCond .eq 48, 3) := by decide +kernel
theorem d_Md_follow_50 : decode b_Md_follow 50 = .ok (.aload_n 0, 1) := by decide +kernel
theorem d_Md_follow_51 : decode b_Md_follow 51 = .ok (.iload 4, 2) := by decide +kernel
theorem d_Md_follow_53 : decode b_Md_follow 53 = .ok (.iload_n 1, 1) := by decide +kernel
theorem d_Md_follow_54 : decode b_Md_follow 54 = .ok (.invokevirtual 226, 3) := by decide +kernel
theorem d_Md_follow_57 : decode b_Md_follow 57 = .ok (.istore 4, 2) := by decide +kernel
theorem d_Md_follow_59 : decode b_Md_follow 59 = .ok (.iload 4, 2) := by decide +kernel
theorem d_Md_follow_61 : decode b_Md_follow 61 = .ok (.ifCond .lt 34, 3) := by decide +kernel
theorem d_Md_follow_64 : decode b_Md_follow 64 = .ok (.iload_n 2, 1) := by decide +kernel
theorem d_Md_follow_65 : decode b_Md_follow 65 = .ok (.ifCond .eq 30, 3) := by decide +kernel
theorem d_Md_follow_68 : decode b_Md_follow 68 = .ok (.aload_n 0, 1) := by decide +kernel
theorem d_Md_follow_69 : decode b_Md_follow 69 = .ok (.iload 4, 2) := by decide +kernel
theorem d_Md_follow_71 : decode b_Md_follow 71 = .ok (.iload_n 2, 1) := by decide +kernel
theorem d_Md_follow_72 : decode b_Md_follow 72 = .ok (.invokevirtual 226, 3) := by decide +kernel
theorem d_Md_follow_75 : decode b_Md_follow 75 = .ok (.istore 4, 2) := by decide +kernel
theorem d_Md_follow_77 : decode b_Md_follow 77 = .ok (.iload 4, 2) := by decide +kernel
theorem d_Md_follow_79 : decode b_Md_follow 79 = .ok (.ifCond .lt 16, 3) := by decide +kernel
theorem d_Md_follow_82 : decode b_Md_follow 82 = .ok (.iload_n 3, 1) := by decide +kernel
theorem d_Md_follow_83 : decode b_Md_follow 83 = .ok (.ifCond .eq 12, 3) := by decide +kernel
theorem d_Md_follow_86 : decode b_Md_follow 86 = .ok (.aload_n 0, 1) := by decide +kernel
theorem d_Md_follow_87 : decode b_Md_follow 87 = .ok (.iload 4, 2) := by decide +kernel
theorem d_Md_follow_89 : decode b_Md_follow 89 = .ok (.iload_n 3, 1) := by decide +kernel
theorem d_Md_follow_90 : decode b_Md_follow 90 = .ok (.invokevirtual 226, 3) := by decide +kernel
theorem d_Md_follow_93 : decode b_Md_follow 93 = .ok (.istore 4, 2) := by decide +kernel
theorem d_Md_follow_95 : decode b_Md_follow 95 = .ok (.iload 4, 2) := by decide +kernel
theorem d_Md_follow_97 : decode b_Md_follow 97 = .ok (.ireturn, 1) := by decide +kernel
end
section
theorem d_Md_within_0 : decode b_Md_within 0 = .ok (.iload_n 0, 1) := by decide +kernel
theorem d_Md_within_1 : decode b_Md_within 1 = .ok (.iload_n 1, 1) := by decide +kernel
theorem d_Md_within_2 : decode b_Md_within 2 = .ok (.if_icmp .lt 12, 3) := by decide +kernel
theorem d_Md_within_5 : decode b_Md_within 5 = .ok (.iload_n 0, 1) := by decide +kernel
theorem d_Md_within_6 : decode b_Md_within 6 = .ok (.iload_n 2, 1) := by decide +kernel
theorem d_Md_within_7 : decode b_Md_within 7 = .ok (.if_icmp .gt 7, 3) := by decide +kernel
theorem d_Md_within_10 : decode b_Md_within 10 = .ok (.iconst 1, 1) := by decide +kernel
theorem d_Md_within_11 : decode b_Md_within 11 = .ok (.goto 4, 3) := by decide +kernel
theorem d_Md_within_14 : decode b_Md_within 14 = .ok (.iconst 0, 1) := by decide +kernel
theorem d_Md_within_15 : decode b_Md_within 15 = .ok (.ireturn, 1) := by decide +kernel
theorem d_Md_make_0 : decode b_Md_make 0 = .ok (.iload_n 1, 1) := by decide +kernel
theorem d_Md_make_1 : decode b_Md_make 1 = .ok (.iconst 0, 1) := by decide +kernel
theorem d_Md_make_2 : decode b_Md_make 2 = .ok (.bipush 11, 2) := by decide +kernel
theorem d_Md_make_4 : decode b_Md_make 4 = .ok (.invokestatic 84, 3) := by decide +kernel
theorem d_Md_make_7 : decode b_Md_make 7 = .ok (.ifCond .eq 14, 3) := by decide +kernel
theorem d_Md_make_10 : decode b_Md_make 10 = .ok (.iload_n 2, 1) := by decide +kernel
theorem d_Md_make_11 : decode b_Md_make 11 = .ok (.iconst 1, 1) := by decide +kernel
theorem d_Md_make_12 : decode b_Md_make 12 = .ok (.sipush 255, 3) := by decide +kernel
theorem d_Md_make_15 : decode b_Md_make 15 = .ok (.invokestatic 84, 3) := by decide +kernel
theorem d_Md_make_18 : decode b_Md_make 18 = .ok (.ifCond .ne 5, 3) := by decide +kernel
theorem d_Md_make_21 : decode b_Md_make 21 = .ok (.iconst (-1), 1) := by decide +kernel
theorem d_Md_make_22 : decode b_Md_make 22 = .ok (.ireturn, 1) := by decide +kernel
theorem d_Md_make_23 : decode b_Md_make 23 = .ok (.aload_n 0, 1) := by decide +kernel
theorem d_Md_make_24 : decode b_Md_make 24 = .ok (.getfield 7, 3) := by decide +kernel
theorem d_Md_make_27 : decode b_Md_make 27 = .ok (.iload_n 1, 1) := by decide +kernel
theorem d_Md_make_28 : decode b_Md_make 28 = .ok (.iaload, 1) := by decide +kernel
theorem d_Md_make_29 : decode b_Md_make 29 = .ok (.iconst 1, 1) := by decide +kernel
theorem d_Md_make_30 : decode b_Md_make 30 = .ok (.if_icmp .eq 16, 3) := by decide +kernel
theorem d_Md_make_33 : decode b_Md_make 33 = .ok (.aload_n 0, 1) := by decide +kernel
theorem d_Md_make_34 : decode b_Md_make 34 = .ok (.getfield 7, 3) := by decide +kernel
theorem d_Md_make_37 : decode b_Md_make 37 = .ok (.iload_n 1, 1) := by decide +kernel
theorem d_Md_make_38 : decode b_Md_make 38 = .ok (.iaload, 1) := by decide +kernel
theorem d_Md_make_39 : decode b_Md_make 39 = .ok (.iconst 2, 1) := by decide +kernel
theorem d_Md_make_40 : decode b_Md_make 40 = .ok (.if_icmp .eq 6, 3) := by decide +kernel
theorem d_Md_make_43 : decode b_Md_make 43 = .ok (.bipush (-2), 2) := by decide +kernel
theorem d_Md_make_45 : decode b_Md_make 45 = .ok (.ireturn, 1) := by decide +kernel
theorem d_Md_make_46 : decode b_Md_make 46 = .ok (.aload_n 0, 1) := by decide +kernel
theorem d_Md_make_47 : decode b_Md_make 47 = .ok (.iload_n 1, 1) := by decide +kernel
theorem d_Md_make_48 : decode b_Md_make 48 = .ok (.iload_n 2, 1) := by decide +kernel
theorem d_Md_make_49 : decode b_Md_make 49 = .ok (.iconst 1, 1) := by decide +kernel
theorem d_Md_make_50 : decode b_Md_make 50 = .ok (.isub, 1) := by decide +kernel
theorem d_Md_make_51 : decode b_Md_make 51 = .ok (.invokevirtual 88, 3) := by decide +kernel
theorem d_Md_make_54 : decode b_Md_make 54 = .ok (.ifCond .lt 23, 3) := by decide +kernel
theorem d_Md_make_57 : decode b_Md_make 57 = .ok (.aload_n 0, 1) := by decide +kernel
theorem d_Md_make_58 : decode b_Md_make 58 = .ok (.getfield 16, 3) := by decide +kernel
theorem d_Md_make_61 : decode b_Md_make 61 = .ok (.aload_n 0, 1) := by decide +kernel
theorem d_Md_make_62 : decode b_Md_make 62 = .ok (.iload_n 1, 1) := by decide +kernel
theorem d_Md_make_63 : decode b_Md_make 63 = .ok (.iload_n 2, 1) := by decide +kernel
theorem d_Md_make_64 : decode b_Md_make 64 = .ok (.iconst 1, 1) := by decide +kernel
theorem d_Md_make_65 : decode b_Md_make 65 = .ok (.isub, 1) := by decide +kernel
theorem d_Md_make_66 : decode b_Md_make 66 = .ok (.invokevirtual 88, 3) := by decide +kernel
theorem d_Md_make_69 : decode b_Md_make 69 = .ok (.iaload, 1) := by decide +kernel
theorem d_Md_make_70 : decode b_Md_make 70 = .ok (.iload_n 2, 1) := by decide +kernel
theorem d_Md_make_71 : decode b_Md_make 71 = .ok (.if_icmp .ne 6, 3) := by decide +kernel
theorem d_Md_make_74 : decode b_Md_make 74 = .ok (.bipush (-3), 2) := by decide +kernel
theorem d_Md_make_76 : decode b_Md_make 76 = .ok (.ireturn, 1) := by decide +kernel
theorem d_Md_make_77 : decode b_Md_make 77 = .ok (.iconst 1, 1) := by decide +kernel
theorem d_Md_make_78 : decode b_Md_make 78 = .ok (.istore 4, 2) := by decide +kernel
theorem d_Md_make_80 : decode b_Md_make 80 = .ok (.iload 4, 2) := by decide +kernel
theorem d_Md_make_82 : decode b_Md_make 82 = .ok (.bipush 12, 2) := by decide +kernel
theorem d_Md_make_84 : decode b_Md_make 84 = .ok (.if_icmp .ge 19, 3) := by decide +kernel
theorem d_Md_make_87 : decode b_Md_make 87 = .ok (.aload_n 0, 1) := by decide +kernel
theorem d_Md_make_88 : decode b_Md_make 88 = .ok (.getfield 7, 3) := by decide +kernel
theorem d_Md_make_91 : decode b_Md_make 91 = .ok (.iload 4, 2) := by decide +kernel
theorem d_Md_make_93 : decode b_Md_make 93 = .ok (.iaload, 1) := by decide +kernel
theorem d_Md_make_94 : decode b_Md_make 94 = .ok (.ifCond .eq 9, 3) := by decide +kernel
theorem d_Md_make_97 : decode b_Md_make 97 = .ok (.iinc 4 1, 3) := by decide +kernel
theorem d_Md_make_100 : decode b_Md_make 100 = .ok (.goto (-20), 3) := by decide +kernel
theorem d_Md_make_103 : decode b_Md_make 103 = .ok (.iload 4, 2) := by decide +kernel
theorem d_Md_make_105 : decode b_Md_make 105 = .ok (.bipush 12, 2) := by decide +kernel
theorem d_Md_make_107 : decode b_Md_make 107 = .ok (.if_icmp .ne 6, 3) := by decide +kernel
theorem d_Md_make_110 : decode b_Md_make 110 = .ok (.bipush (-4), 2) := by decide +kernel
theorem d_Md_make_112 : decode b_Md_make 112 = .ok (.ireturn, 1) := by decide +kernel
theorem d_Md_make_113 : decode b_Md_make 113 = .ok (.aload_n 0, 1) := by decide +kernel
theorem d_Md_make_114 : decode b_Md_make 114 = .ok (.getfield 7, 3) := by decide +kernel
theorem d_Md_make_117 : decode b_Md_make 117 = .ok (.iload 4, 2) := by decide +kernel
theorem d_Md_make_119 : decode b_Md_make 119 = .ok (.iload_n 3, 1) := by decide +kernel
theorem d_Md_make_120 : decode b_Md_make 120 = .ok (.ifCond .eq 7, 3) := by decide +kernel
theorem d_Md_make_123 : decode b_Md_make 123 = .ok (.iconst 2, 1) := by decide +kernel
theorem d_Md_make_124 : decode b_Md_make 124 = .ok (.goto 4, 3) := by decide +kernel
theorem d_Md_make_127 : decode b_Md_make 127 = .ok (.iconst 3, 1) := by decide +kernel
theorem d_Md_make_128 : decode b_Md_make 128 = .ok (.iastore, 1) := by decide +kernel
theorem d_Md_make_129 : decode b_Md_make 129 = .ok (.aload_n 0, 1) := by decide +kernel
theorem d_Md_make_130 : decode b_Md_make 130 = .ok (.getfield 13, 3) := by decide +kernel
theorem d_Md_make_133 : decode b_Md_make 133 = .ok (.iload 4, 2) := by decide +kernel
theorem d_Md_make_135 : decode b_Md_make 135 = .ok (.iload_n 1, 1) := by decide +kernel
theorem d_Md_make_136 : decode b_Md_make 136 = .ok (.iastore, 1) := by decide +kernel
theorem d_Md_make_137 : decode b_Md_make 137 = .ok (.aload_n 0, 1) := by decide +kernel
theorem d_Md_make_138 : decode b_Md_make 138 = .ok (.getfield 16, 3) := by decide +kernel
theorem d_Md_make_141 : decode b_Md_make 141 = .ok (.iload 4, 2) := by decide +kernel
theorem d_Md_make_143 : decode b_Md_make 143 = .ok (.iload_n 2, 1) := by decide +kernel
theorem d_Md_make_144 : decode b_Md_make 144 = .ok (.iastore, 1) := by decide +kernel
theorem d_Md_make_145 : decode b_Md_make 145 = .ok (.aload_n 0, 1) := by decide +kernel
theorem d_Md_make_146 : decode b_Md_make 146 = .ok (.getfield 19, 3) := by decide +kernel
theorem d_Md_make_149 : decode b_Md_make 149 = .ok (.iload 4, 2) := by decide +kernel
theorem d_Md_make_151 : decode b_Md_make 151 = .ok (.iconst 0, 1) := by decide +kernel
theorem d_Md_make_152 : decode b_Md_make 152 = .ok (.iastore, 1) := by decide +kernel
theorem d_Md_make_153 : decode b_Md_make 153 = .ok (.iload 4, 2) := by decide +kernel
theorem d_Md_make_155 : decode b_Md_make 155 = .ok (.ireturn, 1) := by decide +kernel
theorem d_Md_remove_0 : decode b_Md_remove 0 = .ok (.iload_n 1, 1) := by decide +kernel
theorem d_Md_remove_1 : decode b_Md_remove 1 = .ok (.iconst 1, 1) := by decide +kernel
theorem d_Md_remove_2 : decode b_Md_remove 2 = .ok (.bipush 11, 2) := by decide +kernel
theorem d_Md_remove_4 : decode b_Md_remove 4 = .ok (.invokestatic 84, 3) := by decide +kernel
theorem d_Md_remove_7 : decode b_Md_remove 7 = .ok (.ifCond .ne 5, 3) := by decide +kernel
theorem d_Md_remove_10 : decode b_Md_remove 10 = .ok (.iconst (-1), 1) := by decide +kernel
theorem d_Md_remove_11 : decode b_Md_remove 11 = .ok (.ireturn, 1) := by decide +kernel
theorem d_Md_remove_12 : decode b_Md_remove 12 = .ok (.aload_n 0, 1) := by decide +kernel
theorem d_Md_remove_13 : decode b_Md_remove 13 = .ok (.getfield 7, 3) := by decide +kernel
theorem d_Md_remove_16 : decode b_Md_remove 16 = .ok (.iload_n 1, 1) := by decide +kernel
theorem d_Md_remove_17 : decode b_Md_remove 17 = .ok (.iaload, 1) := by decide +kernel
theorem d_Md_remove_18 : decode b_Md_remove 18 = .ok (.ifCond .ne 6, 3) := by decide +kernel
theorem d_Md_remove_21 : decode b_Md_remove 21 = .ok (.bipush (-2), 2) := by decide +kernel
theorem d_Md_remove_23 : decode b_Md_remove 23 = .ok (.ireturn, 1) := by decide +kernel
theorem d_Md_remove_24 : decode b_Md_remove 24 = .ok (.aload_n 0, 1) := by decide +kernel
theorem d_Md_remove_25 : decode b_Md_remove 25 = .ok (.iload_n 1, 1) := by decide +kernel
theorem d_Md_remove_26 : decode b_Md_remove 26 = .ok (.iconst 0, 1) := by decide +kernel
theorem d_Md_remove_27 : decode b_Md_remove 27 = .ok (.invokevirtual 88, 3) := by decide +kernel
theorem d_Md_remove_30 : decode b_Md_remove 30 = .ok (.ifCond .lt 6, 3) := by decide +kernel
theorem d_Md_remove_33 : decode b_Md_remove 33 = .ok (.bipush (-5), 2) := by decide +kernel
theorem d_Md_remove_35 : decode b_Md_remove 35 = .ok (.ireturn, 1) := by decide +kernel
theorem d_Md_remove_36 : decode b_Md_remove 36 = .ok (.aload_n 0, 1) := by decide +kernel
theorem d_Md_remove_37 : decode b_Md_remove 37 = .ok (.getfield 7, 3) := by decide +kernel
theorem d_Md_remove_40 : decode b_Md_remove 40 = .ok (.iload_n 1, 1) := by decide +kernel
theorem d_Md_remove_41 : decode b_Md_remove 41 = .ok (.iconst 0, 1) := by decide +kernel
theorem d_Md_remove_42 : decode b_Md_remove 42 = .ok (.iastore, 1) := by decide +kernel
theorem d_Md_remove_43 : decode b_Md_remove 43 = .ok (.iconst 0, 1) := by decide +kernel
theorem d_Md_remove_44 : decode b_Md_remove 44 = .ok (.ireturn, 1) := by decide +kernel
theorem d_Md_next_0 : decode b_Md_next 0 = .ok (.aload_n 0, 1) := by decide +kernel
theorem d_Md_next_1 : decode b_Md_next 1 = .ok (.iload_n 1, 1) := by decide +kernel
theorem d_Md_next_2 : decode b_Md_next 2 = .ok (.iconst 0, 1) := by decide +kernel
theorem d_Md_next_3 : decode b_Md_next 3 = .ok (.invokevirtual 88, 3) := by decide +kernel
theorem d_Md_next_6 : decode b_Md_next 6 = .ok (.istore_n 2, 1) := by decide +kernel
theorem d_Md_next_7 : decode b_Md_next 7 = .ok (.iload_n 1, 1) := by decide +kernel
theorem d_Md_next_8 : decode b_Md_next 8 = .ok (.istore_n 3, 1) := by decide +kernel
theorem d_Md_next_9 : decode b_Md_next 9 = .ok (.iload_n 2, 1) := by decide +kernel
theorem d_Md_next_10 : decode b_Md_next 10 = .ok (.ifCond .ge 34, 3) := by decide +kernel
theorem d_Md_next_13 : decode b_Md_next 13 = .ok (.iload_n 3, 1) := by decide +kernel
theorem d_Md_next_14 : decode b_Md_next 14 = .ok (.ifCond .eq 30, 3) := by decide +kernel
theorem d_Md_next_17 : decode b_Md_next 17 = .ok (.aload_n 0, 1) := by decide +kernel
theorem d_Md_next_18 : decode b_Md_next 18 = .ok (.aload_n 0, 1) := by decide +kernel
theorem d_Md_next_19 : decode b_Md_next 19 = .ok (.getfield 13, 3) := by decide +kernel
theorem d_Md_next_22 : decode b_Md_next 22 = .ok (.iload_n 3, 1) := by decide +kernel
theorem d_Md_next_23 : decode b_Md_next 23 = .ok (.iaload, 1) := by decide +kernel
theorem d_Md_next_24 : decode b_Md_next 24 = .ok (.aload_n 0, 1) := by decide +kernel
theorem d_Md_next_25 : decode b_Md_next 25 = .ok (.getfield 16, 3) := by decide +kernel
theorem d_Md_next_28 : decode b_Md_next 28 = .ok (.iload_n 3, 1) := by decide +kernel
theorem d_Md_next_29 : decode b_Md_next 29 = .ok (.iaload, 1) := by decide +kernel
theorem d_Md_next_30 : decode b_Md_next 30 = .ok (.invokevirtual 88, 3) := by decide +kernel
theorem d_Md_next_33 : decode b_Md_next 33 = .ok (.istore_n 2, 1) := by decide +kernel
theorem d_Md_next_34 : decode b_Md_next 34 = .ok (.aload_n 0, 1) := by decide +kernel
theorem d_Md_next_35 : decode b_Md_next 35 = .ok (.getfield 13, 3) := by decide +kernel
theorem d_Md_next_38 : decode b_Md_next 38 = .ok (.iload_n 3, 1) := by decide +kernel
theorem d_Md_next_39 : decode b_Md_next 39 = .ok (.iaload, 1) := by decide +kernel
theorem d_Md_next_40 : decode b_Md_next 40 = .ok (.istore_n 3, 1) := by decide +kernel
theorem d_Md_next_41 : decode b_Md_next 41 = .ok (.goto (-32), 3) := by decide +kernel
theorem d_Md_next_44 : decode b_Md_next 44 = .ok (.iload_n 2, 1) := by decide +kernel
theorem d_Md_next_45 : decode b_Md_next 45 = .ok (.ireturn, 1) := by decide +kernel
theorem d_Md_payload_0 : decode b_Md_payload 0 = .ok (.aload_n 0, 1) := by decide +kernel
theorem d_Md_payload_1 : decode b_Md_payload 1 = .ok (.getfield 7, 3) := by decide +kernel
theorem d_Md_payload_4 : decode b_Md_payload 4 = .ok (.iload_n 1, 1) := by decide +kernel
theorem d_Md_payload_5 : decode b_Md_payload 5 = .ok (.iaload, 1) := by decide +kernel
theorem d_Md_payload_6 : decode b_Md_payload 6 = .ok (.iconst 3, 1) := by decide +kernel
theorem d_Md_payload_7 : decode b_Md_payload 7 = .ok (.if_icmp .ne 10, 3) := by decide +kernel
theorem d_Md_payload_10 : decode b_Md_payload 10 = .ok (.aload_n 0, 1) := by decide +kernel
theorem d_Md_payload_11 : decode b_Md_payload 11 = .ok (.getfield 19, 3) := by decide +kernel
theorem d_Md_payload_14 : decode b_Md_payload 14 = .ok (.iload_n 1, 1) := by decide +kernel
theorem d_Md_payload_15 : decode b_Md_payload 15 = .ok (.iaload, 1) := by decide +kernel
theorem d_Md_payload_16 : decode b_Md_payload 16 = .ok (.ireturn, 1) := by decide +kernel
theorem d_Md_payload_17 : decode b_Md_payload 17 = .ok (.iconst 0, 1) := by decide +kernel
theorem d_Md_payload_18 : decode b_Md_payload 18 = .ok (.istore_n 2, 1) := by decide +kernel
theorem d_Md_payload_19 : decode b_Md_payload 19 = .ok (.iconst 1, 1) := by decide +kernel
theorem d_Md_payload_20 : decode b_Md_payload 20 = .ok (.istore_n 3, 1) := by decide +kernel
theorem d_Md_payload_21 : decode b_Md_payload 21 = .ok (.iload_n 3, 1) := by decide +kernel
theorem d_Md_payload_22 : decode b_Md_payload 22 = .ok (.bipush 12, 2) := by decide +kernel
theorem d_Md_payload_24 : decode b_Md_payload 24 = .ok (.if_icmp .ge 36, 3) := by decide +kernel
theorem d_Md_payload_27 : decode b_Md_payload 27 = .ok (.aload_n 0, 1) := by decide +kernel
theorem d_Md_payload_28 : decode b_Md_payload 28 = .ok (.getfield 7, 3) := by decide +kernel
theorem d_Md_payload_31 : decode b_Md_payload 31 = .ok (.iload_n 3, 1) := by decide +kernel
theorem d_Md_payload_32 : decode b_Md_payload 32 = .ok (.iaload, 1) := by decide +kernel
theorem d_Md_payload_33 : decode b_Md_payload 33 = .ok (.ifCond .eq 19, 3) := by decide +kernel
theorem d_Md_payload_36 : decode b_Md_payload 36 = .ok (.aload_n 0, 1) := by decide +kernel
theorem d_Md_payload_37 : decode b_Md_payload 37 = .ok (.getfield 13, 3) := by decide +kernel
theorem d_Md_payload_40 : decode b_Md_payload 40 = .ok (.iload_n 3, 1) := by decide +kernel
theorem d_Md_payload_41 : decode b_Md_payload 41 = .ok (.iaload, 1) := by decide +kernel
theorem d_Md_payload_42 : decode b_Md_payload 42 = .ok (.iload_n 1, 1) := by decide +kernel
theorem d_Md_payload_43 : decode b_Md_payload 43 = .ok (.if_icmp .ne 9, 3) := by decide +kernel
theorem d_Md_payload_46 : decode b_Md_payload 46 = .ok (.iload_n 2, 1) := by decide +kernel
theorem d_Md_payload_47 : decode b_Md_payload 47 = .ok (.iconst 4, 1) := by decide +kernel
theorem d_Md_payload_48 : decode b_Md_payload 48 = .ok (.iadd, 1) := by decide +kernel
theorem d_Md_payload_49 : decode b_Md_payload 49 = .ok (.goto 4, 3) := by decide +kernel
theorem d_Md_payload_52 : decode b_Md_payload 52 = .ok (.iload_n 2, 1) := by decide +kernel
theorem d_Md_payload_53 : decode b_Md_payload 53 = .ok (.istore_n 2, 1) := by decide +kernel
theorem d_Md_payload_54 : decode b_Md_payload 54 = .ok (.iinc 3 1, 3) := by decide +kernel
theorem d_Md_payload_57 : decode b_Md_payload 57 = .ok (.goto (-36), 3) := by decide +kernel
theorem d_Md_payload_60 : decode b_Md_payload 60 = .ok (.iload_n 2, 1) := by decide +kernel
theorem d_Md_payload_61 : decode b_Md_payload 61 = .ok (.ireturn, 1) := by decide +kernel
theorem d_Md_put_0 : decode b_Md_put 0 = .ok (.aload_n 0, 1) := by decide +kernel
theorem d_Md_put_1 : decode b_Md_put 1 = .ok (.getfield 31, 3) := by decide +kernel
theorem d_Md_put_4 : decode b_Md_put 4 = .ok (.bipush 48, 2) := by decide +kernel
theorem d_Md_put_6 : decode b_Md_put 6 = .ok (.iload_n 1, 1) := by decide +kernel
theorem d_Md_put_7 : decode b_Md_put 7 = .ok (.imul, 1) := by decide +kernel
theorem d_Md_put_8 : decode b_Md_put 8 = .ok (.aload_n 0, 1) := by decide +kernel
theorem d_Md_put_9 : decode b_Md_put 9 = .ok (.getfield 25, 3) := by decide +kernel
theorem d_Md_put_12 : decode b_Md_put 12 = .ok (.iload_n 1, 1) := by decide +kernel
theorem d_Md_put_13 : decode b_Md_put 13 = .ok (.iaload, 1) := by decide +kernel
theorem d_Md_put_14 : decode b_Md_put 14 = .ok (.iadd, 1) := by decide +kernel
theorem d_Md_put_15 : decode b_Md_put 15 = .ok (.iload_n 2, 1) := by decide +kernel
theorem d_Md_put_16 : decode b_Md_put 16 = .ok (.iastore, 1) := by decide +kernel
theorem d_Md_put_17 : decode b_Md_put 17 = .ok (.aload_n 0, 1) := by decide +kernel
theorem d_Md_put_18 : decode b_Md_put 18 = .ok (.getfield 25, 3) := by decide +kernel
theorem d_Md_put_21 : decode b_Md_put 21 = .ok (.iload_n 1, 1) := by decide +kernel
theorem d_Md_put_22 : decode b_Md_put 22 = .ok (.dup2, 1) := by decide +kernel
theorem d_Md_put_23 : decode b_Md_put 23 = .ok (.iaload, 1) := by decide +kernel
theorem d_Md_put_24 : decode b_Md_put 24 = .ok (.iconst 1, 1) := by decide +kernel
theorem d_Md_put_25 : decode b_Md_put 25 = .ok (.iadd, 1) := by decide +kernel
theorem d_Md_put_26 : decode b_Md_put 26 = .ok (.iastore, 1) := by decide +kernel
theorem d_Md_put_27 : decode b_Md_put 27 = .ok (.return_, 1) := by decide +kernel
theorem d_Md_message_0 : decode b_Md_message 0 = .ok (.aload_n 0, 1) := by decide +kernel
theorem d_Md_message_1 : decode b_Md_message 1 = .ok (.getfield 43, 3) := by decide +kernel
theorem d_Md_message_4 : decode b_Md_message 4 = .ok (.iload_n 1, 1) := by decide +kernel
theorem d_Md_message_5 : decode b_Md_message 5 = .ok (.iaload, 1) := by decide +kernel
theorem d_Md_message_6 : decode b_Md_message 6 = .ok (.istore_n 2, 1) := by decide +kernel
theorem d_Md_message_7 : decode b_Md_message 7 = .ok (.aload_n 0, 1) := by decide +kernel
theorem d_Md_message_8 : decode b_Md_message 8 = .ok (.iload_n 2, 1) := by decide +kernel
theorem d_Md_message_9 : decode b_Md_message 9 = .ok (.aload_n 0, 1) := by decide +kernel
theorem d_Md_message_10 : decode b_Md_message 10 = .ok (.getfield 7, 3) := by decide +kernel
theorem d_Md_message_13 : decode b_Md_message 13 = .ok (.iload_n 1, 1) := by decide +kernel
theorem d_Md_message_14 : decode b_Md_message 14 = .ok (.iaload, 1) := by decide +kernel
theorem d_Md_message_15 : decode b_Md_message 15 = .ok (.invokevirtual 92, 3) := by decide +kernel
theorem d_Md_message_18 : decode b_Md_message 18 = .ok (.aload_n 0, 1) := by decide +kernel
theorem d_Md_message_19 : decode b_Md_message 19 = .ok (.iload_n 2, 1) := by decide +kernel
theorem d_Md_message_20 : decode b_Md_message 20 = .ok (.iload_n 1, 1) := by decide +kernel
theorem d_Md_message_21 : decode b_Md_message 21 = .ok (.invokevirtual 92, 3) := by decide +kernel
theorem d_Md_message_24 : decode b_Md_message 24 = .ok (.aload_n 0, 1) := by decide +kernel
theorem d_Md_message_25 : decode b_Md_message 25 = .ok (.iload_n 2, 1) := by decide +kernel
theorem d_Md_message_26 : decode b_Md_message 26 = .ok (.aload_n 0, 1) := by decide +kernel
theorem d_Md_message_27 : decode b_Md_message 27 = .ok (.iload_n 1, 1) := by decide +kernel
theorem d_Md_message_28 : decode b_Md_message 28 = .ok (.invokevirtual 96, 3) := by decide +kernel
theorem d_Md_message_31 : decode b_Md_message 31 = .ok (.invokevirtual 92, 3) := by decide +kernel
theorem d_Md_message_34 : decode b_Md_message 34 = .ok (.iconst 0, 1) := by decide +kernel
theorem d_Md_message_35 : decode b_Md_message 35 = .ok (.istore_n 3, 1) := by decide +kernel
theorem d_Md_message_36 : decode b_Md_message 36 = .ok (.aload_n 0, 1) := by decide +kernel
theorem d_Md_message_37 : decode b_Md_message 37 = .ok (.getfield 7, 3) := by decide +kernel
theorem d_Md_message_40 : decode b_Md_message 40 = .ok (.iload_n 1, 1) := by decide +kernel
theorem d_Md_message_41 : decode b_Md_message 41 = .ok (.iaload, 1) := by decide +kernel
theorem d_Md_message_42 : decode b_Md_message 42 = .ok (.iconst 3, 1) := by decide +kernel
theorem d_Md_message_43 : decode b_Md_message 43 = .ok (.if_icmp .ne 35, 3) := by decide +kernel
theorem d_Md_message_46 : decode b_Md_message 46 = .ok (.iload_n 3, 1) := by decide +kernel
theorem d_Md_message_47 : decode b_Md_message 47 = .ok (.aload_n 0, 1) := by decide +kernel
theorem d_Md_message_48 : decode b_Md_message 48 = .ok (.getfield 19, 3) := by decide +kernel
theorem d_Md_message_51 : decode b_Md_message 51 = .ok (.iload_n 1, 1) := by decide +kernel
theorem d_Md_message_52 : decode b_Md_message 52 = .ok (.iaload, 1) := by decide +kernel
theorem d_Md_message_53 : decode b_Md_message 53 = .ok (.if_icmp .ge 25, 3) := by decide +kernel
theorem d_Md_message_56 : decode b_Md_message 56 = .ok (.aload_n 0, 1) := by decide +kernel
theorem d_Md_message_57 : decode b_Md_message 57 = .ok (.iload_n 2, 1) := by decide +kernel
theorem d_Md_message_58 : decode b_Md_message 58 = .ok (.aload_n 0, 1) := by decide +kernel
theorem d_Md_message_59 : decode b_Md_message 59 = .ok (.getfield 22, 3) := by decide +kernel
theorem d_Md_message_62 : decode b_Md_message 62 = .ok (.bipush 12, 2) := by decide +kernel
theorem d_Md_message_64 : decode b_Md_message 64 = .ok (.iload_n 1, 1) := by decide +kernel
theorem d_Md_message_65 : decode b_Md_message 65 = .ok (.imul, 1) := by decide +kernel
theorem d_Md_message_66 : decode b_Md_message 66 = .ok (.iload_n 3, 1) := by decide +kernel
theorem d_Md_message_67 : decode b_Md_message 67 = .ok (.iadd, 1) := by decide +kernel
theorem d_Md_message_68 : decode b_Md_message 68 = .ok (.iaload, 1) := by decide +kernel
theorem d_Md_message_69 : decode b_Md_message 69 = .ok (.invokevirtual 92, 3) := by decide +kernel
theorem d_Md_message_72 : decode b_Md_message 72 = .ok (.iinc 3 1, 3) := by decide +kernel
theorem d_Md_message_75 : decode b_Md_message 75 = .ok (.goto (-39), 3) := by decide +kernel
theorem d_Md_message_78 : decode b_Md_message 78 = .ok (.aload_n 0, 1) := by decide +kernel
theorem d_Md_message_79 : decode b_Md_message 79 = .ok (.getfield 7, 3) := by decide +kernel
theorem d_Md_message_82 : decode b_Md_message 82 = .ok (.iload_n 1, 1) := by decide +kernel
theorem d_Md_message_83 : decode b_Md_message 83 = .ok (.iaload, 1) := by decide +kernel
theorem d_Md_message_84 : decode b_Md_message 84 = .ok (.iconst 3, 1) := by decide +kernel
theorem d_Md_message_85 : decode b_Md_message 85 = .ok (.if_icmp .ne 7, 3) := by decide +kernel
theorem d_Md_message_88 : decode b_Md_message 88 = .ok (.iconst (-1), 1) := by decide +kernel
theorem d_Md_message_89 : decode b_Md_message 89 = .ok (.goto 9, 3) := by decide +kernel
theorem d_Md_message_92 : decode b_Md_message 92 = .ok (.aload_n 0, 1) := by decide +kernel
theorem d_Md_message_93 : decode b_Md_message 93 = .ok (.iload_n 1, 1) := by decide +kernel
theorem d_Md_message_94 : decode b_Md_message 94 = .ok (.iconst 0, 1) := by decide +kernel
theorem d_Md_message_95 : decode b_Md_message 95 = .ok (.invokevirtual 88, 3) := by decide +kernel
theorem d_Md_message_98 : decode b_Md_message 98 = .ok (.istore_n 3, 1) := by decide +kernel
theorem d_Md_message_99 : decode b_Md_message 99 = .ok (.iload_n 3, 1) := by decide +kernel
theorem d_Md_message_100 : decode b_Md_message 100 = .ok (.ifCond .lt 57, 3) := by decide +kernel
theorem d_Md_message_103 : decode b_Md_message 103 = .ok (.aload_n 0, 1) := by decide +kernel
theorem d_Md_message_104 : decode b_Md_message 104 = .ok (.iload_n 2, 1) := by decide +kernel
theorem d_Md_message_105 : decode b_Md_message 105 = .ok (.aload_n 0, 1) := by decide +kernel
theorem d_Md_message_106 : decode b_Md_message 106 = .ok (.getfield 16, 3) := by decide +kernel
theorem d_Md_message_109 : decode b_Md_message 109 = .ok (.iload_n 3, 1) := by decide +kernel
theorem d_Md_message_110 : decode b_Md_message 110 = .ok (.iaload, 1) := by decide +kernel
theorem d_Md_message_111 : decode b_Md_message 111 = .ok (.invokevirtual 92, 3) := by decide +kernel
theorem d_Md_message_114 : decode b_Md_message 114 = .ok (.aload_n 0, 1) := by decide +kernel
theorem d_Md_message_115 : decode b_Md_message 115 = .ok (.iload_n 2, 1) := by decide +kernel
theorem d_Md_message_116 : decode b_Md_message 116 = .ok (.aload_n 0, 1) := by decide +kernel
theorem d_Md_message_117 : decode b_Md_message 117 = .ok (.getfield 7, 3) := by decide +kernel
theorem d_Md_message_120 : decode b_Md_message 120 = .ok (.iload_n 3, 1) := by decide +kernel
theorem d_Md_message_121 : decode b_Md_message 121 = .ok (.iaload, 1) := by decide +kernel
theorem d_Md_message_122 : decode b_Md_message 122 = .ok (.invokevirtual 92, 3) := by decide +kernel
theorem d_Md_message_125 : decode b_Md_message 125 = .ok (.aload_n 0, 1) := by decide +kernel
theorem d_Md_message_126 : decode b_Md_message 126 = .ok (.iload_n 2, 1) := by decide +kernel
theorem d_Md_message_127 : decode b_Md_message 127 = .ok (.aload_n 0, 1) := by decide +kernel
theorem d_Md_message_128 : decode b_Md_message 128 = .ok (.getfield 43, 3) := by decide +kernel
theorem d_Md_message_131 : decode b_Md_message 131 = .ok (.iload_n 3, 1) := by decide +kernel
theorem d_Md_message_132 : decode b_Md_message 132 = .ok (.iaload, 1) := by decide +kernel
theorem d_Md_message_133 : decode b_Md_message 133 = .ok (.invokevirtual 92, 3) := by decide +kernel
theorem d_Md_message_136 : decode b_Md_message 136 = .ok (.aload_n 0, 1) := by decide +kernel
theorem d_Md_message_137 : decode b_Md_message 137 = .ok (.iload_n 2, 1) := by decide +kernel
theorem d_Md_message_138 : decode b_Md_message 138 = .ok (.iload_n 3, 1) := by decide +kernel
theorem d_Md_message_139 : decode b_Md_message 139 = .ok (.invokevirtual 92, 3) := by decide +kernel
theorem d_Md_message_142 : decode b_Md_message 142 = .ok (.aload_n 0, 1) := by decide +kernel
theorem d_Md_message_143 : decode b_Md_message 143 = .ok (.iload_n 1, 1) := by decide +kernel
theorem d_Md_message_144 : decode b_Md_message 144 = .ok (.aload_n 0, 1) := by decide +kernel
theorem d_Md_message_145 : decode b_Md_message 145 = .ok (.getfield 16, 3) := by decide +kernel
theorem d_Md_message_148 : decode b_Md_message 148 = .ok (.iload_n 3, 1) := by decide +kernel
theorem d_Md_message_149 : decode b_Md_message 149 = .ok (.iaload, 1) := by decide +kernel
theorem d_Md_message_150 : decode b_Md_message 150 = .ok (.invokevirtual 88, 3) := by decide +kernel
theorem d_Md_message_153 : decode b_Md_message 153 = .ok (.istore_n 3, 1) := by decide +kernel
theorem d_Md_message_154 : decode b_Md_message 154 = .ok (.goto (-55), 3) := by decide +kernel
theorem d_Md_message_157 : decode b_Md_message 157 = .ok (.return_, 1) := by decide +kernel
theorem d_Md_keepOld_0 : decode b_Md_keepOld 0 = .ok (.aload_n 0, 1) := by decide +kernel
theorem d_Md_keepOld_1 : decode b_Md_keepOld 1 = .ok (.aload_n 0, 1) := by decide +kernel
theorem d_Md_keepOld_2 : decode b_Md_keepOld 2 = .ok (.getfield 100, 3) := by decide +kernel
theorem d_Md_keepOld_5 : decode b_Md_keepOld 5 = .ok (.putfield 103, 3) := by decide +kernel
theorem d_Md_keepOld_8 : decode b_Md_keepOld 8 = .ok (.iconst 0, 1) := by decide +kernel
theorem d_Md_keepOld_9 : decode b_Md_keepOld 9 = .ok (.istore_n 1, 1) := by decide +kernel
theorem d_Md_keepOld_10 : decode b_Md_keepOld 10 = .ok (.iload_n 1, 1) := by decide +kernel
theorem d_Md_keepOld_11 : decode b_Md_keepOld 11 = .ok (.bipush 12, 2) := by decide +kernel
theorem d_Md_keepOld_13 : decode b_Md_keepOld 13 = .ok (.if_icmp .ge 33, 3) := by decide +kernel
theorem d_Md_keepOld_16 : decode b_Md_keepOld 16 = .ok (.aload_n 0, 1) := by decide +kernel
theorem d_Md_keepOld_17 : decode b_Md_keepOld 17 = .ok (.getfield 34, 3) := by decide +kernel
theorem d_Md_keepOld_20 : decode b_Md_keepOld 20 = .ok (.iload_n 1, 1) := by decide +kernel
theorem d_Md_keepOld_21 : decode b_Md_keepOld 21 = .ok (.aload_n 0, 1) := by decide +kernel
theorem d_Md_keepOld_22 : decode b_Md_keepOld 22 = .ok (.getfield 25, 3) := by decide +kernel
theorem d_Md_keepOld_25 : decode b_Md_keepOld 25 = .ok (.iload_n 1, 1) := by decide +kernel
theorem d_Md_keepOld_26 : decode b_Md_keepOld 26 = .ok (.iaload, 1) := by decide +kernel
theorem d_Md_keepOld_27 : decode b_Md_keepOld 27 = .ok (.iastore, 1) := by decide +kernel
theorem d_Md_keepOld_28 : decode b_Md_keepOld 28 = .ok (.aload_n 0, 1) := by decide +kernel
theorem d_Md_keepOld_29 : decode b_Md_keepOld 29 = .ok (.getfield 37, 3) := by decide +kernel
theorem d_Md_keepOld_32 : decode b_Md_keepOld 32 = .ok (.iload_n 1, 1) := by decide +kernel
theorem d_Md_keepOld_33 : decode b_Md_keepOld 33 = .ok (.aload_n 0, 1) := by decide +kernel
theorem d_Md_keepOld_34 : decode b_Md_keepOld 34 = .ok (.getfield 28, 3) := by decide +kernel
theorem d_Md_keepOld_37 : decode b_Md_keepOld 37 = .ok (.iload_n 1, 1) := by decide +kernel
theorem d_Md_keepOld_38 : decode b_Md_keepOld 38 = .ok (.iaload, 1) := by decide +kernel
theorem d_Md_keepOld_39 : decode b_Md_keepOld 39 = .ok (.iastore, 1) := by decide +kernel
theorem d_Md_keepOld_40 : decode b_Md_keepOld 40 = .ok (.iinc 1 1, 3) := by decide +kernel
theorem d_Md_keepOld_43 : decode b_Md_keepOld 43 = .ok (.goto (-33), 3) := by decide +kernel
theorem d_Md_keepOld_46 : decode b_Md_keepOld 46 = .ok (.iconst 0, 1) := by decide +kernel
theorem d_Md_keepOld_47 : decode b_Md_keepOld 47 = .ok (.istore_n 1, 1) := by decide +kernel
theorem d_Md_keepOld_48 : decode b_Md_keepOld 48 = .ok (.iload_n 1, 1) := by decide +kernel
theorem d_Md_keepOld_49 : decode b_Md_keepOld 49 = .ok (.sipush 576, 3) := by decide +kernel
theorem d_Md_keepOld_52 : decode b_Md_keepOld 52 = .ok (.if_icmp .ge 21, 3) := by decide +kernel
theorem d_Md_keepOld_55 : decode b_Md_keepOld 55 = .ok (.aload_n 0, 1) := by decide +kernel
theorem d_Md_keepOld_56 : decode b_Md_keepOld 56 = .ok (.getfield 40, 3) := by decide +kernel
theorem d_Md_keepOld_59 : decode b_Md_keepOld 59 = .ok (.iload_n 1, 1) := by decide +kernel
theorem d_Md_keepOld_60 : decode b_Md_keepOld 60 = .ok (.aload_n 0, 1) := by decide +kernel
theorem d_Md_keepOld_61 : decode b_Md_keepOld 61 = .ok (.getfield 31, 3) := by decide +kernel
theorem d_Md_keepOld_64 : decode b_Md_keepOld 64 = .ok (.iload_n 1, 1) := by decide +kernel
theorem d_Md_keepOld_65 : decode b_Md_keepOld 65 = .ok (.iaload, 1) := by decide +kernel
theorem d_Md_keepOld_66 : decode b_Md_keepOld 66 = .ok (.iastore, 1) := by decide +kernel
theorem d_Md_keepOld_67 : decode b_Md_keepOld 67 = .ok (.iinc 1 1, 3) := by decide +kernel
theorem d_Md_keepOld_70 : decode b_Md_keepOld 70 = .ok (.goto (-22), 3) := by decide +kernel
theorem d_Md_keepOld_73 : decode b_Md_keepOld 73 = .ok (.return_, 1) := by decide +kernel
theorem d_Md_unchanged_0 : decode b_Md_unchanged 0 = .ok (.iload_n 1, 1) := by decide +kernel
theorem d_Md_unchanged_1 : decode b_Md_unchanged 1 = .ok (.aload_n 0, 1) := by decide +kernel
theorem d_Md_unchanged_2 : decode b_Md_unchanged 2 = .ok (.getfield 103, 3) := by decide +kernel
theorem d_Md_unchanged_5 : decode b_Md_unchanged 5 = .ok (.if_icmp .ge 22, 3) := by decide +kernel
theorem d_Md_unchanged_8 : decode b_Md_unchanged 8 = .ok (.aload_n 0, 1) := by decide +kernel
theorem d_Md_unchanged_9 : decode b_Md_unchanged 9 = .ok (.getfield 34, 3) := by decide +kernel
theorem d_Md_unchanged_12 : decode b_Md_unchanged 12 = .ok (.iload_n 1, 1) := by decide +kernel
theorem d_Md_unchanged_13 : decode b_Md_unchanged 13 = .ok (.iaload, 1) := by decide +kernel
theorem d_Md_unchanged_14 : decode b_Md_unchanged 14 = .ok (.aload_n 0, 1) := by decide +kernel
theorem d_Md_unchanged_15 : decode b_Md_unchanged 15 = .ok (.getfield 25, 3) := by decide +kernel
theorem d_Md_unchanged_18 : decode b_Md_unchanged 18 = .ok (.iload_n 1, 1) := by decide +kernel
theorem d_Md_unchanged_19 : decode b_Md_unchanged 19 = .ok (.iaload, 1) := by decide +kernel
theorem d_Md_unchanged_20 : decode b_Md_unchanged 20 = .ok (.if_icmp .ne 7, 3) := by decide +kernel
theorem d_Md_unchanged_23 : decode b_Md_unchanged 23 = .ok (.iconst 1, 1) := by decide +kernel
theorem d_Md_unchanged_24 : decode b_Md_unchanged 24 = .ok (.goto 4, 3) := by decide +kernel
theorem d_Md_unchanged_27 : decode b_Md_unchanged 27 = .ok (.iconst 0, 1) := by decide +kernel
theorem d_Md_unchanged_28 : decode b_Md_unchanged 28 = .ok (.istore_n 2, 1) := by decide +kernel
theorem d_Md_unchanged_29 : decode b_Md_unchanged 29 = .ok (.iconst 0, 1) := by decide +kernel
theorem d_Md_unchanged_30 : decode b_Md_unchanged 30 = .ok (.istore_n 3, 1) := by decide +kernel
theorem d_Md_unchanged_31 : decode b_Md_unchanged 31 = .ok (.iload_n 3, 1) := by decide +kernel
theorem d_Md_unchanged_32 : decode b_Md_unchanged 32 = .ok (.aload_n 0, 1) := by decide +kernel
theorem d_Md_unchanged_33 : decode b_Md_unchanged 33 = .ok (.getfield 25, 3) := by decide +kernel
theorem d_Md_unchanged_36 : decode b_Md_unchanged 36 = .ok (.iload_n 1, 1) := by decide +kernel
theorem d_Md_unchanged_37 : decode b_Md_unchanged 37 = .ok (.iaload, 1) := by decide +kernel
theorem d_Md_unchanged_38 : decode b_Md_unchanged 38 = .ok (.if_icmp .ge 44, 3) := by decide +kernel
theorem d_Md_unchanged_41 : decode b_Md_unchanged 41 = .ok (.iload_n 2, 1) := by decide +kernel
theorem d_Md_unchanged_42 : decode b_Md_unchanged 42 = .ok (.ifCond .eq 32, 3) := by decide +kernel
theorem d_Md_unchanged_45 : decode b_Md_unchanged 45 = .ok (.aload_n 0, 1) := by decide +kernel
theorem d_Md_unchanged_46 : decode b_Md_unchanged 46 = .ok (.getfield 40, 3) := by decide +kernel
theorem d_Md_unchanged_49 : decode b_Md_unchanged 49 = .ok (.bipush 48, 2) := by decide +kernel
theorem d_Md_unchanged_51 : decode b_Md_unchanged 51 = .ok (.iload_n 1, 1) := by decide +kernel
theorem d_Md_unchanged_52 : decode b_Md_unchanged 52 = .ok (.imul, 1) := by decide +kernel
theorem d_Md_unchanged_53 : decode b_Md_unchanged 53 = .ok (.iload_n 3, 1) := by decide +kernel
theorem d_Md_unchanged_54 : decode b_Md_unchanged 54 = .ok (.iadd, 1) := by decide +kernel
theorem d_Md_unchanged_55 : decode b_Md_unchanged 55 = .ok (.iaload, 1) := by decide +kernel
theorem d_Md_unchanged_56 : decode b_Md_unchanged 56 = .ok (.aload_n 0, 1) := by decide +kernel
theorem d_Md_unchanged_57 : decode b_Md_unchanged 57 = .ok (.getfield 31, 3) := by decide +kernel
theorem d_Md_unchanged_60 : decode b_Md_unchanged 60 = .ok (.bipush 48, 2) := by decide +kernel
theorem d_Md_unchanged_62 : decode b_Md_unchanged 62 = .ok (.iload_n 1, 1) := by decide +kernel
theorem d_Md_unchanged_63 : decode b_Md_unchanged 63 = .ok (.imul, 1) := by decide +kernel
theorem d_Md_unchanged_64 : decode b_Md_unchanged 64 = .ok (.iload_n 3, 1) := by decide +kernel
theorem d_Md_unchanged_65 : decode b_Md_unchanged 65 = .ok (.iadd, 1) := by decide +kernel
theorem d_Md_unchanged_66 : decode b_Md_unchanged 66 = .ok (.iaload, 1) := by decide +kernel
theorem d_Md_unchanged_67 : decode b_Md_unchanged 67 = .ok (.if_icmp .ne 7, 3) := by decide +kernel
theorem d_Md_unchanged_70 : decode b_Md_unchanged 70 = .ok (.iconst 1, 1) := by decide +kernel
theorem d_Md_unchanged_71 : decode b_Md_unchanged 71 = .ok (.goto 4, 3) := by decide +kernel
theorem d_Md_unchanged_74 : decode b_Md_unchanged 74 = .ok (.iconst 0, 1) := by decide +kernel
theorem d_Md_unchanged_75 : decode b_Md_unchanged 75 = .ok (.istore_n 2, 1) := by decide +kernel
theorem d_Md_unchanged_76 : decode b_Md_unchanged 76 = .ok (.iinc 3 1, 3) := by decide +kernel
theorem d_Md_unchanged_79 : decode b_Md_unchanged 79 = .ok (.goto (-48), 3) := by decide +kernel
theorem d_Md_unchanged_82 : decode b_Md_unchanged 82 = .ok (.iload_n 2, 1) := by decide +kernel
theorem d_Md_unchanged_83 : decode b_Md_unchanged 83 = .ok (.ireturn, 1) := by decide +kernel
theorem d_Md_publish_0 : decode b_Md_publish 0 = .ok (.aload_n 0, 1) := by decide +kernel
theorem d_Md_publish_1 : decode b_Md_publish 1 = .ok (.invokevirtual 106, 3) := by decide +kernel
theorem d_Md_publish_4 : decode b_Md_publish 4 = .ok (.aload_n 0, 1) := by decide +kernel
theorem d_Md_publish_5 : decode b_Md_publish 5 = .ok (.dup, 1) := by decide +kernel
theorem d_Md_publish_6 : decode b_Md_publish 6 = .ok (.getfield 109, 3) := by decide +kernel
theorem d_Md_publish_9 : decode b_Md_publish 9 = .ok (.iconst 1, 1) := by decide +kernel
theorem d_Md_publish_10 : decode b_Md_publish 10 = .ok (.iadd, 1) := by decide +kernel
theorem d_Md_publish_11 : decode b_Md_publish 11 = .ok (.putfield 109, 3) := by decide +kernel
theorem d_Md_publish_14 : decode b_Md_publish 14 = .ok (.aload_n 0, 1) := by decide +kernel
theorem d_Md_publish_15 : decode b_Md_publish 15 = .ok (.iconst 0, 1) := by decide +kernel
theorem d_Md_publish_16 : decode b_Md_publish 16 = .ok (.putfield 100, 3) := by decide +kernel
theorem d_Md_publish_19 : decode b_Md_publish 19 = .ok (.iconst 0, 1) := by decide +kernel
theorem d_Md_publish_20 : decode b_Md_publish 20 = .ok (.istore_n 1, 1) := by decide +kernel
theorem d_Md_publish_21 : decode b_Md_publish 21 = .ok (.iconst 0, 1) := by decide +kernel
theorem d_Md_publish_22 : decode b_Md_publish 22 = .ok (.istore_n 2, 1) := by decide +kernel
theorem d_Md_publish_23 : decode b_Md_publish 23 = .ok (.iload_n 2, 1) := by decide +kernel
theorem d_Md_publish_24 : decode b_Md_publish 24 = .ok (.ifCond .lt 75, 3) := by decide +kernel
theorem d_Md_publish_27 : decode b_Md_publish 27 = .ok (.iconst 3, 1) := by decide +kernel
theorem d_Md_publish_28 : decode b_Md_publish 28 = .ok (.aload_n 0, 1) := by decide +kernel
theorem d_Md_publish_29 : decode b_Md_publish 29 = .ok (.iload_n 2, 1) := by decide +kernel
theorem d_Md_publish_30 : decode b_Md_publish 30 = .ok (.invokevirtual 96, 3) := by decide +kernel
theorem d_Md_publish_33 : decode b_Md_publish 33 = .ok (.iadd, 1) := by decide +kernel
theorem d_Md_publish_34 : decode b_Md_publish 34 = .ok (.istore_n 3, 1) := by decide +kernel
theorem d_Md_publish_35 : decode b_Md_publish 35 = .ok (.aload_n 0, 1) := by decide +kernel
theorem d_Md_publish_36 : decode b_Md_publish 36 = .ok (.getfield 100, 3) := by decide +kernel
theorem d_Md_publish_39 : decode b_Md_publish 39 = .ok (.ifCond .eq 11, 3) := by decide +kernel
theorem d_Md_publish_42 : decode b_Md_publish 42 = .ok (.iload_n 1, 1) := by decide +kernel
theorem d_Md_publish_43 : decode b_Md_publish 43 = .ok (.iload_n 3, 1) := by decide +kernel
theorem d_Md_publish_44 : decode b_Md_publish 44 = .ok (.iadd, 1) := by decide +kernel
theorem d_Md_publish_45 : decode b_Md_publish 45 = .ok (.bipush 24, 2) := by decide +kernel
theorem d_Md_publish_47 : decode b_Md_publish 47 = .ok (.if_icmp .le 27, 3) := by decide +kernel
theorem d_Md_publish_50 : decode b_Md_publish 50 = .ok (.aload_n 0, 1) := by decide +kernel
theorem d_Md_publish_51 : decode b_Md_publish 51 = .ok (.dup, 1) := by decide +kernel
theorem d_Md_publish_52 : decode b_Md_publish 52 = .ok (.getfield 100, 3) := by decide +kernel
theorem d_Md_publish_55 : decode b_Md_publish 55 = .ok (.iconst 1, 1) := by decide +kernel
theorem d_Md_publish_56 : decode b_Md_publish 56 = .ok (.iadd, 1) := by decide +kernel
theorem d_Md_publish_57 : decode b_Md_publish 57 = .ok (.putfield 100, 3) := by decide +kernel
theorem d_Md_publish_60 : decode b_Md_publish 60 = .ok (.iconst 0, 1) := by decide +kernel
theorem d_Md_publish_61 : decode b_Md_publish 61 = .ok (.istore_n 1, 1) := by decide +kernel
theorem d_Md_publish_62 : decode b_Md_publish 62 = .ok (.aload_n 0, 1) := by decide +kernel
theorem d_Md_publish_63 : decode b_Md_publish 63 = .ok (.getfield 25, 3) := by decide +kernel
theorem d_Md_publish_66 : decode b_Md_publish 66 = .ok (.aload_n 0, 1) := by decide +kernel
theorem d_Md_publish_67 : decode b_Md_publish 67 = .ok (.getfield 100, 3) := by decide +kernel
theorem d_Md_publish_70 : decode b_Md_publish 70 = .ok (.iconst 1, 1) := by decide +kernel
theorem d_Md_publish_71 : decode b_Md_publish 71 = .ok (.isub, 1) := by decide +kernel
theorem d_Md_publish_72 : decode b_Md_publish 72 = .ok (.iconst 0, 1) := by decide +kernel
theorem d_Md_publish_73 : decode b_Md_publish 73 = .ok (.iastore, 1) := by decide +kernel
theorem d_Md_publish_74 : decode b_Md_publish 74 = .ok (.iload_n 1, 1) := by decide +kernel
theorem d_Md_publish_75 : decode b_Md_publish 75 = .ok (.iload_n 3, 1) := by decide +kernel
theorem d_Md_publish_76 : decode b_Md_publish 76 = .ok (.iadd, 1) := by decide +kernel
theorem d_Md_publish_77 : decode b_Md_publish 77 = .ok (.istore_n 1, 1) := by decide +kernel
theorem d_Md_publish_78 : decode b_Md_publish 78 = .ok (.aload_n 0, 1) := by decide +kernel
theorem d_Md_publish_79 : decode b_Md_publish 79 = .ok (.getfield 43, 3) := by decide +kernel
theorem d_Md_publish_82 : decode b_Md_publish 82 = .ok (.iload_n 2, 1) := by decide +kernel
theorem d_Md_publish_83 : decode b_Md_publish 83 = .ok (.aload_n 0, 1) := by decide +kernel
theorem d_Md_publish_84 : decode b_Md_publish 84 = .ok (.getfield 100, 3) := by decide +kernel
theorem d_Md_publish_87 : decode b_Md_publish 87 = .ok (.iconst 1, 1) := by decide +kernel
theorem d_Md_publish_88 : decode b_Md_publish 88 = .ok (.isub, 1) := by decide +kernel
theorem d_Md_publish_89 : decode b_Md_publish 89 = .ok (.iastore, 1) := by decide +kernel
theorem d_Md_publish_90 : decode b_Md_publish 90 = .ok (.aload_n 0, 1) := by decide +kernel
theorem d_Md_publish_91 : decode b_Md_publish 91 = .ok (.iload_n 2, 1) := by decide +kernel
theorem d_Md_publish_92 : decode b_Md_publish 92 = .ok (.invokevirtual 112, 3) := by decide +kernel
theorem d_Md_publish_95 : decode b_Md_publish 95 = .ok (.istore_n 2, 1) := by decide +kernel
theorem d_Md_publish_96 : decode b_Md_publish 96 = .ok (.goto (-73), 3) := by decide +kernel
theorem d_Md_publish_99 : decode b_Md_publish 99 = .ok (.iconst 0, 1) := by decide +kernel
theorem d_Md_publish_100 : decode b_Md_publish 100 = .ok (.istore_n 2, 1) := by decide +kernel
theorem d_Md_publish_101 : decode b_Md_publish 101 = .ok (.iload_n 2, 1) := by decide +kernel
theorem d_Md_publish_102 : decode b_Md_publish 102 = .ok (.ifCond .lt 17, 3) := by decide +kernel
theorem d_Md_publish_105 : decode b_Md_publish 105 = .ok (.aload_n 0, 1) := by decide +kernel
theorem d_Md_publish_106 : decode b_Md_publish 106 = .ok (.iload_n 2, 1) := by decide +kernel
theorem d_Md_publish_107 : decode b_Md_publish 107 = .ok (.invokevirtual 115, 3) := by decide +kernel
theorem d_Md_publish_110 : decode b_Md_publish 110 = .ok (.aload_n 0, 1) := by decide +kernel
theorem d_Md_publish_111 : decode b_Md_publish 111 = .ok (.iload_n 2, 1) := by decide +kernel
theorem d_Md_publish_112 : decode b_Md_publish 112 = .ok (.invokevirtual 112, 3) := by decide +kernel
theorem d_Md_publish_115 : decode b_Md_publish 115 = .ok (.istore_n 2, 1) := by decide +kernel
theorem d_Md_publish_116 : decode b_Md_publish 116 = .ok (.goto (-15), 3) := by decide +kernel
theorem d_Md_publish_119 : decode b_Md_publish 119 = .ok (.iconst 0, 1) := by decide +kernel
theorem d_Md_publish_120 : decode b_Md_publish 120 = .ok (.istore_n 2, 1) := by decide +kernel
theorem d_Md_publish_121 : decode b_Md_publish 121 = .ok (.iload_n 2, 1) := by decide +kernel
theorem d_Md_publish_122 : decode b_Md_publish 122 = .ok (.aload_n 0, 1) := by decide +kernel
theorem d_Md_publish_123 : decode b_Md_publish 123 = .ok (.getfield 100, 3) := by decide +kernel
theorem d_Md_publish_126 : decode b_Md_publish 126 = .ok (.if_icmp .ge 36, 3) := by decide +kernel
theorem d_Md_publish_129 : decode b_Md_publish 129 = .ok (.aload_n 0, 1) := by decide +kernel
theorem d_Md_publish_130 : decode b_Md_publish 130 = .ok (.getfield 28, 3) := by decide +kernel
theorem d_Md_publish_133 : decode b_Md_publish 133 = .ok (.iload_n 2, 1) := by decide +kernel
theorem d_Md_publish_134 : decode b_Md_publish 134 = .ok (.aload_n 0, 1) := by decide +kernel
theorem d_Md_publish_135 : decode b_Md_publish 135 = .ok (.iload_n 2, 1) := by decide +kernel
theorem d_Md_publish_136 : decode b_Md_publish 136 = .ok (.invokevirtual 119, 3) := by decide +kernel
theorem d_Md_publish_139 : decode b_Md_publish 139 = .ok (.ifCond .eq 12, 3) := by decide +kernel
theorem d_Md_publish_142 : decode b_Md_publish 142 = .ok (.aload_n 0, 1) := by decide +kernel
theorem d_Md_publish_143 : decode b_Md_publish 143 = .ok (.getfield 37, 3) := by decide +kernel
theorem d_Md_publish_146 : decode b_Md_publish 146 = .ok (.iload_n 2, 1) := by decide +kernel
theorem d_Md_publish_147 : decode b_Md_publish 147 = .ok (.iaload, 1) := by decide +kernel
theorem d_Md_publish_148 : decode b_Md_publish 148 = .ok (.goto 7, 3) := by decide +kernel
theorem d_Md_publish_151 : decode b_Md_publish 151 = .ok (.aload_n 0, 1) := by decide +kernel
theorem d_Md_publish_152 : decode b_Md_publish 152 = .ok (.getfield 109, 3) := by decide +kernel
theorem d_Md_publish_155 : decode b_Md_publish 155 = .ok (.iastore, 1) := by decide +kernel
theorem d_Md_publish_156 : decode b_Md_publish 156 = .ok (.iinc 2 1, 3) := by decide +kernel
theorem d_Md_publish_159 : decode b_Md_publish 159 = .ok (.goto (-38), 3) := by decide +kernel
theorem d_Md_publish_162 : decode b_Md_publish 162 = .ok (.aload_n 0, 1) := by decide +kernel
theorem d_Md_publish_163 : decode b_Md_publish 163 = .ok (.invokevirtual 123, 3) := by decide +kernel
theorem d_Md_publish_166 : decode b_Md_publish 166 = .ok (.aload_n 0, 1) := by decide +kernel
theorem d_Md_publish_167 : decode b_Md_publish 167 = .ok (.iconst 0, 1) := by decide +kernel
theorem d_Md_publish_168 : decode b_Md_publish 168 = .ok (.putfield 126, 3) := by decide +kernel
theorem d_Md_publish_171 : decode b_Md_publish 171 = .ok (.aload_n 0, 1) := by decide +kernel
theorem d_Md_publish_172 : decode b_Md_publish 172 = .ok (.getfield 109, 3) := by decide +kernel
theorem d_Md_publish_175 : decode b_Md_publish 175 = .ok (.ireturn, 1) := by decide +kernel
theorem d_Md_mixed_0 : decode b_Md_mixed 0 = .ok (.iload_n 0, 1) := by decide +kernel
theorem d_Md_mixed_1 : decode b_Md_mixed 1 = .ok (.iload_n 1, 1) := by decide +kernel
theorem d_Md_mixed_2 : decode b_Md_mixed 2 = .ok (.bipush 24, 2) := by decide +kernel
theorem d_Md_mixed_4 : decode b_Md_mixed 4 = .ok (.ishl, 1) := by decide +kernel
theorem d_Md_mixed_5 : decode b_Md_mixed 5 = .ok (.ixor, 1) := by decide +kernel
theorem d_Md_mixed_6 : decode b_Md_mixed 6 = .ok (.istore_n 2, 1) := by decide +kernel
theorem d_Md_mixed_7 : decode b_Md_mixed 7 = .ok (.iconst 0, 1) := by decide +kernel
theorem d_Md_mixed_8 : decode b_Md_mixed 8 = .ok (.istore_n 3, 1) := by decide +kernel
theorem d_Md_mixed_9 : decode b_Md_mixed 9 = .ok (.iload_n 3, 1) := by decide +kernel
theorem d_Md_mixed_10 : decode b_Md_mixed 10 = .ok (.bipush 8, 2) := by decide +kernel
theorem d_Md_mixed_12 : decode b_Md_mixed 12 = .ok (.if_icmp .ge 29, 3) := by decide +kernel
theorem d_Md_mixed_15 : decode b_Md_mixed 15 = .ok (.iconst 2, 1) := by decide +kernel
theorem d_Md_mixed_16 : decode b_Md_mixed 16 = .ok (.iload_n 2, 1) := by decide +kernel
theorem d_Md_mixed_17 : decode b_Md_mixed 17 = .ok (.imul, 1) := by decide +kernel
theorem d_Md_mixed_18 : decode b_Md_mixed 18 = .ok (.istore 4, 2) := by decide +kernel
theorem d_Md_mixed_20 : decode b_Md_mixed 20 = .ok (.iload_n 2, 1) := by decide +kernel
theorem d_Md_mixed_21 : decode b_Md_mixed 21 = .ok (.ifCond .ge 11, 3) := by decide +kernel
theorem d_Md_mixed_24 : decode b_Md_mixed 24 = .ok (.iload 4, 2) := by decide +kernel
theorem d_Md_mixed_26 : decode b_Md_mixed 26 = .ok (.ldc 129, 2) := by decide +kernel
theorem d_Md_mixed_28 : decode b_Md_mixed 28 = .ok (.ixor, 1) := by decide +kernel
theorem d_Md_mixed_29 : decode b_Md_mixed 29 = .ok (.goto 5, 3) := by decide +kernel
theorem d_Md_mixed_32 : decode b_Md_mixed 32 = .ok (.iload 4, 2) := by decide +kernel
theorem d_Md_mixed_34 : decode b_Md_mixed 34 = .ok (.istore_n 2, 1) := by decide +kernel
theorem d_Md_mixed_35 : decode b_Md_mixed 35 = .ok (.iinc 3 1, 3) := by decide +kernel
theorem d_Md_mixed_38 : decode b_Md_mixed 38 = .ok (.goto (-29), 3) := by decide +kernel
theorem d_Md_mixed_41 : decode b_Md_mixed 41 = .ok (.iload_n 2, 1) := by decide +kernel
theorem d_Md_mixed_42 : decode b_Md_mixed 42 = .ok (.ireturn, 1) := by decide +kernel
theorem d_Md_writeCycle_0 : decode b_Md_writeCycle 0 = .ok (.aload_n 0, 1) := by decide +kernel
theorem d_Md_writeCycle_1 : decode b_Md_writeCycle 1 = .ok (.iconst 0, 1) := by decide +kernel
theorem d_Md_writeCycle_2 : decode b_Md_writeCycle 2 = .ok (.putfield 130, 3) := by decide +kernel
theorem d_Md_writeCycle_5 : decode b_Md_writeCycle 5 = .ok (.aload_n 0, 1) := by decide +kernel
theorem d_Md_writeCycle_6 : decode b_Md_writeCycle 6 = .ok (.iconst (-1), 1) := by decide +kernel
theorem d_Md_writeCycle_7 : decode b_Md_writeCycle 7 = .ok (.putfield 133, 3) := by decide +kernel
theorem d_Md_writeCycle_10 : decode b_Md_writeCycle 10 = .ok (.aload_n 0, 1) := by decide +kernel
theorem d_Md_writeCycle_11 : decode b_Md_writeCycle 11 = .ok (.bipush 59, 2) := by decide +kernel
theorem d_Md_writeCycle_13 : decode b_Md_writeCycle 13 = .ok (.invokevirtual 139, 3) := by decide +kernel
theorem d_Md_writeCycle_16 : decode b_Md_writeCycle 16 = .ok (.aload_n 0, 1) := by decide +kernel
theorem d_Md_writeCycle_17 : decode b_Md_writeCycle 17 = .ok (.bipush 7, 2) := by decide +kernel
theorem d_Md_writeCycle_19 : decode b_Md_writeCycle 19 = .ok (.iconst 3, 1) := by decide +kernel
theorem d_Md_writeCycle_20 : decode b_Md_writeCycle 20 = .ok (.aload_n 0, 1) := by decide +kernel
theorem d_Md_writeCycle_21 : decode b_Md_writeCycle 21 = .ok (.getfield 100, 3) := by decide +kernel
theorem d_Md_writeCycle_24 : decode b_Md_writeCycle 24 = .ok (.imul, 1) := by decide +kernel
theorem d_Md_writeCycle_25 : decode b_Md_writeCycle 25 = .ok (.iadd, 1) := by decide +kernel
theorem d_Md_writeCycle_26 : decode b_Md_writeCycle 26 = .ok (.invokevirtual 139, 3) := by decide +kernel
theorem d_Md_writeCycle_29 : decode b_Md_writeCycle 29 = .ok (.aload_n 0, 1) := by decide +kernel
theorem d_Md_writeCycle_30 : decode b_Md_writeCycle 30 = .ok (.aload_n 0, 1) := by decide +kernel
theorem d_Md_writeCycle_31 : decode b_Md_writeCycle 31 = .ok (.getfield 109, 3) := by decide +kernel
theorem d_Md_writeCycle_34 : decode b_Md_writeCycle 34 = .ok (.invokevirtual 142, 3) := by decide +kernel
theorem d_Md_writeCycle_37 : decode b_Md_writeCycle 37 = .ok (.aload_n 0, 1) := by decide +kernel
theorem d_Md_writeCycle_38 : decode b_Md_writeCycle 38 = .ok (.aload_n 0, 1) := by decide +kernel
theorem d_Md_writeCycle_39 : decode b_Md_writeCycle 39 = .ok (.getfield 100, 3) := by decide +kernel
theorem d_Md_writeCycle_42 : decode b_Md_writeCycle 42 = .ok (.invokevirtual 139, 3) := by decide +kernel
theorem d_Md_writeCycle_45 : decode b_Md_writeCycle 45 = .ok (.iconst 0, 1) := by decide +kernel
theorem d_Md_writeCycle_46 : decode b_Md_writeCycle 46 = .ok (.istore_n 1, 1) := by decide +kernel
theorem d_Md_writeCycle_47 : decode b_Md_writeCycle 47 = .ok (.iload_n 1, 1) := by decide +kernel
theorem d_Md_writeCycle_48 : decode b_Md_writeCycle 48 = .ok (.aload_n 0, 1) := by decide +kernel
theorem d_Md_writeCycle_49 : decode b_Md_writeCycle 49 = .ok (.getfield 100, 3) := by decide +kernel
theorem d_Md_writeCycle_52 : decode b_Md_writeCycle 52 = .ok (.if_icmp .ge 29, 3) := by decide +kernel
theorem d_Md_writeCycle_55 : decode b_Md_writeCycle 55 = .ok (.aload_n 0, 1) := by decide +kernel
theorem d_Md_writeCycle_56 : decode b_Md_writeCycle 56 = .ok (.aload_n 0, 1) := by decide +kernel
theorem d_Md_writeCycle_57 : decode b_Md_writeCycle 57 = .ok (.getfield 25, 3) := by decide +kernel
theorem d_Md_writeCycle_60 : decode b_Md_writeCycle 60 = .ok (.iload_n 1, 1) := by decide +kernel
theorem d_Md_writeCycle_61 : decode b_Md_writeCycle 61 = .ok (.iaload, 1) := by decide +kernel
theorem d_Md_writeCycle_62 : decode b_Md_writeCycle 62 = .ok (.invokevirtual 139, 3) := by decide +kernel
theorem d_Md_writeCycle_65 : decode b_Md_writeCycle 65 = .ok (.aload_n 0, 1) := by decide +kernel
theorem d_Md_writeCycle_66 : decode b_Md_writeCycle 66 = .ok (.aload_n 0, 1) := by decide +kernel
theorem d_Md_writeCycle_67 : decode b_Md_writeCycle 67 = .ok (.getfield 28, 3) := by decide +kernel
theorem d_Md_writeCycle_70 : decode b_Md_writeCycle 70 = .ok (.iload_n 1, 1) := by decide +kernel
theorem d_Md_writeCycle_71 : decode b_Md_writeCycle 71 = .ok (.iaload, 1) := by decide +kernel
theorem d_Md_writeCycle_72 : decode b_Md_writeCycle 72 = .ok (.invokevirtual 142, 3) := by decide +kernel
theorem d_Md_writeCycle_75 : decode b_Md_writeCycle 75 = .ok (.iinc 1 1, 3) := by decide +kernel
theorem d_Md_writeCycle_78 : decode b_Md_writeCycle 78 = .ok (.goto (-31), 3) := by decide +kernel
theorem d_Md_writeCycle_81 : decode b_Md_writeCycle 81 = .ok (.aload_n 0, 1) := by decide +kernel
theorem d_Md_writeCycle_82 : decode b_Md_writeCycle 82 = .ok (.invokevirtual 145, 3) := by decide +kernel
theorem d_Md_writeCycle_85 : decode b_Md_writeCycle 85 = .ok (.iconst 0, 1) := by decide +kernel
theorem d_Md_writeCycle_86 : decode b_Md_writeCycle 86 = .ok (.istore_n 1, 1) := by decide +kernel
theorem d_Md_writeCycle_87 : decode b_Md_writeCycle 87 = .ok (.iload_n 1, 1) := by decide +kernel
theorem d_Md_writeCycle_88 : decode b_Md_writeCycle 88 = .ok (.aload_n 0, 1) := by decide +kernel
theorem d_Md_writeCycle_89 : decode b_Md_writeCycle 89 = .ok (.getfield 100, 3) := by decide +kernel
theorem d_Md_writeCycle_92 : decode b_Md_writeCycle 92 = .ok (.if_icmp .ge 128, 3) := by decide +kernel
theorem d_Md_writeCycle_95 : decode b_Md_writeCycle 95 = .ok (.iconst 0, 1) := by decide +kernel
theorem d_Md_writeCycle_96 : decode b_Md_writeCycle 96 = .ok (.istore_n 2, 1) := by decide +kernel
theorem d_Md_writeCycle_97 : decode b_Md_writeCycle 97 = .ok (.iload_n 2, 1) := by decide +kernel
theorem d_Md_writeCycle_98 : decode b_Md_writeCycle 98 = .ok (.aload_n 0, 1) := by decide +kernel
theorem d_Md_writeCycle_99 : decode b_Md_writeCycle 99 = .ok (.getfield 25, 3) := by decide +kernel
theorem d_Md_writeCycle_102 : decode b_Md_writeCycle 102 = .ok (.iload_n 1, 1) := by decide +kernel
theorem d_Md_writeCycle_103 : decode b_Md_writeCycle 103 = .ok (.iaload, 1) := by decide +kernel
theorem d_Md_writeCycle_104 : decode b_Md_writeCycle 104 = .ok (.if_icmp .ge 110, 3) := by decide +kernel
theorem d_Md_writeCycle_107 : decode b_Md_writeCycle 107 = .ok (.aload_n 0, 1) := by decide +kernel
theorem d_Md_writeCycle_108 : decode b_Md_writeCycle 108 = .ok (.getfield 25, 3) := by decide +kernel
theorem d_Md_writeCycle_111 : decode b_Md_writeCycle 111 = .ok (.iload_n 1, 1) := by decide +kernel
theorem d_Md_writeCycle_112 : decode b_Md_writeCycle 112 = .ok (.iaload, 1) := by decide +kernel
theorem d_Md_writeCycle_113 : decode b_Md_writeCycle 113 = .ok (.iload_n 2, 1) := by decide +kernel
theorem d_Md_writeCycle_114 : decode b_Md_writeCycle 114 = .ok (.isub, 1) := by decide +kernel
theorem d_Md_writeCycle_115 : decode b_Md_writeCycle 115 = .ok (.bipush 8, 2) := by decide +kernel
theorem d_Md_writeCycle_117 : decode b_Md_writeCycle 117 = .ok (.if_icmp .ge 14, 3) := by decide +kernel
theorem d_Md_writeCycle_120 : decode b_Md_writeCycle 120 = .ok (.aload_n 0, 1) := by decide +kernel
theorem d_Md_writeCycle_121 : decode b_Md_writeCycle 121 = .ok (.getfield 25, 3) := by decide +kernel
theorem d_Md_writeCycle_124 : decode b_Md_writeCycle 124 = .ok (.iload_n 1, 1) := by decide +kernel
theorem d_Md_writeCycle_125 : decode b_Md_writeCycle 125 = .ok (.iaload, 1) := by decide +kernel
theorem d_Md_writeCycle_126 : decode b_Md_writeCycle 126 = .ok (.iload_n 2, 1) := by decide +kernel
theorem d_Md_writeCycle_127 : decode b_Md_writeCycle 127 = .ok (.isub, 1) := by decide +kernel
theorem d_Md_writeCycle_128 : decode b_Md_writeCycle 128 = .ok (.goto 5, 3) := by decide +kernel
theorem d_Md_writeCycle_131 : decode b_Md_writeCycle 131 = .ok (.bipush 8, 2) := by decide +kernel
theorem d_Md_writeCycle_133 : decode b_Md_writeCycle 133 = .ok (.istore_n 3, 1) := by decide +kernel
theorem d_Md_writeCycle_134 : decode b_Md_writeCycle 134 = .ok (.aload_n 0, 1) := by decide +kernel
theorem d_Md_writeCycle_135 : decode b_Md_writeCycle 135 = .ok (.bipush 60, 2) := by decide +kernel
theorem d_Md_writeCycle_137 : decode b_Md_writeCycle 137 = .ok (.invokevirtual 139, 3) := by decide +kernel
theorem d_Md_writeCycle_140 : decode b_Md_writeCycle 140 = .ok (.aload_n 0, 1) := by decide +kernel
theorem d_Md_writeCycle_141 : decode b_Md_writeCycle 141 = .ok (.bipush 8, 2) := by decide +kernel
theorem d_Md_writeCycle_143 : decode b_Md_writeCycle 143 = .ok (.iload_n 3, 1) := by decide +kernel
theorem d_Md_writeCycle_144 : decode b_Md_writeCycle 144 = .ok (.iadd, 1) := by decide +kernel
theorem d_Md_writeCycle_145 : decode b_Md_writeCycle 145 = .ok (.invokevirtual 139, 3) := by decide +kernel
theorem d_Md_writeCycle_148 : decode b_Md_writeCycle 148 = .ok (.aload_n 0, 1) := by decide +kernel
theorem d_Md_writeCycle_149 : decode b_Md_writeCycle 149 = .ok (.iload_n 1, 1) := by decide +kernel
theorem d_Md_writeCycle_150 : decode b_Md_writeCycle 150 = .ok (.invokevirtual 139, 3) := by decide +kernel
theorem d_Md_writeCycle_153 : decode b_Md_writeCycle 153 = .ok (.aload_n 0, 1) := by decide +kernel
theorem d_Md_writeCycle_154 : decode b_Md_writeCycle 154 = .ok (.aload_n 0, 1) := by decide +kernel
theorem d_Md_writeCycle_155 : decode b_Md_writeCycle 155 = .ok (.getfield 28, 3) := by decide +kernel
theorem d_Md_writeCycle_158 : decode b_Md_writeCycle 158 = .ok (.iload_n 1, 1) := by decide +kernel
theorem d_Md_writeCycle_159 : decode b_Md_writeCycle 159 = .ok (.iaload, 1) := by decide +kernel
theorem d_Md_writeCycle_160 : decode b_Md_writeCycle 160 = .ok (.invokevirtual 142, 3) := by decide +kernel
theorem d_Md_writeCycle_163 : decode b_Md_writeCycle 163 = .ok (.aload_n 0, 1) := by decide +kernel
theorem d_Md_writeCycle_164 : decode b_Md_writeCycle 164 = .ok (.iload_n 2, 1) := by decide +kernel
theorem d_Md_writeCycle_165 : decode b_Md_writeCycle 165 = .ok (.bipush 8, 2) := by decide +kernel
theorem d_Md_writeCycle_167 : decode b_Md_writeCycle 167 = .ok (.idiv, 1) := by decide +kernel
theorem d_Md_writeCycle_168 : decode b_Md_writeCycle 168 = .ok (.invokevirtual 139, 3) := by decide +kernel
theorem d_Md_writeCycle_171 : decode b_Md_writeCycle 171 = .ok (.iconst 0, 1) := by decide +kernel
theorem d_Md_writeCycle_172 : decode b_Md_writeCycle 172 = .ok (.istore 4, 2) := by decide +kernel
theorem d_Md_writeCycle_174 : decode b_Md_writeCycle 174 = .ok (.iload 4, 2) := by decide +kernel
theorem d_Md_writeCycle_176 : decode b_Md_writeCycle 176 = .ok (.iload_n 3, 1) := by decide +kernel
theorem d_Md_writeCycle_177 : decode b_Md_writeCycle 177 = .ok (.if_icmp .ge 27, 3) := by decide +kernel
theorem d_Md_writeCycle_180 : decode b_Md_writeCycle 180 = .ok (.aload_n 0, 1) := by decide +kernel
theorem d_Md_writeCycle_181 : decode b_Md_writeCycle 181 = .ok (.aload_n 0, 1) := by decide +kernel
theorem d_Md_writeCycle_182 : decode b_Md_writeCycle 182 = .ok (.getfield 31, 3) := by decide +kernel
theorem d_Md_writeCycle_185 : decode b_Md_writeCycle 185 = .ok (.bipush 48, 2) := by decide +kernel
theorem d_Md_writeCycle_187 : decode b_Md_writeCycle 187 = .ok (.iload_n 1, 1) := by decide +kernel
theorem d_Md_writeCycle_188 : decode b_Md_writeCycle 188 = .ok (.imul, 1) := by decide +kernel
theorem d_Md_writeCycle_189 : decode b_Md_writeCycle 189 = .ok (.iload_n 2, 1) := by decide +kernel
theorem d_Md_writeCycle_190 : decode b_Md_writeCycle 190 = .ok (.iadd, 1) := by decide +kernel
theorem d_Md_writeCycle_191 : decode b_Md_writeCycle 191 = .ok (.iload 4, 2) := by decide +kernel
theorem d_Md_writeCycle_193 : decode b_Md_writeCycle 193 = .ok (.iadd, 1) := by decide +kernel
theorem d_Md_writeCycle_194 : decode b_Md_writeCycle 194 = .ok (.iaload, 1) := by decide +kernel
theorem d_Md_writeCycle_195 : decode b_Md_writeCycle 195 = .ok (.invokevirtual 139, 3) := by decide +kernel
theorem d_Md_writeCycle_198 : decode b_Md_writeCycle 198 = .ok (.iinc 4 1, 3) := by decide +kernel
theorem d_Md_writeCycle_201 : decode b_Md_writeCycle 201 = .ok (.goto (-27), 3) := by decide +kernel
theorem d_Md_writeCycle_204 : decode b_Md_writeCycle 204 = .ok (.aload_n 0, 1) := by decide +kernel
theorem d_Md_writeCycle_205 : decode b_Md_writeCycle 205 = .ok (.invokevirtual 145, 3) := by decide +kernel
theorem d_Md_writeCycle_208 : decode b_Md_writeCycle 208 = .ok (.iinc 2 8, 3) := by decide +kernel
theorem d_Md_writeCycle_211 : decode b_Md_writeCycle 211 = .ok (.goto (-114), 3) := by decide +kernel
theorem d_Md_writeCycle_214 : decode b_Md_writeCycle 214 = .ok (.iinc 1 1, 3) := by decide +kernel
theorem d_Md_writeCycle_217 : decode b_Md_writeCycle 217 = .ok (.goto (-130), 3) := by decide +kernel
theorem d_Md_writeCycle_220 : decode b_Md_writeCycle 220 = .ok (.return_, 1) := by decide +kernel
theorem d_Md_modules_0 : decode b_Md_modules 0 = .ok (.aload_n 0, 1) := by decide +kernel
theorem d_Md_modules_1 : decode b_Md_modules 1 = .ok (.getfield 100, 3) := by decide +kernel
theorem d_Md_modules_4 : decode b_Md_modules 4 = .ok (.ireturn, 1) := by decide +kernel
theorem d_Md_module_0 : decode b_Md_module 0 = .ok (.iload_n 1, 1) := by decide +kernel
theorem d_Md_module_1 : decode b_Md_module 1 = .ok (.ifCond .lt 30, 3) := by decide +kernel
theorem d_Md_module_4 : decode b_Md_module 4 = .ok (.iload_n 1, 1) := by decide +kernel
theorem d_Md_module_5 : decode b_Md_module 5 = .ok (.aload_n 0, 1) := by decide +kernel
theorem d_Md_module_6 : decode b_Md_module 6 = .ok (.getfield 100, 3) := by decide +kernel
theorem d_Md_module_9 : decode b_Md_module 9 = .ok (.if_icmp .ge 22, 3) := by decide +kernel
theorem d_Md_module_12 : decode b_Md_module 12 = .ok (.ldc 148, 2) := by decide +kernel
theorem d_Md_module_14 : decode b_Md_module 14 = .ok (.aload_n 0, 1) := by decide +kernel
theorem d_Md_module_15 : decode b_Md_module 15 = .ok (.getfield 28, 3) := by decide +kernel
theorem d_Md_module_18 : decode b_Md_module 18 = .ok (.iload_n 1, 1) := by decide +kernel
theorem d_Md_module_19 : decode b_Md_module 19 = .ok (.iaload, 1) := by decide +kernel
theorem d_Md_module_20 : decode b_Md_module 20 = .ok (.imul, 1) := by decide +kernel
theorem d_Md_module_21 : decode b_Md_module 21 = .ok (.aload_n 0, 1) := by decide +kernel
theorem d_Md_module_22 : decode b_Md_module 22 = .ok (.getfield 25, 3) := by decide +kernel
theorem d_Md_module_25 : decode b_Md_module 25 = .ok (.iload_n 1, 1) := by decide +kernel
theorem d_Md_module_26 : decode b_Md_module 26 = .ok (.iaload, 1) := by decide +kernel
theorem d_Md_module_27 : decode b_Md_module 27 = .ok (.iadd, 1) := by decide +kernel
theorem d_Md_module_28 : decode b_Md_module 28 = .ok (.goto 5, 3) := by decide +kernel
theorem d_Md_module_31 : decode b_Md_module 31 = .ok (.bipush (-2), 2) := by decide +kernel
theorem d_Md_module_33 : decode b_Md_module 33 = .ok (.ireturn, 1) := by decide +kernel
theorem d_Md_rest_0 : decode b_Md_rest 0 = .ok (.aload_n 0, 1) := by decide +kernel
theorem d_Md_rest_1 : decode b_Md_rest 1 = .ok (.getfield 126, 3) := by decide +kernel
theorem d_Md_rest_4 : decode b_Md_rest 4 = .ok (.ifCond .eq 17, 3) := by decide +kernel
theorem d_Md_rest_7 : decode b_Md_rest 7 = .ok (.aload_n 0, 1) := by decide +kernel
theorem d_Md_rest_8 : decode b_Md_rest 8 = .ok (.getfield 49, 3) := by decide +kernel
theorem d_Md_rest_11 : decode b_Md_rest 11 = .ok (.aload_n 0, 1) := by decide +kernel
theorem d_Md_rest_12 : decode b_Md_rest 12 = .ok (.getfield 126, 3) := by decide +kernel
theorem d_Md_rest_15 : decode b_Md_rest 15 = .ok (.iconst 1, 1) := by decide +kernel
theorem d_Md_rest_16 : decode b_Md_rest 16 = .ok (.isub, 1) := by decide +kernel
theorem d_Md_rest_17 : decode b_Md_rest 17 = .ok (.baload, 1) := by decide +kernel
theorem d_Md_rest_18 : decode b_Md_rest 18 = .ok (.ifCond .eq 5, 3) := by decide +kernel
theorem d_Md_rest_21 : decode b_Md_rest 21 = .ok (.iconst 0, 1) := by decide +kernel
theorem d_Md_rest_22 : decode b_Md_rest 22 = .ok (.ireturn, 1) := by decide +kernel
theorem d_Md_rest_23 : decode b_Md_rest 23 = .ok (.aload_n 0, 1) := by decide +kernel
theorem d_Md_rest_24 : decode b_Md_rest 24 = .ok (.getfield 126, 3) := by decide +kernel
theorem d_Md_rest_27 : decode b_Md_rest 27 = .ok (.istore_n 1, 1) := by decide +kernel
theorem d_Md_rest_28 : decode b_Md_rest 28 = .ok (.aload_n 0, 1) := by decide +kernel
theorem d_Md_rest_29 : decode b_Md_rest 29 = .ok (.getfield 49, 3) := by decide +kernel
theorem d_Md_rest_32 : decode b_Md_rest 32 = .ok (.iload_n 1, 1) := by decide +kernel
theorem d_Md_rest_33 : decode b_Md_rest 33 = .ok (.baload, 1) := by decide +kernel
theorem d_Md_rest_34 : decode b_Md_rest 34 = .ok (.ifCond .ne 9, 3) := by decide +kernel
theorem d_Md_rest_37 : decode b_Md_rest 37 = .ok (.iinc 1 1, 3) := by decide +kernel
theorem d_Md_rest_40 : decode b_Md_rest 40 = .ok (.goto (-12), 3) := by decide +kernel
theorem d_Md_rest_43 : decode b_Md_rest 43 = .ok (.iload_n 1, 1) := by decide +kernel
theorem d_Md_rest_44 : decode b_Md_rest 44 = .ok (.iconst 1, 1) := by decide +kernel
theorem d_Md_rest_45 : decode b_Md_rest 45 = .ok (.iadd, 1) := by decide +kernel
theorem d_Md_rest_46 : decode b_Md_rest 46 = .ok (.aload_n 0, 1) := by decide +kernel
theorem d_Md_rest_47 : decode b_Md_rest 47 = .ok (.getfield 126, 3) := by decide +kernel
theorem d_Md_rest_50 : decode b_Md_rest 50 = .ok (.isub, 1) := by decide +kernel
theorem d_Md_rest_51 : decode b_Md_rest 51 = .ok (.ireturn, 1) := by decide +kernel
theorem d_Md_sent_0 : decode b_Md_sent 0 = .ok (.aload_n 0, 1) := by decide +kernel
theorem d_Md_sent_1 : decode b_Md_sent 1 = .ok (.invokevirtual 156, 3) := by decide +kernel
theorem d_Md_sent_4 : decode b_Md_sent 4 = .ok (.istore_n 1, 1) := by decide +kernel
theorem d_Md_sent_5 : decode b_Md_sent 5 = .ok (.aload_n 0, 1) := by decide +kernel
theorem d_Md_sent_6 : decode b_Md_sent 6 = .ok (.aload_n 0, 1) := by decide +kernel
theorem d_Md_sent_7 : decode b_Md_sent 7 = .ok (.getfield 126, 3) := by decide +kernel
theorem d_Md_sent_10 : decode b_Md_sent 10 = .ok (.iload_n 1, 1) := by decide +kernel
theorem d_Md_sent_11 : decode b_Md_sent 11 = .ok (.iadd, 1) := by decide +kernel
theorem d_Md_sent_12 : decode b_Md_sent 12 = .ok (.aload_n 0, 1) := by decide +kernel
theorem d_Md_sent_13 : decode b_Md_sent 13 = .ok (.getfield 130, 3) := by decide +kernel
theorem d_Md_sent_16 : decode b_Md_sent 16 = .ok (.if_icmp .ne 7, 3) := by decide +kernel
theorem d_Md_sent_19 : decode b_Md_sent 19 = .ok (.iconst 0, 1) := by decide +kernel
theorem d_Md_sent_20 : decode b_Md_sent 20 = .ok (.goto 9, 3) := by decide +kernel
theorem d_Md_sent_23 : decode b_Md_sent 23 = .ok (.aload_n 0, 1) := by decide +kernel
theorem d_Md_sent_24 : decode b_Md_sent 24 = .ok (.getfield 126, 3) := by decide +kernel
theorem d_Md_sent_27 : decode b_Md_sent 27 = .ok (.iload_n 1, 1) := by decide +kernel
theorem d_Md_sent_28 : decode b_Md_sent 28 = .ok (.iadd, 1) := by decide +kernel
theorem d_Md_sent_29 : decode b_Md_sent 29 = .ok (.putfield 126, 3) := by decide +kernel
theorem d_Md_sent_32 : decode b_Md_sent 32 = .ok (.aload_n 0, 1) := by decide +kernel
theorem d_Md_sent_33 : decode b_Md_sent 33 = .ok (.aload_n 0, 1) := by decide +kernel
theorem d_Md_sent_34 : decode b_Md_sent 34 = .ok (.getfield 153, 3) := by decide +kernel
theorem d_Md_sent_37 : decode b_Md_sent 37 = .ok (.iconst 1, 1) := by decide +kernel
theorem d_Md_sent_38 : decode b_Md_sent 38 = .ok (.iadd, 1) := by decide +kernel
theorem d_Md_sent_39 : decode b_Md_sent 39 = .ok (.bipush 16, 2) := by decide +kernel
theorem d_Md_sent_41 : decode b_Md_sent 41 = .ok (.irem, 1) := by decide +kernel
theorem d_Md_sent_42 : decode b_Md_sent 42 = .ok (.putfield 153, 3) := by decide +kernel
theorem d_Md_sent_45 : decode b_Md_sent 45 = .ok (.return_, 1) := by decide +kernel
theorem d_Md_peek_0 : decode b_Md_peek 0 = .ok (.aload_n 0, 1) := by decide +kernel
theorem d_Md_peek_1 : decode b_Md_peek 1 = .ok (.getfield 109, 3) := by decide +kernel
theorem d_Md_peek_4 : decode b_Md_peek 4 = .ok (.ifCond .eq 13, 3) := by decide +kernel
theorem d_Md_peek_7 : decode b_Md_peek 7 = .ok (.iload_n 1, 1) := by decide +kernel
theorem d_Md_peek_8 : decode b_Md_peek 8 = .ok (.iconst 0, 1) := by decide +kernel
theorem d_Md_peek_9 : decode b_Md_peek 9 = .ok (.bipush 15, 2) := by decide +kernel
theorem d_Md_peek_11 : decode b_Md_peek 11 = .ok (.invokestatic 84, 3) := by decide +kernel
theorem d_Md_peek_14 : decode b_Md_peek 14 = .ok (.ifCond .ne 6, 3) := by decide +kernel
theorem d_Md_peek_17 : decode b_Md_peek 17 = .ok (.bipush (-2), 2) := by decide +kernel
theorem d_Md_peek_19 : decode b_Md_peek 19 = .ok (.ireturn, 1) := by decide +kernel
theorem d_Md_peek_20 : decode b_Md_peek 20 = .ok (.aload_n 0, 1) := by decide +kernel
theorem d_Md_peek_21 : decode b_Md_peek 21 = .ok (.invokevirtual 156, 3) := by decide +kernel
theorem d_Md_peek_24 : decode b_Md_peek 24 = .ok (.istore_n 2, 1) := by decide +kernel
theorem d_Md_peek_25 : decode b_Md_peek 25 = .ok (.iload_n 2, 1) := by decide +kernel
theorem d_Md_peek_26 : decode b_Md_peek 26 = .ok (.ifCond .ge 8, 3) := by decide +kernel
theorem d_Md_peek_29 : decode b_Md_peek 29 = .ok (.bipush (-2), 2) := by decide +kernel
theorem d_Md_peek_31 : decode b_Md_peek 31 = .ok (.goto 9, 3) := by decide +kernel
theorem d_Md_peek_34 : decode b_Md_peek 34 = .ok (.aload_n 0, 1) := by decide +kernel
theorem d_Md_peek_35 : decode b_Md_peek 35 = .ok (.getfield 53, 3) := by decide +kernel
theorem d_Md_peek_38 : decode b_Md_peek 38 = .ok (.iload_n 1, 1) := by decide +kernel
theorem d_Md_peek_39 : decode b_Md_peek 39 = .ok (.iaload, 1) := by decide +kernel
theorem d_Md_peek_40 : decode b_Md_peek 40 = .ok (.ireturn, 1) := by decide +kernel
theorem d_Md_pass_0 : decode b_Md_pass 0 = .ok (.iload_n 1, 1) := by decide +kernel
theorem d_Md_pass_1 : decode b_Md_pass 1 = .ok (.iconst 0, 1) := by decide +kernel
theorem d_Md_pass_2 : decode b_Md_pass 2 = .ok (.bipush 64, 2) := by decide +kernel
theorem d_Md_pass_4 : decode b_Md_pass 4 = .ok (.invokestatic 84, 3) := by decide +kernel
theorem d_Md_pass_7 : decode b_Md_pass 7 = .ok (.ifCond .ne 5, 3) := by decide +kernel
theorem d_Md_pass_10 : decode b_Md_pass 10 = .ok (.iconst (-1), 1) := by decide +kernel
theorem d_Md_pass_11 : decode b_Md_pass 11 = .ok (.ireturn, 1) := by decide +kernel
theorem d_Md_pass_12 : decode b_Md_pass 12 = .ok (.aload_n 0, 1) := by decide +kernel
theorem d_Md_pass_13 : decode b_Md_pass 13 = .ok (.getfield 109, 3) := by decide +kernel
theorem d_Md_pass_16 : decode b_Md_pass 16 = .ok (.ifCond .ne 6, 3) := by decide +kernel
theorem d_Md_pass_19 : decode b_Md_pass 19 = .ok (.bipush (-2), 2) := by decide +kernel
theorem d_Md_pass_21 : decode b_Md_pass 21 = .ok (.ireturn, 1) := by decide +kernel
theorem d_Md_pass_22 : decode b_Md_pass 22 = .ok (.iconst 0, 1) := by decide +kernel
theorem d_Md_pass_23 : decode b_Md_pass 23 = .ok (.istore_n 3, 1) := by decide +kernel
theorem d_Md_pass_24 : decode b_Md_pass 24 = .ok (.iload_n 3, 1) := by decide +kernel
theorem d_Md_pass_25 : decode b_Md_pass 25 = .ok (.iload_n 1, 1) := by decide +kernel
theorem d_Md_pass_26 : decode b_Md_pass 26 = .ok (.if_icmp .ge 21, 3) := by decide +kernel
theorem d_Md_pass_29 : decode b_Md_pass 29 = .ok (.aload_n 0, 1) := by decide +kernel
theorem d_Md_pass_30 : decode b_Md_pass 30 = .ok (.invokevirtual 159, 3) := by decide +kernel
theorem d_Md_pass_33 : decode b_Md_pass 33 = .ok (.iload_n 2, 1) := by decide +kernel
theorem d_Md_pass_34 : decode b_Md_pass 34 = .ok (.ifCond .eq 7, 3) := by decide +kernel
theorem d_Md_pass_37 : decode b_Md_pass 37 = .ok (.aload_n 0, 1) := by decide +kernel
theorem d_Md_pass_38 : decode b_Md_pass 38 = .ok (.invokevirtual 162, 3) := by decide +kernel
theorem d_Md_pass_41 : decode b_Md_pass 41 = .ok (.iinc 3 1, 3) := by decide +kernel
theorem d_Md_pass_44 : decode b_Md_pass 44 = .ok (.goto (-20), 3) := by decide +kernel
theorem d_Md_pass_47 : decode b_Md_pass 47 = .ok (.iload_n 1, 1) := by decide +kernel
theorem d_Md_pass_48 : decode b_Md_pass 48 = .ok (.ireturn, 1) := by decide +kernel
theorem d_Md_send_0 : decode b_Md_send 0 = .ok (.aload_n 0, 1) := by decide +kernel
theorem d_Md_send_1 : decode b_Md_send 1 = .ok (.iload_n 1, 1) := by decide +kernel
theorem d_Md_send_2 : decode b_Md_send 2 = .ok (.iconst 1, 1) := by decide +kernel
theorem d_Md_send_3 : decode b_Md_send 3 = .ok (.invokevirtual 165, 3) := by decide +kernel
theorem d_Md_send_6 : decode b_Md_send 6 = .ok (.ireturn, 1) := by decide +kernel
theorem d_Md_lose_0 : decode b_Md_lose 0 = .ok (.aload_n 0, 1) := by decide +kernel
theorem d_Md_lose_1 : decode b_Md_lose 1 = .ok (.iload_n 1, 1) := by decide +kernel
theorem d_Md_lose_2 : decode b_Md_lose 2 = .ok (.iconst 0, 1) := by decide +kernel
theorem d_Md_lose_3 : decode b_Md_lose 3 = .ok (.invokevirtual 165, 3) := by decide +kernel
theorem d_Md_lose_6 : decode b_Md_lose 6 = .ok (.ireturn, 1) := by decide +kernel
theorem d_Md_spoil_0 : decode b_Md_spoil 0 = .ok (.iload_n 1, 1) := by decide +kernel
theorem d_Md_spoil_1 : decode b_Md_spoil 1 = .ok (.iconst 0, 1) := by decide +kernel
theorem d_Md_spoil_2 : decode b_Md_spoil 2 = .ok (.bipush 15, 2) := by decide +kernel
theorem d_Md_spoil_4 : decode b_Md_spoil 4 = .ok (.invokestatic 84, 3) := by decide +kernel
theorem d_Md_spoil_7 : decode b_Md_spoil 7 = .ok (.ifCond .eq 14, 3) := by decide +kernel
theorem d_Md_spoil_10 : decode b_Md_spoil 10 = .ok (.iload_n 2, 1) := by decide +kernel
theorem d_Md_spoil_11 : decode b_Md_spoil 11 = .ok (.iconst 0, 1) := by decide +kernel
theorem d_Md_spoil_12 : decode b_Md_spoil 12 = .ok (.sipush 255, 3) := by decide +kernel
theorem d_Md_spoil_15 : decode b_Md_spoil 15 = .ok (.invokestatic 84, 3) := by decide +kernel
theorem d_Md_spoil_18 : decode b_Md_spoil 18 = .ok (.ifCond .ne 5, 3) := by decide +kernel
theorem d_Md_spoil_21 : decode b_Md_spoil 21 = .ok (.iconst (-1), 1) := by decide +kernel
theorem d_Md_spoil_22 : decode b_Md_spoil 22 = .ok (.ireturn, 1) := by decide +kernel
theorem d_Md_spoil_23 : decode b_Md_spoil 23 = .ok (.aload_n 0, 1) := by decide +kernel
theorem d_Md_spoil_24 : decode b_Md_spoil 24 = .ok (.getfield 109, 3) := by decide +kernel
theorem d_Md_spoil_27 : decode b_Md_spoil 27 = .ok (.ifCond .ne 6, 3) := by decide +kernel
theorem d_Md_spoil_30 : decode b_Md_spoil 30 = .ok (.bipush (-2), 2) := by decide +kernel
theorem d_Md_spoil_32 : decode b_Md_spoil 32 = .ok (.ireturn, 1) := by decide +kernel
theorem d_Md_spoil_33 : decode b_Md_spoil 33 = .ok (.aload_n 0, 1) := by decide +kernel
theorem d_Md_spoil_34 : decode b_Md_spoil 34 = .ok (.invokevirtual 159, 3) := by decide +kernel
theorem d_Md_spoil_37 : decode b_Md_spoil 37 = .ok (.aload_n 0, 1) := by decide +kernel
theorem d_Md_spoil_38 : decode b_Md_spoil 38 = .ok (.getfield 53, 3) := by decide +kernel
theorem d_Md_spoil_41 : decode b_Md_spoil 41 = .ok (.iload_n 1, 1) := by decide +kernel
theorem d_Md_spoil_42 : decode b_Md_spoil 42 = .ok (.aload_n 0, 1) := by decide +kernel
theorem d_Md_spoil_43 : decode b_Md_spoil 43 = .ok (.getfield 53, 3) := by decide +kernel
theorem d_Md_spoil_46 : decode b_Md_spoil 46 = .ok (.iload_n 1, 1) := by decide +kernel
theorem d_Md_spoil_47 : decode b_Md_spoil 47 = .ok (.iaload, 1) := by decide +kernel
theorem d_Md_spoil_48 : decode b_Md_spoil 48 = .ok (.iload_n 2, 1) := by decide +kernel
theorem d_Md_spoil_49 : decode b_Md_spoil 49 = .ok (.ixor, 1) := by decide +kernel
theorem d_Md_spoil_50 : decode b_Md_spoil 50 = .ok (.iastore, 1) := by decide +kernel
theorem d_Md_spoil_51 : decode b_Md_spoil 51 = .ok (.aload_n 0, 1) := by decide +kernel
theorem d_Md_spoil_52 : decode b_Md_spoil 52 = .ok (.invokevirtual 162, 3) := by decide +kernel
theorem d_Md_spoil_55 : decode b_Md_spoil 55 = .ok (.iconst 1, 1) := by decide +kernel
theorem d_Md_spoil_56 : decode b_Md_spoil 56 = .ok (.ireturn, 1) := by decide +kernel
theorem d_Md_retune_0 : decode b_Md_retune 0 = .ok (.aload_n 0, 1) := by decide +kernel
theorem d_Md_retune_1 : decode b_Md_retune 1 = .ok (.iconst (-1), 1) := by decide +kernel
theorem d_Md_retune_2 : decode b_Md_retune 2 = .ok (.putfield 56, 3) := by decide +kernel
theorem d_Md_retune_5 : decode b_Md_retune 5 = .ok (.aload_n 0, 1) := by decide +kernel
theorem d_Md_retune_6 : decode b_Md_retune 6 = .ok (.iconst (-1), 1) := by decide +kernel
theorem d_Md_retune_7 : decode b_Md_retune 7 = .ok (.putfield 60, 3) := by decide +kernel
theorem d_Md_retune_10 : decode b_Md_retune 10 = .ok (.aload_n 0, 1) := by decide +kernel
theorem d_Md_retune_11 : decode b_Md_retune 11 = .ok (.iconst 0, 1) := by decide +kernel
theorem d_Md_retune_12 : decode b_Md_retune 12 = .ok (.putfield 169, 3) := by decide +kernel
theorem d_Md_retune_15 : decode b_Md_retune 15 = .ok (.iconst 0, 1) := by decide +kernel
theorem d_Md_retune_16 : decode b_Md_retune 16 = .ok (.istore_n 1, 1) := by decide +kernel
theorem d_Md_retune_17 : decode b_Md_retune 17 = .ok (.iload_n 1, 1) := by decide +kernel
theorem d_Md_retune_18 : decode b_Md_retune 18 = .ok (.bipush 12, 2) := by decide +kernel
theorem d_Md_retune_20 : decode b_Md_retune 20 = .ok (.if_icmp .ge 21, 3) := by decide +kernel
theorem d_Md_retune_23 : decode b_Md_retune 23 = .ok (.aload_n 0, 1) := by decide +kernel
theorem d_Md_retune_24 : decode b_Md_retune 24 = .ok (.getfield 63, 3) := by decide +kernel
theorem d_Md_retune_27 : decode b_Md_retune 27 = .ok (.iload_n 1, 1) := by decide +kernel
theorem d_Md_retune_28 : decode b_Md_retune 28 = .ok (.iconst 0, 1) := by decide +kernel
theorem d_Md_retune_29 : decode b_Md_retune 29 = .ok (.bastore, 1) := by decide +kernel
theorem d_Md_retune_30 : decode b_Md_retune 30 = .ok (.aload_n 0, 1) := by decide +kernel
theorem d_Md_retune_31 : decode b_Md_retune 31 = .ok (.iload_n 1, 1) := by decide +kernel
theorem d_Md_retune_32 : decode b_Md_retune 32 = .ok (.invokevirtual 173, 3) := by decide +kernel
theorem d_Md_retune_35 : decode b_Md_retune 35 = .ok (.iinc 1 1, 3) := by decide +kernel
theorem d_Md_retune_38 : decode b_Md_retune 38 = .ok (.goto (-21), 3) := by decide +kernel
theorem d_Md_retune_41 : decode b_Md_retune 41 = .ok (.iconst 0, 1) := by decide +kernel
theorem d_Md_retune_42 : decode b_Md_retune 42 = .ok (.istore_n 1, 1) := by decide +kernel
theorem d_Md_retune_43 : decode b_Md_retune 43 = .ok (.iload_n 1, 1) := by decide +kernel
theorem d_Md_retune_44 : decode b_Md_retune 44 = .ok (.bipush 6, 2) := by decide +kernel
theorem d_Md_retune_46 : decode b_Md_retune 46 = .ok (.if_icmp .ge 16, 3) := by decide +kernel
theorem d_Md_retune_49 : decode b_Md_retune 49 = .ok (.aload_n 0, 1) := by decide +kernel
theorem d_Md_retune_50 : decode b_Md_retune 50 = .ok (.getfield 81, 3) := by decide +kernel
theorem d_Md_retune_53 : decode b_Md_retune 53 = .ok (.iload_n 1, 1) := by decide +kernel
theorem d_Md_retune_54 : decode b_Md_retune 54 = .ok (.iconst 0, 1) := by decide +kernel
theorem d_Md_retune_55 : decode b_Md_retune 55 = .ok (.iastore, 1) := by decide +kernel
theorem d_Md_retune_56 : decode b_Md_retune 56 = .ok (.iinc 1 1, 3) := by decide +kernel
theorem d_Md_retune_59 : decode b_Md_retune 59 = .ok (.goto (-16), 3) := by decide +kernel
theorem d_Md_retune_62 : decode b_Md_retune 62 = .ok (.return_, 1) := by decide +kernel
theorem d_Md_nothing_0 : decode b_Md_nothing 0 = .ok (.bipush 6, 2) := by decide +kernel
theorem d_Md_nothing_2 : decode b_Md_nothing 2 = .ok (.iload_n 1, 1) := by decide +kernel
theorem d_Md_nothing_3 : decode b_Md_nothing 3 = .ok (.imul, 1) := by decide +kernel
theorem d_Md_nothing_4 : decode b_Md_nothing 4 = .ok (.istore_n 2, 1) := by decide +kernel
theorem d_Md_nothing_5 : decode b_Md_nothing 5 = .ok (.iload_n 2, 1) := by decide +kernel
theorem d_Md_nothing_6 : decode b_Md_nothing 6 = .ok (.bipush 6, 2) := by decide +kernel
theorem d_Md_nothing_8 : decode b_Md_nothing 8 = .ok (.iload_n 1, 1) := by decide +kernel
theorem d_Md_nothing_9 : decode b_Md_nothing 9 = .ok (.imul, 1) := by decide +kernel
theorem d_Md_nothing_10 : decode b_Md_nothing 10 = .ok (.bipush 6, 2) := by decide +kernel
theorem d_Md_nothing_12 : decode b_Md_nothing 12 = .ok (.iadd, 1) := by decide +kernel
theorem d_Md_nothing_13 : decode b_Md_nothing 13 = .ok (.if_icmp .ge 16, 3) := by decide +kernel
theorem d_Md_nothing_16 : decode b_Md_nothing 16 = .ok (.aload_n 0, 1) := by decide +kernel
theorem d_Md_nothing_17 : decode b_Md_nothing 17 = .ok (.getfield 72, 3) := by decide +kernel
theorem d_Md_nothing_20 : decode b_Md_nothing 20 = .ok (.iload_n 2, 1) := by decide +kernel
theorem d_Md_nothing_21 : decode b_Md_nothing 21 = .ok (.iconst 0, 1) := by decide +kernel
theorem d_Md_nothing_22 : decode b_Md_nothing 22 = .ok (.bastore, 1) := by decide +kernel
theorem d_Md_nothing_23 : decode b_Md_nothing 23 = .ok (.iinc 2 1, 3) := by decide +kernel
theorem d_Md_nothing_26 : decode b_Md_nothing 26 = .ok (.goto (-21), 3) := by decide +kernel
theorem d_Md_nothing_29 : decode b_Md_nothing 29 = .ok (.return_, 1) := by decide +kernel
theorem d_Md_throwAway_0 : decode b_Md_throwAway 0 = .ok (.aload_n 0, 1) := by decide +kernel
theorem d_Md_throwAway_1 : decode b_Md_throwAway 1 = .ok (.getfield 81, 3) := by decide +kernel
theorem d_Md_throwAway_4 : decode b_Md_throwAway 4 = .ok (.iconst 4, 1) := by decide +kernel
theorem d_Md_throwAway_5 : decode b_Md_throwAway 5 = .ok (.aload_n 0, 1) := by decide +kernel
theorem d_Md_throwAway_6 : decode b_Md_throwAway 6 = .ok (.getfield 169, 3) := by decide +kernel
theorem d_Md_throwAway_9 : decode b_Md_throwAway 9 = .ok (.ifCond .eq 14, 3) := by decide +kernel
theorem d_Md_throwAway_12 : decode b_Md_throwAway 12 = .ok (.aload_n 0, 1) := by decide +kernel
theorem d_Md_throwAway_13 : decode b_Md_throwAway 13 = .ok (.getfield 81, 3) := by decide +kernel
theorem d_Md_throwAway_16 : decode b_Md_throwAway 16 = .ok (.iconst 4, 1) := by decide +kernel
theorem d_Md_throwAway_17 : decode b_Md_throwAway 17 = .ok (.iaload, 1) := by decide +kernel
theorem d_Md_throwAway_18 : decode b_Md_throwAway 18 = .ok (.iconst 1, 1) := by decide +kernel
theorem d_Md_throwAway_19 : decode b_Md_throwAway 19 = .ok (.iadd, 1) := by decide +kernel
theorem d_Md_throwAway_20 : decode b_Md_throwAway 20 = .ok (.goto 9, 3) := by decide +kernel
theorem d_Md_throwAway_23 : decode b_Md_throwAway 23 = .ok (.aload_n 0, 1) := by decide +kernel
theorem d_Md_throwAway_24 : decode b_Md_throwAway 24 = .ok (.getfield 81, 3) := by decide +kernel
theorem d_Md_throwAway_27 : decode b_Md_throwAway 27 = .ok (.iconst 4, 1) := by decide +kernel
theorem d_Md_throwAway_28 : decode b_Md_throwAway 28 = .ok (.iaload, 1) := by decide +kernel
theorem d_Md_throwAway_29 : decode b_Md_throwAway 29 = .ok (.iastore, 1) := by decide +kernel
theorem d_Md_throwAway_30 : decode b_Md_throwAway 30 = .ok (.aload_n 0, 1) := by decide +kernel
theorem d_Md_throwAway_31 : decode b_Md_throwAway 31 = .ok (.iconst 0, 1) := by decide +kernel
theorem d_Md_throwAway_32 : decode b_Md_throwAway 32 = .ok (.putfield 169, 3) := by decide +kernel
theorem d_Md_throwAway_35 : decode b_Md_throwAway 35 = .ok (.return_, 1) := by decide +kernel
theorem d_Md_receive_0 : decode b_Md_receive 0 = .ok (.aload_n 0, 1) := by decide +kernel
theorem d_Md_receive_1 : decode b_Md_receive 1 = .ok (.getfield 53, 3) := by decide +kernel
theorem d_Md_receive_4 : decode b_Md_receive 4 = .ok (.iconst 1, 1) := by decide +kernel
theorem d_Md_receive_5 : decode b_Md_receive 5 = .ok (.iaload, 1) := by decide +kernel
theorem d_Md_receive_6 : decode b_Md_receive 6 = .ok (.istore_n 1, 1) := by decide +kernel
theorem d_Md_receive_7 : decode b_Md_receive 7 = .ok (.aload_n 0, 1) := by decide +kernel
theorem d_Md_receive_8 : decode b_Md_receive 8 = .ok (.getfield 53, 3) := by decide +kernel
theorem d_Md_receive_11 : decode b_Md_receive 11 = .ok (.iconst 0, 1) := by decide +kernel
theorem d_Md_receive_12 : decode b_Md_receive 12 = .ok (.iaload, 1) := by decide +kernel
theorem d_Md_receive_13 : decode b_Md_receive 13 = .ok (.bipush 71, 2) := by decide +kernel
theorem d_Md_receive_15 : decode b_Md_receive 15 = .ok (.if_icmp .ne 11, 3) := by decide +kernel
theorem d_Md_receive_18 : decode b_Md_receive 18 = .ok (.iload_n 1, 1) := by decide +kernel
theorem d_Md_receive_19 : decode b_Md_receive 19 = .ok (.sipush 176, 3) := by decide +kernel
theorem d_Md_receive_22 : decode b_Md_receive 22 = .ok (.iand, 1) := by decide +kernel
theorem d_Md_receive_23 : decode b_Md_receive 23 = .ok (.ifCond .eq 14, 3) := by decide +kernel
theorem d_Md_receive_26 : decode b_Md_receive 26 = .ok (.aload_n 0, 1) := by decide +kernel
theorem d_Md_receive_27 : decode b_Md_receive 27 = .ok (.getfield 81, 3) := by decide +kernel
theorem d_Md_receive_30 : decode b_Md_receive 30 = .ok (.iconst 5, 1) := by decide +kernel
theorem d_Md_receive_31 : decode b_Md_receive 31 = .ok (.dup2, 1) := by decide +kernel
theorem d_Md_receive_32 : decode b_Md_receive 32 = .ok (.iaload, 1) := by decide +kernel
theorem d_Md_receive_33 : decode b_Md_receive 33 = .ok (.iconst 1, 1) := by decide +kernel
theorem d_Md_receive_34 : decode b_Md_receive 34 = .ok (.iadd, 1) := by decide +kernel
theorem d_Md_receive_35 : decode b_Md_receive 35 = .ok (.iastore, 1) := by decide +kernel
theorem d_Md_receive_36 : decode b_Md_receive 36 = .ok (.return_, 1) := by decide +kernel
theorem d_Md_receive_37 : decode b_Md_receive 37 = .ok (.iload_n 1, 1) := by decide +kernel
theorem d_Md_receive_38 : decode b_Md_receive 38 = .ok (.bipush 15, 2) := by decide +kernel
theorem d_Md_receive_40 : decode b_Md_receive 40 = .ok (.iand, 1) := by decide +kernel
theorem d_Md_receive_41 : decode b_Md_receive 41 = .ok (.istore_n 2, 1) := by decide +kernel
theorem d_Md_receive_42 : decode b_Md_receive 42 = .ok (.aload_n 0, 1) := by decide +kernel
theorem d_Md_receive_43 : decode b_Md_receive 43 = .ok (.getfield 60, 3) := by decide +kernel
theorem d_Md_receive_46 : decode b_Md_receive 46 = .ok (.ifCond .lt 20, 3) := by decide +kernel
theorem d_Md_receive_49 : decode b_Md_receive 49 = .ok (.iload_n 2, 1) := by decide +kernel
theorem d_Md_receive_50 : decode b_Md_receive 50 = .ok (.aload_n 0, 1) := by decide +kernel
theorem d_Md_receive_51 : decode b_Md_receive 51 = .ok (.getfield 60, 3) := by decide +kernel
theorem d_Md_receive_54 : decode b_Md_receive 54 = .ok (.iconst 1, 1) := by decide +kernel
theorem d_Md_receive_55 : decode b_Md_receive 55 = .ok (.iadd, 1) := by decide +kernel
theorem d_Md_receive_56 : decode b_Md_receive 56 = .ok (.bipush 16, 2) := by decide +kernel
theorem d_Md_receive_58 : decode b_Md_receive 58 = .ok (.irem, 1) := by decide +kernel
theorem d_Md_receive_59 : decode b_Md_receive 59 = .ok (.if_icmp .eq 7, 3) := by decide +kernel
theorem d_Md_receive_62 : decode b_Md_receive 62 = .ok (.aload_n 0, 1) := by decide +kernel
theorem d_Md_receive_63 : decode b_Md_receive 63 = .ok (.invokevirtual 176, 3) := by decide +kernel
theorem d_Md_receive_66 : decode b_Md_receive 66 = .ok (.aload_n 0, 1) := by decide +kernel
theorem d_Md_receive_67 : decode b_Md_receive 67 = .ok (.iload_n 2, 1) := by decide +kernel
theorem d_Md_receive_68 : decode b_Md_receive 68 = .ok (.putfield 60, 3) := by decide +kernel
theorem d_Md_receive_71 : decode b_Md_receive 71 = .ok (.iload_n 1, 1) := by decide +kernel
theorem d_Md_receive_72 : decode b_Md_receive 72 = .ok (.bipush 64, 2) := by decide +kernel
theorem d_Md_receive_74 : decode b_Md_receive 74 = .ok (.iand, 1) := by decide +kernel
theorem d_Md_receive_75 : decode b_Md_receive 75 = .ok (.ifCond .ne 11, 3) := by decide +kernel
theorem d_Md_receive_78 : decode b_Md_receive 78 = .ok (.aload_n 0, 1) := by decide +kernel
theorem d_Md_receive_79 : decode b_Md_receive 79 = .ok (.iconst 2, 1) := by decide +kernel
theorem d_Md_receive_80 : decode b_Md_receive 80 = .ok (.bipush 16, 2) := by decide +kernel
theorem d_Md_receive_82 : decode b_Md_receive 82 = .ok (.invokevirtual 179, 3) := by decide +kernel
theorem d_Md_receive_85 : decode b_Md_receive 85 = .ok (.return_, 1) := by decide +kernel
theorem d_Md_receive_86 : decode b_Md_receive 86 = .ok (.aload_n 0, 1) := by decide +kernel
theorem d_Md_receive_87 : decode b_Md_receive 87 = .ok (.getfield 53, 3) := by decide +kernel
theorem d_Md_receive_90 : decode b_Md_receive 90 = .ok (.iconst 2, 1) := by decide +kernel
theorem d_Md_receive_91 : decode b_Md_receive 91 = .ok (.iaload, 1) := by decide +kernel
theorem d_Md_receive_92 : decode b_Md_receive 92 = .ok (.istore_n 3, 1) := by decide +kernel
theorem d_Md_receive_93 : decode b_Md_receive 93 = .ok (.iload_n 3, 1) := by decide +kernel
theorem d_Md_receive_94 : decode b_Md_receive 94 = .ok (.bipush 13, 2) := by decide +kernel
theorem d_Md_receive_96 : decode b_Md_receive 96 = .ok (.if_icmp .le 8, 3) := by decide +kernel
theorem d_Md_receive_99 : decode b_Md_receive 99 = .ok (.aload_n 0, 1) := by decide +kernel
theorem d_Md_receive_100 : decode b_Md_receive 100 = .ok (.invokevirtual 176, 3) := by decide +kernel
theorem d_Md_receive_103 : decode b_Md_receive 103 = .ok (.return_, 1) := by decide +kernel
theorem d_Md_receive_104 : decode b_Md_receive 104 = .ok (.aload_n 0, 1) := by decide +kernel
theorem d_Md_receive_105 : decode b_Md_receive 105 = .ok (.iconst 3, 1) := by decide +kernel
theorem d_Md_receive_106 : decode b_Md_receive 106 = .ok (.iconst 3, 1) := by decide +kernel
theorem d_Md_receive_107 : decode b_Md_receive 107 = .ok (.iload_n 3, 1) := by decide +kernel
theorem d_Md_receive_108 : decode b_Md_receive 108 = .ok (.iadd, 1) := by decide +kernel
theorem d_Md_receive_109 : decode b_Md_receive 109 = .ok (.invokevirtual 179, 3) := by decide +kernel
theorem d_Md_receive_112 : decode b_Md_receive 112 = .ok (.aload_n 0, 1) := by decide +kernel
theorem d_Md_receive_113 : decode b_Md_receive 113 = .ok (.invokevirtual 176, 3) := by decide +kernel
theorem d_Md_receive_116 : decode b_Md_receive 116 = .ok (.iconst 3, 1) := by decide +kernel
theorem d_Md_receive_117 : decode b_Md_receive 117 = .ok (.iload_n 3, 1) := by decide +kernel
theorem d_Md_receive_118 : decode b_Md_receive 118 = .ok (.iadd, 1) := by decide +kernel
theorem d_Md_receive_119 : decode b_Md_receive 119 = .ok (.istore 4, 2) := by decide +kernel
theorem d_Md_receive_121 : decode b_Md_receive 121 = .ok (.iload 4, 2) := by decide +kernel
theorem d_Md_receive_123 : decode b_Md_receive 123 = .ok (.bipush 16, 2) := by decide +kernel
theorem d_Md_receive_125 : decode b_Md_receive 125 = .ok (.if_icmp .ge 51, 3) := by decide +kernel
theorem d_Md_receive_128 : decode b_Md_receive 128 = .ok (.aload_n 0, 1) := by decide +kernel
theorem d_Md_receive_129 : decode b_Md_receive 129 = .ok (.getfield 169, 3) := by decide +kernel
theorem d_Md_receive_132 : decode b_Md_receive 132 = .ok (.ifCond .ne 27, 3) := by decide +kernel
theorem d_Md_receive_135 : decode b_Md_receive 135 = .ok (.aload_n 0, 1) := by decide +kernel
theorem d_Md_receive_136 : decode b_Md_receive 136 = .ok (.getfield 53, 3) := by decide +kernel
theorem d_Md_receive_139 : decode b_Md_receive 139 = .ok (.iload 4, 2) := by decide +kernel
theorem d_Md_receive_141 : decode b_Md_receive 141 = .ok (.iaload, 1) := by decide +kernel
theorem d_Md_receive_142 : decode b_Md_receive 142 = .ok (.sipush 255, 3) := by decide +kernel
theorem d_Md_receive_145 : decode b_Md_receive 145 = .ok (.if_icmp .ne 4, 3) := by decide +kernel
theorem d_Md_receive_148 : decode b_Md_receive 148 = .ok (.return_, 1) := by decide +kernel
theorem d_Md_receive_149 : decode b_Md_receive 149 = .ok (.aload_n 0, 1) := by decide +kernel
theorem d_Md_receive_150 : decode b_Md_receive 150 = .ok (.iconst 1, 1) := by decide +kernel
theorem d_Md_receive_151 : decode b_Md_receive 151 = .ok (.putfield 169, 3) := by decide +kernel
theorem d_Md_receive_154 : decode b_Md_receive 154 = .ok (.aload_n 0, 1) := by decide +kernel
theorem d_Md_receive_155 : decode b_Md_receive 155 = .ok (.iconst 0, 1) := by decide +kernel
theorem d_Md_receive_156 : decode b_Md_receive 156 = .ok (.putfield 182, 3) := by decide +kernel
theorem d_Md_receive_159 : decode b_Md_receive 159 = .ok (.aload_n 0, 1) := by decide +kernel
theorem d_Md_receive_160 : decode b_Md_receive 160 = .ok (.aload_n 0, 1) := by decide +kernel
theorem d_Md_receive_161 : decode b_Md_receive 161 = .ok (.getfield 53, 3) := by decide +kernel
theorem d_Md_receive_164 : decode b_Md_receive 164 = .ok (.iload 4, 2) := by decide +kernel
theorem d_Md_receive_166 : decode b_Md_receive 166 = .ok (.iaload, 1) := by decide +kernel
theorem d_Md_receive_167 : decode b_Md_receive 167 = .ok (.invokevirtual 185, 3) := by decide +kernel
theorem d_Md_receive_170 : decode b_Md_receive 170 = .ok (.iinc 4 1, 3) := by decide +kernel
theorem d_Md_receive_173 : decode b_Md_receive 173 = .ok (.goto (-52), 3) := by decide +kernel
theorem d_Md_receive_176 : decode b_Md_receive 176 = .ok (.return_, 1) := by decide +kernel
theorem d_Md_more_0 : decode b_Md_more 0 = .ok (.iload_n 1, 1) := by decide +kernel
theorem d_Md_more_1 : decode b_Md_more 1 = .ok (.istore_n 3, 1) := by decide +kernel
theorem d_Md_more_2 : decode b_Md_more 2 = .ok (.iload_n 3, 1) := by decide +kernel
theorem d_Md_more_3 : decode b_Md_more 3 = .ok (.iload_n 2, 1) := by decide +kernel
theorem d_Md_more_4 : decode b_Md_more 4 = .ok (.if_icmp .ge 26, 3) := by decide +kernel
theorem d_Md_more_7 : decode b_Md_more 7 = .ok (.aload_n 0, 1) := by decide +kernel
theorem d_Md_more_8 : decode b_Md_more 8 = .ok (.getfield 169, 3) := by decide +kernel
theorem d_Md_more_11 : decode b_Md_more 11 = .ok (.ifCond .eq 19, 3) := by decide +kernel
theorem d_Md_more_14 : decode b_Md_more 14 = .ok (.aload_n 0, 1) := by decide +kernel
theorem d_Md_more_15 : decode b_Md_more 15 = .ok (.aload_n 0, 1) := by decide +kernel
theorem d_Md_more_16 : decode b_Md_more 16 = .ok (.getfield 53, 3) := by decide +kernel
theorem d_Md_more_19 : decode b_Md_more 19 = .ok (.iload_n 3, 1) := by decide +kernel
theorem d_Md_more_20 : decode b_Md_more 20 = .ok (.iaload, 1) := by decide +kernel
theorem d_Md_more_21 : decode b_Md_more 21 = .ok (.invokevirtual 185, 3) := by decide +kernel
theorem d_Md_more_24 : decode b_Md_more 24 = .ok (.iinc 3 1, 3) := by decide +kernel
theorem d_Md_more_27 : decode b_Md_more 27 = .ok (.goto (-25), 3) := by decide +kernel
theorem d_Md_more_30 : decode b_Md_more 30 = .ok (.return_, 1) := by decide +kernel
theorem d_Md_take_0 : decode b_Md_take 0 = .ok (.aload_n 0, 1) := by decide +kernel
theorem d_Md_take_1 : decode b_Md_take 1 = .ok (.getfield 78, 3) := by decide +kernel
theorem d_Md_take_4 : decode b_Md_take 4 = .ok (.aload_n 0, 1) := by decide +kernel
theorem d_Md_take_5 : decode b_Md_take 5 = .ok (.getfield 182, 3) := by decide +kernel
theorem d_Md_take_8 : decode b_Md_take 8 = .ok (.iload_n 1, 1) := by decide +kernel
theorem d_Md_take_9 : decode b_Md_take 9 = .ok (.iastore, 1) := by decide +kernel
theorem d_Md_take_10 : decode b_Md_take 10 = .ok (.aload_n 0, 1) := by decide +kernel
theorem d_Md_take_11 : decode b_Md_take 11 = .ok (.dup, 1) := by decide +kernel
theorem d_Md_take_12 : decode b_Md_take 12 = .ok (.getfield 182, 3) := by decide +kernel
theorem d_Md_take_15 : decode b_Md_take 15 = .ok (.iconst 1, 1) := by decide +kernel
theorem d_Md_take_16 : decode b_Md_take 16 = .ok (.iadd, 1) := by decide +kernel
theorem d_Md_take_17 : decode b_Md_take 17 = .ok (.putfield 182, 3) := by decide +kernel
theorem d_Md_take_20 : decode b_Md_take 20 = .ok (.aload_n 0, 1) := by decide +kernel
theorem d_Md_take_21 : decode b_Md_take 21 = .ok (.getfield 182, 3) := by decide +kernel
theorem d_Md_take_24 : decode b_Md_take 24 = .ok (.iconst 2, 1) := by decide +kernel
theorem d_Md_take_25 : decode b_Md_take 25 = .ok (.if_icmp .lt 27, 3) := by decide +kernel
theorem d_Md_take_28 : decode b_Md_take 28 = .ok (.aload_n 0, 1) := by decide +kernel
theorem d_Md_take_29 : decode b_Md_take 29 = .ok (.getfield 182, 3) := by decide +kernel
theorem d_Md_take_32 : decode b_Md_take 32 = .ok (.iconst 2, 1) := by decide +kernel
theorem d_Md_take_33 : decode b_Md_take 33 = .ok (.aload_n 0, 1) := by decide +kernel
theorem d_Md_take_34 : decode b_Md_take 34 = .ok (.getfield 78, 3) := by decide +kernel
theorem d_Md_take_37 : decode b_Md_take 37 = .ok (.iconst 1, 1) := by decide +kernel
theorem d_Md_take_38 : decode b_Md_take 38 = .ok (.iaload, 1) := by decide +kernel
theorem d_Md_take_39 : decode b_Md_take 39 = .ok (.iadd, 1) := by decide +kernel
theorem d_Md_take_40 : decode b_Md_take 40 = .ok (.if_icmp .ne 12, 3) := by decide +kernel
theorem d_Md_take_43 : decode b_Md_take 43 = .ok (.aload_n 0, 1) := by decide +kernel
theorem d_Md_take_44 : decode b_Md_take 44 = .ok (.iconst 0, 1) := by decide +kernel
theorem d_Md_take_45 : decode b_Md_take 45 = .ok (.putfield 169, 3) := by decide +kernel
theorem d_Md_take_48 : decode b_Md_take 48 = .ok (.aload_n 0, 1) := by decide +kernel
theorem d_Md_take_49 : decode b_Md_take 49 = .ok (.invokevirtual 188, 3) := by decide +kernel
theorem d_Md_take_52 : decode b_Md_take 52 = .ok (.return_, 1) := by decide +kernel
theorem d_Md_pair_0 : decode b_Md_pair 0 = .ok (.sipush 256, 3) := by decide +kernel
theorem d_Md_pair_3 : decode b_Md_pair 3 = .ok (.aload_n 0, 1) := by decide +kernel
theorem d_Md_pair_4 : decode b_Md_pair 4 = .ok (.getfield 78, 3) := by decide +kernel
theorem d_Md_pair_7 : decode b_Md_pair 7 = .ok (.iload_n 1, 1) := by decide +kernel
theorem d_Md_pair_8 : decode b_Md_pair 8 = .ok (.iaload, 1) := by decide +kernel
theorem d_Md_pair_9 : decode b_Md_pair 9 = .ok (.imul, 1) := by decide +kernel
theorem d_Md_pair_10 : decode b_Md_pair 10 = .ok (.aload_n 0, 1) := by decide +kernel
theorem d_Md_pair_11 : decode b_Md_pair 11 = .ok (.getfield 78, 3) := by decide +kernel
theorem d_Md_pair_14 : decode b_Md_pair 14 = .ok (.iload_n 1, 1) := by decide +kernel
theorem d_Md_pair_15 : decode b_Md_pair 15 = .ok (.iconst 1, 1) := by decide +kernel
theorem d_Md_pair_16 : decode b_Md_pair 16 = .ok (.iadd, 1) := by decide +kernel
theorem d_Md_pair_17 : decode b_Md_pair 17 = .ok (.iaload, 1) := by decide +kernel
theorem d_Md_pair_18 : decode b_Md_pair 18 = .ok (.iadd, 1) := by decide +kernel
theorem d_Md_pair_19 : decode b_Md_pair 19 = .ok (.ireturn, 1) := by decide +kernel
theorem d_Md_look_0 : decode b_Md_look 0 = .ok (.aload_n 0, 1) := by decide +kernel
theorem d_Md_look_1 : decode b_Md_look 1 = .ok (.getfield 182, 3) := by decide +kernel
theorem d_Md_look_4 : decode b_Md_look 4 = .ok (.bipush 6, 2) := by decide +kernel
theorem d_Md_look_6 : decode b_Md_look 6 = .ok (.if_icmp .lt 10, 3) := by decide +kernel
theorem d_Md_look_9 : decode b_Md_look 9 = .ok (.aload_n 0, 1) := by decide +kernel
theorem d_Md_look_10 : decode b_Md_look 10 = .ok (.invokevirtual 191, 3) := by decide +kernel
theorem d_Md_look_13 : decode b_Md_look 13 = .ok (.ifCond .ne 16, 3) := by decide +kernel
theorem d_Md_look_16 : decode b_Md_look 16 = .ok (.aload_n 0, 1) := by decide +kernel
theorem d_Md_look_17 : decode b_Md_look 17 = .ok (.getfield 81, 3) := by decide +kernel
theorem d_Md_look_20 : decode b_Md_look 20 = .ok (.iconst 2, 1) := by decide +kernel
theorem d_Md_look_21 : decode b_Md_look 21 = .ok (.dup2, 1) := by decide +kernel
theorem d_Md_look_22 : decode b_Md_look 22 = .ok (.iaload, 1) := by decide +kernel
theorem d_Md_look_23 : decode b_Md_look 23 = .ok (.iconst 1, 1) := by decide +kernel
theorem d_Md_look_24 : decode b_Md_look 24 = .ok (.iadd, 1) := by decide +kernel
theorem d_Md_look_25 : decode b_Md_look 25 = .ok (.iastore, 1) := by decide +kernel
theorem d_Md_look_26 : decode b_Md_look 26 = .ok (.goto 66, 3) := by decide +kernel
theorem d_Md_look_29 : decode b_Md_look 29 = .ok (.aload_n 0, 1) := by decide +kernel
theorem d_Md_look_30 : decode b_Md_look 30 = .ok (.invokevirtual 195, 3) := by decide +kernel
theorem d_Md_look_33 : decode b_Md_look 33 = .ok (.ifCond .eq 10, 3) := by decide +kernel
theorem d_Md_look_36 : decode b_Md_look 36 = .ok (.aload_n 0, 1) := by decide +kernel
theorem d_Md_look_37 : decode b_Md_look 37 = .ok (.invokevirtual 198, 3) := by decide +kernel
theorem d_Md_look_40 : decode b_Md_look 40 = .ok (.goto 52, 3) := by decide +kernel
theorem d_Md_look_43 : decode b_Md_look 43 = .ok (.aload_n 0, 1) := by decide +kernel
theorem d_Md_look_44 : decode b_Md_look 44 = .ok (.getfield 78, 3) := by decide +kernel
theorem d_Md_look_47 : decode b_Md_look 47 = .ok (.iconst 0, 1) := by decide +kernel
theorem d_Md_look_48 : decode b_Md_look 48 = .ok (.iaload, 1) := by decide +kernel
theorem d_Md_look_49 : decode b_Md_look 49 = .ok (.bipush 60, 2) := by decide +kernel
theorem d_Md_look_51 : decode b_Md_look 51 = .ok (.if_icmp .ne 31, 3) := by decide +kernel
theorem d_Md_look_54 : decode b_Md_look 54 = .ok (.aload_n 0, 1) := by decide +kernel
theorem d_Md_look_55 : decode b_Md_look 55 = .ok (.getfield 182, 3) := by decide +kernel
theorem d_Md_look_58 : decode b_Md_look 58 = .ok (.bipush 11, 2) := by decide +kernel
theorem d_Md_look_60 : decode b_Md_look 60 = .ok (.bipush 18, 2) := by decide +kernel
theorem d_Md_look_62 : decode b_Md_look 62 = .ok (.invokestatic 84, 3) := by decide +kernel
theorem d_Md_look_65 : decode b_Md_look 65 = .ok (.ifCond .eq 17, 3) := by decide +kernel
theorem d_Md_look_68 : decode b_Md_look 68 = .ok (.aload_n 0, 1) := by decide +kernel
theorem d_Md_look_69 : decode b_Md_look 69 = .ok (.invokevirtual 201, 3) := by decide +kernel
theorem d_Md_look_72 : decode b_Md_look 72 = .ok (.ifCond .eq 10, 3) := by decide +kernel
theorem d_Md_look_75 : decode b_Md_look 75 = .ok (.aload_n 0, 1) := by decide +kernel
theorem d_Md_look_76 : decode b_Md_look 76 = .ok (.invokevirtual 204, 3) := by decide +kernel
theorem d_Md_look_79 : decode b_Md_look 79 = .ok (.goto 13, 3) := by decide +kernel
theorem d_Md_look_82 : decode b_Md_look 82 = .ok (.aload_n 0, 1) := by decide +kernel
theorem d_Md_look_83 : decode b_Md_look 83 = .ok (.getfield 81, 3) := by decide +kernel
theorem d_Md_look_86 : decode b_Md_look 86 = .ok (.iconst 3, 1) := by decide +kernel
theorem d_Md_look_87 : decode b_Md_look 87 = .ok (.dup2, 1) := by decide +kernel
theorem d_Md_look_88 : decode b_Md_look 88 = .ok (.iaload, 1) := by decide +kernel
theorem d_Md_look_89 : decode b_Md_look 89 = .ok (.iconst 1, 1) := by decide +kernel
theorem d_Md_look_90 : decode b_Md_look 90 = .ok (.iadd, 1) := by decide +kernel
theorem d_Md_look_91 : decode b_Md_look 91 = .ok (.iastore, 1) := by decide +kernel
theorem d_Md_look_92 : decode b_Md_look 92 = .ok (.return_, 1) := by decide +kernel
theorem d_Md_list_0 : decode b_Md_list 0 = .ok (.aload_n 0, 1) := by decide +kernel
theorem d_Md_list_1 : decode b_Md_list 1 = .ok (.getfield 81, 3) := by decide +kernel
theorem d_Md_list_4 : decode b_Md_list 4 = .ok (.iconst 0, 1) := by decide +kernel
theorem d_Md_list_5 : decode b_Md_list 5 = .ok (.dup2, 1) := by decide +kernel
theorem d_Md_list_6 : decode b_Md_list 6 = .ok (.iaload, 1) := by decide +kernel
theorem d_Md_list_7 : decode b_Md_list 7 = .ok (.iconst 1, 1) := by decide +kernel
theorem d_Md_list_8 : decode b_Md_list 8 = .ok (.iadd, 1) := by decide +kernel
theorem d_Md_list_9 : decode b_Md_list 9 = .ok (.iastore, 1) := by decide +kernel
theorem d_Md_list_10 : decode b_Md_list 10 = .ok (.aload_n 0, 1) := by decide +kernel
theorem d_Md_list_11 : decode b_Md_list 11 = .ok (.aload_n 0, 1) := by decide +kernel
theorem d_Md_list_12 : decode b_Md_list 12 = .ok (.iconst 2, 1) := by decide +kernel
theorem d_Md_list_13 : decode b_Md_list 13 = .ok (.invokevirtual 207, 3) := by decide +kernel
theorem d_Md_list_16 : decode b_Md_list 16 = .ok (.putfield 56, 3) := by decide +kernel
theorem d_Md_list_19 : decode b_Md_list 19 = .ok (.iconst 0, 1) := by decide +kernel
theorem d_Md_list_20 : decode b_Md_list 20 = .ok (.istore_n 1, 1) := by decide +kernel
theorem d_Md_list_21 : decode b_Md_list 21 = .ok (.iload_n 1, 1) := by decide +kernel
theorem d_Md_list_22 : decode b_Md_list 22 = .ok (.bipush 12, 2) := by decide +kernel
theorem d_Md_list_24 : decode b_Md_list 24 = .ok (.if_icmp .ge 137, 3) := by decide +kernel
theorem d_Md_list_27 : decode b_Md_list 27 = .ok (.iload_n 1, 1) := by decide +kernel
theorem d_Md_list_28 : decode b_Md_list 28 = .ok (.aload_n 0, 1) := by decide +kernel
theorem d_Md_list_29 : decode b_Md_list 29 = .ok (.getfield 78, 3) := by decide +kernel
theorem d_Md_list_32 : decode b_Md_list 32 = .ok (.iconst 4, 1) := by decide +kernel
theorem d_Md_list_33 : decode b_Md_list 33 = .ok (.iaload, 1) := by decide +kernel
theorem d_Md_list_34 : decode b_Md_list 34 = .ok (.if_icmp .ge 7, 3) := by decide +kernel
theorem d_Md_list_37 : decode b_Md_list 37 = .ok (.iconst 1, 1) := by decide +kernel
theorem d_Md_list_38 : decode b_Md_list 38 = .ok (.goto 4, 3) := by decide +kernel
theorem d_Md_list_41 : decode b_Md_list 41 = .ok (.iconst 0, 1) := by decide +kernel
theorem d_Md_list_42 : decode b_Md_list 42 = .ok (.istore_n 2, 1) := by decide +kernel
theorem d_Md_list_43 : decode b_Md_list 43 = .ok (.iload_n 2, 1) := by decide +kernel
theorem d_Md_list_44 : decode b_Md_list 44 = .ok (.ifCond .eq 16, 3) := by decide +kernel
theorem d_Md_list_47 : decode b_Md_list 47 = .ok (.aload_n 0, 1) := by decide +kernel
theorem d_Md_list_48 : decode b_Md_list 48 = .ok (.getfield 78, 3) := by decide +kernel
theorem d_Md_list_51 : decode b_Md_list 51 = .ok (.iconst 5, 1) := by decide +kernel
theorem d_Md_list_52 : decode b_Md_list 52 = .ok (.iconst 3, 1) := by decide +kernel
theorem d_Md_list_53 : decode b_Md_list 53 = .ok (.iload_n 1, 1) := by decide +kernel
theorem d_Md_list_54 : decode b_Md_list 54 = .ok (.imul, 1) := by decide +kernel
theorem d_Md_list_55 : decode b_Md_list 55 = .ok (.iadd, 1) := by decide +kernel
theorem d_Md_list_56 : decode b_Md_list 56 = .ok (.iaload, 1) := by decide +kernel
theorem d_Md_list_57 : decode b_Md_list 57 = .ok (.goto 4, 3) := by decide +kernel
theorem d_Md_list_60 : decode b_Md_list 60 = .ok (.iconst 0, 1) := by decide +kernel
theorem d_Md_list_61 : decode b_Md_list 61 = .ok (.istore_n 3, 1) := by decide +kernel
theorem d_Md_list_62 : decode b_Md_list 62 = .ok (.iload_n 2, 1) := by decide +kernel
theorem d_Md_list_63 : decode b_Md_list 63 = .ok (.ifCond .eq 16, 3) := by decide +kernel
theorem d_Md_list_66 : decode b_Md_list 66 = .ok (.aload_n 0, 1) := by decide +kernel
theorem d_Md_list_67 : decode b_Md_list 67 = .ok (.bipush 6, 2) := by decide +kernel
theorem d_Md_list_69 : decode b_Md_list 69 = .ok (.iconst 3, 1) := by decide +kernel
theorem d_Md_list_70 : decode b_Md_list 70 = .ok (.iload_n 1, 1) := by decide +kernel
theorem d_Md_list_71 : decode b_Md_list 71 = .ok (.imul, 1) := by decide +kernel
theorem d_Md_list_72 : decode b_Md_list 72 = .ok (.iadd, 1) := by decide +kernel
theorem d_Md_list_73 : decode b_Md_list 73 = .ok (.invokevirtual 207, 3) := by decide +kernel
theorem d_Md_list_76 : decode b_Md_list 76 = .ok (.goto 4, 3) := by decide +kernel
theorem d_Md_list_79 : decode b_Md_list 79 = .ok (.iconst 0, 1) := by decide +kernel
theorem d_Md_list_80 : decode b_Md_list 80 = .ok (.istore 4, 2) := by decide +kernel
theorem d_Md_list_82 : decode b_Md_list 82 = .ok (.iload_n 2, 1) := by decide +kernel
theorem d_Md_list_83 : decode b_Md_list 83 = .ok (.ifCond .eq 37, 3) := by decide +kernel
theorem d_Md_list_86 : decode b_Md_list 86 = .ok (.aload_n 0, 1) := by decide +kernel
theorem d_Md_list_87 : decode b_Md_list 87 = .ok (.getfield 63, 3) := by decide +kernel
theorem d_Md_list_90 : decode b_Md_list 90 = .ok (.iload_n 1, 1) := by decide +kernel
theorem d_Md_list_91 : decode b_Md_list 91 = .ok (.baload, 1) := by decide +kernel
theorem d_Md_list_92 : decode b_Md_list 92 = .ok (.ifCond .eq 28, 3) := by decide +kernel
theorem d_Md_list_95 : decode b_Md_list 95 = .ok (.aload_n 0, 1) := by decide +kernel
theorem d_Md_list_96 : decode b_Md_list 96 = .ok (.getfield 69, 3) := by decide +kernel
theorem d_Md_list_99 : decode b_Md_list 99 = .ok (.iload_n 1, 1) := by decide +kernel
theorem d_Md_list_100 : decode b_Md_list 100 = .ok (.iaload, 1) := by decide +kernel
theorem d_Md_list_101 : decode b_Md_list 101 = .ok (.iload_n 3, 1) := by decide +kernel
theorem d_Md_list_102 : decode b_Md_list 102 = .ok (.if_icmp .ne 18, 3) := by decide +kernel
theorem d_Md_list_105 : decode b_Md_list 105 = .ok (.aload_n 0, 1) := by decide +kernel
theorem d_Md_list_106 : decode b_Md_list 106 = .ok (.getfield 66, 3) := by decide +kernel
theorem d_Md_list_109 : decode b_Md_list 109 = .ok (.iload_n 1, 1) := by decide +kernel
theorem d_Md_list_110 : decode b_Md_list 110 = .ok (.iaload, 1) := by decide +kernel
theorem d_Md_list_111 : decode b_Md_list 111 = .ok (.iload 4, 2) := by decide +kernel
theorem d_Md_list_113 : decode b_Md_list 113 = .ok (.if_icmp .ne 7, 3) := by decide +kernel
theorem d_Md_list_116 : decode b_Md_list 116 = .ok (.iconst 1, 1) := by decide +kernel
theorem d_Md_list_117 : decode b_Md_list 117 = .ok (.goto 4, 3) := by decide +kernel
theorem d_Md_list_120 : decode b_Md_list 120 = .ok (.iconst 0, 1) := by decide +kernel
theorem d_Md_list_121 : decode b_Md_list 121 = .ok (.istore 5, 2) := by decide +kernel
theorem d_Md_list_123 : decode b_Md_list 123 = .ok (.iload 5, 2) := by decide +kernel
theorem d_Md_list_125 : decode b_Md_list 125 = .ok (.ifCond .ne 8, 3) := by decide +kernel
theorem d_Md_list_128 : decode b_Md_list 128 = .ok (.aload_n 0, 1) := by decide +kernel
theorem d_Md_list_129 : decode b_Md_list 129 = .ok (.iload_n 1, 1) := by decide +kernel
theorem d_Md_list_130 : decode b_Md_list 130 = .ok (.invokevirtual 173, 3) := by decide +kernel
theorem d_Md_list_133 : decode b_Md_list 133 = .ok (.aload_n 0, 1) := by decide +kernel
theorem d_Md_list_134 : decode b_Md_list 134 = .ok (.getfield 63, 3) := by decide +kernel
theorem d_Md_list_137 : decode b_Md_list 137 = .ok (.iload_n 1, 1) := by decide +kernel
theorem d_Md_list_138 : decode b_Md_list 138 = .ok (.iload_n 2, 1) := by decide +kernel
theorem d_Md_list_139 : decode b_Md_list 139 = .ok (.bastore, 1) := by decide +kernel
theorem d_Md_list_140 : decode b_Md_list 140 = .ok (.aload_n 0, 1) := by decide +kernel
theorem d_Md_list_141 : decode b_Md_list 141 = .ok (.getfield 69, 3) := by decide +kernel
theorem d_Md_list_144 : decode b_Md_list 144 = .ok (.iload_n 1, 1) := by decide +kernel
theorem d_Md_list_145 : decode b_Md_list 145 = .ok (.iload_n 3, 1) := by decide +kernel
theorem d_Md_list_146 : decode b_Md_list 146 = .ok (.iastore, 1) := by decide +kernel
theorem d_Md_list_147 : decode b_Md_list 147 = .ok (.aload_n 0, 1) := by decide +kernel
theorem d_Md_list_148 : decode b_Md_list 148 = .ok (.getfield 66, 3) := by decide +kernel
theorem d_Md_list_151 : decode b_Md_list 151 = .ok (.iload_n 1, 1) := by decide +kernel
theorem d_Md_list_152 : decode b_Md_list 152 = .ok (.iload 4, 2) := by decide +kernel
theorem d_Md_list_154 : decode b_Md_list 154 = .ok (.iastore, 1) := by decide +kernel
theorem d_Md_list_155 : decode b_Md_list 155 = .ok (.iinc 1 1, 3) := by decide +kernel
theorem d_Md_list_158 : decode b_Md_list 158 = .ok (.goto (-137), 3) := by decide +kernel
theorem d_Md_list_161 : decode b_Md_list 161 = .ok (.return_, 1) := by decide +kernel
theorem d_Md_transaction_0 : decode b_Md_transaction 0 = .ok (.aload_n 0, 1) := by decide +kernel
theorem d_Md_transaction_1 : decode b_Md_transaction 1 = .ok (.getfield 56, 3) := by decide +kernel
theorem d_Md_transaction_4 : decode b_Md_transaction 4 = .ok (.ifCond .ge 8, 3) := by decide +kernel
theorem d_Md_transaction_7 : decode b_Md_transaction 7 = .ok (.bipush (-2), 2) := by decide +kernel
theorem d_Md_transaction_9 : decode b_Md_transaction 9 = .ok (.goto 7, 3) := by decide +kernel
theorem d_Md_transaction_12 : decode b_Md_transaction 12 = .ok (.aload_n 0, 1) := by decide +kernel
theorem d_Md_transaction_13 : decode b_Md_transaction 13 = .ok (.getfield 56, 3) := by decide +kernel
theorem d_Md_transaction_16 : decode b_Md_transaction 16 = .ok (.ireturn, 1) := by decide +kernel
theorem d_Md_ready_0 : decode b_Md_ready 0 = .ok (.aload_n 0, 1) := by decide +kernel
theorem d_Md_ready_1 : decode b_Md_ready 1 = .ok (.getfield 56, 3) := by decide +kernel
theorem d_Md_ready_4 : decode b_Md_ready 4 = .ok (.ifCond .ge 6, 3) := by decide +kernel
theorem d_Md_ready_7 : decode b_Md_ready 7 = .ok (.bipush (-6), 2) := by decide +kernel
theorem d_Md_ready_9 : decode b_Md_ready 9 = .ok (.ireturn, 1) := by decide +kernel
theorem d_Md_ready_10 : decode b_Md_ready 10 = .ok (.iload_n 1, 1) := by decide +kernel
theorem d_Md_ready_11 : decode b_Md_ready 11 = .ok (.bipush 11, 2) := by decide +kernel
theorem d_Md_ready_13 : decode b_Md_ready 13 = .ok (.if_icmp .gt 12, 3) := by decide +kernel
theorem d_Md_ready_16 : decode b_Md_ready 16 = .ok (.aload_n 0, 1) := by decide +kernel
theorem d_Md_ready_17 : decode b_Md_ready 17 = .ok (.getfield 63, 3) := by decide +kernel
theorem d_Md_ready_20 : decode b_Md_ready 20 = .ok (.iload_n 1, 1) := by decide +kernel
theorem d_Md_ready_21 : decode b_Md_ready 21 = .ok (.baload, 1) := by decide +kernel
theorem d_Md_ready_22 : decode b_Md_ready 22 = .ok (.ifCond .ne 6, 3) := by decide +kernel
theorem d_Md_ready_25 : decode b_Md_ready 25 = .ok (.bipush (-2), 2) := by decide +kernel
theorem d_Md_ready_27 : decode b_Md_ready 27 = .ok (.ireturn, 1) := by decide +kernel
theorem d_Md_ready_28 : decode b_Md_ready 28 = .ok (.bipush 8, 2) := by decide +kernel
theorem d_Md_ready_30 : decode b_Md_ready 30 = .ok (.aload_n 0, 1) := by decide +kernel
theorem d_Md_ready_31 : decode b_Md_ready 31 = .ok (.iload_n 1, 1) := by decide +kernel
theorem d_Md_ready_32 : decode b_Md_ready 32 = .ok (.invokevirtual 210, 3) := by decide +kernel
theorem d_Md_ready_35 : decode b_Md_ready 35 = .ok (.imul, 1) := by decide +kernel
theorem d_Md_ready_36 : decode b_Md_ready 36 = .ok (.aload_n 0, 1) := by decide +kernel
theorem d_Md_ready_37 : decode b_Md_ready 37 = .ok (.getfield 69, 3) := by decide +kernel
theorem d_Md_ready_40 : decode b_Md_ready 40 = .ok (.iload_n 1, 1) := by decide +kernel
theorem d_Md_ready_41 : decode b_Md_ready 41 = .ok (.iaload, 1) := by decide +kernel
theorem d_Md_ready_42 : decode b_Md_ready 42 = .ok (.if_icmp .lt 7, 3) := by decide +kernel
theorem d_Md_ready_45 : decode b_Md_ready 45 = .ok (.iconst 0, 1) := by decide +kernel
theorem d_Md_ready_46 : decode b_Md_ready 46 = .ok (.goto 5, 3) := by decide +kernel
theorem d_Md_ready_49 : decode b_Md_ready 49 = .ok (.bipush (-6), 2) := by decide +kernel
theorem d_Md_ready_51 : decode b_Md_ready 51 = .ok (.ireturn, 1) := by decide +kernel
theorem d_Md_stands_0 : decode b_Md_stands 0 = .ok (.aload_n 0, 1) := by decide +kernel
theorem d_Md_stands_1 : decode b_Md_stands 1 = .ok (.getfield 69, 3) := by decide +kernel
theorem d_Md_stands_4 : decode b_Md_stands 4 = .ok (.iload_n 1, 1) := by decide +kernel
theorem d_Md_stands_5 : decode b_Md_stands 5 = .ok (.iaload, 1) := by decide +kernel
theorem d_Md_stands_6 : decode b_Md_stands 6 = .ok (.istore_n 3, 1) := by decide +kernel
theorem d_Md_stands_7 : decode b_Md_stands 7 = .ok (.iload_n 2, 1) := by decide +kernel
theorem d_Md_stands_8 : decode b_Md_stands 8 = .ok (.iconst 3, 1) := by decide +kernel
theorem d_Md_stands_9 : decode b_Md_stands 9 = .ok (.iadd, 1) := by decide +kernel
theorem d_Md_stands_10 : decode b_Md_stands 10 = .ok (.iload_n 3, 1) := by decide +kernel
theorem d_Md_stands_11 : decode b_Md_stands 11 = .ok (.if_icmp .gt 28, 3) := by decide +kernel
theorem d_Md_stands_14 : decode b_Md_stands 14 = .ok (.iload_n 2, 1) := by decide +kernel
theorem d_Md_stands_15 : decode b_Md_stands 15 = .ok (.iconst 3, 1) := by decide +kernel
theorem d_Md_stands_16 : decode b_Md_stands 16 = .ok (.iadd, 1) := by decide +kernel
theorem d_Md_stands_17 : decode b_Md_stands 17 = .ok (.aload_n 0, 1) := by decide +kernel
theorem d_Md_stands_18 : decode b_Md_stands 18 = .ok (.getfield 75, 3) := by decide +kernel
theorem d_Md_stands_21 : decode b_Md_stands 21 = .ok (.bipush 48, 2) := by decide +kernel
theorem d_Md_stands_23 : decode b_Md_stands 23 = .ok (.iload_n 1, 1) := by decide +kernel
theorem d_Md_stands_24 : decode b_Md_stands 24 = .ok (.imul, 1) := by decide +kernel
theorem d_Md_stands_25 : decode b_Md_stands 25 = .ok (.iload_n 2, 1) := by decide +kernel
theorem d_Md_stands_26 : decode b_Md_stands 26 = .ok (.iadd, 1) := by decide +kernel
theorem d_Md_stands_27 : decode b_Md_stands 27 = .ok (.iconst 2, 1) := by decide +kernel
theorem d_Md_stands_28 : decode b_Md_stands 28 = .ok (.iadd, 1) := by decide +kernel
theorem d_Md_stands_29 : decode b_Md_stands 29 = .ok (.iaload, 1) := by decide +kernel
theorem d_Md_stands_30 : decode b_Md_stands 30 = .ok (.iadd, 1) := by decide +kernel
theorem d_Md_stands_31 : decode b_Md_stands 31 = .ok (.iload_n 3, 1) := by decide +kernel
theorem d_Md_stands_32 : decode b_Md_stands 32 = .ok (.if_icmp .gt 7, 3) := by decide +kernel
theorem d_Md_stands_35 : decode b_Md_stands 35 = .ok (.iconst 1, 1) := by decide +kernel
theorem d_Md_stands_36 : decode b_Md_stands 36 = .ok (.goto 4, 3) := by decide +kernel
theorem d_Md_stands_39 : decode b_Md_stands 39 = .ok (.iconst 0, 1) := by decide +kernel
theorem d_Md_stands_40 : decode b_Md_stands 40 = .ok (.ireturn, 1) := by decide +kernel
theorem d_Md_kind_0 : decode b_Md_kind 0 = .ok (.aload_n 0, 1) := by decide +kernel
theorem d_Md_kind_1 : decode b_Md_kind 1 = .ok (.iload_n 1, 1) := by decide +kernel
theorem d_Md_kind_2 : decode b_Md_kind 2 = .ok (.iload_n 2, 1) := by decide +kernel
theorem d_Md_kind_3 : decode b_Md_kind 3 = .ok (.iload_n 3, 1) := by decide +kernel
theorem d_Md_kind_4 : decode b_Md_kind 4 = .ok (.invokevirtual 229, 3) := by decide +kernel
theorem d_Md_kind_7 : decode b_Md_kind 7 = .ok (.istore 4, 2) := by decide +kernel
theorem d_Md_kind_9 : decode b_Md_kind 9 = .ok (.iload 4, 2) := by decide +kernel
theorem d_Md_kind_11 : decode b_Md_kind 11 = .ok (.ifCond .ge 8, 3) := by decide +kernel
theorem d_Md_kind_14 : decode b_Md_kind 14 = .ok (.iload 4, 2) := by decide +kernel
theorem d_Md_kind_16 : decode b_Md_kind 16 = .ok (.goto 10, 3) := by decide +kernel
theorem d_Md_kind_19 : decode b_Md_kind 19 = .ok (.aload_n 0, 1) := by decide +kernel
theorem d_Md_kind_20 : decode b_Md_kind 20 = .ok (.getfield 75, 3) := by decide +kernel
theorem d_Md_kind_23 : decode b_Md_kind 23 = .ok (.iload 4, 2) := by decide +kernel
theorem d_Md_kind_25 : decode b_Md_kind 25 = .ok (.iaload, 1) := by decide +kernel
theorem d_Md_kind_26 : decode b_Md_kind 26 = .ok (.ireturn, 1) := by decide +kernel
theorem d_Md_size_0 : decode b_Md_size 0 = .ok (.aload_n 0, 1) := by decide +kernel
theorem d_Md_size_1 : decode b_Md_size 1 = .ok (.iload_n 1, 1) := by decide +kernel
theorem d_Md_size_2 : decode b_Md_size 2 = .ok (.iload_n 2, 1) := by decide +kernel
theorem d_Md_size_3 : decode b_Md_size 3 = .ok (.iload_n 3, 1) := by decide +kernel
theorem d_Md_size_4 : decode b_Md_size 4 = .ok (.invokevirtual 229, 3) := by decide +kernel
theorem d_Md_size_7 : decode b_Md_size 7 = .ok (.istore 4, 2) := by decide +kernel
theorem d_Md_size_9 : decode b_Md_size 9 = .ok (.iload 4, 2) := by decide +kernel
theorem d_Md_size_11 : decode b_Md_size 11 = .ok (.ifCond .ge 6, 3) := by decide +kernel
theorem d_Md_size_14 : decode b_Md_size 14 = .ok (.iload 4, 2) := by decide +kernel
theorem d_Md_size_16 : decode b_Md_size 16 = .ok (.ireturn, 1) := by decide +kernel
theorem d_Md_size_17 : decode b_Md_size 17 = .ok (.aload_n 0, 1) := by decide +kernel
theorem d_Md_size_18 : decode b_Md_size 18 = .ok (.getfield 75, 3) := by decide +kernel
theorem d_Md_size_21 : decode b_Md_size 21 = .ok (.iload 4, 2) := by decide +kernel
theorem d_Md_size_23 : decode b_Md_size 23 = .ok (.iaload, 1) := by decide +kernel
theorem d_Md_size_24 : decode b_Md_size 24 = .ok (.iconst 1, 1) := by decide +kernel
theorem d_Md_size_25 : decode b_Md_size 25 = .ok (.if_icmp .eq 14, 3) := by decide +kernel
theorem d_Md_size_28 : decode b_Md_size 28 = .ok (.aload_n 0, 1) := by decide +kernel
theorem d_Md_size_29 : decode b_Md_size 29 = .ok (.getfield 75, 3) := by decide +kernel
theorem d_Md_size_32 : decode b_Md_size 32 = .ok (.iload 4, 2) := by decide +kernel
theorem d_Md_size_34 : decode b_Md_size 34 = .ok (.iaload, 1) := by decide +kernel
theorem d_Md_size_35 : decode b_Md_size 35 = .ok (.iconst 2, 1) := by decide +kernel
theorem d_Md_size_36 : decode b_Md_size 36 = .ok (.if_icmp .ne 17, 3) := by decide +kernel
theorem d_Md_size_39 : decode b_Md_size 39 = .ok (.aload_n 0, 1) := by decide +kernel
theorem d_Md_size_40 : decode b_Md_size 40 = .ok (.getfield 75, 3) := by decide +kernel
theorem d_Md_size_43 : decode b_Md_size 43 = .ok (.iload 4, 2) := by decide +kernel
theorem d_Md_size_45 : decode b_Md_size 45 = .ok (.iconst 2, 1) := by decide +kernel
theorem d_Md_size_46 : decode b_Md_size 46 = .ok (.iadd, 1) := by decide +kernel
theorem d_Md_size_47 : decode b_Md_size 47 = .ok (.iaload, 1) := by decide +kernel
theorem d_Md_size_48 : decode b_Md_size 48 = .ok (.iconst 4, 1) := by decide +kernel
theorem d_Md_size_49 : decode b_Md_size 49 = .ok (.idiv, 1) := by decide +kernel
theorem d_Md_size_50 : decode b_Md_size 50 = .ok (.goto 12, 3) := by decide +kernel
theorem d_Md_size_53 : decode b_Md_size 53 = .ok (.aload_n 0, 1) := by decide +kernel
theorem d_Md_size_54 : decode b_Md_size 54 = .ok (.getfield 75, 3) := by decide +kernel
theorem d_Md_size_57 : decode b_Md_size 57 = .ok (.iload 4, 2) := by decide +kernel
theorem d_Md_size_59 : decode b_Md_size 59 = .ok (.iconst 2, 1) := by decide +kernel
theorem d_Md_size_60 : decode b_Md_size 60 = .ok (.iadd, 1) := by decide +kernel
theorem d_Md_size_61 : decode b_Md_size 61 = .ok (.iaload, 1) := by decide +kernel
theorem d_Md_size_62 : decode b_Md_size 62 = .ok (.ireturn, 1) := by decide +kernel
theorem d_Md_read_0 : decode b_Md_read 0 = .ok (.aload_n 0, 1) := by decide +kernel
theorem d_Md_read_1 : decode b_Md_read 1 = .ok (.iload_n 1, 1) := by decide +kernel
theorem d_Md_read_2 : decode b_Md_read 2 = .ok (.iload_n 2, 1) := by decide +kernel
theorem d_Md_read_3 : decode b_Md_read 3 = .ok (.iload_n 3, 1) := by decide +kernel
theorem d_Md_read_4 : decode b_Md_read 4 = .ok (.invokevirtual 229, 3) := by decide +kernel
theorem d_Md_read_7 : decode b_Md_read 7 = .ok (.istore 5, 2) := by decide +kernel
theorem d_Md_read_9 : decode b_Md_read 9 = .ok (.iload 5, 2) := by decide +kernel
theorem d_Md_read_11 : decode b_Md_read 11 = .ok (.ifCond .ge 6, 3) := by decide +kernel
theorem d_Md_read_14 : decode b_Md_read 14 = .ok (.iload 5, 2) := by decide +kernel
theorem d_Md_read_16 : decode b_Md_read 16 = .ok (.ireturn, 1) := by decide +kernel
theorem d_Md_read_17 : decode b_Md_read 17 = .ok (.iload 4, 2) := by decide +kernel
theorem d_Md_read_19 : decode b_Md_read 19 = .ok (.ifCond .lt 32, 3) := by decide +kernel
theorem d_Md_read_22 : decode b_Md_read 22 = .ok (.iload 4, 2) := by decide +kernel
theorem d_Md_read_24 : decode b_Md_read 24 = .ok (.aload_n 0, 1) := by decide +kernel
theorem d_Md_read_25 : decode b_Md_read 25 = .ok (.getfield 75, 3) := by decide +kernel
theorem d_Md_read_28 : decode b_Md_read 28 = .ok (.iload 5, 2) := by decide +kernel
theorem d_Md_read_30 : decode b_Md_read 30 = .ok (.iconst 2, 1) := by decide +kernel
theorem d_Md_read_31 : decode b_Md_read 31 = .ok (.iadd, 1) := by decide +kernel
theorem d_Md_read_32 : decode b_Md_read 32 = .ok (.iaload, 1) := by decide +kernel
theorem d_Md_read_33 : decode b_Md_read 33 = .ok (.if_icmp .ge 18, 3) := by decide +kernel
theorem d_Md_read_36 : decode b_Md_read 36 = .ok (.aload_n 0, 1) := by decide +kernel
theorem d_Md_read_37 : decode b_Md_read 37 = .ok (.getfield 75, 3) := by decide +kernel
theorem d_Md_read_40 : decode b_Md_read 40 = .ok (.iload 5, 2) := by decide +kernel
theorem d_Md_read_42 : decode b_Md_read 42 = .ok (.iconst 3, 1) := by decide +kernel
theorem d_Md_read_43 : decode b_Md_read 43 = .ok (.iadd, 1) := by decide +kernel
theorem d_Md_read_44 : decode b_Md_read 44 = .ok (.iload 4, 2) := by decide +kernel
theorem d_Md_read_46 : decode b_Md_read 46 = .ok (.iadd, 1) := by decide +kernel
theorem d_Md_read_47 : decode b_Md_read 47 = .ok (.iaload, 1) := by decide +kernel
theorem d_Md_read_48 : decode b_Md_read 48 = .ok (.goto 5, 3) := by decide +kernel
theorem d_Md_read_51 : decode b_Md_read 51 = .ok (.bipush (-2), 2) := by decide +kernel
theorem d_Md_read_53 : decode b_Md_read 53 = .ok (.ireturn, 1) := by decide +kernel
theorem d_Arr_fill_0 : decode b_Arr_fill 0 = .ok (.iconst 0, 1) := by decide +kernel
theorem d_Arr_fill_1 : decode b_Arr_fill 1 = .ok (.istore_n 2, 1) := by decide +kernel
theorem d_Arr_fill_2 : decode b_Arr_fill 2 = .ok (.aload_n 0, 1) := by decide +kernel
theorem d_Arr_fill_3 : decode b_Arr_fill 3 = .ok (.arraylength, 1) := by decide +kernel
theorem d_Arr_fill_4 : decode b_Arr_fill 4 = .ok (.istore_n 3, 1) := by decide +kernel
theorem d_Arr_fill_5 : decode b_Arr_fill 5 = .ok (.iload_n 2, 1) := by decide +kernel
theorem d_Arr_fill_6 : decode b_Arr_fill 6 = .ok (.iload_n 3, 1) := by decide +kernel
theorem d_Arr_fill_7 : decode b_Arr_fill 7 = .ok (.if_icmp .ge 13, 3) := by decide +kernel
theorem d_Arr_fill_10 : decode b_Arr_fill 10 = .ok (.aload_n 0, 1) := by decide +kernel
theorem d_Arr_fill_11 : decode b_Arr_fill 11 = .ok (.iload_n 2, 1) := by decide +kernel
theorem d_Arr_fill_12 : decode b_Arr_fill 12 = .ok (.iload_n 1, 1) := by decide +kernel
theorem d_Arr_fill_13 : decode b_Arr_fill 13 = .ok (.iastore, 1) := by decide +kernel
theorem d_Arr_fill_14 : decode b_Arr_fill 14 = .ok (.iinc 2 1, 3) := by decide +kernel
theorem d_Arr_fill_17 : decode b_Arr_fill 17 = .ok (.goto (-12), 3) := by decide +kernel
theorem d_Arr_fill_20 : decode b_Arr_fill 20 = .ok (.return_, 1) := by decide +kernel
theorem d_Int_bitCount_0 : decode b_Int_bitCount 0 = .ok (.iload_n 0, 1) := by decide +kernel
theorem d_Int_bitCount_1 : decode b_Int_bitCount 1 = .ok (.iload_n 0, 1) := by decide +kernel
theorem d_Int_bitCount_2 : decode b_Int_bitCount 2 = .ok (.iconst 1, 1) := by decide +kernel
theorem d_Int_bitCount_3 : decode b_Int_bitCount 3 = .ok (.iushr, 1) := by decide +kernel
theorem d_Int_bitCount_4 : decode b_Int_bitCount 4 = .ok (.ldc_w 265, 3) := by decide +kernel
theorem d_Int_bitCount_7 : decode b_Int_bitCount 7 = .ok (.iand, 1) := by decide +kernel
theorem d_Int_bitCount_8 : decode b_Int_bitCount 8 = .ok (.isub, 1) := by decide +kernel
theorem d_Int_bitCount_9 : decode b_Int_bitCount 9 = .ok (.istore_n 0, 1) := by decide +kernel
theorem d_Int_bitCount_10 : decode b_Int_bitCount 10 = .ok (.iload_n 0, 1) := by decide +kernel
theorem d_Int_bitCount_11 : decode b_Int_bitCount 11 = .ok (.ldc_w 266, 3) := by decide +kernel
theorem d_Int_bitCount_14 : decode b_Int_bitCount 14 = .ok (.iand, 1) := by decide +kernel
theorem d_Int_bitCount_15 : decode b_Int_bitCount 15 = .ok (.iload_n 0, 1) := by decide +kernel
theorem d_Int_bitCount_16 : decode b_Int_bitCount 16 = .ok (.iconst 2, 1) := by decide +kernel
theorem d_Int_bitCount_17 : decode b_Int_bitCount 17 = .ok (.iushr, 1) := by decide +kernel
theorem d_Int_bitCount_18 : decode b_Int_bitCount 18 = .ok (.ldc_w 266, 3) := by decide +kernel
theorem d_Int_bitCount_21 : decode b_Int_bitCount 21 = .ok (.iand, 1) := by decide +kernel
theorem d_Int_bitCount_22 : decode b_Int_bitCount 22 = .ok (.iadd, 1) := by decide +kernel
theorem d_Int_bitCount_23 : decode b_Int_bitCount 23 = .ok (.istore_n 0, 1) := by decide +kernel
theorem d_Int_bitCount_24 : decode b_Int_bitCount 24 = .ok (.iload_n 0, 1) := by decide +kernel
theorem d_Int_bitCount_25 : decode b_Int_bitCount 25 = .ok (.iload_n 0, 1) := by decide +kernel
theorem d_Int_bitCount_26 : decode b_Int_bitCount 26 = .ok (.iconst 4, 1) := by decide +kernel
theorem d_Int_bitCount_27 : decode b_Int_bitCount 27 = .ok (.iushr, 1) := by decide +kernel
theorem d_Int_bitCount_28 : decode b_Int_bitCount 28 = .ok (.iadd, 1) := by decide +kernel
theorem d_Int_bitCount_29 : decode b_Int_bitCount 29 = .ok (.ldc_w 267, 3) := by decide +kernel
theorem d_Int_bitCount_32 : decode b_Int_bitCount 32 = .ok (.iand, 1) := by decide +kernel
theorem d_Int_bitCount_33 : decode b_Int_bitCount 33 = .ok (.istore_n 0, 1) := by decide +kernel
theorem d_Int_bitCount_34 : decode b_Int_bitCount 34 = .ok (.iload_n 0, 1) := by decide +kernel
theorem d_Int_bitCount_35 : decode b_Int_bitCount 35 = .ok (.iload_n 0, 1) := by decide +kernel
theorem d_Int_bitCount_36 : decode b_Int_bitCount 36 = .ok (.bipush 8, 2) := by decide +kernel
theorem d_Int_bitCount_38 : decode b_Int_bitCount 38 = .ok (.iushr, 1) := by decide +kernel
theorem d_Int_bitCount_39 : decode b_Int_bitCount 39 = .ok (.iadd, 1) := by decide +kernel
theorem d_Int_bitCount_40 : decode b_Int_bitCount 40 = .ok (.istore_n 0, 1) := by decide +kernel
theorem d_Int_bitCount_41 : decode b_Int_bitCount 41 = .ok (.iload_n 0, 1) := by decide +kernel
theorem d_Int_bitCount_42 : decode b_Int_bitCount 42 = .ok (.iload_n 0, 1) := by decide +kernel
theorem d_Int_bitCount_43 : decode b_Int_bitCount 43 = .ok (.bipush 16, 2) := by decide +kernel
theorem d_Int_bitCount_45 : decode b_Int_bitCount 45 = .ok (.iushr, 1) := by decide +kernel
theorem d_Int_bitCount_46 : decode b_Int_bitCount 46 = .ok (.iadd, 1) := by decide +kernel
theorem d_Int_bitCount_47 : decode b_Int_bitCount 47 = .ok (.istore_n 0, 1) := by decide +kernel
theorem d_Int_bitCount_48 : decode b_Int_bitCount 48 = .ok (.iload_n 0, 1) := by decide +kernel
theorem d_Int_bitCount_49 : decode b_Int_bitCount 49 = .ok (.bipush 63, 2) := by decide +kernel
theorem d_Int_bitCount_51 : decode b_Int_bitCount 51 = .ok (.iand, 1) := by decide +kernel
theorem d_Int_bitCount_52 : decode b_Int_bitCount 52 = .ok (.ireturn, 1) := by decide +kernel
end
section
theorem d_Law_law_0 : decode b_Law_law 0 = .ok (.new 7, 3) := by decide +kernel
theorem d_Law_law_3 : decode b_Law_law 3 = .ok (.dup, 1) := by decide +kernel
theorem d_Law_law_4 : decode b_Law_law 4 = .ok (.invokespecial 9, 3) := by decide +kernel
theorem d_Law_law_7 : decode b_Law_law 7 = .ok (.astore_n 1, 1) := by decide +kernel
theorem d_Law_law_8 : decode b_Law_law 8 = .ok (.new 10, 3) := by decide +kernel
theorem d_Law_law_11 : decode b_Law_law 11 = .ok (.dup, 1) := by decide +kernel
theorem d_Law_law_12 : decode b_Law_law 12 = .ok (.invokespecial 12, 3) := by decide +kernel
theorem d_Law_law_15 : decode b_Law_law 15 = .ok (.astore_n 2, 1) := by decide +kernel
theorem d_Law_law_16 : decode b_Law_law 16 = .ok (.iconst 0, 1) := by decide +kernel
theorem d_Law_law_17 : decode b_Law_law 17 = .ok (.istore_n 3, 1) := by decide +kernel
theorem d_Law_law_18 : decode b_Law_law 18 = .ok (.iload_n 3, 1) := by decide +kernel
theorem d_Law_law_19 : decode b_Law_law 19 = .ok (.aload_n 0, 1) := by decide +kernel
theorem d_Law_law_20 : decode b_Law_law 20 = .ok (.arraylength, 1) := by decide +kernel
theorem d_Law_law_21 : decode b_Law_law 21 = .ok (.iconst 5, 1) := by decide +kernel
theorem d_Law_law_22 : decode b_Law_law 22 = .ok (.isub, 1) := by decide +kernel
theorem d_Law_law_23 : decode b_Law_law 23 = .ok (.if_icmp .gt 601, 3) := by decide +kernel
theorem d_Law_law_26 : decode b_Law_law 26 = .ok (.aload_n 0, 1) := by decide +kernel
theorem d_Law_law_27 : decode b_Law_law 27 = .ok (.iload_n 3, 1) := by decide +kernel
theorem d_Law_law_28 : decode b_Law_law 28 = .ok (.iaload, 1) := by decide +kernel
theorem d_Law_law_29 : decode b_Law_law 29 = .ok (.bipush 31, 2) := by decide +kernel
theorem d_Law_law_31 : decode b_Law_law 31 = .ok (.iand, 1) := by decide +kernel
theorem d_Law_law_32 : decode b_Law_law 32 = .ok (.tableswitch 586 0 17 #[88, 147, 170, 203, 226, 239, 252, 275, 298, 321, 344, 377, 388, 411, 424, 447, 490, 533], 88) := by decide +kernel
theorem d_Law_law_120 : decode b_Law_law 120 = .ok (.aload_n 1, 1) := by decide +kernel
theorem d_Law_law_121 : decode b_Law_law 121 = .ok (.aload_n 0, 1) := by decide +kernel
theorem d_Law_law_122 : decode b_Law_law 122 = .ok (.iload_n 3, 1) := by decide +kernel
theorem d_Law_law_123 : decode b_Law_law 123 = .ok (.iconst 1, 1) := by decide +kernel
theorem d_Law_law_124 : decode b_Law_law 124 = .ok (.iadd, 1) := by decide +kernel
theorem d_Law_law_125 : decode b_Law_law 125 = .ok (.iaload, 1) := by decide +kernel
theorem d_Law_law_126 : decode b_Law_law 126 = .ok (.aload_n 0, 1) := by decide +kernel
theorem d_Law_law_127 : decode b_Law_law 127 = .ok (.iload_n 3, 1) := by decide +kernel
theorem d_Law_law_128 : decode b_Law_law 128 = .ok (.iconst 2, 1) := by decide +kernel
theorem d_Law_law_129 : decode b_Law_law 129 = .ok (.iadd, 1) := by decide +kernel
theorem d_Law_law_130 : decode b_Law_law 130 = .ok (.iaload, 1) := by decide +kernel
theorem d_Law_law_131 : decode b_Law_law 131 = .ok (.aload_n 0, 1) := by decide +kernel
theorem d_Law_law_132 : decode b_Law_law 132 = .ok (.iload_n 3, 1) := by decide +kernel
theorem d_Law_law_133 : decode b_Law_law 133 = .ok (.iconst 3, 1) := by decide +kernel
theorem d_Law_law_134 : decode b_Law_law 134 = .ok (.iadd, 1) := by decide +kernel
theorem d_Law_law_135 : decode b_Law_law 135 = .ok (.iaload, 1) := by decide +kernel
theorem d_Law_law_136 : decode b_Law_law 136 = .ok (.ifCond .eq 7, 3) := by decide +kernel
theorem d_Law_law_139 : decode b_Law_law 139 = .ok (.iconst 1, 1) := by decide +kernel
theorem d_Law_law_140 : decode b_Law_law 140 = .ok (.goto 4, 3) := by decide +kernel
theorem d_Law_law_143 : decode b_Law_law 143 = .ok (.iconst 0, 1) := by decide +kernel
theorem d_Law_law_144 : decode b_Law_law 144 = .ok (.invokevirtual 13, 3) := by decide +kernel
theorem d_Law_law_147 : decode b_Law_law 147 = .ok (.aload_n 2, 1) := by decide +kernel
theorem d_Law_law_148 : decode b_Law_law 148 = .ok (.aload_n 0, 1) := by decide +kernel
theorem d_Law_law_149 : decode b_Law_law 149 = .ok (.iload_n 3, 1) := by decide +kernel
theorem d_Law_law_150 : decode b_Law_law 150 = .ok (.iconst 1, 1) := by decide +kernel
theorem d_Law_law_151 : decode b_Law_law 151 = .ok (.iadd, 1) := by decide +kernel
theorem d_Law_law_152 : decode b_Law_law 152 = .ok (.iaload, 1) := by decide +kernel
theorem d_Law_law_153 : decode b_Law_law 153 = .ok (.aload_n 0, 1) := by decide +kernel
theorem d_Law_law_154 : decode b_Law_law 154 = .ok (.iload_n 3, 1) := by decide +kernel
theorem d_Law_law_155 : decode b_Law_law 155 = .ok (.iconst 2, 1) := by decide +kernel
theorem d_Law_law_156 : decode b_Law_law 156 = .ok (.iadd, 1) := by decide +kernel
theorem d_Law_law_157 : decode b_Law_law 157 = .ok (.iaload, 1) := by decide +kernel
theorem d_Law_law_158 : decode b_Law_law 158 = .ok (.aload_n 0, 1) := by decide +kernel
theorem d_Law_law_159 : decode b_Law_law 159 = .ok (.iload_n 3, 1) := by decide +kernel
theorem d_Law_law_160 : decode b_Law_law 160 = .ok (.iconst 3, 1) := by decide +kernel
theorem d_Law_law_161 : decode b_Law_law 161 = .ok (.iadd, 1) := by decide +kernel
theorem d_Law_law_162 : decode b_Law_law 162 = .ok (.iaload, 1) := by decide +kernel
theorem d_Law_law_163 : decode b_Law_law 163 = .ok (.ifCond .eq 7, 3) := by decide +kernel
theorem d_Law_law_166 : decode b_Law_law 166 = .ok (.iconst 1, 1) := by decide +kernel
theorem d_Law_law_167 : decode b_Law_law 167 = .ok (.goto 4, 3) := by decide +kernel
theorem d_Law_law_170 : decode b_Law_law 170 = .ok (.iconst 0, 1) := by decide +kernel
theorem d_Law_law_171 : decode b_Law_law 171 = .ok (.invokevirtual 17, 3) := by decide +kernel
theorem d_Law_law_174 : decode b_Law_law 174 = .ok (.if_icmp .eq 444, 3) := by decide +kernel
theorem d_Law_law_177 : decode b_Law_law 177 = .ok (.iconst 0, 1) := by decide +kernel
theorem d_Law_law_178 : decode b_Law_law 178 = .ok (.ireturn, 1) := by decide +kernel
theorem d_Law_law_179 : decode b_Law_law 179 = .ok (.aload_n 1, 1) := by decide +kernel
theorem d_Law_law_180 : decode b_Law_law 180 = .ok (.aload_n 0, 1) := by decide +kernel
theorem d_Law_law_181 : decode b_Law_law 181 = .ok (.iload_n 3, 1) := by decide +kernel
theorem d_Law_law_182 : decode b_Law_law 182 = .ok (.iconst 1, 1) := by decide +kernel
theorem d_Law_law_183 : decode b_Law_law 183 = .ok (.iadd, 1) := by decide +kernel
theorem d_Law_law_184 : decode b_Law_law 184 = .ok (.iaload, 1) := by decide +kernel
theorem d_Law_law_185 : decode b_Law_law 185 = .ok (.invokevirtual 18, 3) := by decide +kernel
theorem d_Law_law_188 : decode b_Law_law 188 = .ok (.aload_n 2, 1) := by decide +kernel
theorem d_Law_law_189 : decode b_Law_law 189 = .ok (.aload_n 0, 1) := by decide +kernel
theorem d_Law_law_190 : decode b_Law_law 190 = .ok (.iload_n 3, 1) := by decide +kernel
theorem d_Law_law_191 : decode b_Law_law 191 = .ok (.iconst 1, 1) := by decide +kernel
theorem d_Law_law_192 : decode b_Law_law 192 = .ok (.iadd, 1) := by decide +kernel
theorem d_Law_law_193 : decode b_Law_law 193 = .ok (.iaload, 1) := by decide +kernel
theorem d_Law_law_194 : decode b_Law_law 194 = .ok (.invokevirtual 22, 3) := by decide +kernel
theorem d_Law_law_197 : decode b_Law_law 197 = .ok (.if_icmp .eq 421, 3) := by decide +kernel
theorem d_Law_law_200 : decode b_Law_law 200 = .ok (.iconst 0, 1) := by decide +kernel
theorem d_Law_law_201 : decode b_Law_law 201 = .ok (.ireturn, 1) := by decide +kernel
theorem d_Law_law_202 : decode b_Law_law 202 = .ok (.aload_n 1, 1) := by decide +kernel
theorem d_Law_law_203 : decode b_Law_law 203 = .ok (.aload_n 0, 1) := by decide +kernel
theorem d_Law_law_204 : decode b_Law_law 204 = .ok (.iload_n 3, 1) := by decide +kernel
theorem d_Law_law_205 : decode b_Law_law 205 = .ok (.iconst 1, 1) := by decide +kernel
theorem d_Law_law_206 : decode b_Law_law 206 = .ok (.iadd, 1) := by decide +kernel
theorem d_Law_law_207 : decode b_Law_law 207 = .ok (.iaload, 1) := by decide +kernel
theorem d_Law_law_208 : decode b_Law_law 208 = .ok (.aload_n 0, 1) := by decide +kernel
theorem d_Law_law_209 : decode b_Law_law 209 = .ok (.iload_n 3, 1) := by decide +kernel
theorem d_Law_law_210 : decode b_Law_law 210 = .ok (.iconst 2, 1) := by decide +kernel
theorem d_Law_law_211 : decode b_Law_law 211 = .ok (.iadd, 1) := by decide +kernel
theorem d_Law_law_212 : decode b_Law_law 212 = .ok (.iaload, 1) := by decide +kernel
theorem d_Law_law_213 : decode b_Law_law 213 = .ok (.invokevirtual 23, 3) := by decide +kernel
theorem d_Law_law_216 : decode b_Law_law 216 = .ok (.aload_n 2, 1) := by decide +kernel
theorem d_Law_law_217 : decode b_Law_law 217 = .ok (.aload_n 0, 1) := by decide +kernel
theorem d_Law_law_218 : decode b_Law_law 218 = .ok (.iload_n 3, 1) := by decide +kernel
theorem d_Law_law_219 : decode b_Law_law 219 = .ok (.iconst 1, 1) := by decide +kernel
theorem d_Law_law_220 : decode b_Law_law 220 = .ok (.iadd, 1) := by decide +kernel
theorem d_Law_law_221 : decode b_Law_law 221 = .ok (.iaload, 1) := by decide +kernel
theorem d_Law_law_222 : decode b_Law_law 222 = .ok (.aload_n 0, 1) := by decide +kernel
theorem d_Law_law_223 : decode b_Law_law 223 = .ok (.iload_n 3, 1) := by decide +kernel
theorem d_Law_law_224 : decode b_Law_law 224 = .ok (.iconst 2, 1) := by decide +kernel
theorem d_Law_law_225 : decode b_Law_law 225 = .ok (.iadd, 1) := by decide +kernel
theorem d_Law_law_226 : decode b_Law_law 226 = .ok (.iaload, 1) := by decide +kernel
theorem d_Law_law_227 : decode b_Law_law 227 = .ok (.invokevirtual 27, 3) := by decide +kernel
theorem d_Law_law_230 : decode b_Law_law 230 = .ok (.if_icmp .eq 388, 3) := by decide +kernel
theorem d_Law_law_233 : decode b_Law_law 233 = .ok (.iconst 0, 1) := by decide +kernel
theorem d_Law_law_234 : decode b_Law_law 234 = .ok (.ireturn, 1) := by decide +kernel
theorem d_Law_law_235 : decode b_Law_law 235 = .ok (.aload_n 1, 1) := by decide +kernel
theorem d_Law_law_236 : decode b_Law_law 236 = .ok (.aload_n 0, 1) := by decide +kernel
theorem d_Law_law_237 : decode b_Law_law 237 = .ok (.iload_n 3, 1) := by decide +kernel
theorem d_Law_law_238 : decode b_Law_law 238 = .ok (.iconst 1, 1) := by decide +kernel
theorem d_Law_law_239 : decode b_Law_law 239 = .ok (.iadd, 1) := by decide +kernel
theorem d_Law_law_240 : decode b_Law_law 240 = .ok (.iaload, 1) := by decide +kernel
theorem d_Law_law_241 : decode b_Law_law 241 = .ok (.invokevirtual 28, 3) := by decide +kernel
theorem d_Law_law_244 : decode b_Law_law 244 = .ok (.aload_n 2, 1) := by decide +kernel
theorem d_Law_law_245 : decode b_Law_law 245 = .ok (.aload_n 0, 1) := by decide +kernel
theorem d_Law_law_246 : decode b_Law_law 246 = .ok (.iload_n 3, 1) := by decide +kernel
theorem d_Law_law_247 : decode b_Law_law 247 = .ok (.iconst 1, 1) := by decide +kernel
theorem d_Law_law_248 : decode b_Law_law 248 = .ok (.iadd, 1) := by decide +kernel
theorem d_Law_law_249 : decode b_Law_law 249 = .ok (.iaload, 1) := by decide +kernel
theorem d_Law_law_250 : decode b_Law_law 250 = .ok (.invokevirtual 31, 3) := by decide +kernel
theorem d_Law_law_253 : decode b_Law_law 253 = .ok (.if_icmp .eq 365, 3) := by decide +kernel
theorem d_Law_law_256 : decode b_Law_law 256 = .ok (.iconst 0, 1) := by decide +kernel
theorem d_Law_law_257 : decode b_Law_law 257 = .ok (.ireturn, 1) := by decide +kernel
theorem d_Law_law_258 : decode b_Law_law 258 = .ok (.aload_n 1, 1) := by decide +kernel
theorem d_Law_law_259 : decode b_Law_law 259 = .ok (.invokevirtual 32, 3) := by decide +kernel
theorem d_Law_law_262 : decode b_Law_law 262 = .ok (.aload_n 2, 1) := by decide +kernel
theorem d_Law_law_263 : decode b_Law_law 263 = .ok (.invokevirtual 36, 3) := by decide +kernel
theorem d_Law_law_266 : decode b_Law_law 266 = .ok (.if_icmp .eq 352, 3) := by decide +kernel
theorem d_Law_law_269 : decode b_Law_law 269 = .ok (.iconst 0, 1) := by decide +kernel
theorem d_Law_law_270 : decode b_Law_law 270 = .ok (.ireturn, 1) := by decide +kernel
theorem d_Law_law_271 : decode b_Law_law 271 = .ok (.aload_n 1, 1) := by decide +kernel
theorem d_Law_law_272 : decode b_Law_law 272 = .ok (.invokevirtual 37, 3) := by decide +kernel
theorem d_Law_law_275 : decode b_Law_law 275 = .ok (.aload_n 2, 1) := by decide +kernel
theorem d_Law_law_276 : decode b_Law_law 276 = .ok (.invokevirtual 40, 3) := by decide +kernel
theorem d_Law_law_279 : decode b_Law_law 279 = .ok (.if_icmp .eq 339, 3) := by decide +kernel
theorem d_Law_law_282 : decode b_Law_law 282 = .ok (.iconst 0, 1) := by decide +kernel
theorem d_Law_law_283 : decode b_Law_law 283 = .ok (.ireturn, 1) := by decide +kernel
theorem d_Law_law_284 : decode b_Law_law 284 = .ok (.aload_n 1, 1) := by decide +kernel
theorem d_Law_law_285 : decode b_Law_law 285 = .ok (.aload_n 0, 1) := by decide +kernel
theorem d_Law_law_286 : decode b_Law_law 286 = .ok (.iload_n 3, 1) := by decide +kernel
theorem d_Law_law_287 : decode b_Law_law 287 = .ok (.iconst 1, 1) := by decide +kernel
theorem d_Law_law_288 : decode b_Law_law 288 = .ok (.iadd, 1) := by decide +kernel
theorem d_Law_law_289 : decode b_Law_law 289 = .ok (.iaload, 1) := by decide +kernel
theorem d_Law_law_290 : decode b_Law_law 290 = .ok (.invokevirtual 41, 3) := by decide +kernel
theorem d_Law_law_293 : decode b_Law_law 293 = .ok (.aload_n 2, 1) := by decide +kernel
theorem d_Law_law_294 : decode b_Law_law 294 = .ok (.aload_n 0, 1) := by decide +kernel
theorem d_Law_law_295 : decode b_Law_law 295 = .ok (.iload_n 3, 1) := by decide +kernel
theorem d_Law_law_296 : decode b_Law_law 296 = .ok (.iconst 1, 1) := by decide +kernel
theorem d_Law_law_297 : decode b_Law_law 297 = .ok (.iadd, 1) := by decide +kernel
theorem d_Law_law_298 : decode b_Law_law 298 = .ok (.iaload, 1) := by decide +kernel
theorem d_Law_law_299 : decode b_Law_law 299 = .ok (.invokevirtual 44, 3) := by decide +kernel
theorem d_Law_law_302 : decode b_Law_law 302 = .ok (.if_icmp .eq 316, 3) := by decide +kernel
theorem d_Law_law_305 : decode b_Law_law 305 = .ok (.iconst 0, 1) := by decide +kernel
theorem d_Law_law_306 : decode b_Law_law 306 = .ok (.ireturn, 1) := by decide +kernel
theorem d_Law_law_307 : decode b_Law_law 307 = .ok (.aload_n 1, 1) := by decide +kernel
theorem d_Law_law_308 : decode b_Law_law 308 = .ok (.aload_n 0, 1) := by decide +kernel
theorem d_Law_law_309 : decode b_Law_law 309 = .ok (.iload_n 3, 1) := by decide +kernel
theorem d_Law_law_310 : decode b_Law_law 310 = .ok (.iconst 1, 1) := by decide +kernel
theorem d_Law_law_311 : decode b_Law_law 311 = .ok (.iadd, 1) := by decide +kernel
theorem d_Law_law_312 : decode b_Law_law 312 = .ok (.iaload, 1) := by decide +kernel
theorem d_Law_law_313 : decode b_Law_law 313 = .ok (.invokevirtual 45, 3) := by decide +kernel
theorem d_Law_law_316 : decode b_Law_law 316 = .ok (.aload_n 2, 1) := by decide +kernel
theorem d_Law_law_317 : decode b_Law_law 317 = .ok (.aload_n 0, 1) := by decide +kernel
theorem d_Law_law_318 : decode b_Law_law 318 = .ok (.iload_n 3, 1) := by decide +kernel
theorem d_Law_law_319 : decode b_Law_law 319 = .ok (.iconst 1, 1) := by decide +kernel
theorem d_Law_law_320 : decode b_Law_law 320 = .ok (.iadd, 1) := by decide +kernel
theorem d_Law_law_321 : decode b_Law_law 321 = .ok (.iaload, 1) := by decide +kernel
theorem d_Law_law_322 : decode b_Law_law 322 = .ok (.invokevirtual 48, 3) := by decide +kernel
theorem d_Law_law_325 : decode b_Law_law 325 = .ok (.if_icmp .eq 293, 3) := by decide +kernel
theorem d_Law_law_328 : decode b_Law_law 328 = .ok (.iconst 0, 1) := by decide +kernel
theorem d_Law_law_329 : decode b_Law_law 329 = .ok (.ireturn, 1) := by decide +kernel
theorem d_Law_law_330 : decode b_Law_law 330 = .ok (.aload_n 1, 1) := by decide +kernel
theorem d_Law_law_331 : decode b_Law_law 331 = .ok (.aload_n 0, 1) := by decide +kernel
theorem d_Law_law_332 : decode b_Law_law 332 = .ok (.iload_n 3, 1) := by decide +kernel
theorem d_Law_law_333 : decode b_Law_law 333 = .ok (.iconst 1, 1) := by decide +kernel
theorem d_Law_law_334 : decode b_Law_law 334 = .ok (.iadd, 1) := by decide +kernel
theorem d_Law_law_335 : decode b_Law_law 335 = .ok (.iaload, 1) := by decide +kernel
theorem d_Law_law_336 : decode b_Law_law 336 = .ok (.invokevirtual 49, 3) := by decide +kernel
theorem d_Law_law_339 : decode b_Law_law 339 = .ok (.aload_n 2, 1) := by decide +kernel
theorem d_Law_law_340 : decode b_Law_law 340 = .ok (.aload_n 0, 1) := by decide +kernel
theorem d_Law_law_341 : decode b_Law_law 341 = .ok (.iload_n 3, 1) := by decide +kernel
theorem d_Law_law_342 : decode b_Law_law 342 = .ok (.iconst 1, 1) := by decide +kernel
theorem d_Law_law_343 : decode b_Law_law 343 = .ok (.iadd, 1) := by decide +kernel
theorem d_Law_law_344 : decode b_Law_law 344 = .ok (.iaload, 1) := by decide +kernel
theorem d_Law_law_345 : decode b_Law_law 345 = .ok (.invokevirtual 52, 3) := by decide +kernel
theorem d_Law_law_348 : decode b_Law_law 348 = .ok (.if_icmp .eq 270, 3) := by decide +kernel
theorem d_Law_law_351 : decode b_Law_law 351 = .ok (.iconst 0, 1) := by decide +kernel
theorem d_Law_law_352 : decode b_Law_law 352 = .ok (.ireturn, 1) := by decide +kernel
theorem d_Law_law_353 : decode b_Law_law 353 = .ok (.aload_n 1, 1) := by decide +kernel
theorem d_Law_law_354 : decode b_Law_law 354 = .ok (.aload_n 0, 1) := by decide +kernel
theorem d_Law_law_355 : decode b_Law_law 355 = .ok (.iload_n 3, 1) := by decide +kernel
theorem d_Law_law_356 : decode b_Law_law 356 = .ok (.iconst 1, 1) := by decide +kernel
theorem d_Law_law_357 : decode b_Law_law 357 = .ok (.iadd, 1) := by decide +kernel
theorem d_Law_law_358 : decode b_Law_law 358 = .ok (.iaload, 1) := by decide +kernel
theorem d_Law_law_359 : decode b_Law_law 359 = .ok (.invokevirtual 53, 3) := by decide +kernel
theorem d_Law_law_362 : decode b_Law_law 362 = .ok (.aload_n 2, 1) := by decide +kernel
theorem d_Law_law_363 : decode b_Law_law 363 = .ok (.aload_n 0, 1) := by decide +kernel
theorem d_Law_law_364 : decode b_Law_law 364 = .ok (.iload_n 3, 1) := by decide +kernel
theorem d_Law_law_365 : decode b_Law_law 365 = .ok (.iconst 1, 1) := by decide +kernel
theorem d_Law_law_366 : decode b_Law_law 366 = .ok (.iadd, 1) := by decide +kernel
theorem d_Law_law_367 : decode b_Law_law 367 = .ok (.iaload, 1) := by decide +kernel
theorem d_Law_law_368 : decode b_Law_law 368 = .ok (.invokevirtual 56, 3) := by decide +kernel
theorem d_Law_law_371 : decode b_Law_law 371 = .ok (.if_icmp .eq 247, 3) := by decide +kernel
theorem d_Law_law_374 : decode b_Law_law 374 = .ok (.iconst 0, 1) := by decide +kernel
theorem d_Law_law_375 : decode b_Law_law 375 = .ok (.ireturn, 1) := by decide +kernel
theorem d_Law_law_376 : decode b_Law_law 376 = .ok (.aload_n 1, 1) := by decide +kernel
theorem d_Law_law_377 : decode b_Law_law 377 = .ok (.aload_n 0, 1) := by decide +kernel
theorem d_Law_law_378 : decode b_Law_law 378 = .ok (.iload_n 3, 1) := by decide +kernel
theorem d_Law_law_379 : decode b_Law_law 379 = .ok (.iconst 1, 1) := by decide +kernel
theorem d_Law_law_380 : decode b_Law_law 380 = .ok (.iadd, 1) := by decide +kernel
theorem d_Law_law_381 : decode b_Law_law 381 = .ok (.iaload, 1) := by decide +kernel
theorem d_Law_law_382 : decode b_Law_law 382 = .ok (.aload_n 0, 1) := by decide +kernel
theorem d_Law_law_383 : decode b_Law_law 383 = .ok (.iload_n 3, 1) := by decide +kernel
theorem d_Law_law_384 : decode b_Law_law 384 = .ok (.iconst 2, 1) := by decide +kernel
theorem d_Law_law_385 : decode b_Law_law 385 = .ok (.iadd, 1) := by decide +kernel
theorem d_Law_law_386 : decode b_Law_law 386 = .ok (.iaload, 1) := by decide +kernel
theorem d_Law_law_387 : decode b_Law_law 387 = .ok (.invokevirtual 57, 3) := by decide +kernel
theorem d_Law_law_390 : decode b_Law_law 390 = .ok (.aload_n 2, 1) := by decide +kernel
theorem d_Law_law_391 : decode b_Law_law 391 = .ok (.aload_n 0, 1) := by decide +kernel
theorem d_Law_law_392 : decode b_Law_law 392 = .ok (.iload_n 3, 1) := by decide +kernel
theorem d_Law_law_393 : decode b_Law_law 393 = .ok (.iconst 1, 1) := by decide +kernel
theorem d_Law_law_394 : decode b_Law_law 394 = .ok (.iadd, 1) := by decide +kernel
theorem d_Law_law_395 : decode b_Law_law 395 = .ok (.iaload, 1) := by decide +kernel
theorem d_Law_law_396 : decode b_Law_law 396 = .ok (.aload_n 0, 1) := by decide +kernel
theorem d_Law_law_397 : decode b_Law_law 397 = .ok (.iload_n 3, 1) := by decide +kernel
theorem d_Law_law_398 : decode b_Law_law 398 = .ok (.iconst 2, 1) := by decide +kernel
theorem d_Law_law_399 : decode b_Law_law 399 = .ok (.iadd, 1) := by decide +kernel
theorem d_Law_law_400 : decode b_Law_law 400 = .ok (.iaload, 1) := by decide +kernel
theorem d_Law_law_401 : decode b_Law_law 401 = .ok (.invokevirtual 60, 3) := by decide +kernel
theorem d_Law_law_404 : decode b_Law_law 404 = .ok (.if_icmp .eq 214, 3) := by decide +kernel
theorem d_Law_law_407 : decode b_Law_law 407 = .ok (.iconst 0, 1) := by decide +kernel
theorem d_Law_law_408 : decode b_Law_law 408 = .ok (.ireturn, 1) := by decide +kernel
theorem d_Law_law_409 : decode b_Law_law 409 = .ok (.aload_n 1, 1) := by decide +kernel
theorem d_Law_law_410 : decode b_Law_law 410 = .ok (.invokevirtual 61, 3) := by decide +kernel
theorem d_Law_law_413 : decode b_Law_law 413 = .ok (.aload_n 2, 1) := by decide +kernel
theorem d_Law_law_414 : decode b_Law_law 414 = .ok (.invokevirtual 64, 3) := by decide +kernel
theorem d_Law_law_417 : decode b_Law_law 417 = .ok (.goto 201, 3) := by decide +kernel
theorem d_Law_law_420 : decode b_Law_law 420 = .ok (.aload_n 1, 1) := by decide +kernel
theorem d_Law_law_421 : decode b_Law_law 421 = .ok (.aload_n 0, 1) := by decide +kernel
theorem d_Law_law_422 : decode b_Law_law 422 = .ok (.iload_n 3, 1) := by decide +kernel
theorem d_Law_law_423 : decode b_Law_law 423 = .ok (.iconst 1, 1) := by decide +kernel
theorem d_Law_law_424 : decode b_Law_law 424 = .ok (.iadd, 1) := by decide +kernel
theorem d_Law_law_425 : decode b_Law_law 425 = .ok (.iaload, 1) := by decide +kernel
theorem d_Law_law_426 : decode b_Law_law 426 = .ok (.invokevirtual 65, 3) := by decide +kernel
theorem d_Law_law_429 : decode b_Law_law 429 = .ok (.aload_n 2, 1) := by decide +kernel
theorem d_Law_law_430 : decode b_Law_law 430 = .ok (.aload_n 0, 1) := by decide +kernel
theorem d_Law_law_431 : decode b_Law_law 431 = .ok (.iload_n 3, 1) := by decide +kernel
theorem d_Law_law_432 : decode b_Law_law 432 = .ok (.iconst 1, 1) := by decide +kernel
theorem d_Law_law_433 : decode b_Law_law 433 = .ok (.iadd, 1) := by decide +kernel
theorem d_Law_law_434 : decode b_Law_law 434 = .ok (.iaload, 1) := by decide +kernel
theorem d_Law_law_435 : decode b_Law_law 435 = .ok (.invokevirtual 68, 3) := by decide +kernel
theorem d_Law_law_438 : decode b_Law_law 438 = .ok (.if_icmp .eq 180, 3) := by decide +kernel
theorem d_Law_law_441 : decode b_Law_law 441 = .ok (.iconst 0, 1) := by decide +kernel
theorem d_Law_law_442 : decode b_Law_law 442 = .ok (.ireturn, 1) := by decide +kernel
theorem d_Law_law_443 : decode b_Law_law 443 = .ok (.aload_n 1, 1) := by decide +kernel
theorem d_Law_law_444 : decode b_Law_law 444 = .ok (.invokevirtual 69, 3) := by decide +kernel
theorem d_Law_law_447 : decode b_Law_law 447 = .ok (.aload_n 2, 1) := by decide +kernel
theorem d_Law_law_448 : decode b_Law_law 448 = .ok (.invokevirtual 72, 3) := by decide +kernel
theorem d_Law_law_451 : decode b_Law_law 451 = .ok (.if_icmp .eq 167, 3) := by decide +kernel
theorem d_Law_law_454 : decode b_Law_law 454 = .ok (.iconst 0, 1) := by decide +kernel
theorem d_Law_law_455 : decode b_Law_law 455 = .ok (.ireturn, 1) := by decide +kernel
theorem d_Law_law_456 : decode b_Law_law 456 = .ok (.aload_n 1, 1) := by decide +kernel
theorem d_Law_law_457 : decode b_Law_law 457 = .ok (.aload_n 0, 1) := by decide +kernel
theorem d_Law_law_458 : decode b_Law_law 458 = .ok (.iload_n 3, 1) := by decide +kernel
theorem d_Law_law_459 : decode b_Law_law 459 = .ok (.iconst 1, 1) := by decide +kernel
theorem d_Law_law_460 : decode b_Law_law 460 = .ok (.iadd, 1) := by decide +kernel
theorem d_Law_law_461 : decode b_Law_law 461 = .ok (.iaload, 1) := by decide +kernel
theorem d_Law_law_462 : decode b_Law_law 462 = .ok (.invokevirtual 73, 3) := by decide +kernel
theorem d_Law_law_465 : decode b_Law_law 465 = .ok (.aload_n 2, 1) := by decide +kernel
theorem d_Law_law_466 : decode b_Law_law 466 = .ok (.aload_n 0, 1) := by decide +kernel
theorem d_Law_law_467 : decode b_Law_law 467 = .ok (.iload_n 3, 1) := by decide +kernel
theorem d_Law_law_468 : decode b_Law_law 468 = .ok (.iconst 1, 1) := by decide +kernel
theorem d_Law_law_469 : decode b_Law_law 469 = .ok (.iadd, 1) := by decide +kernel
theorem d_Law_law_470 : decode b_Law_law 470 = .ok (.iaload, 1) := by decide +kernel
theorem d_Law_law_471 : decode b_Law_law 471 = .ok (.invokevirtual 76, 3) := by decide +kernel
theorem d_Law_law_474 : decode b_Law_law 474 = .ok (.if_icmp .eq 144, 3) := by decide +kernel
theorem d_Law_law_477 : decode b_Law_law 477 = .ok (.iconst 0, 1) := by decide +kernel
theorem d_Law_law_478 : decode b_Law_law 478 = .ok (.ireturn, 1) := by decide +kernel
theorem d_Law_law_479 : decode b_Law_law 479 = .ok (.aload_n 1, 1) := by decide +kernel
theorem d_Law_law_480 : decode b_Law_law 480 = .ok (.aload_n 0, 1) := by decide +kernel
theorem d_Law_law_481 : decode b_Law_law 481 = .ok (.iload_n 3, 1) := by decide +kernel
theorem d_Law_law_482 : decode b_Law_law 482 = .ok (.iconst 1, 1) := by decide +kernel
theorem d_Law_law_483 : decode b_Law_law 483 = .ok (.iadd, 1) := by decide +kernel
theorem d_Law_law_484 : decode b_Law_law 484 = .ok (.iaload, 1) := by decide +kernel
theorem d_Law_law_485 : decode b_Law_law 485 = .ok (.aload_n 0, 1) := by decide +kernel
theorem d_Law_law_486 : decode b_Law_law 486 = .ok (.iload_n 3, 1) := by decide +kernel
theorem d_Law_law_487 : decode b_Law_law 487 = .ok (.iconst 2, 1) := by decide +kernel
theorem d_Law_law_488 : decode b_Law_law 488 = .ok (.iadd, 1) := by decide +kernel
theorem d_Law_law_489 : decode b_Law_law 489 = .ok (.iaload, 1) := by decide +kernel
theorem d_Law_law_490 : decode b_Law_law 490 = .ok (.aload_n 0, 1) := by decide +kernel
theorem d_Law_law_491 : decode b_Law_law 491 = .ok (.iload_n 3, 1) := by decide +kernel
theorem d_Law_law_492 : decode b_Law_law 492 = .ok (.iconst 3, 1) := by decide +kernel
theorem d_Law_law_493 : decode b_Law_law 493 = .ok (.iadd, 1) := by decide +kernel
theorem d_Law_law_494 : decode b_Law_law 494 = .ok (.iaload, 1) := by decide +kernel
theorem d_Law_law_495 : decode b_Law_law 495 = .ok (.invokevirtual 77, 3) := by decide +kernel
theorem d_Law_law_498 : decode b_Law_law 498 = .ok (.aload_n 2, 1) := by decide +kernel
theorem d_Law_law_499 : decode b_Law_law 499 = .ok (.aload_n 0, 1) := by decide +kernel
theorem d_Law_law_500 : decode b_Law_law 500 = .ok (.iload_n 3, 1) := by decide +kernel
theorem d_Law_law_501 : decode b_Law_law 501 = .ok (.iconst 1, 1) := by decide +kernel
theorem d_Law_law_502 : decode b_Law_law 502 = .ok (.iadd, 1) := by decide +kernel
theorem d_Law_law_503 : decode b_Law_law 503 = .ok (.iaload, 1) := by decide +kernel
theorem d_Law_law_504 : decode b_Law_law 504 = .ok (.aload_n 0, 1) := by decide +kernel
theorem d_Law_law_505 : decode b_Law_law 505 = .ok (.iload_n 3, 1) := by decide +kernel
theorem d_Law_law_506 : decode b_Law_law 506 = .ok (.iconst 2, 1) := by decide +kernel
theorem d_Law_law_507 : decode b_Law_law 507 = .ok (.iadd, 1) := by decide +kernel
theorem d_Law_law_508 : decode b_Law_law 508 = .ok (.iaload, 1) := by decide +kernel
theorem d_Law_law_509 : decode b_Law_law 509 = .ok (.aload_n 0, 1) := by decide +kernel
theorem d_Law_law_510 : decode b_Law_law 510 = .ok (.iload_n 3, 1) := by decide +kernel
theorem d_Law_law_511 : decode b_Law_law 511 = .ok (.iconst 3, 1) := by decide +kernel
theorem d_Law_law_512 : decode b_Law_law 512 = .ok (.iadd, 1) := by decide +kernel
theorem d_Law_law_513 : decode b_Law_law 513 = .ok (.iaload, 1) := by decide +kernel
theorem d_Law_law_514 : decode b_Law_law 514 = .ok (.invokevirtual 81, 3) := by decide +kernel
theorem d_Law_law_517 : decode b_Law_law 517 = .ok (.if_icmp .eq 101, 3) := by decide +kernel
theorem d_Law_law_520 : decode b_Law_law 520 = .ok (.iconst 0, 1) := by decide +kernel
theorem d_Law_law_521 : decode b_Law_law 521 = .ok (.ireturn, 1) := by decide +kernel
theorem d_Law_law_522 : decode b_Law_law 522 = .ok (.aload_n 1, 1) := by decide +kernel
theorem d_Law_law_523 : decode b_Law_law 523 = .ok (.aload_n 0, 1) := by decide +kernel
theorem d_Law_law_524 : decode b_Law_law 524 = .ok (.iload_n 3, 1) := by decide +kernel
theorem d_Law_law_525 : decode b_Law_law 525 = .ok (.iconst 1, 1) := by decide +kernel
theorem d_Law_law_526 : decode b_Law_law 526 = .ok (.iadd, 1) := by decide +kernel
theorem d_Law_law_527 : decode b_Law_law 527 = .ok (.iaload, 1) := by decide +kernel
theorem d_Law_law_528 : decode b_Law_law 528 = .ok (.aload_n 0, 1) := by decide +kernel
theorem d_Law_law_529 : decode b_Law_law 529 = .ok (.iload_n 3, 1) := by decide +kernel
theorem d_Law_law_530 : decode b_Law_law 530 = .ok (.iconst 2, 1) := by decide +kernel
theorem d_Law_law_531 : decode b_Law_law 531 = .ok (.iadd, 1) := by decide +kernel
theorem d_Law_law_532 : decode b_Law_law 532 = .ok (.iaload, 1) := by decide +kernel
theorem d_Law_law_533 : decode b_Law_law 533 = .ok (.aload_n 0, 1) := by decide +kernel
theorem d_Law_law_534 : decode b_Law_law 534 = .ok (.iload_n 3, 1) := by decide +kernel
theorem d_Law_law_535 : decode b_Law_law 535 = .ok (.iconst 3, 1) := by decide +kernel
theorem d_Law_law_536 : decode b_Law_law 536 = .ok (.iadd, 1) := by decide +kernel
theorem d_Law_law_537 : decode b_Law_law 537 = .ok (.iaload, 1) := by decide +kernel
theorem d_Law_law_538 : decode b_Law_law 538 = .ok (.invokevirtual 82, 3) := by decide +kernel
theorem d_Law_law_541 : decode b_Law_law 541 = .ok (.aload_n 2, 1) := by decide +kernel
theorem d_Law_law_542 : decode b_Law_law 542 = .ok (.aload_n 0, 1) := by decide +kernel
theorem d_Law_law_543 : decode b_Law_law 543 = .ok (.iload_n 3, 1) := by decide +kernel
theorem d_Law_law_544 : decode b_Law_law 544 = .ok (.iconst 1, 1) := by decide +kernel
theorem d_Law_law_545 : decode b_Law_law 545 = .ok (.iadd, 1) := by decide +kernel
theorem d_Law_law_546 : decode b_Law_law 546 = .ok (.iaload, 1) := by decide +kernel
theorem d_Law_law_547 : decode b_Law_law 547 = .ok (.aload_n 0, 1) := by decide +kernel
theorem d_Law_law_548 : decode b_Law_law 548 = .ok (.iload_n 3, 1) := by decide +kernel
theorem d_Law_law_549 : decode b_Law_law 549 = .ok (.iconst 2, 1) := by decide +kernel
theorem d_Law_law_550 : decode b_Law_law 550 = .ok (.iadd, 1) := by decide +kernel
theorem d_Law_law_551 : decode b_Law_law 551 = .ok (.iaload, 1) := by decide +kernel
theorem d_Law_law_552 : decode b_Law_law 552 = .ok (.aload_n 0, 1) := by decide +kernel
theorem d_Law_law_553 : decode b_Law_law 553 = .ok (.iload_n 3, 1) := by decide +kernel
theorem d_Law_law_554 : decode b_Law_law 554 = .ok (.iconst 3, 1) := by decide +kernel
theorem d_Law_law_555 : decode b_Law_law 555 = .ok (.iadd, 1) := by decide +kernel
theorem d_Law_law_556 : decode b_Law_law 556 = .ok (.iaload, 1) := by decide +kernel
theorem d_Law_law_557 : decode b_Law_law 557 = .ok (.invokevirtual 85, 3) := by decide +kernel
theorem d_Law_law_560 : decode b_Law_law 560 = .ok (.if_icmp .eq 58, 3) := by decide +kernel
theorem d_Law_law_563 : decode b_Law_law 563 = .ok (.iconst 0, 1) := by decide +kernel
theorem d_Law_law_564 : decode b_Law_law 564 = .ok (.ireturn, 1) := by decide +kernel
theorem d_Law_law_565 : decode b_Law_law 565 = .ok (.aload_n 1, 1) := by decide +kernel
theorem d_Law_law_566 : decode b_Law_law 566 = .ok (.aload_n 0, 1) := by decide +kernel
theorem d_Law_law_567 : decode b_Law_law 567 = .ok (.iload_n 3, 1) := by decide +kernel
theorem d_Law_law_568 : decode b_Law_law 568 = .ok (.iconst 1, 1) := by decide +kernel
theorem d_Law_law_569 : decode b_Law_law 569 = .ok (.iadd, 1) := by decide +kernel
theorem d_Law_law_570 : decode b_Law_law 570 = .ok (.iaload, 1) := by decide +kernel
theorem d_Law_law_571 : decode b_Law_law 571 = .ok (.aload_n 0, 1) := by decide +kernel
theorem d_Law_law_572 : decode b_Law_law 572 = .ok (.iload_n 3, 1) := by decide +kernel
theorem d_Law_law_573 : decode b_Law_law 573 = .ok (.iconst 2, 1) := by decide +kernel
theorem d_Law_law_574 : decode b_Law_law 574 = .ok (.iadd, 1) := by decide +kernel
theorem d_Law_law_575 : decode b_Law_law 575 = .ok (.iaload, 1) := by decide +kernel
theorem d_Law_law_576 : decode b_Law_law 576 = .ok (.aload_n 0, 1) := by decide +kernel
theorem d_Law_law_577 : decode b_Law_law 577 = .ok (.iload_n 3, 1) := by decide +kernel
theorem d_Law_law_578 : decode b_Law_law 578 = .ok (.iconst 3, 1) := by decide +kernel
theorem d_Law_law_579 : decode b_Law_law 579 = .ok (.iadd, 1) := by decide +kernel
theorem d_Law_law_580 : decode b_Law_law 580 = .ok (.iaload, 1) := by decide +kernel
theorem d_Law_law_581 : decode b_Law_law 581 = .ok (.aload_n 0, 1) := by decide +kernel
theorem d_Law_law_582 : decode b_Law_law 582 = .ok (.iload_n 3, 1) := by decide +kernel
theorem d_Law_law_583 : decode b_Law_law 583 = .ok (.iconst 4, 1) := by decide +kernel
theorem d_Law_law_584 : decode b_Law_law 584 = .ok (.iadd, 1) := by decide +kernel
theorem d_Law_law_585 : decode b_Law_law 585 = .ok (.iaload, 1) := by decide +kernel
theorem d_Law_law_586 : decode b_Law_law 586 = .ok (.invokevirtual 86, 3) := by decide +kernel
theorem d_Law_law_589 : decode b_Law_law 589 = .ok (.aload_n 2, 1) := by decide +kernel
theorem d_Law_law_590 : decode b_Law_law 590 = .ok (.aload_n 0, 1) := by decide +kernel
theorem d_Law_law_591 : decode b_Law_law 591 = .ok (.iload_n 3, 1) := by decide +kernel
theorem d_Law_law_592 : decode b_Law_law 592 = .ok (.iconst 1, 1) := by decide +kernel
theorem d_Law_law_593 : decode b_Law_law 593 = .ok (.iadd, 1) := by decide +kernel
theorem d_Law_law_594 : decode b_Law_law 594 = .ok (.iaload, 1) := by decide +kernel
theorem d_Law_law_595 : decode b_Law_law 595 = .ok (.aload_n 0, 1) := by decide +kernel
theorem d_Law_law_596 : decode b_Law_law 596 = .ok (.iload_n 3, 1) := by decide +kernel
theorem d_Law_law_597 : decode b_Law_law 597 = .ok (.iconst 2, 1) := by decide +kernel
theorem d_Law_law_598 : decode b_Law_law 598 = .ok (.iadd, 1) := by decide +kernel
theorem d_Law_law_599 : decode b_Law_law 599 = .ok (.iaload, 1) := by decide +kernel
theorem d_Law_law_600 : decode b_Law_law 600 = .ok (.aload_n 0, 1) := by decide +kernel
theorem d_Law_law_601 : decode b_Law_law 601 = .ok (.iload_n 3, 1) := by decide +kernel
theorem d_Law_law_602 : decode b_Law_law 602 = .ok (.iconst 3, 1) := by decide +kernel
theorem d_Law_law_603 : decode b_Law_law 603 = .ok (.iadd, 1) := by decide +kernel
theorem d_Law_law_604 : decode b_Law_law 604 = .ok (.iaload, 1) := by decide +kernel
theorem d_Law_law_605 : decode b_Law_law 605 = .ok (.aload_n 0, 1) := by decide +kernel
theorem d_Law_law_606 : decode b_Law_law 606 = .ok (.iload_n 3, 1) := by decide +kernel
theorem d_Law_law_607 : decode b_Law_law 607 = .ok (.iconst 4, 1) := by decide +kernel
theorem d_Law_law_608 : decode b_Law_law 608 = .ok (.iadd, 1) := by decide +kernel
theorem d_Law_law_609 : decode b_Law_law 609 = .ok (.iaload, 1) := by decide +kernel
theorem d_Law_law_610 : decode b_Law_law 610 = .ok (.invokevirtual 90, 3) := by decide +kernel
theorem d_Law_law_613 : decode b_Law_law 613 = .ok (.if_icmp .eq 5, 3) := by decide +kernel
theorem d_Law_law_616 : decode b_Law_law 616 = .ok (.iconst 0, 1) := by decide +kernel
theorem d_Law_law_617 : decode b_Law_law 617 = .ok (.ireturn, 1) := by decide +kernel
theorem d_Law_law_618 : decode b_Law_law 618 = .ok (.iinc 3 5, 3) := by decide +kernel
theorem d_Law_law_621 : decode b_Law_law 621 = .ok (.goto (-603), 3) := by decide +kernel
theorem d_Law_law_624 : decode b_Law_law 624 = .ok (.iconst 1, 1) := by decide +kernel
theorem d_Law_law_625 : decode b_Law_law 625 = .ok (.ireturn, 1) := by decide +kernel
end
section
def GG : List zm_Sh := [.inr (0, [some (.ref 1), some (.ref 7), some (.ref 14), some (.ref 19)]), .inr (1, [some (.ref 2), some (.ref 3), some (.ref 4), some (.ref 5), some (.ref 6)]), .inl (false, 12), .inl (false, 12), .inl (false, 12), .inl (false, 12), .inl (false, 144), .inr (2, [none, none, some (.ref 8), some (.ref 9), some (.ref 10), some (.ref 11), none, some (.ref 12), some (.ref 13), none]), .inl (false, 12), .inl (false, 12), .inl (false, 576), .inl (false, 12), .inl (false, 12), .inl (false, 48), .inr (3, [some (.ref 15), some (.ref 16), none, none, none]), .inl (false, 16), .inr (4, [some (.ref 17), none, some (.ref 18), none]), .inl (false, 1341), .inl (false, 73), .inr (5, [some (.ref 20), some (.ref 25), some (.ref 26), none, none]), .inr (6, [none, none, some (.ref 21), some (.ref 22), some (.ref 23), some (.ref 24)]), .inl (false, 12), .inl (false, 12), .inl (false, 12), .inl (false, 576), .inl (false, 6), .inl (false, 257), .inr (7, [some (.ref 28), some (.ref 29), some (.ref 30), some (.ref 31), some (.ref 32), none, none, some (.ref 33), some (.ref 34), some (.ref 35), none, some (.ref 36), some (.ref 37), some (.ref 38), some (.ref 39), some (.ref 40), some (.ref 41), none, none, none, none, some (.ref 42), none, none, some (.ref 43), some (.ref 44), some (.ref 45), some (.ref 46), some (.ref 47), none, none, some (.ref 48), some (.ref 49)]), .inl (false, 12), .inl (false, 12), .inl (false, 12), .inl (false, 12), .inl (false, 144), .inl (false, 12), .inl (false, 12), .inl (false, 576), .inl (false, 12), .inl (false, 12), .inl (false, 576), .inl (false, 12), .inl (false, 700), .inl (true, 700), .inl (false, 16), .inl (true, 12), .inl (false, 12), .inl (false, 12), .inl (true, 72), .inl (false, 576), .inl (false, 258), .inl (false, 6)]
theorem gg_0 : GG[0]? = some (.inr (0, [some (.ref 1), some (.ref 7), some (.ref 14), some (.ref 19)])) := rfl
theorem gg_1 : GG[1]? = some (.inr (1, [some (.ref 2), some (.ref 3), some (.ref 4), some (.ref 5), some (.ref 6)])) := rfl
theorem gg_2 : GG[2]? = some (.inl (false, 12)) := rfl
theorem gg_3 : GG[3]? = some (.inl (false, 12)) := rfl
theorem gg_4 : GG[4]? = some (.inl (false, 12)) := rfl
theorem gg_5 : GG[5]? = some (.inl (false, 12)) := rfl
theorem gg_6 : GG[6]? = some (.inl (false, 144)) := rfl
theorem gg_7 : GG[7]? = some (.inr (2, [none, none, some (.ref 8), some (.ref 9), some (.ref 10), some (.ref 11), none, some (.ref 12), some (.ref 13), none])) := rfl
theorem gg_8 : GG[8]? = some (.inl (false, 12)) := rfl
theorem gg_9 : GG[9]? = some (.inl (false, 12)) := rfl
theorem gg_10 : GG[10]? = some (.inl (false, 576)) := rfl
theorem gg_11 : GG[11]? = some (.inl (false, 12)) := rfl
theorem gg_12 : GG[12]? = some (.inl (false, 12)) := rfl
theorem gg_13 : GG[13]? = some (.inl (false, 48)) := rfl
theorem gg_14 : GG[14]? = some (.inr (3, [some (.ref 15), some (.ref 16), none, none, none])) := rfl
theorem gg_15 : GG[15]? = some (.inl (false, 16)) := rfl
theorem gg_16 : GG[16]? = some (.inr (4, [some (.ref 17), none, some (.ref 18), none])) := rfl
theorem gg_17 : GG[17]? = some (.inl (false, 1341)) := rfl
theorem gg_18 : GG[18]? = some (.inl (false, 73)) := rfl
theorem gg_19 : GG[19]? = some (.inr (5, [some (.ref 20), some (.ref 25), some (.ref 26), none, none])) := rfl
theorem gg_20 : GG[20]? = some (.inr (6, [none, none, some (.ref 21), some (.ref 22), some (.ref 23), some (.ref 24)])) := rfl
theorem gg_21 : GG[21]? = some (.inl (false, 12)) := rfl
theorem gg_22 : GG[22]? = some (.inl (false, 12)) := rfl
theorem gg_23 : GG[23]? = some (.inl (false, 12)) := rfl
theorem gg_24 : GG[24]? = some (.inl (false, 576)) := rfl
theorem gg_25 : GG[25]? = some (.inl (false, 6)) := rfl
theorem gg_26 : GG[26]? = some (.inl (false, 257)) := rfl
theorem gg_27 : GG[27]? = some (.inr (7, [some (.ref 28), some (.ref 29), some (.ref 30), some (.ref 31), some (.ref 32), none, none, some (.ref 33), some (.ref 34), some (.ref 35), none, some (.ref 36), some (.ref 37), some (.ref 38), some (.ref 39), some (.ref 40), some (.ref 41), none, none, none, none, some (.ref 42), none, none, some (.ref 43), some (.ref 44), some (.ref 45), some (.ref 46), some (.ref 47), none, none, some (.ref 48), some (.ref 49)])) := rfl
theorem gg_28 : GG[28]? = some (.inl (false, 12)) := rfl
theorem gg_29 : GG[29]? = some (.inl (false, 12)) := rfl
theorem gg_30 : GG[30]? = some (.inl (false, 12)) := rfl
theorem gg_31 : GG[31]? = some (.inl (false, 12)) := rfl
theorem gg_32 : GG[32]? = some (.inl (false, 144)) := rfl
theorem gg_33 : GG[33]? = some (.inl (false, 12)) := rfl
theorem gg_34 : GG[34]? = some (.inl (false, 12)) := rfl
theorem gg_35 : GG[35]? = some (.inl (false, 576)) := rfl
theorem gg_36 : GG[36]? = some (.inl (false, 12)) := rfl
theorem gg_37 : GG[37]? = some (.inl (false, 12)) := rfl
theorem gg_38 : GG[38]? = some (.inl (false, 576)) := rfl
theorem gg_39 : GG[39]? = some (.inl (false, 12)) := rfl
theorem gg_40 : GG[40]? = some (.inl (false, 700)) := rfl
theorem gg_41 : GG[41]? = some (.inl (true, 700)) := rfl
theorem gg_42 : GG[42]? = some (.inl (false, 16)) := rfl
theorem gg_43 : GG[43]? = some (.inl (true, 12)) := rfl
theorem gg_44 : GG[44]? = some (.inl (false, 12)) := rfl
theorem gg_45 : GG[45]? = some (.inl (false, 12)) := rfl
theorem gg_46 : GG[46]? = some (.inl (true, 72)) := rfl
theorem gg_47 : GG[47]? = some (.inl (false, 576)) := rfl
theorem gg_48 : GG[48]? = some (.inl (false, 258)) := rfl
theorem gg_49 : GG[49]? = some (.inl (false, 6)) := rfl
abbrev zw (M : zm_M) (d : Nat) (Q : zm_Q) (pc : Nat) (L : zm_L) (st : List Value) (S : zm_S) : Prop := zm_WP M none d 0 0 Q pc L st GG S 0 0
abbrev zc (M : zm_M) (d : Nat) (av : List Value) (S : zm_S) (Q : zm_Q) : Prop := zm_CC M d 0 0 av GG S Q
def M_CM_init : zm_M := (y_CM_init, (b_CM_init, 1), none)
def M_CM_make : zm_M := (y_CM_make, (b_CM_make, 5), (some .int))
def M_CM_remove : zm_M := (y_CM_remove, (b_CM_remove, 2), (some .int))
def M_CM_append : zm_M := (y_CM_append, (b_CM_append, 3), (some .int))
def M_CM_empty : zm_M := (y_CM_empty, (b_CM_empty, 2), (some .int))
def M_CM_publish : zm_M := (y_CM_publish, (b_CM_publish, 1), (some .int))
def M_CM_modules : zm_M := (y_CM_modules, (b_CM_modules, 1), (some .int))
def M_CM_module : zm_M := (y_CM_module, (b_CM_module, 2), (some .int))
def M_CM_peek : zm_M := (y_CM_peek, (b_CM_peek, 2), (some .int))
def M_CM_send : zm_M := (y_CM_send, (b_CM_send, 3), (some .int))
def M_CM_lose : zm_M := (y_CM_lose, (b_CM_lose, 3), (some .int))
def M_CM_spoil : zm_M := (y_CM_spoil, (b_CM_spoil, 3), (some .int))
def M_CM_retune : zm_M := (y_CM_retune, (b_CM_retune, 1), none)
def M_CM_count : zm_M := (y_CM_count, (b_CM_count, 2), (some .int))
def M_CM_transaction : zm_M := (y_CM_transaction, (b_CM_transaction, 2), (some .int))
def M_CM_held : zm_M := (y_CM_held, (b_CM_held, 3), (some .int))
def M_CM_kind : zm_M := (y_CM_kind, (b_CM_kind, 5), (some .int))
def M_CM_size : zm_M := (y_CM_size, (b_CM_size, 7), (some .int))
def M_CM_read : zm_M := (y_CM_read, (b_CM_read, 6), (some .int))
def M_CM_follow : zm_M := (y_CM_follow, (b_CM_follow, 6), (some .int))
def M_CM_isEntryKey : zm_M := (y_CM_isEntryKey, (b_CM_isEntryKey, 1), (some .boolean))
def M_CM_isByte : zm_M := (y_CM_isByte, (b_CM_isByte, 1), (some .boolean))
def M_CM_pairAt : zm_M := (y_CM_pairAt, (b_CM_pairAt, 2), (some .int))
def M_CM_checkOf : zm_M := (y_CM_checkOf, (b_CM_checkOf, 6), (some .int))
def M_CM_blocksIn : zm_M := (y_CM_blocksIn, (b_CM_blocksIn, 1), (some .int))
def M_CM_blockLength : zm_M := (y_CM_blockLength, (b_CM_blockLength, 3), (some .int))
def M_Md_init : zm_M := (y_Md_init, (b_Md_init, 1), none)
def M_Md_within : zm_M := (y_Md_within, (b_Md_within, 3), (some .boolean))
def M_Md_after : zm_M := (y_Md_after, (b_Md_after, 6), (some .int))
def M_Md_make : zm_M := (y_Md_make, (b_Md_make, 5), (some .int))
def M_Md_remove : zm_M := (y_Md_remove, (b_Md_remove, 2), (some .int))
def M_Md_append : zm_M := (y_Md_append, (b_Md_append, 3), (some .int))
def M_Md_empty : zm_M := (y_Md_empty, (b_Md_empty, 3), (some .int))
def M_Md_next : zm_M := (y_Md_next, (b_Md_next, 4), (some .int))
def M_Md_payload : zm_M := (y_Md_payload, (b_Md_payload, 4), (some .int))
def M_Md_put : zm_M := (y_Md_put, (b_Md_put, 3), none)
def M_Md_message : zm_M := (y_Md_message, (b_Md_message, 4), none)
def M_Md_keepOld : zm_M := (y_Md_keepOld, (b_Md_keepOld, 2), none)
def M_Md_unchanged : zm_M := (y_Md_unchanged, (b_Md_unchanged, 4), (some .boolean))
def M_Md_publish : zm_M := (y_Md_publish, (b_Md_publish, 4), (some .int))
def M_Md_mixed : zm_M := (y_Md_mixed, (b_Md_mixed, 5), (some .int))
def M_Md_emit : zm_M := (y_Md_emit, (b_Md_emit, 2), none)
def M_Md_emitPair : zm_M := (y_Md_emitPair, (b_Md_emitPair, 2), none)
def M_Md_emitCheck : zm_M := (y_Md_emitCheck, (b_Md_emitCheck, 2), none)
def M_Md_writeCycle : zm_M := (y_Md_writeCycle, (b_Md_writeCycle, 5), none)
def M_Md_modules : zm_M := (y_Md_modules, (b_Md_modules, 1), (some .int))
def M_Md_module : zm_M := (y_Md_module, (b_Md_module, 2), (some .int))
def M_Md_rest : zm_M := (y_Md_rest, (b_Md_rest, 2), (some .int))
def M_Md_build : zm_M := (y_Md_build, (b_Md_build, 9), (some .int))
def M_Md_sent : zm_M := (y_Md_sent, (b_Md_sent, 2), none)
def M_Md_peek : zm_M := (y_Md_peek, (b_Md_peek, 3), (some .int))
def M_Md_pass : zm_M := (y_Md_pass, (b_Md_pass, 4), (some .int))
def M_Md_send : zm_M := (y_Md_send, (b_Md_send, 2), (some .int))
def M_Md_lose : zm_M := (y_Md_lose, (b_Md_lose, 2), (some .int))
def M_Md_spoil : zm_M := (y_Md_spoil, (b_Md_spoil, 3), (some .int))
def M_Md_retune : zm_M := (y_Md_retune, (b_Md_retune, 2), none)
def M_Md_nothing : zm_M := (y_Md_nothing, (b_Md_nothing, 3), none)
def M_Md_throwAway : zm_M := (y_Md_throwAway, (b_Md_throwAway, 1), none)
def M_Md_receive : zm_M := (y_Md_receive, (b_Md_receive, 5), none)
def M_Md_more : zm_M := (y_Md_more, (b_Md_more, 4), none)
def M_Md_take : zm_M := (y_Md_take, (b_Md_take, 2), none)
def M_Md_pair : zm_M := (y_Md_pair, (b_Md_pair, 2), (some .int))
def M_Md_checks : zm_M := (y_Md_checks, (b_Md_checks, 4), (some .boolean))
def M_Md_isList : zm_M := (y_Md_isList, (b_Md_isList, 3), (some .boolean))
def M_Md_look : zm_M := (y_Md_look, (b_Md_look, 1), none)
def M_Md_list : zm_M := (y_Md_list, (b_Md_list, 6), none)
def M_Md_fits : zm_M := (y_Md_fits, (b_Md_fits, 3), (some .boolean))
def M_Md_block : zm_M := (y_Md_block, (b_Md_block, 3), none)
def M_Md_count : zm_M := (y_Md_count, (b_Md_count, 2), (some .int))
def M_Md_transaction : zm_M := (y_Md_transaction, (b_Md_transaction, 1), (some .int))
def M_Md_heldOf : zm_M := (y_Md_heldOf, (b_Md_heldOf, 4), (some .int))
def M_Md_held : zm_M := (y_Md_held, (b_Md_held, 2), (some .int))
def M_Md_ready : zm_M := (y_Md_ready, (b_Md_ready, 2), (some .int))
def M_Md_stands : zm_M := (y_Md_stands, (b_Md_stands, 4), (some .boolean))
def M_Md_first : zm_M := (y_Md_first, (b_Md_first, 4), (some .int))
def M_Md_gateway : zm_M := (y_Md_gateway, (b_Md_gateway, 3), (some .int))
def M_Md_enter : zm_M := (y_Md_enter, (b_Md_enter, 7), (some .int))
def M_Md_follow : zm_M := (y_Md_follow, (b_Md_follow, 5), (some .int))
def M_Md_kind : zm_M := (y_Md_kind, (b_Md_kind, 5), (some .int))
def M_Md_size : zm_M := (y_Md_size, (b_Md_size, 5), (some .int))
def M_Md_read : zm_M := (y_Md_read, (b_Md_read, 6), (some .int))
def M_Cy_init : zm_M := (y_Cy_init, (b_Cy_init, 1), none)
def M_Cy_renew : zm_M := (y_Cy_renew, (b_Cy_renew, 5), none)
def M_Cy_startFrom : zm_M := (y_Cy_startFrom, (b_Cy_startFrom, 3), (some .int))
def M_Cy_addList : zm_M := (y_Cy_addList, (b_Cy_addList, 3), none)
def M_Cy_addBlock : zm_M := (y_Cy_addBlock, (b_Cy_addBlock, 6), none)
def M_Cy_begin : zm_M := (y_Cy_begin, (b_Cy_begin, 3), none)
def M_Cy_writeCheck : zm_M := (y_Cy_writeCheck, (b_Cy_writeCheck, 2), none)
def M_Cy_writePair : zm_M := (y_Cy_writePair, (b_Cy_writePair, 2), none)
def M_Cy_write : zm_M := (y_Cy_write, (b_Cy_write, 2), none)
def M_Ed_init : zm_M := (y_Ed_init, (b_Ed_init, 1), none)
def M_Ed_byteAt : zm_M := (y_Ed_byteAt, (b_Ed_byteAt, 3), (some .int))
def M_Ed_renew : zm_M := (y_Ed_renew, (b_Ed_renew, 4), none)
def M_Ed_arrange : zm_M := (y_Ed_arrange, (b_Ed_arrange, 4), none)
def M_Ed_assignModules : zm_M := (y_Ed_assignModules, (b_Ed_assignModules, 6), (some .int))
def M_Ed_draftModule : zm_M := (y_Ed_draftModule, (b_Ed_draftModule, 4), none)
def M_Ed_draftMessage : zm_M := (y_Ed_draftMessage, (b_Ed_draftMessage, 4), none)
def M_Ed_draftEntries : zm_M := (y_Ed_draftEntries, (b_Ed_draftEntries, 5), none)
def M_Ed_write : zm_M := (y_Ed_write, (b_Ed_write, 2), none)
def M_Ed_keepDraft : zm_M := (y_Ed_keepDraft, (b_Ed_keepDraft, 2), none)
def M_Ed_draftEquals : zm_M := (y_Ed_draftEquals, (b_Ed_draftEquals, 3), (some .boolean))
def M_Mt_init : zm_M := (y_Mt_init, (b_Mt_init, 1), none)
def M_Mt_reset : zm_M := (y_Mt_reset, (b_Mt_reset, 2), none)
def M_Mt_relist : zm_M := (y_Mt_relist, (b_Mt_relist, 4), none)
def M_Mt_takeList : zm_M := (y_Mt_takeList, (b_Mt_takeList, 7), none)
def M_Mt_takeBlock : zm_M := (y_Mt_takeBlock, (b_Mt_takeBlock, 6), (some .boolean))
def M_Mt_isListed : zm_M := (y_Mt_isListed, (b_Mt_isListed, 2), (some .boolean))
def M_Mt_blocksHeld : zm_M := (y_Mt_blocksHeld, (b_Mt_blocksHeld, 2), (some .int))
def M_Mt_obstacle : zm_M := (y_Mt_obstacle, (b_Mt_obstacle, 2), (some .int))
def M_Mt_gateway : zm_M := (y_Mt_gateway, (b_Mt_gateway, 2), (some .int))
def M_Mt_enter : zm_M := (y_Mt_enter, (b_Mt_enter, 6), (some .int))
def M_Mt_messageWithKey : zm_M := (y_Mt_messageWithKey, (b_Mt_messageWithKey, 7), (some .int))
def M_Mt_fits : zm_M := (y_Mt_fits, (b_Mt_fits, 3), (some .boolean))
def M_Mt_isDirectoryAt : zm_M := (y_Mt_isDirectoryAt, (b_Mt_isDirectoryAt, 2), (some .boolean))
def M_Mt_kindAt : zm_M := (y_Mt_kindAt, (b_Mt_kindAt, 2), (some .int))
def M_Mt_lengthAt : zm_M := (y_Mt_lengthAt, (b_Mt_lengthAt, 2), (some .int))
def M_Mt_contentAt : zm_M := (y_Mt_contentAt, (b_Mt_contentAt, 3), (some .int))
def M_Rc_init : zm_M := (y_Rc_init, (b_Rc_init, 1), none)
def M_Rc_reset : zm_M := (y_Rc_reset, (b_Rc_reset, 1), none)
def M_Rc_takePacket : zm_M := (y_Rc_takePacket, (b_Rc_takePacket, 6), none)
def M_Rc_continueSection : zm_M := (y_Rc_continueSection, (b_Rc_continueSection, 5), none)
def M_Rc_beginSections : zm_M := (y_Rc_beginSections, (b_Rc_beginSections, 4), none)
def M_Rc_throwAway : zm_M := (y_Rc_throwAway, (b_Rc_throwAway, 1), none)
def M_Rc_collect : zm_M := (y_Rc_collect, (b_Rc_collect, 3), none)
def M_Rc_judge : zm_M := (y_Rc_judge, (b_Rc_judge, 2), (some .int))
def M_Rc_hasCheckDue : zm_M := (y_Rc_hasCheckDue, (b_Rc_hasCheckDue, 4), (some .boolean))
def M_Rc_isList : zm_M := (y_Rc_isList, (b_Rc_isList, 5), (some .boolean))
def M_Rc_isBlock : zm_M := (y_Rc_isBlock, (b_Rc_isBlock, 3), (some .boolean))
def M_Sn_init : zm_M := (y_Sn_init, (b_Sn_init, 1), none)
def M_Sn_isOnAir : zm_M := (y_Sn_isOnAir, (b_Sn_isOnAir, 1), (some .boolean))
def M_Sn_beginCycleOf : zm_M := (y_Sn_beginCycleOf, (b_Sn_beginCycleOf, 2), none)
def M_Sn_advance : zm_M := (y_Sn_advance, (b_Sn_advance, 1), none)
def M_Sn_prepare : zm_M := (y_Sn_prepare, (b_Sn_prepare, 4), none)
def M_Sn_load : zm_M := (y_Sn_load, (b_Sn_load, 5), none)
def M_Tree_init : zm_M := (y_Tree_init, (b_Tree_init, 1), none)
def M_Tree_isThere : zm_M := (y_Tree_isThere, (b_Tree_isThere, 2), (some .boolean))
def M_Tree_isDirectory : zm_M := (y_Tree_isDirectory, (b_Tree_isDirectory, 2), (some .boolean))
def M_Tree_isFile : zm_M := (y_Tree_isFile, (b_Tree_isFile, 2), (some .boolean))
def M_Tree_kindOf : zm_M := (y_Tree_kindOf, (b_Tree_kindOf, 2), (some .int))
def M_Tree_nameOf : zm_M := (y_Tree_nameOf, (b_Tree_nameOf, 2), (some .int))
def M_Tree_fileLength : zm_M := (y_Tree_fileLength, (b_Tree_fileLength, 2), (some .int))
def M_Tree_fileByte : zm_M := (y_Tree_fileByte, (b_Tree_fileByte, 3), (some .int))
def M_Tree_hasEntry : zm_M := (y_Tree_hasEntry, (b_Tree_hasEntry, 4), (some .boolean))
def M_Tree_entryCount : zm_M := (y_Tree_entryCount, (b_Tree_entryCount, 4), (some .int))
def M_Tree_leastFreeKey : zm_M := (y_Tree_leastFreeKey, (b_Tree_leastFreeKey, 2), (some .int))
def M_Tree_put : zm_M := (y_Tree_put, (b_Tree_put, 5), none)
def M_Tree_take : zm_M := (y_Tree_take, (b_Tree_take, 2), none)
def M_Tree_addByte : zm_M := (y_Tree_addByte, (b_Tree_addByte, 3), (some .int))
def M_Tree_clearFile : zm_M := (y_Tree_clearFile, (b_Tree_clearFile, 3), (some .int))
def M_Tree_messageLength : zm_M := (y_Tree_messageLength, (b_Tree_messageLength, 2), (some .int))
def M_Tree_entryAfter : zm_M := (y_Tree_entryAfter, (b_Tree_entryAfter, 6), (some .int))
def M_Tree_followerOf : zm_M := (y_Tree_followerOf, (b_Tree_followerOf, 5), (some .int))
def M_Arr_fill : zm_M := (y_Arr_fill, (b_Arr_fill, 4), none)
def M_Int_bitCount : zm_M := (y_Int_bitCount, (b_Int_bitCount, 1), (some .int))
def M_Law_law : zm_M := (y_Law_law, (b_Law_law, 4), some .boolean)
theorem ztn {w : Cond} (i : Nat) (h : tables_1[i]? = some w) : w ∈ lw_tbl := List.mem_append_right _ (List.mem_of_getElem? h)
theorem zt {w : Cond} (i : Nat) (h : tables_1[i]? = some w) (hg : goodWord w = true) : w ∈ zm_all := List.mem_filter.mpr ⟨ztn i h, hg⟩
theorem zs {y : MethodName} {n : Nat} (i : Nat) (h : lw_privs[i]? = some (y, n)) : Cond.selects y.cls y y ∈ zm_all := List.mem_filter.mpr ⟨List.mem_append_left _ (List.mem_map.mpr ⟨(y, n), List.mem_of_getElem? h, rfl⟩), rfl⟩
theorem ul_CM_0 : u_lay R_CM F_CM 0 ∈ zm_all := zt 190 (by decide +kernel) (by decide +kernel)
theorem ul_CM_1 : u_lay R_CM F_CM 1 ∈ zm_all := zt 192 (by decide +kernel) (by decide +kernel)
theorem ul_CM_2 : u_lay R_CM F_CM 2 ∈ zm_all := zt 194 (by decide +kernel) (by decide +kernel)
theorem ul_CM_3 : u_lay R_CM F_CM 3 ∈ zm_all := zt 196 (by decide +kernel) (by decide +kernel)
theorem uin_CM : ∀ w ∈ u_ws R_CM F_CM 4, w ∈ zm_all := by
  intro w hw
  obtain ⟨k, hk, rfl⟩ := List.mem_map.mp hw
  have hk := List.mem_range.mp hk
  match k, hk with
  | 0, _ => exact ul_CM_0
  | 1, _ => exact ul_CM_1
  | 2, _ => exact ul_CM_2
  | 3, _ => exact ul_CM_3
  | k + 4, hk => exact absurd hk (by omega)
theorem tw_CM : zm_tw F_CM 4 t_CM := ⟨to_CM, n_CM⟩
theorem ul_Tree_0 : u_lay R_Tree F_Tree 0 ∈ zm_all := zt 34 (by decide +kernel) (by decide +kernel)
theorem ul_Tree_1 : u_lay R_Tree F_Tree 1 ∈ zm_all := zt 36 (by decide +kernel) (by decide +kernel)
theorem ul_Tree_2 : u_lay R_Tree F_Tree 2 ∈ zm_all := zt 38 (by decide +kernel) (by decide +kernel)
theorem ul_Tree_3 : u_lay R_Tree F_Tree 3 ∈ zm_all := zt 40 (by decide +kernel) (by decide +kernel)
theorem ul_Tree_4 : u_lay R_Tree F_Tree 4 ∈ zm_all := zt 42 (by decide +kernel) (by decide +kernel)
theorem uin_Tree : ∀ w ∈ u_ws R_Tree F_Tree 5, w ∈ zm_all := by
  intro w hw
  obtain ⟨k, hk, rfl⟩ := List.mem_map.mp hw
  have hk := List.mem_range.mp hk
  match k, hk with
  | 0, _ => exact ul_Tree_0
  | 1, _ => exact ul_Tree_1
  | 2, _ => exact ul_Tree_2
  | 3, _ => exact ul_Tree_3
  | 4, _ => exact ul_Tree_4
  | k + 5, hk => exact absurd hk (by omega)
theorem tw_Tree : zm_tw F_Tree 5 t_Tree := ⟨to_Tree, n_Tree⟩
theorem ul_Ed_0 : u_lay R_Ed F_Ed 0 ∈ zm_all := zt 70 (by decide +kernel) (by decide +kernel)
theorem ul_Ed_1 : u_lay R_Ed F_Ed 1 ∈ zm_all := zt 72 (by decide +kernel) (by decide +kernel)
theorem ul_Ed_2 : u_lay R_Ed F_Ed 2 ∈ zm_all := zt 74 (by decide +kernel) (by decide +kernel)
theorem ul_Ed_3 : u_lay R_Ed F_Ed 3 ∈ zm_all := zt 76 (by decide +kernel) (by decide +kernel)
theorem ul_Ed_4 : u_lay R_Ed F_Ed 4 ∈ zm_all := zt 78 (by decide +kernel) (by decide +kernel)
theorem ul_Ed_5 : u_lay R_Ed F_Ed 5 ∈ zm_all := zt 80 (by decide +kernel) (by decide +kernel)
theorem ul_Ed_6 : u_lay R_Ed F_Ed 6 ∈ zm_all := zt 82 (by decide +kernel) (by decide +kernel)
theorem ul_Ed_7 : u_lay R_Ed F_Ed 7 ∈ zm_all := zt 84 (by decide +kernel) (by decide +kernel)
theorem ul_Ed_8 : u_lay R_Ed F_Ed 8 ∈ zm_all := zt 86 (by decide +kernel) (by decide +kernel)
theorem ul_Ed_9 : u_lay R_Ed F_Ed 9 ∈ zm_all := zt 88 (by decide +kernel) (by decide +kernel)
theorem uin_Ed : ∀ w ∈ u_ws R_Ed F_Ed 10, w ∈ zm_all := by
  intro w hw
  obtain ⟨k, hk, rfl⟩ := List.mem_map.mp hw
  have hk := List.mem_range.mp hk
  match k, hk with
  | 0, _ => exact ul_Ed_0
  | 1, _ => exact ul_Ed_1
  | 2, _ => exact ul_Ed_2
  | 3, _ => exact ul_Ed_3
  | 4, _ => exact ul_Ed_4
  | 5, _ => exact ul_Ed_5
  | 6, _ => exact ul_Ed_6
  | 7, _ => exact ul_Ed_7
  | 8, _ => exact ul_Ed_8
  | 9, _ => exact ul_Ed_9
  | k + 10, hk => exact absurd hk (by omega)
theorem tw_Ed : zm_tw F_Ed 10 t_Ed := ⟨to_Ed, n_Ed⟩
theorem ul_Sn_0 : u_lay R_Sn F_Sn 0 ∈ zm_all := zt 124 (by decide +kernel) (by decide +kernel)
theorem ul_Sn_1 : u_lay R_Sn F_Sn 1 ∈ zm_all := zt 126 (by decide +kernel) (by decide +kernel)
theorem ul_Sn_2 : u_lay R_Sn F_Sn 2 ∈ zm_all := zt 128 (by decide +kernel) (by decide +kernel)
theorem ul_Sn_3 : u_lay R_Sn F_Sn 3 ∈ zm_all := zt 130 (by decide +kernel) (by decide +kernel)
theorem ul_Sn_4 : u_lay R_Sn F_Sn 4 ∈ zm_all := zt 132 (by decide +kernel) (by decide +kernel)
theorem uin_Sn : ∀ w ∈ u_ws R_Sn F_Sn 5, w ∈ zm_all := by
  intro w hw
  obtain ⟨k, hk, rfl⟩ := List.mem_map.mp hw
  have hk := List.mem_range.mp hk
  match k, hk with
  | 0, _ => exact ul_Sn_0
  | 1, _ => exact ul_Sn_1
  | 2, _ => exact ul_Sn_2
  | 3, _ => exact ul_Sn_3
  | 4, _ => exact ul_Sn_4
  | k + 5, hk => exact absurd hk (by omega)
theorem tw_Sn : zm_tw F_Sn 5 t_Sn := ⟨to_Sn, n_Sn⟩
theorem ul_Cy_0 : u_lay R_Cy F_Cy 0 ∈ zm_all := zt 109 (by decide +kernel) (by decide +kernel)
theorem ul_Cy_1 : u_lay R_Cy F_Cy 1 ∈ zm_all := zt 111 (by decide +kernel) (by decide +kernel)
theorem ul_Cy_2 : u_lay R_Cy F_Cy 2 ∈ zm_all := zt 113 (by decide +kernel) (by decide +kernel)
theorem ul_Cy_3 : u_lay R_Cy F_Cy 3 ∈ zm_all := zt 115 (by decide +kernel) (by decide +kernel)
theorem uin_Cy : ∀ w ∈ u_ws R_Cy F_Cy 4, w ∈ zm_all := by
  intro w hw
  obtain ⟨k, hk, rfl⟩ := List.mem_map.mp hw
  have hk := List.mem_range.mp hk
  match k, hk with
  | 0, _ => exact ul_Cy_0
  | 1, _ => exact ul_Cy_1
  | 2, _ => exact ul_Cy_2
  | 3, _ => exact ul_Cy_3
  | k + 4, hk => exact absurd hk (by omega)
theorem tw_Cy : zm_tw F_Cy 4 t_Cy := ⟨to_Cy, n_Cy⟩
theorem ul_Rc_0 : u_lay R_Rc F_Rc 0 ∈ zm_all := zt 175 (by decide +kernel) (by decide +kernel)
theorem ul_Rc_1 : u_lay R_Rc F_Rc 1 ∈ zm_all := zt 177 (by decide +kernel) (by decide +kernel)
theorem ul_Rc_2 : u_lay R_Rc F_Rc 2 ∈ zm_all := zt 179 (by decide +kernel) (by decide +kernel)
theorem ul_Rc_3 : u_lay R_Rc F_Rc 3 ∈ zm_all := zt 181 (by decide +kernel) (by decide +kernel)
theorem ul_Rc_4 : u_lay R_Rc F_Rc 4 ∈ zm_all := zt 183 (by decide +kernel) (by decide +kernel)
theorem uin_Rc : ∀ w ∈ u_ws R_Rc F_Rc 5, w ∈ zm_all := by
  intro w hw
  obtain ⟨k, hk, rfl⟩ := List.mem_map.mp hw
  have hk := List.mem_range.mp hk
  match k, hk with
  | 0, _ => exact ul_Rc_0
  | 1, _ => exact ul_Rc_1
  | 2, _ => exact ul_Rc_2
  | 3, _ => exact ul_Rc_3
  | 4, _ => exact ul_Rc_4
  | k + 5, hk => exact absurd hk (by omega)
theorem tw_Rc : zm_tw F_Rc 5 t_Rc := ⟨to_Rc, n_Rc⟩
theorem ul_Mt_0 : u_lay R_Mt F_Mt 0 ∈ zm_all := zt 155 (by decide +kernel) (by decide +kernel)
theorem ul_Mt_1 : u_lay R_Mt F_Mt 1 ∈ zm_all := zt 157 (by decide +kernel) (by decide +kernel)
theorem ul_Mt_2 : u_lay R_Mt F_Mt 2 ∈ zm_all := zt 159 (by decide +kernel) (by decide +kernel)
theorem ul_Mt_3 : u_lay R_Mt F_Mt 3 ∈ zm_all := zt 161 (by decide +kernel) (by decide +kernel)
theorem ul_Mt_4 : u_lay R_Mt F_Mt 4 ∈ zm_all := zt 163 (by decide +kernel) (by decide +kernel)
theorem ul_Mt_5 : u_lay R_Mt F_Mt 5 ∈ zm_all := zt 165 (by decide +kernel) (by decide +kernel)
theorem uin_Mt : ∀ w ∈ u_ws R_Mt F_Mt 6, w ∈ zm_all := by
  intro w hw
  obtain ⟨k, hk, rfl⟩ := List.mem_map.mp hw
  have hk := List.mem_range.mp hk
  match k, hk with
  | 0, _ => exact ul_Mt_0
  | 1, _ => exact ul_Mt_1
  | 2, _ => exact ul_Mt_2
  | 3, _ => exact ul_Mt_3
  | 4, _ => exact ul_Mt_4
  | 5, _ => exact ul_Mt_5
  | k + 6, hk => exact absurd hk (by omega)
theorem tw_Mt : zm_tw F_Mt 6 t_Mt := ⟨to_Mt, n_Mt⟩
theorem ul_Md_0 : u_lay R_Md F_Md 0 ∈ zm_all := zt 621 (by decide +kernel) (by decide +kernel)
theorem ul_Md_1 : u_lay R_Md F_Md 1 ∈ zm_all := zt 623 (by decide +kernel) (by decide +kernel)
theorem ul_Md_2 : u_lay R_Md F_Md 2 ∈ zm_all := zt 625 (by decide +kernel) (by decide +kernel)
theorem ul_Md_3 : u_lay R_Md F_Md 3 ∈ zm_all := zt 627 (by decide +kernel) (by decide +kernel)
theorem ul_Md_4 : u_lay R_Md F_Md 4 ∈ zm_all := zt 629 (by decide +kernel) (by decide +kernel)
theorem ul_Md_5 : u_lay R_Md F_Md 5 ∈ zm_all := zt 631 (by decide +kernel) (by decide +kernel)
theorem ul_Md_6 : u_lay R_Md F_Md 6 ∈ zm_all := zt 633 (by decide +kernel) (by decide +kernel)
theorem ul_Md_7 : u_lay R_Md F_Md 7 ∈ zm_all := zt 635 (by decide +kernel) (by decide +kernel)
theorem ul_Md_8 : u_lay R_Md F_Md 8 ∈ zm_all := zt 637 (by decide +kernel) (by decide +kernel)
theorem ul_Md_9 : u_lay R_Md F_Md 9 ∈ zm_all := zt 639 (by decide +kernel) (by decide +kernel)
theorem ul_Md_10 : u_lay R_Md F_Md 10 ∈ zm_all := zt 641 (by decide +kernel) (by decide +kernel)
theorem ul_Md_11 : u_lay R_Md F_Md 11 ∈ zm_all := zt 643 (by decide +kernel) (by decide +kernel)
theorem ul_Md_12 : u_lay R_Md F_Md 12 ∈ zm_all := zt 645 (by decide +kernel) (by decide +kernel)
theorem ul_Md_13 : u_lay R_Md F_Md 13 ∈ zm_all := zt 647 (by decide +kernel) (by decide +kernel)
theorem ul_Md_14 : u_lay R_Md F_Md 14 ∈ zm_all := zt 649 (by decide +kernel) (by decide +kernel)
theorem ul_Md_15 : u_lay R_Md F_Md 15 ∈ zm_all := zt 651 (by decide +kernel) (by decide +kernel)
theorem ul_Md_16 : u_lay R_Md F_Md 16 ∈ zm_all := zt 653 (by decide +kernel) (by decide +kernel)
theorem ul_Md_17 : u_lay R_Md F_Md 17 ∈ zm_all := zt 655 (by decide +kernel) (by decide +kernel)
theorem ul_Md_18 : u_lay R_Md F_Md 18 ∈ zm_all := zt 657 (by decide +kernel) (by decide +kernel)
theorem ul_Md_19 : u_lay R_Md F_Md 19 ∈ zm_all := zt 659 (by decide +kernel) (by decide +kernel)
theorem ul_Md_20 : u_lay R_Md F_Md 20 ∈ zm_all := zt 661 (by decide +kernel) (by decide +kernel)
theorem ul_Md_21 : u_lay R_Md F_Md 21 ∈ zm_all := zt 663 (by decide +kernel) (by decide +kernel)
theorem ul_Md_22 : u_lay R_Md F_Md 22 ∈ zm_all := zt 665 (by decide +kernel) (by decide +kernel)
theorem ul_Md_23 : u_lay R_Md F_Md 23 ∈ zm_all := zt 667 (by decide +kernel) (by decide +kernel)
theorem ul_Md_24 : u_lay R_Md F_Md 24 ∈ zm_all := zt 669 (by decide +kernel) (by decide +kernel)
theorem ul_Md_25 : u_lay R_Md F_Md 25 ∈ zm_all := zt 671 (by decide +kernel) (by decide +kernel)
theorem ul_Md_26 : u_lay R_Md F_Md 26 ∈ zm_all := zt 673 (by decide +kernel) (by decide +kernel)
theorem ul_Md_27 : u_lay R_Md F_Md 27 ∈ zm_all := zt 675 (by decide +kernel) (by decide +kernel)
theorem ul_Md_28 : u_lay R_Md F_Md 28 ∈ zm_all := zt 677 (by decide +kernel) (by decide +kernel)
theorem ul_Md_29 : u_lay R_Md F_Md 29 ∈ zm_all := zt 679 (by decide +kernel) (by decide +kernel)
theorem ul_Md_30 : u_lay R_Md F_Md 30 ∈ zm_all := zt 681 (by decide +kernel) (by decide +kernel)
theorem ul_Md_31 : u_lay R_Md F_Md 31 ∈ zm_all := zt 683 (by decide +kernel) (by decide +kernel)
theorem ul_Md_32 : u_lay R_Md F_Md 32 ∈ zm_all := zt 685 (by decide +kernel) (by decide +kernel)
theorem uin_Md : ∀ w ∈ u_ws R_Md F_Md 33, w ∈ zm_all := by
  intro w hw
  obtain ⟨k, hk, rfl⟩ := List.mem_map.mp hw
  have hk := List.mem_range.mp hk
  match k, hk with
  | 0, _ => exact ul_Md_0
  | 1, _ => exact ul_Md_1
  | 2, _ => exact ul_Md_2
  | 3, _ => exact ul_Md_3
  | 4, _ => exact ul_Md_4
  | 5, _ => exact ul_Md_5
  | 6, _ => exact ul_Md_6
  | 7, _ => exact ul_Md_7
  | 8, _ => exact ul_Md_8
  | 9, _ => exact ul_Md_9
  | 10, _ => exact ul_Md_10
  | 11, _ => exact ul_Md_11
  | 12, _ => exact ul_Md_12
  | 13, _ => exact ul_Md_13
  | 14, _ => exact ul_Md_14
  | 15, _ => exact ul_Md_15
  | 16, _ => exact ul_Md_16
  | 17, _ => exact ul_Md_17
  | 18, _ => exact ul_Md_18
  | 19, _ => exact ul_Md_19
  | 20, _ => exact ul_Md_20
  | 21, _ => exact ul_Md_21
  | 22, _ => exact ul_Md_22
  | 23, _ => exact ul_Md_23
  | 24, _ => exact ul_Md_24
  | 25, _ => exact ul_Md_25
  | 26, _ => exact ul_Md_26
  | 27, _ => exact ul_Md_27
  | 28, _ => exact ul_Md_28
  | 29, _ => exact ul_Md_29
  | 30, _ => exact ul_Md_30
  | 31, _ => exact ul_Md_31
  | 32, _ => exact ul_Md_32
  | k + 33, hk => exact absurd hk (by omega)
theorem tw_Md : zm_tw F_Md 33 t_Md := ⟨to_Md, n_Md⟩
theorem oi_CM_1 : Cond.methodLink R_CM 1 Lib.objectInit ∈ zm_all ∧ Cond.instanceMethod Lib.objectInit ∈ zm_all ∧ Cond.code Lib.objectInit ⟨#[0xb1]⟩ 1 none ∈ zm_all := ⟨(zt 17 (by decide +kernel) rfl), (zt 18 (by decide +kernel) rfl), zt 19 rfl rfl⟩
theorem nw_CM_7 : Cond.classLink R_CM 7 R_Tree ∈ zm_all ∧ Cond.instantiable R_Tree 5 ∈ zm_all ∧ Cond.initialized R_Tree ∈ zm_all := ⟨(zt 20 (by decide +kernel) rfl), (zt 21 (by decide +kernel) rfl), (zt 2 (by decide +kernel) rfl)⟩
theorem w_CM_9 : zm_cw R_CM 9 M_Tree_init 0 := ⟨(zt 24 (by decide +kernel) rfl), (zt 2 (by decide +kernel) rfl), ⟨by decide, by decide, by decide +kernel⟩, by decide, Or.inl (zt 22 (by decide +kernel) rfl)⟩
theorem w_CM_9k : Cond.instanceMethod M_Tree_init.1 ∈ zm_all := (zt 23 (by decide +kernel) rfl)
theorem f_CM_10 : zm_fw R_CM 10 0 0 R_CM F_CM 4 := ⟨rfl, by decide, uin_CM, Or.inl (zt 186 (by decide +kernel) rfl)⟩
theorem fl_CM_10 : Cond.fieldLink R_CM 10 (F_CM 0).1 (F_CM 0).2.1 (F_CM 0).2.2.1 ∈ zm_all := (zt 186 (by decide +kernel) rfl)
theorem nw_CM_16 : Cond.classLink R_CM 16 R_Ed ∈ zm_all ∧ Cond.instantiable R_Ed 10 ∈ zm_all ∧ Cond.initialized R_Ed ∈ zm_all := ⟨(zt 46 (by decide +kernel) rfl), (zt 47 (by decide +kernel) rfl), (zt 4 (by decide +kernel) rfl)⟩
theorem w_CM_18 : zm_cw R_CM 18 M_Ed_init 0 := ⟨(zt 50 (by decide +kernel) rfl), (zt 4 (by decide +kernel) rfl), ⟨by decide, by decide, by decide +kernel⟩, by decide, Or.inr ⟨_, ztn (w := Cond.methodLinkNest R_CM 18 y_Ed_init "CarouselMount") 48 (by decide +kernel)⟩⟩
theorem w_CM_18k : Cond.instanceMethod M_Ed_init.1 ∈ zm_all := (zt 49 (by decide +kernel) rfl)
theorem f_CM_19 : zm_fw R_CM 19 0 1 R_CM F_CM 4 := ⟨rfl, by decide, uin_CM, Or.inl (zt 187 (by decide +kernel) rfl)⟩
theorem fl_CM_19 : Cond.fieldLink R_CM 19 (F_CM 1).1 (F_CM 1).2.1 (F_CM 1).2.2.1 ∈ zm_all := (zt 187 (by decide +kernel) rfl)
theorem nw_CM_23 : Cond.classLink R_CM 23 R_Sn ∈ zm_all ∧ Cond.instantiable R_Sn 5 ∈ zm_all ∧ Cond.initialized R_Sn ∈ zm_all := ⟨(zt 91 (by decide +kernel) rfl), (zt 92 (by decide +kernel) rfl), (zt 5 (by decide +kernel) rfl)⟩
theorem w_CM_25 : zm_cw R_CM 25 M_Sn_init 0 := ⟨(zt 95 (by decide +kernel) rfl), (zt 5 (by decide +kernel) rfl), ⟨by decide, by decide, by decide +kernel⟩, by decide, Or.inr ⟨_, ztn (w := Cond.methodLinkNest R_CM 25 y_Sn_init "CarouselMount") 93 (by decide +kernel)⟩⟩
theorem w_CM_25k : Cond.instanceMethod M_Sn_init.1 ∈ zm_all := (zt 94 (by decide +kernel) rfl)
theorem f_CM_26 : zm_fw R_CM 26 0 2 R_CM F_CM 4 := ⟨rfl, by decide, uin_CM, Or.inl (zt 188 (by decide +kernel) rfl)⟩
theorem fl_CM_26 : Cond.fieldLink R_CM 26 (F_CM 2).1 (F_CM 2).2.1 (F_CM 2).2.2.1 ∈ zm_all := (zt 188 (by decide +kernel) rfl)
theorem nw_CM_30 : Cond.classLink R_CM 30 R_Rc ∈ zm_all ∧ Cond.instantiable R_Rc 5 ∈ zm_all ∧ Cond.initialized R_Rc ∈ zm_all := ⟨(zt 135 (by decide +kernel) rfl), (zt 136 (by decide +kernel) rfl), (zt 7 (by decide +kernel) rfl)⟩
theorem w_CM_32 : zm_cw R_CM 32 M_Rc_init 0 := ⟨(zt 139 (by decide +kernel) rfl), (zt 7 (by decide +kernel) rfl), ⟨by decide, by decide, by decide +kernel⟩, by decide, Or.inr ⟨_, ztn (w := Cond.methodLinkNest R_CM 32 y_Rc_init "CarouselMount") 137 (by decide +kernel)⟩⟩
theorem w_CM_32k : Cond.instanceMethod M_Rc_init.1 ∈ zm_all := (zt 138 (by decide +kernel) rfl)
theorem f_CM_33 : zm_fw R_CM 33 0 3 R_CM F_CM 4 := ⟨rfl, by decide, uin_CM, Or.inl (zt 189 (by decide +kernel) rfl)⟩
theorem fl_CM_33 : Cond.fieldLink R_CM 33 (F_CM 3).1 (F_CM 3).2.1 (F_CM 3).2.2.1 ∈ zm_all := (zt 189 (by decide +kernel) rfl)
theorem w_CM_37 : zm_cw R_CM 37 M_Tree_isDirectory 1 := ⟨(zt 206 (by decide +kernel) rfl), (zt 2 (by decide +kernel) rfl), ⟨by decide, by decide, by decide +kernel⟩, by decide, Or.inl (zt 203 (by decide +kernel) rfl)⟩
theorem w_CM_37k : Cond.instanceMethod M_Tree_isDirectory.1 ∈ zm_all ∧ Cond.selects M_Tree_isDirectory.1.cls M_Tree_isDirectory.1 M_Tree_isDirectory.1 ∈ zm_all := ⟨(zt 204 (by decide +kernel) rfl), (zt 205 (by decide +kernel) rfl)⟩
theorem w_CM_41 : zm_cw R_CM 41 M_Tree_hasEntry 2 := ⟨(zt 210 (by decide +kernel) rfl), (zt 2 (by decide +kernel) rfl), ⟨by decide, by decide, by decide +kernel⟩, by decide, Or.inl (zt 207 (by decide +kernel) rfl)⟩
theorem w_CM_41k : Cond.instanceMethod M_Tree_hasEntry.1 ∈ zm_all ∧ Cond.selects M_Tree_hasEntry.1.cls M_Tree_hasEntry.1 M_Tree_hasEntry.1 ∈ zm_all := ⟨(zt 208 (by decide +kernel) rfl), (zt 209 (by decide +kernel) rfl)⟩
theorem w_CM_45 : zm_cw R_CM 45 M_Tree_leastFreeKey 0 := ⟨(zt 214 (by decide +kernel) rfl), (zt 2 (by decide +kernel) rfl), ⟨by decide, by decide, by decide +kernel⟩, by decide, Or.inl (zt 211 (by decide +kernel) rfl)⟩
theorem w_CM_45k : Cond.instanceMethod M_Tree_leastFreeKey.1 ∈ zm_all ∧ Cond.selects M_Tree_leastFreeKey.1.cls M_Tree_leastFreeKey.1 M_Tree_leastFreeKey.1 ∈ zm_all := ⟨(zt 212 (by decide +kernel) rfl), (zt 213 (by decide +kernel) rfl)⟩
theorem w_CM_49 : zm_cw R_CM 49 M_Tree_put 4 := ⟨(zt 222 (by decide +kernel) rfl), (zt 2 (by decide +kernel) rfl), ⟨by decide, by decide, by decide +kernel⟩, by decide, Or.inl (zt 219 (by decide +kernel) rfl)⟩
theorem w_CM_49k : Cond.instanceMethod M_Tree_put.1 ∈ zm_all ∧ Cond.selects M_Tree_put.1.cls M_Tree_put.1 M_Tree_put.1 ∈ zm_all := ⟨(zt 220 (by decide +kernel) rfl), (zt 221 (by decide +kernel) rfl)⟩
theorem w_CM_53 : zm_cw R_CM 53 M_CM_isEntryKey 1 := ⟨(zt 229 (by decide +kernel) rfl), (zt 1 (by decide +kernel) rfl), ⟨by decide, by decide, by decide +kernel⟩, by decide, Or.inl (zt 227 (by decide +kernel) rfl)⟩
theorem w_CM_53k : Cond.static M_CM_isEntryKey.1 ∈ zm_all := (zt 228 (by decide +kernel) rfl)
theorem w_CM_56 : zm_cw R_CM 56 M_Tree_isThere 1 := ⟨(zt 218 (by decide +kernel) rfl), (zt 2 (by decide +kernel) rfl), ⟨by decide, by decide, by decide +kernel⟩, by decide, Or.inl (zt 230 (by decide +kernel) rfl)⟩
theorem w_CM_56k : Cond.instanceMethod M_Tree_isThere.1 ∈ zm_all ∧ Cond.selects M_Tree_isThere.1.cls M_Tree_isThere.1 M_Tree_isThere.1 ∈ zm_all := ⟨(zt 216 (by decide +kernel) rfl), (zt 217 (by decide +kernel) rfl)⟩
theorem w_CM_59 : zm_cw R_CM 59 M_Tree_entryCount 1 := ⟨(zt 234 (by decide +kernel) rfl), (zt 2 (by decide +kernel) rfl), ⟨by decide, by decide, by decide +kernel⟩, by decide, Or.inl (zt 231 (by decide +kernel) rfl)⟩
theorem w_CM_59k : Cond.instanceMethod M_Tree_entryCount.1 ∈ zm_all ∧ Cond.selects M_Tree_entryCount.1.cls M_Tree_entryCount.1 M_Tree_entryCount.1 ∈ zm_all := ⟨(zt 232 (by decide +kernel) rfl), (zt 233 (by decide +kernel) rfl)⟩
theorem w_CM_63 : zm_cw R_CM 63 M_Tree_take 1 := ⟨(zt 238 (by decide +kernel) rfl), (zt 2 (by decide +kernel) rfl), ⟨by decide, by decide, by decide +kernel⟩, by decide, Or.inl (zt 235 (by decide +kernel) rfl)⟩
theorem w_CM_63k : Cond.instanceMethod M_Tree_take.1 ∈ zm_all ∧ Cond.selects M_Tree_take.1.cls M_Tree_take.1 M_Tree_take.1 ∈ zm_all := ⟨(zt 236 (by decide +kernel) rfl), (zt 237 (by decide +kernel) rfl)⟩
theorem w_CM_67 : zm_cw R_CM 67 M_CM_isByte 1 := ⟨(zt 245 (by decide +kernel) rfl), (zt 1 (by decide +kernel) rfl), ⟨by decide, by decide, by decide +kernel⟩, by decide, Or.inl (zt 243 (by decide +kernel) rfl)⟩
theorem w_CM_67k : Cond.static M_CM_isByte.1 ∈ zm_all := (zt 244 (by decide +kernel) rfl)
theorem w_CM_70 : zm_cw R_CM 70 M_Tree_isFile 1 := ⟨(zt 249 (by decide +kernel) rfl), (zt 2 (by decide +kernel) rfl), ⟨by decide, by decide, by decide +kernel⟩, by decide, Or.inl (zt 246 (by decide +kernel) rfl)⟩
theorem w_CM_70k : Cond.instanceMethod M_Tree_isFile.1 ∈ zm_all ∧ Cond.selects M_Tree_isFile.1.cls M_Tree_isFile.1 M_Tree_isFile.1 ∈ zm_all := ⟨(zt 247 (by decide +kernel) rfl), (zt 248 (by decide +kernel) rfl)⟩
theorem w_CM_73 : zm_cw R_CM 73 M_Tree_fileLength 1 := ⟨(zt 253 (by decide +kernel) rfl), (zt 2 (by decide +kernel) rfl), ⟨by decide, by decide, by decide +kernel⟩, by decide, Or.inl (zt 250 (by decide +kernel) rfl)⟩
theorem w_CM_73k : Cond.instanceMethod M_Tree_fileLength.1 ∈ zm_all ∧ Cond.selects M_Tree_fileLength.1.cls M_Tree_fileLength.1 M_Tree_fileLength.1 ∈ zm_all := ⟨(zt 251 (by decide +kernel) rfl), (zt 252 (by decide +kernel) rfl)⟩
theorem w_CM_76 : zm_cw R_CM 76 M_Tree_addByte 2 := ⟨(zt 257 (by decide +kernel) rfl), (zt 2 (by decide +kernel) rfl), ⟨by decide, by decide, by decide +kernel⟩, by decide, Or.inl (zt 254 (by decide +kernel) rfl)⟩
theorem w_CM_76k : Cond.instanceMethod M_Tree_addByte.1 ∈ zm_all ∧ Cond.selects M_Tree_addByte.1.cls M_Tree_addByte.1 M_Tree_addByte.1 ∈ zm_all := ⟨(zt 255 (by decide +kernel) rfl), (zt 256 (by decide +kernel) rfl)⟩
theorem w_CM_80 : zm_cw R_CM 80 M_Tree_clearFile 1 := ⟨(zt 265 (by decide +kernel) rfl), (zt 2 (by decide +kernel) rfl), ⟨by decide, by decide, by decide +kernel⟩, by decide, Or.inl (zt 262 (by decide +kernel) rfl)⟩
theorem w_CM_80k : Cond.instanceMethod M_Tree_clearFile.1 ∈ zm_all ∧ Cond.selects M_Tree_clearFile.1.cls M_Tree_clearFile.1 M_Tree_clearFile.1 ∈ zm_all := ⟨(zt 263 (by decide +kernel) rfl), (zt 264 (by decide +kernel) rfl)⟩
theorem w_CM_83 : zm_cw R_CM 83 M_Ed_renew 1 := ⟨(zt 273 (by decide +kernel) rfl), (zt 4 (by decide +kernel) rfl), ⟨by decide, by decide, by decide +kernel⟩, by decide, Or.inl (zt 270 (by decide +kernel) rfl)⟩
theorem w_CM_83k : Cond.instanceMethod M_Ed_renew.1 ∈ zm_all ∧ Cond.selects M_Ed_renew.1.cls M_Ed_renew.1 M_Ed_renew.1 ∈ zm_all := ⟨(zt 271 (by decide +kernel) rfl), (zt 272 (by decide +kernel) rfl)⟩
theorem w_CM_87 : zm_cw R_CM 87 M_Sn_beginCycleOf 1 := ⟨(zt 345 (by decide +kernel) rfl), (zt 5 (by decide +kernel) rfl), ⟨by decide, by decide, by decide +kernel⟩, by decide, Or.inl (zt 342 (by decide +kernel) rfl)⟩
theorem w_CM_87k : Cond.instanceMethod M_Sn_beginCycleOf.1 ∈ zm_all ∧ Cond.selects M_Sn_beginCycleOf.1.cls M_Sn_beginCycleOf.1 M_Sn_beginCycleOf.1 ∈ zm_all := ⟨(zt 343 (by decide +kernel) rfl), (zt 344 (by decide +kernel) rfl)⟩
theorem f_CM_91 : zm_fw R_CM 91 2 0 R_Ed F_Ed 10 := ⟨rfl, by decide, uin_Ed, Or.inl (zt 54 (by decide +kernel) rfl)⟩
theorem fl_CM_91 : Cond.fieldLink R_CM 91 (F_Ed 0).1 (F_Ed 0).2.1 (F_Ed 0).2.2.1 ∈ zm_all := (zt 54 (by decide +kernel) rfl)
theorem f_CM_95 : zm_fw R_CM 95 2 1 R_Ed F_Ed 10 := ⟨rfl, by decide, uin_Ed, Or.inl (zt 57 (by decide +kernel) rfl)⟩
theorem fl_CM_95 : Cond.fieldLink R_CM 95 (F_Ed 1).1 (F_Ed 1).2.1 (F_Ed 1).2.2.1 ∈ zm_all := (zt 57 (by decide +kernel) rfl)
theorem k_CM_98 : Cond.constant R_CM 98 65536 ∈ zm_all := (zt 405 (by decide +kernel) rfl)
theorem f_CM_99 : zm_fw R_CM 99 2 3 R_Ed F_Ed 10 := ⟨rfl, by decide, uin_Ed, Or.inl (zt 63 (by decide +kernel) rfl)⟩
theorem fl_CM_99 : Cond.fieldLink R_CM 99 (F_Ed 3).1 (F_Ed 3).2.1 (F_Ed 3).2.2.1 ∈ zm_all := (zt 63 (by decide +kernel) rfl)
theorem f_CM_103 : zm_fw R_CM 103 2 2 R_Ed F_Ed 10 := ⟨rfl, by decide, uin_Ed, Or.inl (zt 60 (by decide +kernel) rfl)⟩
theorem fl_CM_103 : Cond.fieldLink R_CM 103 (F_Ed 2).1 (F_Ed 2).2.1 (F_Ed 2).2.2.1 ∈ zm_all := (zt 60 (by decide +kernel) rfl)
theorem w_CM_106 : zm_cw R_CM 106 M_Sn_isOnAir 0 := ⟨(zt 413 (by decide +kernel) rfl), (zt 5 (by decide +kernel) rfl), ⟨by decide, by decide, by decide +kernel⟩, by decide, Or.inl (zt 410 (by decide +kernel) rfl)⟩
theorem w_CM_106k : Cond.instanceMethod M_Sn_isOnAir.1 ∈ zm_all ∧ Cond.selects M_Sn_isOnAir.1.cls M_Sn_isOnAir.1 M_Sn_isOnAir.1 ∈ zm_all := ⟨(zt 411 (by decide +kernel) rfl), (zt 412 (by decide +kernel) rfl)⟩
theorem f_CM_110 : zm_fw R_CM 110 3 0 R_Sn F_Sn 5 := ⟨rfl, by decide, uin_Sn, Or.inl (zt 119 (by decide +kernel) rfl)⟩
theorem fl_CM_110 : Cond.fieldLink R_CM 110 (F_Sn 0).1 (F_Sn 0).2.1 (F_Sn 0).2.2.1 ∈ zm_all := (zt 119 (by decide +kernel) rfl)
theorem w_CM_113 : zm_cw R_CM 113 M_Rc_takePacket 1 := ⟨(zt 421 (by decide +kernel) rfl), (zt 7 (by decide +kernel) rfl), ⟨by decide, by decide, by decide +kernel⟩, by decide, Or.inl (zt 418 (by decide +kernel) rfl)⟩
theorem w_CM_113k : Cond.instanceMethod M_Rc_takePacket.1 ∈ zm_all ∧ Cond.selects M_Rc_takePacket.1.cls M_Rc_takePacket.1 M_Rc_takePacket.1 ∈ zm_all := ⟨(zt 419 (by decide +kernel) rfl), (zt 420 (by decide +kernel) rfl)⟩
theorem w_CM_117 : zm_cw R_CM 117 M_Sn_advance 0 := ⟨(zt 481 (by decide +kernel) rfl), (zt 5 (by decide +kernel) rfl), ⟨by decide, by decide, by decide +kernel⟩, by decide, Or.inl (zt 478 (by decide +kernel) rfl)⟩
theorem w_CM_117k : Cond.instanceMethod M_Sn_advance.1 ∈ zm_all ∧ Cond.selects M_Sn_advance.1.cls M_Sn_advance.1 M_Sn_advance.1 ∈ zm_all := ⟨(zt 479 (by decide +kernel) rfl), (zt 480 (by decide +kernel) rfl)⟩
theorem w_CM_120 : zm_cw R_CM 120 M_Rc_reset 0 := ⟨(zt 497 (by decide +kernel) rfl), (zt 7 (by decide +kernel) rfl), ⟨by decide, by decide, by decide +kernel⟩, by decide, Or.inl (zt 494 (by decide +kernel) rfl)⟩
theorem w_CM_120k : Cond.instanceMethod M_Rc_reset.1 ∈ zm_all ∧ Cond.selects M_Rc_reset.1.cls M_Rc_reset.1 M_Rc_reset.1 ∈ zm_all := ⟨(zt 495 (by decide +kernel) rfl), (zt 496 (by decide +kernel) rfl)⟩
theorem f_CM_123 : zm_fw R_CM 123 5 1 R_Rc F_Rc 5 := ⟨rfl, by decide, uin_Rc, Or.inl (zt 171 (by decide +kernel) rfl)⟩
theorem fl_CM_123 : Cond.fieldLink R_CM 123 (F_Rc 1).1 (F_Rc 1).2.1 (F_Rc 1).2.2.1 ∈ zm_all := (zt 171 (by decide +kernel) rfl)
theorem f_CM_126 : zm_fw R_CM 126 5 0 R_Rc F_Rc 5 := ⟨rfl, by decide, uin_Rc, Or.inl (zt 169 (by decide +kernel) rfl)⟩
theorem fl_CM_126 : Cond.fieldLink R_CM 126 (F_Rc 0).1 (F_Rc 0).2.1 (F_Rc 0).2.2.1 ∈ zm_all := (zt 169 (by decide +kernel) rfl)
theorem f_CM_130 : zm_fw R_CM 130 6 0 R_Mt F_Mt 6 := ⟨rfl, by decide, uin_Mt, Or.inl (zt 148 (by decide +kernel) rfl)⟩
theorem fl_CM_130 : Cond.fieldLink R_CM 130 (F_Mt 0).1 (F_Mt 0).2.1 (F_Mt 0).2.2.1 ∈ zm_all := (zt 148 (by decide +kernel) rfl)
theorem f_CM_136 : zm_fw R_CM 136 6 1 R_Mt F_Mt 6 := ⟨rfl, by decide, uin_Mt, Or.inl (zt 150 (by decide +kernel) rfl)⟩
theorem fl_CM_136 : Cond.fieldLink R_CM 136 (F_Mt 1).1 (F_Mt 1).2.1 (F_Mt 1).2.2.1 ∈ zm_all := (zt 150 (by decide +kernel) rfl)
theorem w_CM_139 : zm_cw R_CM 139 M_Mt_isListed 1 := ⟨(zt 470 (by decide +kernel) rfl), (zt 8 (by decide +kernel) rfl), ⟨by decide, by decide, by decide +kernel⟩, by decide, Or.inl (zt 515 (by decide +kernel) rfl)⟩
theorem w_CM_139k : Cond.instanceMethod M_Mt_isListed.1 ∈ zm_all ∧ Cond.selects M_Mt_isListed.1.cls M_Mt_isListed.1 M_Mt_isListed.1 ∈ zm_all := ⟨(zt 468 (by decide +kernel) rfl), (zt 469 (by decide +kernel) rfl)⟩
theorem w_CM_142 : zm_cw R_CM 142 M_Mt_blocksHeld 1 := ⟨(zt 519 (by decide +kernel) rfl), (zt 8 (by decide +kernel) rfl), ⟨by decide, by decide, by decide +kernel⟩, by decide, Or.inl (zt 516 (by decide +kernel) rfl)⟩
theorem w_CM_142k : Cond.instanceMethod M_Mt_blocksHeld.1 ∈ zm_all ∧ Cond.selects M_Mt_blocksHeld.1.cls M_Mt_blocksHeld.1 M_Mt_blocksHeld.1 ∈ zm_all := ⟨(zt 517 (by decide +kernel) rfl), (zt 518 (by decide +kernel) rfl)⟩
theorem w_CM_145 : zm_cw R_CM 145 M_CM_follow 3 := ⟨(zt 533 (by decide +kernel) rfl), (zt 1 (by decide +kernel) rfl), ⟨by decide, by decide, by decide +kernel⟩, by decide, Or.inl (zt 530 (by decide +kernel) rfl)⟩
theorem w_CM_145k : Cond.instanceMethod M_CM_follow.1 ∈ zm_all ∧ Cond.selects M_CM_follow.1.cls M_CM_follow.1 M_CM_follow.1 ∈ zm_all := ⟨(zt 532 (by decide +kernel) rfl), (zs (y := y_CM_follow) (n := 4) 25 (by decide +kernel))⟩
theorem w_CM_149 : zm_cw R_CM 149 M_Mt_kindAt 1 := ⟨(zt 554 (by decide +kernel) rfl), (zt 8 (by decide +kernel) rfl), ⟨by decide, by decide, by decide +kernel⟩, by decide, Or.inl (zt 567 (by decide +kernel) rfl)⟩
theorem w_CM_149k : Cond.instanceMethod M_Mt_kindAt.1 ∈ zm_all ∧ Cond.selects M_Mt_kindAt.1.cls M_Mt_kindAt.1 M_Mt_kindAt.1 ∈ zm_all := ⟨(zt 552 (by decide +kernel) rfl), (zt 553 (by decide +kernel) rfl)⟩
theorem w_CM_152 : zm_cw R_CM 152 M_Mt_lengthAt 1 := ⟨(zt 550 (by decide +kernel) rfl), (zt 8 (by decide +kernel) rfl), ⟨by decide, by decide, by decide +kernel⟩, by decide, Or.inl (zt 572 (by decide +kernel) rfl)⟩
theorem w_CM_152k : Cond.instanceMethod M_Mt_lengthAt.1 ∈ zm_all ∧ Cond.selects M_Mt_lengthAt.1.cls M_Mt_lengthAt.1 M_Mt_lengthAt.1 ∈ zm_all := ⟨(zt 548 (by decide +kernel) rfl), (zt 549 (by decide +kernel) rfl)⟩
theorem w_CM_155 : zm_cw R_CM 155 M_Mt_isDirectoryAt 1 := ⟨(zt 562 (by decide +kernel) rfl), (zt 8 (by decide +kernel) rfl), ⟨by decide, by decide, by decide +kernel⟩, by decide, Or.inl (zt 573 (by decide +kernel) rfl)⟩
theorem w_CM_155k : Cond.instanceMethod M_Mt_isDirectoryAt.1 ∈ zm_all ∧ Cond.selects M_Mt_isDirectoryAt.1.cls M_Mt_isDirectoryAt.1 M_Mt_isDirectoryAt.1 ∈ zm_all := ⟨(zt 560 (by decide +kernel) rfl), (zt 561 (by decide +kernel) rfl)⟩
theorem w_CM_158 : zm_cw R_CM 158 M_Mt_contentAt 2 := ⟨(zt 581 (by decide +kernel) rfl), (zt 8 (by decide +kernel) rfl), ⟨by decide, by decide, by decide +kernel⟩, by decide, Or.inl (zt 578 (by decide +kernel) rfl)⟩
theorem w_CM_158k : Cond.instanceMethod M_Mt_contentAt.1 ∈ zm_all ∧ Cond.selects M_Mt_contentAt.1.cls M_Mt_contentAt.1 M_Mt_contentAt.1 ∈ zm_all := ⟨(zt 579 (by decide +kernel) rfl), (zt 580 (by decide +kernel) rfl)⟩
theorem w_CM_161 : zm_cw R_CM 161 M_Mt_gateway 0 := ⟨(zt 537 (by decide +kernel) rfl), (zt 8 (by decide +kernel) rfl), ⟨by decide, by decide, by decide +kernel⟩, by decide, Or.inl (zt 534 (by decide +kernel) rfl)⟩
theorem w_CM_161k : Cond.instanceMethod M_Mt_gateway.1 ∈ zm_all ∧ Cond.selects M_Mt_gateway.1.cls M_Mt_gateway.1 M_Mt_gateway.1 ∈ zm_all := ⟨(zt 535 (by decide +kernel) rfl), (zt 536 (by decide +kernel) rfl)⟩
theorem w_CM_164 : zm_cw R_CM 164 M_Mt_enter 2 := ⟨(zt 558 (by decide +kernel) rfl), (zt 8 (by decide +kernel) rfl), ⟨by decide, by decide, by decide +kernel⟩, by decide, Or.inl (zt 555 (by decide +kernel) rfl)⟩
theorem w_CM_164k : Cond.instanceMethod M_Mt_enter.1 ∈ zm_all ∧ Cond.selects M_Mt_enter.1.cls M_Mt_enter.1 M_Mt_enter.1 ∈ zm_all := ⟨(zt 556 (by decide +kernel) rfl), (zt 557 (by decide +kernel) rfl)⟩
theorem k_CM_167 : Cond.constant R_CM 167 79764919 ∈ zm_all := (zt 373 (by decide +kernel) rfl)
theorem oi_Md_1 : Cond.methodLink R_Md 1 Lib.objectInit ∈ zm_all ∧ Cond.instanceMethod Lib.objectInit ∈ zm_all ∧ Cond.code Lib.objectInit ⟨#[0xb1]⟩ 1 none ∈ zm_all := ⟨(zt 587 (by decide +kernel) rfl), (zt 18 (by decide +kernel) rfl), zt 19 rfl rfl⟩
theorem f_Md_7 : zm_fw R_Md 7 7 0 R_Md F_Md 33 := ⟨rfl, by decide, uin_Md, Or.inl (zt 588 (by decide +kernel) rfl)⟩
theorem fl_Md_7 : Cond.fieldLink R_Md 7 (F_Md 0).1 (F_Md 0).2.1 (F_Md 0).2.2.1 ∈ zm_all := (zt 588 (by decide +kernel) rfl)
theorem f_Md_13 : zm_fw R_Md 13 7 1 R_Md F_Md 33 := ⟨rfl, by decide, uin_Md, Or.inl (zt 589 (by decide +kernel) rfl)⟩
theorem fl_Md_13 : Cond.fieldLink R_Md 13 (F_Md 1).1 (F_Md 1).2.1 (F_Md 1).2.2.1 ∈ zm_all := (zt 589 (by decide +kernel) rfl)
theorem f_Md_16 : zm_fw R_Md 16 7 2 R_Md F_Md 33 := ⟨rfl, by decide, uin_Md, Or.inl (zt 590 (by decide +kernel) rfl)⟩
theorem fl_Md_16 : Cond.fieldLink R_Md 16 (F_Md 2).1 (F_Md 2).2.1 (F_Md 2).2.2.1 ∈ zm_all := (zt 590 (by decide +kernel) rfl)
theorem f_Md_19 : zm_fw R_Md 19 7 3 R_Md F_Md 33 := ⟨rfl, by decide, uin_Md, Or.inl (zt 591 (by decide +kernel) rfl)⟩
theorem fl_Md_19 : Cond.fieldLink R_Md 19 (F_Md 3).1 (F_Md 3).2.1 (F_Md 3).2.2.1 ∈ zm_all := (zt 591 (by decide +kernel) rfl)
theorem f_Md_22 : zm_fw R_Md 22 7 4 R_Md F_Md 33 := ⟨rfl, by decide, uin_Md, Or.inl (zt 592 (by decide +kernel) rfl)⟩
theorem fl_Md_22 : Cond.fieldLink R_Md 22 (F_Md 4).1 (F_Md 4).2.1 (F_Md 4).2.2.1 ∈ zm_all := (zt 592 (by decide +kernel) rfl)
theorem f_Md_25 : zm_fw R_Md 25 7 7 R_Md F_Md 33 := ⟨rfl, by decide, uin_Md, Or.inl (zt 595 (by decide +kernel) rfl)⟩
theorem fl_Md_25 : Cond.fieldLink R_Md 25 (F_Md 7).1 (F_Md 7).2.1 (F_Md 7).2.2.1 ∈ zm_all := (zt 595 (by decide +kernel) rfl)
theorem f_Md_28 : zm_fw R_Md 28 7 8 R_Md F_Md 33 := ⟨rfl, by decide, uin_Md, Or.inl (zt 596 (by decide +kernel) rfl)⟩
theorem fl_Md_28 : Cond.fieldLink R_Md 28 (F_Md 8).1 (F_Md 8).2.1 (F_Md 8).2.2.1 ∈ zm_all := (zt 596 (by decide +kernel) rfl)
theorem f_Md_31 : zm_fw R_Md 31 7 9 R_Md F_Md 33 := ⟨rfl, by decide, uin_Md, Or.inl (zt 597 (by decide +kernel) rfl)⟩
theorem fl_Md_31 : Cond.fieldLink R_Md 31 (F_Md 9).1 (F_Md 9).2.1 (F_Md 9).2.2.1 ∈ zm_all := (zt 597 (by decide +kernel) rfl)
theorem f_Md_34 : zm_fw R_Md 34 7 11 R_Md F_Md 33 := ⟨rfl, by decide, uin_Md, Or.inl (zt 599 (by decide +kernel) rfl)⟩
theorem fl_Md_34 : Cond.fieldLink R_Md 34 (F_Md 11).1 (F_Md 11).2.1 (F_Md 11).2.2.1 ∈ zm_all := (zt 599 (by decide +kernel) rfl)
theorem f_Md_37 : zm_fw R_Md 37 7 12 R_Md F_Md 33 := ⟨rfl, by decide, uin_Md, Or.inl (zt 600 (by decide +kernel) rfl)⟩
theorem fl_Md_37 : Cond.fieldLink R_Md 37 (F_Md 12).1 (F_Md 12).2.1 (F_Md 12).2.2.1 ∈ zm_all := (zt 600 (by decide +kernel) rfl)
theorem f_Md_40 : zm_fw R_Md 40 7 13 R_Md F_Md 33 := ⟨rfl, by decide, uin_Md, Or.inl (zt 601 (by decide +kernel) rfl)⟩
theorem fl_Md_40 : Cond.fieldLink R_Md 40 (F_Md 13).1 (F_Md 13).2.1 (F_Md 13).2.2.1 ∈ zm_all := (zt 601 (by decide +kernel) rfl)
theorem f_Md_43 : zm_fw R_Md 43 7 14 R_Md F_Md 33 := ⟨rfl, by decide, uin_Md, Or.inl (zt 602 (by decide +kernel) rfl)⟩
theorem fl_Md_43 : Cond.fieldLink R_Md 43 (F_Md 14).1 (F_Md 14).2.1 (F_Md 14).2.2.1 ∈ zm_all := (zt 602 (by decide +kernel) rfl)
theorem f_Md_46 : zm_fw R_Md 46 7 15 R_Md F_Md 33 := ⟨rfl, by decide, uin_Md, Or.inl (zt 603 (by decide +kernel) rfl)⟩
theorem fl_Md_46 : Cond.fieldLink R_Md 46 (F_Md 15).1 (F_Md 15).2.1 (F_Md 15).2.2.1 ∈ zm_all := (zt 603 (by decide +kernel) rfl)
theorem f_Md_49 : zm_fw R_Md 49 7 16 R_Md F_Md 33 := ⟨rfl, by decide, uin_Md, Or.inl (zt 604 (by decide +kernel) rfl)⟩
theorem fl_Md_49 : Cond.fieldLink R_Md 49 (F_Md 16).1 (F_Md 16).2.1 (F_Md 16).2.2.1 ∈ zm_all := (zt 604 (by decide +kernel) rfl)
theorem f_Md_53 : zm_fw R_Md 53 7 21 R_Md F_Md 33 := ⟨rfl, by decide, uin_Md, Or.inl (zt 609 (by decide +kernel) rfl)⟩
theorem fl_Md_53 : Cond.fieldLink R_Md 53 (F_Md 21).1 (F_Md 21).2.1 (F_Md 21).2.2.1 ∈ zm_all := (zt 609 (by decide +kernel) rfl)
theorem f_Md_56 : zm_fw R_Md 56 7 22 R_Md F_Md 33 := ⟨rfl, by decide, uin_Md, Or.inl (zt 610 (by decide +kernel) rfl)⟩
theorem fl_Md_56 : Cond.fieldLink R_Md 56 (F_Md 22).1 (F_Md 22).2.1 (F_Md 22).2.2.1 ∈ zm_all := (zt 610 (by decide +kernel) rfl)
theorem f_Md_60 : zm_fw R_Md 60 7 23 R_Md F_Md 33 := ⟨rfl, by decide, uin_Md, Or.inl (zt 611 (by decide +kernel) rfl)⟩
theorem fl_Md_60 : Cond.fieldLink R_Md 60 (F_Md 23).1 (F_Md 23).2.1 (F_Md 23).2.2.1 ∈ zm_all := (zt 611 (by decide +kernel) rfl)
theorem f_Md_63 : zm_fw R_Md 63 7 24 R_Md F_Md 33 := ⟨rfl, by decide, uin_Md, Or.inl (zt 612 (by decide +kernel) rfl)⟩
theorem fl_Md_63 : Cond.fieldLink R_Md 63 (F_Md 24).1 (F_Md 24).2.1 (F_Md 24).2.2.1 ∈ zm_all := (zt 612 (by decide +kernel) rfl)
theorem f_Md_66 : zm_fw R_Md 66 7 25 R_Md F_Md 33 := ⟨rfl, by decide, uin_Md, Or.inl (zt 613 (by decide +kernel) rfl)⟩
theorem fl_Md_66 : Cond.fieldLink R_Md 66 (F_Md 25).1 (F_Md 25).2.1 (F_Md 25).2.2.1 ∈ zm_all := (zt 613 (by decide +kernel) rfl)
theorem f_Md_69 : zm_fw R_Md 69 7 26 R_Md F_Md 33 := ⟨rfl, by decide, uin_Md, Or.inl (zt 614 (by decide +kernel) rfl)⟩
theorem fl_Md_69 : Cond.fieldLink R_Md 69 (F_Md 26).1 (F_Md 26).2.1 (F_Md 26).2.2.1 ∈ zm_all := (zt 614 (by decide +kernel) rfl)
theorem f_Md_72 : zm_fw R_Md 72 7 27 R_Md F_Md 33 := ⟨rfl, by decide, uin_Md, Or.inl (zt 615 (by decide +kernel) rfl)⟩
theorem fl_Md_72 : Cond.fieldLink R_Md 72 (F_Md 27).1 (F_Md 27).2.1 (F_Md 27).2.2.1 ∈ zm_all := (zt 615 (by decide +kernel) rfl)
theorem f_Md_75 : zm_fw R_Md 75 7 28 R_Md F_Md 33 := ⟨rfl, by decide, uin_Md, Or.inl (zt 616 (by decide +kernel) rfl)⟩
theorem fl_Md_75 : Cond.fieldLink R_Md 75 (F_Md 28).1 (F_Md 28).2.1 (F_Md 28).2.2.1 ∈ zm_all := (zt 616 (by decide +kernel) rfl)
theorem f_Md_78 : zm_fw R_Md 78 7 31 R_Md F_Md 33 := ⟨rfl, by decide, uin_Md, Or.inl (zt 619 (by decide +kernel) rfl)⟩
theorem fl_Md_78 : Cond.fieldLink R_Md 78 (F_Md 31).1 (F_Md 31).2.1 (F_Md 31).2.2.1 ∈ zm_all := (zt 619 (by decide +kernel) rfl)
theorem f_Md_81 : zm_fw R_Md 81 7 32 R_Md F_Md 33 := ⟨rfl, by decide, uin_Md, Or.inl (zt 620 (by decide +kernel) rfl)⟩
theorem fl_Md_81 : Cond.fieldLink R_Md 81 (F_Md 32).1 (F_Md 32).2.1 (F_Md 32).2.2.1 ∈ zm_all := (zt 620 (by decide +kernel) rfl)
theorem w_Md_84 : zm_cw R_Md 84 M_Md_within 3 := ⟨(zt 695 (by decide +kernel) rfl), (zt 9 (by decide +kernel) rfl), ⟨by decide, by decide, by decide +kernel⟩, by decide, Or.inl (zt 693 (by decide +kernel) rfl)⟩
theorem w_Md_84k : Cond.static M_Md_within.1 ∈ zm_all := (zt 694 (by decide +kernel) rfl)
theorem w_Md_88 : zm_cw R_Md 88 M_Md_after 2 := ⟨(zt 699 (by decide +kernel) rfl), (zt 9 (by decide +kernel) rfl), ⟨by decide, by decide, by decide +kernel⟩, by decide, Or.inl (zt 696 (by decide +kernel) rfl)⟩
theorem w_Md_88k : Cond.instanceMethod M_Md_after.1 ∈ zm_all ∧ Cond.selects M_Md_after.1.cls M_Md_after.1 M_Md_after.1 ∈ zm_all := ⟨(zt 698 (by decide +kernel) rfl), (zs (y := y_Md_after) (n := 33) 29 (by decide +kernel))⟩
theorem w_Md_92 : zm_cw R_Md 92 M_Md_put 2 := ⟨(zt 735 (by decide +kernel) rfl), (zt 9 (by decide +kernel) rfl), ⟨by decide, by decide, by decide +kernel⟩, by decide, Or.inl (zt 732 (by decide +kernel) rfl)⟩
theorem w_Md_92k : Cond.instanceMethod M_Md_put.1 ∈ zm_all ∧ Cond.selects M_Md_put.1.cls M_Md_put.1 M_Md_put.1 ∈ zm_all := ⟨(zt 734 (by decide +kernel) rfl), (zs (y := y_Md_put) (n := 33) 34 (by decide +kernel))⟩
theorem w_Md_96 : zm_cw R_Md 96 M_Md_payload 1 := ⟨(zt 723 (by decide +kernel) rfl), (zt 9 (by decide +kernel) rfl), ⟨by decide, by decide, by decide +kernel⟩, by decide, Or.inl (zt 720 (by decide +kernel) rfl)⟩
theorem w_Md_96k : Cond.instanceMethod M_Md_payload.1 ∈ zm_all ∧ Cond.selects M_Md_payload.1.cls M_Md_payload.1 M_Md_payload.1 ∈ zm_all := ⟨(zt 722 (by decide +kernel) rfl), (zs (y := y_Md_payload) (n := 33) 31 (by decide +kernel))⟩
theorem f_Md_100 : zm_fw R_Md 100 7 6 R_Md F_Md 33 := ⟨rfl, by decide, uin_Md, Or.inl (zt 594 (by decide +kernel) rfl)⟩
theorem fl_Md_100 : Cond.fieldLink R_Md 100 (F_Md 6).1 (F_Md 6).2.1 (F_Md 6).2.2.1 ∈ zm_all := (zt 594 (by decide +kernel) rfl)
theorem f_Md_103 : zm_fw R_Md 103 7 10 R_Md F_Md 33 := ⟨rfl, by decide, uin_Md, Or.inl (zt 598 (by decide +kernel) rfl)⟩
theorem fl_Md_103 : Cond.fieldLink R_Md 103 (F_Md 10).1 (F_Md 10).2.1 (F_Md 10).2.2.1 ∈ zm_all := (zt 598 (by decide +kernel) rfl)
theorem w_Md_106 : zm_cw R_Md 106 M_Md_keepOld 0 := ⟨(zt 719 (by decide +kernel) rfl), (zt 9 (by decide +kernel) rfl), ⟨by decide, by decide, by decide +kernel⟩, by decide, Or.inl (zt 716 (by decide +kernel) rfl)⟩
theorem w_Md_106k : Cond.instanceMethod M_Md_keepOld.1 ∈ zm_all ∧ Cond.selects M_Md_keepOld.1.cls M_Md_keepOld.1 M_Md_keepOld.1 ∈ zm_all := ⟨(zt 718 (by decide +kernel) rfl), (zs (y := y_Md_keepOld) (n := 33) 30 (by decide +kernel))⟩
theorem f_Md_109 : zm_fw R_Md 109 7 5 R_Md F_Md 33 := ⟨rfl, by decide, uin_Md, Or.inl (zt 593 (by decide +kernel) rfl)⟩
theorem fl_Md_109 : Cond.fieldLink R_Md 109 (F_Md 5).1 (F_Md 5).2.1 (F_Md 5).2.2.1 ∈ zm_all := (zt 593 (by decide +kernel) rfl)
theorem w_Md_112 : zm_cw R_Md 112 M_Md_next 1 := ⟨(zt 727 (by decide +kernel) rfl), (zt 9 (by decide +kernel) rfl), ⟨by decide, by decide, by decide +kernel⟩, by decide, Or.inl (zt 724 (by decide +kernel) rfl)⟩
theorem w_Md_112k : Cond.instanceMethod M_Md_next.1 ∈ zm_all ∧ Cond.selects M_Md_next.1.cls M_Md_next.1 M_Md_next.1 ∈ zm_all := ⟨(zt 726 (by decide +kernel) rfl), (zs (y := y_Md_next) (n := 33) 32 (by decide +kernel))⟩
theorem w_Md_115 : zm_cw R_Md 115 M_Md_message 1 := ⟨(zt 731 (by decide +kernel) rfl), (zt 9 (by decide +kernel) rfl), ⟨by decide, by decide, by decide +kernel⟩, by decide, Or.inl (zt 728 (by decide +kernel) rfl)⟩
theorem w_Md_115k : Cond.instanceMethod M_Md_message.1 ∈ zm_all ∧ Cond.selects M_Md_message.1.cls M_Md_message.1 M_Md_message.1 ∈ zm_all := ⟨(zt 730 (by decide +kernel) rfl), (zs (y := y_Md_message) (n := 33) 33 (by decide +kernel))⟩
theorem w_Md_119 : zm_cw R_Md 119 M_Md_unchanged 1 := ⟨(zt 739 (by decide +kernel) rfl), (zt 9 (by decide +kernel) rfl), ⟨by decide, by decide, by decide +kernel⟩, by decide, Or.inl (zt 736 (by decide +kernel) rfl)⟩
theorem w_Md_119k : Cond.instanceMethod M_Md_unchanged.1 ∈ zm_all ∧ Cond.selects M_Md_unchanged.1.cls M_Md_unchanged.1 M_Md_unchanged.1 ∈ zm_all := ⟨(zt 738 (by decide +kernel) rfl), (zs (y := y_Md_unchanged) (n := 33) 35 (by decide +kernel))⟩
theorem w_Md_123 : zm_cw R_Md 123 M_Md_writeCycle 0 := ⟨(zt 743 (by decide +kernel) rfl), (zt 9 (by decide +kernel) rfl), ⟨by decide, by decide, by decide +kernel⟩, by decide, Or.inl (zt 740 (by decide +kernel) rfl)⟩
theorem w_Md_123k : Cond.instanceMethod M_Md_writeCycle.1 ∈ zm_all ∧ Cond.selects M_Md_writeCycle.1.cls M_Md_writeCycle.1 M_Md_writeCycle.1 ∈ zm_all := ⟨(zt 742 (by decide +kernel) rfl), (zs (y := y_Md_writeCycle) (n := 33) 36 (by decide +kernel))⟩
theorem f_Md_126 : zm_fw R_Md 126 7 19 R_Md F_Md 33 := ⟨rfl, by decide, uin_Md, Or.inl (zt 607 (by decide +kernel) rfl)⟩
theorem fl_Md_126 : Cond.fieldLink R_Md 126 (F_Md 19).1 (F_Md 19).2.1 (F_Md 19).2.2.1 ∈ zm_all := (zt 607 (by decide +kernel) rfl)
theorem k_Md_129 : Cond.constant R_Md 129 79764919 ∈ zm_all := (zt 751 (by decide +kernel) rfl)
theorem f_Md_130 : zm_fw R_Md 130 7 17 R_Md F_Md 33 := ⟨rfl, by decide, uin_Md, Or.inl (zt 605 (by decide +kernel) rfl)⟩
theorem fl_Md_130 : Cond.fieldLink R_Md 130 (F_Md 17).1 (F_Md 17).2.1 (F_Md 17).2.2.1 ∈ zm_all := (zt 605 (by decide +kernel) rfl)
theorem f_Md_133 : zm_fw R_Md 133 7 18 R_Md F_Md 33 := ⟨rfl, by decide, uin_Md, Or.inl (zt 606 (by decide +kernel) rfl)⟩
theorem fl_Md_133 : Cond.fieldLink R_Md 133 (F_Md 18).1 (F_Md 18).2.1 (F_Md 18).2.2.1 ∈ zm_all := (zt 606 (by decide +kernel) rfl)
theorem w_Md_136 : zm_cw R_Md 136 M_Md_mixed 2 := ⟨(zt 750 (by decide +kernel) rfl), (zt 9 (by decide +kernel) rfl), ⟨by decide, by decide, by decide +kernel⟩, by decide, Or.inl (zt 748 (by decide +kernel) rfl)⟩
theorem w_Md_136k : Cond.static M_Md_mixed.1 ∈ zm_all := (zt 749 (by decide +kernel) rfl)
theorem w_Md_139 : zm_cw R_Md 139 M_Md_emit 1 := ⟨(zt 747 (by decide +kernel) rfl), (zt 9 (by decide +kernel) rfl), ⟨by decide, by decide, by decide +kernel⟩, by decide, Or.inl (zt 744 (by decide +kernel) rfl)⟩
theorem w_Md_139k : Cond.instanceMethod M_Md_emit.1 ∈ zm_all ∧ Cond.selects M_Md_emit.1.cls M_Md_emit.1 M_Md_emit.1 ∈ zm_all := ⟨(zt 746 (by decide +kernel) rfl), (zs (y := y_Md_emit) (n := 33) 37 (by decide +kernel))⟩
theorem w_Md_142 : zm_cw R_Md 142 M_Md_emitPair 1 := ⟨(zt 755 (by decide +kernel) rfl), (zt 9 (by decide +kernel) rfl), ⟨by decide, by decide, by decide +kernel⟩, by decide, Or.inl (zt 752 (by decide +kernel) rfl)⟩
theorem w_Md_142k : Cond.instanceMethod M_Md_emitPair.1 ∈ zm_all ∧ Cond.selects M_Md_emitPair.1.cls M_Md_emitPair.1 M_Md_emitPair.1 ∈ zm_all := ⟨(zt 754 (by decide +kernel) rfl), (zs (y := y_Md_emitPair) (n := 33) 38 (by decide +kernel))⟩
theorem w_Md_145 : zm_cw R_Md 145 M_Md_emitCheck 0 := ⟨(zt 759 (by decide +kernel) rfl), (zt 9 (by decide +kernel) rfl), ⟨by decide, by decide, by decide +kernel⟩, by decide, Or.inl (zt 756 (by decide +kernel) rfl)⟩
theorem w_Md_145k : Cond.instanceMethod M_Md_emitCheck.1 ∈ zm_all ∧ Cond.selects M_Md_emitCheck.1.cls M_Md_emitCheck.1 M_Md_emitCheck.1 ∈ zm_all := ⟨(zt 758 (by decide +kernel) rfl), (zs (y := y_Md_emitCheck) (n := 33) 39 (by decide +kernel))⟩
theorem k_Md_148 : Cond.constant R_Md 148 65536 ∈ zm_all := (zt 768 (by decide +kernel) rfl)
theorem w_Md_149 : zm_cw R_Md 149 M_Md_rest 0 := ⟨(zt 780 (by decide +kernel) rfl), (zt 9 (by decide +kernel) rfl), ⟨by decide, by decide, by decide +kernel⟩, by decide, Or.inl (zt 777 (by decide +kernel) rfl)⟩
theorem w_Md_149k : Cond.instanceMethod M_Md_rest.1 ∈ zm_all ∧ Cond.selects M_Md_rest.1.cls M_Md_rest.1 M_Md_rest.1 ∈ zm_all := ⟨(zt 779 (by decide +kernel) rfl), (zs (y := y_Md_rest) (n := 33) 41 (by decide +kernel))⟩
theorem f_Md_153 : zm_fw R_Md 153 7 20 R_Md F_Md 33 := ⟨rfl, by decide, uin_Md, Or.inl (zt 608 (by decide +kernel) rfl)⟩
theorem fl_Md_153 : Cond.fieldLink R_Md 153 (F_Md 20).1 (F_Md 20).2.1 (F_Md 20).2.2.1 ∈ zm_all := (zt 608 (by decide +kernel) rfl)
theorem w_Md_156 : zm_cw R_Md 156 M_Md_build 0 := ⟨(zt 776 (by decide +kernel) rfl), (zt 9 (by decide +kernel) rfl), ⟨by decide, by decide, by decide +kernel⟩, by decide, Or.inl (zt 773 (by decide +kernel) rfl)⟩
theorem w_Md_156k : Cond.instanceMethod M_Md_build.1 ∈ zm_all ∧ Cond.selects M_Md_build.1.cls M_Md_build.1 M_Md_build.1 ∈ zm_all := ⟨(zt 775 (by decide +kernel) rfl), (zs (y := y_Md_build) (n := 33) 40 (by decide +kernel))⟩
theorem w_Md_159 : zm_cw R_Md 159 M_Md_sent 0 := ⟨(zt 792 (by decide +kernel) rfl), (zt 9 (by decide +kernel) rfl), ⟨by decide, by decide, by decide +kernel⟩, by decide, Or.inl (zt 789 (by decide +kernel) rfl)⟩
theorem w_Md_159k : Cond.instanceMethod M_Md_sent.1 ∈ zm_all ∧ Cond.selects M_Md_sent.1.cls M_Md_sent.1 M_Md_sent.1 ∈ zm_all := ⟨(zt 791 (by decide +kernel) rfl), (zs (y := y_Md_sent) (n := 33) 43 (by decide +kernel))⟩
theorem w_Md_162 : zm_cw R_Md 162 M_Md_receive 0 := ⟨(zt 796 (by decide +kernel) rfl), (zt 9 (by decide +kernel) rfl), ⟨by decide, by decide, by decide +kernel⟩, by decide, Or.inl (zt 793 (by decide +kernel) rfl)⟩
theorem w_Md_162k : Cond.instanceMethod M_Md_receive.1 ∈ zm_all ∧ Cond.selects M_Md_receive.1.cls M_Md_receive.1 M_Md_receive.1 ∈ zm_all := ⟨(zt 795 (by decide +kernel) rfl), (zs (y := y_Md_receive) (n := 33) 44 (by decide +kernel))⟩
theorem w_Md_165 : zm_cw R_Md 165 M_Md_pass 2 := ⟨(zt 788 (by decide +kernel) rfl), (zt 9 (by decide +kernel) rfl), ⟨by decide, by decide, by decide +kernel⟩, by decide, Or.inl (zt 785 (by decide +kernel) rfl)⟩
theorem w_Md_165k : Cond.instanceMethod M_Md_pass.1 ∈ zm_all ∧ Cond.selects M_Md_pass.1.cls M_Md_pass.1 M_Md_pass.1 ∈ zm_all := ⟨(zt 787 (by decide +kernel) rfl), (zs (y := y_Md_pass) (n := 33) 42 (by decide +kernel))⟩
theorem f_Md_169 : zm_fw R_Md 169 7 29 R_Md F_Md 33 := ⟨rfl, by decide, uin_Md, Or.inl (zt 617 (by decide +kernel) rfl)⟩
theorem fl_Md_169 : Cond.fieldLink R_Md 169 (F_Md 29).1 (F_Md 29).2.1 (F_Md 29).2.2.1 ∈ zm_all := (zt 617 (by decide +kernel) rfl)
theorem w_Md_173 : zm_cw R_Md 173 M_Md_nothing 1 := ⟨(zt 832 (by decide +kernel) rfl), (zt 9 (by decide +kernel) rfl), ⟨by decide, by decide, by decide +kernel⟩, by decide, Or.inl (zt 829 (by decide +kernel) rfl)⟩
theorem w_Md_173k : Cond.instanceMethod M_Md_nothing.1 ∈ zm_all ∧ Cond.selects M_Md_nothing.1.cls M_Md_nothing.1 M_Md_nothing.1 ∈ zm_all := ⟨(zt 831 (by decide +kernel) rfl), (zs (y := y_Md_nothing) (n := 33) 53 (by decide +kernel))⟩
theorem w_Md_176 : zm_cw R_Md 176 M_Md_throwAway 0 := ⟨(zt 800 (by decide +kernel) rfl), (zt 9 (by decide +kernel) rfl), ⟨by decide, by decide, by decide +kernel⟩, by decide, Or.inl (zt 797 (by decide +kernel) rfl)⟩
theorem w_Md_176k : Cond.instanceMethod M_Md_throwAway.1 ∈ zm_all ∧ Cond.selects M_Md_throwAway.1.cls M_Md_throwAway.1 M_Md_throwAway.1 ∈ zm_all := ⟨(zt 799 (by decide +kernel) rfl), (zs (y := y_Md_throwAway) (n := 33) 45 (by decide +kernel))⟩
theorem w_Md_179 : zm_cw R_Md 179 M_Md_more 2 := ⟨(zt 804 (by decide +kernel) rfl), (zt 9 (by decide +kernel) rfl), ⟨by decide, by decide, by decide +kernel⟩, by decide, Or.inl (zt 801 (by decide +kernel) rfl)⟩
theorem w_Md_179k : Cond.instanceMethod M_Md_more.1 ∈ zm_all ∧ Cond.selects M_Md_more.1.cls M_Md_more.1 M_Md_more.1 ∈ zm_all := ⟨(zt 803 (by decide +kernel) rfl), (zs (y := y_Md_more) (n := 33) 46 (by decide +kernel))⟩
theorem f_Md_182 : zm_fw R_Md 182 7 30 R_Md F_Md 33 := ⟨rfl, by decide, uin_Md, Or.inl (zt 618 (by decide +kernel) rfl)⟩
theorem fl_Md_182 : Cond.fieldLink R_Md 182 (F_Md 30).1 (F_Md 30).2.1 (F_Md 30).2.2.1 ∈ zm_all := (zt 618 (by decide +kernel) rfl)
theorem w_Md_185 : zm_cw R_Md 185 M_Md_take 1 := ⟨(zt 808 (by decide +kernel) rfl), (zt 9 (by decide +kernel) rfl), ⟨by decide, by decide, by decide +kernel⟩, by decide, Or.inl (zt 805 (by decide +kernel) rfl)⟩
theorem w_Md_185k : Cond.instanceMethod M_Md_take.1 ∈ zm_all ∧ Cond.selects M_Md_take.1.cls M_Md_take.1 M_Md_take.1 ∈ zm_all := ⟨(zt 807 (by decide +kernel) rfl), (zs (y := y_Md_take) (n := 33) 47 (by decide +kernel))⟩
theorem w_Md_188 : zm_cw R_Md 188 M_Md_look 0 := ⟨(zt 812 (by decide +kernel) rfl), (zt 9 (by decide +kernel) rfl), ⟨by decide, by decide, by decide +kernel⟩, by decide, Or.inl (zt 809 (by decide +kernel) rfl)⟩
theorem w_Md_188k : Cond.instanceMethod M_Md_look.1 ∈ zm_all ∧ Cond.selects M_Md_look.1.cls M_Md_look.1 M_Md_look.1 ∈ zm_all := ⟨(zt 811 (by decide +kernel) rfl), (zs (y := y_Md_look) (n := 33) 48 (by decide +kernel))⟩
theorem w_Md_191 : zm_cw R_Md 191 M_Md_checks 0 := ⟨(zt 816 (by decide +kernel) rfl), (zt 9 (by decide +kernel) rfl), ⟨by decide, by decide, by decide +kernel⟩, by decide, Or.inl (zt 813 (by decide +kernel) rfl)⟩
theorem w_Md_191k : Cond.instanceMethod M_Md_checks.1 ∈ zm_all ∧ Cond.selects M_Md_checks.1.cls M_Md_checks.1 M_Md_checks.1 ∈ zm_all := ⟨(zt 815 (by decide +kernel) rfl), (zs (y := y_Md_checks) (n := 33) 49 (by decide +kernel))⟩
theorem w_Md_195 : zm_cw R_Md 195 M_Md_isList 0 := ⟨(zt 820 (by decide +kernel) rfl), (zt 9 (by decide +kernel) rfl), ⟨by decide, by decide, by decide +kernel⟩, by decide, Or.inl (zt 817 (by decide +kernel) rfl)⟩
theorem w_Md_195k : Cond.instanceMethod M_Md_isList.1 ∈ zm_all ∧ Cond.selects M_Md_isList.1.cls M_Md_isList.1 M_Md_isList.1 ∈ zm_all := ⟨(zt 819 (by decide +kernel) rfl), (zs (y := y_Md_isList) (n := 33) 50 (by decide +kernel))⟩
theorem w_Md_198 : zm_cw R_Md 198 M_Md_list 0 := ⟨(zt 824 (by decide +kernel) rfl), (zt 9 (by decide +kernel) rfl), ⟨by decide, by decide, by decide +kernel⟩, by decide, Or.inl (zt 821 (by decide +kernel) rfl)⟩
theorem w_Md_198k : Cond.instanceMethod M_Md_list.1 ∈ zm_all ∧ Cond.selects M_Md_list.1.cls M_Md_list.1 M_Md_list.1 ∈ zm_all := ⟨(zt 823 (by decide +kernel) rfl), (zs (y := y_Md_list) (n := 33) 51 (by decide +kernel))⟩
theorem w_Md_201 : zm_cw R_Md 201 M_Md_fits 0 := ⟨(zt 836 (by decide +kernel) rfl), (zt 9 (by decide +kernel) rfl), ⟨by decide, by decide, by decide +kernel⟩, by decide, Or.inl (zt 833 (by decide +kernel) rfl)⟩
theorem w_Md_201k : Cond.instanceMethod M_Md_fits.1 ∈ zm_all ∧ Cond.selects M_Md_fits.1.cls M_Md_fits.1 M_Md_fits.1 ∈ zm_all := ⟨(zt 835 (by decide +kernel) rfl), (zs (y := y_Md_fits) (n := 33) 54 (by decide +kernel))⟩
theorem w_Md_204 : zm_cw R_Md 204 M_Md_block 0 := ⟨(zt 840 (by decide +kernel) rfl), (zt 9 (by decide +kernel) rfl), ⟨by decide, by decide, by decide +kernel⟩, by decide, Or.inl (zt 837 (by decide +kernel) rfl)⟩
theorem w_Md_204k : Cond.instanceMethod M_Md_block.1 ∈ zm_all ∧ Cond.selects M_Md_block.1.cls M_Md_block.1 M_Md_block.1 ∈ zm_all := ⟨(zt 839 (by decide +kernel) rfl), (zs (y := y_Md_block) (n := 33) 55 (by decide +kernel))⟩
theorem w_Md_207 : zm_cw R_Md 207 M_Md_pair 1 := ⟨(zt 828 (by decide +kernel) rfl), (zt 9 (by decide +kernel) rfl), ⟨by decide, by decide, by decide +kernel⟩, by decide, Or.inl (zt 825 (by decide +kernel) rfl)⟩
theorem w_Md_207k : Cond.instanceMethod M_Md_pair.1 ∈ zm_all ∧ Cond.selects M_Md_pair.1.cls M_Md_pair.1 M_Md_pair.1 ∈ zm_all := ⟨(zt 827 (by decide +kernel) rfl), (zs (y := y_Md_pair) (n := 33) 52 (by decide +kernel))⟩
theorem w_Md_210 : zm_cw R_Md 210 M_Md_heldOf 1 := ⟨(zt 868 (by decide +kernel) rfl), (zt 9 (by decide +kernel) rfl), ⟨by decide, by decide, by decide +kernel⟩, by decide, Or.inl (zt 865 (by decide +kernel) rfl)⟩
theorem w_Md_210k : Cond.instanceMethod M_Md_heldOf.1 ∈ zm_all ∧ Cond.selects M_Md_heldOf.1.cls M_Md_heldOf.1 M_Md_heldOf.1 ∈ zm_all := ⟨(zt 867 (by decide +kernel) rfl), (zs (y := y_Md_heldOf) (n := 33) 56 (by decide +kernel))⟩
theorem w_Md_213 : zm_cw R_Md 213 M_Md_stands 2 := ⟨(zt 892 (by decide +kernel) rfl), (zt 9 (by decide +kernel) rfl), ⟨by decide, by decide, by decide +kernel⟩, by decide, Or.inl (zt 889 (by decide +kernel) rfl)⟩
theorem w_Md_213k : Cond.instanceMethod M_Md_stands.1 ∈ zm_all ∧ Cond.selects M_Md_stands.1.cls M_Md_stands.1 M_Md_stands.1 ∈ zm_all := ⟨(zt 891 (by decide +kernel) rfl), (zs (y := y_Md_stands) (n := 33) 61 (by decide +kernel))⟩
theorem w_Md_217 : zm_cw R_Md 217 M_Md_ready 1 := ⟨(zt 884 (by decide +kernel) rfl), (zt 9 (by decide +kernel) rfl), ⟨by decide, by decide, by decide +kernel⟩, by decide, Or.inl (zt 881 (by decide +kernel) rfl)⟩
theorem w_Md_217k : Cond.instanceMethod M_Md_ready.1 ∈ zm_all ∧ Cond.selects M_Md_ready.1.cls M_Md_ready.1 M_Md_ready.1 ∈ zm_all := ⟨(zt 883 (by decide +kernel) rfl), (zs (y := y_Md_ready) (n := 33) 59 (by decide +kernel))⟩
theorem w_Md_220 : zm_cw R_Md 220 M_Md_first 2 := ⟨(zt 888 (by decide +kernel) rfl), (zt 9 (by decide +kernel) rfl), ⟨by decide, by decide, by decide +kernel⟩, by decide, Or.inl (zt 885 (by decide +kernel) rfl)⟩
theorem w_Md_220k : Cond.instanceMethod M_Md_first.1 ∈ zm_all ∧ Cond.selects M_Md_first.1.cls M_Md_first.1 M_Md_first.1 ∈ zm_all := ⟨(zt 887 (by decide +kernel) rfl), (zs (y := y_Md_first) (n := 33) 60 (by decide +kernel))⟩
theorem w_Md_223 : zm_cw R_Md 223 M_Md_gateway 0 := ⟨(zt 880 (by decide +kernel) rfl), (zt 9 (by decide +kernel) rfl), ⟨by decide, by decide, by decide +kernel⟩, by decide, Or.inl (zt 877 (by decide +kernel) rfl)⟩
theorem w_Md_223k : Cond.instanceMethod M_Md_gateway.1 ∈ zm_all ∧ Cond.selects M_Md_gateway.1.cls M_Md_gateway.1 M_Md_gateway.1 ∈ zm_all := ⟨(zt 879 (by decide +kernel) rfl), (zs (y := y_Md_gateway) (n := 33) 58 (by decide +kernel))⟩
theorem w_Md_226 : zm_cw R_Md 226 M_Md_enter 2 := ⟨(zt 896 (by decide +kernel) rfl), (zt 9 (by decide +kernel) rfl), ⟨by decide, by decide, by decide +kernel⟩, by decide, Or.inl (zt 893 (by decide +kernel) rfl)⟩
theorem w_Md_226k : Cond.instanceMethod M_Md_enter.1 ∈ zm_all ∧ Cond.selects M_Md_enter.1.cls M_Md_enter.1 M_Md_enter.1 ∈ zm_all := ⟨(zt 895 (by decide +kernel) rfl), (zs (y := y_Md_enter) (n := 33) 62 (by decide +kernel))⟩
theorem w_Md_229 : zm_cw R_Md 229 M_Md_follow 3 := ⟨(zt 876 (by decide +kernel) rfl), (zt 9 (by decide +kernel) rfl), ⟨by decide, by decide, by decide +kernel⟩, by decide, Or.inl (zt 873 (by decide +kernel) rfl)⟩
theorem w_Md_229k : Cond.instanceMethod M_Md_follow.1 ∈ zm_all ∧ Cond.selects M_Md_follow.1.cls M_Md_follow.1 M_Md_follow.1 ∈ zm_all := ⟨(zt 875 (by decide +kernel) rfl), (zs (y := y_Md_follow) (n := 33) 57 (by decide +kernel))⟩
theorem oi_Cy_3 : Cond.methodLink R_Cy 3 Lib.objectInit ∈ zm_all ∧ Cond.instanceMethod Lib.objectInit ∈ zm_all ∧ Cond.code Lib.objectInit ⟨#[0xb1]⟩ 1 none ∈ zm_all := ⟨(zt 102 (by decide +kernel) rfl), (zt 18 (by decide +kernel) rfl), zt 19 rfl rfl⟩
theorem f_Cy_11 : zm_fw R_Cy 11 4 0 R_Cy F_Cy 4 := ⟨rfl, by decide, uin_Cy, Or.inl (zt 103 (by decide +kernel) rfl)⟩
theorem fl_Cy_11 : Cond.fieldLink R_Cy 11 (F_Cy 0).1 (F_Cy 0).2.1 (F_Cy 0).2.2.1 ∈ zm_all := (zt 103 (by decide +kernel) rfl)
theorem f_Cy_15 : zm_fw R_Cy 15 4 1 R_Cy F_Cy 4 := ⟨rfl, by decide, uin_Cy, Or.inl (zt 105 (by decide +kernel) rfl)⟩
theorem fl_Cy_15 : Cond.fieldLink R_Cy 15 (F_Cy 1).1 (F_Cy 1).2.1 (F_Cy 1).2.2.1 ∈ zm_all := (zt 105 (by decide +kernel) rfl)
theorem f_Cy_19 : zm_fw R_Cy 19 4 2 R_Cy F_Cy 4 := ⟨rfl, by decide, uin_Cy, Or.inl (zt 107 (by decide +kernel) rfl)⟩
theorem fl_Cy_19 : Cond.fieldLink R_Cy 19 (F_Cy 2).1 (F_Cy 2).2.1 (F_Cy 2).2.2.1 ∈ zm_all := (zt 107 (by decide +kernel) rfl)
theorem f_Cy_22 : zm_fw R_Cy 22 4 3 R_Cy F_Cy 4 := ⟨rfl, by decide, uin_Cy, Or.inl (zt 108 (by decide +kernel) rfl)⟩
theorem fl_Cy_22 : Cond.fieldLink R_Cy 22 (F_Cy 3).1 (F_Cy 3).2.1 (F_Cy 3).2.2.1 ∈ zm_all := (zt 108 (by decide +kernel) rfl)
theorem w_Cy_25 : zm_cw R_Cy 25 M_Cy_addList 1 := ⟨(zt 353 (by decide +kernel) rfl), (zt 6 (by decide +kernel) rfl), ⟨by decide, by decide, by decide +kernel⟩, by decide, Or.inl (zt 350 (by decide +kernel) rfl)⟩
theorem w_Cy_25k : Cond.instanceMethod M_Cy_addList.1 ∈ zm_all ∧ Cond.selects M_Cy_addList.1.cls M_Cy_addList.1 M_Cy_addList.1 ∈ zm_all := ⟨(zt 352 (by decide +kernel) rfl), (zs (y := y_Cy_addList) (n := 4) 8 (by decide +kernel))⟩
theorem f_Cy_29 : zm_fw R_Cy 29 2 1 R_Ed F_Ed 10 := ⟨rfl, by decide, uin_Ed, Or.inl (zt 56 (by decide +kernel) rfl)⟩
theorem fl_Cy_29 : Cond.fieldLink R_Cy 29 (F_Ed 1).1 (F_Ed 1).2.1 (F_Ed 1).2.2.1 ∈ zm_all := (zt 56 (by decide +kernel) rfl)
theorem f_Cy_34 : zm_fw R_Cy 34 2 2 R_Ed F_Ed 10 := ⟨rfl, by decide, uin_Ed, Or.inl (zt 59 (by decide +kernel) rfl)⟩
theorem fl_Cy_34 : Cond.fieldLink R_Cy 34 (F_Ed 2).1 (F_Ed 2).2.1 (F_Ed 2).2.2.1 ∈ zm_all := (zt 59 (by decide +kernel) rfl)
theorem w_Cy_37 : zm_cw R_Cy 37 M_CM_blocksIn 1 := ⟨(zt 376 (by decide +kernel) rfl), (zt 1 (by decide +kernel) rfl), ⟨by decide, by decide, by decide +kernel⟩, by decide, Or.inr ⟨_, ztn (w := Cond.methodLinkNest R_Cy 37 y_CM_blocksIn "CarouselMount") 374 (by decide +kernel)⟩⟩
theorem w_Cy_37k : Cond.static M_CM_blocksIn.1 ∈ zm_all := (zt 375 (by decide +kernel) rfl)
theorem w_Cy_41 : zm_cw R_Cy 41 M_Cy_addBlock 3 := ⟨(zt 380 (by decide +kernel) rfl), (zt 6 (by decide +kernel) rfl), ⟨by decide, by decide, by decide +kernel⟩, by decide, Or.inl (zt 377 (by decide +kernel) rfl)⟩
theorem w_Cy_41k : Cond.instanceMethod M_Cy_addBlock.1 ∈ zm_all ∧ Cond.selects M_Cy_addBlock.1.cls M_Cy_addBlock.1 M_Cy_addBlock.1 ∈ zm_all := ⟨(zt 379 (by decide +kernel) rfl), (zs (y := y_Cy_addBlock) (n := 4) 13 (by decide +kernel))⟩
theorem w_Cy_45 : zm_cw R_Cy 45 M_Cy_begin 2 := ⟨(zt 357 (by decide +kernel) rfl), (zt 6 (by decide +kernel) rfl), ⟨by decide, by decide, by decide +kernel⟩, by decide, Or.inl (zt 354 (by decide +kernel) rfl)⟩
theorem w_Cy_45k : Cond.instanceMethod M_Cy_begin.1 ∈ zm_all ∧ Cond.selects M_Cy_begin.1.cls M_Cy_begin.1 M_Cy_begin.1 ∈ zm_all := ⟨(zt 356 (by decide +kernel) rfl), (zs (y := y_Cy_begin) (n := 4) 9 (by decide +kernel))⟩
theorem f_Cy_49 : zm_fw R_Cy 49 2 0 R_Ed F_Ed 10 := ⟨rfl, by decide, uin_Ed, Or.inl (zt 53 (by decide +kernel) rfl)⟩
theorem fl_Cy_49 : Cond.fieldLink R_Cy 49 (F_Ed 0).1 (F_Ed 0).2.1 (F_Ed 0).2.2.1 ∈ zm_all := (zt 53 (by decide +kernel) rfl)
theorem w_Cy_52 : zm_cw R_Cy 52 M_Cy_writePair 1 := ⟨(zt 365 (by decide +kernel) rfl), (zt 6 (by decide +kernel) rfl), ⟨by decide, by decide, by decide +kernel⟩, by decide, Or.inl (zt 362 (by decide +kernel) rfl)⟩
theorem w_Cy_52k : Cond.instanceMethod M_Cy_writePair.1 ∈ zm_all ∧ Cond.selects M_Cy_writePair.1.cls M_Cy_writePair.1 M_Cy_writePair.1 ∈ zm_all := ⟨(zt 364 (by decide +kernel) rfl), (zs (y := y_Cy_writePair) (n := 4) 11 (by decide +kernel))⟩
theorem w_Cy_56 : zm_cw R_Cy 56 M_Cy_write 1 := ⟨(zt 361 (by decide +kernel) rfl), (zt 6 (by decide +kernel) rfl), ⟨by decide, by decide, by decide +kernel⟩, by decide, Or.inl (zt 358 (by decide +kernel) rfl)⟩
theorem w_Cy_56k : Cond.instanceMethod M_Cy_write.1 ∈ zm_all ∧ Cond.selects M_Cy_write.1.cls M_Cy_write.1 M_Cy_write.1 ∈ zm_all := ⟨(zt 360 (by decide +kernel) rfl), (zs (y := y_Cy_write) (n := 4) 10 (by decide +kernel))⟩
theorem f_Cy_59 : zm_fw R_Cy 59 2 3 R_Ed F_Ed 10 := ⟨rfl, by decide, uin_Ed, Or.inl (zt 62 (by decide +kernel) rfl)⟩
theorem fl_Cy_59 : Cond.fieldLink R_Cy 59 (F_Ed 3).1 (F_Ed 3).2.1 (F_Ed 3).2.2.1 ∈ zm_all := (zt 62 (by decide +kernel) rfl)
theorem w_Cy_62 : zm_cw R_Cy 62 M_Cy_writeCheck 0 := ⟨(zt 369 (by decide +kernel) rfl), (zt 6 (by decide +kernel) rfl), ⟨by decide, by decide, by decide +kernel⟩, by decide, Or.inl (zt 366 (by decide +kernel) rfl)⟩
theorem w_Cy_62k : Cond.instanceMethod M_Cy_writeCheck.1 ∈ zm_all ∧ Cond.selects M_Cy_writeCheck.1.cls M_Cy_writeCheck.1 M_Cy_writeCheck.1 ∈ zm_all := ⟨(zt 368 (by decide +kernel) rfl), (zs (y := y_Cy_writeCheck) (n := 4) 12 (by decide +kernel))⟩
theorem w_Cy_65 : zm_cw R_Cy 65 M_CM_blockLength 2 := ⟨(zt 383 (by decide +kernel) rfl), (zt 1 (by decide +kernel) rfl), ⟨by decide, by decide, by decide +kernel⟩, by decide, Or.inr ⟨_, ztn (w := Cond.methodLinkNest R_Cy 65 y_CM_blockLength "CarouselMount") 381 (by decide +kernel)⟩⟩
theorem w_Cy_65k : Cond.static M_CM_blockLength.1 ∈ zm_all := (zt 382 (by decide +kernel) rfl)
theorem w_Cy_69 : zm_cw R_Cy 69 M_Ed_byteAt 2 := ⟨(zt 338 (by decide +kernel) rfl), (zt 4 (by decide +kernel) rfl), ⟨by decide, by decide, by decide +kernel⟩, by decide, Or.inl (zt 384 (by decide +kernel) rfl)⟩
theorem w_Cy_69k : Cond.instanceMethod M_Ed_byteAt.1 ∈ zm_all ∧ Cond.selects M_Ed_byteAt.1.cls M_Ed_byteAt.1 M_Ed_byteAt.1 ∈ zm_all := ⟨(zt 336 (by decide +kernel) rfl), (zt 337 (by decide +kernel) rfl)⟩
theorem w_Cy_72 : zm_cw R_Cy 72 M_CM_checkOf 3 := ⟨(zt 372 (by decide +kernel) rfl), (zt 1 (by decide +kernel) rfl), ⟨by decide, by decide, by decide +kernel⟩, by decide, Or.inr ⟨_, ztn (w := Cond.methodLinkNest R_Cy 72 y_CM_checkOf "CarouselMount") 370 (by decide +kernel)⟩⟩
theorem w_Cy_72k : Cond.static M_CM_checkOf.1 ∈ zm_all := (zt 371 (by decide +kernel) rfl)
theorem oi_Ed_3 : Cond.methodLink R_Ed 3 Lib.objectInit ∈ zm_all ∧ Cond.instanceMethod Lib.objectInit ∈ zm_all ∧ Cond.code Lib.objectInit ⟨#[0xb1]⟩ 1 none ∈ zm_all := ⟨(zt 51 (by decide +kernel) rfl), (zt 18 (by decide +kernel) rfl), zt 19 rfl rfl⟩
theorem f_Ed_9 : zm_fw R_Ed 9 2 0 R_Ed F_Ed 10 := ⟨rfl, by decide, uin_Ed, Or.inl (zt 52 (by decide +kernel) rfl)⟩
theorem fl_Ed_9 : Cond.fieldLink R_Ed 9 (F_Ed 0).1 (F_Ed 0).2.1 (F_Ed 0).2.2.1 ∈ zm_all := (zt 52 (by decide +kernel) rfl)
theorem f_Ed_15 : zm_fw R_Ed 15 2 1 R_Ed F_Ed 10 := ⟨rfl, by decide, uin_Ed, Or.inl (zt 55 (by decide +kernel) rfl)⟩
theorem fl_Ed_15 : Cond.fieldLink R_Ed 15 (F_Ed 1).1 (F_Ed 1).2.1 (F_Ed 1).2.2.1 ∈ zm_all := (zt 55 (by decide +kernel) rfl)
theorem f_Ed_18 : zm_fw R_Ed 18 2 2 R_Ed F_Ed 10 := ⟨rfl, by decide, uin_Ed, Or.inl (zt 58 (by decide +kernel) rfl)⟩
theorem fl_Ed_18 : Cond.fieldLink R_Ed 18 (F_Ed 2).1 (F_Ed 2).2.1 (F_Ed 2).2.2.1 ∈ zm_all := (zt 58 (by decide +kernel) rfl)
theorem f_Ed_22 : zm_fw R_Ed 22 2 3 R_Ed F_Ed 10 := ⟨rfl, by decide, uin_Ed, Or.inl (zt 61 (by decide +kernel) rfl)⟩
theorem fl_Ed_22 : Cond.fieldLink R_Ed 22 (F_Ed 3).1 (F_Ed 3).2.1 (F_Ed 3).2.2.1 ∈ zm_all := (zt 61 (by decide +kernel) rfl)
theorem f_Ed_25 : zm_fw R_Ed 25 2 4 R_Ed F_Ed 10 := ⟨rfl, by decide, uin_Ed, Or.inl (zt 64 (by decide +kernel) rfl)⟩
theorem fl_Ed_25 : Cond.fieldLink R_Ed 25 (F_Ed 4).1 (F_Ed 4).2.1 (F_Ed 4).2.2.1 ∈ zm_all := (zt 64 (by decide +kernel) rfl)
theorem f_Ed_28 : zm_fw R_Ed 28 2 5 R_Ed F_Ed 10 := ⟨rfl, by decide, uin_Ed, Or.inl (zt 65 (by decide +kernel) rfl)⟩
theorem fl_Ed_28 : Cond.fieldLink R_Ed 28 (F_Ed 5).1 (F_Ed 5).2.1 (F_Ed 5).2.2.1 ∈ zm_all := (zt 65 (by decide +kernel) rfl)
theorem f_Ed_31 : zm_fw R_Ed 31 2 6 R_Ed F_Ed 10 := ⟨rfl, by decide, uin_Ed, Or.inl (zt 66 (by decide +kernel) rfl)⟩
theorem fl_Ed_31 : Cond.fieldLink R_Ed 31 (F_Ed 6).1 (F_Ed 6).2.1 (F_Ed 6).2.2.1 ∈ zm_all := (zt 66 (by decide +kernel) rfl)
theorem f_Ed_34 : zm_fw R_Ed 34 2 7 R_Ed F_Ed 10 := ⟨rfl, by decide, uin_Ed, Or.inl (zt 67 (by decide +kernel) rfl)⟩
theorem fl_Ed_34 : Cond.fieldLink R_Ed 34 (F_Ed 7).1 (F_Ed 7).2.1 (F_Ed 7).2.2.1 ∈ zm_all := (zt 67 (by decide +kernel) rfl)
theorem f_Ed_37 : zm_fw R_Ed 37 2 8 R_Ed F_Ed 10 := ⟨rfl, by decide, uin_Ed, Or.inl (zt 68 (by decide +kernel) rfl)⟩
theorem fl_Ed_37 : Cond.fieldLink R_Ed 37 (F_Ed 8).1 (F_Ed 8).2.1 (F_Ed 8).2.2.1 ∈ zm_all := (zt 68 (by decide +kernel) rfl)
theorem f_Ed_40 : zm_fw R_Ed 40 2 9 R_Ed F_Ed 10 := ⟨rfl, by decide, uin_Ed, Or.inl (zt 69 (by decide +kernel) rfl)⟩
theorem fl_Ed_40 : Cond.fieldLink R_Ed 40 (F_Ed 9).1 (F_Ed 9).2.1 (F_Ed 9).2.2.1 ∈ zm_all := (zt 69 (by decide +kernel) rfl)
theorem w_Ed_43 : zm_cw R_Ed 43 M_Ed_arrange 1 := ⟨(zt 277 (by decide +kernel) rfl), (zt 4 (by decide +kernel) rfl), ⟨by decide, by decide, by decide +kernel⟩, by decide, Or.inl (zt 274 (by decide +kernel) rfl)⟩
theorem w_Ed_43k : Cond.instanceMethod M_Ed_arrange.1 ∈ zm_all ∧ Cond.selects M_Ed_arrange.1.cls M_Ed_arrange.1 M_Ed_arrange.1 ∈ zm_all := ⟨(zt 276 (by decide +kernel) rfl), (zs (y := y_Ed_arrange) (n := 10) 0 (by decide +kernel))⟩
theorem w_Ed_47 : zm_cw R_Ed 47 M_Ed_assignModules 1 := ⟨(zt 289 (by decide +kernel) rfl), (zt 4 (by decide +kernel) rfl), ⟨by decide, by decide, by decide +kernel⟩, by decide, Or.inl (zt 286 (by decide +kernel) rfl)⟩
theorem w_Ed_47k : Cond.instanceMethod M_Ed_assignModules.1 ∈ zm_all ∧ Cond.selects M_Ed_assignModules.1.cls M_Ed_assignModules.1 M_Ed_assignModules.1 ∈ zm_all := ⟨(zt 288 (by decide +kernel) rfl), (zs (y := y_Ed_assignModules) (n := 10) 1 (by decide +kernel))⟩
theorem w_Ed_51 : zm_cw R_Ed 51 M_Ed_draftModule 2 := ⟨(zt 299 (by decide +kernel) rfl), (zt 4 (by decide +kernel) rfl), ⟨by decide, by decide, by decide +kernel⟩, by decide, Or.inl (zt 296 (by decide +kernel) rfl)⟩
theorem w_Ed_51k : Cond.instanceMethod M_Ed_draftModule.1 ∈ zm_all ∧ Cond.selects M_Ed_draftModule.1.cls M_Ed_draftModule.1 M_Ed_draftModule.1 ∈ zm_all := ⟨(zt 298 (by decide +kernel) rfl), (zs (y := y_Ed_draftModule) (n := 10) 2 (by decide +kernel))⟩
theorem w_Ed_55 : zm_cw R_Ed 55 M_Ed_keepDraft 1 := ⟨(zt 330 (by decide +kernel) rfl), (zt 4 (by decide +kernel) rfl), ⟨by decide, by decide, by decide +kernel⟩, by decide, Or.inl (zt 327 (by decide +kernel) rfl)⟩
theorem w_Ed_55k : Cond.instanceMethod M_Ed_keepDraft.1 ∈ zm_all ∧ Cond.selects M_Ed_keepDraft.1.cls M_Ed_keepDraft.1 M_Ed_keepDraft.1 ∈ zm_all := ⟨(zt 329 (by decide +kernel) rfl), (zs (y := y_Ed_keepDraft) (n := 10) 6 (by decide +kernel))⟩
theorem w_Ed_59 : zm_cw R_Ed 59 M_Tree_followerOf 1 := ⟨(zt 281 (by decide +kernel) rfl), (zt 2 (by decide +kernel) rfl), ⟨by decide, by decide, by decide +kernel⟩, by decide, Or.inl (zt 278 (by decide +kernel) rfl)⟩
theorem w_Ed_59k : Cond.instanceMethod M_Tree_followerOf.1 ∈ zm_all ∧ Cond.selects M_Tree_followerOf.1.cls M_Tree_followerOf.1 M_Tree_followerOf.1 ∈ zm_all := ⟨(zt 279 (by decide +kernel) rfl), (zt 280 (by decide +kernel) rfl)⟩
theorem w_Ed_65 : zm_cw R_Ed 65 M_Tree_messageLength 1 := ⟨(zt 293 (by decide +kernel) rfl), (zt 2 (by decide +kernel) rfl), ⟨by decide, by decide, by decide +kernel⟩, by decide, Or.inl (zt 290 (by decide +kernel) rfl)⟩
theorem w_Ed_65k : Cond.instanceMethod M_Tree_messageLength.1 ∈ zm_all ∧ Cond.selects M_Tree_messageLength.1.cls M_Tree_messageLength.1 M_Tree_messageLength.1 ∈ zm_all := ⟨(zt 291 (by decide +kernel) rfl), (zt 292 (by decide +kernel) rfl)⟩
theorem w_Ed_68 : zm_cw R_Ed 68 M_Ed_draftMessage 2 := ⟨(zt 303 (by decide +kernel) rfl), (zt 4 (by decide +kernel) rfl), ⟨by decide, by decide, by decide +kernel⟩, by decide, Or.inl (zt 300 (by decide +kernel) rfl)⟩
theorem w_Ed_68k : Cond.instanceMethod M_Ed_draftMessage.1 ∈ zm_all ∧ Cond.selects M_Ed_draftMessage.1.cls M_Ed_draftMessage.1 M_Ed_draftMessage.1 ∈ zm_all := ⟨(zt 302 (by decide +kernel) rfl), (zs (y := y_Ed_draftMessage) (n := 10) 3 (by decide +kernel))⟩
theorem w_Ed_71 : zm_cw R_Ed 71 M_Tree_kindOf 1 := ⟨(zt 307 (by decide +kernel) rfl), (zt 2 (by decide +kernel) rfl), ⟨by decide, by decide, by decide +kernel⟩, by decide, Or.inl (zt 304 (by decide +kernel) rfl)⟩
theorem w_Ed_71k : Cond.instanceMethod M_Tree_kindOf.1 ∈ zm_all ∧ Cond.selects M_Tree_kindOf.1.cls M_Tree_kindOf.1 M_Tree_kindOf.1 ∈ zm_all := ⟨(zt 305 (by decide +kernel) rfl), (zt 306 (by decide +kernel) rfl)⟩
theorem w_Ed_74 : zm_cw R_Ed 74 M_Ed_write 1 := ⟨(zt 311 (by decide +kernel) rfl), (zt 4 (by decide +kernel) rfl), ⟨by decide, by decide, by decide +kernel⟩, by decide, Or.inl (zt 308 (by decide +kernel) rfl)⟩
theorem w_Ed_74k : Cond.instanceMethod M_Ed_write.1 ∈ zm_all ∧ Cond.selects M_Ed_write.1.cls M_Ed_write.1 M_Ed_write.1 ∈ zm_all := ⟨(zt 310 (by decide +kernel) rfl), (zs (y := y_Ed_write) (n := 10) 4 (by decide +kernel))⟩
theorem w_Ed_77 : zm_cw R_Ed 77 M_Tree_isFile 1 := ⟨(zt 249 (by decide +kernel) rfl), (zt 2 (by decide +kernel) rfl), ⟨by decide, by decide, by decide +kernel⟩, by decide, Or.inl (zt 312 (by decide +kernel) rfl)⟩
theorem w_Ed_77k : Cond.instanceMethod M_Tree_isFile.1 ∈ zm_all ∧ Cond.selects M_Tree_isFile.1.cls M_Tree_isFile.1 M_Tree_isFile.1 ∈ zm_all := ⟨(zt 247 (by decide +kernel) rfl), (zt 248 (by decide +kernel) rfl)⟩
theorem w_Ed_81 : zm_cw R_Ed 81 M_Tree_fileLength 1 := ⟨(zt 253 (by decide +kernel) rfl), (zt 2 (by decide +kernel) rfl), ⟨by decide, by decide, by decide +kernel⟩, by decide, Or.inl (zt 313 (by decide +kernel) rfl)⟩
theorem w_Ed_81k : Cond.instanceMethod M_Tree_fileLength.1 ∈ zm_all ∧ Cond.selects M_Tree_fileLength.1.cls M_Tree_fileLength.1 M_Tree_fileLength.1 ∈ zm_all := ⟨(zt 251 (by decide +kernel) rfl), (zt 252 (by decide +kernel) rfl)⟩
theorem w_Ed_84 : zm_cw R_Ed 84 M_Tree_fileByte 2 := ⟨(zt 317 (by decide +kernel) rfl), (zt 2 (by decide +kernel) rfl), ⟨by decide, by decide, by decide +kernel⟩, by decide, Or.inl (zt 314 (by decide +kernel) rfl)⟩
theorem w_Ed_84k : Cond.instanceMethod M_Tree_fileByte.1 ∈ zm_all ∧ Cond.selects M_Tree_fileByte.1.cls M_Tree_fileByte.1 M_Tree_fileByte.1 ∈ zm_all := ⟨(zt 315 (by decide +kernel) rfl), (zt 316 (by decide +kernel) rfl)⟩
theorem w_Ed_88 : zm_cw R_Ed 88 M_Ed_draftEntries 2 := ⟨(zt 321 (by decide +kernel) rfl), (zt 4 (by decide +kernel) rfl), ⟨by decide, by decide, by decide +kernel⟩, by decide, Or.inl (zt 318 (by decide +kernel) rfl)⟩
theorem w_Ed_88k : Cond.instanceMethod M_Ed_draftEntries.1 ∈ zm_all ∧ Cond.selects M_Ed_draftEntries.1.cls M_Ed_draftEntries.1 M_Ed_draftEntries.1 ∈ zm_all := ⟨(zt 320 (by decide +kernel) rfl), (zs (y := y_Ed_draftEntries) (n := 10) 5 (by decide +kernel))⟩
theorem w_Ed_91 : zm_cw R_Ed 91 M_Tree_entryAfter 2 := ⟨(zt 285 (by decide +kernel) rfl), (zt 2 (by decide +kernel) rfl), ⟨by decide, by decide, by decide +kernel⟩, by decide, Or.inl (zt 322 (by decide +kernel) rfl)⟩
theorem w_Ed_91k : Cond.instanceMethod M_Tree_entryAfter.1 ∈ zm_all ∧ Cond.selects M_Tree_entryAfter.1.cls M_Tree_entryAfter.1 M_Tree_entryAfter.1 ∈ zm_all := ⟨(zt 283 (by decide +kernel) rfl), (zt 284 (by decide +kernel) rfl)⟩
theorem w_Ed_94 : zm_cw R_Ed 94 M_Tree_nameOf 1 := ⟨(zt 326 (by decide +kernel) rfl), (zt 2 (by decide +kernel) rfl), ⟨by decide, by decide, by decide +kernel⟩, by decide, Or.inl (zt 323 (by decide +kernel) rfl)⟩
theorem w_Ed_94k : Cond.instanceMethod M_Tree_nameOf.1 ∈ zm_all ∧ Cond.selects M_Tree_nameOf.1.cls M_Tree_nameOf.1 M_Tree_nameOf.1 ∈ zm_all := ⟨(zt 324 (by decide +kernel) rfl), (zt 325 (by decide +kernel) rfl)⟩
theorem w_Ed_97 : zm_cw R_Ed 97 M_Ed_draftEquals 1 := ⟨(zt 334 (by decide +kernel) rfl), (zt 4 (by decide +kernel) rfl), ⟨by decide, by decide, by decide +kernel⟩, by decide, Or.inl (zt 331 (by decide +kernel) rfl)⟩
theorem w_Ed_97k : Cond.instanceMethod M_Ed_draftEquals.1 ∈ zm_all ∧ Cond.selects M_Ed_draftEquals.1.cls M_Ed_draftEquals.1 M_Ed_draftEquals.1 ∈ zm_all := ⟨(zt 333 (by decide +kernel) rfl), (zs (y := y_Ed_draftEquals) (n := 10) 7 (by decide +kernel))⟩
theorem acw_Ed : Cond.methodLink R_Ed 100 arraycopyName ∈ zm_all ∧ Cond.native arraycopyName ∈ zm_all ∧ Cond.static arraycopyName ∈ zm_all ∧ Cond.initialized "java/lang/System" ∈ zm_all := ⟨(zt 339 (by decide +kernel) rfl), (zt 341 (by decide +kernel) rfl), (zt 340 (by decide +kernel) rfl), (zt 10 (by decide +kernel) rfl)⟩
theorem w_Ed_106 : zm_cw R_Ed 106 M_Ed_byteAt 2 := ⟨(zt 338 (by decide +kernel) rfl), (zt 4 (by decide +kernel) rfl), ⟨by decide, by decide, by decide +kernel⟩, by decide, Or.inl (zt 335 (by decide +kernel) rfl)⟩
theorem w_Ed_106k : Cond.instanceMethod M_Ed_byteAt.1 ∈ zm_all ∧ Cond.selects M_Ed_byteAt.1.cls M_Ed_byteAt.1 M_Ed_byteAt.1 ∈ zm_all := ⟨(zt 336 (by decide +kernel) rfl), (zt 337 (by decide +kernel) rfl)⟩
theorem oi_Mt_3 : Cond.methodLink R_Mt 3 Lib.objectInit ∈ zm_all ∧ Cond.instanceMethod Lib.objectInit ∈ zm_all ∧ Cond.code Lib.objectInit ⟨#[0xb1]⟩ 1 none ∈ zm_all := ⟨(zt 146 (by decide +kernel) rfl), (zt 18 (by decide +kernel) rfl), zt 19 rfl rfl⟩
theorem f_Mt_9 : zm_fw R_Mt 9 6 0 R_Mt F_Mt 6 := ⟨rfl, by decide, uin_Mt, Or.inl (zt 147 (by decide +kernel) rfl)⟩
theorem fl_Mt_9 : Cond.fieldLink R_Mt 9 (F_Mt 0).1 (F_Mt 0).2.1 (F_Mt 0).2.2.1 ∈ zm_all := (zt 147 (by decide +kernel) rfl)
theorem f_Mt_15 : zm_fw R_Mt 15 6 1 R_Mt F_Mt 6 := ⟨rfl, by decide, uin_Mt, Or.inl (zt 149 (by decide +kernel) rfl)⟩
theorem fl_Mt_15 : Cond.fieldLink R_Mt 15 (F_Mt 1).1 (F_Mt 1).2.1 (F_Mt 1).2.2.1 ∈ zm_all := (zt 149 (by decide +kernel) rfl)
theorem f_Mt_19 : zm_fw R_Mt 19 6 2 R_Mt F_Mt 6 := ⟨rfl, by decide, uin_Mt, Or.inl (zt 151 (by decide +kernel) rfl)⟩
theorem fl_Mt_19 : Cond.fieldLink R_Mt 19 (F_Mt 2).1 (F_Mt 2).2.1 (F_Mt 2).2.2.1 ∈ zm_all := (zt 151 (by decide +kernel) rfl)
theorem f_Mt_23 : zm_fw R_Mt 23 6 3 R_Mt F_Mt 6 := ⟨rfl, by decide, uin_Mt, Or.inl (zt 152 (by decide +kernel) rfl)⟩
theorem fl_Mt_23 : Cond.fieldLink R_Mt 23 (F_Mt 3).1 (F_Mt 3).2.1 (F_Mt 3).2.2.1 ∈ zm_all := (zt 152 (by decide +kernel) rfl)
theorem f_Mt_26 : zm_fw R_Mt 26 6 4 R_Mt F_Mt 6 := ⟨rfl, by decide, uin_Mt, Or.inl (zt 153 (by decide +kernel) rfl)⟩
theorem fl_Mt_26 : Cond.fieldLink R_Mt 26 (F_Mt 4).1 (F_Mt 4).2.1 (F_Mt 4).2.2.1 ∈ zm_all := (zt 153 (by decide +kernel) rfl)
theorem f_Mt_29 : zm_fw R_Mt 29 6 5 R_Mt F_Mt 6 := ⟨rfl, by decide, uin_Mt, Or.inl (zt 154 (by decide +kernel) rfl)⟩
theorem fl_Mt_29 : Cond.fieldLink R_Mt 29 (F_Mt 5).1 (F_Mt 5).2.1 (F_Mt 5).2.2.1 ∈ zm_all := (zt 154 (by decide +kernel) rfl)
theorem w_Mt_32 : zm_cw R_Mt 32 M_Mt_relist 3 := ⟨(zt 458 (by decide +kernel) rfl), (zt 8 (by decide +kernel) rfl), ⟨by decide, by decide, by decide +kernel⟩, by decide, Or.inl (zt 455 (by decide +kernel) rfl)⟩
theorem w_Mt_32k : Cond.instanceMethod M_Mt_relist.1 ∈ zm_all ∧ Cond.selects M_Mt_relist.1.cls M_Mt_relist.1 M_Mt_relist.1 ∈ zm_all := ⟨(zt 457 (by decide +kernel) rfl), (zs (y := y_Mt_relist) (n := 6) 22 (by decide +kernel))⟩
theorem w_Mt_36 : zm_cw R_Mt 36 M_CM_pairAt 2 := ⟨(zt 444 (by decide +kernel) rfl), (zt 1 (by decide +kernel) rfl), ⟨by decide, by decide, by decide +kernel⟩, by decide, Or.inr ⟨_, ztn (w := Cond.methodLinkNest R_Mt 36 y_CM_pairAt "CarouselMount") 454 (by decide +kernel)⟩⟩
theorem w_Mt_36k : Cond.static M_CM_pairAt.1 ∈ zm_all := (zt 443 (by decide +kernel) rfl)
theorem w_Mt_40 : zm_cw R_Mt 40 M_Mt_isListed 1 := ⟨(zt 470 (by decide +kernel) rfl), (zt 8 (by decide +kernel) rfl), ⟨by decide, by decide, by decide +kernel⟩, by decide, Or.inl (zt 467 (by decide +kernel) rfl)⟩
theorem w_Mt_40k : Cond.instanceMethod M_Mt_isListed.1 ∈ zm_all ∧ Cond.selects M_Mt_isListed.1.cls M_Mt_isListed.1 M_Mt_isListed.1 ∈ zm_all := ⟨(zt 468 (by decide +kernel) rfl), (zt 469 (by decide +kernel) rfl)⟩
theorem w_Mt_44 : zm_cw R_Mt 44 M_CM_blocksIn 1 := ⟨(zt 376 (by decide +kernel) rfl), (zt 1 (by decide +kernel) rfl), ⟨by decide, by decide, by decide +kernel⟩, by decide, Or.inr ⟨_, ztn (w := Cond.methodLinkNest R_Mt 44 y_CM_blocksIn "CarouselMount") 471 (by decide +kernel)⟩⟩
theorem w_Mt_44k : Cond.static M_CM_blocksIn.1 ∈ zm_all := (zt 375 (by decide +kernel) rfl)
theorem w_Mt_48 : zm_cw R_Mt 48 M_CM_blockLength 2 := ⟨(zt 383 (by decide +kernel) rfl), (zt 1 (by decide +kernel) rfl), ⟨by decide, by decide, by decide +kernel⟩, by decide, Or.inr ⟨_, ztn (w := Cond.methodLinkNest R_Mt 48 y_CM_blockLength "CarouselMount") 472 (by decide +kernel)⟩⟩
theorem w_Mt_48k : Cond.static M_CM_blockLength.1 ∈ zm_all := (zt 382 (by decide +kernel) rfl)
theorem acw_Mt : Cond.methodLink R_Mt 52 arraycopyName ∈ zm_all ∧ Cond.native arraycopyName ∈ zm_all ∧ Cond.static arraycopyName ∈ zm_all ∧ Cond.initialized "java/lang/System" ∈ zm_all := ⟨(zt 473 (by decide +kernel) rfl), (zt 341 (by decide +kernel) rfl), (zt 340 (by decide +kernel) rfl), (zt 10 (by decide +kernel) rfl)⟩
theorem w_Mt_58 : zm_cw R_Mt 58 M_Int_bitCount 1 := ⟨(zt 522 (by decide +kernel) rfl), (zt 11 (by decide +kernel) rfl), ⟨by decide, by decide, by decide +kernel⟩, by decide, Or.inl (zt 520 (by decide +kernel) rfl)⟩
theorem w_Mt_58k : Cond.static M_Int_bitCount.1 ∈ zm_all := (zt 521 (by decide +kernel) rfl)
theorem w_Mt_63 : zm_cw R_Mt 63 M_Mt_blocksHeld 1 := ⟨(zt 519 (by decide +kernel) rfl), (zt 8 (by decide +kernel) rfl), ⟨by decide, by decide, by decide +kernel⟩, by decide, Or.inl (zt 542 (by decide +kernel) rfl)⟩
theorem w_Mt_63k : Cond.instanceMethod M_Mt_blocksHeld.1 ∈ zm_all ∧ Cond.selects M_Mt_blocksHeld.1.cls M_Mt_blocksHeld.1 M_Mt_blocksHeld.1 ∈ zm_all := ⟨(zt 517 (by decide +kernel) rfl), (zt 518 (by decide +kernel) rfl)⟩
theorem w_Mt_66 : zm_cw R_Mt 66 M_Mt_obstacle 1 := ⟨(zt 541 (by decide +kernel) rfl), (zt 8 (by decide +kernel) rfl), ⟨by decide, by decide, by decide +kernel⟩, by decide, Or.inl (zt 538 (by decide +kernel) rfl)⟩
theorem w_Mt_66k : Cond.instanceMethod M_Mt_obstacle.1 ∈ zm_all ∧ Cond.selects M_Mt_obstacle.1.cls M_Mt_obstacle.1 M_Mt_obstacle.1 ∈ zm_all := ⟨(zt 540 (by decide +kernel) rfl), (zs (y := y_Mt_obstacle) (n := 6) 26 (by decide +kernel))⟩
theorem w_Mt_69 : zm_cw R_Mt 69 M_Mt_fits 2 := ⟨(zt 546 (by decide +kernel) rfl), (zt 8 (by decide +kernel) rfl), ⟨by decide, by decide, by decide +kernel⟩, by decide, Or.inl (zt 543 (by decide +kernel) rfl)⟩
theorem w_Mt_69k : Cond.instanceMethod M_Mt_fits.1 ∈ zm_all ∧ Cond.selects M_Mt_fits.1.cls M_Mt_fits.1 M_Mt_fits.1 ∈ zm_all := ⟨(zt 545 (by decide +kernel) rfl), (zs (y := y_Mt_fits) (n := 6) 27 (by decide +kernel))⟩
theorem w_Mt_73 : zm_cw R_Mt 73 M_Mt_kindAt 1 := ⟨(zt 554 (by decide +kernel) rfl), (zt 8 (by decide +kernel) rfl), ⟨by decide, by decide, by decide +kernel⟩, by decide, Or.inl (zt 551 (by decide +kernel) rfl)⟩
theorem w_Mt_73k : Cond.instanceMethod M_Mt_kindAt.1 ∈ zm_all ∧ Cond.selects M_Mt_kindAt.1.cls M_Mt_kindAt.1 M_Mt_kindAt.1 ∈ zm_all := ⟨(zt 552 (by decide +kernel) rfl), (zt 553 (by decide +kernel) rfl)⟩
theorem w_Mt_76 : zm_cw R_Mt 76 M_Mt_isDirectoryAt 1 := ⟨(zt 562 (by decide +kernel) rfl), (zt 8 (by decide +kernel) rfl), ⟨by decide, by decide, by decide +kernel⟩, by decide, Or.inl (zt 559 (by decide +kernel) rfl)⟩
theorem w_Mt_76k : Cond.instanceMethod M_Mt_isDirectoryAt.1 ∈ zm_all ∧ Cond.selects M_Mt_isDirectoryAt.1.cls M_Mt_isDirectoryAt.1 M_Mt_isDirectoryAt.1 ∈ zm_all := ⟨(zt 560 (by decide +kernel) rfl), (zt 561 (by decide +kernel) rfl)⟩
theorem w_Mt_79 : zm_cw R_Mt 79 M_Mt_lengthAt 1 := ⟨(zt 550 (by decide +kernel) rfl), (zt 8 (by decide +kernel) rfl), ⟨by decide, by decide, by decide +kernel⟩, by decide, Or.inl (zt 547 (by decide +kernel) rfl)⟩
theorem w_Mt_79k : Cond.instanceMethod M_Mt_lengthAt.1 ∈ zm_all ∧ Cond.selects M_Mt_lengthAt.1.cls M_Mt_lengthAt.1 M_Mt_lengthAt.1 ∈ zm_all := ⟨(zt 548 (by decide +kernel) rfl), (zt 549 (by decide +kernel) rfl)⟩
theorem w_Mt_82 : zm_cw R_Mt 82 M_Mt_messageWithKey 2 := ⟨(zt 566 (by decide +kernel) rfl), (zt 8 (by decide +kernel) rfl), ⟨by decide, by decide, by decide +kernel⟩, by decide, Or.inl (zt 563 (by decide +kernel) rfl)⟩
theorem w_Mt_82k : Cond.instanceMethod M_Mt_messageWithKey.1 ∈ zm_all ∧ Cond.selects M_Mt_messageWithKey.1.cls M_Mt_messageWithKey.1 M_Mt_messageWithKey.1 ∈ zm_all := ⟨(zt 565 (by decide +kernel) rfl), (zs (y := y_Mt_messageWithKey) (n := 6) 28 (by decide +kernel))⟩
theorem oi_Rc_3 : Cond.methodLink R_Rc 3 Lib.objectInit ∈ zm_all ∧ Cond.instanceMethod Lib.objectInit ∈ zm_all ∧ Cond.code Lib.objectInit ⟨#[0xb1]⟩ 1 none ∈ zm_all := ⟨(zt 140 (by decide +kernel) rfl), (zt 18 (by decide +kernel) rfl), zt 19 rfl rfl⟩
theorem nw_Rc_9 : Cond.classLink R_Rc 9 R_Mt ∈ zm_all ∧ Cond.instantiable R_Mt 6 ∈ zm_all ∧ Cond.initialized R_Mt ∈ zm_all := ⟨(zt 141 (by decide +kernel) rfl), (zt 142 (by decide +kernel) rfl), (zt 8 (by decide +kernel) rfl)⟩
theorem w_Rc_11 : zm_cw R_Rc 11 M_Mt_init 0 := ⟨(zt 145 (by decide +kernel) rfl), (zt 8 (by decide +kernel) rfl), ⟨by decide, by decide, by decide +kernel⟩, by decide, Or.inr ⟨_, ztn (w := Cond.methodLinkNest R_Rc 11 y_Mt_init "CarouselMount") 143 (by decide +kernel)⟩⟩
theorem w_Rc_11k : Cond.instanceMethod M_Mt_init.1 ∈ zm_all := (zt 144 (by decide +kernel) rfl)
theorem f_Rc_12 : zm_fw R_Rc 12 5 0 R_Rc F_Rc 5 := ⟨rfl, by decide, uin_Rc, Or.inl (zt 168 (by decide +kernel) rfl)⟩
theorem fl_Rc_12 : Cond.fieldLink R_Rc 12 (F_Rc 0).1 (F_Rc 0).2.1 (F_Rc 0).2.2.1 ∈ zm_all := (zt 168 (by decide +kernel) rfl)
theorem f_Rc_18 : zm_fw R_Rc 18 5 1 R_Rc F_Rc 5 := ⟨rfl, by decide, uin_Rc, Or.inl (zt 170 (by decide +kernel) rfl)⟩
theorem fl_Rc_18 : Cond.fieldLink R_Rc 18 (F_Rc 1).1 (F_Rc 1).2.1 (F_Rc 1).2.2.1 ∈ zm_all := (zt 170 (by decide +kernel) rfl)
theorem f_Rc_22 : zm_fw R_Rc 22 5 2 R_Rc F_Rc 5 := ⟨rfl, by decide, uin_Rc, Or.inl (zt 172 (by decide +kernel) rfl)⟩
theorem fl_Rc_22 : Cond.fieldLink R_Rc 22 (F_Rc 2).1 (F_Rc 2).2.1 (F_Rc 2).2.2.1 ∈ zm_all := (zt 172 (by decide +kernel) rfl)
theorem f_Rc_25 : zm_fw R_Rc 25 5 3 R_Rc F_Rc 5 := ⟨rfl, by decide, uin_Rc, Or.inl (zt 173 (by decide +kernel) rfl)⟩
theorem fl_Rc_25 : Cond.fieldLink R_Rc 25 (F_Rc 3).1 (F_Rc 3).2.1 (F_Rc 3).2.2.1 ∈ zm_all := (zt 173 (by decide +kernel) rfl)
theorem f_Rc_29 : zm_fw R_Rc 29 5 4 R_Rc F_Rc 5 := ⟨rfl, by decide, uin_Rc, Or.inl (zt 174 (by decide +kernel) rfl)⟩
theorem fl_Rc_29 : Cond.fieldLink R_Rc 29 (F_Rc 4).1 (F_Rc 4).2.1 (F_Rc 4).2.2.1 ∈ zm_all := (zt 174 (by decide +kernel) rfl)
theorem w_Rc_32 : zm_cw R_Rc 32 M_Mt_reset 0 := ⟨(zt 501 (by decide +kernel) rfl), (zt 8 (by decide +kernel) rfl), ⟨by decide, by decide, by decide +kernel⟩, by decide, Or.inl (zt 498 (by decide +kernel) rfl)⟩
theorem w_Rc_32k : Cond.instanceMethod M_Mt_reset.1 ∈ zm_all ∧ Cond.selects M_Mt_reset.1.cls M_Mt_reset.1 M_Mt_reset.1 ∈ zm_all := ⟨(zt 499 (by decide +kernel) rfl), (zt 500 (by decide +kernel) rfl)⟩
theorem w_Rc_35 : zm_cw R_Rc 35 M_Arr_fill 2 := ⟨(zt 28 (by decide +kernel) rfl), (zt 3 (by decide +kernel) rfl), ⟨by decide, by decide, by decide +kernel⟩, by decide, Or.inl (zt 502 (by decide +kernel) rfl)⟩
theorem w_Rc_35k : Cond.static M_Arr_fill.1 ∈ zm_all := (zt 27 (by decide +kernel) rfl)
theorem w_Rc_41 : zm_cw R_Rc 41 M_Rc_throwAway 0 := ⟨(zt 425 (by decide +kernel) rfl), (zt 7 (by decide +kernel) rfl), ⟨by decide, by decide, by decide +kernel⟩, by decide, Or.inl (zt 422 (by decide +kernel) rfl)⟩
theorem w_Rc_41k : Cond.instanceMethod M_Rc_throwAway.1 ∈ zm_all ∧ Cond.selects M_Rc_throwAway.1.cls M_Rc_throwAway.1 M_Rc_throwAway.1 ∈ zm_all := ⟨(zt 424 (by decide +kernel) rfl), (zs (y := y_Rc_throwAway) (n := 5) 16 (by decide +kernel))⟩
theorem w_Rc_44 : zm_cw R_Rc 44 M_Rc_continueSection 3 := ⟨(zt 429 (by decide +kernel) rfl), (zt 7 (by decide +kernel) rfl), ⟨by decide, by decide, by decide +kernel⟩, by decide, Or.inl (zt 426 (by decide +kernel) rfl)⟩
theorem w_Rc_44k : Cond.instanceMethod M_Rc_continueSection.1 ∈ zm_all ∧ Cond.selects M_Rc_continueSection.1.cls M_Rc_continueSection.1 M_Rc_continueSection.1 ∈ zm_all := ⟨(zt 428 (by decide +kernel) rfl), (zs (y := y_Rc_continueSection) (n := 5) 17 (by decide +kernel))⟩
theorem w_Rc_48 : zm_cw R_Rc 48 M_Rc_beginSections 2 := ⟨(zt 477 (by decide +kernel) rfl), (zt 7 (by decide +kernel) rfl), ⟨by decide, by decide, by decide +kernel⟩, by decide, Or.inl (zt 474 (by decide +kernel) rfl)⟩
theorem w_Rc_48k : Cond.instanceMethod M_Rc_beginSections.1 ∈ zm_all ∧ Cond.selects M_Rc_beginSections.1.cls M_Rc_beginSections.1 M_Rc_beginSections.1 ∈ zm_all := ⟨(zt 476 (by decide +kernel) rfl), (zs (y := y_Rc_beginSections) (n := 5) 24 (by decide +kernel))⟩
theorem w_Rc_51 : zm_cw R_Rc 51 M_Rc_collect 1 := ⟨(zt 433 (by decide +kernel) rfl), (zt 7 (by decide +kernel) rfl), ⟨by decide, by decide, by decide +kernel⟩, by decide, Or.inl (zt 430 (by decide +kernel) rfl)⟩
theorem w_Rc_51k : Cond.instanceMethod M_Rc_collect.1 ∈ zm_all ∧ Cond.selects M_Rc_collect.1.cls M_Rc_collect.1 M_Rc_collect.1 ∈ zm_all := ⟨(zt 432 (by decide +kernel) rfl), (zs (y := y_Rc_collect) (n := 5) 18 (by decide +kernel))⟩
theorem w_Rc_55 : zm_cw R_Rc 55 M_Rc_judge 1 := ⟨(zt 437 (by decide +kernel) rfl), (zt 7 (by decide +kernel) rfl), ⟨by decide, by decide, by decide +kernel⟩, by decide, Or.inl (zt 434 (by decide +kernel) rfl)⟩
theorem w_Rc_55k : Cond.instanceMethod M_Rc_judge.1 ∈ zm_all ∧ Cond.selects M_Rc_judge.1.cls M_Rc_judge.1 M_Rc_judge.1 ∈ zm_all := ⟨(zt 436 (by decide +kernel) rfl), (zs (y := y_Rc_judge) (n := 5) 19 (by decide +kernel))⟩
theorem w_Rc_59 : zm_cw R_Rc 59 M_Rc_hasCheckDue 1 := ⟨(zt 441 (by decide +kernel) rfl), (zt 7 (by decide +kernel) rfl), ⟨by decide, by decide, by decide +kernel⟩, by decide, Or.inl (zt 438 (by decide +kernel) rfl)⟩
theorem w_Rc_59k : Cond.instanceMethod M_Rc_hasCheckDue.1 ∈ zm_all ∧ Cond.selects M_Rc_hasCheckDue.1.cls M_Rc_hasCheckDue.1 M_Rc_hasCheckDue.1 ∈ zm_all := ⟨(zt 440 (by decide +kernel) rfl), (zs (y := y_Rc_hasCheckDue) (n := 5) 20 (by decide +kernel))⟩
theorem w_Rc_63 : zm_cw R_Rc 63 M_Rc_isList 1 := ⟨(zt 449 (by decide +kernel) rfl), (zt 7 (by decide +kernel) rfl), ⟨by decide, by decide, by decide +kernel⟩, by decide, Or.inl (zt 446 (by decide +kernel) rfl)⟩
theorem w_Rc_63k : Cond.instanceMethod M_Rc_isList.1 ∈ zm_all ∧ Cond.selects M_Rc_isList.1.cls M_Rc_isList.1 M_Rc_isList.1 ∈ zm_all := ⟨(zt 448 (by decide +kernel) rfl), (zs (y := y_Rc_isList) (n := 5) 21 (by decide +kernel))⟩
theorem w_Rc_66 : zm_cw R_Rc 66 M_Mt_takeList 1 := ⟨(zt 453 (by decide +kernel) rfl), (zt 8 (by decide +kernel) rfl), ⟨by decide, by decide, by decide +kernel⟩, by decide, Or.inl (zt 450 (by decide +kernel) rfl)⟩
theorem w_Rc_66k : Cond.instanceMethod M_Mt_takeList.1 ∈ zm_all ∧ Cond.selects M_Mt_takeList.1.cls M_Mt_takeList.1 M_Mt_takeList.1 ∈ zm_all := ⟨(zt 451 (by decide +kernel) rfl), (zt 452 (by decide +kernel) rfl)⟩
theorem w_Rc_70 : zm_cw R_Rc 70 M_Rc_isBlock 1 := ⟨(zt 462 (by decide +kernel) rfl), (zt 7 (by decide +kernel) rfl), ⟨by decide, by decide, by decide +kernel⟩, by decide, Or.inl (zt 459 (by decide +kernel) rfl)⟩
theorem w_Rc_70k : Cond.instanceMethod M_Rc_isBlock.1 ∈ zm_all ∧ Cond.selects M_Rc_isBlock.1.cls M_Rc_isBlock.1 M_Rc_isBlock.1 ∈ zm_all := ⟨(zt 461 (by decide +kernel) rfl), (zs (y := y_Rc_isBlock) (n := 5) 23 (by decide +kernel))⟩
theorem w_Rc_73 : zm_cw R_Rc 73 M_Mt_takeBlock 2 := ⟨(zt 466 (by decide +kernel) rfl), (zt 8 (by decide +kernel) rfl), ⟨by decide, by decide, by decide +kernel⟩, by decide, Or.inl (zt 463 (by decide +kernel) rfl)⟩
theorem w_Rc_73k : Cond.instanceMethod M_Mt_takeBlock.1 ∈ zm_all ∧ Cond.selects M_Mt_takeBlock.1.cls M_Mt_takeBlock.1 M_Mt_takeBlock.1 ∈ zm_all := ⟨(zt 464 (by decide +kernel) rfl), (zt 465 (by decide +kernel) rfl)⟩
theorem w_Rc_77 : zm_cw R_Rc 77 M_CM_pairAt 2 := ⟨(zt 444 (by decide +kernel) rfl), (zt 1 (by decide +kernel) rfl), ⟨by decide, by decide, by decide +kernel⟩, by decide, Or.inr ⟨_, ztn (w := Cond.methodLinkNest R_Rc 77 y_CM_pairAt "CarouselMount") 442 (by decide +kernel)⟩⟩
theorem w_Rc_77k : Cond.static M_CM_pairAt.1 ∈ zm_all := (zt 443 (by decide +kernel) rfl)
theorem w_Rc_81 : zm_cw R_Rc 81 M_CM_checkOf 3 := ⟨(zt 372 (by decide +kernel) rfl), (zt 1 (by decide +kernel) rfl), ⟨by decide, by decide, by decide +kernel⟩, by decide, Or.inr ⟨_, ztn (w := Cond.methodLinkNest R_Rc 81 y_CM_checkOf "CarouselMount") 445 (by decide +kernel)⟩⟩
theorem w_Rc_81k : Cond.static M_CM_checkOf.1 ∈ zm_all := (zt 371 (by decide +kernel) rfl)
theorem oi_Sn_3 : Cond.methodLink R_Sn 3 Lib.objectInit ∈ zm_all ∧ Cond.instanceMethod Lib.objectInit ∈ zm_all ∧ Cond.code Lib.objectInit ⟨#[0xb1]⟩ 1 none ∈ zm_all := ⟨(zt 96 (by decide +kernel) rfl), (zt 18 (by decide +kernel) rfl), zt 19 rfl rfl⟩
theorem f_Sn_9 : zm_fw R_Sn 9 3 0 R_Sn F_Sn 5 := ⟨rfl, by decide, uin_Sn, Or.inl (zt 118 (by decide +kernel) rfl)⟩
theorem fl_Sn_9 : Cond.fieldLink R_Sn 9 (F_Sn 0).1 (F_Sn 0).2.1 (F_Sn 0).2.2.1 ∈ zm_all := (zt 118 (by decide +kernel) rfl)
theorem nw_Sn_15 : Cond.classLink R_Sn 15 R_Cy ∈ zm_all ∧ Cond.instantiable R_Cy 4 ∈ zm_all ∧ Cond.initialized R_Cy ∈ zm_all := ⟨(zt 97 (by decide +kernel) rfl), (zt 98 (by decide +kernel) rfl), (zt 6 (by decide +kernel) rfl)⟩
theorem w_Sn_17 : zm_cw R_Sn 17 M_Cy_init 0 := ⟨(zt 101 (by decide +kernel) rfl), (zt 6 (by decide +kernel) rfl), ⟨by decide, by decide, by decide +kernel⟩, by decide, Or.inr ⟨_, ztn (w := Cond.methodLinkNest R_Sn 17 y_Cy_init "CarouselMount") 99 (by decide +kernel)⟩⟩
theorem w_Sn_17k : Cond.instanceMethod M_Cy_init.1 ∈ zm_all := (zt 100 (by decide +kernel) rfl)
theorem f_Sn_18 : zm_fw R_Sn 18 3 1 R_Sn F_Sn 5 := ⟨rfl, by decide, uin_Sn, Or.inl (zt 120 (by decide +kernel) rfl)⟩
theorem fl_Sn_18 : Cond.fieldLink R_Sn 18 (F_Sn 1).1 (F_Sn 1).2.1 (F_Sn 1).2.2.1 ∈ zm_all := (zt 120 (by decide +kernel) rfl)
theorem f_Sn_22 : zm_fw R_Sn 22 3 2 R_Sn F_Sn 5 := ⟨rfl, by decide, uin_Sn, Or.inl (zt 121 (by decide +kernel) rfl)⟩
theorem fl_Sn_22 : Cond.fieldLink R_Sn 22 (F_Sn 2).1 (F_Sn 2).2.1 (F_Sn 2).2.2.1 ∈ zm_all := (zt 121 (by decide +kernel) rfl)
theorem f_Sn_26 : zm_fw R_Sn 26 3 3 R_Sn F_Sn 5 := ⟨rfl, by decide, uin_Sn, Or.inl (zt 122 (by decide +kernel) rfl)⟩
theorem fl_Sn_26 : Cond.fieldLink R_Sn 26 (F_Sn 3).1 (F_Sn 3).2.1 (F_Sn 3).2.2.1 ∈ zm_all := (zt 122 (by decide +kernel) rfl)
theorem f_Sn_29 : zm_fw R_Sn 29 3 4 R_Sn F_Sn 5 := ⟨rfl, by decide, uin_Sn, Or.inl (zt 123 (by decide +kernel) rfl)⟩
theorem fl_Sn_29 : Cond.fieldLink R_Sn 29 (F_Sn 4).1 (F_Sn 4).2.1 (F_Sn 4).2.2.1 ∈ zm_all := (zt 123 (by decide +kernel) rfl)
theorem f_Sn_32 : zm_fw R_Sn 32 4 1 R_Cy F_Cy 4 := ⟨rfl, by decide, uin_Cy, Or.inl (zt 106 (by decide +kernel) rfl)⟩
theorem fl_Sn_32 : Cond.fieldLink R_Sn 32 (F_Cy 1).1 (F_Cy 1).2.1 (F_Cy 1).2.2.1 ∈ zm_all := (zt 106 (by decide +kernel) rfl)
theorem w_Sn_35 : zm_cw R_Sn 35 M_Cy_renew 1 := ⟨(zt 349 (by decide +kernel) rfl), (zt 6 (by decide +kernel) rfl), ⟨by decide, by decide, by decide +kernel⟩, by decide, Or.inl (zt 346 (by decide +kernel) rfl)⟩
theorem w_Sn_35k : Cond.instanceMethod M_Cy_renew.1 ∈ zm_all ∧ Cond.selects M_Cy_renew.1.cls M_Cy_renew.1 M_Cy_renew.1 ∈ zm_all := ⟨(zt 347 (by decide +kernel) rfl), (zt 348 (by decide +kernel) rfl)⟩
theorem w_Sn_39 : zm_cw R_Sn 39 M_Sn_prepare 0 := ⟨(zt 388 (by decide +kernel) rfl), (zt 5 (by decide +kernel) rfl), ⟨by decide, by decide, by decide +kernel⟩, by decide, Or.inl (zt 385 (by decide +kernel) rfl)⟩
theorem w_Sn_39k : Cond.instanceMethod M_Sn_prepare.1 ∈ zm_all ∧ Cond.selects M_Sn_prepare.1.cls M_Sn_prepare.1 M_Sn_prepare.1 ∈ zm_all := ⟨(zt 387 (by decide +kernel) rfl), (zs (y := y_Sn_prepare) (n := 5) 14 (by decide +kernel))⟩
theorem w_Sn_42 : zm_cw R_Sn 42 M_Cy_startFrom 1 := ⟨(zt 392 (by decide +kernel) rfl), (zt 6 (by decide +kernel) rfl), ⟨by decide, by decide, by decide +kernel⟩, by decide, Or.inl (zt 389 (by decide +kernel) rfl)⟩
theorem w_Sn_42k : Cond.instanceMethod M_Cy_startFrom.1 ∈ zm_all ∧ Cond.selects M_Cy_startFrom.1.cls M_Cy_startFrom.1 M_Cy_startFrom.1 ∈ zm_all := ⟨(zt 390 (by decide +kernel) rfl), (zt 391 (by decide +kernel) rfl)⟩
theorem w_Sn_46 : zm_cw R_Sn 46 M_Sn_load 2 := ⟨(zt 396 (by decide +kernel) rfl), (zt 5 (by decide +kernel) rfl), ⟨by decide, by decide, by decide +kernel⟩, by decide, Or.inl (zt 393 (by decide +kernel) rfl)⟩
theorem w_Sn_46k : Cond.instanceMethod M_Sn_load.1 ∈ zm_all ∧ Cond.selects M_Sn_load.1.cls M_Sn_load.1 M_Sn_load.1 ∈ zm_all := ⟨(zt 395 (by decide +kernel) rfl), (zs (y := y_Sn_load) (n := 5) 15 (by decide +kernel))⟩
theorem f_Sn_50 : zm_fw R_Sn 50 4 0 R_Cy F_Cy 4 := ⟨rfl, by decide, uin_Cy, Or.inl (zt 104 (by decide +kernel) rfl)⟩
theorem fl_Sn_50 : Cond.fieldLink R_Sn 50 (F_Cy 0).1 (F_Cy 0).2.1 (F_Cy 0).2.2.1 ∈ zm_all := (zt 104 (by decide +kernel) rfl)
theorem oi_Tree_3 : Cond.methodLink R_Tree 3 Lib.objectInit ∈ zm_all ∧ Cond.instanceMethod Lib.objectInit ∈ zm_all ∧ Cond.code Lib.objectInit ⟨#[0xb1]⟩ 1 none ∈ zm_all := ⟨(zt 25 (by decide +kernel) rfl), (zt 18 (by decide +kernel) rfl), zt 19 rfl rfl⟩
theorem f_Tree_9 : zm_fw R_Tree 9 1 0 R_Tree F_Tree 5 := ⟨rfl, by decide, uin_Tree, Or.inl (zt 29 (by decide +kernel) rfl)⟩
theorem fl_Tree_9 : Cond.fieldLink R_Tree 9 (F_Tree 0).1 (F_Tree 0).2.1 (F_Tree 0).2.2.1 ∈ zm_all := (zt 29 (by decide +kernel) rfl)
theorem f_Tree_15 : zm_fw R_Tree 15 1 1 R_Tree F_Tree 5 := ⟨rfl, by decide, uin_Tree, Or.inl (zt 30 (by decide +kernel) rfl)⟩
theorem fl_Tree_15 : Cond.fieldLink R_Tree 15 (F_Tree 1).1 (F_Tree 1).2.1 (F_Tree 1).2.2.1 ∈ zm_all := (zt 30 (by decide +kernel) rfl)
theorem f_Tree_18 : zm_fw R_Tree 18 1 2 R_Tree F_Tree 5 := ⟨rfl, by decide, uin_Tree, Or.inl (zt 31 (by decide +kernel) rfl)⟩
theorem fl_Tree_18 : Cond.fieldLink R_Tree 18 (F_Tree 2).1 (F_Tree 2).2.1 (F_Tree 2).2.2.1 ∈ zm_all := (zt 31 (by decide +kernel) rfl)
theorem f_Tree_21 : zm_fw R_Tree 21 1 3 R_Tree F_Tree 5 := ⟨rfl, by decide, uin_Tree, Or.inl (zt 32 (by decide +kernel) rfl)⟩
theorem fl_Tree_21 : Cond.fieldLink R_Tree 21 (F_Tree 3).1 (F_Tree 3).2.1 (F_Tree 3).2.2.1 ∈ zm_all := (zt 32 (by decide +kernel) rfl)
theorem f_Tree_24 : zm_fw R_Tree 24 1 4 R_Tree F_Tree 5 := ⟨rfl, by decide, uin_Tree, Or.inl (zt 33 (by decide +kernel) rfl)⟩
theorem fl_Tree_24 : Cond.fieldLink R_Tree 24 (F_Tree 4).1 (F_Tree 4).2.1 (F_Tree 4).2.2.1 ∈ zm_all := (zt 33 (by decide +kernel) rfl)
theorem w_Tree_27 : zm_cw R_Tree 27 M_Arr_fill 2 := ⟨(zt 28 (by decide +kernel) rfl), (zt 3 (by decide +kernel) rfl), ⟨by decide, by decide, by decide +kernel⟩, by decide, Or.inl (zt 26 (by decide +kernel) rfl)⟩
theorem w_Tree_27k : Cond.static M_Arr_fill.1 ∈ zm_all := (zt 27 (by decide +kernel) rfl)
theorem w_Tree_33 : zm_cw R_Tree 33 M_Tree_isThere 1 := ⟨(zt 218 (by decide +kernel) rfl), (zt 2 (by decide +kernel) rfl), ⟨by decide, by decide, by decide +kernel⟩, by decide, Or.inl (zt 215 (by decide +kernel) rfl)⟩
theorem w_Tree_33k : Cond.instanceMethod M_Tree_isThere.1 ∈ zm_all ∧ Cond.selects M_Tree_isThere.1.cls M_Tree_isThere.1 M_Tree_isThere.1 ∈ zm_all := ⟨(zt 216 (by decide +kernel) rfl), (zt 217 (by decide +kernel) rfl)⟩
theorem w_Tree_37 : zm_cw R_Tree 37 M_Tree_isFile 1 := ⟨(zt 249 (by decide +kernel) rfl), (zt 2 (by decide +kernel) rfl), ⟨by decide, by decide, by decide +kernel⟩, by decide, Or.inl (zt 294 (by decide +kernel) rfl)⟩
theorem w_Tree_37k : Cond.instanceMethod M_Tree_isFile.1 ∈ zm_all ∧ Cond.selects M_Tree_isFile.1.cls M_Tree_isFile.1 M_Tree_isFile.1 ∈ zm_all := ⟨(zt 247 (by decide +kernel) rfl), (zt 248 (by decide +kernel) rfl)⟩
theorem w_Tree_40 : zm_cw R_Tree 40 M_Tree_entryCount 1 := ⟨(zt 234 (by decide +kernel) rfl), (zt 2 (by decide +kernel) rfl), ⟨by decide, by decide, by decide +kernel⟩, by decide, Or.inl (zt 295 (by decide +kernel) rfl)⟩
theorem w_Tree_40k : Cond.instanceMethod M_Tree_entryCount.1 ∈ zm_all ∧ Cond.selects M_Tree_entryCount.1.cls M_Tree_entryCount.1 M_Tree_entryCount.1 ∈ zm_all := ⟨(zt 232 (by decide +kernel) rfl), (zt 233 (by decide +kernel) rfl)⟩
theorem w_Tree_44 : zm_cw R_Tree 44 M_Tree_entryAfter 2 := ⟨(zt 285 (by decide +kernel) rfl), (zt 2 (by decide +kernel) rfl), ⟨by decide, by decide, by decide +kernel⟩, by decide, Or.inl (zt 282 (by decide +kernel) rfl)⟩
theorem w_Tree_44k : Cond.instanceMethod M_Tree_entryAfter.1 ∈ zm_all ∧ Cond.selects M_Tree_entryAfter.1.cls M_Tree_entryAfter.1 M_Tree_entryAfter.1 ∈ zm_all := ⟨(zt 283 (by decide +kernel) rfl), (zt 284 (by decide +kernel) rfl)⟩
theorem k_Int_265 : Cond.constant R_Int 265 1431655765 ∈ zm_all := (zt 523 (by decide +kernel) rfl)
theorem k_Int_266 : Cond.constant R_Int 266 858993459 ∈ zm_all := (zt 524 (by decide +kernel) rfl)
theorem k_Int_267 : Cond.constant R_Int 267 252645135 ∈ zm_all := (zt 525 (by decide +kernel) rfl)
theorem nw_Law_7 : Cond.classLink R_Law 7 R_CM ∈ zm_all ∧ Cond.instantiable R_CM 4 ∈ zm_all ∧ Cond.initialized R_CM ∈ zm_all := ⟨(zt 12 (by decide +kernel) rfl), (zt 13 (by decide +kernel) rfl), (zt 1 (by decide +kernel) rfl)⟩
theorem w_Law_9 : zm_cw R_Law 9 M_CM_init 0 := ⟨(zt 16 (by decide +kernel) rfl), (zt 1 (by decide +kernel) rfl), ⟨by decide, by decide, by decide +kernel⟩, by decide, Or.inl (zt 14 (by decide +kernel) rfl)⟩
theorem w_Law_9k : Cond.instanceMethod M_CM_init.1 ∈ zm_all := (zt 15 (by decide +kernel) rfl)
theorem nw_Law_10 : Cond.classLink R_Law 10 R_Md ∈ zm_all ∧ Cond.instantiable R_Md 33 ∈ zm_all ∧ Cond.initialized R_Md ∈ zm_all := ⟨(zt 582 (by decide +kernel) rfl), (zt 583 (by decide +kernel) rfl), (zt 9 (by decide +kernel) rfl)⟩
theorem w_Law_12 : zm_cw R_Law 12 M_Md_init 0 := ⟨(zt 586 (by decide +kernel) rfl), (zt 9 (by decide +kernel) rfl), ⟨by decide, by decide, by decide +kernel⟩, by decide, Or.inl (zt 584 (by decide +kernel) rfl)⟩
theorem w_Law_12k : Cond.instanceMethod M_Md_init.1 ∈ zm_all := (zt 585 (by decide +kernel) rfl)
theorem w_Law_13 : zm_cw R_Law 13 M_CM_make 3 := ⟨(zt 202 (by decide +kernel) rfl), (zt 1 (by decide +kernel) rfl), ⟨by decide, by decide, by decide +kernel⟩, by decide, Or.inl (zt 199 (by decide +kernel) rfl)⟩
theorem w_Law_13k : Cond.instanceMethod M_CM_make.1 ∈ zm_all ∧ Cond.selects M_CM_make.1.cls M_CM_make.1 M_CM_make.1 ∈ zm_all := ⟨(zt 200 (by decide +kernel) rfl), (zt 201 (by decide +kernel) rfl)⟩
theorem w_Law_17 : zm_cw R_Law 17 M_Md_make 3 := ⟨(zt 692 (by decide +kernel) rfl), (zt 9 (by decide +kernel) rfl), ⟨by decide, by decide, by decide +kernel⟩, by decide, Or.inl (zt 689 (by decide +kernel) rfl)⟩
theorem w_Law_17k : Cond.instanceMethod M_Md_make.1 ∈ zm_all ∧ Cond.selects M_Md_make.1.cls M_Md_make.1 M_Md_make.1 ∈ zm_all := ⟨(zt 690 (by decide +kernel) rfl), (zt 691 (by decide +kernel) rfl)⟩
theorem w_Law_18 : zm_cw R_Law 18 M_CM_remove 1 := ⟨(zt 226 (by decide +kernel) rfl), (zt 1 (by decide +kernel) rfl), ⟨by decide, by decide, by decide +kernel⟩, by decide, Or.inl (zt 223 (by decide +kernel) rfl)⟩
theorem w_Law_18k : Cond.instanceMethod M_CM_remove.1 ∈ zm_all ∧ Cond.selects M_CM_remove.1.cls M_CM_remove.1 M_CM_remove.1 ∈ zm_all := ⟨(zt 224 (by decide +kernel) rfl), (zt 225 (by decide +kernel) rfl)⟩
theorem w_Law_22 : zm_cw R_Law 22 M_Md_remove 1 := ⟨(zt 703 (by decide +kernel) rfl), (zt 9 (by decide +kernel) rfl), ⟨by decide, by decide, by decide +kernel⟩, by decide, Or.inl (zt 700 (by decide +kernel) rfl)⟩
theorem w_Law_22k : Cond.instanceMethod M_Md_remove.1 ∈ zm_all ∧ Cond.selects M_Md_remove.1.cls M_Md_remove.1 M_Md_remove.1 ∈ zm_all := ⟨(zt 701 (by decide +kernel) rfl), (zt 702 (by decide +kernel) rfl)⟩
theorem w_Law_23 : zm_cw R_Law 23 M_CM_append 2 := ⟨(zt 242 (by decide +kernel) rfl), (zt 1 (by decide +kernel) rfl), ⟨by decide, by decide, by decide +kernel⟩, by decide, Or.inl (zt 239 (by decide +kernel) rfl)⟩
theorem w_Law_23k : Cond.instanceMethod M_CM_append.1 ∈ zm_all ∧ Cond.selects M_CM_append.1.cls M_CM_append.1 M_CM_append.1 ∈ zm_all := ⟨(zt 240 (by decide +kernel) rfl), (zt 241 (by decide +kernel) rfl)⟩
theorem w_Law_27 : zm_cw R_Law 27 M_Md_append 2 := ⟨(zt 707 (by decide +kernel) rfl), (zt 9 (by decide +kernel) rfl), ⟨by decide, by decide, by decide +kernel⟩, by decide, Or.inl (zt 704 (by decide +kernel) rfl)⟩
theorem w_Law_27k : Cond.instanceMethod M_Md_append.1 ∈ zm_all ∧ Cond.selects M_Md_append.1.cls M_Md_append.1 M_Md_append.1 ∈ zm_all := ⟨(zt 705 (by decide +kernel) rfl), (zt 706 (by decide +kernel) rfl)⟩
theorem w_Law_28 : zm_cw R_Law 28 M_CM_empty 1 := ⟨(zt 261 (by decide +kernel) rfl), (zt 1 (by decide +kernel) rfl), ⟨by decide, by decide, by decide +kernel⟩, by decide, Or.inl (zt 258 (by decide +kernel) rfl)⟩
theorem w_Law_28k : Cond.instanceMethod M_CM_empty.1 ∈ zm_all ∧ Cond.selects M_CM_empty.1.cls M_CM_empty.1 M_CM_empty.1 ∈ zm_all := ⟨(zt 259 (by decide +kernel) rfl), (zt 260 (by decide +kernel) rfl)⟩
theorem w_Law_31 : zm_cw R_Law 31 M_Md_empty 1 := ⟨(zt 711 (by decide +kernel) rfl), (zt 9 (by decide +kernel) rfl), ⟨by decide, by decide, by decide +kernel⟩, by decide, Or.inl (zt 708 (by decide +kernel) rfl)⟩
theorem w_Law_31k : Cond.instanceMethod M_Md_empty.1 ∈ zm_all ∧ Cond.selects M_Md_empty.1.cls M_Md_empty.1 M_Md_empty.1 ∈ zm_all := ⟨(zt 709 (by decide +kernel) rfl), (zt 710 (by decide +kernel) rfl)⟩
theorem w_Law_32 : zm_cw R_Law 32 M_CM_publish 0 := ⟨(zt 269 (by decide +kernel) rfl), (zt 1 (by decide +kernel) rfl), ⟨by decide, by decide, by decide +kernel⟩, by decide, Or.inl (zt 266 (by decide +kernel) rfl)⟩
theorem w_Law_32k : Cond.instanceMethod M_CM_publish.1 ∈ zm_all ∧ Cond.selects M_CM_publish.1.cls M_CM_publish.1 M_CM_publish.1 ∈ zm_all := ⟨(zt 267 (by decide +kernel) rfl), (zt 268 (by decide +kernel) rfl)⟩
theorem w_Law_36 : zm_cw R_Law 36 M_Md_publish 0 := ⟨(zt 715 (by decide +kernel) rfl), (zt 9 (by decide +kernel) rfl), ⟨by decide, by decide, by decide +kernel⟩, by decide, Or.inl (zt 712 (by decide +kernel) rfl)⟩
theorem w_Law_36k : Cond.instanceMethod M_Md_publish.1 ∈ zm_all ∧ Cond.selects M_Md_publish.1.cls M_Md_publish.1 M_Md_publish.1 ∈ zm_all := ⟨(zt 713 (by decide +kernel) rfl), (zt 714 (by decide +kernel) rfl)⟩
theorem w_Law_37 : zm_cw R_Law 37 M_CM_modules 0 := ⟨(zt 400 (by decide +kernel) rfl), (zt 1 (by decide +kernel) rfl), ⟨by decide, by decide, by decide +kernel⟩, by decide, Or.inl (zt 397 (by decide +kernel) rfl)⟩
theorem w_Law_37k : Cond.instanceMethod M_CM_modules.1 ∈ zm_all ∧ Cond.selects M_CM_modules.1.cls M_CM_modules.1 M_CM_modules.1 ∈ zm_all := ⟨(zt 398 (by decide +kernel) rfl), (zt 399 (by decide +kernel) rfl)⟩
theorem w_Law_40 : zm_cw R_Law 40 M_Md_modules 0 := ⟨(zt 763 (by decide +kernel) rfl), (zt 9 (by decide +kernel) rfl), ⟨by decide, by decide, by decide +kernel⟩, by decide, Or.inl (zt 760 (by decide +kernel) rfl)⟩
theorem w_Law_40k : Cond.instanceMethod M_Md_modules.1 ∈ zm_all ∧ Cond.selects M_Md_modules.1.cls M_Md_modules.1 M_Md_modules.1 ∈ zm_all := ⟨(zt 761 (by decide +kernel) rfl), (zt 762 (by decide +kernel) rfl)⟩
theorem w_Law_41 : zm_cw R_Law 41 M_CM_module 1 := ⟨(zt 404 (by decide +kernel) rfl), (zt 1 (by decide +kernel) rfl), ⟨by decide, by decide, by decide +kernel⟩, by decide, Or.inl (zt 401 (by decide +kernel) rfl)⟩
theorem w_Law_41k : Cond.instanceMethod M_CM_module.1 ∈ zm_all ∧ Cond.selects M_CM_module.1.cls M_CM_module.1 M_CM_module.1 ∈ zm_all := ⟨(zt 402 (by decide +kernel) rfl), (zt 403 (by decide +kernel) rfl)⟩
theorem w_Law_44 : zm_cw R_Law 44 M_Md_module 1 := ⟨(zt 767 (by decide +kernel) rfl), (zt 9 (by decide +kernel) rfl), ⟨by decide, by decide, by decide +kernel⟩, by decide, Or.inl (zt 764 (by decide +kernel) rfl)⟩
theorem w_Law_44k : Cond.instanceMethod M_Md_module.1 ∈ zm_all ∧ Cond.selects M_Md_module.1.cls M_Md_module.1 M_Md_module.1 ∈ zm_all := ⟨(zt 765 (by decide +kernel) rfl), (zt 766 (by decide +kernel) rfl)⟩
theorem w_Law_45 : zm_cw R_Law 45 M_CM_peek 1 := ⟨(zt 409 (by decide +kernel) rfl), (zt 1 (by decide +kernel) rfl), ⟨by decide, by decide, by decide +kernel⟩, by decide, Or.inl (zt 406 (by decide +kernel) rfl)⟩
theorem w_Law_45k : Cond.instanceMethod M_CM_peek.1 ∈ zm_all ∧ Cond.selects M_CM_peek.1.cls M_CM_peek.1 M_CM_peek.1 ∈ zm_all := ⟨(zt 407 (by decide +kernel) rfl), (zt 408 (by decide +kernel) rfl)⟩
theorem w_Law_48 : zm_cw R_Law 48 M_Md_peek 1 := ⟨(zt 772 (by decide +kernel) rfl), (zt 9 (by decide +kernel) rfl), ⟨by decide, by decide, by decide +kernel⟩, by decide, Or.inl (zt 769 (by decide +kernel) rfl)⟩
theorem w_Law_48k : Cond.instanceMethod M_Md_peek.1 ∈ zm_all ∧ Cond.selects M_Md_peek.1.cls M_Md_peek.1 M_Md_peek.1 ∈ zm_all := ⟨(zt 770 (by decide +kernel) rfl), (zt 771 (by decide +kernel) rfl)⟩
theorem w_Law_49 : zm_cw R_Law 49 M_CM_send 1 := ⟨(zt 417 (by decide +kernel) rfl), (zt 1 (by decide +kernel) rfl), ⟨by decide, by decide, by decide +kernel⟩, by decide, Or.inl (zt 414 (by decide +kernel) rfl)⟩
theorem w_Law_49k : Cond.instanceMethod M_CM_send.1 ∈ zm_all ∧ Cond.selects M_CM_send.1.cls M_CM_send.1 M_CM_send.1 ∈ zm_all := ⟨(zt 415 (by decide +kernel) rfl), (zt 416 (by decide +kernel) rfl)⟩
theorem w_Law_52 : zm_cw R_Law 52 M_Md_send 1 := ⟨(zt 784 (by decide +kernel) rfl), (zt 9 (by decide +kernel) rfl), ⟨by decide, by decide, by decide +kernel⟩, by decide, Or.inl (zt 781 (by decide +kernel) rfl)⟩
theorem w_Law_52k : Cond.instanceMethod M_Md_send.1 ∈ zm_all ∧ Cond.selects M_Md_send.1.cls M_Md_send.1 M_Md_send.1 ∈ zm_all := ⟨(zt 782 (by decide +kernel) rfl), (zt 783 (by decide +kernel) rfl)⟩
theorem w_Law_53 : zm_cw R_Law 53 M_CM_lose 1 := ⟨(zt 485 (by decide +kernel) rfl), (zt 1 (by decide +kernel) rfl), ⟨by decide, by decide, by decide +kernel⟩, by decide, Or.inl (zt 482 (by decide +kernel) rfl)⟩
theorem w_Law_53k : Cond.instanceMethod M_CM_lose.1 ∈ zm_all ∧ Cond.selects M_CM_lose.1.cls M_CM_lose.1 M_CM_lose.1 ∈ zm_all := ⟨(zt 483 (by decide +kernel) rfl), (zt 484 (by decide +kernel) rfl)⟩
theorem w_Law_56 : zm_cw R_Law 56 M_Md_lose 1 := ⟨(zt 844 (by decide +kernel) rfl), (zt 9 (by decide +kernel) rfl), ⟨by decide, by decide, by decide +kernel⟩, by decide, Or.inl (zt 841 (by decide +kernel) rfl)⟩
theorem w_Law_56k : Cond.instanceMethod M_Md_lose.1 ∈ zm_all ∧ Cond.selects M_Md_lose.1.cls M_Md_lose.1 M_Md_lose.1 ∈ zm_all := ⟨(zt 842 (by decide +kernel) rfl), (zt 843 (by decide +kernel) rfl)⟩
theorem w_Law_57 : zm_cw R_Law 57 M_CM_spoil 2 := ⟨(zt 489 (by decide +kernel) rfl), (zt 1 (by decide +kernel) rfl), ⟨by decide, by decide, by decide +kernel⟩, by decide, Or.inl (zt 486 (by decide +kernel) rfl)⟩
theorem w_Law_57k : Cond.instanceMethod M_CM_spoil.1 ∈ zm_all ∧ Cond.selects M_CM_spoil.1.cls M_CM_spoil.1 M_CM_spoil.1 ∈ zm_all := ⟨(zt 487 (by decide +kernel) rfl), (zt 488 (by decide +kernel) rfl)⟩
theorem w_Law_60 : zm_cw R_Law 60 M_Md_spoil 2 := ⟨(zt 848 (by decide +kernel) rfl), (zt 9 (by decide +kernel) rfl), ⟨by decide, by decide, by decide +kernel⟩, by decide, Or.inl (zt 845 (by decide +kernel) rfl)⟩
theorem w_Law_60k : Cond.instanceMethod M_Md_spoil.1 ∈ zm_all ∧ Cond.selects M_Md_spoil.1.cls M_Md_spoil.1 M_Md_spoil.1 ∈ zm_all := ⟨(zt 846 (by decide +kernel) rfl), (zt 847 (by decide +kernel) rfl)⟩
theorem w_Law_61 : zm_cw R_Law 61 M_CM_retune 0 := ⟨(zt 493 (by decide +kernel) rfl), (zt 1 (by decide +kernel) rfl), ⟨by decide, by decide, by decide +kernel⟩, by decide, Or.inl (zt 490 (by decide +kernel) rfl)⟩
theorem w_Law_61k : Cond.instanceMethod M_CM_retune.1 ∈ zm_all ∧ Cond.selects M_CM_retune.1.cls M_CM_retune.1 M_CM_retune.1 ∈ zm_all := ⟨(zt 491 (by decide +kernel) rfl), (zt 492 (by decide +kernel) rfl)⟩
theorem w_Law_64 : zm_cw R_Law 64 M_Md_retune 0 := ⟨(zt 852 (by decide +kernel) rfl), (zt 9 (by decide +kernel) rfl), ⟨by decide, by decide, by decide +kernel⟩, by decide, Or.inl (zt 849 (by decide +kernel) rfl)⟩
theorem w_Law_64k : Cond.instanceMethod M_Md_retune.1 ∈ zm_all ∧ Cond.selects M_Md_retune.1.cls M_Md_retune.1 M_Md_retune.1 ∈ zm_all := ⟨(zt 850 (by decide +kernel) rfl), (zt 851 (by decide +kernel) rfl)⟩
theorem w_Law_65 : zm_cw R_Law 65 M_CM_count 1 := ⟨(zt 506 (by decide +kernel) rfl), (zt 1 (by decide +kernel) rfl), ⟨by decide, by decide, by decide +kernel⟩, by decide, Or.inl (zt 503 (by decide +kernel) rfl)⟩
theorem w_Law_65k : Cond.instanceMethod M_CM_count.1 ∈ zm_all ∧ Cond.selects M_CM_count.1.cls M_CM_count.1 M_CM_count.1 ∈ zm_all := ⟨(zt 504 (by decide +kernel) rfl), (zt 505 (by decide +kernel) rfl)⟩
theorem w_Law_68 : zm_cw R_Law 68 M_Md_count 1 := ⟨(zt 856 (by decide +kernel) rfl), (zt 9 (by decide +kernel) rfl), ⟨by decide, by decide, by decide +kernel⟩, by decide, Or.inl (zt 853 (by decide +kernel) rfl)⟩
theorem w_Law_68k : Cond.instanceMethod M_Md_count.1 ∈ zm_all ∧ Cond.selects M_Md_count.1.cls M_Md_count.1 M_Md_count.1 ∈ zm_all := ⟨(zt 854 (by decide +kernel) rfl), (zt 855 (by decide +kernel) rfl)⟩
theorem w_Law_69 : zm_cw R_Law 69 M_CM_transaction 0 := ⟨(zt 510 (by decide +kernel) rfl), (zt 1 (by decide +kernel) rfl), ⟨by decide, by decide, by decide +kernel⟩, by decide, Or.inl (zt 507 (by decide +kernel) rfl)⟩
theorem w_Law_69k : Cond.instanceMethod M_CM_transaction.1 ∈ zm_all ∧ Cond.selects M_CM_transaction.1.cls M_CM_transaction.1 M_CM_transaction.1 ∈ zm_all := ⟨(zt 508 (by decide +kernel) rfl), (zt 509 (by decide +kernel) rfl)⟩
theorem w_Law_72 : zm_cw R_Law 72 M_Md_transaction 0 := ⟨(zt 860 (by decide +kernel) rfl), (zt 9 (by decide +kernel) rfl), ⟨by decide, by decide, by decide +kernel⟩, by decide, Or.inl (zt 857 (by decide +kernel) rfl)⟩
theorem w_Law_72k : Cond.instanceMethod M_Md_transaction.1 ∈ zm_all ∧ Cond.selects M_Md_transaction.1.cls M_Md_transaction.1 M_Md_transaction.1 ∈ zm_all := ⟨(zt 858 (by decide +kernel) rfl), (zt 859 (by decide +kernel) rfl)⟩
theorem w_Law_73 : zm_cw R_Law 73 M_CM_held 1 := ⟨(zt 514 (by decide +kernel) rfl), (zt 1 (by decide +kernel) rfl), ⟨by decide, by decide, by decide +kernel⟩, by decide, Or.inl (zt 511 (by decide +kernel) rfl)⟩
theorem w_Law_73k : Cond.instanceMethod M_CM_held.1 ∈ zm_all ∧ Cond.selects M_CM_held.1.cls M_CM_held.1 M_CM_held.1 ∈ zm_all := ⟨(zt 512 (by decide +kernel) rfl), (zt 513 (by decide +kernel) rfl)⟩
theorem w_Law_76 : zm_cw R_Law 76 M_Md_held 1 := ⟨(zt 864 (by decide +kernel) rfl), (zt 9 (by decide +kernel) rfl), ⟨by decide, by decide, by decide +kernel⟩, by decide, Or.inl (zt 861 (by decide +kernel) rfl)⟩
theorem w_Law_76k : Cond.instanceMethod M_Md_held.1 ∈ zm_all ∧ Cond.selects M_Md_held.1.cls M_Md_held.1 M_Md_held.1 ∈ zm_all := ⟨(zt 862 (by decide +kernel) rfl), (zt 863 (by decide +kernel) rfl)⟩
theorem w_Law_77 : zm_cw R_Law 77 M_CM_kind 3 := ⟨(zt 529 (by decide +kernel) rfl), (zt 1 (by decide +kernel) rfl), ⟨by decide, by decide, by decide +kernel⟩, by decide, Or.inl (zt 526 (by decide +kernel) rfl)⟩
theorem w_Law_77k : Cond.instanceMethod M_CM_kind.1 ∈ zm_all ∧ Cond.selects M_CM_kind.1.cls M_CM_kind.1 M_CM_kind.1 ∈ zm_all := ⟨(zt 527 (by decide +kernel) rfl), (zt 528 (by decide +kernel) rfl)⟩
theorem w_Law_81 : zm_cw R_Law 81 M_Md_kind 3 := ⟨(zt 872 (by decide +kernel) rfl), (zt 9 (by decide +kernel) rfl), ⟨by decide, by decide, by decide +kernel⟩, by decide, Or.inl (zt 869 (by decide +kernel) rfl)⟩
theorem w_Law_81k : Cond.instanceMethod M_Md_kind.1 ∈ zm_all ∧ Cond.selects M_Md_kind.1.cls M_Md_kind.1 M_Md_kind.1 ∈ zm_all := ⟨(zt 870 (by decide +kernel) rfl), (zt 871 (by decide +kernel) rfl)⟩
theorem w_Law_82 : zm_cw R_Law 82 M_CM_size 3 := ⟨(zt 571 (by decide +kernel) rfl), (zt 1 (by decide +kernel) rfl), ⟨by decide, by decide, by decide +kernel⟩, by decide, Or.inl (zt 568 (by decide +kernel) rfl)⟩
theorem w_Law_82k : Cond.instanceMethod M_CM_size.1 ∈ zm_all ∧ Cond.selects M_CM_size.1.cls M_CM_size.1 M_CM_size.1 ∈ zm_all := ⟨(zt 569 (by decide +kernel) rfl), (zt 570 (by decide +kernel) rfl)⟩
theorem w_Law_85 : zm_cw R_Law 85 M_Md_size 3 := ⟨(zt 900 (by decide +kernel) rfl), (zt 9 (by decide +kernel) rfl), ⟨by decide, by decide, by decide +kernel⟩, by decide, Or.inl (zt 897 (by decide +kernel) rfl)⟩
theorem w_Law_85k : Cond.instanceMethod M_Md_size.1 ∈ zm_all ∧ Cond.selects M_Md_size.1.cls M_Md_size.1 M_Md_size.1 ∈ zm_all := ⟨(zt 898 (by decide +kernel) rfl), (zt 899 (by decide +kernel) rfl)⟩
theorem w_Law_86 : zm_cw R_Law 86 M_CM_read 4 := ⟨(zt 577 (by decide +kernel) rfl), (zt 1 (by decide +kernel) rfl), ⟨by decide, by decide, by decide +kernel⟩, by decide, Or.inl (zt 574 (by decide +kernel) rfl)⟩
theorem w_Law_86k : Cond.instanceMethod M_CM_read.1 ∈ zm_all ∧ Cond.selects M_CM_read.1.cls M_CM_read.1 M_CM_read.1 ∈ zm_all := ⟨(zt 575 (by decide +kernel) rfl), (zt 576 (by decide +kernel) rfl)⟩
theorem w_Law_90 : zm_cw R_Law 90 M_Md_read 4 := ⟨(zt 904 (by decide +kernel) rfl), (zt 9 (by decide +kernel) rfl), ⟨by decide, by decide, by decide +kernel⟩, by decide, Or.inl (zt 901 (by decide +kernel) rfl)⟩
theorem w_Law_90k : Cond.instanceMethod M_Md_read.1 ∈ zm_all ∧ Cond.selects M_Md_read.1.cls M_Md_read.1 M_Md_read.1 ∈ zm_all := ⟨(zt 902 (by decide +kernel) rfl), (zt 903 (by decide +kernel) rfl)⟩
theorem acI : Cond.arrayClass .int ∈ zm_all := zt 45 (by decide +kernel) rfl
theorem acZ : Cond.arrayClass .boolean ∈ zm_all := zt 688 (by decide +kernel) rfl
end
section
theorem s_CM_blockLength_0 {d : Nat} {Q : zm_Q} {S : zm_S} {a0 a1 : Int32}
    (l1 : 8 ≤ (a0 - (a1 * 8)) → Q (some 8) GG S)
    (l2 : ¬ 8 ≤ (a0 - (a1 * 8)) → Q (some (a0 - (a1 * 8))) GG S) :
    zw M_CM_blockLength d Q 0 [some (.int a0), some (.int a1), none] [] S := by
  refine zr_iload_n (i := 0) (x := a0) (n := 1) d_CM_blockLength_0 rfl rfl rfl ?_
  refine zr_iload_n (i := 1) (x := a1) (n := 2) d_CM_blockLength_1 rfl rfl rfl ?_
  refine zr_bipush (v := 8) (n := 4) d_CM_blockLength_2 rfl (by decide) ?_
  refine zr_imul (n := 5) d_CM_blockLength_4 rfl ?_
  refine zr_isub (n := 6) d_CM_blockLength_5 rfl ?_
  refine zr_istore_n (i := 2) (L' := [some (.int a0), some (.int a1), some (.int (a0 - (a1 * 8)))]) (n := 7) d_CM_blockLength_6 rfl rfl rfl rfl ?_
  refine zr_iload_n (i := 2) (x := (a0 - (a1 * 8))) (n := 8) d_CM_blockLength_7 rfl rfl rfl ?_
  refine zr_bipush (v := 8) (n := 10) d_CM_blockLength_8 rfl (by decide) ?_
  refine zr_icmp_ge (tgt := 17) (n := 13) d_CM_blockLength_10 rfl (by decide) (fun h1 => ?_) (fun h1 => ?_)
  · refine zr_bipush (v := 8) (n := 19) d_CM_blockLength_17 rfl (by decide) ?_
    exact zr_ireturn d_CM_blockLength_19 rfl rfl (Nat.le_refl _) (Nat.le_refl _) (l1 h1)
  · refine zr_iload_n (i := 2) (x := (a0 - (a1 * 8))) (n := 14) d_CM_blockLength_13 rfl rfl rfl ?_
    refine zr_goto (tgt := 19) d_CM_blockLength_14 (by decide) ?_
    exact zr_ireturn d_CM_blockLength_19 rfl rfl (Nat.le_refl _) (Nat.le_refl _) (l2 h1)
theorem c_CM_blockLength {d : Nat} {Q : zm_Q} {S : zm_S} {a0 a1 : Int32}
    (l1 : 8 ≤ (a0 - (a1 * 8)) → Q (some 8) GG S)
    (l2 : ¬ 8 ≤ (a0 - (a1 * 8)) → Q (some (a0 - (a1 * 8))) GG S) :
    zc M_CM_blockLength d [.int a0, .int a1] S Q := zm_CC_intro (by decide) rfl rfl (s_CM_blockLength_0 l1 l2)
theorem s_CM_blocksIn_0 {d : Nat} {Q : zm_Q} {S : zm_S} {a0 : Int32}
    (l1 : Q (some (((a0 + 8) - 1) / 8)) GG S) :
    zw M_CM_blocksIn d Q 0 [some (.int a0)] [] S := by
  refine zr_iload_n (i := 0) (x := a0) (n := 1) d_CM_blocksIn_0 rfl rfl rfl ?_
  refine zr_bipush (v := 8) (n := 3) d_CM_blocksIn_1 rfl (by decide) ?_
  refine zr_iadd (n := 4) d_CM_blocksIn_3 rfl ?_
  refine zr_iconst (v := 1) (n := 5) d_CM_blocksIn_4 rfl (by decide) ?_
  refine zr_isub (n := 6) d_CM_blocksIn_5 rfl ?_
  refine zr_bipush (v := 8) (n := 8) d_CM_blocksIn_6 rfl (by decide) ?_
  refine zr_idiv (n := 9) d_CM_blocksIn_8 rfl (by decide) ?_
  exact zr_ireturn d_CM_blocksIn_9 rfl rfl (Nat.le_refl _) (Nat.le_refl _) l1
theorem c_CM_blocksIn {d : Nat} {Q : zm_Q} {S : zm_S} {a0 : Int32}
    (l1 : Q (some (((a0 + 8) - 1) / 8)) GG S) :
    zc M_CM_blocksIn d [.int a0] S Q := zm_CC_intro (by decide) rfl rfl (s_CM_blocksIn_0 l1)
theorem s_CM_count_0 {d : Nat} {Q : zm_Q} {S : zm_S} {a1 : Int32} (j1 : Nat) (o1 : ¬ a1 < 0 → a1 < 6 → zm_ix a1 j1 6)
    (l1 : ((a1 < 0) ∨ (¬ a1 < 0 ∧ ¬ a1 < 6)) → Q (some (-1)) GG S)
    (l2 : ¬ a1 < 0 → a1 < 6 → Q (some (S 25 j1)) GG S) :
    zw M_CM_count d Q 0 [some (.ref 0), some (.int a1)] [] S := by
  refine zr_iload_n (i := 1) (x := a1) (n := 1) d_CM_count_0 rfl rfl rfl ?_
  refine zr_if_lt (tgt := 16) (n := 4) d_CM_count_1 rfl (by decide) (fun h1 => ?_) (fun h1 => ?_)
  · refine zr_iconst (v := (-1)) (n := 17) d_CM_count_16 rfl (by decide) ?_
    exact zr_ireturn d_CM_count_17 rfl rfl (Nat.le_refl _) (Nat.le_refl _) (l1 (Or.inl h1))
  · refine zr_iload_n (i := 1) (x := a1) (n := 5) d_CM_count_4 rfl rfl rfl ?_
    refine zr_aload_n (i := 0) (x := 0) (n := 6) d_CM_count_5 rfl rfl rfl ?_
    refine zr_getr (n := 9) d_CM_count_6 rfl f_CM_33 gg_0 rfl ?_
    refine zr_getr (n := 12) d_CM_count_9 rfl f_CM_123 gg_19 rfl ?_
    refine zr_alen (v := 6) (n := 13) d_CM_count_12 rfl gg_25 (by decide) ?_
    refine zr_icmp_lt (tgt := 18) (n := 16) d_CM_count_13 rfl (by decide) (fun h2 => ?_) (fun h2 => ?_)
    · refine zr_aload_n (i := 0) (x := 0) (n := 19) d_CM_count_18 rfl rfl rfl ?_
      refine zr_getr (n := 22) d_CM_count_19 rfl f_CM_33 gg_0 rfl ?_
      refine zr_getr (n := 25) d_CM_count_22 rfl f_CM_123 gg_19 rfl ?_
      refine zr_iload_n (i := 1) (x := a1) (n := 26) d_CM_count_25 rfl rfl rfl ?_
      refine zr_iaload j1 (n := 27) d_CM_count_26 rfl gg_25 (o1 h1 h2) ?_
      exact zr_ireturn d_CM_count_27 rfl rfl (Nat.le_refl _) (Nat.le_refl _) (l2 h1 h2)
    · refine zr_iconst (v := (-1)) (n := 17) d_CM_count_16 rfl (by decide) ?_
      exact zr_ireturn d_CM_count_17 rfl rfl (Nat.le_refl _) (Nat.le_refl _) (l1 (Or.inr ⟨h1, h2⟩))
theorem c_CM_count {d : Nat} {Q : zm_Q} {S : zm_S} {a1 : Int32} (j1 : Nat) (o1 : ¬ a1 < 0 → a1 < 6 → zm_ix a1 j1 6)
    (l1 : ((a1 < 0) ∨ (¬ a1 < 0 ∧ ¬ a1 < 6)) → Q (some (-1)) GG S)
    (l2 : ¬ a1 < 0 → a1 < 6 → Q (some (S 25 j1)) GG S) :
    zc M_CM_count d [.ref 0, .int a1] S Q := zm_CC_intro (by decide) rfl rfl (s_CM_count_0 j1 o1 l1 l2)
theorem s_CM_isByte_0 {d : Nat} {Q : zm_Q} {S : zm_S} {a0 : Int32}
    (l1 : ((a0 < 0) ∨ (¬ a0 < 0 ∧ 255 < a0)) → Q (some 0) GG S)
    (l2 : ¬ a0 < 0 → ¬ 255 < a0 → Q (some 1) GG S) :
    zw M_CM_isByte d Q 0 [some (.int a0)] [] S := by
  refine zr_iload_n (i := 0) (x := a0) (n := 1) d_CM_isByte_0 rfl rfl rfl ?_
  refine zr_if_lt (tgt := 15) (n := 4) d_CM_isByte_1 rfl (by decide) (fun h1 => ?_) (fun h1 => ?_)
  · refine zr_iconst (v := 0) (n := 16) d_CM_isByte_15 rfl (by decide) ?_
    exact zr_ireturn d_CM_isByte_16 rfl (by decide) (Nat.le_refl _) (Nat.le_refl _) (l1 (Or.inl h1))
  · refine zr_iload_n (i := 0) (x := a0) (n := 5) d_CM_isByte_4 rfl rfl rfl ?_
    refine zr_sipush (v := 255) (n := 8) d_CM_isByte_5 rfl (by decide) ?_
    refine zr_icmp_gt (tgt := 15) (n := 11) d_CM_isByte_8 rfl (by decide) (fun h2 => ?_) (fun h2 => ?_)
    · refine zr_iconst (v := 0) (n := 16) d_CM_isByte_15 rfl (by decide) ?_
      exact zr_ireturn d_CM_isByte_16 rfl (by decide) (Nat.le_refl _) (Nat.le_refl _) (l1 (Or.inr ⟨h1, h2⟩))
    · refine zr_iconst (v := 1) (n := 12) d_CM_isByte_11 rfl (by decide) ?_
      refine zr_goto (tgt := 16) d_CM_isByte_12 (by decide) ?_
      exact zr_ireturn d_CM_isByte_16 rfl (by decide) (Nat.le_refl _) (Nat.le_refl _) (l2 h1 h2)
theorem c_CM_isByte {d : Nat} {Q : zm_Q} {S : zm_S} {a0 : Int32}
    (l1 : ((a0 < 0) ∨ (¬ a0 < 0 ∧ 255 < a0)) → Q (some 0) GG S)
    (l2 : ¬ a0 < 0 → ¬ 255 < a0 → Q (some 1) GG S) :
    zc M_CM_isByte d [.int a0] S Q := zm_CC_intro (by decide) rfl rfl (s_CM_isByte_0 l1 l2)
theorem s_CM_isEntryKey_0 {d : Nat} {Q : zm_Q} {S : zm_S} {a0 : Int32}
    (l1 : ((a0 < 1) ∨ (¬ a0 < 1 ∧ 12 ≤ a0)) → Q (some 0) GG S)
    (l2 : ¬ a0 < 1 → ¬ 12 ≤ a0 → Q (some 1) GG S) :
    zw M_CM_isEntryKey d Q 0 [some (.int a0)] [] S := by
  refine zr_iload_n (i := 0) (x := a0) (n := 1) d_CM_isEntryKey_0 rfl rfl rfl ?_
  refine zr_iconst (v := 1) (n := 2) d_CM_isEntryKey_1 rfl (by decide) ?_
  refine zr_icmp_lt (tgt := 15) (n := 5) d_CM_isEntryKey_2 rfl (by decide) (fun h1 => ?_) (fun h1 => ?_)
  · refine zr_iconst (v := 0) (n := 16) d_CM_isEntryKey_15 rfl (by decide) ?_
    exact zr_ireturn d_CM_isEntryKey_16 rfl (by decide) (Nat.le_refl _) (Nat.le_refl _) (l1 (Or.inl h1))
  · refine zr_iload_n (i := 0) (x := a0) (n := 6) d_CM_isEntryKey_5 rfl rfl rfl ?_
    refine zr_bipush (v := 12) (n := 8) d_CM_isEntryKey_6 rfl (by decide) ?_
    refine zr_icmp_ge (tgt := 15) (n := 11) d_CM_isEntryKey_8 rfl (by decide) (fun h2 => ?_) (fun h2 => ?_)
    · refine zr_iconst (v := 0) (n := 16) d_CM_isEntryKey_15 rfl (by decide) ?_
      exact zr_ireturn d_CM_isEntryKey_16 rfl (by decide) (Nat.le_refl _) (Nat.le_refl _) (l1 (Or.inr ⟨h1, h2⟩))
    · refine zr_iconst (v := 1) (n := 12) d_CM_isEntryKey_11 rfl (by decide) ?_
      refine zr_goto (tgt := 16) d_CM_isEntryKey_12 (by decide) ?_
      exact zr_ireturn d_CM_isEntryKey_16 rfl (by decide) (Nat.le_refl _) (Nat.le_refl _) (l2 h1 h2)
theorem c_CM_isEntryKey {d : Nat} {Q : zm_Q} {S : zm_S} {a0 : Int32}
    (l1 : ((a0 < 1) ∨ (¬ a0 < 1 ∧ 12 ≤ a0)) → Q (some 0) GG S)
    (l2 : ¬ a0 < 1 → ¬ 12 ≤ a0 → Q (some 1) GG S) :
    zc M_CM_isEntryKey d [.int a0] S Q := zm_CC_intro (by decide) rfl rfl (s_CM_isEntryKey_0 l1 l2)
theorem s_CM_module_0 {d : Nat} {Q : zm_Q} {S : zm_S} {a1 : Int32} (j1 : Nat) (o1 : ¬ a1 < 0 → a1 < (S 7 1) → zm_ix a1 j1 12)
    (l1 : ((a1 < 0) ∨ (¬ a1 < 0 ∧ ¬ a1 < (S 7 1))) → Q (some (-2)) GG S)
    (l2 : ¬ a1 < 0 → a1 < (S 7 1) → Q (some ((65536 * (S 9 j1)) + (S 8 j1))) GG S) :
    zw M_CM_module d Q 0 [some (.ref 0), some (.int a1)] [] S := by
  refine zr_iload_n (i := 1) (x := a1) (n := 1) d_CM_module_0 rfl rfl rfl ?_
  refine zr_if_lt (tgt := 15) (n := 4) d_CM_module_1 rfl (by decide) (fun h1 => ?_) (fun h1 => ?_)
  · refine zr_bipush (v := (-2)) (n := 17) d_CM_module_15 rfl (by decide) ?_
    exact zr_ireturn d_CM_module_17 rfl rfl (Nat.le_refl _) (Nat.le_refl _) (l1 (Or.inl h1))
  · refine zr_iload_n (i := 1) (x := a1) (n := 5) d_CM_module_4 rfl rfl rfl ?_
    refine zr_aload_n (i := 0) (x := 0) (n := 6) d_CM_module_5 rfl rfl rfl ?_
    refine zr_getr (n := 9) d_CM_module_6 rfl f_CM_19 gg_0 rfl ?_
    refine zr_geti (n := 12) d_CM_module_9 rfl f_CM_95 gg_7 rfl ?_
    refine zr_icmp_lt (tgt := 18) (n := 15) d_CM_module_12 rfl (by decide) (fun h2 => ?_) (fun h2 => ?_)
    · refine zr_ldc (v := 65536) (n := 20) d_CM_module_18 rfl k_CM_98 ?_
      refine zr_aload_n (i := 0) (x := 0) (n := 21) d_CM_module_20 rfl rfl rfl ?_
      refine zr_getr (n := 24) d_CM_module_21 rfl f_CM_19 gg_0 rfl ?_
      refine zr_getr (n := 27) d_CM_module_24 rfl f_CM_99 gg_7 rfl ?_
      refine zr_iload_n (i := 1) (x := a1) (n := 28) d_CM_module_27 rfl rfl rfl ?_
      refine zr_iaload j1 (n := 29) d_CM_module_28 rfl gg_9 (o1 h1 h2) ?_
      refine zr_imul (n := 30) d_CM_module_29 rfl ?_
      refine zr_aload_n (i := 0) (x := 0) (n := 31) d_CM_module_30 rfl rfl rfl ?_
      refine zr_getr (n := 34) d_CM_module_31 rfl f_CM_19 gg_0 rfl ?_
      refine zr_getr (n := 37) d_CM_module_34 rfl f_CM_103 gg_7 rfl ?_
      refine zr_iload_n (i := 1) (x := a1) (n := 38) d_CM_module_37 rfl rfl rfl ?_
      refine zr_iaload j1 (n := 39) d_CM_module_38 rfl gg_8 (o1 h1 h2) ?_
      refine zr_iadd (n := 40) d_CM_module_39 rfl ?_
      exact zr_ireturn d_CM_module_40 rfl rfl (Nat.le_refl _) (Nat.le_refl _) (l2 h1 h2)
    · refine zr_bipush (v := (-2)) (n := 17) d_CM_module_15 rfl (by decide) ?_
      exact zr_ireturn d_CM_module_17 rfl rfl (Nat.le_refl _) (Nat.le_refl _) (l1 (Or.inr ⟨h1, h2⟩))
theorem c_CM_module {d : Nat} {Q : zm_Q} {S : zm_S} {a1 : Int32} (j1 : Nat) (o1 : ¬ a1 < 0 → a1 < (S 7 1) → zm_ix a1 j1 12)
    (l1 : ((a1 < 0) ∨ (¬ a1 < 0 ∧ ¬ a1 < (S 7 1))) → Q (some (-2)) GG S)
    (l2 : ¬ a1 < 0 → a1 < (S 7 1) → Q (some ((65536 * (S 9 j1)) + (S 8 j1))) GG S) :
    zc M_CM_module d [.ref 0, .int a1] S Q := zm_CC_intro (by decide) rfl rfl (s_CM_module_0 j1 o1 l1 l2)
theorem s_CM_modules_0 {d : Nat} {Q : zm_Q} {S : zm_S}
    (l1 : Q (some (S 7 1)) GG S) :
    zw M_CM_modules d Q 0 [some (.ref 0)] [] S := by
  refine zr_aload_n (i := 0) (x := 0) (n := 1) d_CM_modules_0 rfl rfl rfl ?_
  refine zr_getr (n := 4) d_CM_modules_1 rfl f_CM_19 gg_0 rfl ?_
  refine zr_geti (n := 7) d_CM_modules_4 rfl f_CM_95 gg_7 rfl ?_
  exact zr_ireturn d_CM_modules_7 rfl rfl (Nat.le_refl _) (Nat.le_refl _) l1
theorem c_CM_modules {d : Nat} {Q : zm_Q} {S : zm_S}
    (l1 : Q (some (S 7 1)) GG S) :
    zc M_CM_modules d [.ref 0] S Q := zm_CC_intro (by decide) rfl rfl (s_CM_modules_0 l1)
theorem s_CM_pairAt_0 {d : Nat} {Q : zm_Q} {S : zm_S} {a1 : Int32} (j1 : Nat) (j2 : Nat) (o1 : zm_ix a1 j1 257) (o2 : zm_ix (a1 + 1) j2 257)
    (l1 : Q (some (((S 26 j1) * 256) + (S 26 j2))) GG S) :
    zw M_CM_pairAt d Q 0 [some (.ref 26), some (.int a1)] [] S := by
  refine zr_aload_n (i := 0) (x := 26) (n := 1) d_CM_pairAt_0 rfl rfl rfl ?_
  refine zr_iload_n (i := 1) (x := a1) (n := 2) d_CM_pairAt_1 rfl rfl rfl ?_
  refine zr_iaload j1 (n := 3) d_CM_pairAt_2 rfl gg_26 o1 ?_
  refine zr_sipush (v := 256) (n := 6) d_CM_pairAt_3 rfl (by decide) ?_
  refine zr_imul (n := 7) d_CM_pairAt_6 rfl ?_
  refine zr_aload_n (i := 0) (x := 26) (n := 8) d_CM_pairAt_7 rfl rfl rfl ?_
  refine zr_iload_n (i := 1) (x := a1) (n := 9) d_CM_pairAt_8 rfl rfl rfl ?_
  refine zr_iconst (v := 1) (n := 10) d_CM_pairAt_9 rfl (by decide) ?_
  refine zr_iadd (n := 11) d_CM_pairAt_10 rfl ?_
  refine zr_iaload j2 (n := 12) d_CM_pairAt_11 rfl gg_26 o2 ?_
  refine zr_iadd (n := 13) d_CM_pairAt_12 rfl ?_
  exact zr_ireturn d_CM_pairAt_13 rfl rfl (Nat.le_refl _) (Nat.le_refl _) l1
theorem c_CM_pairAt {d : Nat} {Q : zm_Q} {S : zm_S} {a1 : Int32} (j1 : Nat) (j2 : Nat) (o1 : zm_ix a1 j1 257) (o2 : zm_ix (a1 + 1) j2 257)
    (l1 : Q (some (((S 26 j1) * 256) + (S 26 j2))) GG S) :
    zc M_CM_pairAt d [.ref 26, .int a1] S Q := zm_CC_intro (by decide) rfl rfl (s_CM_pairAt_0 j1 j2 o1 o2 l1)
theorem s_CM_transaction_0 {d : Nat} {Q : zm_Q} {S : zm_S}
    (l1 : (S 20 0) = 0 → Q (some (-2)) GG S)
    (l2 : ¬ (S 20 0) = 0 → Q (some (S 20 1)) GG S) :
    zw M_CM_transaction d Q 0 [some (.ref 0), none] [] S := by
  refine zr_aload_n (i := 0) (x := 0) (n := 1) d_CM_transaction_0 rfl rfl rfl ?_
  refine zr_getr (n := 4) d_CM_transaction_1 rfl f_CM_33 gg_0 rfl ?_
  refine zr_getr (n := 7) d_CM_transaction_4 rfl f_CM_126 gg_19 rfl ?_
  refine zr_astore_n (i := 1) (L' := [some (.ref 0), some (.ref 20)]) (n := 8) d_CM_transaction_7 rfl rfl rfl rfl ?_
  refine zr_aload_n (i := 1) (x := 20) (n := 9) d_CM_transaction_8 rfl rfl rfl ?_
  refine zr_geti (n := 12) d_CM_transaction_9 rfl f_CM_130 gg_20 rfl ?_
  refine zr_if_eq (tgt := 22) (n := 15) d_CM_transaction_12 rfl (by decide) (fun h1 => ?_) (fun h1 => ?_)
  · refine zr_bipush (v := (-2)) (n := 24) d_CM_transaction_22 rfl (by decide) ?_
    exact zr_ireturn d_CM_transaction_24 rfl rfl (Nat.le_refl _) (Nat.le_refl _) (l1 h1)
  · refine zr_aload_n (i := 1) (x := 20) (n := 16) d_CM_transaction_15 rfl rfl rfl ?_
    refine zr_geti (n := 19) d_CM_transaction_16 rfl f_CM_136 gg_20 rfl ?_
    refine zr_goto (tgt := 24) d_CM_transaction_19 (by decide) ?_
    exact zr_ireturn d_CM_transaction_24 rfl rfl (Nat.le_refl _) (Nat.le_refl _) (l2 h1)
theorem c_CM_transaction {d : Nat} {Q : zm_Q} {S : zm_S}
    (l1 : (S 20 0) = 0 → Q (some (-2)) GG S)
    (l2 : ¬ (S 20 0) = 0 → Q (some (S 20 1)) GG S) :
    zc M_CM_transaction d [.ref 0] S Q := zm_CC_intro (by decide) rfl rfl (s_CM_transaction_0 l1 l2)
theorem s_Ed_byteAt_0 {d : Nat} {Q : zm_Q} {S : zm_S} {a1 a2 : Int32} (j1 : Nat) (o1 : zm_ix ((a1 * 48) + a2) j1 576)
    (l1 : Q (some (S 10 j1)) GG S) :
    zw M_Ed_byteAt d Q 0 [some (.ref 7), some (.int a1), some (.int a2)] [] S := by
  refine zr_aload_n (i := 0) (x := 7) (n := 1) d_Ed_byteAt_0 rfl rfl rfl ?_
  refine zr_getr (n := 4) d_Ed_byteAt_1 rfl f_Ed_25 gg_7 rfl ?_
  refine zr_iload_n (i := 1) (x := a1) (n := 5) d_Ed_byteAt_4 rfl rfl rfl ?_
  refine zr_bipush (v := 48) (n := 7) d_Ed_byteAt_5 rfl (by decide) ?_
  refine zr_imul (n := 8) d_Ed_byteAt_7 rfl ?_
  refine zr_iload_n (i := 2) (x := a2) (n := 9) d_Ed_byteAt_8 rfl rfl rfl ?_
  refine zr_iadd (n := 10) d_Ed_byteAt_9 rfl ?_
  refine zr_iaload j1 (n := 11) d_Ed_byteAt_10 rfl gg_10 o1 ?_
  exact zr_ireturn d_Ed_byteAt_11 rfl rfl (Nat.le_refl _) (Nat.le_refl _) l1
theorem c_Ed_byteAt {d : Nat} {Q : zm_Q} {S : zm_S} {a1 a2 : Int32} (j1 : Nat) (o1 : zm_ix ((a1 * 48) + a2) j1 576)
    (l1 : Q (some (S 10 j1)) GG S) :
    zc M_Ed_byteAt d [.ref 7, .int a1, .int a2] S Q := zm_CC_intro (by decide) rfl rfl (s_Ed_byteAt_0 j1 o1 l1)
theorem s_Md_module_0 {d : Nat} {Q : zm_Q} {S : zm_S} {a1 : Int32} (j1 : Nat) (o1 : ¬ a1 < 0 → ¬ (S 27 6) ≤ a1 → zm_ix a1 j1 12)
    (l1 : ((a1 < 0) ∨ (¬ a1 < 0 ∧ (S 27 6) ≤ a1)) → Q (some (-2)) GG S)
    (l2 : ¬ a1 < 0 → ¬ (S 27 6) ≤ a1 → Q (some ((65536 * (S 34 j1)) + (S 33 j1))) GG S) :
    zw M_Md_module d Q 0 [some (.ref 27), some (.int a1)] [] S := by
  refine zr_iload_n (i := 1) (x := a1) (n := 1) d_Md_module_0 rfl rfl rfl ?_
  refine zr_if_lt (tgt := 31) (n := 4) d_Md_module_1 rfl (by decide) (fun h1 => ?_) (fun h1 => ?_)
  · refine zr_bipush (v := (-2)) (n := 33) d_Md_module_31 rfl (by decide) ?_
    exact zr_ireturn d_Md_module_33 rfl rfl (Nat.le_refl _) (Nat.le_refl _) (l1 (Or.inl h1))
  · refine zr_iload_n (i := 1) (x := a1) (n := 5) d_Md_module_4 rfl rfl rfl ?_
    refine zr_aload_n (i := 0) (x := 27) (n := 6) d_Md_module_5 rfl rfl rfl ?_
    refine zr_geti (n := 9) d_Md_module_6 rfl f_Md_100 gg_27 rfl ?_
    refine zr_icmp_ge (tgt := 31) (n := 12) d_Md_module_9 rfl (by decide) (fun h2 => ?_) (fun h2 => ?_)
    · refine zr_bipush (v := (-2)) (n := 33) d_Md_module_31 rfl (by decide) ?_
      exact zr_ireturn d_Md_module_33 rfl rfl (Nat.le_refl _) (Nat.le_refl _) (l1 (Or.inr ⟨h1, h2⟩))
    · refine zr_ldc (v := 65536) (n := 14) d_Md_module_12 rfl k_Md_148 ?_
      refine zr_aload_n (i := 0) (x := 27) (n := 15) d_Md_module_14 rfl rfl rfl ?_
      refine zr_getr (n := 18) d_Md_module_15 rfl f_Md_28 gg_27 rfl ?_
      refine zr_iload_n (i := 1) (x := a1) (n := 19) d_Md_module_18 rfl rfl rfl ?_
      refine zr_iaload j1 (n := 20) d_Md_module_19 rfl gg_34 (o1 h1 h2) ?_
      refine zr_imul (n := 21) d_Md_module_20 rfl ?_
      refine zr_aload_n (i := 0) (x := 27) (n := 22) d_Md_module_21 rfl rfl rfl ?_
      refine zr_getr (n := 25) d_Md_module_22 rfl f_Md_25 gg_27 rfl ?_
      refine zr_iload_n (i := 1) (x := a1) (n := 26) d_Md_module_25 rfl rfl rfl ?_
      refine zr_iaload j1 (n := 27) d_Md_module_26 rfl gg_33 (o1 h1 h2) ?_
      refine zr_iadd (n := 28) d_Md_module_27 rfl ?_
      refine zr_goto (tgt := 33) d_Md_module_28 (by decide) ?_
      exact zr_ireturn d_Md_module_33 rfl rfl (Nat.le_refl _) (Nat.le_refl _) (l2 h1 h2)
theorem c_Md_module {d : Nat} {Q : zm_Q} {S : zm_S} {a1 : Int32} (j1 : Nat) (o1 : ¬ a1 < 0 → ¬ (S 27 6) ≤ a1 → zm_ix a1 j1 12)
    (l1 : ((a1 < 0) ∨ (¬ a1 < 0 ∧ (S 27 6) ≤ a1)) → Q (some (-2)) GG S)
    (l2 : ¬ a1 < 0 → ¬ (S 27 6) ≤ a1 → Q (some ((65536 * (S 34 j1)) + (S 33 j1))) GG S) :
    zc M_Md_module d [.ref 27, .int a1] S Q := zm_CC_intro (by decide) rfl rfl (s_Md_module_0 j1 o1 l1 l2)
theorem s_Md_modules_0 {d : Nat} {Q : zm_Q} {S : zm_S}
    (l1 : Q (some (S 27 6)) GG S) :
    zw M_Md_modules d Q 0 [some (.ref 27)] [] S := by
  refine zr_aload_n (i := 0) (x := 27) (n := 1) d_Md_modules_0 rfl rfl rfl ?_
  refine zr_geti (n := 4) d_Md_modules_1 rfl f_Md_100 gg_27 rfl ?_
  exact zr_ireturn d_Md_modules_4 rfl rfl (Nat.le_refl _) (Nat.le_refl _) l1
theorem c_Md_modules {d : Nat} {Q : zm_Q} {S : zm_S}
    (l1 : Q (some (S 27 6)) GG S) :
    zc M_Md_modules d [.ref 27] S Q := zm_CC_intro (by decide) rfl rfl (s_Md_modules_0 l1)
theorem s_Md_pair_0 {d : Nat} {Q : zm_Q} {S : zm_S} {a1 : Int32} (j1 : Nat) (j2 : Nat) (o1 : zm_ix a1 j1 258) (o2 : zm_ix (a1 + 1) j2 258)
    (l1 : Q (some ((256 * (S 48 j1)) + (S 48 j2))) GG S) :
    zw M_Md_pair d Q 0 [some (.ref 27), some (.int a1)] [] S := by
  refine zr_sipush (v := 256) (n := 3) d_Md_pair_0 rfl (by decide) ?_
  refine zr_aload_n (i := 0) (x := 27) (n := 4) d_Md_pair_3 rfl rfl rfl ?_
  refine zr_getr (n := 7) d_Md_pair_4 rfl f_Md_78 gg_27 rfl ?_
  refine zr_iload_n (i := 1) (x := a1) (n := 8) d_Md_pair_7 rfl rfl rfl ?_
  refine zr_iaload j1 (n := 9) d_Md_pair_8 rfl gg_48 o1 ?_
  refine zr_imul (n := 10) d_Md_pair_9 rfl ?_
  refine zr_aload_n (i := 0) (x := 27) (n := 11) d_Md_pair_10 rfl rfl rfl ?_
  refine zr_getr (n := 14) d_Md_pair_11 rfl f_Md_78 gg_27 rfl ?_
  refine zr_iload_n (i := 1) (x := a1) (n := 15) d_Md_pair_14 rfl rfl rfl ?_
  refine zr_iconst (v := 1) (n := 16) d_Md_pair_15 rfl (by decide) ?_
  refine zr_iadd (n := 17) d_Md_pair_16 rfl ?_
  refine zr_iaload j2 (n := 18) d_Md_pair_17 rfl gg_48 o2 ?_
  refine zr_iadd (n := 19) d_Md_pair_18 rfl ?_
  exact zr_ireturn d_Md_pair_19 rfl rfl (Nat.le_refl _) (Nat.le_refl _) l1
theorem c_Md_pair {d : Nat} {Q : zm_Q} {S : zm_S} {a1 : Int32} (j1 : Nat) (j2 : Nat) (o1 : zm_ix a1 j1 258) (o2 : zm_ix (a1 + 1) j2 258)
    (l1 : Q (some ((256 * (S 48 j1)) + (S 48 j2))) GG S) :
    zc M_Md_pair d [.ref 27, .int a1] S Q := zm_CC_intro (by decide) rfl rfl (s_Md_pair_0 j1 j2 o1 o2 l1)
theorem s_Md_put_0 {d : Nat} {Q : zm_Q} {S : zm_S} {a1 a2 : Int32} (j1 : Nat) (j2 : Nat) (o1 : zm_ix a1 j1 12) (o2 : zm_ix ((48 * a1) + (S 33 j1)) j2 576)
    (l1 : Q none GG (zm_up (zm_up S 35 j2 a2) 33 j1 ((S 33 j1) + 1))) :
    zw M_Md_put d Q 0 [some (.ref 27), some (.int a1), some (.int a2)] [] S := by
  refine zr_aload_n (i := 0) (x := 27) (n := 1) d_Md_put_0 rfl rfl rfl ?_
  refine zr_getr (n := 4) d_Md_put_1 rfl f_Md_31 gg_27 rfl ?_
  refine zr_bipush (v := 48) (n := 6) d_Md_put_4 rfl (by decide) ?_
  refine zr_iload_n (i := 1) (x := a1) (n := 7) d_Md_put_6 rfl rfl rfl ?_
  refine zr_imul (n := 8) d_Md_put_7 rfl ?_
  refine zr_aload_n (i := 0) (x := 27) (n := 9) d_Md_put_8 rfl rfl rfl ?_
  refine zr_getr (n := 12) d_Md_put_9 rfl f_Md_25 gg_27 rfl ?_
  refine zr_iload_n (i := 1) (x := a1) (n := 13) d_Md_put_12 rfl rfl rfl ?_
  refine zr_iaload j1 (n := 14) d_Md_put_13 rfl gg_33 o1 ?_
  refine zr_iadd (n := 15) d_Md_put_14 rfl ?_
  refine zr_iload_n (i := 2) (x := a2) (n := 16) d_Md_put_15 rfl rfl rfl ?_
  refine zr_iastore j2 (n := 17) d_Md_put_16 rfl gg_35 o2 ?_
  refine zr_aload_n (i := 0) (x := 27) (n := 18) d_Md_put_17 rfl rfl rfl ?_
  refine zr_getr (n := 21) d_Md_put_18 rfl f_Md_25 gg_27 rfl ?_
  refine zr_iload_n (i := 1) (x := a1) (n := 22) d_Md_put_21 rfl rfl rfl ?_
  refine zr_dup2 (n := 23) d_Md_put_22 rfl rfl rfl ?_
  refine zr_iaload j1 (n := 24) d_Md_put_23 rfl gg_33 o1 ?_
  refine zr_iconst (v := 1) (n := 25) d_Md_put_24 rfl (by decide) ?_
  refine zr_iadd (n := 26) d_Md_put_25 rfl ?_
  refine zr_iastore j1 (n := 27) d_Md_put_26 rfl gg_33 o1 ?_
  exact zr_return d_Md_put_27 rfl (Nat.le_refl _) (Nat.le_refl _) l1
theorem c_Md_put {d : Nat} {Q : zm_Q} {S : zm_S} {a1 a2 : Int32} (j1 : Nat) (j2 : Nat) (o1 : zm_ix a1 j1 12) (o2 : zm_ix ((48 * a1) + (S 33 j1)) j2 576)
    (l1 : Q none GG (zm_up (zm_up S 35 j2 a2) 33 j1 ((S 33 j1) + 1))) :
    zc M_Md_put d [.ref 27, .int a1, .int a2] S Q := zm_CC_intro (by decide) rfl rfl (s_Md_put_0 j1 j2 o1 o2 l1)
theorem s_Md_stands_0 {d : Nat} {Q : zm_Q} {S : zm_S} {a1 a2 : Int32} (j1 : Nat) (j2 : Nat) (o1 : zm_ix a1 j1 12) (o2 : ¬ (S 45 j1) < (a2 + 3) → zm_ix (((48 * a1) + a2) + 2) j2 576)
    (l1 : (((S 45 j1) < (a2 + 3)) ∨ (¬ (S 45 j1) < (a2 + 3) ∧ (S 45 j1) < ((a2 + 3) + (S 47 j2)))) → Q (some 0) GG S)
    (l2 : ¬ (S 45 j1) < (a2 + 3) → ¬ (S 45 j1) < ((a2 + 3) + (S 47 j2)) → Q (some 1) GG S) :
    zw M_Md_stands d Q 0 [some (.ref 27), some (.int a1), some (.int a2), none] [] S := by
  refine zr_aload_n (i := 0) (x := 27) (n := 1) d_Md_stands_0 rfl rfl rfl ?_
  refine zr_getr (n := 4) d_Md_stands_1 rfl f_Md_69 gg_27 rfl ?_
  refine zr_iload_n (i := 1) (x := a1) (n := 5) d_Md_stands_4 rfl rfl rfl ?_
  refine zr_iaload j1 (n := 6) d_Md_stands_5 rfl gg_45 o1 ?_
  refine zr_istore_n (i := 3) (L' := [some (.ref 27), some (.int a1), some (.int a2), some (.int (S 45 j1))]) (n := 7) d_Md_stands_6 rfl rfl rfl rfl ?_
  refine zr_iload_n (i := 2) (x := a2) (n := 8) d_Md_stands_7 rfl rfl rfl ?_
  refine zr_iconst (v := 3) (n := 9) d_Md_stands_8 rfl (by decide) ?_
  refine zr_iadd (n := 10) d_Md_stands_9 rfl ?_
  refine zr_iload_n (i := 3) (x := (S 45 j1)) (n := 11) d_Md_stands_10 rfl rfl rfl ?_
  refine zr_icmp_gt (tgt := 39) (n := 14) d_Md_stands_11 rfl (by decide) (fun h1 => ?_) (fun h1 => ?_)
  · refine zr_iconst (v := 0) (n := 40) d_Md_stands_39 rfl (by decide) ?_
    exact zr_ireturn d_Md_stands_40 rfl (by decide) (Nat.le_refl _) (Nat.le_refl _) (l1 (Or.inl h1))
  · refine zr_iload_n (i := 2) (x := a2) (n := 15) d_Md_stands_14 rfl rfl rfl ?_
    refine zr_iconst (v := 3) (n := 16) d_Md_stands_15 rfl (by decide) ?_
    refine zr_iadd (n := 17) d_Md_stands_16 rfl ?_
    refine zr_aload_n (i := 0) (x := 27) (n := 18) d_Md_stands_17 rfl rfl rfl ?_
    refine zr_getr (n := 21) d_Md_stands_18 rfl f_Md_75 gg_27 rfl ?_
    refine zr_bipush (v := 48) (n := 23) d_Md_stands_21 rfl (by decide) ?_
    refine zr_iload_n (i := 1) (x := a1) (n := 24) d_Md_stands_23 rfl rfl rfl ?_
    refine zr_imul (n := 25) d_Md_stands_24 rfl ?_
    refine zr_iload_n (i := 2) (x := a2) (n := 26) d_Md_stands_25 rfl rfl rfl ?_
    refine zr_iadd (n := 27) d_Md_stands_26 rfl ?_
    refine zr_iconst (v := 2) (n := 28) d_Md_stands_27 rfl (by decide) ?_
    refine zr_iadd (n := 29) d_Md_stands_28 rfl ?_
    refine zr_iaload j2 (n := 30) d_Md_stands_29 rfl gg_47 (o2 h1) ?_
    refine zr_iadd (n := 31) d_Md_stands_30 rfl ?_
    refine zr_iload_n (i := 3) (x := (S 45 j1)) (n := 32) d_Md_stands_31 rfl rfl rfl ?_
    refine zr_icmp_gt (tgt := 39) (n := 35) d_Md_stands_32 rfl (by decide) (fun h2 => ?_) (fun h2 => ?_)
    · refine zr_iconst (v := 0) (n := 40) d_Md_stands_39 rfl (by decide) ?_
      exact zr_ireturn d_Md_stands_40 rfl (by decide) (Nat.le_refl _) (Nat.le_refl _) (l1 (Or.inr ⟨h1, h2⟩))
    · refine zr_iconst (v := 1) (n := 36) d_Md_stands_35 rfl (by decide) ?_
      refine zr_goto (tgt := 40) d_Md_stands_36 (by decide) ?_
      exact zr_ireturn d_Md_stands_40 rfl (by decide) (Nat.le_refl _) (Nat.le_refl _) (l2 h1 h2)
theorem c_Md_stands {d : Nat} {Q : zm_Q} {S : zm_S} {a1 a2 : Int32} (j1 : Nat) (j2 : Nat) (o1 : zm_ix a1 j1 12) (o2 : ¬ (S 45 j1) < (a2 + 3) → zm_ix (((48 * a1) + a2) + 2) j2 576)
    (l1 : (((S 45 j1) < (a2 + 3)) ∨ (¬ (S 45 j1) < (a2 + 3) ∧ (S 45 j1) < ((a2 + 3) + (S 47 j2)))) → Q (some 0) GG S)
    (l2 : ¬ (S 45 j1) < (a2 + 3) → ¬ (S 45 j1) < ((a2 + 3) + (S 47 j2)) → Q (some 1) GG S) :
    zc M_Md_stands d [.ref 27, .int a1, .int a2] S Q := zm_CC_intro (by decide) rfl rfl (s_Md_stands_0 j1 j2 o1 o2 l1 l2)
theorem s_Md_transaction_0 {d : Nat} {Q : zm_Q} {S : zm_S}
    (l1 : 0 ≤ (S 27 22) → Q (some (S 27 22)) GG S)
    (l2 : ¬ 0 ≤ (S 27 22) → Q (some (-2)) GG S) :
    zw M_Md_transaction d Q 0 [some (.ref 27)] [] S := by
  refine zr_aload_n (i := 0) (x := 27) (n := 1) d_Md_transaction_0 rfl rfl rfl ?_
  refine zr_geti (n := 4) d_Md_transaction_1 rfl f_Md_56 gg_27 rfl ?_
  refine zr_if_ge (tgt := 12) (n := 7) d_Md_transaction_4 rfl (by decide) (fun h1 => ?_) (fun h1 => ?_)
  · refine zr_aload_n (i := 0) (x := 27) (n := 13) d_Md_transaction_12 rfl rfl rfl ?_
    refine zr_geti (n := 16) d_Md_transaction_13 rfl f_Md_56 gg_27 rfl ?_
    exact zr_ireturn d_Md_transaction_16 rfl rfl (Nat.le_refl _) (Nat.le_refl _) (l1 h1)
  · refine zr_bipush (v := (-2)) (n := 9) d_Md_transaction_7 rfl (by decide) ?_
    refine zr_goto (tgt := 16) d_Md_transaction_9 (by decide) ?_
    exact zr_ireturn d_Md_transaction_16 rfl rfl (Nat.le_refl _) (Nat.le_refl _) (l2 h1)
theorem c_Md_transaction {d : Nat} {Q : zm_Q} {S : zm_S}
    (l1 : 0 ≤ (S 27 22) → Q (some (S 27 22)) GG S)
    (l2 : ¬ 0 ≤ (S 27 22) → Q (some (-2)) GG S) :
    zc M_Md_transaction d [.ref 27] S Q := zm_CC_intro (by decide) rfl rfl (s_Md_transaction_0 l1 l2)
theorem s_Md_within_0 {d : Nat} {Q : zm_Q} {S : zm_S} {a0 a1 a2 : Int32}
    (l1 : ((a0 < a1) ∨ (¬ a0 < a1 ∧ a2 < a0)) → Q (some 0) GG S)
    (l2 : ¬ a0 < a1 → ¬ a2 < a0 → Q (some 1) GG S) :
    zw M_Md_within d Q 0 [some (.int a0), some (.int a1), some (.int a2)] [] S := by
  refine zr_iload_n (i := 0) (x := a0) (n := 1) d_Md_within_0 rfl rfl rfl ?_
  refine zr_iload_n (i := 1) (x := a1) (n := 2) d_Md_within_1 rfl rfl rfl ?_
  refine zr_icmp_lt (tgt := 14) (n := 5) d_Md_within_2 rfl (by decide) (fun h1 => ?_) (fun h1 => ?_)
  · refine zr_iconst (v := 0) (n := 15) d_Md_within_14 rfl (by decide) ?_
    exact zr_ireturn d_Md_within_15 rfl (by decide) (Nat.le_refl _) (Nat.le_refl _) (l1 (Or.inl h1))
  · refine zr_iload_n (i := 0) (x := a0) (n := 6) d_Md_within_5 rfl rfl rfl ?_
    refine zr_iload_n (i := 2) (x := a2) (n := 7) d_Md_within_6 rfl rfl rfl ?_
    refine zr_icmp_gt (tgt := 14) (n := 10) d_Md_within_7 rfl (by decide) (fun h2 => ?_) (fun h2 => ?_)
    · refine zr_iconst (v := 0) (n := 15) d_Md_within_14 rfl (by decide) ?_
      exact zr_ireturn d_Md_within_15 rfl (by decide) (Nat.le_refl _) (Nat.le_refl _) (l1 (Or.inr ⟨h1, h2⟩))
    · refine zr_iconst (v := 1) (n := 11) d_Md_within_10 rfl (by decide) ?_
      refine zr_goto (tgt := 15) d_Md_within_11 (by decide) ?_
      exact zr_ireturn d_Md_within_15 rfl (by decide) (Nat.le_refl _) (Nat.le_refl _) (l2 h1 h2)
theorem c_Md_within {d : Nat} {Q : zm_Q} {S : zm_S} {a0 a1 a2 : Int32}
    (l1 : ((a0 < a1) ∨ (¬ a0 < a1 ∧ a2 < a0)) → Q (some 0) GG S)
    (l2 : ¬ a0 < a1 → ¬ a2 < a0 → Q (some 1) GG S) :
    zc M_Md_within d [.int a0, .int a1, .int a2] S Q := zm_CC_intro (by decide) rfl rfl (s_Md_within_0 l1 l2)
theorem s_Mt_contentAt_0 {d : Nat} {Q : zm_Q} {S : zm_S} {a1 a2 : Int32} (j1 : Nat) (o1 : zm_ix ((a1 + 3) + a2) j1 576)
    (l1 : Q (some (S 24 j1)) GG S) :
    zw M_Mt_contentAt d Q 0 [some (.ref 20), some (.int a1), some (.int a2)] [] S := by
  refine zr_aload_n (i := 0) (x := 20) (n := 1) d_Mt_contentAt_0 rfl rfl rfl ?_
  refine zr_getr (n := 4) d_Mt_contentAt_1 rfl f_Mt_29 gg_20 rfl ?_
  refine zr_iload_n (i := 1) (x := a1) (n := 5) d_Mt_contentAt_4 rfl rfl rfl ?_
  refine zr_iconst (v := 3) (n := 6) d_Mt_contentAt_5 rfl (by decide) ?_
  refine zr_iadd (n := 7) d_Mt_contentAt_6 rfl ?_
  refine zr_iload_n (i := 2) (x := a2) (n := 8) d_Mt_contentAt_7 rfl rfl rfl ?_
  refine zr_iadd (n := 9) d_Mt_contentAt_8 rfl ?_
  refine zr_iaload j1 (n := 10) d_Mt_contentAt_9 rfl gg_24 o1 ?_
  exact zr_ireturn d_Mt_contentAt_10 rfl rfl (Nat.le_refl _) (Nat.le_refl _) l1
theorem c_Mt_contentAt {d : Nat} {Q : zm_Q} {S : zm_S} {a1 a2 : Int32} (j1 : Nat) (o1 : zm_ix ((a1 + 3) + a2) j1 576)
    (l1 : Q (some (S 24 j1)) GG S) :
    zc M_Mt_contentAt d [.ref 20, .int a1, .int a2] S Q := zm_CC_intro (by decide) rfl rfl (s_Mt_contentAt_0 j1 o1 l1)
theorem s_Mt_isListed_0 {d : Nat} {Q : zm_Q} {S : zm_S} {a1 : Int32} (j1 : Nat) (o1 : ¬ a1 < 0 → ¬ 12 ≤ a1 → zm_ix a1 j1 12)
    (l1 : ((a1 < 0) ∨ (¬ a1 < 0 ∧ 12 ≤ a1) ∨ (¬ a1 < 0 ∧ ¬ 12 ≤ a1 ∧ (S 21 j1) ≤ 0)) → Q (some 0) GG S)
    (l2 : ¬ a1 < 0 → ¬ 12 ≤ a1 → ¬ (S 21 j1) ≤ 0 → Q (some 1) GG S) :
    zw M_Mt_isListed d Q 0 [some (.ref 20), some (.int a1)] [] S := by
  refine zr_iload_n (i := 1) (x := a1) (n := 1) d_Mt_isListed_0 rfl rfl rfl ?_
  refine zr_if_lt (tgt := 23) (n := 4) d_Mt_isListed_1 rfl (by decide) (fun h1 => ?_) (fun h1 => ?_)
  · refine zr_iconst (v := 0) (n := 24) d_Mt_isListed_23 rfl (by decide) ?_
    exact zr_ireturn d_Mt_isListed_24 rfl (by decide) (Nat.le_refl _) (Nat.le_refl _) (l1 (Or.inl h1))
  · refine zr_iload_n (i := 1) (x := a1) (n := 5) d_Mt_isListed_4 rfl rfl rfl ?_
    refine zr_bipush (v := 12) (n := 7) d_Mt_isListed_5 rfl (by decide) ?_
    refine zr_icmp_ge (tgt := 23) (n := 10) d_Mt_isListed_7 rfl (by decide) (fun h2 => ?_) (fun h2 => ?_)
    · refine zr_iconst (v := 0) (n := 24) d_Mt_isListed_23 rfl (by decide) ?_
      exact zr_ireturn d_Mt_isListed_24 rfl (by decide) (Nat.le_refl _) (Nat.le_refl _) (l1 (Or.inr (Or.inl ⟨h1, h2⟩)))
    · refine zr_aload_n (i := 0) (x := 20) (n := 11) d_Mt_isListed_10 rfl rfl rfl ?_
      refine zr_getr (n := 14) d_Mt_isListed_11 rfl f_Mt_19 gg_20 rfl ?_
      refine zr_iload_n (i := 1) (x := a1) (n := 15) d_Mt_isListed_14 rfl rfl rfl ?_
      refine zr_iaload j1 (n := 16) d_Mt_isListed_15 rfl gg_21 (o1 h1 h2) ?_
      refine zr_if_le (tgt := 23) (n := 19) d_Mt_isListed_16 rfl (by decide) (fun h3 => ?_) (fun h3 => ?_)
      · refine zr_iconst (v := 0) (n := 24) d_Mt_isListed_23 rfl (by decide) ?_
        exact zr_ireturn d_Mt_isListed_24 rfl (by decide) (Nat.le_refl _) (Nat.le_refl _) (l1 (Or.inr (Or.inr ⟨h1, h2, h3⟩)))
      · refine zr_iconst (v := 1) (n := 20) d_Mt_isListed_19 rfl (by decide) ?_
        refine zr_goto (tgt := 24) d_Mt_isListed_20 (by decide) ?_
        exact zr_ireturn d_Mt_isListed_24 rfl (by decide) (Nat.le_refl _) (Nat.le_refl _) (l2 h1 h2 h3)
theorem c_Mt_isListed {d : Nat} {Q : zm_Q} {S : zm_S} {a1 : Int32} (j1 : Nat) (o1 : ¬ a1 < 0 → ¬ 12 ≤ a1 → zm_ix a1 j1 12)
    (l1 : ((a1 < 0) ∨ (¬ a1 < 0 ∧ 12 ≤ a1) ∨ (¬ a1 < 0 ∧ ¬ 12 ≤ a1 ∧ (S 21 j1) ≤ 0)) → Q (some 0) GG S)
    (l2 : ¬ a1 < 0 → ¬ 12 ≤ a1 → ¬ (S 21 j1) ≤ 0 → Q (some 1) GG S) :
    zc M_Mt_isListed d [.ref 20, .int a1] S Q := zm_CC_intro (by decide) rfl rfl (s_Mt_isListed_0 j1 o1 l1 l2)
theorem s_Mt_kindAt_0 {d : Nat} {Q : zm_Q} {S : zm_S} {a1 : Int32} (j1 : Nat) (o1 : zm_ix a1 j1 576)
    (l1 : Q (some (S 24 j1)) GG S) :
    zw M_Mt_kindAt d Q 0 [some (.ref 20), some (.int a1)] [] S := by
  refine zr_aload_n (i := 0) (x := 20) (n := 1) d_Mt_kindAt_0 rfl rfl rfl ?_
  refine zr_getr (n := 4) d_Mt_kindAt_1 rfl f_Mt_29 gg_20 rfl ?_
  refine zr_iload_n (i := 1) (x := a1) (n := 5) d_Mt_kindAt_4 rfl rfl rfl ?_
  refine zr_iaload j1 (n := 6) d_Mt_kindAt_5 rfl gg_24 o1 ?_
  exact zr_ireturn d_Mt_kindAt_6 rfl rfl (Nat.le_refl _) (Nat.le_refl _) l1
theorem c_Mt_kindAt {d : Nat} {Q : zm_Q} {S : zm_S} {a1 : Int32} (j1 : Nat) (o1 : zm_ix a1 j1 576)
    (l1 : Q (some (S 24 j1)) GG S) :
    zc M_Mt_kindAt d [.ref 20, .int a1] S Q := zm_CC_intro (by decide) rfl rfl (s_Mt_kindAt_0 j1 o1 l1)
theorem s_Mt_lengthAt_0 {d : Nat} {Q : zm_Q} {S : zm_S} {a1 : Int32} (j1 : Nat) (o1 : zm_ix (a1 + 2) j1 576)
    (l1 : Q (some (S 24 j1)) GG S) :
    zw M_Mt_lengthAt d Q 0 [some (.ref 20), some (.int a1)] [] S := by
  refine zr_aload_n (i := 0) (x := 20) (n := 1) d_Mt_lengthAt_0 rfl rfl rfl ?_
  refine zr_getr (n := 4) d_Mt_lengthAt_1 rfl f_Mt_29 gg_20 rfl ?_
  refine zr_iload_n (i := 1) (x := a1) (n := 5) d_Mt_lengthAt_4 rfl rfl rfl ?_
  refine zr_iconst (v := 2) (n := 6) d_Mt_lengthAt_5 rfl (by decide) ?_
  refine zr_iadd (n := 7) d_Mt_lengthAt_6 rfl ?_
  refine zr_iaload j1 (n := 8) d_Mt_lengthAt_7 rfl gg_24 o1 ?_
  exact zr_ireturn d_Mt_lengthAt_8 rfl rfl (Nat.le_refl _) (Nat.le_refl _) l1
theorem c_Mt_lengthAt {d : Nat} {Q : zm_Q} {S : zm_S} {a1 : Int32} (j1 : Nat) (o1 : zm_ix (a1 + 2) j1 576)
    (l1 : Q (some (S 24 j1)) GG S) :
    zc M_Mt_lengthAt d [.ref 20, .int a1] S Q := zm_CC_intro (by decide) rfl rfl (s_Mt_lengthAt_0 j1 o1 l1)
theorem s_Mt_relist_0 {d : Nat} {Q : zm_Q} {S : zm_S} {a1 a2 a3 : Int32} (j1 : Nat) (o1 : zm_ix a1 j1 12)
    (l1 : Q none GG (zm_up (zm_up (zm_up S 21 j1 a2) 22 j1 a3) 23 j1 0)) :
    zw M_Mt_relist d Q 0 [some (.ref 20), some (.int a1), some (.int a2), some (.int a3)] [] S := by
  refine zr_aload_n (i := 0) (x := 20) (n := 1) d_Mt_relist_0 rfl rfl rfl ?_
  refine zr_getr (n := 4) d_Mt_relist_1 rfl f_Mt_19 gg_20 rfl ?_
  refine zr_iload_n (i := 1) (x := a1) (n := 5) d_Mt_relist_4 rfl rfl rfl ?_
  refine zr_iload_n (i := 2) (x := a2) (n := 6) d_Mt_relist_5 rfl rfl rfl ?_
  refine zr_iastore j1 (n := 7) d_Mt_relist_6 rfl gg_21 o1 ?_
  refine zr_aload_n (i := 0) (x := 20) (n := 8) d_Mt_relist_7 rfl rfl rfl ?_
  refine zr_getr (n := 11) d_Mt_relist_8 rfl f_Mt_23 gg_20 rfl ?_
  refine zr_iload_n (i := 1) (x := a1) (n := 12) d_Mt_relist_11 rfl rfl rfl ?_
  refine zr_iload_n (i := 3) (x := a3) (n := 13) d_Mt_relist_12 rfl rfl rfl ?_
  refine zr_iastore j1 (n := 14) d_Mt_relist_13 rfl gg_22 o1 ?_
  refine zr_aload_n (i := 0) (x := 20) (n := 15) d_Mt_relist_14 rfl rfl rfl ?_
  refine zr_getr (n := 18) d_Mt_relist_15 rfl f_Mt_26 gg_20 rfl ?_
  refine zr_iload_n (i := 1) (x := a1) (n := 19) d_Mt_relist_18 rfl rfl rfl ?_
  refine zr_iconst (v := 0) (n := 20) d_Mt_relist_19 rfl (by decide) ?_
  refine zr_iastore j1 (n := 21) d_Mt_relist_20 rfl gg_23 o1 ?_
  exact zr_return d_Mt_relist_21 rfl (Nat.le_refl _) (Nat.le_refl _) l1
theorem c_Mt_relist {d : Nat} {Q : zm_Q} {S : zm_S} {a1 a2 a3 : Int32} (j1 : Nat) (o1 : zm_ix a1 j1 12)
    (l1 : Q none GG (zm_up (zm_up (zm_up S 21 j1 a2) 22 j1 a3) 23 j1 0)) :
    zc M_Mt_relist d [.ref 20, .int a1, .int a2, .int a3] S Q := zm_CC_intro (by decide) rfl rfl (s_Mt_relist_0 j1 o1 l1)
theorem s_Rc_isBlock_0 {d : Nat} {Q : zm_Q} {S : zm_S} {a1 : Int32}
    (l1 : ((¬ (S 26 0) = 60) ∨ ((S 26 0) = 60 ∧ ((a1 - 6) - 4) < 1) ∨ ((S 26 0) = 60 ∧ ¬ ((a1 - 6) - 4) < 1 ∧ 8 < ((a1 - 6) - 4))) → Q (some 0) GG S)
    (l2 : (S 26 0) = 60 → ¬ ((a1 - 6) - 4) < 1 → ¬ 8 < ((a1 - 6) - 4) → Q (some 1) GG S) :
    zw M_Rc_isBlock d Q 0 [some (.ref 19), some (.int a1), none] [] S := by
  refine zr_iload_n (i := 1) (x := a1) (n := 1) d_Rc_isBlock_0 rfl rfl rfl ?_
  refine zr_bipush (v := 6) (n := 3) d_Rc_isBlock_1 rfl (by decide) ?_
  refine zr_isub (n := 4) d_Rc_isBlock_3 rfl ?_
  refine zr_iconst (v := 4) (n := 5) d_Rc_isBlock_4 rfl (by decide) ?_
  refine zr_isub (n := 6) d_Rc_isBlock_5 rfl ?_
  refine zr_istore_n (i := 2) (L' := [some (.ref 19), some (.int a1), some (.int ((a1 - 6) - 4))]) (n := 7) d_Rc_isBlock_6 rfl rfl rfl rfl ?_
  refine zr_aload_n (i := 0) (x := 19) (n := 8) d_Rc_isBlock_7 rfl rfl rfl ?_
  refine zr_getr (n := 11) d_Rc_isBlock_8 rfl f_Rc_22 gg_19 rfl ?_
  refine zr_iconst (v := 0) (n := 12) d_Rc_isBlock_11 rfl (by decide) ?_
  refine zr_iaload 0 (n := 13) d_Rc_isBlock_12 rfl gg_26 (zm_ixN (Nat.le_of_ble_eq_true rfl) (Nat.le_of_ble_eq_true rfl)) ?_
  refine zr_bipush (v := 60) (n := 15) d_Rc_isBlock_13 rfl (by decide) ?_
  refine zr_icmp_ne (tgt := 33) (n := 18) d_Rc_isBlock_15 rfl (by decide) (fun h1 => ?_) (fun h1 => ?_)
  · refine zr_iconst (v := 0) (n := 34) d_Rc_isBlock_33 rfl (by decide) ?_
    exact zr_ireturn d_Rc_isBlock_34 rfl (by decide) (Nat.le_refl _) (Nat.le_refl _) (l1 (Or.inl h1))
  · refine zr_iload_n (i := 2) (x := ((a1 - 6) - 4)) (n := 19) d_Rc_isBlock_18 rfl rfl rfl ?_
    refine zr_iconst (v := 1) (n := 20) d_Rc_isBlock_19 rfl (by decide) ?_
    refine zr_icmp_lt (tgt := 33) (n := 23) d_Rc_isBlock_20 rfl (by decide) (fun h2 => ?_) (fun h2 => ?_)
    · refine zr_iconst (v := 0) (n := 34) d_Rc_isBlock_33 rfl (by decide) ?_
      exact zr_ireturn d_Rc_isBlock_34 rfl (by decide) (Nat.le_refl _) (Nat.le_refl _) (l1 (Or.inr (Or.inl ⟨h1, h2⟩)))
    · refine zr_iload_n (i := 2) (x := ((a1 - 6) - 4)) (n := 24) d_Rc_isBlock_23 rfl rfl rfl ?_
      refine zr_bipush (v := 8) (n := 26) d_Rc_isBlock_24 rfl (by decide) ?_
      refine zr_icmp_gt (tgt := 33) (n := 29) d_Rc_isBlock_26 rfl (by decide) (fun h3 => ?_) (fun h3 => ?_)
      · refine zr_iconst (v := 0) (n := 34) d_Rc_isBlock_33 rfl (by decide) ?_
        exact zr_ireturn d_Rc_isBlock_34 rfl (by decide) (Nat.le_refl _) (Nat.le_refl _) (l1 (Or.inr (Or.inr ⟨h1, h2, h3⟩)))
      · refine zr_iconst (v := 1) (n := 30) d_Rc_isBlock_29 rfl (by decide) ?_
        refine zr_goto (tgt := 34) d_Rc_isBlock_30 (by decide) ?_
        exact zr_ireturn d_Rc_isBlock_34 rfl (by decide) (Nat.le_refl _) (Nat.le_refl _) (l2 h1 h2 h3)
theorem c_Rc_isBlock {d : Nat} {Q : zm_Q} {S : zm_S} {a1 : Int32}
    (l1 : ((¬ (S 26 0) = 60) ∨ ((S 26 0) = 60 ∧ ((a1 - 6) - 4) < 1) ∨ ((S 26 0) = 60 ∧ ¬ ((a1 - 6) - 4) < 1 ∧ 8 < ((a1 - 6) - 4))) → Q (some 0) GG S)
    (l2 : (S 26 0) = 60 → ¬ ((a1 - 6) - 4) < 1 → ¬ 8 < ((a1 - 6) - 4) → Q (some 1) GG S) :
    zc M_Rc_isBlock d [.ref 19, .int a1] S Q := zm_CC_intro (by decide) rfl rfl (s_Rc_isBlock_0 l1 l2)
theorem s_Sn_isOnAir_0 {d : Nat} {Q : zm_Q} {S : zm_S}
    (l1 : (S 16 1) ≤ 0 → Q (some 0) GG S)
    (l2 : ¬ (S 16 1) ≤ 0 → Q (some 1) GG S) :
    zw M_Sn_isOnAir d Q 0 [some (.ref 14)] [] S := by
  refine zr_aload_n (i := 0) (x := 14) (n := 1) d_Sn_isOnAir_0 rfl rfl rfl ?_
  refine zr_getr (n := 4) d_Sn_isOnAir_1 rfl f_Sn_18 gg_14 rfl ?_
  refine zr_geti (n := 7) d_Sn_isOnAir_4 rfl f_Sn_32 gg_16 rfl ?_
  refine zr_if_le (tgt := 14) (n := 10) d_Sn_isOnAir_7 rfl (by decide) (fun h1 => ?_) (fun h1 => ?_)
  · refine zr_iconst (v := 0) (n := 15) d_Sn_isOnAir_14 rfl (by decide) ?_
    exact zr_ireturn d_Sn_isOnAir_15 rfl (by decide) (Nat.le_refl _) (Nat.le_refl _) (l1 h1)
  · refine zr_iconst (v := 1) (n := 11) d_Sn_isOnAir_10 rfl (by decide) ?_
    refine zr_goto (tgt := 15) d_Sn_isOnAir_11 (by decide) ?_
    exact zr_ireturn d_Sn_isOnAir_15 rfl (by decide) (Nat.le_refl _) (Nat.le_refl _) (l2 h1)
theorem c_Sn_isOnAir {d : Nat} {Q : zm_Q} {S : zm_S}
    (l1 : (S 16 1) ≤ 0 → Q (some 0) GG S)
    (l2 : ¬ (S 16 1) ≤ 0 → Q (some 1) GG S) :
    zc M_Sn_isOnAir d [.ref 14] S Q := zm_CC_intro (by decide) rfl rfl (s_Sn_isOnAir_0 l1 l2)
theorem s_Tree_addByte_0 {d : Nat} {Q : zm_Q} {S : zm_S} {a1 a2 : Int32} (j1 : Nat) (j2 : Nat) (o1 : zm_ix a1 j1 12) (o2 : zm_ix ((a1 * 12) + (S 5 j1)) j2 144)
    (l1 : Q (some ((S 5 j1) + 1)) GG (zm_up (zm_up S 6 j2 a2) 5 j1 ((S 5 j1) + 1))) :
    zw M_Tree_addByte d Q 0 [some (.ref 1), some (.int a1), some (.int a2)] [] S := by
  refine zr_aload_n (i := 0) (x := 1) (n := 1) d_Tree_addByte_0 rfl rfl rfl ?_
  refine zr_getr (n := 4) d_Tree_addByte_1 rfl f_Tree_24 gg_1 rfl ?_
  refine zr_iload_n (i := 1) (x := a1) (n := 5) d_Tree_addByte_4 rfl rfl rfl ?_
  refine zr_bipush (v := 12) (n := 7) d_Tree_addByte_5 rfl (by decide) ?_
  refine zr_imul (n := 8) d_Tree_addByte_7 rfl ?_
  refine zr_aload_n (i := 0) (x := 1) (n := 9) d_Tree_addByte_8 rfl rfl rfl ?_
  refine zr_getr (n := 12) d_Tree_addByte_9 rfl f_Tree_21 gg_1 rfl ?_
  refine zr_iload_n (i := 1) (x := a1) (n := 13) d_Tree_addByte_12 rfl rfl rfl ?_
  refine zr_iaload j1 (n := 14) d_Tree_addByte_13 rfl gg_5 o1 ?_
  refine zr_iadd (n := 15) d_Tree_addByte_14 rfl ?_
  refine zr_iload_n (i := 2) (x := a2) (n := 16) d_Tree_addByte_15 rfl rfl rfl ?_
  refine zr_iastore j2 (n := 17) d_Tree_addByte_16 rfl gg_6 o2 ?_
  refine zr_aload_n (i := 0) (x := 1) (n := 18) d_Tree_addByte_17 rfl rfl rfl ?_
  refine zr_getr (n := 21) d_Tree_addByte_18 rfl f_Tree_21 gg_1 rfl ?_
  refine zr_iload_n (i := 1) (x := a1) (n := 22) d_Tree_addByte_21 rfl rfl rfl ?_
  refine zr_dup2 (n := 23) d_Tree_addByte_22 rfl rfl rfl ?_
  refine zr_iaload j1 (n := 24) d_Tree_addByte_23 rfl gg_5 o1 ?_
  refine zr_iconst (v := 1) (n := 25) d_Tree_addByte_24 rfl (by decide) ?_
  refine zr_iadd (n := 26) d_Tree_addByte_25 rfl ?_
  refine zr_iastore j1 (n := 27) d_Tree_addByte_26 rfl gg_5 o1 ?_
  refine zr_aload_n (i := 0) (x := 1) (n := 28) d_Tree_addByte_27 rfl rfl rfl ?_
  refine zr_getr (n := 31) d_Tree_addByte_28 rfl f_Tree_21 gg_1 rfl ?_
  refine zr_iload_n (i := 1) (x := a1) (n := 32) d_Tree_addByte_31 rfl rfl rfl ?_
  refine zr_iaload j1 (n := 33) d_Tree_addByte_32 rfl gg_5 o1 ?_
  refine zr_top (v := ((S 5 j1) + 1)) (by simp [zm_up, upd]) ?_
  exact zr_ireturn d_Tree_addByte_33 rfl rfl (Nat.le_refl _) (Nat.le_refl _) l1
theorem c_Tree_addByte {d : Nat} {Q : zm_Q} {S : zm_S} {a1 a2 : Int32} (j1 : Nat) (j2 : Nat) (o1 : zm_ix a1 j1 12) (o2 : zm_ix ((a1 * 12) + (S 5 j1)) j2 144)
    (l1 : Q (some ((S 5 j1) + 1)) GG (zm_up (zm_up S 6 j2 a2) 5 j1 ((S 5 j1) + 1))) :
    zc M_Tree_addByte d [.ref 1, .int a1, .int a2] S Q := zm_CC_intro (by decide) rfl rfl (s_Tree_addByte_0 j1 j2 o1 o2 l1)
theorem s_Tree_clearFile_0 {d : Nat} {Q : zm_Q} {S : zm_S} {a1 : Int32} (j1 : Nat) (o1 : zm_ix a1 j1 12)
    (l1 : Q (some (S 5 j1)) GG (zm_up S 5 j1 0)) :
    zw M_Tree_clearFile d Q 0 [some (.ref 1), some (.int a1), none] [] S := by
  refine zr_aload_n (i := 0) (x := 1) (n := 1) d_Tree_clearFile_0 rfl rfl rfl ?_
  refine zr_getr (n := 4) d_Tree_clearFile_1 rfl f_Tree_21 gg_1 rfl ?_
  refine zr_iload_n (i := 1) (x := a1) (n := 5) d_Tree_clearFile_4 rfl rfl rfl ?_
  refine zr_iaload j1 (n := 6) d_Tree_clearFile_5 rfl gg_5 o1 ?_
  refine zr_istore_n (i := 2) (L' := [some (.ref 1), some (.int a1), some (.int (S 5 j1))]) (n := 7) d_Tree_clearFile_6 rfl rfl rfl rfl ?_
  refine zr_aload_n (i := 0) (x := 1) (n := 8) d_Tree_clearFile_7 rfl rfl rfl ?_
  refine zr_getr (n := 11) d_Tree_clearFile_8 rfl f_Tree_21 gg_1 rfl ?_
  refine zr_iload_n (i := 1) (x := a1) (n := 12) d_Tree_clearFile_11 rfl rfl rfl ?_
  refine zr_iconst (v := 0) (n := 13) d_Tree_clearFile_12 rfl (by decide) ?_
  refine zr_iastore j1 (n := 14) d_Tree_clearFile_13 rfl gg_5 o1 ?_
  refine zr_iload_n (i := 2) (x := (S 5 j1)) (n := 15) d_Tree_clearFile_14 rfl rfl rfl ?_
  exact zr_ireturn d_Tree_clearFile_15 rfl rfl (Nat.le_refl _) (Nat.le_refl _) l1
theorem c_Tree_clearFile {d : Nat} {Q : zm_Q} {S : zm_S} {a1 : Int32} (j1 : Nat) (o1 : zm_ix a1 j1 12)
    (l1 : Q (some (S 5 j1)) GG (zm_up S 5 j1 0)) :
    zc M_Tree_clearFile d [.ref 1, .int a1] S Q := zm_CC_intro (by decide) rfl rfl (s_Tree_clearFile_0 j1 o1 l1)
theorem s_Tree_fileByte_0 {d : Nat} {Q : zm_Q} {S : zm_S} {a1 a2 : Int32} (j1 : Nat) (o1 : zm_ix ((a1 * 12) + a2) j1 144)
    (l1 : Q (some (S 6 j1)) GG S) :
    zw M_Tree_fileByte d Q 0 [some (.ref 1), some (.int a1), some (.int a2)] [] S := by
  refine zr_aload_n (i := 0) (x := 1) (n := 1) d_Tree_fileByte_0 rfl rfl rfl ?_
  refine zr_getr (n := 4) d_Tree_fileByte_1 rfl f_Tree_24 gg_1 rfl ?_
  refine zr_iload_n (i := 1) (x := a1) (n := 5) d_Tree_fileByte_4 rfl rfl rfl ?_
  refine zr_bipush (v := 12) (n := 7) d_Tree_fileByte_5 rfl (by decide) ?_
  refine zr_imul (n := 8) d_Tree_fileByte_7 rfl ?_
  refine zr_iload_n (i := 2) (x := a2) (n := 9) d_Tree_fileByte_8 rfl rfl rfl ?_
  refine zr_iadd (n := 10) d_Tree_fileByte_9 rfl ?_
  refine zr_iaload j1 (n := 11) d_Tree_fileByte_10 rfl gg_6 o1 ?_
  exact zr_ireturn d_Tree_fileByte_11 rfl rfl (Nat.le_refl _) (Nat.le_refl _) l1
theorem c_Tree_fileByte {d : Nat} {Q : zm_Q} {S : zm_S} {a1 a2 : Int32} (j1 : Nat) (o1 : zm_ix ((a1 * 12) + a2) j1 144)
    (l1 : Q (some (S 6 j1)) GG S) :
    zc M_Tree_fileByte d [.ref 1, .int a1, .int a2] S Q := zm_CC_intro (by decide) rfl rfl (s_Tree_fileByte_0 j1 o1 l1)
theorem s_Tree_fileLength_0 {d : Nat} {Q : zm_Q} {S : zm_S} {a1 : Int32} (j1 : Nat) (o1 : zm_ix a1 j1 12)
    (l1 : Q (some (S 5 j1)) GG S) :
    zw M_Tree_fileLength d Q 0 [some (.ref 1), some (.int a1)] [] S := by
  refine zr_aload_n (i := 0) (x := 1) (n := 1) d_Tree_fileLength_0 rfl rfl rfl ?_
  refine zr_getr (n := 4) d_Tree_fileLength_1 rfl f_Tree_21 gg_1 rfl ?_
  refine zr_iload_n (i := 1) (x := a1) (n := 5) d_Tree_fileLength_4 rfl rfl rfl ?_
  refine zr_iaload j1 (n := 6) d_Tree_fileLength_5 rfl gg_5 o1 ?_
  exact zr_ireturn d_Tree_fileLength_6 rfl rfl (Nat.le_refl _) (Nat.le_refl _) l1
theorem c_Tree_fileLength {d : Nat} {Q : zm_Q} {S : zm_S} {a1 : Int32} (j1 : Nat) (o1 : zm_ix a1 j1 12)
    (l1 : Q (some (S 5 j1)) GG S) :
    zc M_Tree_fileLength d [.ref 1, .int a1] S Q := zm_CC_intro (by decide) rfl rfl (s_Tree_fileLength_0 j1 o1 l1)
theorem s_Tree_isDirectory_0 {d : Nat} {Q : zm_Q} {S : zm_S} {a1 : Int32} (j1 : Nat) (o1 : zm_ix a1 j1 12)
    (l1 : (((S 2 j1) = 1) ∨ (¬ (S 2 j1) = 1 ∧ (S 2 j1) = 2)) → Q (some 1) GG S)
    (l2 : ¬ (S 2 j1) = 1 → ¬ (S 2 j1) = 2 → Q (some 0) GG S) :
    zw M_Tree_isDirectory d Q 0 [some (.ref 1), some (.int a1)] [] S := by
  refine zr_aload_n (i := 0) (x := 1) (n := 1) d_Tree_isDirectory_0 rfl rfl rfl ?_
  refine zr_getr (n := 4) d_Tree_isDirectory_1 rfl f_Tree_9 gg_1 rfl ?_
  refine zr_iload_n (i := 1) (x := a1) (n := 5) d_Tree_isDirectory_4 rfl rfl rfl ?_
  refine zr_iaload j1 (n := 6) d_Tree_isDirectory_5 rfl gg_2 o1 ?_
  refine zr_iconst (v := 1) (n := 7) d_Tree_isDirectory_6 rfl (by decide) ?_
  refine zr_icmp_eq (tgt := 20) (n := 10) d_Tree_isDirectory_7 rfl (by decide) (fun h1 => ?_) (fun h1 => ?_)
  · refine zr_iconst (v := 1) (n := 21) d_Tree_isDirectory_20 rfl (by decide) ?_
    refine zr_goto (tgt := 25) d_Tree_isDirectory_21 (by decide) ?_
    exact zr_ireturn d_Tree_isDirectory_25 rfl (by decide) (Nat.le_refl _) (Nat.le_refl _) (l1 (Or.inl h1))
  · refine zr_aload_n (i := 0) (x := 1) (n := 11) d_Tree_isDirectory_10 rfl rfl rfl ?_
    refine zr_getr (n := 14) d_Tree_isDirectory_11 rfl f_Tree_9 gg_1 rfl ?_
    refine zr_iload_n (i := 1) (x := a1) (n := 15) d_Tree_isDirectory_14 rfl rfl rfl ?_
    refine zr_iaload j1 (n := 16) d_Tree_isDirectory_15 rfl gg_2 o1 ?_
    refine zr_iconst (v := 2) (n := 17) d_Tree_isDirectory_16 rfl (by decide) ?_
    refine zr_icmp_ne (tgt := 24) (n := 20) d_Tree_isDirectory_17 rfl (by decide) (fun h2 => ?_) (fun h2 => ?_)
    · refine zr_iconst (v := 0) (n := 25) d_Tree_isDirectory_24 rfl (by decide) ?_
      exact zr_ireturn d_Tree_isDirectory_25 rfl (by decide) (Nat.le_refl _) (Nat.le_refl _) (l2 h1 h2)
    · refine zr_iconst (v := 1) (n := 21) d_Tree_isDirectory_20 rfl (by decide) ?_
      refine zr_goto (tgt := 25) d_Tree_isDirectory_21 (by decide) ?_
      exact zr_ireturn d_Tree_isDirectory_25 rfl (by decide) (Nat.le_refl _) (Nat.le_refl _) (l1 (Or.inr ⟨h1, h2⟩))
theorem c_Tree_isDirectory {d : Nat} {Q : zm_Q} {S : zm_S} {a1 : Int32} (j1 : Nat) (o1 : zm_ix a1 j1 12)
    (l1 : (((S 2 j1) = 1) ∨ (¬ (S 2 j1) = 1 ∧ (S 2 j1) = 2)) → Q (some 1) GG S)
    (l2 : ¬ (S 2 j1) = 1 → ¬ (S 2 j1) = 2 → Q (some 0) GG S) :
    zc M_Tree_isDirectory d [.ref 1, .int a1] S Q := zm_CC_intro (by decide) rfl rfl (s_Tree_isDirectory_0 j1 o1 l1 l2)
theorem s_Tree_isFile_0 {d : Nat} {Q : zm_Q} {S : zm_S} {a1 : Int32} (j1 : Nat) (o1 : zm_ix a1 j1 12)
    (l1 : ¬ (S 2 j1) = 3 → Q (some 0) GG S)
    (l2 : (S 2 j1) = 3 → Q (some 1) GG S) :
    zw M_Tree_isFile d Q 0 [some (.ref 1), some (.int a1)] [] S := by
  refine zr_aload_n (i := 0) (x := 1) (n := 1) d_Tree_isFile_0 rfl rfl rfl ?_
  refine zr_getr (n := 4) d_Tree_isFile_1 rfl f_Tree_9 gg_1 rfl ?_
  refine zr_iload_n (i := 1) (x := a1) (n := 5) d_Tree_isFile_4 rfl rfl rfl ?_
  refine zr_iaload j1 (n := 6) d_Tree_isFile_5 rfl gg_2 o1 ?_
  refine zr_iconst (v := 3) (n := 7) d_Tree_isFile_6 rfl (by decide) ?_
  refine zr_icmp_ne (tgt := 14) (n := 10) d_Tree_isFile_7 rfl (by decide) (fun h1 => ?_) (fun h1 => ?_)
  · refine zr_iconst (v := 0) (n := 15) d_Tree_isFile_14 rfl (by decide) ?_
    exact zr_ireturn d_Tree_isFile_15 rfl (by decide) (Nat.le_refl _) (Nat.le_refl _) (l1 h1)
  · refine zr_iconst (v := 1) (n := 11) d_Tree_isFile_10 rfl (by decide) ?_
    refine zr_goto (tgt := 15) d_Tree_isFile_11 (by decide) ?_
    exact zr_ireturn d_Tree_isFile_15 rfl (by decide) (Nat.le_refl _) (Nat.le_refl _) (l2 h1)
theorem c_Tree_isFile {d : Nat} {Q : zm_Q} {S : zm_S} {a1 : Int32} (j1 : Nat) (o1 : zm_ix a1 j1 12)
    (l1 : ¬ (S 2 j1) = 3 → Q (some 0) GG S)
    (l2 : (S 2 j1) = 3 → Q (some 1) GG S) :
    zc M_Tree_isFile d [.ref 1, .int a1] S Q := zm_CC_intro (by decide) rfl rfl (s_Tree_isFile_0 j1 o1 l1 l2)
theorem s_Tree_isThere_0 {d : Nat} {Q : zm_Q} {S : zm_S} {a1 : Int32} (j1 : Nat) (o1 : zm_ix a1 j1 12)
    (l1 : (S 2 j1) = 0 → Q (some 0) GG S)
    (l2 : ¬ (S 2 j1) = 0 → Q (some 1) GG S) :
    zw M_Tree_isThere d Q 0 [some (.ref 1), some (.int a1)] [] S := by
  refine zr_aload_n (i := 0) (x := 1) (n := 1) d_Tree_isThere_0 rfl rfl rfl ?_
  refine zr_getr (n := 4) d_Tree_isThere_1 rfl f_Tree_9 gg_1 rfl ?_
  refine zr_iload_n (i := 1) (x := a1) (n := 5) d_Tree_isThere_4 rfl rfl rfl ?_
  refine zr_iaload j1 (n := 6) d_Tree_isThere_5 rfl gg_2 o1 ?_
  refine zr_if_eq (tgt := 13) (n := 9) d_Tree_isThere_6 rfl (by decide) (fun h1 => ?_) (fun h1 => ?_)
  · refine zr_iconst (v := 0) (n := 14) d_Tree_isThere_13 rfl (by decide) ?_
    exact zr_ireturn d_Tree_isThere_14 rfl (by decide) (Nat.le_refl _) (Nat.le_refl _) (l1 h1)
  · refine zr_iconst (v := 1) (n := 10) d_Tree_isThere_9 rfl (by decide) ?_
    refine zr_goto (tgt := 14) d_Tree_isThere_10 (by decide) ?_
    exact zr_ireturn d_Tree_isThere_14 rfl (by decide) (Nat.le_refl _) (Nat.le_refl _) (l2 h1)
theorem c_Tree_isThere {d : Nat} {Q : zm_Q} {S : zm_S} {a1 : Int32} (j1 : Nat) (o1 : zm_ix a1 j1 12)
    (l1 : (S 2 j1) = 0 → Q (some 0) GG S)
    (l2 : ¬ (S 2 j1) = 0 → Q (some 1) GG S) :
    zc M_Tree_isThere d [.ref 1, .int a1] S Q := zm_CC_intro (by decide) rfl rfl (s_Tree_isThere_0 j1 o1 l1 l2)
theorem s_Tree_kindOf_0 {d : Nat} {Q : zm_Q} {S : zm_S} {a1 : Int32} (j1 : Nat) (o1 : zm_ix a1 j1 12)
    (l1 : Q (some (S 2 j1)) GG S) :
    zw M_Tree_kindOf d Q 0 [some (.ref 1), some (.int a1)] [] S := by
  refine zr_aload_n (i := 0) (x := 1) (n := 1) d_Tree_kindOf_0 rfl rfl rfl ?_
  refine zr_getr (n := 4) d_Tree_kindOf_1 rfl f_Tree_9 gg_1 rfl ?_
  refine zr_iload_n (i := 1) (x := a1) (n := 5) d_Tree_kindOf_4 rfl rfl rfl ?_
  refine zr_iaload j1 (n := 6) d_Tree_kindOf_5 rfl gg_2 o1 ?_
  exact zr_ireturn d_Tree_kindOf_6 rfl rfl (Nat.le_refl _) (Nat.le_refl _) l1
theorem c_Tree_kindOf {d : Nat} {Q : zm_Q} {S : zm_S} {a1 : Int32} (j1 : Nat) (o1 : zm_ix a1 j1 12)
    (l1 : Q (some (S 2 j1)) GG S) :
    zc M_Tree_kindOf d [.ref 1, .int a1] S Q := zm_CC_intro (by decide) rfl rfl (s_Tree_kindOf_0 j1 o1 l1)
theorem s_Tree_nameOf_0 {d : Nat} {Q : zm_Q} {S : zm_S} {a1 : Int32} (j1 : Nat) (o1 : zm_ix a1 j1 12)
    (l1 : Q (some (S 4 j1)) GG S) :
    zw M_Tree_nameOf d Q 0 [some (.ref 1), some (.int a1)] [] S := by
  refine zr_aload_n (i := 0) (x := 1) (n := 1) d_Tree_nameOf_0 rfl rfl rfl ?_
  refine zr_getr (n := 4) d_Tree_nameOf_1 rfl f_Tree_18 gg_1 rfl ?_
  refine zr_iload_n (i := 1) (x := a1) (n := 5) d_Tree_nameOf_4 rfl rfl rfl ?_
  refine zr_iaload j1 (n := 6) d_Tree_nameOf_5 rfl gg_4 o1 ?_
  exact zr_ireturn d_Tree_nameOf_6 rfl rfl (Nat.le_refl _) (Nat.le_refl _) l1
theorem c_Tree_nameOf {d : Nat} {Q : zm_Q} {S : zm_S} {a1 : Int32} (j1 : Nat) (o1 : zm_ix a1 j1 12)
    (l1 : Q (some (S 4 j1)) GG S) :
    zc M_Tree_nameOf d [.ref 1, .int a1] S Q := zm_CC_intro (by decide) rfl rfl (s_Tree_nameOf_0 j1 o1 l1)
theorem s_Tree_put_0 {d : Nat} {Q : zm_Q} {S : zm_S} {a1 a2 a3 a4 : Int32} (j1 : Nat) (o1 : zm_ix a1 j1 12)
    (l1 : Q none GG (zm_up (zm_up (zm_up (zm_up S 2 j1 a4) 3 j1 a2) 4 j1 a3) 5 j1 0)) :
    zw M_Tree_put d Q 0 [some (.ref 1), some (.int a1), some (.int a2), some (.int a3), some (.int a4)] [] S := by
  refine zr_aload_n (i := 0) (x := 1) (n := 1) d_Tree_put_0 rfl rfl rfl ?_
  refine zr_getr (n := 4) d_Tree_put_1 rfl f_Tree_9 gg_1 rfl ?_
  refine zr_iload_n (i := 1) (x := a1) (n := 5) d_Tree_put_4 rfl rfl rfl ?_
  refine zr_iload (i := 4) (x := a4) (n := 7) d_Tree_put_5 rfl rfl ?_
  refine zr_iastore j1 (n := 8) d_Tree_put_7 rfl gg_2 o1 ?_
  refine zr_aload_n (i := 0) (x := 1) (n := 9) d_Tree_put_8 rfl rfl rfl ?_
  refine zr_getr (n := 12) d_Tree_put_9 rfl f_Tree_15 gg_1 rfl ?_
  refine zr_iload_n (i := 1) (x := a1) (n := 13) d_Tree_put_12 rfl rfl rfl ?_
  refine zr_iload_n (i := 2) (x := a2) (n := 14) d_Tree_put_13 rfl rfl rfl ?_
  refine zr_iastore j1 (n := 15) d_Tree_put_14 rfl gg_3 o1 ?_
  refine zr_aload_n (i := 0) (x := 1) (n := 16) d_Tree_put_15 rfl rfl rfl ?_
  refine zr_getr (n := 19) d_Tree_put_16 rfl f_Tree_18 gg_1 rfl ?_
  refine zr_iload_n (i := 1) (x := a1) (n := 20) d_Tree_put_19 rfl rfl rfl ?_
  refine zr_iload_n (i := 3) (x := a3) (n := 21) d_Tree_put_20 rfl rfl rfl ?_
  refine zr_iastore j1 (n := 22) d_Tree_put_21 rfl gg_4 o1 ?_
  refine zr_aload_n (i := 0) (x := 1) (n := 23) d_Tree_put_22 rfl rfl rfl ?_
  refine zr_getr (n := 26) d_Tree_put_23 rfl f_Tree_21 gg_1 rfl ?_
  refine zr_iload_n (i := 1) (x := a1) (n := 27) d_Tree_put_26 rfl rfl rfl ?_
  refine zr_iconst (v := 0) (n := 28) d_Tree_put_27 rfl (by decide) ?_
  refine zr_iastore j1 (n := 29) d_Tree_put_28 rfl gg_5 o1 ?_
  exact zr_return d_Tree_put_29 rfl (Nat.le_refl _) (Nat.le_refl _) l1
theorem c_Tree_put {d : Nat} {Q : zm_Q} {S : zm_S} {a1 a2 a3 a4 : Int32} (j1 : Nat) (o1 : zm_ix a1 j1 12)
    (l1 : Q none GG (zm_up (zm_up (zm_up (zm_up S 2 j1 a4) 3 j1 a2) 4 j1 a3) 5 j1 0)) :
    zc M_Tree_put d [.ref 1, .int a1, .int a2, .int a3, .int a4] S Q := zm_CC_intro (by decide) rfl rfl (s_Tree_put_0 j1 o1 l1)
theorem s_Tree_take_0 {d : Nat} {Q : zm_Q} {S : zm_S} {a1 : Int32} (j1 : Nat) (o1 : zm_ix a1 j1 12)
    (l1 : Q none GG (zm_up (zm_up S 2 j1 0) 3 j1 (-1))) :
    zw M_Tree_take d Q 0 [some (.ref 1), some (.int a1)] [] S := by
  refine zr_aload_n (i := 0) (x := 1) (n := 1) d_Tree_take_0 rfl rfl rfl ?_
  refine zr_getr (n := 4) d_Tree_take_1 rfl f_Tree_9 gg_1 rfl ?_
  refine zr_iload_n (i := 1) (x := a1) (n := 5) d_Tree_take_4 rfl rfl rfl ?_
  refine zr_iconst (v := 0) (n := 6) d_Tree_take_5 rfl (by decide) ?_
  refine zr_iastore j1 (n := 7) d_Tree_take_6 rfl gg_2 o1 ?_
  refine zr_aload_n (i := 0) (x := 1) (n := 8) d_Tree_take_7 rfl rfl rfl ?_
  refine zr_getr (n := 11) d_Tree_take_8 rfl f_Tree_15 gg_1 rfl ?_
  refine zr_iload_n (i := 1) (x := a1) (n := 12) d_Tree_take_11 rfl rfl rfl ?_
  refine zr_iconst (v := (-1)) (n := 13) d_Tree_take_12 rfl (by decide) ?_
  refine zr_iastore j1 (n := 14) d_Tree_take_13 rfl gg_3 o1 ?_
  exact zr_return d_Tree_take_14 rfl (Nat.le_refl _) (Nat.le_refl _) l1
theorem c_Tree_take {d : Nat} {Q : zm_Q} {S : zm_S} {a1 : Int32} (j1 : Nat) (o1 : zm_ix a1 j1 12)
    (l1 : Q none GG (zm_up (zm_up S 2 j1 0) 3 j1 (-1))) :
    zc M_Tree_take d [.ref 1, .int a1] S Q := zm_CC_intro (by decide) rfl rfl (s_Tree_take_0 j1 o1 l1)
theorem s_CM_empty_0 {d : Nat} {Q : zm_Q} {S : zm_S} {a1 : Int32} (j1 : Nat) (o1 : ¬ a1 < 1 → ¬ 12 ≤ a1 → zm_ix a1 j1 12)
    (l1 : ((a1 < 1) ∨ (¬ a1 < 1 ∧ 12 ≤ a1)) → Q (some (-1)) GG S)
    (l2 : ¬ a1 < 1 → ¬ 12 ≤ a1 → ¬ (S 2 j1) = 3 → Q (some (-2)) GG S)
    (l3 : ¬ a1 < 1 → ¬ 12 ≤ a1 → (S 2 j1) = 3 → Q (some (S 5 j1)) GG (zm_up S 5 j1 0)) :
    zw M_CM_empty (d + 1) Q 0 [some (.ref 0), some (.int a1)] [] S := by
  refine zr_iload_n (i := 1) (x := a1) (n := 1) d_CM_empty_0 rfl rfl rfl ?_
  refine zr_callS (M' := M_CM_isEntryKey) (mc' := 0) (ms' := 0) (av := [.int a1]) (rest := []) (n := 4) d_CM_empty_1 rfl w_CM_53 w_CM_53k rfl rfl rfl rfl rfl (Nat.le_refl _) (Nat.le_refl _) ?_
  refine c_CM_isEntryKey (a0 := a1) (fun h1 => ?_) (fun h2 h3 => ?_)
  · refine zr_if_ne (tgt := 9) (n := 7) d_CM_empty_4 rfl (by decide) (fun h => absurd h (by decide)) (fun _ => ?_)
    refine zr_iconst (v := (-1)) (n := 8) d_CM_empty_7 rfl (by decide) ?_
    exact zr_ireturn d_CM_empty_8 rfl rfl (Nat.le_refl _) (Nat.le_refl _) (l1 h1)
  · refine zr_if_ne (tgt := 9) (n := 7) d_CM_empty_4 rfl (by decide) (fun _ => ?_) (fun h => absurd h (by decide))
    refine zr_aload_n (i := 0) (x := 0) (n := 10) d_CM_empty_9 rfl rfl rfl ?_
    refine zr_getr (n := 13) d_CM_empty_10 rfl f_CM_10 gg_0 rfl ?_
    refine zr_iload_n (i := 1) (x := a1) (n := 14) d_CM_empty_13 rfl rfl rfl ?_
    refine zr_callV (M' := M_Tree_isFile) (mc' := 0) (ms' := 0) (av := [.int a1]) (rest := []) (n := 17) d_CM_empty_14 rfl w_CM_70 w_CM_70k gg_1 rfl rfl rfl rfl rfl rfl (Nat.le_refl _) (Nat.le_refl _) ?_
    refine c_Tree_isFile (a1 := a1) j1 (o1 h2 h3) (fun h4 => ?_) (fun h5 => ?_)
    · refine zr_if_ne (tgt := 23) (n := 20) d_CM_empty_17 rfl (by decide) (fun h => absurd h (by decide)) (fun _ => ?_)
      refine zr_bipush (v := (-2)) (n := 22) d_CM_empty_20 rfl (by decide) ?_
      exact zr_ireturn d_CM_empty_22 rfl rfl (Nat.le_refl _) (Nat.le_refl _) (l2 h2 h3 h4)
    · refine zr_if_ne (tgt := 23) (n := 20) d_CM_empty_17 rfl (by decide) (fun _ => ?_) (fun h => absurd h (by decide))
      refine zr_aload_n (i := 0) (x := 0) (n := 24) d_CM_empty_23 rfl rfl rfl ?_
      refine zr_getr (n := 27) d_CM_empty_24 rfl f_CM_10 gg_0 rfl ?_
      refine zr_iload_n (i := 1) (x := a1) (n := 28) d_CM_empty_27 rfl rfl rfl ?_
      refine zr_weak (zm_LE.skip (zm_LE.skip zm_LE.nil)) ?_
      refine zr_callV (M' := M_Tree_clearFile) (mc' := 0) (ms' := 0) (av := [.int a1]) (rest := []) (n := 31) d_CM_empty_28 rfl w_CM_80 w_CM_80k gg_1 rfl rfl rfl rfl rfl rfl (Nat.le_refl _) (Nat.le_refl _) ?_
      refine c_Tree_clearFile (a1 := a1) j1 (o1 h2 h3) ?_
      exact zr_ireturn d_CM_empty_31 rfl rfl (Nat.le_refl _) (Nat.le_refl _) (l3 h2 h3 h5)
theorem c_CM_empty {d : Nat} {Q : zm_Q} {S : zm_S} {a1 : Int32} (j1 : Nat) (o1 : ¬ a1 < 1 → ¬ 12 ≤ a1 → zm_ix a1 j1 12)
    (l1 : ((a1 < 1) ∨ (¬ a1 < 1 ∧ 12 ≤ a1)) → Q (some (-1)) GG S)
    (l2 : ¬ a1 < 1 → ¬ 12 ≤ a1 → ¬ (S 2 j1) = 3 → Q (some (-2)) GG S)
    (l3 : ¬ a1 < 1 → ¬ 12 ≤ a1 → (S 2 j1) = 3 → Q (some (S 5 j1)) GG (zm_up S 5 j1 0)) :
    zc M_CM_empty (d + 1) [.ref 0, .int a1] S Q := zm_CC_intro (by decide) rfl rfl (s_CM_empty_0 j1 o1 l1 l2 l3)
theorem s_CM_peek_0 {d : Nat} {Q : zm_Q} {S : zm_S} {a1 : Int32} (j1 : Nat) (o1 : ¬ (S 16 1) ≤ 0 → ¬ a1 < 0 → a1 < 16 → zm_ix a1 j1 16)
    (l1 : (((S 16 1) ≤ 0) ∨ (¬ (S 16 1) ≤ 0 ∧ a1 < 0) ∨ (¬ (S 16 1) ≤ 0 ∧ ¬ a1 < 0 ∧ ¬ a1 < 16)) → Q (some (-2)) GG S)
    (l2 : ¬ (S 16 1) ≤ 0 → ¬ a1 < 0 → a1 < 16 → Q (some (S 15 j1)) GG S) :
    zw M_CM_peek (d + 1) Q 0 [some (.ref 0), some (.int a1)] [] S := by
  refine zr_aload_n (i := 0) (x := 0) (n := 1) d_CM_peek_0 rfl rfl rfl ?_
  refine zr_getr (n := 4) d_CM_peek_1 rfl f_CM_26 gg_0 rfl ?_
  refine zr_callV (M' := M_Sn_isOnAir) (mc' := 0) (ms' := 0) (av := []) (rest := []) (n := 7) d_CM_peek_4 rfl w_CM_106 w_CM_106k gg_14 rfl rfl rfl rfl rfl rfl (Nat.le_refl _) (Nat.le_refl _) ?_
  refine c_Sn_isOnAir (fun h1 => ?_) (fun h2 => ?_)
  · refine zr_if_eq (tgt := 20) (n := 10) d_CM_peek_7 rfl (by decide) (fun _ => ?_) (fun h => absurd h (by decide))
    refine zr_bipush (v := (-2)) (n := 22) d_CM_peek_20 rfl (by decide) ?_
    exact zr_ireturn d_CM_peek_22 rfl rfl (Nat.le_refl _) (Nat.le_refl _) (l1 (Or.inl h1))
  · refine zr_if_eq (tgt := 20) (n := 10) d_CM_peek_7 rfl (by decide) (fun h => absurd h (by decide)) (fun _ => ?_)
    refine zr_iload_n (i := 1) (x := a1) (n := 11) d_CM_peek_10 rfl rfl rfl ?_
    refine zr_if_lt (tgt := 20) (n := 14) d_CM_peek_11 rfl (by decide) (fun h3 => ?_) (fun h3 => ?_)
    · refine zr_bipush (v := (-2)) (n := 22) d_CM_peek_20 rfl (by decide) ?_
      exact zr_ireturn d_CM_peek_22 rfl rfl (Nat.le_refl _) (Nat.le_refl _) (l1 (Or.inr (Or.inl ⟨h2, h3⟩)))
    · refine zr_iload_n (i := 1) (x := a1) (n := 15) d_CM_peek_14 rfl rfl rfl ?_
      refine zr_bipush (v := 16) (n := 17) d_CM_peek_15 rfl (by decide) ?_
      refine zr_icmp_lt (tgt := 23) (n := 20) d_CM_peek_17 rfl (by decide) (fun h4 => ?_) (fun h4 => ?_)
      · refine zr_aload_n (i := 0) (x := 0) (n := 24) d_CM_peek_23 rfl rfl rfl ?_
        refine zr_getr (n := 27) d_CM_peek_24 rfl f_CM_26 gg_0 rfl ?_
        refine zr_getr (n := 30) d_CM_peek_27 rfl f_CM_110 gg_14 rfl ?_
        refine zr_iload_n (i := 1) (x := a1) (n := 31) d_CM_peek_30 rfl rfl rfl ?_
        refine zr_iaload j1 (n := 32) d_CM_peek_31 rfl gg_15 (o1 h2 h3 h4) ?_
        exact zr_ireturn d_CM_peek_32 rfl rfl (Nat.le_refl _) (Nat.le_refl _) (l2 h2 h3 h4)
      · refine zr_bipush (v := (-2)) (n := 22) d_CM_peek_20 rfl (by decide) ?_
        exact zr_ireturn d_CM_peek_22 rfl rfl (Nat.le_refl _) (Nat.le_refl _) (l1 (Or.inr (Or.inr ⟨h2, h3, h4⟩)))
theorem c_CM_peek {d : Nat} {Q : zm_Q} {S : zm_S} {a1 : Int32} (j1 : Nat) (o1 : ¬ (S 16 1) ≤ 0 → ¬ a1 < 0 → a1 < 16 → zm_ix a1 j1 16)
    (l1 : (((S 16 1) ≤ 0) ∨ (¬ (S 16 1) ≤ 0 ∧ a1 < 0) ∨ (¬ (S 16 1) ≤ 0 ∧ ¬ a1 < 0 ∧ ¬ a1 < 16)) → Q (some (-2)) GG S)
    (l2 : ¬ (S 16 1) ≤ 0 → ¬ a1 < 0 → a1 < 16 → Q (some (S 15 j1)) GG S) :
    zc M_CM_peek (d + 1) [.ref 0, .int a1] S Q := zm_CC_intro (by decide) rfl rfl (s_CM_peek_0 j1 o1 l1 l2)
theorem s_Md_count_0 {d : Nat} {Q : zm_Q} {S : zm_S} {a1 : Int32} (j1 : Nat) (o1 : ¬ a1 < 0 → ¬ 5 < a1 → zm_ix a1 j1 6)
    (l1 : ((a1 < 0) ∨ (¬ a1 < 0 ∧ 5 < a1)) → Q (some (-1)) GG S)
    (l2 : ¬ a1 < 0 → ¬ 5 < a1 → Q (some (S 49 j1)) GG S) :
    zw M_Md_count (d + 1) Q 0 [some (.ref 27), some (.int a1)] [] S := by
  refine zr_iload_n (i := 1) (x := a1) (n := 1) d_Md_count_0 rfl rfl rfl ?_
  refine zr_iconst (v := 0) (n := 2) d_Md_count_1 rfl (by decide) ?_
  refine zr_iconst (v := 5) (n := 3) d_Md_count_2 rfl (by decide) ?_
  refine zr_callS (M' := M_Md_within) (mc' := 0) (ms' := 0) (av := [.int a1, .int 0, .int 5]) (rest := []) (n := 6) d_Md_count_3 rfl w_Md_84 w_Md_84k rfl rfl rfl rfl rfl (Nat.le_refl _) (Nat.le_refl _) ?_
  refine c_Md_within (a0 := a1) (a1 := 0) (a2 := 5) (fun h1 => ?_) (fun h2 h3 => ?_)
  · refine zr_if_eq (tgt := 18) (n := 9) d_Md_count_6 rfl (by decide) (fun _ => ?_) (fun h => absurd h (by decide))
    refine zr_iconst (v := (-1)) (n := 19) d_Md_count_18 rfl (by decide) ?_
    exact zr_ireturn d_Md_count_19 rfl rfl (Nat.le_refl _) (Nat.le_refl _) (l1 h1)
  · refine zr_if_eq (tgt := 18) (n := 9) d_Md_count_6 rfl (by decide) (fun h => absurd h (by decide)) (fun _ => ?_)
    refine zr_aload_n (i := 0) (x := 27) (n := 10) d_Md_count_9 rfl rfl rfl ?_
    refine zr_getr (n := 13) d_Md_count_10 rfl f_Md_81 gg_27 rfl ?_
    refine zr_iload_n (i := 1) (x := a1) (n := 14) d_Md_count_13 rfl rfl rfl ?_
    refine zr_iaload j1 (n := 15) d_Md_count_14 rfl gg_49 (o1 h2 h3) ?_
    refine zr_goto (tgt := 19) d_Md_count_15 (by decide) ?_
    exact zr_ireturn d_Md_count_19 rfl rfl (Nat.le_refl _) (Nat.le_refl _) (l2 h2 h3)
theorem c_Md_count {d : Nat} {Q : zm_Q} {S : zm_S} {a1 : Int32} (j1 : Nat) (o1 : ¬ a1 < 0 → ¬ 5 < a1 → zm_ix a1 j1 6)
    (l1 : ((a1 < 0) ∨ (¬ a1 < 0 ∧ 5 < a1)) → Q (some (-1)) GG S)
    (l2 : ¬ a1 < 0 → ¬ 5 < a1 → Q (some (S 49 j1)) GG S) :
    zc M_Md_count (d + 1) [.ref 27, .int a1] S Q := zm_CC_intro (by decide) rfl rfl (s_Md_count_0 j1 o1 l1 l2)
theorem s_Md_empty_0 {d : Nat} {Q : zm_Q} {S : zm_S} {a1 : Int32} (j1 : Nat) (o1 : ¬ a1 < 1 → ¬ 11 < a1 → zm_ix a1 j1 12)
    (l1 : ((a1 < 1) ∨ (¬ a1 < 1 ∧ 11 < a1)) → Q (some (-1)) GG S)
    (l2 : ¬ a1 < 1 → ¬ 11 < a1 → (S 28 j1) = 3 → Q (some (S 31 j1)) GG (zm_up S 31 j1 0))
    (l3 : ¬ a1 < 1 → ¬ 11 < a1 → ¬ (S 28 j1) = 3 → Q (some (-2)) GG S) :
    zw M_Md_empty (d + 1) Q 0 [some (.ref 27), some (.int a1), none] [] S := by
  refine zr_iload_n (i := 1) (x := a1) (n := 1) d_Md_empty_0 rfl rfl rfl ?_
  refine zr_iconst (v := 1) (n := 2) d_Md_empty_1 rfl (by decide) ?_
  refine zr_bipush (v := 11) (n := 4) d_Md_empty_2 rfl (by decide) ?_
  refine zr_callS (M' := M_Md_within) (mc' := 0) (ms' := 0) (av := [.int a1, .int 1, .int 11]) (rest := []) (n := 7) d_Md_empty_4 rfl w_Md_84 w_Md_84k rfl rfl rfl rfl rfl (Nat.le_refl _) (Nat.le_refl _) ?_
  refine c_Md_within (a0 := a1) (a1 := 1) (a2 := 11) (fun h1 => ?_) (fun h2 h3 => ?_)
  · refine zr_if_ne (tgt := 12) (n := 10) d_Md_empty_7 rfl (by decide) (fun h => absurd h (by decide)) (fun _ => ?_)
    refine zr_iconst (v := (-1)) (n := 11) d_Md_empty_10 rfl (by decide) ?_
    exact zr_ireturn d_Md_empty_11 rfl rfl (Nat.le_refl _) (Nat.le_refl _) (l1 h1)
  · refine zr_if_ne (tgt := 12) (n := 10) d_Md_empty_7 rfl (by decide) (fun _ => ?_) (fun h => absurd h (by decide))
    refine zr_aload_n (i := 0) (x := 27) (n := 13) d_Md_empty_12 rfl rfl rfl ?_
    refine zr_getr (n := 16) d_Md_empty_13 rfl f_Md_7 gg_27 rfl ?_
    refine zr_iload_n (i := 1) (x := a1) (n := 17) d_Md_empty_16 rfl rfl rfl ?_
    refine zr_iaload j1 (n := 18) d_Md_empty_17 rfl gg_28 (o1 h2 h3) ?_
    refine zr_iconst (v := 3) (n := 19) d_Md_empty_18 rfl (by decide) ?_
    refine zr_icmp_eq (tgt := 25) (n := 22) d_Md_empty_19 rfl (by decide) (fun h4 => ?_) (fun h4 => ?_)
    · refine zr_aload_n (i := 0) (x := 27) (n := 26) d_Md_empty_25 rfl rfl rfl ?_
      refine zr_getr (n := 29) d_Md_empty_26 rfl f_Md_19 gg_27 rfl ?_
      refine zr_iload_n (i := 1) (x := a1) (n := 30) d_Md_empty_29 rfl rfl rfl ?_
      refine zr_iaload j1 (n := 31) d_Md_empty_30 rfl gg_31 (o1 h2 h3) ?_
      refine zr_istore_n (i := 2) (L' := [some (.ref 27), some (.int a1), some (.int (S 31 j1))]) (n := 32) d_Md_empty_31 rfl rfl rfl rfl ?_
      refine zr_aload_n (i := 0) (x := 27) (n := 33) d_Md_empty_32 rfl rfl rfl ?_
      refine zr_getr (n := 36) d_Md_empty_33 rfl f_Md_19 gg_27 rfl ?_
      refine zr_iload_n (i := 1) (x := a1) (n := 37) d_Md_empty_36 rfl rfl rfl ?_
      refine zr_iconst (v := 0) (n := 38) d_Md_empty_37 rfl (by decide) ?_
      refine zr_iastore j1 (n := 39) d_Md_empty_38 rfl gg_31 (o1 h2 h3) ?_
      refine zr_iload_n (i := 2) (x := (S 31 j1)) (n := 40) d_Md_empty_39 rfl rfl rfl ?_
      exact zr_ireturn d_Md_empty_40 rfl rfl (Nat.le_refl _) (Nat.le_refl _) (l2 h2 h3 h4)
    · refine zr_bipush (v := (-2)) (n := 24) d_Md_empty_22 rfl (by decide) ?_
      exact zr_ireturn d_Md_empty_24 rfl rfl (Nat.le_refl _) (Nat.le_refl _) (l3 h2 h3 h4)
theorem c_Md_empty {d : Nat} {Q : zm_Q} {S : zm_S} {a1 : Int32} (j1 : Nat) (o1 : ¬ a1 < 1 → ¬ 11 < a1 → zm_ix a1 j1 12)
    (l1 : ((a1 < 1) ∨ (¬ a1 < 1 ∧ 11 < a1)) → Q (some (-1)) GG S)
    (l2 : ¬ a1 < 1 → ¬ 11 < a1 → (S 28 j1) = 3 → Q (some (S 31 j1)) GG (zm_up S 31 j1 0))
    (l3 : ¬ a1 < 1 → ¬ 11 < a1 → ¬ (S 28 j1) = 3 → Q (some (-2)) GG S) :
    zc M_Md_empty (d + 1) [.ref 27, .int a1] S Q := zm_CC_intro (by decide) rfl rfl (s_Md_empty_0 j1 o1 l1 l2 l3)
theorem s_Mt_fits_0 {d : Nat} {Q : zm_Q} {S : zm_S} {a1 a2 : Int32} (j1 : Nat) (o1 : ¬ a2 < (a1 + 3) → zm_ix (a1 + 2) j1 576)
    (l1 : ((a2 < (a1 + 3)) ∨ (¬ a2 < (a1 + 3) ∧ a2 < ((a1 + 3) + (S 24 j1)))) → Q (some 0) GG S)
    (l2 : ¬ a2 < (a1 + 3) → ¬ a2 < ((a1 + 3) + (S 24 j1)) → Q (some 1) GG S) :
    zw M_Mt_fits (d + 1) Q 0 [some (.ref 20), some (.int a1), some (.int a2)] [] S := by
  refine zr_iload_n (i := 1) (x := a1) (n := 1) d_Mt_fits_0 rfl rfl rfl ?_
  refine zr_iconst (v := 3) (n := 2) d_Mt_fits_1 rfl (by decide) ?_
  refine zr_iadd (n := 3) d_Mt_fits_2 rfl ?_
  refine zr_iload_n (i := 2) (x := a2) (n := 4) d_Mt_fits_3 rfl rfl rfl ?_
  refine zr_icmp_gt (tgt := 24) (n := 7) d_Mt_fits_4 rfl (by decide) (fun h1 => ?_) (fun h1 => ?_)
  · refine zr_iconst (v := 0) (n := 25) d_Mt_fits_24 rfl (by decide) ?_
    exact zr_ireturn d_Mt_fits_25 rfl (by decide) (Nat.le_refl _) (Nat.le_refl _) (l1 (Or.inl h1))
  · refine zr_iload_n (i := 1) (x := a1) (n := 8) d_Mt_fits_7 rfl rfl rfl ?_
    refine zr_iconst (v := 3) (n := 9) d_Mt_fits_8 rfl (by decide) ?_
    refine zr_iadd (n := 10) d_Mt_fits_9 rfl ?_
    refine zr_aload_n (i := 0) (x := 20) (n := 11) d_Mt_fits_10 rfl rfl rfl ?_
    refine zr_iload_n (i := 1) (x := a1) (n := 12) d_Mt_fits_11 rfl rfl rfl ?_
    refine zr_weak (zm_LE.skip (zm_LE.skip (zm_LE.cons zm_LE.nil))) ?_
    refine zr_callV (M' := M_Mt_lengthAt) (mc' := 0) (ms' := 0) (av := [.int a1]) (rest := [.int (a1 + 3)]) (n := 15) d_Mt_fits_12 rfl w_Mt_79 w_Mt_79k gg_20 rfl rfl rfl rfl rfl rfl (Nat.le_refl _) (Nat.le_refl _) ?_
    refine c_Mt_lengthAt (a1 := a1) j1 (o1 h1) ?_
    refine zr_iadd (n := 16) d_Mt_fits_15 rfl ?_
    refine zr_iload_n (i := 2) (x := a2) (n := 17) d_Mt_fits_16 rfl rfl rfl ?_
    refine zr_icmp_gt (tgt := 24) (n := 20) d_Mt_fits_17 rfl (by decide) (fun h2 => ?_) (fun h2 => ?_)
    · refine zr_iconst (v := 0) (n := 25) d_Mt_fits_24 rfl (by decide) ?_
      exact zr_ireturn d_Mt_fits_25 rfl (by decide) (Nat.le_refl _) (Nat.le_refl _) (l1 (Or.inr ⟨h1, h2⟩))
    · refine zr_iconst (v := 1) (n := 21) d_Mt_fits_20 rfl (by decide) ?_
      refine zr_goto (tgt := 25) d_Mt_fits_21 (by decide) ?_
      exact zr_ireturn d_Mt_fits_25 rfl (by decide) (Nat.le_refl _) (Nat.le_refl _) (l2 h1 h2)
theorem c_Mt_fits {d : Nat} {Q : zm_Q} {S : zm_S} {a1 a2 : Int32} (j1 : Nat) (o1 : ¬ a2 < (a1 + 3) → zm_ix (a1 + 2) j1 576)
    (l1 : ((a2 < (a1 + 3)) ∨ (¬ a2 < (a1 + 3) ∧ a2 < ((a1 + 3) + (S 24 j1)))) → Q (some 0) GG S)
    (l2 : ¬ a2 < (a1 + 3) → ¬ a2 < ((a1 + 3) + (S 24 j1)) → Q (some 1) GG S) :
    zc M_Mt_fits (d + 1) [.ref 20, .int a1, .int a2] S Q := zm_CC_intro (by decide) rfl rfl (s_Mt_fits_0 j1 o1 l1 l2)
theorem s_Mt_isDirectoryAt_0 {d : Nat} {Q : zm_Q} {S : zm_S} {a1 : Int32} (j1 : Nat) (o1 : zm_ix a1 j1 576)
    (l1 : (((S 24 j1) = 1) ∨ (¬ (S 24 j1) = 1 ∧ (S 24 j1) = 2)) → Q (some 1) GG S)
    (l2 : ¬ (S 24 j1) = 1 → ¬ (S 24 j1) = 2 → Q (some 0) GG S) :
    zw M_Mt_isDirectoryAt (d + 1) Q 0 [some (.ref 20), some (.int a1)] [] S := by
  refine zr_aload_n (i := 0) (x := 20) (n := 1) d_Mt_isDirectoryAt_0 rfl rfl rfl ?_
  refine zr_iload_n (i := 1) (x := a1) (n := 2) d_Mt_isDirectoryAt_1 rfl rfl rfl ?_
  refine zr_callV (M' := M_Mt_kindAt) (mc' := 0) (ms' := 0) (av := [.int a1]) (rest := []) (n := 5) d_Mt_isDirectoryAt_2 rfl w_Mt_73 w_Mt_73k gg_20 rfl rfl rfl rfl rfl rfl (Nat.le_refl _) (Nat.le_refl _) ?_
  refine c_Mt_kindAt (a1 := a1) j1 o1 ?_
  refine zr_iconst (v := 1) (n := 6) d_Mt_isDirectoryAt_5 rfl (by decide) ?_
  refine zr_icmp_eq (tgt := 18) (n := 9) d_Mt_isDirectoryAt_6 rfl (by decide) (fun h1 => ?_) (fun h1 => ?_)
  · refine zr_iconst (v := 1) (n := 19) d_Mt_isDirectoryAt_18 rfl (by decide) ?_
    refine zr_goto (tgt := 23) d_Mt_isDirectoryAt_19 (by decide) ?_
    exact zr_ireturn d_Mt_isDirectoryAt_23 rfl (by decide) (Nat.le_refl _) (Nat.le_refl _) (l1 (Or.inl h1))
  · refine zr_aload_n (i := 0) (x := 20) (n := 10) d_Mt_isDirectoryAt_9 rfl rfl rfl ?_
    refine zr_iload_n (i := 1) (x := a1) (n := 11) d_Mt_isDirectoryAt_10 rfl rfl rfl ?_
    refine zr_weak (zm_LE.skip (zm_LE.skip zm_LE.nil)) ?_
    refine zr_callV (M' := M_Mt_kindAt) (mc' := 0) (ms' := 0) (av := [.int a1]) (rest := []) (n := 14) d_Mt_isDirectoryAt_11 rfl w_Mt_73 w_Mt_73k gg_20 rfl rfl rfl rfl rfl rfl (Nat.le_refl _) (Nat.le_refl _) ?_
    refine c_Mt_kindAt (a1 := a1) j1 o1 ?_
    refine zr_iconst (v := 2) (n := 15) d_Mt_isDirectoryAt_14 rfl (by decide) ?_
    refine zr_icmp_ne (tgt := 22) (n := 18) d_Mt_isDirectoryAt_15 rfl (by decide) (fun h2 => ?_) (fun h2 => ?_)
    · refine zr_iconst (v := 0) (n := 23) d_Mt_isDirectoryAt_22 rfl (by decide) ?_
      exact zr_ireturn d_Mt_isDirectoryAt_23 rfl (by decide) (Nat.le_refl _) (Nat.le_refl _) (l2 h1 h2)
    · refine zr_iconst (v := 1) (n := 19) d_Mt_isDirectoryAt_18 rfl (by decide) ?_
      refine zr_goto (tgt := 23) d_Mt_isDirectoryAt_19 (by decide) ?_
      exact zr_ireturn d_Mt_isDirectoryAt_23 rfl (by decide) (Nat.le_refl _) (Nat.le_refl _) (l1 (Or.inr ⟨h1, h2⟩))
theorem c_Mt_isDirectoryAt {d : Nat} {Q : zm_Q} {S : zm_S} {a1 : Int32} (j1 : Nat) (o1 : zm_ix a1 j1 576)
    (l1 : (((S 24 j1) = 1) ∨ (¬ (S 24 j1) = 1 ∧ (S 24 j1) = 2)) → Q (some 1) GG S)
    (l2 : ¬ (S 24 j1) = 1 → ¬ (S 24 j1) = 2 → Q (some 0) GG S) :
    zc M_Mt_isDirectoryAt (d + 1) [.ref 20, .int a1] S Q := zm_CC_intro (by decide) rfl rfl (s_Mt_isDirectoryAt_0 j1 o1 l1 l2)
end
section
theorem s_CM_make_0 {d : Nat} {Q : zm_Q} {S : zm_S} {a1 a2 a3 : Int32} (j1 : Nat) (o1 : ¬ a1 < 0 → ¬ 12 ≤ a1 → ¬ a2 < 1 → a2 ≤ 255 → zm_ix a1 j1 12)
    (l1 : ((a1 < 0) ∨ (¬ a1 < 0 ∧ 12 ≤ a1) ∨ (¬ a1 < 0 ∧ ¬ 12 ≤ a1 ∧ a2 < 1) ∨ (¬ a1 < 0 ∧ ¬ 12 ≤ a1 ∧ ¬ a2 < 1 ∧ ¬ a2 ≤ 255)) → Q (some (-1)) GG S)
    (l2 : ¬ a1 < 0 → ¬ 12 ≤ a1 → ¬ a2 < 1 → a2 ≤ 255 → (((S 2 j1) = 1) ∨ (¬ (S 2 j1) = 1 ∧ (S 2 j1) = 2)) → zc M_Tree_hasEntry (d + 1) [.ref 1, .int a1, .int a2] S (fun v G' S' => zm_WP M_CM_make none (d + 2) 0 0 Q 47 [some (.ref 0), some (.int a1), some (.int a2), some (.int a3), none] (zm_ps v []) G' S' 0 0))
    (l3 : ¬ a1 < 0 → ¬ 12 ≤ a1 → ¬ a2 < 1 → a2 ≤ 255 → ¬ (S 2 j1) = 1 → ¬ (S 2 j1) = 2 → Q (some (-2)) GG S) :
    zw M_CM_make (d + 2) Q 0 [some (.ref 0), some (.int a1), some (.int a2), some (.int a3), none] [] S := by
  refine zr_iload_n (i := 1) (x := a1) (n := 1) d_CM_make_0 rfl rfl rfl ?_
  refine zr_if_lt (tgt := 22) (n := 4) d_CM_make_1 rfl (by decide) (fun h1 => ?_) (fun h1 => ?_)
  · refine zr_iconst (v := (-1)) (n := 23) d_CM_make_22 rfl (by decide) ?_
    exact zr_ireturn d_CM_make_23 rfl rfl (Nat.le_refl _) (Nat.le_refl _) (l1 (Or.inl h1))
  · refine zr_iload_n (i := 1) (x := a1) (n := 5) d_CM_make_4 rfl rfl rfl ?_
    refine zr_bipush (v := 12) (n := 7) d_CM_make_5 rfl (by decide) ?_
    refine zr_icmp_ge (tgt := 22) (n := 10) d_CM_make_7 rfl (by decide) (fun h2 => ?_) (fun h2 => ?_)
    · refine zr_iconst (v := (-1)) (n := 23) d_CM_make_22 rfl (by decide) ?_
      exact zr_ireturn d_CM_make_23 rfl rfl (Nat.le_refl _) (Nat.le_refl _) (l1 (Or.inr (Or.inl ⟨h1, h2⟩)))
    · refine zr_iload_n (i := 2) (x := a2) (n := 11) d_CM_make_10 rfl rfl rfl ?_
      refine zr_iconst (v := 1) (n := 12) d_CM_make_11 rfl (by decide) ?_
      refine zr_icmp_lt (tgt := 22) (n := 15) d_CM_make_12 rfl (by decide) (fun h3 => ?_) (fun h3 => ?_)
      · refine zr_iconst (v := (-1)) (n := 23) d_CM_make_22 rfl (by decide) ?_
        exact zr_ireturn d_CM_make_23 rfl rfl (Nat.le_refl _) (Nat.le_refl _) (l1 (Or.inr (Or.inr (Or.inl ⟨h1, h2, h3⟩))))
      · refine zr_iload_n (i := 2) (x := a2) (n := 16) d_CM_make_15 rfl rfl rfl ?_
        refine zr_sipush (v := 255) (n := 19) d_CM_make_16 rfl (by decide) ?_
        refine zr_icmp_le (tgt := 24) (n := 22) d_CM_make_19 rfl (by decide) (fun h4 => ?_) (fun h4 => ?_)
        · refine zr_aload_n (i := 0) (x := 0) (n := 25) d_CM_make_24 rfl rfl rfl ?_
          refine zr_getr (n := 28) d_CM_make_25 rfl f_CM_10 gg_0 rfl ?_
          refine zr_iload_n (i := 1) (x := a1) (n := 29) d_CM_make_28 rfl rfl rfl ?_
          refine zr_callV (M' := M_Tree_isDirectory) (mc' := 0) (ms' := 0) (av := [.int a1]) (rest := []) (n := 32) d_CM_make_29 rfl w_CM_37 w_CM_37k gg_1 rfl rfl rfl rfl rfl rfl (Nat.le_refl _) (Nat.le_refl _) ?_
          refine c_Tree_isDirectory (a1 := a1) j1 (o1 h1 h2 h3 h4) (fun h5 => ?_) (fun h6 h7 => ?_)
          · refine zr_if_ne (tgt := 38) (n := 35) d_CM_make_32 rfl (by decide) (fun _ => ?_) (fun h => absurd h (by decide))
            refine zr_aload_n (i := 0) (x := 0) (n := 39) d_CM_make_38 rfl rfl rfl ?_
            refine zr_getr (n := 42) d_CM_make_39 rfl f_CM_10 gg_0 rfl ?_
            refine zr_iload_n (i := 1) (x := a1) (n := 43) d_CM_make_42 rfl rfl rfl ?_
            refine zr_iload_n (i := 2) (x := a2) (n := 44) d_CM_make_43 rfl rfl rfl ?_
            refine zr_callV (M' := M_Tree_hasEntry) (mc' := 0) (ms' := 0) (av := [.int a1, .int a2]) (rest := []) (n := 47) d_CM_make_44 rfl w_CM_41 w_CM_41k gg_1 rfl rfl rfl rfl rfl rfl (Nat.le_refl _) (Nat.le_refl _) ?_
            exact (l2 h1 h2 h3 h4 h5)
          · refine zr_if_ne (tgt := 38) (n := 35) d_CM_make_32 rfl (by decide) (fun h => absurd h (by decide)) (fun _ => ?_)
            refine zr_bipush (v := (-2)) (n := 37) d_CM_make_35 rfl (by decide) ?_
            exact zr_ireturn d_CM_make_37 rfl rfl (Nat.le_refl _) (Nat.le_refl _) (l3 h1 h2 h3 h4 h6 h7)
        · refine zr_iconst (v := (-1)) (n := 23) d_CM_make_22 rfl (by decide) ?_
          exact zr_ireturn d_CM_make_23 rfl rfl (Nat.le_refl _) (Nat.le_refl _) (l1 (Or.inr (Or.inr (Or.inr ⟨h1, h2, h3, h4⟩))))
theorem s_CM_make_47 {d : Nat} {Q : zm_Q} {S : zm_S} {a1 a2 a3 r : Int32}
    (l1 : r = 0 → zc M_Tree_leastFreeKey (d + 1) [.ref 1] S (fun v G' S' => zm_WP M_CM_make none (d + 2) 0 0 Q 60 [some (.ref 0), some (.int a1), some (.int a2), some (.int a3), none] (zm_ps v []) G' S' 0 0))
    (l2 : ¬ r = 0 → Q (some (-3)) GG S) :
    zw M_CM_make (d + 2) Q 47 [some (.ref 0), some (.int a1), some (.int a2), some (.int a3), none] [.int r] S := by
  refine zr_if_eq (tgt := 53) (n := 50) d_CM_make_47 rfl (by decide) (fun h1 => ?_) (fun h1 => ?_)
  · refine zr_aload_n (i := 0) (x := 0) (n := 54) d_CM_make_53 rfl rfl rfl ?_
    refine zr_getr (n := 57) d_CM_make_54 rfl f_CM_10 gg_0 rfl ?_
    refine zr_callV (M' := M_Tree_leastFreeKey) (mc' := 0) (ms' := 0) (av := []) (rest := []) (n := 60) d_CM_make_57 rfl w_CM_45 w_CM_45k gg_1 rfl rfl rfl rfl rfl rfl (Nat.le_refl _) (Nat.le_refl _) ?_
    exact (l1 h1)
  · refine zr_bipush (v := (-3)) (n := 52) d_CM_make_50 rfl (by decide) ?_
    exact zr_ireturn d_CM_make_52 rfl rfl (Nat.le_refl _) (Nat.le_refl _) (l2 h1)
theorem s_CM_make_60 {d : Nat} {Q : zm_Q} {S : zm_S} {a1 a2 a3 r : Int32} (j1 : Nat) (o1 : ¬ r = (-1) → a3 = 0 → zm_ix r j1 12) (o2 : ¬ r = (-1) → ¬ a3 = 0 → zm_ix r j1 12)
    (l1 : ¬ r = (-1) → a3 = 0 → Q (some r) GG (zm_up (zm_up (zm_up (zm_up S 2 j1 3) 3 j1 a1) 4 j1 a2) 5 j1 0))
    (l2 : ¬ r = (-1) → ¬ a3 = 0 → Q (some r) GG (zm_up (zm_up (zm_up (zm_up S 2 j1 2) 3 j1 a1) 4 j1 a2) 5 j1 0))
    (l3 : r = (-1) → Q (some (-4)) GG S) :
    zw M_CM_make (d + 2) Q 60 [some (.ref 0), some (.int a1), some (.int a2), some (.int a3), none] [.int r] S := by
  refine zr_istore (i := 4) (L' := [some (.ref 0), some (.int a1), some (.int a2), some (.int a3), some (.int r)]) (n := 62) d_CM_make_60 rfl rfl rfl ?_
  refine zr_iload (i := 4) (x := r) (n := 64) d_CM_make_62 rfl rfl ?_
  refine zr_iconst (v := (-1)) (n := 65) d_CM_make_64 rfl (by decide) ?_
  refine zr_icmp_ne (tgt := 71) (n := 68) d_CM_make_65 rfl (by decide) (fun h1 => ?_) (fun h1 => ?_)
  · refine zr_aload_n (i := 0) (x := 0) (n := 72) d_CM_make_71 rfl rfl rfl ?_
    refine zr_getr (n := 75) d_CM_make_72 rfl f_CM_10 gg_0 rfl ?_
    refine zr_iload (i := 4) (x := r) (n := 77) d_CM_make_75 rfl rfl ?_
    refine zr_iload_n (i := 1) (x := a1) (n := 78) d_CM_make_77 rfl rfl rfl ?_
    refine zr_iload_n (i := 2) (x := a2) (n := 79) d_CM_make_78 rfl rfl rfl ?_
    refine zr_iload_n (i := 3) (x := a3) (n := 80) d_CM_make_79 rfl rfl rfl ?_
    refine zr_if_eq (tgt := 87) (n := 83) d_CM_make_80 rfl (by decide) (fun h2 => ?_) (fun h2 => ?_)
    · refine zr_iconst (v := 3) (n := 88) d_CM_make_87 rfl (by decide) ?_
      refine zr_weak (zm_LE.skip (zm_LE.skip (zm_LE.skip (zm_LE.skip (zm_LE.cons zm_LE.nil))))) ?_
      refine zr_callV (M' := M_Tree_put) (mc' := 0) (ms' := 0) (av := [.int r, .int a1, .int a2, .int 3]) (rest := []) (n := 91) d_CM_make_88 rfl w_CM_49 w_CM_49k gg_1 rfl rfl rfl rfl rfl rfl (Nat.le_refl _) (Nat.le_refl _) ?_
      refine c_Tree_put (a1 := r) (a2 := a1) (a3 := a2) (a4 := 3) j1 (o1 h1 h2) ?_
      refine zr_iload (i := 4) (x := r) (n := 93) d_CM_make_91 rfl rfl ?_
      exact zr_ireturn d_CM_make_93 rfl rfl (Nat.le_refl _) (Nat.le_refl _) (l1 h1 h2)
    · refine zr_iconst (v := 2) (n := 84) d_CM_make_83 rfl (by decide) ?_
      refine zr_goto (tgt := 88) d_CM_make_84 (by decide) ?_
      refine zr_weak (zm_LE.skip (zm_LE.skip (zm_LE.skip (zm_LE.skip (zm_LE.cons zm_LE.nil))))) ?_
      refine zr_callV (M' := M_Tree_put) (mc' := 0) (ms' := 0) (av := [.int r, .int a1, .int a2, .int 2]) (rest := []) (n := 91) d_CM_make_88 rfl w_CM_49 w_CM_49k gg_1 rfl rfl rfl rfl rfl rfl (Nat.le_refl _) (Nat.le_refl _) ?_
      refine c_Tree_put (a1 := r) (a2 := a1) (a3 := a2) (a4 := 2) j1 (o2 h1 h2) ?_
      refine zr_iload (i := 4) (x := r) (n := 93) d_CM_make_91 rfl rfl ?_
      exact zr_ireturn d_CM_make_93 rfl rfl (Nat.le_refl _) (Nat.le_refl _) (l2 h1 h2)
  · refine zr_bipush (v := (-4)) (n := 70) d_CM_make_68 rfl (by decide) ?_
    exact zr_ireturn d_CM_make_70 rfl rfl (Nat.le_refl _) (Nat.le_refl _) (l3 h1)
theorem e_CM_make {d : Nat} {Q : zm_Q} {S : zm_S} {a1 a2 a3 : Int32} (h : zw M_CM_make (d + 2) Q 0 [some (.ref 0), some (.int a1), some (.int a2), some (.int a3), none] [] S) : zc M_CM_make (d + 2) [.ref 0, .int a1, .int a2, .int a3] S Q := zm_CC_intro (by decide) rfl rfl h
theorem s_CM_remove_0 {d : Nat} {Q : zm_Q} {S : zm_S} {a1 : Int32} (j1 : Nat) (o1 : ¬ a1 < 1 → ¬ 12 ≤ a1 → zm_ix a1 j1 12)
    (l1 : ((a1 < 1) ∨ (¬ a1 < 1 ∧ 12 ≤ a1)) → Q (some (-1)) GG S)
    (l2 : ¬ a1 < 1 → ¬ 12 ≤ a1 → (S 2 j1) = 0 → Q (some (-2)) GG S)
    (l3 : ¬ a1 < 1 → ¬ 12 ≤ a1 → ¬ (S 2 j1) = 0 → zc M_Tree_entryCount d [.ref 1, .int a1] S (fun v G' S' => zm_WP M_CM_remove none (d + 1) 0 0 Q 31 [some (.ref 0), some (.int a1)] (zm_ps v []) G' S' 0 0)) :
    zw M_CM_remove (d + 1) Q 0 [some (.ref 0), some (.int a1)] [] S := by
  refine zr_iload_n (i := 1) (x := a1) (n := 1) d_CM_remove_0 rfl rfl rfl ?_
  refine zr_callS (M' := M_CM_isEntryKey) (mc' := 0) (ms' := 0) (av := [.int a1]) (rest := []) (n := 4) d_CM_remove_1 rfl w_CM_53 w_CM_53k rfl rfl rfl rfl rfl (Nat.le_refl _) (Nat.le_refl _) ?_
  refine c_CM_isEntryKey (a0 := a1) (fun h1 => ?_) (fun h2 h3 => ?_)
  · refine zr_if_ne (tgt := 9) (n := 7) d_CM_remove_4 rfl (by decide) (fun h => absurd h (by decide)) (fun _ => ?_)
    refine zr_iconst (v := (-1)) (n := 8) d_CM_remove_7 rfl (by decide) ?_
    exact zr_ireturn d_CM_remove_8 rfl rfl (Nat.le_refl _) (Nat.le_refl _) (l1 h1)
  · refine zr_if_ne (tgt := 9) (n := 7) d_CM_remove_4 rfl (by decide) (fun _ => ?_) (fun h => absurd h (by decide))
    refine zr_aload_n (i := 0) (x := 0) (n := 10) d_CM_remove_9 rfl rfl rfl ?_
    refine zr_getr (n := 13) d_CM_remove_10 rfl f_CM_10 gg_0 rfl ?_
    refine zr_iload_n (i := 1) (x := a1) (n := 14) d_CM_remove_13 rfl rfl rfl ?_
    refine zr_callV (M' := M_Tree_isThere) (mc' := 0) (ms' := 0) (av := [.int a1]) (rest := []) (n := 17) d_CM_remove_14 rfl w_CM_56 w_CM_56k gg_1 rfl rfl rfl rfl rfl rfl (Nat.le_refl _) (Nat.le_refl _) ?_
    refine c_Tree_isThere (a1 := a1) j1 (o1 h2 h3) (fun h4 => ?_) (fun h5 => ?_)
    · refine zr_if_ne (tgt := 23) (n := 20) d_CM_remove_17 rfl (by decide) (fun h => absurd h (by decide)) (fun _ => ?_)
      refine zr_bipush (v := (-2)) (n := 22) d_CM_remove_20 rfl (by decide) ?_
      exact zr_ireturn d_CM_remove_22 rfl rfl (Nat.le_refl _) (Nat.le_refl _) (l2 h2 h3 h4)
    · refine zr_if_ne (tgt := 23) (n := 20) d_CM_remove_17 rfl (by decide) (fun _ => ?_) (fun h => absurd h (by decide))
      refine zr_aload_n (i := 0) (x := 0) (n := 24) d_CM_remove_23 rfl rfl rfl ?_
      refine zr_getr (n := 27) d_CM_remove_24 rfl f_CM_10 gg_0 rfl ?_
      refine zr_iload_n (i := 1) (x := a1) (n := 28) d_CM_remove_27 rfl rfl rfl ?_
      refine zr_callV (M' := M_Tree_entryCount) (mc' := 0) (ms' := 0) (av := [.int a1]) (rest := []) (n := 31) d_CM_remove_28 rfl w_CM_59 w_CM_59k gg_1 rfl rfl rfl rfl rfl rfl (Nat.le_refl _) (Nat.le_refl _) ?_
      exact (l3 h2 h3 h5)
theorem s_CM_remove_31 {d : Nat} {Q : zm_Q} {S : zm_S} {a1 r : Int32} (j1 : Nat) (o1 : r ≤ 0 → zm_ix a1 j1 12)
    (l1 : r ≤ 0 → Q (some 0) GG (zm_up (zm_up S 2 j1 0) 3 j1 (-1)))
    (l2 : ¬ r ≤ 0 → Q (some (-5)) GG S) :
    zw M_CM_remove (d + 1) Q 31 [some (.ref 0), some (.int a1)] [.int r] S := by
  refine zr_if_le (tgt := 37) (n := 34) d_CM_remove_31 rfl (by decide) (fun h1 => ?_) (fun h1 => ?_)
  · refine zr_aload_n (i := 0) (x := 0) (n := 38) d_CM_remove_37 rfl rfl rfl ?_
    refine zr_getr (n := 41) d_CM_remove_38 rfl f_CM_10 gg_0 rfl ?_
    refine zr_iload_n (i := 1) (x := a1) (n := 42) d_CM_remove_41 rfl rfl rfl ?_
    refine zr_weak (zm_LE.skip (zm_LE.skip zm_LE.nil)) ?_
    refine zr_callV (M' := M_Tree_take) (mc' := 0) (ms' := 0) (av := [.int a1]) (rest := []) (n := 45) d_CM_remove_42 rfl w_CM_63 w_CM_63k gg_1 rfl rfl rfl rfl rfl rfl (Nat.le_refl _) (Nat.le_refl _) ?_
    refine c_Tree_take (a1 := a1) j1 (o1 h1) ?_
    refine zr_iconst (v := 0) (n := 46) d_CM_remove_45 rfl (by decide) ?_
    exact zr_ireturn d_CM_remove_46 rfl rfl (Nat.le_refl _) (Nat.le_refl _) (l1 h1)
  · refine zr_bipush (v := (-5)) (n := 36) d_CM_remove_34 rfl (by decide) ?_
    exact zr_ireturn d_CM_remove_36 rfl rfl (Nat.le_refl _) (Nat.le_refl _) (l2 h1)
theorem e_CM_remove {d : Nat} {Q : zm_Q} {S : zm_S} {a1 : Int32} (h : zw M_CM_remove (d + 1) Q 0 [some (.ref 0), some (.int a1)] [] S) : zc M_CM_remove (d + 1) [.ref 0, .int a1] S Q := zm_CC_intro (by decide) rfl rfl h
theorem s_CM_append_0 {d : Nat} {Q : zm_Q} {S : zm_S} {a1 a2 : Int32} (j1 : Nat) (j2 : Nat) (o1 : ¬ a1 < 1 → ¬ 12 ≤ a1 → ¬ a2 < 0 → ¬ 255 < a2 → zm_ix a1 j1 12) (o2 : ¬ a1 < 1 → ¬ 12 ≤ a1 → ¬ a2 < 0 → ¬ 255 < a2 → (S 2 j1) = 3 → (S 5 j1) < 12 → zm_ix ((a1 * 12) + (S 5 j1)) j2 144)
    (l1 : ((((a1 < 1) ∨ (¬ a1 < 1 ∧ 12 ≤ a1))) ∨ (¬ a1 < 1 ∧ ¬ 12 ≤ a1 ∧ ((a2 < 0) ∨ (¬ a2 < 0 ∧ 255 < a2)))) → Q (some (-1)) GG S)
    (l2 : ¬ a1 < 1 → ¬ 12 ≤ a1 → ¬ a2 < 0 → ¬ 255 < a2 → ¬ (S 2 j1) = 3 → Q (some (-2)) GG S)
    (l3 : ¬ a1 < 1 → ¬ 12 ≤ a1 → ¬ a2 < 0 → ¬ 255 < a2 → (S 2 j1) = 3 → (S 5 j1) < 12 → Q (some ((S 5 j1) + 1)) GG (zm_up (zm_up S 6 j2 a2) 5 j1 ((S 5 j1) + 1)))
    (l4 : ¬ a1 < 1 → ¬ 12 ≤ a1 → ¬ a2 < 0 → ¬ 255 < a2 → (S 2 j1) = 3 → ¬ (S 5 j1) < 12 → Q (some (-4)) GG S) :
    zw M_CM_append (d + 1) Q 0 [some (.ref 0), some (.int a1), some (.int a2)] [] S := by
  refine zr_iload_n (i := 1) (x := a1) (n := 1) d_CM_append_0 rfl rfl rfl ?_
  refine zr_callS (M' := M_CM_isEntryKey) (mc' := 0) (ms' := 0) (av := [.int a1]) (rest := []) (n := 4) d_CM_append_1 rfl w_CM_53 w_CM_53k rfl rfl rfl rfl rfl (Nat.le_refl _) (Nat.le_refl _) ?_
  refine c_CM_isEntryKey (a0 := a1) (fun h1 => ?_) (fun h2 h3 => ?_)
  · refine zr_if_eq (tgt := 14) (n := 7) d_CM_append_4 rfl (by decide) (fun _ => ?_) (fun h => absurd h (by decide))
    refine zr_iconst (v := (-1)) (n := 15) d_CM_append_14 rfl (by decide) ?_
    exact zr_ireturn d_CM_append_15 rfl rfl (Nat.le_refl _) (Nat.le_refl _) (l1 (Or.inl h1))
  · refine zr_if_eq (tgt := 14) (n := 7) d_CM_append_4 rfl (by decide) (fun h => absurd h (by decide)) (fun _ => ?_)
    refine zr_iload_n (i := 2) (x := a2) (n := 8) d_CM_append_7 rfl rfl rfl ?_
    refine zr_callS (M' := M_CM_isByte) (mc' := 0) (ms' := 0) (av := [.int a2]) (rest := []) (n := 11) d_CM_append_8 rfl w_CM_67 w_CM_67k rfl rfl rfl rfl rfl (Nat.le_refl _) (Nat.le_refl _) ?_
    refine c_CM_isByte (a0 := a2) (fun h4 => ?_) (fun h5 h6 => ?_)
    · refine zr_if_ne (tgt := 16) (n := 14) d_CM_append_11 rfl (by decide) (fun h => absurd h (by decide)) (fun _ => ?_)
      refine zr_iconst (v := (-1)) (n := 15) d_CM_append_14 rfl (by decide) ?_
      exact zr_ireturn d_CM_append_15 rfl rfl (Nat.le_refl _) (Nat.le_refl _) (l1 (Or.inr ⟨h2, h3, h4⟩))
    · refine zr_if_ne (tgt := 16) (n := 14) d_CM_append_11 rfl (by decide) (fun _ => ?_) (fun h => absurd h (by decide))
      refine zr_aload_n (i := 0) (x := 0) (n := 17) d_CM_append_16 rfl rfl rfl ?_
      refine zr_getr (n := 20) d_CM_append_17 rfl f_CM_10 gg_0 rfl ?_
      refine zr_iload_n (i := 1) (x := a1) (n := 21) d_CM_append_20 rfl rfl rfl ?_
      refine zr_callV (M' := M_Tree_isFile) (mc' := 0) (ms' := 0) (av := [.int a1]) (rest := []) (n := 24) d_CM_append_21 rfl w_CM_70 w_CM_70k gg_1 rfl rfl rfl rfl rfl rfl (Nat.le_refl _) (Nat.le_refl _) ?_
      refine c_Tree_isFile (a1 := a1) j1 (o1 h2 h3 h5 h6) (fun h7 => ?_) (fun h8 => ?_)
      · refine zr_if_ne (tgt := 30) (n := 27) d_CM_append_24 rfl (by decide) (fun h => absurd h (by decide)) (fun _ => ?_)
        refine zr_bipush (v := (-2)) (n := 29) d_CM_append_27 rfl (by decide) ?_
        exact zr_ireturn d_CM_append_29 rfl rfl (Nat.le_refl _) (Nat.le_refl _) (l2 h2 h3 h5 h6 h7)
      · refine zr_if_ne (tgt := 30) (n := 27) d_CM_append_24 rfl (by decide) (fun _ => ?_) (fun h => absurd h (by decide))
        refine zr_aload_n (i := 0) (x := 0) (n := 31) d_CM_append_30 rfl rfl rfl ?_
        refine zr_getr (n := 34) d_CM_append_31 rfl f_CM_10 gg_0 rfl ?_
        refine zr_iload_n (i := 1) (x := a1) (n := 35) d_CM_append_34 rfl rfl rfl ?_
        refine zr_callV (M' := M_Tree_fileLength) (mc' := 0) (ms' := 0) (av := [.int a1]) (rest := []) (n := 38) d_CM_append_35 rfl w_CM_73 w_CM_73k gg_1 rfl rfl rfl rfl rfl rfl (Nat.le_refl _) (Nat.le_refl _) ?_
        refine c_Tree_fileLength (a1 := a1) j1 (o1 h2 h3 h5 h6) ?_
        refine zr_bipush (v := 12) (n := 40) d_CM_append_38 rfl (by decide) ?_
        refine zr_icmp_lt (tgt := 46) (n := 43) d_CM_append_40 rfl (by decide) (fun h9 => ?_) (fun h9 => ?_)
        · refine zr_aload_n (i := 0) (x := 0) (n := 47) d_CM_append_46 rfl rfl rfl ?_
          refine zr_getr (n := 50) d_CM_append_47 rfl f_CM_10 gg_0 rfl ?_
          refine zr_iload_n (i := 1) (x := a1) (n := 51) d_CM_append_50 rfl rfl rfl ?_
          refine zr_iload_n (i := 2) (x := a2) (n := 52) d_CM_append_51 rfl rfl rfl ?_
          refine zr_weak (zm_LE.skip (zm_LE.skip (zm_LE.skip zm_LE.nil))) ?_
          refine zr_callV (M' := M_Tree_addByte) (mc' := 0) (ms' := 0) (av := [.int a1, .int a2]) (rest := []) (n := 55) d_CM_append_52 rfl w_CM_76 w_CM_76k gg_1 rfl rfl rfl rfl rfl rfl (Nat.le_refl _) (Nat.le_refl _) ?_
          refine c_Tree_addByte (a1 := a1) (a2 := a2) j1 j2 (o1 h2 h3 h5 h6) (o2 h2 h3 h5 h6 h8 h9) ?_
          exact zr_ireturn d_CM_append_55 rfl rfl (Nat.le_refl _) (Nat.le_refl _) (l3 h2 h3 h5 h6 h8 h9)
        · refine zr_bipush (v := (-4)) (n := 45) d_CM_append_43 rfl (by decide) ?_
          exact zr_ireturn d_CM_append_45 rfl rfl (Nat.le_refl _) (Nat.le_refl _) (l4 h2 h3 h5 h6 h8 h9)
theorem e_CM_append {d : Nat} {Q : zm_Q} {S : zm_S} {a1 a2 : Int32} (h : zw M_CM_append (d + 1) Q 0 [some (.ref 0), some (.int a1), some (.int a2)] [] S) : zc M_CM_append (d + 1) [.ref 0, .int a1, .int a2] S Q := zm_CC_intro (by decide) rfl rfl h
theorem s_CM_publish_0 {d : Nat} {Q : zm_Q} {S : zm_S}
    (l1 : zc M_Ed_renew (d + 5) [.ref 7, .ref 1] S (fun v G' S' => zm_WP M_CM_publish none (d + 6) 0 0 Q 11 [some (.ref 0)] (zm_ps v []) G' S' 0 0)) :
    zw M_CM_publish (d + 6) Q 0 [some (.ref 0)] [] S := by
  refine zr_aload_n (i := 0) (x := 0) (n := 1) d_CM_publish_0 rfl rfl rfl ?_
  refine zr_getr (n := 4) d_CM_publish_1 rfl f_CM_19 gg_0 rfl ?_
  refine zr_aload_n (i := 0) (x := 0) (n := 5) d_CM_publish_4 rfl rfl rfl ?_
  refine zr_getr (n := 8) d_CM_publish_5 rfl f_CM_10 gg_0 rfl ?_
  refine zr_callV (M' := M_Ed_renew) (mc' := 0) (ms' := 0) (av := [.ref 1]) (rest := []) (n := 11) d_CM_publish_8 rfl w_CM_83 w_CM_83k gg_7 rfl rfl rfl rfl rfl rfl (Nat.le_refl _) (Nat.le_refl _) ?_
  exact l1
theorem s_CM_publish_11 {d : Nat} {Q : zm_Q} {S : zm_S}
    (l1 : zc M_Sn_beginCycleOf (d + 5) [.ref 14, .ref 7] S (fun v G' S' => zm_WP M_CM_publish none (d + 6) 0 0 Q 22 [some (.ref 0)] (zm_ps v []) G' S' 0 0)) :
    zw M_CM_publish (d + 6) Q 11 [some (.ref 0)] [] S := by
  refine zr_aload_n (i := 0) (x := 0) (n := 12) d_CM_publish_11 rfl rfl rfl ?_
  refine zr_getr (n := 15) d_CM_publish_12 rfl f_CM_26 gg_0 rfl ?_
  refine zr_aload_n (i := 0) (x := 0) (n := 16) d_CM_publish_15 rfl rfl rfl ?_
  refine zr_getr (n := 19) d_CM_publish_16 rfl f_CM_19 gg_0 rfl ?_
  refine zr_callV (M' := M_Sn_beginCycleOf) (mc' := 0) (ms' := 0) (av := [.ref 7]) (rest := []) (n := 22) d_CM_publish_19 rfl w_CM_87 w_CM_87k gg_14 rfl rfl rfl rfl rfl rfl (Nat.le_refl _) (Nat.le_refl _) ?_
  exact l1
theorem s_CM_publish_22 {d : Nat} {Q : zm_Q} {S : zm_S}
    (l1 : Q (some (S 7 0)) GG S) :
    zw M_CM_publish (d + 6) Q 22 [some (.ref 0)] [] S := by
  refine zr_aload_n (i := 0) (x := 0) (n := 23) d_CM_publish_22 rfl rfl rfl ?_
  refine zr_getr (n := 26) d_CM_publish_23 rfl f_CM_19 gg_0 rfl ?_
  refine zr_geti (n := 29) d_CM_publish_26 rfl f_CM_91 gg_7 rfl ?_
  exact zr_ireturn d_CM_publish_29 rfl rfl (Nat.le_refl _) (Nat.le_refl _) l1
theorem e_CM_publish {d : Nat} {Q : zm_Q} {S : zm_S} (h : zw M_CM_publish (d + 6) Q 0 [some (.ref 0)] [] S) : zc M_CM_publish (d + 6) [.ref 0] S Q := zm_CC_intro (by decide) rfl rfl h
theorem s_CM_send_0 {d : Nat} {Q : zm_Q} {S : zm_S} {a1 : Int32}
    (l1 : ((a1 < 0) ∨ (¬ a1 < 0 ∧ ¬ a1 ≤ 64)) → Q (some (-1)) GG S)
    (l2 : ¬ a1 < 0 → a1 ≤ 64 → (S 16 1) ≤ 0 → Q (some (-2)) GG S)
    (l3 : ¬ a1 < 0 → a1 ≤ 64 → ¬ (S 16 1) ≤ 0 → zw M_CM_send (d + 6) Q 27 [some (.ref 0), some (.int a1), some (.int 0)] [] S) :
    zw M_CM_send (d + 6) Q 0 [some (.ref 0), some (.int a1), none] [] S := by
  refine zr_iload_n (i := 1) (x := a1) (n := 1) d_CM_send_0 rfl rfl rfl ?_
  refine zr_if_lt (tgt := 10) (n := 4) d_CM_send_1 rfl (by decide) (fun h1 => ?_) (fun h1 => ?_)
  · refine zr_iconst (v := (-1)) (n := 11) d_CM_send_10 rfl (by decide) ?_
    exact zr_ireturn d_CM_send_11 rfl rfl (Nat.le_refl _) (Nat.le_refl _) (l1 (Or.inl h1))
  · refine zr_iload_n (i := 1) (x := a1) (n := 5) d_CM_send_4 rfl rfl rfl ?_
    refine zr_bipush (v := 64) (n := 7) d_CM_send_5 rfl (by decide) ?_
    refine zr_icmp_le (tgt := 12) (n := 10) d_CM_send_7 rfl (by decide) (fun h2 => ?_) (fun h2 => ?_)
    · refine zr_aload_n (i := 0) (x := 0) (n := 13) d_CM_send_12 rfl rfl rfl ?_
      refine zr_getr (n := 16) d_CM_send_13 rfl f_CM_26 gg_0 rfl ?_
      refine zr_callV (M' := M_Sn_isOnAir) (mc' := 0) (ms' := 0) (av := []) (rest := []) (n := 19) d_CM_send_16 rfl w_CM_106 w_CM_106k gg_14 rfl rfl rfl rfl rfl rfl (Nat.le_refl _) (Nat.le_refl _) ?_
      refine c_Sn_isOnAir (fun h3 => ?_) (fun h4 => ?_)
      · refine zr_if_ne (tgt := 25) (n := 22) d_CM_send_19 rfl (by decide) (fun h => absurd h (by decide)) (fun _ => ?_)
        refine zr_bipush (v := (-2)) (n := 24) d_CM_send_22 rfl (by decide) ?_
        exact zr_ireturn d_CM_send_24 rfl rfl (Nat.le_refl _) (Nat.le_refl _) (l2 h1 h2 h3)
      · refine zr_if_ne (tgt := 25) (n := 22) d_CM_send_19 rfl (by decide) (fun _ => ?_) (fun h => absurd h (by decide))
        refine zr_iconst (v := 0) (n := 26) d_CM_send_25 rfl (by decide) ?_
        refine zr_istore_n (i := 2) (L' := [some (.ref 0), some (.int a1), some (.int 0)]) (n := 27) d_CM_send_26 rfl rfl rfl rfl ?_
        exact (l3 h1 h2 h4)
    · refine zr_iconst (v := (-1)) (n := 11) d_CM_send_10 rfl (by decide) ?_
      exact zr_ireturn d_CM_send_11 rfl rfl (Nat.le_refl _) (Nat.le_refl _) (l1 (Or.inr ⟨h1, h2⟩))
theorem s_CM_send_27 {d : Nat} {Q : zm_Q} {S : zm_S} {a1 a2 : Int32}
    (l1 : a1 ≤ a2 → Q (some a1) GG S)
    (l2 : ¬ a1 ≤ a2 → zc M_Rc_takePacket (d + 5) [.ref 19, .ref 15] S (fun v G' S' => zm_WP M_CM_send none (d + 6) 0 0 Q 46 [some (.ref 0), some (.int a1), some (.int a2)] (zm_ps v []) G' S' 0 0)) :
    zw M_CM_send (d + 6) Q 27 [some (.ref 0), some (.int a1), some (.int a2)] [] S := by
  refine zr_iload_n (i := 2) (x := a2) (n := 28) d_CM_send_27 rfl rfl rfl ?_
  refine zr_iload_n (i := 1) (x := a1) (n := 29) d_CM_send_28 rfl rfl rfl ?_
  refine zr_icmp_ge (tgt := 59) (n := 32) d_CM_send_29 rfl (by decide) (fun h1 => ?_) (fun h1 => ?_)
  · refine zr_iload_n (i := 1) (x := a1) (n := 60) d_CM_send_59 rfl rfl rfl ?_
    exact zr_ireturn d_CM_send_60 rfl rfl (Nat.le_refl _) (Nat.le_refl _) (l1 h1)
  · refine zr_aload_n (i := 0) (x := 0) (n := 33) d_CM_send_32 rfl rfl rfl ?_
    refine zr_getr (n := 36) d_CM_send_33 rfl f_CM_33 gg_0 rfl ?_
    refine zr_aload_n (i := 0) (x := 0) (n := 37) d_CM_send_36 rfl rfl rfl ?_
    refine zr_getr (n := 40) d_CM_send_37 rfl f_CM_26 gg_0 rfl ?_
    refine zr_getr (n := 43) d_CM_send_40 rfl f_CM_110 gg_14 rfl ?_
    refine zr_callV (M' := M_Rc_takePacket) (mc' := 0) (ms' := 0) (av := [.ref 15]) (rest := []) (n := 46) d_CM_send_43 rfl w_CM_113 w_CM_113k gg_19 rfl rfl rfl rfl rfl rfl (Nat.le_refl _) (Nat.le_refl _) ?_
    exact (l2 h1)
theorem s_CM_send_46 {d : Nat} {Q : zm_Q} {S : zm_S} {a1 a2 : Int32}
    (l1 : zc M_Sn_advance (d + 5) [.ref 14] S (fun v G' S' => zm_WP M_CM_send none (d + 6) 0 0 Q 53 [some (.ref 0), some (.int a1), some (.int a2)] (zm_ps v []) G' S' 0 0)) :
    zw M_CM_send (d + 6) Q 46 [some (.ref 0), some (.int a1), some (.int a2)] [] S := by
  refine zr_aload_n (i := 0) (x := 0) (n := 47) d_CM_send_46 rfl rfl rfl ?_
  refine zr_getr (n := 50) d_CM_send_47 rfl f_CM_26 gg_0 rfl ?_
  refine zr_callV (M' := M_Sn_advance) (mc' := 0) (ms' := 0) (av := []) (rest := []) (n := 53) d_CM_send_50 rfl w_CM_117 w_CM_117k gg_14 rfl rfl rfl rfl rfl rfl (Nat.le_refl _) (Nat.le_refl _) ?_
  exact l1
theorem s_CM_send_53 {d : Nat} {Q : zm_Q} {S : zm_S} {a1 a2 : Int32}
    (l1 : zw M_CM_send (d + 6) Q 27 [some (.ref 0), some (.int a1), some (.int (a2 + 1))] [] S) :
    zw M_CM_send (d + 6) Q 53 [some (.ref 0), some (.int a1), some (.int a2)] [] S := by
  refine zr_iinc (i := 2) (w := 1) (x := a2) (L' := [some (.ref 0), some (.int a1), some (.int (a2 + 1))]) (n := 56) d_CM_send_53 rfl (by decide) rfl rfl ?_
  refine zr_goto (tgt := 27) d_CM_send_56 (by decide) ?_
  exact l1
theorem e_CM_send {d : Nat} {Q : zm_Q} {S : zm_S} {a1 : Int32} (h : zw M_CM_send (d + 6) Q 0 [some (.ref 0), some (.int a1), none] [] S) : zc M_CM_send (d + 6) [.ref 0, .int a1] S Q := zm_CC_intro (by decide) rfl rfl h
theorem s_CM_lose_0 {d : Nat} {Q : zm_Q} {S : zm_S} {a1 : Int32}
    (l1 : ((a1 < 0) ∨ (¬ a1 < 0 ∧ ¬ a1 ≤ 64)) → Q (some (-1)) GG S)
    (l2 : ¬ a1 < 0 → a1 ≤ 64 → (S 16 1) ≤ 0 → Q (some (-2)) GG S)
    (l3 : ¬ a1 < 0 → a1 ≤ 64 → ¬ (S 16 1) ≤ 0 → zw M_CM_lose (d + 3) Q 27 [some (.ref 0), some (.int a1), some (.int 0)] [] S) :
    zw M_CM_lose (d + 3) Q 0 [some (.ref 0), some (.int a1), none] [] S := by
  refine zr_iload_n (i := 1) (x := a1) (n := 1) d_CM_lose_0 rfl rfl rfl ?_
  refine zr_if_lt (tgt := 10) (n := 4) d_CM_lose_1 rfl (by decide) (fun h1 => ?_) (fun h1 => ?_)
  · refine zr_iconst (v := (-1)) (n := 11) d_CM_lose_10 rfl (by decide) ?_
    exact zr_ireturn d_CM_lose_11 rfl rfl (Nat.le_refl _) (Nat.le_refl _) (l1 (Or.inl h1))
  · refine zr_iload_n (i := 1) (x := a1) (n := 5) d_CM_lose_4 rfl rfl rfl ?_
    refine zr_bipush (v := 64) (n := 7) d_CM_lose_5 rfl (by decide) ?_
    refine zr_icmp_le (tgt := 12) (n := 10) d_CM_lose_7 rfl (by decide) (fun h2 => ?_) (fun h2 => ?_)
    · refine zr_aload_n (i := 0) (x := 0) (n := 13) d_CM_lose_12 rfl rfl rfl ?_
      refine zr_getr (n := 16) d_CM_lose_13 rfl f_CM_26 gg_0 rfl ?_
      refine zr_callV (M' := M_Sn_isOnAir) (mc' := 0) (ms' := 0) (av := []) (rest := []) (n := 19) d_CM_lose_16 rfl w_CM_106 w_CM_106k gg_14 rfl rfl rfl rfl rfl rfl (Nat.le_refl _) (Nat.le_refl _) ?_
      refine c_Sn_isOnAir (fun h3 => ?_) (fun h4 => ?_)
      · refine zr_if_ne (tgt := 25) (n := 22) d_CM_lose_19 rfl (by decide) (fun h => absurd h (by decide)) (fun _ => ?_)
        refine zr_bipush (v := (-2)) (n := 24) d_CM_lose_22 rfl (by decide) ?_
        exact zr_ireturn d_CM_lose_24 rfl rfl (Nat.le_refl _) (Nat.le_refl _) (l2 h1 h2 h3)
      · refine zr_if_ne (tgt := 25) (n := 22) d_CM_lose_19 rfl (by decide) (fun _ => ?_) (fun h => absurd h (by decide))
        refine zr_iconst (v := 0) (n := 26) d_CM_lose_25 rfl (by decide) ?_
        refine zr_istore_n (i := 2) (L' := [some (.ref 0), some (.int a1), some (.int 0)]) (n := 27) d_CM_lose_26 rfl rfl rfl rfl ?_
        exact (l3 h1 h2 h4)
    · refine zr_iconst (v := (-1)) (n := 11) d_CM_lose_10 rfl (by decide) ?_
      exact zr_ireturn d_CM_lose_11 rfl rfl (Nat.le_refl _) (Nat.le_refl _) (l1 (Or.inr ⟨h1, h2⟩))
theorem s_CM_lose_27 {d : Nat} {Q : zm_Q} {S : zm_S} {a1 a2 : Int32}
    (l1 : a1 ≤ a2 → Q (some a1) GG S)
    (l2 : ¬ a1 ≤ a2 → zc M_Sn_advance (d + 2) [.ref 14] S (fun v G' S' => zm_WP M_CM_lose none (d + 3) 0 0 Q 39 [some (.ref 0), some (.int a1), some (.int a2)] (zm_ps v []) G' S' 0 0)) :
    zw M_CM_lose (d + 3) Q 27 [some (.ref 0), some (.int a1), some (.int a2)] [] S := by
  refine zr_iload_n (i := 2) (x := a2) (n := 28) d_CM_lose_27 rfl rfl rfl ?_
  refine zr_iload_n (i := 1) (x := a1) (n := 29) d_CM_lose_28 rfl rfl rfl ?_
  refine zr_icmp_ge (tgt := 45) (n := 32) d_CM_lose_29 rfl (by decide) (fun h1 => ?_) (fun h1 => ?_)
  · refine zr_iload_n (i := 1) (x := a1) (n := 46) d_CM_lose_45 rfl rfl rfl ?_
    exact zr_ireturn d_CM_lose_46 rfl rfl (Nat.le_refl _) (Nat.le_refl _) (l1 h1)
  · refine zr_aload_n (i := 0) (x := 0) (n := 33) d_CM_lose_32 rfl rfl rfl ?_
    refine zr_getr (n := 36) d_CM_lose_33 rfl f_CM_26 gg_0 rfl ?_
    refine zr_callV (M' := M_Sn_advance) (mc' := 0) (ms' := 0) (av := []) (rest := []) (n := 39) d_CM_lose_36 rfl w_CM_117 w_CM_117k gg_14 rfl rfl rfl rfl rfl rfl (Nat.le_refl _) (Nat.le_refl _) ?_
    exact (l2 h1)
theorem s_CM_lose_39 {d : Nat} {Q : zm_Q} {S : zm_S} {a1 a2 : Int32}
    (l1 : zw M_CM_lose (d + 3) Q 27 [some (.ref 0), some (.int a1), some (.int (a2 + 1))] [] S) :
    zw M_CM_lose (d + 3) Q 39 [some (.ref 0), some (.int a1), some (.int a2)] [] S := by
  refine zr_iinc (i := 2) (w := 1) (x := a2) (L' := [some (.ref 0), some (.int a1), some (.int (a2 + 1))]) (n := 42) d_CM_lose_39 rfl (by decide) rfl rfl ?_
  refine zr_goto (tgt := 27) d_CM_lose_42 (by decide) ?_
  exact l1
theorem e_CM_lose {d : Nat} {Q : zm_Q} {S : zm_S} {a1 : Int32} (h : zw M_CM_lose (d + 3) Q 0 [some (.ref 0), some (.int a1), none] [] S) : zc M_CM_lose (d + 3) [.ref 0, .int a1] S Q := zm_CC_intro (by decide) rfl rfl h
theorem s_CM_spoil_0 {d : Nat} {Q : zm_Q} {S : zm_S} {a1 a2 : Int32} (j1 : Nat) (o1 : ¬ a1 < 0 → ¬ 16 ≤ a1 → ¬ a2 < 0 → ¬ 255 < a2 → ¬ (S 16 1) ≤ 0 → zm_ix a1 j1 16)
    (l1 : ((a1 < 0) ∨ (¬ a1 < 0 ∧ 16 ≤ a1) ∨ (¬ a1 < 0 ∧ ¬ 16 ≤ a1 ∧ ((a2 < 0) ∨ (¬ a2 < 0 ∧ 255 < a2)))) → Q (some (-1)) GG S)
    (l2 : ¬ a1 < 0 → ¬ 16 ≤ a1 → ¬ a2 < 0 → ¬ 255 < a2 → (S 16 1) ≤ 0 → Q (some (-2)) GG S)
    (l3 : ¬ a1 < 0 → ¬ 16 ≤ a1 → ¬ a2 < 0 → ¬ 255 < a2 → ¬ (S 16 1) ≤ 0 → zc M_Rc_takePacket (d + 5) [.ref 19, .ref 15] (zm_up S 15 j1 ((S 15 j1) ^^^ a2)) (fun v G' S' => zm_WP M_CM_spoil none (d + 6) 0 0 Q 59 [some (.ref 0), none, none] (zm_ps v []) G' S' 0 0)) :
    zw M_CM_spoil (d + 6) Q 0 [some (.ref 0), some (.int a1), some (.int a2)] [] S := by
  refine zr_iload_n (i := 1) (x := a1) (n := 1) d_CM_spoil_0 rfl rfl rfl ?_
  refine zr_if_lt (tgt := 17) (n := 4) d_CM_spoil_1 rfl (by decide) (fun h1 => ?_) (fun h1 => ?_)
  · refine zr_iconst (v := (-1)) (n := 18) d_CM_spoil_17 rfl (by decide) ?_
    exact zr_ireturn d_CM_spoil_18 rfl rfl (Nat.le_refl _) (Nat.le_refl _) (l1 (Or.inl h1))
  · refine zr_iload_n (i := 1) (x := a1) (n := 5) d_CM_spoil_4 rfl rfl rfl ?_
    refine zr_bipush (v := 16) (n := 7) d_CM_spoil_5 rfl (by decide) ?_
    refine zr_icmp_ge (tgt := 17) (n := 10) d_CM_spoil_7 rfl (by decide) (fun h2 => ?_) (fun h2 => ?_)
    · refine zr_iconst (v := (-1)) (n := 18) d_CM_spoil_17 rfl (by decide) ?_
      exact zr_ireturn d_CM_spoil_18 rfl rfl (Nat.le_refl _) (Nat.le_refl _) (l1 (Or.inr (Or.inl ⟨h1, h2⟩)))
    · refine zr_iload_n (i := 2) (x := a2) (n := 11) d_CM_spoil_10 rfl rfl rfl ?_
      refine zr_callS (M' := M_CM_isByte) (mc' := 0) (ms' := 0) (av := [.int a2]) (rest := []) (n := 14) d_CM_spoil_11 rfl w_CM_67 w_CM_67k rfl rfl rfl rfl rfl (Nat.le_refl _) (Nat.le_refl _) ?_
      refine c_CM_isByte (a0 := a2) (fun h3 => ?_) (fun h4 h5 => ?_)
      · refine zr_if_ne (tgt := 19) (n := 17) d_CM_spoil_14 rfl (by decide) (fun h => absurd h (by decide)) (fun _ => ?_)
        refine zr_iconst (v := (-1)) (n := 18) d_CM_spoil_17 rfl (by decide) ?_
        exact zr_ireturn d_CM_spoil_18 rfl rfl (Nat.le_refl _) (Nat.le_refl _) (l1 (Or.inr (Or.inr ⟨h1, h2, h3⟩)))
      · refine zr_if_ne (tgt := 19) (n := 17) d_CM_spoil_14 rfl (by decide) (fun _ => ?_) (fun h => absurd h (by decide))
        refine zr_aload_n (i := 0) (x := 0) (n := 20) d_CM_spoil_19 rfl rfl rfl ?_
        refine zr_getr (n := 23) d_CM_spoil_20 rfl f_CM_26 gg_0 rfl ?_
        refine zr_callV (M' := M_Sn_isOnAir) (mc' := 0) (ms' := 0) (av := []) (rest := []) (n := 26) d_CM_spoil_23 rfl w_CM_106 w_CM_106k gg_14 rfl rfl rfl rfl rfl rfl (Nat.le_refl _) (Nat.le_refl _) ?_
        refine c_Sn_isOnAir (fun h6 => ?_) (fun h7 => ?_)
        · refine zr_if_ne (tgt := 32) (n := 29) d_CM_spoil_26 rfl (by decide) (fun h => absurd h (by decide)) (fun _ => ?_)
          refine zr_bipush (v := (-2)) (n := 31) d_CM_spoil_29 rfl (by decide) ?_
          exact zr_ireturn d_CM_spoil_31 rfl rfl (Nat.le_refl _) (Nat.le_refl _) (l2 h1 h2 h4 h5 h6)
        · refine zr_if_ne (tgt := 32) (n := 29) d_CM_spoil_26 rfl (by decide) (fun _ => ?_) (fun h => absurd h (by decide))
          refine zr_aload_n (i := 0) (x := 0) (n := 33) d_CM_spoil_32 rfl rfl rfl ?_
          refine zr_getr (n := 36) d_CM_spoil_33 rfl f_CM_26 gg_0 rfl ?_
          refine zr_getr (n := 39) d_CM_spoil_36 rfl f_CM_110 gg_14 rfl ?_
          refine zr_iload_n (i := 1) (x := a1) (n := 40) d_CM_spoil_39 rfl rfl rfl ?_
          refine zr_dup2 (n := 41) d_CM_spoil_40 rfl rfl rfl ?_
          refine zr_iaload j1 (n := 42) d_CM_spoil_41 rfl gg_15 (o1 h1 h2 h4 h5 h7) ?_
          refine zr_iload_n (i := 2) (x := a2) (n := 43) d_CM_spoil_42 rfl rfl rfl ?_
          refine zr_ixor (n := 44) d_CM_spoil_43 rfl ?_
          refine zr_iastore j1 (n := 45) d_CM_spoil_44 rfl gg_15 (o1 h1 h2 h4 h5 h7) ?_
          refine zr_aload_n (i := 0) (x := 0) (n := 46) d_CM_spoil_45 rfl rfl rfl ?_
          refine zr_getr (n := 49) d_CM_spoil_46 rfl f_CM_33 gg_0 rfl ?_
          refine zr_aload_n (i := 0) (x := 0) (n := 50) d_CM_spoil_49 rfl rfl rfl ?_
          refine zr_getr (n := 53) d_CM_spoil_50 rfl f_CM_26 gg_0 rfl ?_
          refine zr_getr (n := 56) d_CM_spoil_53 rfl f_CM_110 gg_14 rfl ?_
          refine zr_weak (zm_LE.cons (zm_LE.skip (zm_LE.skip zm_LE.nil))) ?_
          refine zr_callV (M' := M_Rc_takePacket) (mc' := 0) (ms' := 0) (av := [.ref 15]) (rest := []) (n := 59) d_CM_spoil_56 rfl w_CM_113 w_CM_113k gg_19 rfl rfl rfl rfl rfl rfl (Nat.le_refl _) (Nat.le_refl _) ?_
          exact (l3 h1 h2 h4 h5 h7)
theorem s_CM_spoil_59 {d : Nat} {Q : zm_Q} {S : zm_S}
    (l1 : zc M_Sn_advance (d + 5) [.ref 14] S (fun v G' S' => zm_WP M_CM_spoil none (d + 6) 0 0 Q 66 [none, none, none] (zm_ps v []) G' S' 0 0)) :
    zw M_CM_spoil (d + 6) Q 59 [some (.ref 0), none, none] [] S := by
  refine zr_aload_n (i := 0) (x := 0) (n := 60) d_CM_spoil_59 rfl rfl rfl ?_
  refine zr_getr (n := 63) d_CM_spoil_60 rfl f_CM_26 gg_0 rfl ?_
  refine zr_weak (zm_LE.skip (zm_LE.cons (zm_LE.cons zm_LE.nil))) ?_
  refine zr_callV (M' := M_Sn_advance) (mc' := 0) (ms' := 0) (av := []) (rest := []) (n := 66) d_CM_spoil_63 rfl w_CM_117 w_CM_117k gg_14 rfl rfl rfl rfl rfl rfl (Nat.le_refl _) (Nat.le_refl _) ?_
  exact l1
theorem s_CM_spoil_66 {d : Nat} {Q : zm_Q} {S : zm_S}
    (l1 : Q (some 1) GG S) :
    zw M_CM_spoil (d + 6) Q 66 [none, none, none] [] S := by
  refine zr_iconst (v := 1) (n := 67) d_CM_spoil_66 rfl (by decide) ?_
  exact zr_ireturn d_CM_spoil_67 rfl rfl (Nat.le_refl _) (Nat.le_refl _) l1
theorem e_CM_spoil {d : Nat} {Q : zm_Q} {S : zm_S} {a1 a2 : Int32} (h : zw M_CM_spoil (d + 6) Q 0 [some (.ref 0), some (.int a1), some (.int a2)] [] S) : zc M_CM_spoil (d + 6) [.ref 0, .int a1, .int a2] S Q := zm_CC_intro (by decide) rfl rfl h
theorem s_CM_retune_0 {d : Nat} {Q : zm_Q} {S : zm_S}
    (l1 : zc M_Rc_reset (d + 2) [.ref 19] S (fun v G' S' => zm_WP M_CM_retune none (d + 3) 0 0 Q 7 [none] (zm_ps v []) G' S' 0 0)) :
    zw M_CM_retune (d + 3) Q 0 [some (.ref 0)] [] S := by
  refine zr_aload_n (i := 0) (x := 0) (n := 1) d_CM_retune_0 rfl rfl rfl ?_
  refine zr_getr (n := 4) d_CM_retune_1 rfl f_CM_33 gg_0 rfl ?_
  refine zr_weak (zm_LE.skip zm_LE.nil) ?_
  refine zr_callV (M' := M_Rc_reset) (mc' := 0) (ms' := 0) (av := []) (rest := []) (n := 7) d_CM_retune_4 rfl w_CM_120 w_CM_120k gg_19 rfl rfl rfl rfl rfl rfl (Nat.le_refl _) (Nat.le_refl _) ?_
  exact l1
theorem s_CM_retune_7 {d : Nat} {Q : zm_Q} {S : zm_S}
    (l1 : Q none GG S) :
    zw M_CM_retune (d + 3) Q 7 [none] [] S := by
  exact zr_return d_CM_retune_7 rfl (Nat.le_refl _) (Nat.le_refl _) l1
theorem e_CM_retune {d : Nat} {Q : zm_Q} {S : zm_S} (h : zw M_CM_retune (d + 3) Q 0 [some (.ref 0)] [] S) : zc M_CM_retune (d + 3) [.ref 0] S Q := zm_CC_intro (by decide) rfl rfl h
theorem s_CM_held_0 {d : Nat} {Q : zm_Q} {S : zm_S} {a1 : Int32} (j1 : Nat) (o1 : ¬ a1 < 0 → ¬ 12 ≤ a1 → zm_ix a1 j1 12)
    (l1 : ((a1 < 0) ∨ (¬ a1 < 0 ∧ 12 ≤ a1) ∨ (¬ a1 < 0 ∧ ¬ 12 ≤ a1 ∧ (S 21 j1) ≤ 0)) → Q (some (-2)) GG S)
    (l2 : ¬ a1 < 0 → ¬ 12 ≤ a1 → ¬ (S 21 j1) ≤ 0 → zc M_Mt_blocksHeld (d + 1) [.ref 20, .int a1] S (fun v G' S' => zm_WP M_CM_held none (d + 2) 0 0 Q 21 [none, none, none] (zm_ps v []) G' S' 0 0)) :
    zw M_CM_held (d + 2) Q 0 [some (.ref 0), some (.int a1), none] [] S := by
  refine zr_aload_n (i := 0) (x := 0) (n := 1) d_CM_held_0 rfl rfl rfl ?_
  refine zr_getr (n := 4) d_CM_held_1 rfl f_CM_33 gg_0 rfl ?_
  refine zr_getr (n := 7) d_CM_held_4 rfl f_CM_126 gg_19 rfl ?_
  refine zr_astore_n (i := 2) (L' := [some (.ref 0), some (.int a1), some (.ref 20)]) (n := 8) d_CM_held_7 rfl rfl rfl rfl ?_
  refine zr_aload_n (i := 2) (x := 20) (n := 9) d_CM_held_8 rfl rfl rfl ?_
  refine zr_iload_n (i := 1) (x := a1) (n := 10) d_CM_held_9 rfl rfl rfl ?_
  refine zr_weak (zm_LE.skip (zm_LE.cons (zm_LE.cons zm_LE.nil))) ?_
  refine zr_callV (M' := M_Mt_isListed) (mc' := 0) (ms' := 0) (av := [.int a1]) (rest := []) (n := 13) d_CM_held_10 rfl w_CM_139 w_CM_139k gg_20 rfl rfl rfl rfl rfl rfl (Nat.le_refl _) (Nat.le_refl _) ?_
  refine c_Mt_isListed (a1 := a1) j1 o1 (fun h1 => ?_) (fun h2 h3 h4 => ?_)
  · refine zr_if_eq (tgt := 24) (n := 16) d_CM_held_13 rfl (by decide) (fun _ => ?_) (fun h => absurd h (by decide))
    refine zr_bipush (v := (-2)) (n := 26) d_CM_held_24 rfl (by decide) ?_
    exact zr_ireturn d_CM_held_26 rfl rfl (Nat.le_refl _) (Nat.le_refl _) (l1 h1)
  · refine zr_if_eq (tgt := 24) (n := 16) d_CM_held_13 rfl (by decide) (fun h => absurd h (by decide)) (fun _ => ?_)
    refine zr_aload_n (i := 2) (x := 20) (n := 17) d_CM_held_16 rfl rfl rfl ?_
    refine zr_iload_n (i := 1) (x := a1) (n := 18) d_CM_held_17 rfl rfl rfl ?_
    refine zr_weak (zm_LE.cons (zm_LE.skip (zm_LE.skip zm_LE.nil))) ?_
    refine zr_callV (M' := M_Mt_blocksHeld) (mc' := 0) (ms' := 0) (av := [.int a1]) (rest := []) (n := 21) d_CM_held_18 rfl w_CM_142 w_CM_142k gg_20 rfl rfl rfl rfl rfl rfl (Nat.le_refl _) (Nat.le_refl _) ?_
    exact (l2 h2 h3 h4)
theorem s_CM_held_21 {d : Nat} {Q : zm_Q} {S : zm_S} {r : Int32}
    (l1 : Q (some r) GG S) :
    zw M_CM_held (d + 2) Q 21 [none, none, none] [.int r] S := by
  refine zr_goto (tgt := 26) d_CM_held_21 (by decide) ?_
  exact zr_ireturn d_CM_held_26 rfl rfl (Nat.le_refl _) (Nat.le_refl _) l1
theorem e_CM_held {d : Nat} {Q : zm_Q} {S : zm_S} {a1 : Int32} (h : zw M_CM_held (d + 2) Q 0 [some (.ref 0), some (.int a1), none] [] S) : zc M_CM_held (d + 2) [.ref 0, .int a1] S Q := zm_CC_intro (by decide) rfl rfl h
theorem s_CM_kind_0 {d : Nat} {Q : zm_Q} {S : zm_S} {a1 a2 a3 : Int32}
    (l1 : zc M_CM_follow (d + 5) [.ref 0, .int a1, .int a2, .int a3] S (fun v G' S' => zm_WP M_CM_kind none (d + 6) 0 0 Q 7 [some (.ref 0), none, none, none, none] (zm_ps v []) G' S' 0 0)) :
    zw M_CM_kind (d + 6) Q 0 [some (.ref 0), some (.int a1), some (.int a2), some (.int a3), none] [] S := by
  refine zr_aload_n (i := 0) (x := 0) (n := 1) d_CM_kind_0 rfl rfl rfl ?_
  refine zr_iload_n (i := 1) (x := a1) (n := 2) d_CM_kind_1 rfl rfl rfl ?_
  refine zr_iload_n (i := 2) (x := a2) (n := 3) d_CM_kind_2 rfl rfl rfl ?_
  refine zr_iload_n (i := 3) (x := a3) (n := 4) d_CM_kind_3 rfl rfl rfl ?_
  refine zr_weak (zm_LE.cons (zm_LE.skip (zm_LE.skip (zm_LE.skip (zm_LE.cons zm_LE.nil))))) ?_
  refine zr_callV (M' := M_CM_follow) (mc' := 0) (ms' := 0) (av := [.int a1, .int a2, .int a3]) (rest := []) (n := 7) d_CM_kind_4 rfl w_CM_145 w_CM_145k gg_0 rfl rfl rfl rfl rfl rfl (Nat.le_refl _) (Nat.le_refl _) ?_
  exact l1
theorem s_CM_kind_7 {d : Nat} {Q : zm_Q} {S : zm_S} {r : Int32} (j1 : Nat) (o1 : 0 ≤ r → zm_ix r j1 576)
    (l1 : 0 ≤ r → Q (some (S 24 j1)) GG S)
    (l2 : ¬ 0 ≤ r → Q (some r) GG S) :
    zw M_CM_kind (d + 6) Q 7 [some (.ref 0), none, none, none, none] [.int r] S := by
  refine zr_istore (i := 4) (L' := [some (.ref 0), none, none, none, some (.int r)]) (n := 9) d_CM_kind_7 rfl rfl rfl ?_
  refine zr_iload (i := 4) (x := r) (n := 11) d_CM_kind_9 rfl rfl ?_
  refine zr_if_ge (tgt := 19) (n := 14) d_CM_kind_11 rfl (by decide) (fun h1 => ?_) (fun h1 => ?_)
  · refine zr_aload_n (i := 0) (x := 0) (n := 20) d_CM_kind_19 rfl rfl rfl ?_
    refine zr_getr (n := 23) d_CM_kind_20 rfl f_CM_33 gg_0 rfl ?_
    refine zr_getr (n := 26) d_CM_kind_23 rfl f_CM_126 gg_19 rfl ?_
    refine zr_iload (i := 4) (x := r) (n := 28) d_CM_kind_26 rfl rfl ?_
    refine zr_weak (zm_LE.skip (zm_LE.cons (zm_LE.cons (zm_LE.cons (zm_LE.skip zm_LE.nil))))) ?_
    refine zr_callV (M' := M_Mt_kindAt) (mc' := 0) (ms' := 0) (av := [.int r]) (rest := []) (n := 31) d_CM_kind_28 rfl w_CM_149 w_CM_149k gg_20 rfl rfl rfl rfl rfl rfl (Nat.le_refl _) (Nat.le_refl _) ?_
    refine c_Mt_kindAt (a1 := r) j1 (o1 h1) ?_
    exact zr_ireturn d_CM_kind_31 rfl rfl (Nat.le_refl _) (Nat.le_refl _) (l1 h1)
  · refine zr_iload (i := 4) (x := r) (n := 16) d_CM_kind_14 rfl rfl ?_
    refine zr_goto (tgt := 31) d_CM_kind_16 (by decide) ?_
    exact zr_ireturn d_CM_kind_31 rfl rfl (Nat.le_refl _) (Nat.le_refl _) (l2 h1)
theorem e_CM_kind {d : Nat} {Q : zm_Q} {S : zm_S} {a1 a2 a3 : Int32} (h : zw M_CM_kind (d + 6) Q 0 [some (.ref 0), some (.int a1), some (.int a2), some (.int a3), none] [] S) : zc M_CM_kind (d + 6) [.ref 0, .int a1, .int a2, .int a3] S Q := zm_CC_intro (by decide) rfl rfl h
theorem s_CM_size_0 {d : Nat} {Q : zm_Q} {S : zm_S} {a1 a2 a3 : Int32}
    (l1 : zc M_CM_follow (d + 5) [.ref 0, .int a1, .int a2, .int a3] S (fun v G' S' => zm_WP M_CM_size none (d + 6) 0 0 Q 7 [some (.ref 0), none, none, none, none, none, none] (zm_ps v []) G' S' 0 0)) :
    zw M_CM_size (d + 6) Q 0 [some (.ref 0), some (.int a1), some (.int a2), some (.int a3), none, none, none] [] S := by
  refine zr_aload_n (i := 0) (x := 0) (n := 1) d_CM_size_0 rfl rfl rfl ?_
  refine zr_iload_n (i := 1) (x := a1) (n := 2) d_CM_size_1 rfl rfl rfl ?_
  refine zr_iload_n (i := 2) (x := a2) (n := 3) d_CM_size_2 rfl rfl rfl ?_
  refine zr_iload_n (i := 3) (x := a3) (n := 4) d_CM_size_3 rfl rfl rfl ?_
  refine zr_weak (zm_LE.cons (zm_LE.skip (zm_LE.skip (zm_LE.skip (zm_LE.cons (zm_LE.cons (zm_LE.cons zm_LE.nil))))))) ?_
  refine zr_callV (M' := M_CM_follow) (mc' := 0) (ms' := 0) (av := [.int a1, .int a2, .int a3]) (rest := []) (n := 7) d_CM_size_4 rfl w_CM_145 w_CM_145k gg_0 rfl rfl rfl rfl rfl rfl (Nat.le_refl _) (Nat.le_refl _) ?_
  exact l1
theorem s_CM_size_7 {d : Nat} {Q : zm_Q} {S : zm_S} {r : Int32} (j1 : Nat) (j2 : Nat) (o1 : 0 ≤ r → zm_ix (r + 2) j1 576) (o2 : 0 ≤ r → zm_ix r j2 576)
    (l1 : 0 ≤ r → (((S 24 j2) = 1) ∨ (¬ (S 24 j2) = 1 ∧ (S 24 j2) = 2)) → Q (some ((S 24 j1) / 4)) GG S)
    (l2 : 0 ≤ r → ¬ (S 24 j2) = 1 → ¬ (S 24 j2) = 2 → Q (some (S 24 j1)) GG S)
    (l3 : ¬ 0 ≤ r → Q (some r) GG S) :
    zw M_CM_size (d + 6) Q 7 [some (.ref 0), none, none, none, none, none, none] [.int r] S := by
  refine zr_istore (i := 4) (L' := [some (.ref 0), none, none, none, some (.int r), none, none]) (n := 9) d_CM_size_7 rfl rfl rfl ?_
  refine zr_iload (i := 4) (x := r) (n := 11) d_CM_size_9 rfl rfl ?_
  refine zr_if_ge (tgt := 17) (n := 14) d_CM_size_11 rfl (by decide) (fun h1 => ?_) (fun h1 => ?_)
  · refine zr_aload_n (i := 0) (x := 0) (n := 18) d_CM_size_17 rfl rfl rfl ?_
    refine zr_getr (n := 21) d_CM_size_18 rfl f_CM_33 gg_0 rfl ?_
    refine zr_getr (n := 24) d_CM_size_21 rfl f_CM_126 gg_19 rfl ?_
    refine zr_astore (i := 5) (L' := [some (.ref 0), none, none, none, some (.int r), some (.ref 20), none]) (n := 26) d_CM_size_24 rfl rfl rfl ?_
    refine zr_aload (i := 5) (x := 20) (n := 28) d_CM_size_26 rfl rfl ?_
    refine zr_iload (i := 4) (x := r) (n := 30) d_CM_size_28 rfl rfl ?_
    refine zr_weak (zm_LE.skip (zm_LE.cons (zm_LE.cons (zm_LE.cons (zm_LE.cons (zm_LE.cons (zm_LE.cons zm_LE.nil))))))) ?_
    refine zr_callV (M' := M_Mt_lengthAt) (mc' := 0) (ms' := 0) (av := [.int r]) (rest := []) (n := 33) d_CM_size_30 rfl w_CM_152 w_CM_152k gg_20 rfl rfl rfl rfl rfl rfl (Nat.le_refl _) (Nat.le_refl _) ?_
    refine c_Mt_lengthAt (a1 := r) j1 (o1 h1) ?_
    refine zr_istore (i := 6) (L' := [none, none, none, none, some (.int r), some (.ref 20), some (.int (S 24 j1))]) (n := 35) d_CM_size_33 rfl rfl rfl ?_
    refine zr_aload (i := 5) (x := 20) (n := 37) d_CM_size_35 rfl rfl ?_
    refine zr_iload (i := 4) (x := r) (n := 39) d_CM_size_37 rfl rfl ?_
    refine zr_weak (zm_LE.cons (zm_LE.cons (zm_LE.cons (zm_LE.cons (zm_LE.skip (zm_LE.skip (zm_LE.cons zm_LE.nil))))))) ?_
    refine zr_callV (M' := M_Mt_isDirectoryAt) (mc' := 0) (ms' := 0) (av := [.int r]) (rest := []) (n := 42) d_CM_size_39 rfl w_CM_155 w_CM_155k gg_20 rfl rfl rfl rfl rfl rfl (Nat.le_refl _) (Nat.le_refl _) ?_
    refine c_Mt_isDirectoryAt (a1 := r) j2 (o2 h1) (fun h2 => ?_) (fun h3 h4 => ?_)
    · refine zr_if_eq (tgt := 52) (n := 45) d_CM_size_42 rfl (by decide) (fun h => absurd h (by decide)) (fun _ => ?_)
      refine zr_iload (i := 6) (x := (S 24 j1)) (n := 47) d_CM_size_45 rfl rfl ?_
      refine zr_iconst (v := 4) (n := 48) d_CM_size_47 rfl (by decide) ?_
      refine zr_idiv (n := 49) d_CM_size_48 rfl (by decide) ?_
      refine zr_goto (tgt := 54) d_CM_size_49 (by decide) ?_
      exact zr_ireturn d_CM_size_54 rfl rfl (Nat.le_refl _) (Nat.le_refl _) (l1 h1 h2)
    · refine zr_if_eq (tgt := 52) (n := 45) d_CM_size_42 rfl (by decide) (fun _ => ?_) (fun h => absurd h (by decide))
      refine zr_iload (i := 6) (x := (S 24 j1)) (n := 54) d_CM_size_52 rfl rfl ?_
      exact zr_ireturn d_CM_size_54 rfl rfl (Nat.le_refl _) (Nat.le_refl _) (l2 h1 h3 h4)
  · refine zr_iload (i := 4) (x := r) (n := 16) d_CM_size_14 rfl rfl ?_
    exact zr_ireturn d_CM_size_16 rfl rfl (Nat.le_refl _) (Nat.le_refl _) (l3 h1)
theorem e_CM_size {d : Nat} {Q : zm_Q} {S : zm_S} {a1 a2 a3 : Int32} (h : zw M_CM_size (d + 6) Q 0 [some (.ref 0), some (.int a1), some (.int a2), some (.int a3), none, none, none] [] S) : zc M_CM_size (d + 6) [.ref 0, .int a1, .int a2, .int a3] S Q := zm_CC_intro (by decide) rfl rfl h
theorem s_CM_read_0 {d : Nat} {Q : zm_Q} {S : zm_S} {a1 a2 a3 a4 : Int32}
    (l1 : zc M_CM_follow (d + 5) [.ref 0, .int a1, .int a2, .int a3] S (fun v G' S' => zm_WP M_CM_read none (d + 6) 0 0 Q 7 [some (.ref 0), none, none, none, some (.int a4), none] (zm_ps v []) G' S' 0 0)) :
    zw M_CM_read (d + 6) Q 0 [some (.ref 0), some (.int a1), some (.int a2), some (.int a3), some (.int a4), none] [] S := by
  refine zr_aload_n (i := 0) (x := 0) (n := 1) d_CM_read_0 rfl rfl rfl ?_
  refine zr_iload_n (i := 1) (x := a1) (n := 2) d_CM_read_1 rfl rfl rfl ?_
  refine zr_iload_n (i := 2) (x := a2) (n := 3) d_CM_read_2 rfl rfl rfl ?_
  refine zr_iload_n (i := 3) (x := a3) (n := 4) d_CM_read_3 rfl rfl rfl ?_
  refine zr_weak (zm_LE.cons (zm_LE.skip (zm_LE.skip (zm_LE.skip (zm_LE.cons (zm_LE.cons zm_LE.nil)))))) ?_
  refine zr_callV (M' := M_CM_follow) (mc' := 0) (ms' := 0) (av := [.int a1, .int a2, .int a3]) (rest := []) (n := 7) d_CM_read_4 rfl w_CM_145 w_CM_145k gg_0 rfl rfl rfl rfl rfl rfl (Nat.le_refl _) (Nat.le_refl _) ?_
  exact l1
theorem s_CM_read_7 {d : Nat} {Q : zm_Q} {S : zm_S} {a4 r : Int32} (j1 : Nat) (j2 : Nat) (o1 : 0 ≤ r → ¬ a4 < 0 → zm_ix (r + 2) j1 576) (o2 : 0 ≤ r → ¬ a4 < 0 → a4 < (S 24 j1) → zm_ix ((r + 3) + a4) j2 576)
    (l1 : ((0 ≤ r ∧ a4 < 0) ∨ (0 ≤ r ∧ ¬ a4 < 0 ∧ ¬ a4 < (S 24 j1))) → Q (some (-2)) GG S)
    (l2 : 0 ≤ r → ¬ a4 < 0 → a4 < (S 24 j1) → Q (some (S 24 j2)) GG S)
    (l3 : ¬ 0 ≤ r → Q (some r) GG S) :
    zw M_CM_read (d + 6) Q 7 [some (.ref 0), none, none, none, some (.int a4), none] [.int r] S := by
  refine zr_istore (i := 5) (L' := [some (.ref 0), none, none, none, some (.int a4), some (.int r)]) (n := 9) d_CM_read_7 rfl rfl rfl ?_
  refine zr_iload (i := 5) (x := r) (n := 11) d_CM_read_9 rfl rfl ?_
  refine zr_if_ge (tgt := 17) (n := 14) d_CM_read_11 rfl (by decide) (fun h1 => ?_) (fun h1 => ?_)
  · refine zr_iload (i := 4) (x := a4) (n := 19) d_CM_read_17 rfl rfl ?_
    refine zr_if_lt (tgt := 39) (n := 22) d_CM_read_19 rfl (by decide) (fun h2 => ?_) (fun h2 => ?_)
    · refine zr_bipush (v := (-2)) (n := 41) d_CM_read_39 rfl (by decide) ?_
      exact zr_ireturn d_CM_read_41 rfl rfl (Nat.le_refl _) (Nat.le_refl _) (l1 (Or.inl ⟨h1, h2⟩))
    · refine zr_iload (i := 4) (x := a4) (n := 24) d_CM_read_22 rfl rfl ?_
      refine zr_aload_n (i := 0) (x := 0) (n := 25) d_CM_read_24 rfl rfl rfl ?_
      refine zr_getr (n := 28) d_CM_read_25 rfl f_CM_33 gg_0 rfl ?_
      refine zr_getr (n := 31) d_CM_read_28 rfl f_CM_126 gg_19 rfl ?_
      refine zr_iload (i := 5) (x := r) (n := 33) d_CM_read_31 rfl rfl ?_
      refine zr_callV (M' := M_Mt_lengthAt) (mc' := 0) (ms' := 0) (av := [.int r]) (rest := [.int a4]) (n := 36) d_CM_read_33 rfl w_CM_152 w_CM_152k gg_20 rfl rfl rfl rfl rfl rfl (Nat.le_refl _) (Nat.le_refl _) ?_
      refine c_Mt_lengthAt (a1 := r) j1 (o1 h1 h2) ?_
      refine zr_icmp_lt (tgt := 42) (n := 39) d_CM_read_36 rfl (by decide) (fun h3 => ?_) (fun h3 => ?_)
      · refine zr_aload_n (i := 0) (x := 0) (n := 43) d_CM_read_42 rfl rfl rfl ?_
        refine zr_getr (n := 46) d_CM_read_43 rfl f_CM_33 gg_0 rfl ?_
        refine zr_getr (n := 49) d_CM_read_46 rfl f_CM_126 gg_19 rfl ?_
        refine zr_iload (i := 5) (x := r) (n := 51) d_CM_read_49 rfl rfl ?_
        refine zr_iload (i := 4) (x := a4) (n := 53) d_CM_read_51 rfl rfl ?_
        refine zr_weak (zm_LE.skip (zm_LE.cons (zm_LE.cons (zm_LE.cons (zm_LE.skip (zm_LE.skip zm_LE.nil)))))) ?_
        refine zr_callV (M' := M_Mt_contentAt) (mc' := 0) (ms' := 0) (av := [.int r, .int a4]) (rest := []) (n := 56) d_CM_read_53 rfl w_CM_158 w_CM_158k gg_20 rfl rfl rfl rfl rfl rfl (Nat.le_refl _) (Nat.le_refl _) ?_
        refine c_Mt_contentAt (a1 := r) (a2 := a4) j2 (o2 h1 h2 h3) ?_
        exact zr_ireturn d_CM_read_56 rfl rfl (Nat.le_refl _) (Nat.le_refl _) (l2 h1 h2 h3)
      · refine zr_bipush (v := (-2)) (n := 41) d_CM_read_39 rfl (by decide) ?_
        exact zr_ireturn d_CM_read_41 rfl rfl (Nat.le_refl _) (Nat.le_refl _) (l1 (Or.inr ⟨h1, h2, h3⟩))
  · refine zr_iload (i := 5) (x := r) (n := 16) d_CM_read_14 rfl rfl ?_
    exact zr_ireturn d_CM_read_16 rfl rfl (Nat.le_refl _) (Nat.le_refl _) (l3 h1)
theorem e_CM_read {d : Nat} {Q : zm_Q} {S : zm_S} {a1 a2 a3 a4 : Int32} (h : zw M_CM_read (d + 6) Q 0 [some (.ref 0), some (.int a1), some (.int a2), some (.int a3), some (.int a4), none] [] S) : zc M_CM_read (d + 6) [.ref 0, .int a1, .int a2, .int a3, .int a4] S Q := zm_CC_intro (by decide) rfl rfl h
theorem s_CM_follow_0 {d : Nat} {Q : zm_Q} {S : zm_S} {a1 a2 a3 : Int32}
    (l1 : ((((a1 < 0) ∨ (¬ a1 < 0 ∧ 255 < a1))) ∨ (¬ a1 < 0 ∧ ¬ 255 < a1 ∧ ((a2 < 0) ∨ (¬ a2 < 0 ∧ 255 < a2))) ∨ (¬ a1 < 0 ∧ ¬ 255 < a1 ∧ ¬ a2 < 0 ∧ ¬ 255 < a2 ∧ ((a3 < 0) ∨ (¬ a3 < 0 ∧ 255 < a3)))) → Q (some (-1)) GG S)
    (l2 : ¬ a1 < 0 → ¬ 255 < a1 → ¬ a2 < 0 → ¬ 255 < a2 → ¬ a3 < 0 → ¬ 255 < a3 → zc M_Mt_gateway (d + 4) [.ref 20] S (fun v G' S' => zm_WP M_CM_follow none (d + 5) 0 0 Q 37 [none, some (.int a1), some (.int a2), some (.int a3), some (.ref 20), none] (zm_ps v []) G' S' 0 0)) :
    zw M_CM_follow (d + 5) Q 0 [some (.ref 0), some (.int a1), some (.int a2), some (.int a3), none, none] [] S := by
  refine zr_iload_n (i := 1) (x := a1) (n := 1) d_CM_follow_0 rfl rfl rfl ?_
  refine zr_callS (M' := M_CM_isByte) (mc' := 0) (ms' := 0) (av := [.int a1]) (rest := []) (n := 4) d_CM_follow_1 rfl w_CM_67 w_CM_67k rfl rfl rfl rfl rfl (Nat.le_refl _) (Nat.le_refl _) ?_
  refine c_CM_isByte (a0 := a1) (fun h1 => ?_) (fun h2 h3 => ?_)
  · refine zr_if_eq (tgt := 21) (n := 7) d_CM_follow_4 rfl (by decide) (fun _ => ?_) (fun h => absurd h (by decide))
    refine zr_iconst (v := (-1)) (n := 22) d_CM_follow_21 rfl (by decide) ?_
    exact zr_ireturn d_CM_follow_22 rfl rfl (Nat.le_refl _) (Nat.le_refl _) (l1 (Or.inl h1))
  · refine zr_if_eq (tgt := 21) (n := 7) d_CM_follow_4 rfl (by decide) (fun h => absurd h (by decide)) (fun _ => ?_)
    refine zr_iload_n (i := 2) (x := a2) (n := 8) d_CM_follow_7 rfl rfl rfl ?_
    refine zr_callS (M' := M_CM_isByte) (mc' := 0) (ms' := 0) (av := [.int a2]) (rest := []) (n := 11) d_CM_follow_8 rfl w_CM_67 w_CM_67k rfl rfl rfl rfl rfl (Nat.le_refl _) (Nat.le_refl _) ?_
    refine c_CM_isByte (a0 := a2) (fun h4 => ?_) (fun h5 h6 => ?_)
    · refine zr_if_eq (tgt := 21) (n := 14) d_CM_follow_11 rfl (by decide) (fun _ => ?_) (fun h => absurd h (by decide))
      refine zr_iconst (v := (-1)) (n := 22) d_CM_follow_21 rfl (by decide) ?_
      exact zr_ireturn d_CM_follow_22 rfl rfl (Nat.le_refl _) (Nat.le_refl _) (l1 (Or.inr (Or.inl ⟨h2, h3, h4⟩)))
    · refine zr_if_eq (tgt := 21) (n := 14) d_CM_follow_11 rfl (by decide) (fun h => absurd h (by decide)) (fun _ => ?_)
      refine zr_iload_n (i := 3) (x := a3) (n := 15) d_CM_follow_14 rfl rfl rfl ?_
      refine zr_callS (M' := M_CM_isByte) (mc' := 0) (ms' := 0) (av := [.int a3]) (rest := []) (n := 18) d_CM_follow_15 rfl w_CM_67 w_CM_67k rfl rfl rfl rfl rfl (Nat.le_refl _) (Nat.le_refl _) ?_
      refine c_CM_isByte (a0 := a3) (fun h7 => ?_) (fun h8 h9 => ?_)
      · refine zr_if_ne (tgt := 23) (n := 21) d_CM_follow_18 rfl (by decide) (fun h => absurd h (by decide)) (fun _ => ?_)
        refine zr_iconst (v := (-1)) (n := 22) d_CM_follow_21 rfl (by decide) ?_
        exact zr_ireturn d_CM_follow_22 rfl rfl (Nat.le_refl _) (Nat.le_refl _) (l1 (Or.inr (Or.inr ⟨h2, h3, h5, h6, h7⟩)))
      · refine zr_if_ne (tgt := 23) (n := 21) d_CM_follow_18 rfl (by decide) (fun _ => ?_) (fun h => absurd h (by decide))
        refine zr_aload_n (i := 0) (x := 0) (n := 24) d_CM_follow_23 rfl rfl rfl ?_
        refine zr_getr (n := 27) d_CM_follow_24 rfl f_CM_33 gg_0 rfl ?_
        refine zr_getr (n := 30) d_CM_follow_27 rfl f_CM_126 gg_19 rfl ?_
        refine zr_astore (i := 4) (L' := [some (.ref 0), some (.int a1), some (.int a2), some (.int a3), some (.ref 20), none]) (n := 32) d_CM_follow_30 rfl rfl rfl ?_
        refine zr_aload (i := 4) (x := 20) (n := 34) d_CM_follow_32 rfl rfl ?_
        refine zr_weak (zm_LE.skip (zm_LE.cons (zm_LE.cons (zm_LE.cons (zm_LE.cons (zm_LE.cons zm_LE.nil)))))) ?_
        refine zr_callV (M' := M_Mt_gateway) (mc' := 0) (ms' := 0) (av := []) (rest := []) (n := 37) d_CM_follow_34 rfl w_CM_161 w_CM_161k gg_20 rfl rfl rfl rfl rfl rfl (Nat.le_refl _) (Nat.le_refl _) ?_
        exact (l2 h2 h3 h5 h6 h8 h9)
theorem s_CM_follow_37 {d : Nat} {Q : zm_Q} {S : zm_S} {a1 a2 a3 r : Int32}
    (l1 : ((a1 = 0) ∨ (¬ a1 = 0 ∧ ¬ 0 ≤ r)) → Q (some r) GG S)
    (l2 : ¬ a1 = 0 → 0 ≤ r → zc M_Mt_enter (d + 4) [.ref 20, .int r, .int a1] S (fun v G' S' => zm_WP M_CM_follow none (d + 5) 0 0 Q 59 [none, none, some (.int a2), some (.int a3), some (.ref 20), none] (zm_ps v []) G' S' 0 0)) :
    zw M_CM_follow (d + 5) Q 37 [none, some (.int a1), some (.int a2), some (.int a3), some (.ref 20), none] [.int r] S := by
  refine zr_istore (i := 5) (L' := [none, some (.int a1), some (.int a2), some (.int a3), some (.ref 20), some (.int r)]) (n := 39) d_CM_follow_37 rfl rfl rfl ?_
  refine zr_iload_n (i := 1) (x := a1) (n := 40) d_CM_follow_39 rfl rfl rfl ?_
  refine zr_if_eq (tgt := 48) (n := 43) d_CM_follow_40 rfl (by decide) (fun h1 => ?_) (fun h1 => ?_)
  · refine zr_iload (i := 5) (x := r) (n := 50) d_CM_follow_48 rfl rfl ?_
    exact zr_ireturn d_CM_follow_50 rfl rfl (Nat.le_refl _) (Nat.le_refl _) (l1 (Or.inl h1))
  · refine zr_iload (i := 5) (x := r) (n := 45) d_CM_follow_43 rfl rfl ?_
    refine zr_if_ge (tgt := 51) (n := 48) d_CM_follow_45 rfl (by decide) (fun h2 => ?_) (fun h2 => ?_)
    · refine zr_aload (i := 4) (x := 20) (n := 53) d_CM_follow_51 rfl rfl ?_
      refine zr_iload (i := 5) (x := r) (n := 55) d_CM_follow_53 rfl rfl ?_
      refine zr_iload_n (i := 1) (x := a1) (n := 56) d_CM_follow_55 rfl rfl rfl ?_
      refine zr_weak (zm_LE.cons (zm_LE.skip (zm_LE.cons (zm_LE.cons (zm_LE.cons (zm_LE.skip zm_LE.nil)))))) ?_
      refine zr_callV (M' := M_Mt_enter) (mc' := 0) (ms' := 0) (av := [.int r, .int a1]) (rest := []) (n := 59) d_CM_follow_56 rfl w_CM_164 w_CM_164k gg_20 rfl rfl rfl rfl rfl rfl (Nat.le_refl _) (Nat.le_refl _) ?_
      exact (l2 h1 h2)
    · refine zr_iload (i := 5) (x := r) (n := 50) d_CM_follow_48 rfl rfl ?_
      exact zr_ireturn d_CM_follow_50 rfl rfl (Nat.le_refl _) (Nat.le_refl _) (l1 (Or.inr ⟨h1, h2⟩))
theorem s_CM_follow_59 {d : Nat} {Q : zm_Q} {S : zm_S} {a2 a3 r : Int32}
    (l1 : ((a2 = 0) ∨ (¬ a2 = 0 ∧ ¬ 0 ≤ r)) → Q (some r) GG S)
    (l2 : ¬ a2 = 0 → 0 ≤ r → zc M_Mt_enter (d + 4) [.ref 20, .int r, .int a2] S (fun v G' S' => zm_WP M_CM_follow none (d + 5) 0 0 Q 81 [none, none, none, some (.int a3), some (.ref 20), none] (zm_ps v []) G' S' 0 0)) :
    zw M_CM_follow (d + 5) Q 59 [none, none, some (.int a2), some (.int a3), some (.ref 20), none] [.int r] S := by
  refine zr_istore (i := 5) (L' := [none, none, some (.int a2), some (.int a3), some (.ref 20), some (.int r)]) (n := 61) d_CM_follow_59 rfl rfl rfl ?_
  refine zr_iload_n (i := 2) (x := a2) (n := 62) d_CM_follow_61 rfl rfl rfl ?_
  refine zr_if_eq (tgt := 70) (n := 65) d_CM_follow_62 rfl (by decide) (fun h1 => ?_) (fun h1 => ?_)
  · refine zr_iload (i := 5) (x := r) (n := 72) d_CM_follow_70 rfl rfl ?_
    exact zr_ireturn d_CM_follow_72 rfl rfl (Nat.le_refl _) (Nat.le_refl _) (l1 (Or.inl h1))
  · refine zr_iload (i := 5) (x := r) (n := 67) d_CM_follow_65 rfl rfl ?_
    refine zr_if_ge (tgt := 73) (n := 70) d_CM_follow_67 rfl (by decide) (fun h2 => ?_) (fun h2 => ?_)
    · refine zr_aload (i := 4) (x := 20) (n := 75) d_CM_follow_73 rfl rfl ?_
      refine zr_iload (i := 5) (x := r) (n := 77) d_CM_follow_75 rfl rfl ?_
      refine zr_iload_n (i := 2) (x := a2) (n := 78) d_CM_follow_77 rfl rfl rfl ?_
      refine zr_weak (zm_LE.cons (zm_LE.cons (zm_LE.skip (zm_LE.cons (zm_LE.cons (zm_LE.skip zm_LE.nil)))))) ?_
      refine zr_callV (M' := M_Mt_enter) (mc' := 0) (ms' := 0) (av := [.int r, .int a2]) (rest := []) (n := 81) d_CM_follow_78 rfl w_CM_164 w_CM_164k gg_20 rfl rfl rfl rfl rfl rfl (Nat.le_refl _) (Nat.le_refl _) ?_
      exact (l2 h1 h2)
    · refine zr_iload (i := 5) (x := r) (n := 72) d_CM_follow_70 rfl rfl ?_
      exact zr_ireturn d_CM_follow_72 rfl rfl (Nat.le_refl _) (Nat.le_refl _) (l1 (Or.inr ⟨h1, h2⟩))
theorem s_CM_follow_81 {d : Nat} {Q : zm_Q} {S : zm_S} {a3 r : Int32}
    (l1 : ((a3 = 0) ∨ (¬ a3 = 0 ∧ ¬ 0 ≤ r)) → Q (some r) GG S)
    (l2 : ¬ a3 = 0 → 0 ≤ r → zc M_Mt_enter (d + 4) [.ref 20, .int r, .int a3] S (fun v G' S' => zm_WP M_CM_follow none (d + 5) 0 0 Q 103 [none, none, none, none, none, none] (zm_ps v []) G' S' 0 0)) :
    zw M_CM_follow (d + 5) Q 81 [none, none, none, some (.int a3), some (.ref 20), none] [.int r] S := by
  refine zr_istore (i := 5) (L' := [none, none, none, some (.int a3), some (.ref 20), some (.int r)]) (n := 83) d_CM_follow_81 rfl rfl rfl ?_
  refine zr_iload_n (i := 3) (x := a3) (n := 84) d_CM_follow_83 rfl rfl rfl ?_
  refine zr_if_eq (tgt := 92) (n := 87) d_CM_follow_84 rfl (by decide) (fun h1 => ?_) (fun h1 => ?_)
  · refine zr_iload (i := 5) (x := r) (n := 94) d_CM_follow_92 rfl rfl ?_
    exact zr_ireturn d_CM_follow_94 rfl rfl (Nat.le_refl _) (Nat.le_refl _) (l1 (Or.inl h1))
  · refine zr_iload (i := 5) (x := r) (n := 89) d_CM_follow_87 rfl rfl ?_
    refine zr_if_ge (tgt := 95) (n := 92) d_CM_follow_89 rfl (by decide) (fun h2 => ?_) (fun h2 => ?_)
    · refine zr_aload (i := 4) (x := 20) (n := 97) d_CM_follow_95 rfl rfl ?_
      refine zr_iload (i := 5) (x := r) (n := 99) d_CM_follow_97 rfl rfl ?_
      refine zr_iload_n (i := 3) (x := a3) (n := 100) d_CM_follow_99 rfl rfl rfl ?_
      refine zr_weak (zm_LE.cons (zm_LE.cons (zm_LE.cons (zm_LE.skip (zm_LE.skip (zm_LE.skip zm_LE.nil)))))) ?_
      refine zr_callV (M' := M_Mt_enter) (mc' := 0) (ms' := 0) (av := [.int r, .int a3]) (rest := []) (n := 103) d_CM_follow_100 rfl w_CM_164 w_CM_164k gg_20 rfl rfl rfl rfl rfl rfl (Nat.le_refl _) (Nat.le_refl _) ?_
      exact (l2 h1 h2)
    · refine zr_iload (i := 5) (x := r) (n := 94) d_CM_follow_92 rfl rfl ?_
      exact zr_ireturn d_CM_follow_94 rfl rfl (Nat.le_refl _) (Nat.le_refl _) (l1 (Or.inr ⟨h1, h2⟩))
theorem s_CM_follow_103 {d : Nat} {Q : zm_Q} {S : zm_S} {r : Int32}
    (l1 : Q (some r) GG S) :
    zw M_CM_follow (d + 5) Q 103 [none, none, none, none, none, none] [.int r] S := by
  exact zr_ireturn d_CM_follow_103 rfl rfl (Nat.le_refl _) (Nat.le_refl _) l1
theorem e_CM_follow {d : Nat} {Q : zm_Q} {S : zm_S} {a1 a2 a3 : Int32} (h : zw M_CM_follow (d + 5) Q 0 [some (.ref 0), some (.int a1), some (.int a2), some (.int a3), none, none] [] S) : zc M_CM_follow (d + 5) [.ref 0, .int a1, .int a2, .int a3] S Q := zm_CC_intro (by decide) rfl rfl h
theorem s_CM_checkOf_0 {d : Nat} {Q : zm_Q} {S : zm_S} {a1 a2 : Int32} {ra N : Nat} (hg : GG[ra]? = some (.inl (false, N)))
    (l1 : zw M_CM_checkOf d Q 5 [some (.ref ra), none, some (.int a2), some (.int (-1)), some (.int a1), none] [] S) :
    zw M_CM_checkOf d Q 0 [some (.ref ra), some (.int a1), some (.int a2), none, none, none] [] S := by
  refine zr_iconst (v := (-1)) (n := 1) d_CM_checkOf_0 rfl (by decide) ?_
  refine zr_istore_n (i := 3) (L' := [some (.ref ra), some (.int a1), some (.int a2), some (.int (-1)), none, none]) (n := 2) d_CM_checkOf_1 rfl rfl rfl rfl ?_
  refine zr_iload_n (i := 1) (x := a1) (n := 3) d_CM_checkOf_2 rfl rfl rfl ?_
  refine zr_istore (i := 4) (L' := [some (.ref ra), some (.int a1), some (.int a2), some (.int (-1)), some (.int a1), none]) (n := 5) d_CM_checkOf_3 rfl rfl rfl ?_
  exact zr_weak (zm_LE.cons (zm_LE.skip (zm_LE.cons (zm_LE.cons (zm_LE.cons (zm_LE.cons zm_LE.nil)))))) l1
theorem s_CM_checkOf_5 {d : Nat} {Q : zm_Q} {S : zm_S} {a2 a3 a4 : Int32} {ra N : Nat} (hg : GG[ra]? = some (.inl (false, N))) (j1 : Nat) (o1 : ¬ a2 ≤ a4 → zm_ix a4 j1 N)
    (l1 : a2 ≤ a4 → Q (some a3) GG S)
    (l2 : ¬ a2 ≤ a4 → zw M_CM_checkOf d Q 24 [some (.ref ra), none, some (.int a2), some (.int (a3 ^^^ ((S ra j1) <<< (24 &&& 31)))), some (.int a4), some (.int 0)] [] S) :
    zw M_CM_checkOf d Q 5 [some (.ref ra), none, some (.int a2), some (.int a3), some (.int a4), none] [] S := by
  refine zr_iload (i := 4) (x := a4) (n := 7) d_CM_checkOf_5 rfl rfl ?_
  refine zr_iload_n (i := 2) (x := a2) (n := 8) d_CM_checkOf_7 rfl rfl rfl ?_
  refine zr_icmp_ge (tgt := 60) (n := 11) d_CM_checkOf_8 rfl (by decide) (fun h1 => ?_) (fun h1 => ?_)
  · refine zr_iload_n (i := 3) (x := a3) (n := 61) d_CM_checkOf_60 rfl rfl rfl ?_
    exact zr_ireturn d_CM_checkOf_61 rfl rfl (Nat.le_refl _) (Nat.le_refl _) (l1 h1)
  · refine zr_iload_n (i := 3) (x := a3) (n := 12) d_CM_checkOf_11 rfl rfl rfl ?_
    refine zr_aload_n (i := 0) (x := ra) (n := 13) d_CM_checkOf_12 rfl rfl rfl ?_
    refine zr_iload (i := 4) (x := a4) (n := 15) d_CM_checkOf_13 rfl rfl ?_
    refine zr_iaload j1 (n := 16) d_CM_checkOf_15 rfl hg (o1 h1) ?_
    refine zr_bipush (v := 24) (n := 18) d_CM_checkOf_16 rfl (by decide) ?_
    refine zr_ishl (n := 19) d_CM_checkOf_18 rfl ?_
    refine zr_ixor (n := 20) d_CM_checkOf_19 rfl ?_
    refine zr_istore_n (i := 3) (L' := [some (.ref ra), none, some (.int a2), some (.int (a3 ^^^ ((S ra j1) <<< (24 &&& 31)))), some (.int a4), none]) (n := 21) d_CM_checkOf_20 rfl rfl rfl rfl ?_
    refine zr_iconst (v := 0) (n := 22) d_CM_checkOf_21 rfl (by decide) ?_
    refine zr_istore (i := 5) (L' := [some (.ref ra), none, some (.int a2), some (.int (a3 ^^^ ((S ra j1) <<< (24 &&& 31)))), some (.int a4), some (.int 0)]) (n := 24) d_CM_checkOf_22 rfl rfl rfl ?_
    exact (l2 h1)
theorem s_CM_checkOf_24 {d : Nat} {Q : zm_Q} {S : zm_S} {a2 a3 a4 a5 : Int32} {ra N : Nat} (hg : GG[ra]? = some (.inl (false, N)))
    (l1 : 8 ≤ a5 → zw M_CM_checkOf d Q 5 [some (.ref ra), none, some (.int a2), some (.int a3), some (.int (a4 + 1)), none] [] S)
    (l2 : ¬ 8 ≤ a5 → 0 ≤ a3 → zw M_CM_checkOf d Q 24 [some (.ref ra), none, some (.int a2), some (.int (a3 <<< (1 &&& 31))), some (.int a4), some (.int (a5 + 1))] [] S)
    (l3 : ¬ 8 ≤ a5 → ¬ 0 ≤ a3 → zw M_CM_checkOf d Q 24 [some (.ref ra), none, some (.int a2), some (.int ((a3 <<< (1 &&& 31)) ^^^ 79764919)), some (.int a4), some (.int (a5 + 1))] [] S) :
    zw M_CM_checkOf d Q 24 [some (.ref ra), none, some (.int a2), some (.int a3), some (.int a4), some (.int a5)] [] S := by
  refine zr_iload (i := 5) (x := a5) (n := 26) d_CM_checkOf_24 rfl rfl ?_
  refine zr_bipush (v := 8) (n := 28) d_CM_checkOf_26 rfl (by decide) ?_
  refine zr_icmp_ge (tgt := 54) (n := 31) d_CM_checkOf_28 rfl (by decide) (fun h1 => ?_) (fun h1 => ?_)
  · refine zr_iinc (i := 4) (w := 1) (x := a4) (L' := [some (.ref ra), none, some (.int a2), some (.int a3), some (.int (a4 + 1)), some (.int a5)]) (n := 57) d_CM_checkOf_54 rfl (by decide) rfl rfl ?_
    refine zr_goto (tgt := 5) d_CM_checkOf_57 (by decide) ?_
    exact zr_weak (zm_LE.cons (zm_LE.cons (zm_LE.cons (zm_LE.cons (zm_LE.cons (zm_LE.skip zm_LE.nil)))))) (l1 h1)
  · refine zr_iload_n (i := 3) (x := a3) (n := 32) d_CM_checkOf_31 rfl rfl rfl ?_
    refine zr_if_ge (tgt := 44) (n := 35) d_CM_checkOf_32 rfl (by decide) (fun h2 => ?_) (fun h2 => ?_)
    · refine zr_iload_n (i := 3) (x := a3) (n := 45) d_CM_checkOf_44 rfl rfl rfl ?_
      refine zr_iconst (v := 1) (n := 46) d_CM_checkOf_45 rfl (by decide) ?_
      refine zr_ishl (n := 47) d_CM_checkOf_46 rfl ?_
      refine zr_istore_n (i := 3) (L' := [some (.ref ra), none, some (.int a2), some (.int (a3 <<< (1 &&& 31))), some (.int a4), some (.int a5)]) (n := 48) d_CM_checkOf_47 rfl rfl rfl rfl ?_
      refine zr_iinc (i := 5) (w := 1) (x := a5) (L' := [some (.ref ra), none, some (.int a2), some (.int (a3 <<< (1 &&& 31))), some (.int a4), some (.int (a5 + 1))]) (n := 51) d_CM_checkOf_48 rfl (by decide) rfl rfl ?_
      refine zr_goto (tgt := 24) d_CM_checkOf_51 (by decide) ?_
      exact (l2 h1 h2)
    · refine zr_iload_n (i := 3) (x := a3) (n := 36) d_CM_checkOf_35 rfl rfl rfl ?_
      refine zr_iconst (v := 1) (n := 37) d_CM_checkOf_36 rfl (by decide) ?_
      refine zr_ishl (n := 38) d_CM_checkOf_37 rfl ?_
      refine zr_ldc (v := 79764919) (n := 40) d_CM_checkOf_38 rfl k_CM_167 ?_
      refine zr_ixor (n := 41) d_CM_checkOf_40 rfl ?_
      refine zr_goto (tgt := 47) d_CM_checkOf_41 (by decide) ?_
      refine zr_istore_n (i := 3) (L' := [some (.ref ra), none, some (.int a2), some (.int ((a3 <<< (1 &&& 31)) ^^^ 79764919)), some (.int a4), some (.int a5)]) (n := 48) d_CM_checkOf_47 rfl rfl rfl rfl ?_
      refine zr_iinc (i := 5) (w := 1) (x := a5) (L' := [some (.ref ra), none, some (.int a2), some (.int ((a3 <<< (1 &&& 31)) ^^^ 79764919)), some (.int a4), some (.int (a5 + 1))]) (n := 51) d_CM_checkOf_48 rfl (by decide) rfl rfl ?_
      refine zr_goto (tgt := 24) d_CM_checkOf_51 (by decide) ?_
      exact (l3 h1 h2)
theorem e_CM_checkOf {d : Nat} {Q : zm_Q} {S : zm_S} {a1 a2 : Int32} {ra : Nat} (h : zw M_CM_checkOf d Q 0 [some (.ref ra), some (.int a1), some (.int a2), none, none, none] [] S) : zc M_CM_checkOf d [.ref ra, .int a1, .int a2] S Q := zm_CC_intro (by decide) rfl rfl h
theorem s_Ed_renew_0 {d : Nat} {Q : zm_Q} {S : zm_S}
    (l1 : zc M_Ed_arrange (d + 3) [.ref 7, .ref 1] (zm_up S 7 0 ((S 7 0) + 1)) (fun v G' S' => zm_WP M_Ed_renew none (d + 4) 0 0 Q 15 [some (.ref 7), some (.ref 1), none, none] (zm_ps v []) G' S' 0 0)) :
    zw M_Ed_renew (d + 4) Q 0 [some (.ref 7), some (.ref 1), none, none] [] S := by
  refine zr_aload_n (i := 0) (x := 7) (n := 1) d_Ed_renew_0 rfl rfl rfl ?_
  refine zr_dup (n := 2) d_Ed_renew_1 rfl rfl ?_
  refine zr_geti (n := 5) d_Ed_renew_2 rfl f_Ed_9 gg_7 rfl ?_
  refine zr_iconst (v := 1) (n := 6) d_Ed_renew_5 rfl (by decide) ?_
  refine zr_iadd (n := 7) d_Ed_renew_6 rfl ?_
  refine zr_puti (n := 10) d_Ed_renew_7 rfl f_Ed_9 tw_Ed rfl rfl rfl rfl gg_7 rfl ?_
  refine zr_aload_n (i := 0) (x := 7) (n := 11) d_Ed_renew_10 rfl rfl rfl ?_
  refine zr_aload_n (i := 1) (x := 1) (n := 12) d_Ed_renew_11 rfl rfl rfl ?_
  refine zr_callV (M' := M_Ed_arrange) (mc' := 0) (ms' := 0) (av := [.ref 1]) (rest := []) (n := 15) d_Ed_renew_12 rfl w_Ed_43 w_Ed_43k gg_7 rfl rfl rfl rfl rfl rfl (Nat.le_refl _) (Nat.le_refl _) ?_
  exact l1
theorem s_Ed_renew_15 {d : Nat} {Q : zm_Q} {S : zm_S}
    (l1 : zc M_Ed_assignModules (d + 3) [.ref 7, .ref 1] S (fun v G' S' => zm_WP M_Ed_renew none (d + 4) 0 0 Q 20 [some (.ref 7), some (.ref 1), none, none] (zm_ps v []) G' S' 0 0)) :
    zw M_Ed_renew (d + 4) Q 15 [some (.ref 7), some (.ref 1), none, none] [] S := by
  refine zr_aload_n (i := 0) (x := 7) (n := 16) d_Ed_renew_15 rfl rfl rfl ?_
  refine zr_aload_n (i := 1) (x := 1) (n := 17) d_Ed_renew_16 rfl rfl rfl ?_
  refine zr_callV (M' := M_Ed_assignModules) (mc' := 0) (ms' := 0) (av := [.ref 1]) (rest := []) (n := 20) d_Ed_renew_17 rfl w_Ed_47 w_Ed_47k gg_7 rfl rfl rfl rfl rfl rfl (Nat.le_refl _) (Nat.le_refl _) ?_
  exact l1
theorem s_Ed_renew_20 {d : Nat} {Q : zm_Q} {S : zm_S} {r : Int32}
    (l1 : zw M_Ed_renew (d + 4) Q 23 [some (.ref 7), some (.ref 1), some (.int r), some (.int 0)] [] S) :
    zw M_Ed_renew (d + 4) Q 20 [some (.ref 7), some (.ref 1), none, none] [.int r] S := by
  refine zr_istore_n (i := 2) (L' := [some (.ref 7), some (.ref 1), some (.int r), none]) (n := 21) d_Ed_renew_20 rfl rfl rfl rfl ?_
  refine zr_iconst (v := 0) (n := 22) d_Ed_renew_21 rfl (by decide) ?_
  refine zr_istore_n (i := 3) (L' := [some (.ref 7), some (.ref 1), some (.int r), some (.int 0)]) (n := 23) d_Ed_renew_22 rfl rfl rfl rfl ?_
  exact l1
theorem s_Ed_renew_23 {d : Nat} {Q : zm_Q} {S : zm_S} {a2 a3 : Int32}
    (l1 : a2 ≤ a3 → Q none GG (zm_up S 7 1 a2))
    (l2 : ¬ a2 ≤ a3 → zc M_Ed_draftModule (d + 3) [.ref 7, .ref 1, .int a3] S (fun v G' S' => zm_WP M_Ed_renew none (d + 4) 0 0 Q 34 [some (.ref 7), some (.ref 1), some (.int a2), some (.int a3)] (zm_ps v []) G' S' 0 0)) :
    zw M_Ed_renew (d + 4) Q 23 [some (.ref 7), some (.ref 1), some (.int a2), some (.int a3)] [] S := by
  refine zr_iload_n (i := 3) (x := a3) (n := 24) d_Ed_renew_23 rfl rfl rfl ?_
  refine zr_iload_n (i := 2) (x := a2) (n := 25) d_Ed_renew_24 rfl rfl rfl ?_
  refine zr_icmp_ge (tgt := 45) (n := 28) d_Ed_renew_25 rfl (by decide) (fun h1 => ?_) (fun h1 => ?_)
  · refine zr_aload_n (i := 0) (x := 7) (n := 46) d_Ed_renew_45 rfl rfl rfl ?_
    refine zr_iload_n (i := 2) (x := a2) (n := 47) d_Ed_renew_46 rfl rfl rfl ?_
    refine zr_puti (n := 50) d_Ed_renew_47 rfl f_Ed_15 tw_Ed rfl rfl rfl rfl gg_7 rfl ?_
    exact zr_return d_Ed_renew_50 rfl (Nat.le_refl _) (Nat.le_refl _) (l1 h1)
  · refine zr_aload_n (i := 0) (x := 7) (n := 29) d_Ed_renew_28 rfl rfl rfl ?_
    refine zr_aload_n (i := 1) (x := 1) (n := 30) d_Ed_renew_29 rfl rfl rfl ?_
    refine zr_iload_n (i := 3) (x := a3) (n := 31) d_Ed_renew_30 rfl rfl rfl ?_
    refine zr_callV (M' := M_Ed_draftModule) (mc' := 0) (ms' := 0) (av := [.ref 1, .int a3]) (rest := []) (n := 34) d_Ed_renew_31 rfl w_Ed_51 w_Ed_51k gg_7 rfl rfl rfl rfl rfl rfl (Nat.le_refl _) (Nat.le_refl _) ?_
    exact (l2 h1)
theorem s_Ed_renew_34 {d : Nat} {Q : zm_Q} {S : zm_S} {a2 a3 : Int32}
    (l1 : zc M_Ed_keepDraft (d + 3) [.ref 7, .int a3] S (fun v G' S' => zm_WP M_Ed_renew none (d + 4) 0 0 Q 39 [some (.ref 7), some (.ref 1), some (.int a2), some (.int a3)] (zm_ps v []) G' S' 0 0)) :
    zw M_Ed_renew (d + 4) Q 34 [some (.ref 7), some (.ref 1), some (.int a2), some (.int a3)] [] S := by
  refine zr_aload_n (i := 0) (x := 7) (n := 35) d_Ed_renew_34 rfl rfl rfl ?_
  refine zr_iload_n (i := 3) (x := a3) (n := 36) d_Ed_renew_35 rfl rfl rfl ?_
  refine zr_callV (M' := M_Ed_keepDraft) (mc' := 0) (ms' := 0) (av := [.int a3]) (rest := []) (n := 39) d_Ed_renew_36 rfl w_Ed_55 w_Ed_55k gg_7 rfl rfl rfl rfl rfl rfl (Nat.le_refl _) (Nat.le_refl _) ?_
  exact l1
theorem s_Ed_renew_39 {d : Nat} {Q : zm_Q} {S : zm_S} {a2 a3 : Int32}
    (l1 : zw M_Ed_renew (d + 4) Q 23 [some (.ref 7), some (.ref 1), some (.int a2), some (.int (a3 + 1))] [] S) :
    zw M_Ed_renew (d + 4) Q 39 [some (.ref 7), some (.ref 1), some (.int a2), some (.int a3)] [] S := by
  refine zr_iinc (i := 3) (w := 1) (x := a3) (L' := [some (.ref 7), some (.ref 1), some (.int a2), some (.int (a3 + 1))]) (n := 42) d_Ed_renew_39 rfl (by decide) rfl rfl ?_
  refine zr_goto (tgt := 23) d_Ed_renew_42 (by decide) ?_
  exact l1
theorem e_Ed_renew {d : Nat} {Q : zm_Q} {S : zm_S} (h : zw M_Ed_renew (d + 4) Q 0 [some (.ref 7), some (.ref 1), none, none] [] S) : zc M_Ed_renew (d + 4) [.ref 7, .ref 1] S Q := zm_CC_intro (by decide) rfl rfl h
theorem s_Ed_arrange_0 {d : Nat} {Q : zm_Q} {S : zm_S}
    (l1 : zw M_Ed_arrange (d + 2) Q 9 [some (.ref 7), some (.ref 1), some (.int 0), some (.int 0)] [] (zm_up S 7 6 0)) :
    zw M_Ed_arrange (d + 2) Q 0 [some (.ref 7), some (.ref 1), none, none] [] S := by
  refine zr_aload_n (i := 0) (x := 7) (n := 1) d_Ed_arrange_0 rfl rfl rfl ?_
  refine zr_iconst (v := 0) (n := 2) d_Ed_arrange_1 rfl (by decide) ?_
  refine zr_puti (n := 5) d_Ed_arrange_2 rfl f_Ed_31 tw_Ed rfl rfl rfl rfl gg_7 rfl ?_
  refine zr_iconst (v := 0) (n := 6) d_Ed_arrange_5 rfl (by decide) ?_
  refine zr_istore_n (i := 2) (L' := [some (.ref 7), some (.ref 1), some (.int 0), none]) (n := 7) d_Ed_arrange_6 rfl rfl rfl rfl ?_
  refine zr_iconst (v := 0) (n := 8) d_Ed_arrange_7 rfl (by decide) ?_
  refine zr_istore_n (i := 3) (L' := [some (.ref 7), some (.ref 1), some (.int 0), some (.int 0)]) (n := 9) d_Ed_arrange_8 rfl rfl rfl rfl ?_
  exact l1
theorem s_Ed_arrange_9 {d : Nat} {Q : zm_Q} {S : zm_S} {a2 a3 : Int32} (j1 : Nat) (o1 : ¬ 12 ≤ a3 → ¬ a2 = (-1) → zm_ix a3 j1 12)
    (l1 : ((12 ≤ a3) ∨ (¬ 12 ≤ a3 ∧ a2 = (-1))) → Q none GG S)
    (l2 : ¬ 12 ≤ a3 → ¬ a2 = (-1) → zc M_Tree_followerOf (d + 1) [.ref 1, .int a2] (zm_up (zm_up S 11 j1 a2) 7 6 ((S 7 6) + 1)) (fun v G' S' => zm_WP M_Ed_arrange none (d + 2) 0 0 Q 42 [some (.ref 7), some (.ref 1), none, some (.int a3)] (zm_ps v []) G' S' 0 0)) :
    zw M_Ed_arrange (d + 2) Q 9 [some (.ref 7), some (.ref 1), some (.int a2), some (.int a3)] [] S := by
  refine zr_iload_n (i := 3) (x := a3) (n := 10) d_Ed_arrange_9 rfl rfl rfl ?_
  refine zr_bipush (v := 12) (n := 12) d_Ed_arrange_10 rfl (by decide) ?_
  refine zr_icmp_ge (tgt := 49) (n := 15) d_Ed_arrange_12 rfl (by decide) (fun h1 => ?_) (fun h1 => ?_)
  · exact zr_return d_Ed_arrange_49 rfl (Nat.le_refl _) (Nat.le_refl _) (l1 (Or.inl h1))
  · refine zr_iload_n (i := 2) (x := a2) (n := 16) d_Ed_arrange_15 rfl rfl rfl ?_
    refine zr_iconst (v := (-1)) (n := 17) d_Ed_arrange_16 rfl (by decide) ?_
    refine zr_icmp_eq (tgt := 49) (n := 20) d_Ed_arrange_17 rfl (by decide) (fun h2 => ?_) (fun h2 => ?_)
    · exact zr_return d_Ed_arrange_49 rfl (Nat.le_refl _) (Nat.le_refl _) (l1 (Or.inr ⟨h1, h2⟩))
    · refine zr_aload_n (i := 0) (x := 7) (n := 21) d_Ed_arrange_20 rfl rfl rfl ?_
      refine zr_getr (n := 24) d_Ed_arrange_21 rfl f_Ed_28 gg_7 rfl ?_
      refine zr_iload_n (i := 3) (x := a3) (n := 25) d_Ed_arrange_24 rfl rfl rfl ?_
      refine zr_iload_n (i := 2) (x := a2) (n := 26) d_Ed_arrange_25 rfl rfl rfl ?_
      refine zr_iastore j1 (n := 27) d_Ed_arrange_26 rfl gg_11 (o1 h1 h2) ?_
      refine zr_aload_n (i := 0) (x := 7) (n := 28) d_Ed_arrange_27 rfl rfl rfl ?_
      refine zr_dup (n := 29) d_Ed_arrange_28 rfl rfl ?_
      refine zr_geti (n := 32) d_Ed_arrange_29 rfl f_Ed_31 gg_7 rfl ?_
      refine zr_iconst (v := 1) (n := 33) d_Ed_arrange_32 rfl (by decide) ?_
      refine zr_iadd (n := 34) d_Ed_arrange_33 rfl ?_
      refine zr_puti (n := 37) d_Ed_arrange_34 rfl f_Ed_31 tw_Ed rfl rfl rfl rfl gg_7 rfl ?_
      refine zr_aload_n (i := 1) (x := 1) (n := 38) d_Ed_arrange_37 rfl rfl rfl ?_
      refine zr_iload_n (i := 2) (x := a2) (n := 39) d_Ed_arrange_38 rfl rfl rfl ?_
      refine zr_weak (zm_LE.cons (zm_LE.cons (zm_LE.skip (zm_LE.cons zm_LE.nil)))) ?_
      refine zr_callV (M' := M_Tree_followerOf) (mc' := 0) (ms' := 0) (av := [.int a2]) (rest := []) (n := 42) d_Ed_arrange_39 rfl w_Ed_59 w_Ed_59k gg_1 rfl rfl rfl rfl rfl rfl (Nat.le_refl _) (Nat.le_refl _) ?_
      exact (l2 h1 h2)
theorem s_Ed_arrange_42 {d : Nat} {Q : zm_Q} {S : zm_S} {a3 r : Int32}
    (l1 : zw M_Ed_arrange (d + 2) Q 9 [some (.ref 7), some (.ref 1), some (.int r), some (.int (a3 + 1))] [] S) :
    zw M_Ed_arrange (d + 2) Q 42 [some (.ref 7), some (.ref 1), none, some (.int a3)] [.int r] S := by
  refine zr_istore_n (i := 2) (L' := [some (.ref 7), some (.ref 1), some (.int r), some (.int a3)]) (n := 43) d_Ed_arrange_42 rfl rfl rfl rfl ?_
  refine zr_iinc (i := 3) (w := 1) (x := a3) (L' := [some (.ref 7), some (.ref 1), some (.int r), some (.int (a3 + 1))]) (n := 46) d_Ed_arrange_43 rfl (by decide) rfl rfl ?_
  refine zr_goto (tgt := 9) d_Ed_arrange_46 (by decide) ?_
  exact l1
theorem e_Ed_arrange {d : Nat} {Q : zm_Q} {S : zm_S} (h : zw M_Ed_arrange (d + 2) Q 0 [some (.ref 7), some (.ref 1), none, none] [] S) : zc M_Ed_arrange (d + 2) [.ref 7, .ref 1] S Q := zm_CC_intro (by decide) rfl rfl h
theorem s_Ed_assignModules_0 {d : Nat} {Q : zm_Q} {S : zm_S}
    (l1 : zw M_Ed_assignModules (d + 2) Q 7 [some (.ref 7), some (.ref 1), some (.int 0), some (.int 0), some (.int 0), none] [] S) :
    zw M_Ed_assignModules (d + 2) Q 0 [some (.ref 7), some (.ref 1), none, none, none, none] [] S := by
  refine zr_iconst (v := 0) (n := 1) d_Ed_assignModules_0 rfl (by decide) ?_
  refine zr_istore_n (i := 2) (L' := [some (.ref 7), some (.ref 1), some (.int 0), none, none, none]) (n := 2) d_Ed_assignModules_1 rfl rfl rfl rfl ?_
  refine zr_iconst (v := 0) (n := 3) d_Ed_assignModules_2 rfl (by decide) ?_
  refine zr_istore_n (i := 3) (L' := [some (.ref 7), some (.ref 1), some (.int 0), some (.int 0), none, none]) (n := 4) d_Ed_assignModules_3 rfl rfl rfl rfl ?_
  refine zr_iconst (v := 0) (n := 5) d_Ed_assignModules_4 rfl (by decide) ?_
  refine zr_istore (i := 4) (L' := [some (.ref 7), some (.ref 1), some (.int 0), some (.int 0), some (.int 0), none]) (n := 7) d_Ed_assignModules_5 rfl rfl rfl ?_
  exact l1
theorem s_Ed_assignModules_7 {d : Nat} {Q : zm_Q} {S : zm_S} {a2 a3 a4 : Int32} (j1 : Nat) (o1 : ¬ (S 7 6) ≤ a4 → zm_ix a4 j1 12)
    (l1 : (S 7 6) ≤ a4 → Q (some (a2 + 1)) GG S)
    (l2 : ¬ (S 7 6) ≤ a4 → zc M_Tree_messageLength (d + 1) [.ref 1, .int (S 11 j1)] S (fun v G' S' => zm_WP M_Ed_assignModules none (d + 2) 0 0 Q 28 [some (.ref 7), some (.ref 1), some (.int a2), some (.int a3), some (.int a4), none] (zm_ps v [.int 3]) G' S' 0 0)) :
    zw M_Ed_assignModules (d + 2) Q 7 [some (.ref 7), some (.ref 1), some (.int a2), some (.int a3), some (.int a4), none] [] S := by
  refine zr_iload (i := 4) (x := a4) (n := 9) d_Ed_assignModules_7 rfl rfl ?_
  refine zr_aload_n (i := 0) (x := 7) (n := 10) d_Ed_assignModules_9 rfl rfl rfl ?_
  refine zr_geti (n := 13) d_Ed_assignModules_10 rfl f_Ed_31 gg_7 rfl ?_
  refine zr_icmp_ge (tgt := 74) (n := 16) d_Ed_assignModules_13 rfl (by decide) (fun h1 => ?_) (fun h1 => ?_)
  · refine zr_iload_n (i := 2) (x := a2) (n := 75) d_Ed_assignModules_74 rfl rfl rfl ?_
    refine zr_iconst (v := 1) (n := 76) d_Ed_assignModules_75 rfl (by decide) ?_
    refine zr_iadd (n := 77) d_Ed_assignModules_76 rfl ?_
    exact zr_ireturn d_Ed_assignModules_77 rfl rfl (Nat.le_refl _) (Nat.le_refl _) (l1 h1)
  · refine zr_iconst (v := 3) (n := 17) d_Ed_assignModules_16 rfl (by decide) ?_
    refine zr_aload_n (i := 1) (x := 1) (n := 18) d_Ed_assignModules_17 rfl rfl rfl ?_
    refine zr_aload_n (i := 0) (x := 7) (n := 19) d_Ed_assignModules_18 rfl rfl rfl ?_
    refine zr_getr (n := 22) d_Ed_assignModules_19 rfl f_Ed_28 gg_7 rfl ?_
    refine zr_iload (i := 4) (x := a4) (n := 24) d_Ed_assignModules_22 rfl rfl ?_
    refine zr_iaload j1 (n := 25) d_Ed_assignModules_24 rfl gg_11 (o1 h1) ?_
    refine zr_callV (M' := M_Tree_messageLength) (mc' := 0) (ms' := 0) (av := [.int (S 11 j1)]) (rest := [.int 3]) (n := 28) d_Ed_assignModules_25 rfl w_Ed_65 w_Ed_65k gg_1 rfl rfl rfl rfl rfl rfl (Nat.le_refl _) (Nat.le_refl _) ?_
    exact (l2 h1)
theorem s_Ed_assignModules_28 {d : Nat} {Q : zm_Q} {S : zm_S} {a2 a3 a4 b0 r : Int32} (j1 : Nat) (j2 : Nat) (o1 : a4 ≤ 0 → zm_ix a4 j1 12) (o2 : a4 ≤ 0 → zm_ix (S 11 j1) j2 12) (o3 : ¬ a4 ≤ 0 → (a3 + (b0 + r)) ≤ 24 → zm_ix a4 j1 12) (o4 : ¬ a4 ≤ 0 → (a3 + (b0 + r)) ≤ 24 → zm_ix (S 11 j1) j2 12) (o5 : ¬ a4 ≤ 0 → ¬ (a3 + (b0 + r)) ≤ 24 → zm_ix a4 j1 12) (o6 : ¬ a4 ≤ 0 → ¬ (a3 + (b0 + r)) ≤ 24 → zm_ix (S 11 j1) j2 12)
    (l1 : ((a4 ≤ 0) ∨ (¬ a4 ≤ 0 ∧ (a3 + (b0 + r)) ≤ 24)) → zw M_Ed_assignModules (d + 2) Q 7 [some (.ref 7), some (.ref 1), some (.int a2), some (.int (a3 + (b0 + r))), some (.int (a4 + 1)), none] [] (zm_up S 12 j2 a2))
    (l2 : ¬ a4 ≤ 0 → ¬ (a3 + (b0 + r)) ≤ 24 → zw M_Ed_assignModules (d + 2) Q 7 [some (.ref 7), some (.ref 1), some (.int (a2 + 1)), some (.int (0 + (b0 + r))), some (.int (a4 + 1)), none] [] (zm_up S 12 j2 (a2 + 1))) :
    zw M_Ed_assignModules (d + 2) Q 28 [some (.ref 7), some (.ref 1), some (.int a2), some (.int a3), some (.int a4), none] [.int r, .int b0] S := by
  refine zr_iadd (n := 29) d_Ed_assignModules_28 rfl ?_
  refine zr_istore (i := 5) (L' := [some (.ref 7), some (.ref 1), some (.int a2), some (.int a3), some (.int a4), some (.int (b0 + r))]) (n := 31) d_Ed_assignModules_29 rfl rfl rfl ?_
  refine zr_iload (i := 4) (x := a4) (n := 33) d_Ed_assignModules_31 rfl rfl ?_
  refine zr_if_le (tgt := 50) (n := 36) d_Ed_assignModules_33 rfl (by decide) (fun h1 => ?_) (fun h1 => ?_)
  · refine zr_aload_n (i := 0) (x := 7) (n := 51) d_Ed_assignModules_50 rfl rfl rfl ?_
    refine zr_getr (n := 54) d_Ed_assignModules_51 rfl f_Ed_34 gg_7 rfl ?_
    refine zr_aload_n (i := 0) (x := 7) (n := 55) d_Ed_assignModules_54 rfl rfl rfl ?_
    refine zr_getr (n := 58) d_Ed_assignModules_55 rfl f_Ed_28 gg_7 rfl ?_
    refine zr_iload (i := 4) (x := a4) (n := 60) d_Ed_assignModules_58 rfl rfl ?_
    refine zr_iaload j1 (n := 61) d_Ed_assignModules_60 rfl gg_11 (o1 h1) ?_
    refine zr_iload_n (i := 2) (x := a2) (n := 62) d_Ed_assignModules_61 rfl rfl rfl ?_
    refine zr_iastore j2 (n := 63) d_Ed_assignModules_62 rfl gg_12 (o2 h1) ?_
    refine zr_iload_n (i := 3) (x := a3) (n := 64) d_Ed_assignModules_63 rfl rfl rfl ?_
    refine zr_iload (i := 5) (x := (b0 + r)) (n := 66) d_Ed_assignModules_64 rfl rfl ?_
    refine zr_iadd (n := 67) d_Ed_assignModules_66 rfl ?_
    refine zr_istore_n (i := 3) (L' := [some (.ref 7), some (.ref 1), some (.int a2), some (.int (a3 + (b0 + r))), some (.int a4), some (.int (b0 + r))]) (n := 68) d_Ed_assignModules_67 rfl rfl rfl rfl ?_
    refine zr_iinc (i := 4) (w := 1) (x := a4) (L' := [some (.ref 7), some (.ref 1), some (.int a2), some (.int (a3 + (b0 + r))), some (.int (a4 + 1)), some (.int (b0 + r))]) (n := 71) d_Ed_assignModules_68 rfl (by decide) rfl rfl ?_
    refine zr_goto (tgt := 7) d_Ed_assignModules_71 (by decide) ?_
    exact zr_weak (zm_LE.cons (zm_LE.cons (zm_LE.cons (zm_LE.cons (zm_LE.cons (zm_LE.skip zm_LE.nil)))))) (l1 (Or.inl h1))
  · refine zr_iload_n (i := 3) (x := a3) (n := 37) d_Ed_assignModules_36 rfl rfl rfl ?_
    refine zr_iload (i := 5) (x := (b0 + r)) (n := 39) d_Ed_assignModules_37 rfl rfl ?_
    refine zr_iadd (n := 40) d_Ed_assignModules_39 rfl ?_
    refine zr_bipush (v := 24) (n := 42) d_Ed_assignModules_40 rfl (by decide) ?_
    refine zr_icmp_le (tgt := 50) (n := 45) d_Ed_assignModules_42 rfl (by decide) (fun h2 => ?_) (fun h2 => ?_)
    · refine zr_aload_n (i := 0) (x := 7) (n := 51) d_Ed_assignModules_50 rfl rfl rfl ?_
      refine zr_getr (n := 54) d_Ed_assignModules_51 rfl f_Ed_34 gg_7 rfl ?_
      refine zr_aload_n (i := 0) (x := 7) (n := 55) d_Ed_assignModules_54 rfl rfl rfl ?_
      refine zr_getr (n := 58) d_Ed_assignModules_55 rfl f_Ed_28 gg_7 rfl ?_
      refine zr_iload (i := 4) (x := a4) (n := 60) d_Ed_assignModules_58 rfl rfl ?_
      refine zr_iaload j1 (n := 61) d_Ed_assignModules_60 rfl gg_11 (o3 h1 h2) ?_
      refine zr_iload_n (i := 2) (x := a2) (n := 62) d_Ed_assignModules_61 rfl rfl rfl ?_
      refine zr_iastore j2 (n := 63) d_Ed_assignModules_62 rfl gg_12 (o4 h1 h2) ?_
      refine zr_iload_n (i := 3) (x := a3) (n := 64) d_Ed_assignModules_63 rfl rfl rfl ?_
      refine zr_iload (i := 5) (x := (b0 + r)) (n := 66) d_Ed_assignModules_64 rfl rfl ?_
      refine zr_iadd (n := 67) d_Ed_assignModules_66 rfl ?_
      refine zr_istore_n (i := 3) (L' := [some (.ref 7), some (.ref 1), some (.int a2), some (.int (a3 + (b0 + r))), some (.int a4), some (.int (b0 + r))]) (n := 68) d_Ed_assignModules_67 rfl rfl rfl rfl ?_
      refine zr_iinc (i := 4) (w := 1) (x := a4) (L' := [some (.ref 7), some (.ref 1), some (.int a2), some (.int (a3 + (b0 + r))), some (.int (a4 + 1)), some (.int (b0 + r))]) (n := 71) d_Ed_assignModules_68 rfl (by decide) rfl rfl ?_
      refine zr_goto (tgt := 7) d_Ed_assignModules_71 (by decide) ?_
      exact zr_weak (zm_LE.cons (zm_LE.cons (zm_LE.cons (zm_LE.cons (zm_LE.cons (zm_LE.skip zm_LE.nil)))))) (l1 (Or.inr ⟨h1, h2⟩))
    · refine zr_iinc (i := 2) (w := 1) (x := a2) (L' := [some (.ref 7), some (.ref 1), some (.int (a2 + 1)), some (.int a3), some (.int a4), some (.int (b0 + r))]) (n := 48) d_Ed_assignModules_45 rfl (by decide) rfl rfl ?_
      refine zr_iconst (v := 0) (n := 49) d_Ed_assignModules_48 rfl (by decide) ?_
      refine zr_istore_n (i := 3) (L' := [some (.ref 7), some (.ref 1), some (.int (a2 + 1)), some (.int 0), some (.int a4), some (.int (b0 + r))]) (n := 50) d_Ed_assignModules_49 rfl rfl rfl rfl ?_
      refine zr_aload_n (i := 0) (x := 7) (n := 51) d_Ed_assignModules_50 rfl rfl rfl ?_
      refine zr_getr (n := 54) d_Ed_assignModules_51 rfl f_Ed_34 gg_7 rfl ?_
      refine zr_aload_n (i := 0) (x := 7) (n := 55) d_Ed_assignModules_54 rfl rfl rfl ?_
      refine zr_getr (n := 58) d_Ed_assignModules_55 rfl f_Ed_28 gg_7 rfl ?_
      refine zr_iload (i := 4) (x := a4) (n := 60) d_Ed_assignModules_58 rfl rfl ?_
      refine zr_iaload j1 (n := 61) d_Ed_assignModules_60 rfl gg_11 (o5 h1 h2) ?_
      refine zr_iload_n (i := 2) (x := (a2 + 1)) (n := 62) d_Ed_assignModules_61 rfl rfl rfl ?_
      refine zr_iastore j2 (n := 63) d_Ed_assignModules_62 rfl gg_12 (o6 h1 h2) ?_
      refine zr_iload_n (i := 3) (x := 0) (n := 64) d_Ed_assignModules_63 rfl rfl rfl ?_
      refine zr_iload (i := 5) (x := (b0 + r)) (n := 66) d_Ed_assignModules_64 rfl rfl ?_
      refine zr_iadd (n := 67) d_Ed_assignModules_66 rfl ?_
      refine zr_istore_n (i := 3) (L' := [some (.ref 7), some (.ref 1), some (.int (a2 + 1)), some (.int (0 + (b0 + r))), some (.int a4), some (.int (b0 + r))]) (n := 68) d_Ed_assignModules_67 rfl rfl rfl rfl ?_
      refine zr_iinc (i := 4) (w := 1) (x := a4) (L' := [some (.ref 7), some (.ref 1), some (.int (a2 + 1)), some (.int (0 + (b0 + r))), some (.int (a4 + 1)), some (.int (b0 + r))]) (n := 71) d_Ed_assignModules_68 rfl (by decide) rfl rfl ?_
      refine zr_goto (tgt := 7) d_Ed_assignModules_71 (by decide) ?_
      exact zr_weak (zm_LE.cons (zm_LE.cons (zm_LE.cons (zm_LE.cons (zm_LE.cons (zm_LE.skip zm_LE.nil)))))) (l2 h1 h2)
theorem e_Ed_assignModules {d : Nat} {Q : zm_Q} {S : zm_S} (h : zw M_Ed_assignModules (d + 2) Q 0 [some (.ref 7), some (.ref 1), none, none, none, none] [] S) : zc M_Ed_assignModules (d + 2) [.ref 7, .ref 1] S Q := zm_CC_intro (by decide) rfl rfl h
theorem s_Ed_draftModule_0 {d : Nat} {Q : zm_Q} {S : zm_S} {a2 : Int32}
    (l1 : zw M_Ed_draftModule (d + 3) Q 7 [some (.ref 7), some (.ref 1), some (.int a2), some (.int 0)] [] (zm_up S 7 9 0)) :
    zw M_Ed_draftModule (d + 3) Q 0 [some (.ref 7), some (.ref 1), some (.int a2), none] [] S := by
  refine zr_aload_n (i := 0) (x := 7) (n := 1) d_Ed_draftModule_0 rfl rfl rfl ?_
  refine zr_iconst (v := 0) (n := 2) d_Ed_draftModule_1 rfl (by decide) ?_
  refine zr_puti (n := 5) d_Ed_draftModule_2 rfl f_Ed_40 tw_Ed rfl rfl rfl rfl gg_7 rfl ?_
  refine zr_iconst (v := 0) (n := 6) d_Ed_draftModule_5 rfl (by decide) ?_
  refine zr_istore_n (i := 3) (L' := [some (.ref 7), some (.ref 1), some (.int a2), some (.int 0)]) (n := 7) d_Ed_draftModule_6 rfl rfl rfl rfl ?_
  exact l1
theorem s_Ed_draftModule_7 {d : Nat} {Q : zm_Q} {S : zm_S} {a2 a3 : Int32} (j1 : Nat) (j2 : Nat) (o1 : ¬ (S 7 6) ≤ a3 → zm_ix a3 j1 12) (o2 : ¬ (S 7 6) ≤ a3 → zm_ix (S 11 j1) j2 12)
    (l1 : (S 7 6) ≤ a3 → Q none GG S)
    (l2 : ¬ (S 7 6) ≤ a3 → ¬ (S 12 j2) = a2 → zw M_Ed_draftModule (d + 3) Q 7 [some (.ref 7), some (.ref 1), some (.int a2), some (.int (a3 + 1))] [] S)
    (l3 : ¬ (S 7 6) ≤ a3 → (S 12 j2) = a2 → zc M_Ed_draftMessage (d + 2) [.ref 7, .ref 1, .int (S 11 j1)] S (fun v G' S' => zm_WP M_Ed_draftModule none (d + 3) 0 0 Q 41 [some (.ref 7), some (.ref 1), some (.int a2), some (.int a3)] (zm_ps v []) G' S' 0 0)) :
    zw M_Ed_draftModule (d + 3) Q 7 [some (.ref 7), some (.ref 1), some (.int a2), some (.int a3)] [] S := by
  refine zr_iload_n (i := 3) (x := a3) (n := 8) d_Ed_draftModule_7 rfl rfl rfl ?_
  refine zr_aload_n (i := 0) (x := 7) (n := 9) d_Ed_draftModule_8 rfl rfl rfl ?_
  refine zr_geti (n := 12) d_Ed_draftModule_9 rfl f_Ed_31 gg_7 rfl ?_
  refine zr_icmp_ge (tgt := 47) (n := 15) d_Ed_draftModule_12 rfl (by decide) (fun h1 => ?_) (fun h1 => ?_)
  · exact zr_return d_Ed_draftModule_47 rfl (Nat.le_refl _) (Nat.le_refl _) (l1 h1)
  · refine zr_aload_n (i := 0) (x := 7) (n := 16) d_Ed_draftModule_15 rfl rfl rfl ?_
    refine zr_getr (n := 19) d_Ed_draftModule_16 rfl f_Ed_34 gg_7 rfl ?_
    refine zr_aload_n (i := 0) (x := 7) (n := 20) d_Ed_draftModule_19 rfl rfl rfl ?_
    refine zr_getr (n := 23) d_Ed_draftModule_20 rfl f_Ed_28 gg_7 rfl ?_
    refine zr_iload_n (i := 3) (x := a3) (n := 24) d_Ed_draftModule_23 rfl rfl rfl ?_
    refine zr_iaload j1 (n := 25) d_Ed_draftModule_24 rfl gg_11 (o1 h1) ?_
    refine zr_iaload j2 (n := 26) d_Ed_draftModule_25 rfl gg_12 (o2 h1) ?_
    refine zr_iload_n (i := 2) (x := a2) (n := 27) d_Ed_draftModule_26 rfl rfl rfl ?_
    refine zr_icmp_ne (tgt := 41) (n := 30) d_Ed_draftModule_27 rfl (by decide) (fun h2 => ?_) (fun h2 => ?_)
    · refine zr_iinc (i := 3) (w := 1) (x := a3) (L' := [some (.ref 7), some (.ref 1), some (.int a2), some (.int (a3 + 1))]) (n := 44) d_Ed_draftModule_41 rfl (by decide) rfl rfl ?_
      refine zr_goto (tgt := 7) d_Ed_draftModule_44 (by decide) ?_
      exact (l2 h1 h2)
    · refine zr_aload_n (i := 0) (x := 7) (n := 31) d_Ed_draftModule_30 rfl rfl rfl ?_
      refine zr_aload_n (i := 1) (x := 1) (n := 32) d_Ed_draftModule_31 rfl rfl rfl ?_
      refine zr_aload_n (i := 0) (x := 7) (n := 33) d_Ed_draftModule_32 rfl rfl rfl ?_
      refine zr_getr (n := 36) d_Ed_draftModule_33 rfl f_Ed_28 gg_7 rfl ?_
      refine zr_iload_n (i := 3) (x := a3) (n := 37) d_Ed_draftModule_36 rfl rfl rfl ?_
      refine zr_iaload j1 (n := 38) d_Ed_draftModule_37 rfl gg_11 (o1 h1) ?_
      refine zr_callV (M' := M_Ed_draftMessage) (mc' := 0) (ms' := 0) (av := [.ref 1, .int (S 11 j1)]) (rest := []) (n := 41) d_Ed_draftModule_38 rfl w_Ed_68 w_Ed_68k gg_7 rfl rfl rfl rfl rfl rfl (Nat.le_refl _) (Nat.le_refl _) ?_
      exact (l3 h1 h2)
theorem s_Ed_draftModule_41 {d : Nat} {Q : zm_Q} {S : zm_S} {a2 a3 : Int32}
    (l1 : zw M_Ed_draftModule (d + 3) Q 7 [some (.ref 7), some (.ref 1), some (.int a2), some (.int (a3 + 1))] [] S) :
    zw M_Ed_draftModule (d + 3) Q 41 [some (.ref 7), some (.ref 1), some (.int a2), some (.int a3)] [] S := by
  refine zr_iinc (i := 3) (w := 1) (x := a3) (L' := [some (.ref 7), some (.ref 1), some (.int a2), some (.int (a3 + 1))]) (n := 44) d_Ed_draftModule_41 rfl (by decide) rfl rfl ?_
  refine zr_goto (tgt := 7) d_Ed_draftModule_44 (by decide) ?_
  exact l1
theorem e_Ed_draftModule {d : Nat} {Q : zm_Q} {S : zm_S} {a2 : Int32} (h : zw M_Ed_draftModule (d + 3) Q 0 [some (.ref 7), some (.ref 1), some (.int a2), none] [] S) : zc M_Ed_draftModule (d + 3) [.ref 7, .ref 1, .int a2] S Q := zm_CC_intro (by decide) rfl rfl h
theorem s_Ed_draftMessage_0 {d : Nat} {Q : zm_Q} {S : zm_S} {a2 : Int32} (j1 : Nat) (o1 : zm_ix a2 j1 12)
    (l1 : zc M_Ed_write (d + 1) [.ref 7, .int (S 2 j1)] S (fun v G' S' => zm_WP M_Ed_draftMessage none (d + 2) 0 0 Q 9 [some (.ref 7), some (.ref 1), some (.int a2), none] (zm_ps v []) G' S' 0 0)) :
    zw M_Ed_draftMessage (d + 2) Q 0 [some (.ref 7), some (.ref 1), some (.int a2), none] [] S := by
  refine zr_aload_n (i := 0) (x := 7) (n := 1) d_Ed_draftMessage_0 rfl rfl rfl ?_
  refine zr_aload_n (i := 1) (x := 1) (n := 2) d_Ed_draftMessage_1 rfl rfl rfl ?_
  refine zr_iload_n (i := 2) (x := a2) (n := 3) d_Ed_draftMessage_2 rfl rfl rfl ?_
  refine zr_callV (M' := M_Tree_kindOf) (mc' := 0) (ms' := 0) (av := [.int a2]) (rest := [.ref 7]) (n := 6) d_Ed_draftMessage_3 rfl w_Ed_71 w_Ed_71k gg_1 rfl rfl rfl rfl rfl rfl (Nat.le_refl _) (Nat.le_refl _) ?_
  refine c_Tree_kindOf (a1 := a2) j1 o1 ?_
  refine zr_callV (M' := M_Ed_write) (mc' := 0) (ms' := 0) (av := [.int (S 2 j1)]) (rest := []) (n := 9) d_Ed_draftMessage_6 rfl w_Ed_74 w_Ed_74k gg_7 rfl rfl rfl rfl rfl rfl (Nat.le_refl _) (Nat.le_refl _) ?_
  exact l1
theorem s_Ed_draftMessage_9 {d : Nat} {Q : zm_Q} {S : zm_S} {a2 : Int32}
    (l1 : zc M_Ed_write (d + 1) [.ref 7, .int a2] S (fun v G' S' => zm_WP M_Ed_draftMessage none (d + 2) 0 0 Q 14 [some (.ref 7), some (.ref 1), some (.int a2), none] (zm_ps v []) G' S' 0 0)) :
    zw M_Ed_draftMessage (d + 2) Q 9 [some (.ref 7), some (.ref 1), some (.int a2), none] [] S := by
  refine zr_aload_n (i := 0) (x := 7) (n := 10) d_Ed_draftMessage_9 rfl rfl rfl ?_
  refine zr_iload_n (i := 2) (x := a2) (n := 11) d_Ed_draftMessage_10 rfl rfl rfl ?_
  refine zr_callV (M' := M_Ed_write) (mc' := 0) (ms' := 0) (av := [.int a2]) (rest := []) (n := 14) d_Ed_draftMessage_11 rfl w_Ed_74 w_Ed_74k gg_7 rfl rfl rfl rfl rfl rfl (Nat.le_refl _) (Nat.le_refl _) ?_
  exact l1
theorem s_Ed_draftMessage_14 {d : Nat} {Q : zm_Q} {S : zm_S} {a2 : Int32}
    (l1 : zc M_Tree_messageLength (d + 1) [.ref 1, .int a2] S (fun v G' S' => zm_WP M_Ed_draftMessage none (d + 2) 0 0 Q 20 [some (.ref 7), some (.ref 1), some (.int a2), none] (zm_ps v [.ref 7]) G' S' 0 0)) :
    zw M_Ed_draftMessage (d + 2) Q 14 [some (.ref 7), some (.ref 1), some (.int a2), none] [] S := by
  refine zr_aload_n (i := 0) (x := 7) (n := 15) d_Ed_draftMessage_14 rfl rfl rfl ?_
  refine zr_aload_n (i := 1) (x := 1) (n := 16) d_Ed_draftMessage_15 rfl rfl rfl ?_
  refine zr_iload_n (i := 2) (x := a2) (n := 17) d_Ed_draftMessage_16 rfl rfl rfl ?_
  refine zr_callV (M' := M_Tree_messageLength) (mc' := 0) (ms' := 0) (av := [.int a2]) (rest := [.ref 7]) (n := 20) d_Ed_draftMessage_17 rfl w_Ed_65 w_Ed_65k gg_1 rfl rfl rfl rfl rfl rfl (Nat.le_refl _) (Nat.le_refl _) ?_
  exact l1
theorem s_Ed_draftMessage_20 {d : Nat} {Q : zm_Q} {S : zm_S} {a2 r : Int32}
    (l1 : zc M_Ed_write (d + 1) [.ref 7, .int r] S (fun v G' S' => zm_WP M_Ed_draftMessage none (d + 2) 0 0 Q 23 [some (.ref 7), some (.ref 1), some (.int a2), none] (zm_ps v []) G' S' 0 0)) :
    zw M_Ed_draftMessage (d + 2) Q 20 [some (.ref 7), some (.ref 1), some (.int a2), none] [.int r, .ref 7] S := by
  refine zr_callV (M' := M_Ed_write) (mc' := 0) (ms' := 0) (av := [.int r]) (rest := []) (n := 23) d_Ed_draftMessage_20 rfl w_Ed_74 w_Ed_74k gg_7 rfl rfl rfl rfl rfl rfl (Nat.le_refl _) (Nat.le_refl _) ?_
  exact l1
theorem s_Ed_draftMessage_23 {d : Nat} {Q : zm_Q} {S : zm_S} {a2 : Int32} (j1 : Nat) (o1 : zm_ix a2 j1 12)
    (l1 : ¬ (S 2 j1) = 3 → zc M_Ed_draftEntries (d + 1) [.ref 7, .ref 1, .int a2] S (fun v G' S' => zm_WP M_Ed_draftMessage none (d + 2) 0 0 Q 67 [none, none, none, none] (zm_ps v []) G' S' 0 0))
    (l2 : (S 2 j1) = 3 → zw M_Ed_draftMessage (d + 2) Q 33 [some (.ref 7), some (.ref 1), some (.int a2), some (.int 0)] [] S) :
    zw M_Ed_draftMessage (d + 2) Q 23 [some (.ref 7), some (.ref 1), some (.int a2), none] [] S := by
  refine zr_aload_n (i := 1) (x := 1) (n := 24) d_Ed_draftMessage_23 rfl rfl rfl ?_
  refine zr_iload_n (i := 2) (x := a2) (n := 25) d_Ed_draftMessage_24 rfl rfl rfl ?_
  refine zr_callV (M' := M_Tree_isFile) (mc' := 0) (ms' := 0) (av := [.int a2]) (rest := []) (n := 28) d_Ed_draftMessage_25 rfl w_Ed_77 w_Ed_77k gg_1 rfl rfl rfl rfl rfl rfl (Nat.le_refl _) (Nat.le_refl _) ?_
  refine c_Tree_isFile (a1 := a2) j1 o1 (fun h1 => ?_) (fun h2 => ?_)
  · refine zr_if_eq (tgt := 61) (n := 31) d_Ed_draftMessage_28 rfl (by decide) (fun _ => ?_) (fun h => absurd h (by decide))
    refine zr_aload_n (i := 0) (x := 7) (n := 62) d_Ed_draftMessage_61 rfl rfl rfl ?_
    refine zr_aload_n (i := 1) (x := 1) (n := 63) d_Ed_draftMessage_62 rfl rfl rfl ?_
    refine zr_iload_n (i := 2) (x := a2) (n := 64) d_Ed_draftMessage_63 rfl rfl rfl ?_
    refine zr_weak (zm_LE.skip (zm_LE.skip (zm_LE.skip (zm_LE.cons zm_LE.nil)))) ?_
    refine zr_callV (M' := M_Ed_draftEntries) (mc' := 0) (ms' := 0) (av := [.ref 1, .int a2]) (rest := []) (n := 67) d_Ed_draftMessage_64 rfl w_Ed_88 w_Ed_88k gg_7 rfl rfl rfl rfl rfl rfl (Nat.le_refl _) (Nat.le_refl _) ?_
    exact (l1 h1)
  · refine zr_if_eq (tgt := 61) (n := 31) d_Ed_draftMessage_28 rfl (by decide) (fun h => absurd h (by decide)) (fun _ => ?_)
    refine zr_iconst (v := 0) (n := 32) d_Ed_draftMessage_31 rfl (by decide) ?_
    refine zr_istore_n (i := 3) (L' := [some (.ref 7), some (.ref 1), some (.int a2), some (.int 0)]) (n := 33) d_Ed_draftMessage_32 rfl rfl rfl rfl ?_
    exact (l2 h2)
theorem s_Ed_draftMessage_67 {d : Nat} {Q : zm_Q} {S : zm_S}
    (l1 : Q none GG S) :
    zw M_Ed_draftMessage (d + 2) Q 67 [none, none, none, none] [] S := by
  exact zr_return d_Ed_draftMessage_67 rfl (Nat.le_refl _) (Nat.le_refl _) l1
theorem s_Ed_draftMessage_33 {d : Nat} {Q : zm_Q} {S : zm_S} {a2 a3 : Int32} (j1 : Nat) (j2 : Nat) (o1 : zm_ix a2 j1 12) (o2 : ¬ (S 5 j1) ≤ a3 → zm_ix ((a2 * 12) + a3) j2 144)
    (l1 : (S 5 j1) ≤ a3 → Q none GG S)
    (l2 : ¬ (S 5 j1) ≤ a3 → zc M_Ed_write (d + 1) [.ref 7, .int (S 6 j2)] S (fun v G' S' => zm_WP M_Ed_draftMessage none (d + 2) 0 0 Q 52 [some (.ref 7), some (.ref 1), some (.int a2), some (.int a3)] (zm_ps v []) G' S' 0 0)) :
    zw M_Ed_draftMessage (d + 2) Q 33 [some (.ref 7), some (.ref 1), some (.int a2), some (.int a3)] [] S := by
  refine zr_iload_n (i := 3) (x := a3) (n := 34) d_Ed_draftMessage_33 rfl rfl rfl ?_
  refine zr_aload_n (i := 1) (x := 1) (n := 35) d_Ed_draftMessage_34 rfl rfl rfl ?_
  refine zr_iload_n (i := 2) (x := a2) (n := 36) d_Ed_draftMessage_35 rfl rfl rfl ?_
  refine zr_callV (M' := M_Tree_fileLength) (mc' := 0) (ms' := 0) (av := [.int a2]) (rest := [.int a3]) (n := 39) d_Ed_draftMessage_36 rfl w_Ed_81 w_Ed_81k gg_1 rfl rfl rfl rfl rfl rfl (Nat.le_refl _) (Nat.le_refl _) ?_
  refine c_Tree_fileLength (a1 := a2) j1 o1 ?_
  refine zr_icmp_ge (tgt := 58) (n := 42) d_Ed_draftMessage_39 rfl (by decide) (fun h1 => ?_) (fun h1 => ?_)
  · refine zr_goto (tgt := 67) d_Ed_draftMessage_58 (by decide) ?_
    exact zr_return d_Ed_draftMessage_67 rfl (Nat.le_refl _) (Nat.le_refl _) (l1 h1)
  · refine zr_aload_n (i := 0) (x := 7) (n := 43) d_Ed_draftMessage_42 rfl rfl rfl ?_
    refine zr_aload_n (i := 1) (x := 1) (n := 44) d_Ed_draftMessage_43 rfl rfl rfl ?_
    refine zr_iload_n (i := 2) (x := a2) (n := 45) d_Ed_draftMessage_44 rfl rfl rfl ?_
    refine zr_iload_n (i := 3) (x := a3) (n := 46) d_Ed_draftMessage_45 rfl rfl rfl ?_
    refine zr_callV (M' := M_Tree_fileByte) (mc' := 0) (ms' := 0) (av := [.int a2, .int a3]) (rest := [.ref 7]) (n := 49) d_Ed_draftMessage_46 rfl w_Ed_84 w_Ed_84k gg_1 rfl rfl rfl rfl rfl rfl (Nat.le_refl _) (Nat.le_refl _) ?_
    refine c_Tree_fileByte (a1 := a2) (a2 := a3) j2 (o2 h1) ?_
    refine zr_callV (M' := M_Ed_write) (mc' := 0) (ms' := 0) (av := [.int (S 6 j2)]) (rest := []) (n := 52) d_Ed_draftMessage_49 rfl w_Ed_74 w_Ed_74k gg_7 rfl rfl rfl rfl rfl rfl (Nat.le_refl _) (Nat.le_refl _) ?_
    exact (l2 h1)
theorem s_Ed_draftMessage_52 {d : Nat} {Q : zm_Q} {S : zm_S} {a2 a3 : Int32}
    (l1 : zw M_Ed_draftMessage (d + 2) Q 33 [some (.ref 7), some (.ref 1), some (.int a2), some (.int (a3 + 1))] [] S) :
    zw M_Ed_draftMessage (d + 2) Q 52 [some (.ref 7), some (.ref 1), some (.int a2), some (.int a3)] [] S := by
  refine zr_iinc (i := 3) (w := 1) (x := a3) (L' := [some (.ref 7), some (.ref 1), some (.int a2), some (.int (a3 + 1))]) (n := 55) d_Ed_draftMessage_52 rfl (by decide) rfl rfl ?_
  refine zr_goto (tgt := 33) d_Ed_draftMessage_55 (by decide) ?_
  exact l1
theorem e_Ed_draftMessage {d : Nat} {Q : zm_Q} {S : zm_S} {a2 : Int32} (h : zw M_Ed_draftMessage (d + 2) Q 0 [some (.ref 7), some (.ref 1), some (.int a2), none] [] S) : zc M_Ed_draftMessage (d + 2) [.ref 7, .ref 1, .int a2] S Q := zm_CC_intro (by decide) rfl rfl h
theorem s_Ed_draftEntries_0 {d : Nat} {Q : zm_Q} {S : zm_S} {a2 : Int32}
    (l1 : zc M_Tree_entryAfter d [.ref 1, .int a2, .int 0] S (fun v G' S' => zm_WP M_Ed_draftEntries none (d + 1) 0 0 Q 6 [some (.ref 7), some (.ref 1), some (.int a2), none, none] (zm_ps v []) G' S' 0 0)) :
    zw M_Ed_draftEntries (d + 1) Q 0 [some (.ref 7), some (.ref 1), some (.int a2), none, none] [] S := by
  refine zr_aload_n (i := 1) (x := 1) (n := 1) d_Ed_draftEntries_0 rfl rfl rfl ?_
  refine zr_iload_n (i := 2) (x := a2) (n := 2) d_Ed_draftEntries_1 rfl rfl rfl ?_
  refine zr_iconst (v := 0) (n := 3) d_Ed_draftEntries_2 rfl (by decide) ?_
  refine zr_callV (M' := M_Tree_entryAfter) (mc' := 0) (ms' := 0) (av := [.int a2, .int 0]) (rest := []) (n := 6) d_Ed_draftEntries_3 rfl w_Ed_91 w_Ed_91k gg_1 rfl rfl rfl rfl rfl rfl (Nat.le_refl _) (Nat.le_refl _) ?_
  exact l1
theorem s_Ed_draftEntries_6 {d : Nat} {Q : zm_Q} {S : zm_S} {a2 r : Int32}
    (l1 : zw M_Ed_draftEntries (d + 1) Q 10 [some (.ref 7), some (.ref 1), some (.int a2), some (.int r), some (.int 0)] [] S) :
    zw M_Ed_draftEntries (d + 1) Q 6 [some (.ref 7), some (.ref 1), some (.int a2), none, none] [.int r] S := by
  refine zr_istore_n (i := 3) (L' := [some (.ref 7), some (.ref 1), some (.int a2), some (.int r), none]) (n := 7) d_Ed_draftEntries_6 rfl rfl rfl rfl ?_
  refine zr_iconst (v := 0) (n := 8) d_Ed_draftEntries_7 rfl (by decide) ?_
  refine zr_istore (i := 4) (L' := [some (.ref 7), some (.ref 1), some (.int a2), some (.int r), some (.int 0)]) (n := 10) d_Ed_draftEntries_8 rfl rfl rfl ?_
  exact l1
theorem s_Ed_draftEntries_10 {d : Nat} {Q : zm_Q} {S : zm_S} {a2 a3 a4 : Int32} (j1 : Nat) (o1 : ¬ 12 ≤ a4 → ¬ a3 = (-1) → zm_ix a3 j1 12)
    (l1 : ((12 ≤ a4) ∨ (¬ 12 ≤ a4 ∧ a3 = (-1))) → Q none GG S)
    (l2 : ¬ 12 ≤ a4 → ¬ a3 = (-1) → zc M_Ed_write d [.ref 7, .int (S 4 j1)] S (fun v G' S' => zm_WP M_Ed_draftEntries none (d + 1) 0 0 Q 31 [some (.ref 7), some (.ref 1), some (.int a2), some (.int a3), some (.int a4)] (zm_ps v []) G' S' 0 0)) :
    zw M_Ed_draftEntries (d + 1) Q 10 [some (.ref 7), some (.ref 1), some (.int a2), some (.int a3), some (.int a4)] [] S := by
  refine zr_iload (i := 4) (x := a4) (n := 12) d_Ed_draftEntries_10 rfl rfl ?_
  refine zr_bipush (v := 12) (n := 14) d_Ed_draftEntries_12 rfl (by decide) ?_
  refine zr_icmp_ge (tgt := 72) (n := 17) d_Ed_draftEntries_14 rfl (by decide) (fun h1 => ?_) (fun h1 => ?_)
  · exact zr_return d_Ed_draftEntries_72 rfl (Nat.le_refl _) (Nat.le_refl _) (l1 (Or.inl h1))
  · refine zr_iload_n (i := 3) (x := a3) (n := 18) d_Ed_draftEntries_17 rfl rfl rfl ?_
    refine zr_iconst (v := (-1)) (n := 19) d_Ed_draftEntries_18 rfl (by decide) ?_
    refine zr_icmp_eq (tgt := 72) (n := 22) d_Ed_draftEntries_19 rfl (by decide) (fun h2 => ?_) (fun h2 => ?_)
    · exact zr_return d_Ed_draftEntries_72 rfl (Nat.le_refl _) (Nat.le_refl _) (l1 (Or.inr ⟨h1, h2⟩))
    · refine zr_aload_n (i := 0) (x := 7) (n := 23) d_Ed_draftEntries_22 rfl rfl rfl ?_
      refine zr_aload_n (i := 1) (x := 1) (n := 24) d_Ed_draftEntries_23 rfl rfl rfl ?_
      refine zr_iload_n (i := 3) (x := a3) (n := 25) d_Ed_draftEntries_24 rfl rfl rfl ?_
      refine zr_callV (M' := M_Tree_nameOf) (mc' := 0) (ms' := 0) (av := [.int a3]) (rest := [.ref 7]) (n := 28) d_Ed_draftEntries_25 rfl w_Ed_94 w_Ed_94k gg_1 rfl rfl rfl rfl rfl rfl (Nat.le_refl _) (Nat.le_refl _) ?_
      refine c_Tree_nameOf (a1 := a3) j1 (o1 h1 h2) ?_
      refine zr_callV (M' := M_Ed_write) (mc' := 0) (ms' := 0) (av := [.int (S 4 j1)]) (rest := []) (n := 31) d_Ed_draftEntries_28 rfl w_Ed_74 w_Ed_74k gg_7 rfl rfl rfl rfl rfl rfl (Nat.le_refl _) (Nat.le_refl _) ?_
      exact (l2 h1 h2)
theorem s_Ed_draftEntries_31 {d : Nat} {Q : zm_Q} {S : zm_S} {a2 a3 a4 : Int32} (j1 : Nat) (o1 : zm_ix a3 j1 12)
    (l1 : zc M_Ed_write d [.ref 7, .int (S 2 j1)] S (fun v G' S' => zm_WP M_Ed_draftEntries none (d + 1) 0 0 Q 40 [some (.ref 7), some (.ref 1), some (.int a2), some (.int a3), some (.int a4)] (zm_ps v []) G' S' 0 0)) :
    zw M_Ed_draftEntries (d + 1) Q 31 [some (.ref 7), some (.ref 1), some (.int a2), some (.int a3), some (.int a4)] [] S := by
  refine zr_aload_n (i := 0) (x := 7) (n := 32) d_Ed_draftEntries_31 rfl rfl rfl ?_
  refine zr_aload_n (i := 1) (x := 1) (n := 33) d_Ed_draftEntries_32 rfl rfl rfl ?_
  refine zr_iload_n (i := 3) (x := a3) (n := 34) d_Ed_draftEntries_33 rfl rfl rfl ?_
  refine zr_callV (M' := M_Tree_kindOf) (mc' := 0) (ms' := 0) (av := [.int a3]) (rest := [.ref 7]) (n := 37) d_Ed_draftEntries_34 rfl w_Ed_71 w_Ed_71k gg_1 rfl rfl rfl rfl rfl rfl (Nat.le_refl _) (Nat.le_refl _) ?_
  refine c_Tree_kindOf (a1 := a3) j1 o1 ?_
  refine zr_callV (M' := M_Ed_write) (mc' := 0) (ms' := 0) (av := [.int (S 2 j1)]) (rest := []) (n := 40) d_Ed_draftEntries_37 rfl w_Ed_74 w_Ed_74k gg_7 rfl rfl rfl rfl rfl rfl (Nat.le_refl _) (Nat.le_refl _) ?_
  exact l1
theorem s_Ed_draftEntries_40 {d : Nat} {Q : zm_Q} {S : zm_S} {a2 a3 a4 : Int32} (j1 : Nat) (o1 : zm_ix a3 j1 12)
    (l1 : zc M_Ed_write d [.ref 7, .int (S 12 j1)] S (fun v G' S' => zm_WP M_Ed_draftEntries none (d + 1) 0 0 Q 50 [some (.ref 7), some (.ref 1), some (.int a2), some (.int a3), some (.int a4)] (zm_ps v []) G' S' 0 0)) :
    zw M_Ed_draftEntries (d + 1) Q 40 [some (.ref 7), some (.ref 1), some (.int a2), some (.int a3), some (.int a4)] [] S := by
  refine zr_aload_n (i := 0) (x := 7) (n := 41) d_Ed_draftEntries_40 rfl rfl rfl ?_
  refine zr_aload_n (i := 0) (x := 7) (n := 42) d_Ed_draftEntries_41 rfl rfl rfl ?_
  refine zr_getr (n := 45) d_Ed_draftEntries_42 rfl f_Ed_34 gg_7 rfl ?_
  refine zr_iload_n (i := 3) (x := a3) (n := 46) d_Ed_draftEntries_45 rfl rfl rfl ?_
  refine zr_iaload j1 (n := 47) d_Ed_draftEntries_46 rfl gg_12 o1 ?_
  refine zr_callV (M' := M_Ed_write) (mc' := 0) (ms' := 0) (av := [.int (S 12 j1)]) (rest := []) (n := 50) d_Ed_draftEntries_47 rfl w_Ed_74 w_Ed_74k gg_7 rfl rfl rfl rfl rfl rfl (Nat.le_refl _) (Nat.le_refl _) ?_
  exact l1
theorem s_Ed_draftEntries_50 {d : Nat} {Q : zm_Q} {S : zm_S} {a2 a3 a4 : Int32}
    (l1 : zc M_Ed_write d [.ref 7, .int a3] S (fun v G' S' => zm_WP M_Ed_draftEntries none (d + 1) 0 0 Q 55 [some (.ref 7), some (.ref 1), some (.int a2), some (.int a3), some (.int a4)] (zm_ps v []) G' S' 0 0)) :
    zw M_Ed_draftEntries (d + 1) Q 50 [some (.ref 7), some (.ref 1), some (.int a2), some (.int a3), some (.int a4)] [] S := by
  refine zr_aload_n (i := 0) (x := 7) (n := 51) d_Ed_draftEntries_50 rfl rfl rfl ?_
  refine zr_iload_n (i := 3) (x := a3) (n := 52) d_Ed_draftEntries_51 rfl rfl rfl ?_
  refine zr_callV (M' := M_Ed_write) (mc' := 0) (ms' := 0) (av := [.int a3]) (rest := []) (n := 55) d_Ed_draftEntries_52 rfl w_Ed_74 w_Ed_74k gg_7 rfl rfl rfl rfl rfl rfl (Nat.le_refl _) (Nat.le_refl _) ?_
  exact l1
theorem s_Ed_draftEntries_55 {d : Nat} {Q : zm_Q} {S : zm_S} {a2 a3 a4 : Int32} (j1 : Nat) (o1 : zm_ix a3 j1 12)
    (l1 : zc M_Tree_entryAfter d [.ref 1, .int a2, .int (S 4 j1)] S (fun v G' S' => zm_WP M_Ed_draftEntries none (d + 1) 0 0 Q 65 [some (.ref 7), some (.ref 1), some (.int a2), none, some (.int a4)] (zm_ps v []) G' S' 0 0)) :
    zw M_Ed_draftEntries (d + 1) Q 55 [some (.ref 7), some (.ref 1), some (.int a2), some (.int a3), some (.int a4)] [] S := by
  refine zr_aload_n (i := 1) (x := 1) (n := 56) d_Ed_draftEntries_55 rfl rfl rfl ?_
  refine zr_iload_n (i := 2) (x := a2) (n := 57) d_Ed_draftEntries_56 rfl rfl rfl ?_
  refine zr_aload_n (i := 1) (x := 1) (n := 58) d_Ed_draftEntries_57 rfl rfl rfl ?_
  refine zr_iload_n (i := 3) (x := a3) (n := 59) d_Ed_draftEntries_58 rfl rfl rfl ?_
  refine zr_weak (zm_LE.cons (zm_LE.cons (zm_LE.cons (zm_LE.skip (zm_LE.cons zm_LE.nil))))) ?_
  refine zr_callV (M' := M_Tree_nameOf) (mc' := 0) (ms' := 0) (av := [.int a3]) (rest := [.int a2, .ref 1]) (n := 62) d_Ed_draftEntries_59 rfl w_Ed_94 w_Ed_94k gg_1 rfl rfl rfl rfl rfl rfl (Nat.le_refl _) (Nat.le_refl _) ?_
  refine c_Tree_nameOf (a1 := a3) j1 o1 ?_
  refine zr_callV (M' := M_Tree_entryAfter) (mc' := 0) (ms' := 0) (av := [.int a2, .int (S 4 j1)]) (rest := []) (n := 65) d_Ed_draftEntries_62 rfl w_Ed_91 w_Ed_91k gg_1 rfl rfl rfl rfl rfl rfl (Nat.le_refl _) (Nat.le_refl _) ?_
  exact l1
theorem s_Ed_draftEntries_65 {d : Nat} {Q : zm_Q} {S : zm_S} {a2 a4 r : Int32}
    (l1 : zw M_Ed_draftEntries (d + 1) Q 10 [some (.ref 7), some (.ref 1), some (.int a2), some (.int r), some (.int (a4 + 1))] [] S) :
    zw M_Ed_draftEntries (d + 1) Q 65 [some (.ref 7), some (.ref 1), some (.int a2), none, some (.int a4)] [.int r] S := by
  refine zr_istore_n (i := 3) (L' := [some (.ref 7), some (.ref 1), some (.int a2), some (.int r), some (.int a4)]) (n := 66) d_Ed_draftEntries_65 rfl rfl rfl rfl ?_
  refine zr_iinc (i := 4) (w := 1) (x := a4) (L' := [some (.ref 7), some (.ref 1), some (.int a2), some (.int r), some (.int (a4 + 1))]) (n := 69) d_Ed_draftEntries_66 rfl (by decide) rfl rfl ?_
  refine zr_goto (tgt := 10) d_Ed_draftEntries_69 (by decide) ?_
  exact l1
theorem e_Ed_draftEntries {d : Nat} {Q : zm_Q} {S : zm_S} {a2 : Int32} (h : zw M_Ed_draftEntries (d + 1) Q 0 [some (.ref 7), some (.ref 1), some (.int a2), none, none] [] S) : zc M_Ed_draftEntries (d + 1) [.ref 7, .ref 1, .int a2] S Q := zm_CC_intro (by decide) rfl rfl h
theorem s_Ed_write_0 {d : Nat} {Q : zm_Q} {S : zm_S} {a1 : Int32} (j1 : Nat) (o1 : ¬ 48 ≤ (S 7 9) → zm_ix (S 7 9) j1 48)
    (l1 : 48 ≤ (S 7 9) → Q none GG S)
    (l2 : ¬ 48 ≤ (S 7 9) → Q none GG (zm_up (zm_up S 13 j1 a1) 7 9 ((S 7 9) + 1))) :
    zw M_Ed_write d Q 0 [some (.ref 7), some (.int a1)] [] S := by
  refine zr_aload_n (i := 0) (x := 7) (n := 1) d_Ed_write_0 rfl rfl rfl ?_
  refine zr_geti (n := 4) d_Ed_write_1 rfl f_Ed_40 gg_7 rfl ?_
  refine zr_aload_n (i := 0) (x := 7) (n := 5) d_Ed_write_4 rfl rfl rfl ?_
  refine zr_getr (n := 8) d_Ed_write_5 rfl f_Ed_37 gg_7 rfl ?_
  refine zr_alen (v := 48) (n := 9) d_Ed_write_8 rfl gg_13 (by decide) ?_
  refine zr_icmp_ge (tgt := 32) (n := 12) d_Ed_write_9 rfl (by decide) (fun h1 => ?_) (fun h1 => ?_)
  · exact zr_return d_Ed_write_32 rfl (Nat.le_refl _) (Nat.le_refl _) (l1 h1)
  · refine zr_aload_n (i := 0) (x := 7) (n := 13) d_Ed_write_12 rfl rfl rfl ?_
    refine zr_getr (n := 16) d_Ed_write_13 rfl f_Ed_37 gg_7 rfl ?_
    refine zr_aload_n (i := 0) (x := 7) (n := 17) d_Ed_write_16 rfl rfl rfl ?_
    refine zr_geti (n := 20) d_Ed_write_17 rfl f_Ed_40 gg_7 rfl ?_
    refine zr_iload_n (i := 1) (x := a1) (n := 21) d_Ed_write_20 rfl rfl rfl ?_
    refine zr_iastore j1 (n := 22) d_Ed_write_21 rfl gg_13 (o1 h1) ?_
    refine zr_aload_n (i := 0) (x := 7) (n := 23) d_Ed_write_22 rfl rfl rfl ?_
    refine zr_dup (n := 24) d_Ed_write_23 rfl rfl ?_
    refine zr_geti (n := 27) d_Ed_write_24 rfl f_Ed_40 gg_7 rfl ?_
    refine zr_iconst (v := 1) (n := 28) d_Ed_write_27 rfl (by decide) ?_
    refine zr_iadd (n := 29) d_Ed_write_28 rfl ?_
    refine zr_puti (n := 32) d_Ed_write_29 rfl f_Ed_40 tw_Ed rfl rfl rfl rfl gg_7 rfl ?_
    exact zr_return d_Ed_write_32 rfl (Nat.le_refl _) (Nat.le_refl _) (l2 h1)
theorem e_Ed_write {d : Nat} {Q : zm_Q} {S : zm_S} {a1 : Int32} (h : zw M_Ed_write d Q 0 [some (.ref 7), some (.int a1)] [] S) : zc M_Ed_write d [.ref 7, .int a1] S Q := zm_CC_intro (by decide) rfl rfl h
theorem s_Ed_keepDraft_0 {d : Nat} {Q : zm_Q} {S : zm_S} {a1 : Int32} (j1 : Nat) (o1 : (S 7 1) ≤ a1 → zm_ix a1 j1 12)
    (l1 : (S 7 1) ≤ a1 → zw M_Ed_keepDraft (d + 2) Q 26 [some (.ref 7), some (.int a1)] [] (zm_up S 9 j1 (S 7 0)))
    (l2 : ¬ (S 7 1) ≤ a1 → zc M_Ed_draftEquals (d + 1) [.ref 7, .int a1] S (fun v G' S' => zm_WP M_Ed_keepDraft none (d + 2) 0 0 Q 13 [some (.ref 7), some (.int a1)] (zm_ps v []) G' S' 0 0)) :
    zw M_Ed_keepDraft (d + 2) Q 0 [some (.ref 7), some (.int a1)] [] S := by
  refine zr_iload_n (i := 1) (x := a1) (n := 1) d_Ed_keepDraft_0 rfl rfl rfl ?_
  refine zr_aload_n (i := 0) (x := 7) (n := 2) d_Ed_keepDraft_1 rfl rfl rfl ?_
  refine zr_geti (n := 5) d_Ed_keepDraft_2 rfl f_Ed_15 gg_7 rfl ?_
  refine zr_icmp_ge (tgt := 16) (n := 8) d_Ed_keepDraft_5 rfl (by decide) (fun h1 => ?_) (fun h1 => ?_)
  · refine zr_aload_n (i := 0) (x := 7) (n := 17) d_Ed_keepDraft_16 rfl rfl rfl ?_
    refine zr_getr (n := 20) d_Ed_keepDraft_17 rfl f_Ed_22 gg_7 rfl ?_
    refine zr_iload_n (i := 1) (x := a1) (n := 21) d_Ed_keepDraft_20 rfl rfl rfl ?_
    refine zr_aload_n (i := 0) (x := 7) (n := 22) d_Ed_keepDraft_21 rfl rfl rfl ?_
    refine zr_geti (n := 25) d_Ed_keepDraft_22 rfl f_Ed_9 gg_7 rfl ?_
    refine zr_iastore j1 (n := 26) d_Ed_keepDraft_25 rfl gg_9 (o1 h1) ?_
    exact (l1 h1)
  · refine zr_aload_n (i := 0) (x := 7) (n := 9) d_Ed_keepDraft_8 rfl rfl rfl ?_
    refine zr_iload_n (i := 1) (x := a1) (n := 10) d_Ed_keepDraft_9 rfl rfl rfl ?_
    refine zr_callV (M' := M_Ed_draftEquals) (mc' := 0) (ms' := 0) (av := [.int a1]) (rest := []) (n := 13) d_Ed_keepDraft_10 rfl w_Ed_97 w_Ed_97k gg_7 rfl rfl rfl rfl rfl rfl (Nat.le_refl _) (Nat.le_refl _) ?_
    exact (l2 h1)
theorem s_Ed_keepDraft_26 {d : Nat} {Q : zm_Q} {S : zm_S} {a1 : Int32} (j1 : Nat) (j2 : Nat) (j3 : Nat) (o1 : zm_ix a1 j1 12) (o2 : ¬ (a1 * 48) < 0 ∧ ((a1 * 48)).toNatClampNeg = j2) (o3 : ¬ (S 7 9) < 0 ∧ ((S 7 9)).toNatClampNeg = j3) (o4 : 0 + j3 ≤ 48) (o5 : j2 + j3 ≤ 576)
    (l1 : Q none GG (zm_upA (zm_up S 8 j1 (S 7 9)) 10 (va_cpy ((zm_up S 8 j1 (S 7 9)) 13) ((zm_up S 8 j1 (S 7 9)) 10) 0 j2 j3))) :
    zw M_Ed_keepDraft (d + 2) Q 26 [some (.ref 7), some (.int a1)] [] S := by
  refine zr_aload_n (i := 0) (x := 7) (n := 27) d_Ed_keepDraft_26 rfl rfl rfl ?_
  refine zr_getr (n := 30) d_Ed_keepDraft_27 rfl f_Ed_18 gg_7 rfl ?_
  refine zr_iload_n (i := 1) (x := a1) (n := 31) d_Ed_keepDraft_30 rfl rfl rfl ?_
  refine zr_aload_n (i := 0) (x := 7) (n := 32) d_Ed_keepDraft_31 rfl rfl rfl ?_
  refine zr_geti (n := 35) d_Ed_keepDraft_32 rfl f_Ed_40 gg_7 rfl ?_
  refine zr_iastore j1 (n := 36) d_Ed_keepDraft_35 rfl gg_8 o1 ?_
  refine zr_aload_n (i := 0) (x := 7) (n := 37) d_Ed_keepDraft_36 rfl rfl rfl ?_
  refine zr_getr (n := 40) d_Ed_keepDraft_37 rfl f_Ed_37 gg_7 rfl ?_
  refine zr_iconst (v := 0) (n := 41) d_Ed_keepDraft_40 rfl (by decide) ?_
  refine zr_aload_n (i := 0) (x := 7) (n := 42) d_Ed_keepDraft_41 rfl rfl rfl ?_
  refine zr_getr (n := 45) d_Ed_keepDraft_42 rfl f_Ed_25 gg_7 rfl ?_
  refine zr_iload_n (i := 1) (x := a1) (n := 46) d_Ed_keepDraft_45 rfl rfl rfl ?_
  refine zr_bipush (v := 48) (n := 48) d_Ed_keepDraft_46 rfl (by decide) ?_
  refine zr_imul (n := 49) d_Ed_keepDraft_48 rfl ?_
  refine zr_aload_n (i := 0) (x := 7) (n := 50) d_Ed_keepDraft_49 rfl rfl rfl ?_
  refine zr_geti (n := 53) d_Ed_keepDraft_50 rfl f_Ed_40 gg_7 rfl ?_
  refine zr_copy (n := 56) 0 j2 j3 d_Ed_keepDraft_53 rfl acw_Ed gg_13 gg_10 ⟨(by decide), (by decide)⟩ o2 o3 o4 o5 rfl ?_
  exact zr_return d_Ed_keepDraft_56 rfl (Nat.le_refl _) (Nat.le_refl _) l1
theorem s_Ed_keepDraft_13 {d : Nat} {Q : zm_Q} {S : zm_S} {a1 r : Int32} (j1 : Nat) (o1 : r = 0 → zm_ix a1 j1 12)
    (l1 : ¬ r = 0 → zw M_Ed_keepDraft (d + 2) Q 26 [some (.ref 7), some (.int a1)] [] S)
    (l2 : r = 0 → zw M_Ed_keepDraft (d + 2) Q 26 [some (.ref 7), some (.int a1)] [] (zm_up S 9 j1 (S 7 0))) :
    zw M_Ed_keepDraft (d + 2) Q 13 [some (.ref 7), some (.int a1)] [.int r] S := by
  refine zr_if_ne (tgt := 26) (n := 16) d_Ed_keepDraft_13 rfl (by decide) (fun h1 => ?_) (fun h1 => ?_)
  · exact (l1 h1)
  · refine zr_aload_n (i := 0) (x := 7) (n := 17) d_Ed_keepDraft_16 rfl rfl rfl ?_
    refine zr_getr (n := 20) d_Ed_keepDraft_17 rfl f_Ed_22 gg_7 rfl ?_
    refine zr_iload_n (i := 1) (x := a1) (n := 21) d_Ed_keepDraft_20 rfl rfl rfl ?_
    refine zr_aload_n (i := 0) (x := 7) (n := 22) d_Ed_keepDraft_21 rfl rfl rfl ?_
    refine zr_geti (n := 25) d_Ed_keepDraft_22 rfl f_Ed_9 gg_7 rfl ?_
    refine zr_iastore j1 (n := 26) d_Ed_keepDraft_25 rfl gg_9 (o1 h1) ?_
    exact (l2 h1)
theorem e_Ed_keepDraft {d : Nat} {Q : zm_Q} {S : zm_S} {a1 : Int32} (h : zw M_Ed_keepDraft (d + 2) Q 0 [some (.ref 7), some (.int a1)] [] S) : zc M_Ed_keepDraft (d + 2) [.ref 7, .int a1] S Q := zm_CC_intro (by decide) rfl rfl h
theorem s_Ed_draftEquals_0 {d : Nat} {Q : zm_Q} {S : zm_S} {a1 : Int32} (j1 : Nat) (o1 : zm_ix a1 j1 12)
    (l1 : (S 8 j1) = (S 7 9) → zw M_Ed_draftEquals (d + 1) Q 17 [some (.ref 7), some (.int a1), some (.int 0)] [] S)
    (l2 : ¬ (S 8 j1) = (S 7 9) → Q (some 0) GG S) :
    zw M_Ed_draftEquals (d + 1) Q 0 [some (.ref 7), some (.int a1), none] [] S := by
  refine zr_aload_n (i := 0) (x := 7) (n := 1) d_Ed_draftEquals_0 rfl rfl rfl ?_
  refine zr_getr (n := 4) d_Ed_draftEquals_1 rfl f_Ed_18 gg_7 rfl ?_
  refine zr_iload_n (i := 1) (x := a1) (n := 5) d_Ed_draftEquals_4 rfl rfl rfl ?_
  refine zr_iaload j1 (n := 6) d_Ed_draftEquals_5 rfl gg_8 o1 ?_
  refine zr_aload_n (i := 0) (x := 7) (n := 7) d_Ed_draftEquals_6 rfl rfl rfl ?_
  refine zr_geti (n := 10) d_Ed_draftEquals_7 rfl f_Ed_40 gg_7 rfl ?_
  refine zr_icmp_eq (tgt := 15) (n := 13) d_Ed_draftEquals_10 rfl (by decide) (fun h1 => ?_) (fun h1 => ?_)
  · refine zr_iconst (v := 0) (n := 16) d_Ed_draftEquals_15 rfl (by decide) ?_
    refine zr_istore_n (i := 2) (L' := [some (.ref 7), some (.int a1), some (.int 0)]) (n := 17) d_Ed_draftEquals_16 rfl rfl rfl rfl ?_
    exact (l1 h1)
  · refine zr_iconst (v := 0) (n := 14) d_Ed_draftEquals_13 rfl (by decide) ?_
    exact zr_ireturn d_Ed_draftEquals_14 rfl (by decide) (Nat.le_refl _) (Nat.le_refl _) (l2 h1)
theorem s_Ed_draftEquals_17 {d : Nat} {Q : zm_Q} {S : zm_S} {a1 a2 : Int32} (j1 : Nat) (j2 : Nat) (o1 : ¬ (S 7 9) ≤ a2 → zm_ix ((a1 * 48) + a2) j1 576) (o2 : ¬ (S 7 9) ≤ a2 → zm_ix a2 j2 48)
    (l1 : (S 7 9) ≤ a2 → Q (some 1) GG S)
    (l2 : ¬ (S 7 9) ≤ a2 → (S 10 j1) = (S 13 j2) → zw M_Ed_draftEquals (d + 1) Q 17 [some (.ref 7), some (.int a1), some (.int (a2 + 1))] [] S)
    (l3 : ¬ (S 7 9) ≤ a2 → ¬ (S 10 j1) = (S 13 j2) → Q (some 0) GG S) :
    zw M_Ed_draftEquals (d + 1) Q 17 [some (.ref 7), some (.int a1), some (.int a2)] [] S := by
  refine zr_iload_n (i := 2) (x := a2) (n := 18) d_Ed_draftEquals_17 rfl rfl rfl ?_
  refine zr_aload_n (i := 0) (x := 7) (n := 19) d_Ed_draftEquals_18 rfl rfl rfl ?_
  refine zr_geti (n := 22) d_Ed_draftEquals_19 rfl f_Ed_40 gg_7 rfl ?_
  refine zr_icmp_ge (tgt := 48) (n := 25) d_Ed_draftEquals_22 rfl (by decide) (fun h1 => ?_) (fun h1 => ?_)
  · refine zr_iconst (v := 1) (n := 49) d_Ed_draftEquals_48 rfl (by decide) ?_
    exact zr_ireturn d_Ed_draftEquals_49 rfl (by decide) (Nat.le_refl _) (Nat.le_refl _) (l1 h1)
  · refine zr_aload_n (i := 0) (x := 7) (n := 26) d_Ed_draftEquals_25 rfl rfl rfl ?_
    refine zr_iload_n (i := 1) (x := a1) (n := 27) d_Ed_draftEquals_26 rfl rfl rfl ?_
    refine zr_iload_n (i := 2) (x := a2) (n := 28) d_Ed_draftEquals_27 rfl rfl rfl ?_
    refine zr_callV (M' := M_Ed_byteAt) (mc' := 0) (ms' := 0) (av := [.int a1, .int a2]) (rest := []) (n := 31) d_Ed_draftEquals_28 rfl w_Ed_106 w_Ed_106k gg_7 rfl rfl rfl rfl rfl rfl (Nat.le_refl _) (Nat.le_refl _) ?_
    refine c_Ed_byteAt (a1 := a1) (a2 := a2) j1 (o1 h1) ?_
    refine zr_aload_n (i := 0) (x := 7) (n := 32) d_Ed_draftEquals_31 rfl rfl rfl ?_
    refine zr_getr (n := 35) d_Ed_draftEquals_32 rfl f_Ed_37 gg_7 rfl ?_
    refine zr_iload_n (i := 2) (x := a2) (n := 36) d_Ed_draftEquals_35 rfl rfl rfl ?_
    refine zr_iaload j2 (n := 37) d_Ed_draftEquals_36 rfl gg_13 (o2 h1) ?_
    refine zr_icmp_eq (tgt := 42) (n := 40) d_Ed_draftEquals_37 rfl (by decide) (fun h2 => ?_) (fun h2 => ?_)
    · refine zr_iinc (i := 2) (w := 1) (x := a2) (L' := [some (.ref 7), some (.int a1), some (.int (a2 + 1))]) (n := 45) d_Ed_draftEquals_42 rfl (by decide) rfl rfl ?_
      refine zr_goto (tgt := 17) d_Ed_draftEquals_45 (by decide) ?_
      exact (l2 h1 h2)
    · refine zr_iconst (v := 0) (n := 41) d_Ed_draftEquals_40 rfl (by decide) ?_
      exact zr_ireturn d_Ed_draftEquals_41 rfl (by decide) (Nat.le_refl _) (Nat.le_refl _) (l3 h1 h2)
theorem e_Ed_draftEquals {d : Nat} {Q : zm_Q} {S : zm_S} {a1 : Int32} (h : zw M_Ed_draftEquals (d + 1) Q 0 [some (.ref 7), some (.int a1), none] [] S) : zc M_Ed_draftEquals (d + 1) [.ref 7, .int a1] S Q := zm_CC_intro (by decide) rfl rfl h
theorem s_Tree_hasEntry_0 {d : Nat} {Q : zm_Q} {S : zm_S} {a1 a2 : Int32}
    (l1 : zw M_Tree_hasEntry d Q 2 [some (.ref 1), some (.int a1), some (.int a2), some (.int 1)] [] S) :
    zw M_Tree_hasEntry d Q 0 [some (.ref 1), some (.int a1), some (.int a2), none] [] S := by
  refine zr_iconst (v := 1) (n := 1) d_Tree_hasEntry_0 rfl (by decide) ?_
  refine zr_istore_n (i := 3) (L' := [some (.ref 1), some (.int a1), some (.int a2), some (.int 1)]) (n := 2) d_Tree_hasEntry_1 rfl rfl rfl rfl ?_
  exact l1
theorem s_Tree_hasEntry_2 {d : Nat} {Q : zm_Q} {S : zm_S} {a1 a2 a3 : Int32} (j1 : Nat) (o1 : ¬ 12 ≤ a3 → zm_ix a3 j1 12)
    (l1 : 12 ≤ a3 → Q (some 0) GG S)
    (l2 : ((¬ 12 ≤ a3 ∧ ¬ (S 3 j1) = a1) ∨ (¬ 12 ≤ a3 ∧ (S 3 j1) = a1 ∧ ¬ (S 4 j1) = a2)) → zw M_Tree_hasEntry d Q 2 [some (.ref 1), some (.int a1), some (.int a2), some (.int (a3 + 1))] [] S)
    (l3 : ¬ 12 ≤ a3 → (S 3 j1) = a1 → (S 4 j1) = a2 → Q (some 1) GG S) :
    zw M_Tree_hasEntry d Q 2 [some (.ref 1), some (.int a1), some (.int a2), some (.int a3)] [] S := by
  refine zr_iload_n (i := 3) (x := a3) (n := 3) d_Tree_hasEntry_2 rfl rfl rfl ?_
  refine zr_bipush (v := 12) (n := 5) d_Tree_hasEntry_3 rfl (by decide) ?_
  refine zr_icmp_ge (tgt := 36) (n := 8) d_Tree_hasEntry_5 rfl (by decide) (fun h1 => ?_) (fun h1 => ?_)
  · refine zr_iconst (v := 0) (n := 37) d_Tree_hasEntry_36 rfl (by decide) ?_
    exact zr_ireturn d_Tree_hasEntry_37 rfl (by decide) (Nat.le_refl _) (Nat.le_refl _) (l1 h1)
  · refine zr_aload_n (i := 0) (x := 1) (n := 9) d_Tree_hasEntry_8 rfl rfl rfl ?_
    refine zr_getr (n := 12) d_Tree_hasEntry_9 rfl f_Tree_15 gg_1 rfl ?_
    refine zr_iload_n (i := 3) (x := a3) (n := 13) d_Tree_hasEntry_12 rfl rfl rfl ?_
    refine zr_iaload j1 (n := 14) d_Tree_hasEntry_13 rfl gg_3 (o1 h1) ?_
    refine zr_iload_n (i := 1) (x := a1) (n := 15) d_Tree_hasEntry_14 rfl rfl rfl ?_
    refine zr_icmp_ne (tgt := 30) (n := 18) d_Tree_hasEntry_15 rfl (by decide) (fun h2 => ?_) (fun h2 => ?_)
    · refine zr_iinc (i := 3) (w := 1) (x := a3) (L' := [some (.ref 1), some (.int a1), some (.int a2), some (.int (a3 + 1))]) (n := 33) d_Tree_hasEntry_30 rfl (by decide) rfl rfl ?_
      refine zr_goto (tgt := 2) d_Tree_hasEntry_33 (by decide) ?_
      exact (l2 (Or.inl ⟨h1, h2⟩))
    · refine zr_aload_n (i := 0) (x := 1) (n := 19) d_Tree_hasEntry_18 rfl rfl rfl ?_
      refine zr_getr (n := 22) d_Tree_hasEntry_19 rfl f_Tree_18 gg_1 rfl ?_
      refine zr_iload_n (i := 3) (x := a3) (n := 23) d_Tree_hasEntry_22 rfl rfl rfl ?_
      refine zr_iaload j1 (n := 24) d_Tree_hasEntry_23 rfl gg_4 (o1 h1) ?_
      refine zr_iload_n (i := 2) (x := a2) (n := 25) d_Tree_hasEntry_24 rfl rfl rfl ?_
      refine zr_icmp_ne (tgt := 30) (n := 28) d_Tree_hasEntry_25 rfl (by decide) (fun h3 => ?_) (fun h3 => ?_)
      · refine zr_iinc (i := 3) (w := 1) (x := a3) (L' := [some (.ref 1), some (.int a1), some (.int a2), some (.int (a3 + 1))]) (n := 33) d_Tree_hasEntry_30 rfl (by decide) rfl rfl ?_
        refine zr_goto (tgt := 2) d_Tree_hasEntry_33 (by decide) ?_
        exact (l2 (Or.inr ⟨h1, h2, h3⟩))
      · refine zr_iconst (v := 1) (n := 29) d_Tree_hasEntry_28 rfl (by decide) ?_
        exact zr_ireturn d_Tree_hasEntry_29 rfl (by decide) (Nat.le_refl _) (Nat.le_refl _) (l3 h1 h2 h3)
theorem e_Tree_hasEntry {d : Nat} {Q : zm_Q} {S : zm_S} {a1 a2 : Int32} (h : zw M_Tree_hasEntry d Q 0 [some (.ref 1), some (.int a1), some (.int a2), none] [] S) : zc M_Tree_hasEntry d [.ref 1, .int a1, .int a2] S Q := zm_CC_intro (by decide) rfl rfl h
theorem s_Tree_entryCount_0 {d : Nat} {Q : zm_Q} {S : zm_S} {a1 : Int32}
    (l1 : zw M_Tree_entryCount d Q 4 [some (.ref 1), some (.int a1), some (.int 0), some (.int 1)] [] S) :
    zw M_Tree_entryCount d Q 0 [some (.ref 1), some (.int a1), none, none] [] S := by
  refine zr_iconst (v := 0) (n := 1) d_Tree_entryCount_0 rfl (by decide) ?_
  refine zr_istore_n (i := 2) (L' := [some (.ref 1), some (.int a1), some (.int 0), none]) (n := 2) d_Tree_entryCount_1 rfl rfl rfl rfl ?_
  refine zr_iconst (v := 1) (n := 3) d_Tree_entryCount_2 rfl (by decide) ?_
  refine zr_istore_n (i := 3) (L' := [some (.ref 1), some (.int a1), some (.int 0), some (.int 1)]) (n := 4) d_Tree_entryCount_3 rfl rfl rfl rfl ?_
  exact l1
theorem s_Tree_entryCount_4 {d : Nat} {Q : zm_Q} {S : zm_S} {a1 a2 a3 : Int32} (j1 : Nat) (o1 : ¬ 12 ≤ a3 → zm_ix a3 j1 12)
    (l1 : 12 ≤ a3 → Q (some a2) GG S)
    (l2 : ¬ 12 ≤ a3 → ¬ (S 3 j1) = a1 → zw M_Tree_entryCount d Q 4 [some (.ref 1), some (.int a1), some (.int a2), some (.int (a3 + 1))] [] S)
    (l3 : ¬ 12 ≤ a3 → (S 3 j1) = a1 → zw M_Tree_entryCount d Q 4 [some (.ref 1), some (.int a1), some (.int (a2 + 1)), some (.int (a3 + 1))] [] S) :
    zw M_Tree_entryCount d Q 4 [some (.ref 1), some (.int a1), some (.int a2), some (.int a3)] [] S := by
  refine zr_iload_n (i := 3) (x := a3) (n := 5) d_Tree_entryCount_4 rfl rfl rfl ?_
  refine zr_bipush (v := 12) (n := 7) d_Tree_entryCount_5 rfl (by decide) ?_
  refine zr_icmp_ge (tgt := 29) (n := 10) d_Tree_entryCount_7 rfl (by decide) (fun h1 => ?_) (fun h1 => ?_)
  · refine zr_iload_n (i := 2) (x := a2) (n := 30) d_Tree_entryCount_29 rfl rfl rfl ?_
    exact zr_ireturn d_Tree_entryCount_30 rfl rfl (Nat.le_refl _) (Nat.le_refl _) (l1 h1)
  · refine zr_aload_n (i := 0) (x := 1) (n := 11) d_Tree_entryCount_10 rfl rfl rfl ?_
    refine zr_getr (n := 14) d_Tree_entryCount_11 rfl f_Tree_15 gg_1 rfl ?_
    refine zr_iload_n (i := 3) (x := a3) (n := 15) d_Tree_entryCount_14 rfl rfl rfl ?_
    refine zr_iaload j1 (n := 16) d_Tree_entryCount_15 rfl gg_3 (o1 h1) ?_
    refine zr_iload_n (i := 1) (x := a1) (n := 17) d_Tree_entryCount_16 rfl rfl rfl ?_
    refine zr_icmp_ne (tgt := 23) (n := 20) d_Tree_entryCount_17 rfl (by decide) (fun h2 => ?_) (fun h2 => ?_)
    · refine zr_iinc (i := 3) (w := 1) (x := a3) (L' := [some (.ref 1), some (.int a1), some (.int a2), some (.int (a3 + 1))]) (n := 26) d_Tree_entryCount_23 rfl (by decide) rfl rfl ?_
      refine zr_goto (tgt := 4) d_Tree_entryCount_26 (by decide) ?_
      exact (l2 h1 h2)
    · refine zr_iinc (i := 2) (w := 1) (x := a2) (L' := [some (.ref 1), some (.int a1), some (.int (a2 + 1)), some (.int a3)]) (n := 23) d_Tree_entryCount_20 rfl (by decide) rfl rfl ?_
      refine zr_iinc (i := 3) (w := 1) (x := a3) (L' := [some (.ref 1), some (.int a1), some (.int (a2 + 1)), some (.int (a3 + 1))]) (n := 26) d_Tree_entryCount_23 rfl (by decide) rfl rfl ?_
      refine zr_goto (tgt := 4) d_Tree_entryCount_26 (by decide) ?_
      exact (l3 h1 h2)
theorem e_Tree_entryCount {d : Nat} {Q : zm_Q} {S : zm_S} {a1 : Int32} (h : zw M_Tree_entryCount d Q 0 [some (.ref 1), some (.int a1), none, none] [] S) : zc M_Tree_entryCount d [.ref 1, .int a1] S Q := zm_CC_intro (by decide) rfl rfl h
theorem s_Tree_leastFreeKey_0 {d : Nat} {Q : zm_Q} {S : zm_S}
    (l1 : zw M_Tree_leastFreeKey (d + 1) Q 2 [some (.ref 1), some (.int 1)] [] S) :
    zw M_Tree_leastFreeKey (d + 1) Q 0 [some (.ref 1), none] [] S := by
  refine zr_iconst (v := 1) (n := 1) d_Tree_leastFreeKey_0 rfl (by decide) ?_
  refine zr_istore_n (i := 1) (L' := [some (.ref 1), some (.int 1)]) (n := 2) d_Tree_leastFreeKey_1 rfl rfl rfl rfl ?_
  exact l1
theorem s_Tree_leastFreeKey_2 {d : Nat} {Q : zm_Q} {S : zm_S} {a1 : Int32} (j1 : Nat) (o1 : ¬ 12 ≤ a1 → zm_ix a1 j1 12)
    (l1 : 12 ≤ a1 → Q (some (-1)) GG S)
    (l2 : ¬ 12 ≤ a1 → (S 2 j1) = 0 → Q (some a1) GG S)
    (l3 : ¬ 12 ≤ a1 → ¬ (S 2 j1) = 0 → zw M_Tree_leastFreeKey (d + 1) Q 2 [some (.ref 1), some (.int (a1 + 1))] [] S) :
    zw M_Tree_leastFreeKey (d + 1) Q 2 [some (.ref 1), some (.int a1)] [] S := by
  refine zr_iload_n (i := 1) (x := a1) (n := 3) d_Tree_leastFreeKey_2 rfl rfl rfl ?_
  refine zr_bipush (v := 12) (n := 5) d_Tree_leastFreeKey_3 rfl (by decide) ?_
  refine zr_icmp_ge (tgt := 24) (n := 8) d_Tree_leastFreeKey_5 rfl (by decide) (fun h1 => ?_) (fun h1 => ?_)
  · refine zr_iconst (v := (-1)) (n := 25) d_Tree_leastFreeKey_24 rfl (by decide) ?_
    exact zr_ireturn d_Tree_leastFreeKey_25 rfl rfl (Nat.le_refl _) (Nat.le_refl _) (l1 h1)
  · refine zr_aload_n (i := 0) (x := 1) (n := 9) d_Tree_leastFreeKey_8 rfl rfl rfl ?_
    refine zr_iload_n (i := 1) (x := a1) (n := 10) d_Tree_leastFreeKey_9 rfl rfl rfl ?_
    refine zr_callV (M' := M_Tree_isThere) (mc' := 0) (ms' := 0) (av := [.int a1]) (rest := []) (n := 13) d_Tree_leastFreeKey_10 rfl w_Tree_33 w_Tree_33k gg_1 rfl rfl rfl rfl rfl rfl (Nat.le_refl _) (Nat.le_refl _) ?_
    refine c_Tree_isThere (a1 := a1) j1 (o1 h1) (fun h2 => ?_) (fun h3 => ?_)
    · refine zr_if_ne (tgt := 18) (n := 16) d_Tree_leastFreeKey_13 rfl (by decide) (fun h => absurd h (by decide)) (fun _ => ?_)
      refine zr_iload_n (i := 1) (x := a1) (n := 17) d_Tree_leastFreeKey_16 rfl rfl rfl ?_
      exact zr_ireturn d_Tree_leastFreeKey_17 rfl rfl (Nat.le_refl _) (Nat.le_refl _) (l2 h1 h2)
    · refine zr_if_ne (tgt := 18) (n := 16) d_Tree_leastFreeKey_13 rfl (by decide) (fun _ => ?_) (fun h => absurd h (by decide))
      refine zr_iinc (i := 1) (w := 1) (x := a1) (L' := [some (.ref 1), some (.int (a1 + 1))]) (n := 21) d_Tree_leastFreeKey_18 rfl (by decide) rfl rfl ?_
      refine zr_goto (tgt := 2) d_Tree_leastFreeKey_21 (by decide) ?_
      exact (l3 h1 h3)
theorem e_Tree_leastFreeKey {d : Nat} {Q : zm_Q} {S : zm_S} (h : zw M_Tree_leastFreeKey (d + 1) Q 0 [some (.ref 1), none] [] S) : zc M_Tree_leastFreeKey (d + 1) [.ref 1] S Q := zm_CC_intro (by decide) rfl rfl h
theorem s_Tree_messageLength_0 {d : Nat} {Q : zm_Q} {S : zm_S} {a1 : Int32} (j1 : Nat) (o1 : zm_ix a1 j1 12) (o2 : (S 2 j1) = 3 → zm_ix a1 j1 12)
    (l1 : ¬ (S 2 j1) = 3 → zc M_Tree_entryCount d [.ref 1, .int a1] S (fun v G' S' => zm_WP M_Tree_messageLength none (d + 1) 0 0 Q 23 [none, none] (zm_ps v [.int 4]) G' S' 0 0))
    (l2 : (S 2 j1) = 3 → Q (some (S 5 j1)) GG S) :
    zw M_Tree_messageLength (d + 1) Q 0 [some (.ref 1), some (.int a1)] [] S := by
  refine zr_aload_n (i := 0) (x := 1) (n := 1) d_Tree_messageLength_0 rfl rfl rfl ?_
  refine zr_iload_n (i := 1) (x := a1) (n := 2) d_Tree_messageLength_1 rfl rfl rfl ?_
  refine zr_callV (M' := M_Tree_isFile) (mc' := 0) (ms' := 0) (av := [.int a1]) (rest := []) (n := 5) d_Tree_messageLength_2 rfl w_Tree_37 w_Tree_37k gg_1 rfl rfl rfl rfl rfl rfl (Nat.le_refl _) (Nat.le_refl _) ?_
  refine c_Tree_isFile (a1 := a1) j1 o1 (fun h1 => ?_) (fun h2 => ?_)
  · refine zr_if_eq (tgt := 17) (n := 8) d_Tree_messageLength_5 rfl (by decide) (fun _ => ?_) (fun h => absurd h (by decide))
    refine zr_iconst (v := 4) (n := 18) d_Tree_messageLength_17 rfl (by decide) ?_
    refine zr_aload_n (i := 0) (x := 1) (n := 19) d_Tree_messageLength_18 rfl rfl rfl ?_
    refine zr_iload_n (i := 1) (x := a1) (n := 20) d_Tree_messageLength_19 rfl rfl rfl ?_
    refine zr_weak (zm_LE.skip (zm_LE.skip zm_LE.nil)) ?_
    refine zr_callV (M' := M_Tree_entryCount) (mc' := 0) (ms' := 0) (av := [.int a1]) (rest := [.int 4]) (n := 23) d_Tree_messageLength_20 rfl w_Tree_40 w_Tree_40k gg_1 rfl rfl rfl rfl rfl rfl (Nat.le_refl _) (Nat.le_refl _) ?_
    exact (l1 h1)
  · refine zr_if_eq (tgt := 17) (n := 8) d_Tree_messageLength_5 rfl (by decide) (fun h => absurd h (by decide)) (fun _ => ?_)
    refine zr_aload_n (i := 0) (x := 1) (n := 9) d_Tree_messageLength_8 rfl rfl rfl ?_
    refine zr_getr (n := 12) d_Tree_messageLength_9 rfl f_Tree_21 gg_1 rfl ?_
    refine zr_iload_n (i := 1) (x := a1) (n := 13) d_Tree_messageLength_12 rfl rfl rfl ?_
    refine zr_iaload j1 (n := 14) d_Tree_messageLength_13 rfl gg_5 (o2 h2) ?_
    refine zr_goto (tgt := 24) d_Tree_messageLength_14 (by decide) ?_
    exact zr_ireturn d_Tree_messageLength_24 rfl rfl (Nat.le_refl _) (Nat.le_refl _) (l2 h2)
theorem s_Tree_messageLength_23 {d : Nat} {Q : zm_Q} {S : zm_S} {b0 r : Int32}
    (l1 : Q (some (b0 * r)) GG S) :
    zw M_Tree_messageLength (d + 1) Q 23 [none, none] [.int r, .int b0] S := by
  refine zr_imul (n := 24) d_Tree_messageLength_23 rfl ?_
  exact zr_ireturn d_Tree_messageLength_24 rfl rfl (Nat.le_refl _) (Nat.le_refl _) l1
theorem e_Tree_messageLength {d : Nat} {Q : zm_Q} {S : zm_S} {a1 : Int32} (h : zw M_Tree_messageLength (d + 1) Q 0 [some (.ref 1), some (.int a1)] [] S) : zc M_Tree_messageLength (d + 1) [.ref 1, .int a1] S Q := zm_CC_intro (by decide) rfl rfl h
theorem s_Tree_entryAfter_0 {d : Nat} {Q : zm_Q} {S : zm_S} {a1 a2 : Int32}
    (l1 : zw M_Tree_entryAfter d Q 5 [some (.ref 1), some (.int a1), some (.int a2), some (.int (-1)), some (.int 1), none] [] S) :
    zw M_Tree_entryAfter d Q 0 [some (.ref 1), some (.int a1), some (.int a2), none, none, none] [] S := by
  refine zr_iconst (v := (-1)) (n := 1) d_Tree_entryAfter_0 rfl (by decide) ?_
  refine zr_istore_n (i := 3) (L' := [some (.ref 1), some (.int a1), some (.int a2), some (.int (-1)), none, none]) (n := 2) d_Tree_entryAfter_1 rfl rfl rfl rfl ?_
  refine zr_iconst (v := 1) (n := 3) d_Tree_entryAfter_2 rfl (by decide) ?_
  refine zr_istore (i := 4) (L' := [some (.ref 1), some (.int a1), some (.int a2), some (.int (-1)), some (.int 1), none]) (n := 5) d_Tree_entryAfter_3 rfl rfl rfl ?_
  exact l1
theorem s_Tree_entryAfter_5 {d : Nat} {Q : zm_Q} {S : zm_S} {a1 a2 a3 a4 : Int32} (j1 : Nat) (j2 : Nat) (o1 : ¬ 12 ≤ a4 → zm_ix a4 j1 12) (o2 : ¬ 12 ≤ a4 → (S 3 j1) = a1 → ¬ (S 4 j1) ≤ a2 → ¬ a3 = (-1) → zm_ix a3 j2 12)
    (l1 : 12 ≤ a4 → Q (some a3) GG S)
    (l2 : ((¬ 12 ≤ a4 ∧ ¬ (S 3 j1) = a1) ∨ (¬ 12 ≤ a4 ∧ (S 3 j1) = a1 ∧ (S 4 j1) ≤ a2) ∨ (¬ 12 ≤ a4 ∧ (S 3 j1) = a1 ∧ ¬ (S 4 j1) ≤ a2 ∧ ¬ a3 = (-1) ∧ (S 4 j2) ≤ (S 4 j1))) → zw M_Tree_entryAfter d Q 5 [some (.ref 1), some (.int a1), some (.int a2), some (.int a3), some (.int (a4 + 1)), none] [] S)
    (l3 : ((¬ 12 ≤ a4 ∧ (S 3 j1) = a1 ∧ ¬ (S 4 j1) ≤ a2 ∧ a3 = (-1)) ∨ (¬ 12 ≤ a4 ∧ (S 3 j1) = a1 ∧ ¬ (S 4 j1) ≤ a2 ∧ ¬ a3 = (-1) ∧ ¬ (S 4 j2) ≤ (S 4 j1))) → zw M_Tree_entryAfter d Q 5 [some (.ref 1), some (.int a1), some (.int a2), some (.int a4), some (.int (a4 + 1)), none] [] S) :
    zw M_Tree_entryAfter d Q 5 [some (.ref 1), some (.int a1), some (.int a2), some (.int a3), some (.int a4), none] [] S := by
  refine zr_iload (i := 4) (x := a4) (n := 7) d_Tree_entryAfter_5 rfl rfl ?_
  refine zr_bipush (v := 12) (n := 9) d_Tree_entryAfter_7 rfl (by decide) ?_
  refine zr_icmp_ge (tgt := 76) (n := 12) d_Tree_entryAfter_9 rfl (by decide) (fun h1 => ?_) (fun h1 => ?_)
  · refine zr_iload_n (i := 3) (x := a3) (n := 77) d_Tree_entryAfter_76 rfl rfl rfl ?_
    exact zr_ireturn d_Tree_entryAfter_77 rfl rfl (Nat.le_refl _) (Nat.le_refl _) (l1 h1)
  · refine zr_aload_n (i := 0) (x := 1) (n := 13) d_Tree_entryAfter_12 rfl rfl rfl ?_
    refine zr_getr (n := 16) d_Tree_entryAfter_13 rfl f_Tree_15 gg_1 rfl ?_
    refine zr_iload (i := 4) (x := a4) (n := 18) d_Tree_entryAfter_16 rfl rfl ?_
    refine zr_iaload j1 (n := 19) d_Tree_entryAfter_18 rfl gg_3 (o1 h1) ?_
    refine zr_iload_n (i := 1) (x := a1) (n := 20) d_Tree_entryAfter_19 rfl rfl rfl ?_
    refine zr_icmp_ne (tgt := 38) (n := 23) d_Tree_entryAfter_20 rfl (by decide) (fun h2 => ?_) (fun h2 => ?_)
    · refine zr_iconst (v := 0) (n := 39) d_Tree_entryAfter_38 rfl (by decide) ?_
      refine zr_istore (i := 5) (L' := [some (.ref 1), some (.int a1), some (.int a2), some (.int a3), some (.int a4), some (.int 0)]) (n := 41) d_Tree_entryAfter_39 rfl rfl rfl ?_
      refine zr_iload (i := 5) (x := 0) (n := 43) d_Tree_entryAfter_41 rfl rfl ?_
      refine zr_if_eq (tgt := 70) (n := 46) d_Tree_entryAfter_43 rfl (by decide) (fun _ => ?_) (fun h => absurd h (by decide))
      refine zr_iinc (i := 4) (w := 1) (x := a4) (L' := [some (.ref 1), some (.int a1), some (.int a2), some (.int a3), some (.int (a4 + 1)), some (.int 0)]) (n := 73) d_Tree_entryAfter_70 rfl (by decide) rfl rfl ?_
      refine zr_goto (tgt := 5) d_Tree_entryAfter_73 (by decide) ?_
      exact zr_weak (zm_LE.cons (zm_LE.cons (zm_LE.cons (zm_LE.cons (zm_LE.cons (zm_LE.skip zm_LE.nil)))))) (l2 (Or.inl ⟨h1, h2⟩))
    · refine zr_aload_n (i := 0) (x := 1) (n := 24) d_Tree_entryAfter_23 rfl rfl rfl ?_
      refine zr_getr (n := 27) d_Tree_entryAfter_24 rfl f_Tree_18 gg_1 rfl ?_
      refine zr_iload (i := 4) (x := a4) (n := 29) d_Tree_entryAfter_27 rfl rfl ?_
      refine zr_iaload j1 (n := 30) d_Tree_entryAfter_29 rfl gg_4 (o1 h1) ?_
      refine zr_iload_n (i := 2) (x := a2) (n := 31) d_Tree_entryAfter_30 rfl rfl rfl ?_
      refine zr_icmp_le (tgt := 38) (n := 34) d_Tree_entryAfter_31 rfl (by decide) (fun h3 => ?_) (fun h3 => ?_)
      · refine zr_iconst (v := 0) (n := 39) d_Tree_entryAfter_38 rfl (by decide) ?_
        refine zr_istore (i := 5) (L' := [some (.ref 1), some (.int a1), some (.int a2), some (.int a3), some (.int a4), some (.int 0)]) (n := 41) d_Tree_entryAfter_39 rfl rfl rfl ?_
        refine zr_iload (i := 5) (x := 0) (n := 43) d_Tree_entryAfter_41 rfl rfl ?_
        refine zr_if_eq (tgt := 70) (n := 46) d_Tree_entryAfter_43 rfl (by decide) (fun _ => ?_) (fun h => absurd h (by decide))
        refine zr_iinc (i := 4) (w := 1) (x := a4) (L' := [some (.ref 1), some (.int a1), some (.int a2), some (.int a3), some (.int (a4 + 1)), some (.int 0)]) (n := 73) d_Tree_entryAfter_70 rfl (by decide) rfl rfl ?_
        refine zr_goto (tgt := 5) d_Tree_entryAfter_73 (by decide) ?_
        exact zr_weak (zm_LE.cons (zm_LE.cons (zm_LE.cons (zm_LE.cons (zm_LE.cons (zm_LE.skip zm_LE.nil)))))) (l2 (Or.inr (Or.inl ⟨h1, h2, h3⟩)))
      · refine zr_iconst (v := 1) (n := 35) d_Tree_entryAfter_34 rfl (by decide) ?_
        refine zr_goto (tgt := 39) d_Tree_entryAfter_35 (by decide) ?_
        refine zr_istore (i := 5) (L' := [some (.ref 1), some (.int a1), some (.int a2), some (.int a3), some (.int a4), some (.int 1)]) (n := 41) d_Tree_entryAfter_39 rfl rfl rfl ?_
        refine zr_iload (i := 5) (x := 1) (n := 43) d_Tree_entryAfter_41 rfl rfl ?_
        refine zr_if_eq (tgt := 70) (n := 46) d_Tree_entryAfter_43 rfl (by decide) (fun h => absurd h (by decide)) (fun _ => ?_)
        refine zr_iload_n (i := 3) (x := a3) (n := 47) d_Tree_entryAfter_46 rfl rfl rfl ?_
        refine zr_iconst (v := (-1)) (n := 48) d_Tree_entryAfter_47 rfl (by decide) ?_
        refine zr_icmp_eq (tgt := 67) (n := 51) d_Tree_entryAfter_48 rfl (by decide) (fun h4 => ?_) (fun h4 => ?_)
        · refine zr_iload (i := 4) (x := a4) (n := 69) d_Tree_entryAfter_67 rfl rfl ?_
          refine zr_istore_n (i := 3) (L' := [some (.ref 1), some (.int a1), some (.int a2), some (.int a4), some (.int a4), some (.int 1)]) (n := 70) d_Tree_entryAfter_69 rfl rfl rfl rfl ?_
          refine zr_iinc (i := 4) (w := 1) (x := a4) (L' := [some (.ref 1), some (.int a1), some (.int a2), some (.int a4), some (.int (a4 + 1)), some (.int 1)]) (n := 73) d_Tree_entryAfter_70 rfl (by decide) rfl rfl ?_
          refine zr_goto (tgt := 5) d_Tree_entryAfter_73 (by decide) ?_
          exact zr_weak (zm_LE.cons (zm_LE.cons (zm_LE.cons (zm_LE.cons (zm_LE.cons (zm_LE.skip zm_LE.nil)))))) (l3 (Or.inl ⟨h1, h2, h3, h4⟩))
        · refine zr_aload_n (i := 0) (x := 1) (n := 52) d_Tree_entryAfter_51 rfl rfl rfl ?_
          refine zr_getr (n := 55) d_Tree_entryAfter_52 rfl f_Tree_18 gg_1 rfl ?_
          refine zr_iload (i := 4) (x := a4) (n := 57) d_Tree_entryAfter_55 rfl rfl ?_
          refine zr_iaload j1 (n := 58) d_Tree_entryAfter_57 rfl gg_4 (o1 h1) ?_
          refine zr_aload_n (i := 0) (x := 1) (n := 59) d_Tree_entryAfter_58 rfl rfl rfl ?_
          refine zr_getr (n := 62) d_Tree_entryAfter_59 rfl f_Tree_18 gg_1 rfl ?_
          refine zr_iload_n (i := 3) (x := a3) (n := 63) d_Tree_entryAfter_62 rfl rfl rfl ?_
          refine zr_iaload j2 (n := 64) d_Tree_entryAfter_63 rfl gg_4 (o2 h1 h2 h3 h4) ?_
          refine zr_icmp_ge (tgt := 70) (n := 67) d_Tree_entryAfter_64 rfl (by decide) (fun h5 => ?_) (fun h5 => ?_)
          · refine zr_iinc (i := 4) (w := 1) (x := a4) (L' := [some (.ref 1), some (.int a1), some (.int a2), some (.int a3), some (.int (a4 + 1)), some (.int 1)]) (n := 73) d_Tree_entryAfter_70 rfl (by decide) rfl rfl ?_
            refine zr_goto (tgt := 5) d_Tree_entryAfter_73 (by decide) ?_
            exact zr_weak (zm_LE.cons (zm_LE.cons (zm_LE.cons (zm_LE.cons (zm_LE.cons (zm_LE.skip zm_LE.nil)))))) (l2 (Or.inr (Or.inr ⟨h1, h2, h3, h4, h5⟩)))
          · refine zr_iload (i := 4) (x := a4) (n := 69) d_Tree_entryAfter_67 rfl rfl ?_
            refine zr_istore_n (i := 3) (L' := [some (.ref 1), some (.int a1), some (.int a2), some (.int a4), some (.int a4), some (.int 1)]) (n := 70) d_Tree_entryAfter_69 rfl rfl rfl rfl ?_
            refine zr_iinc (i := 4) (w := 1) (x := a4) (L' := [some (.ref 1), some (.int a1), some (.int a2), some (.int a4), some (.int (a4 + 1)), some (.int 1)]) (n := 73) d_Tree_entryAfter_70 rfl (by decide) rfl rfl ?_
            refine zr_goto (tgt := 5) d_Tree_entryAfter_73 (by decide) ?_
            exact zr_weak (zm_LE.cons (zm_LE.cons (zm_LE.cons (zm_LE.cons (zm_LE.cons (zm_LE.skip zm_LE.nil)))))) (l3 (Or.inr ⟨h1, h2, h3, h4, h5⟩))
theorem e_Tree_entryAfter {d : Nat} {Q : zm_Q} {S : zm_S} {a1 a2 : Int32} (h : zw M_Tree_entryAfter d Q 0 [some (.ref 1), some (.int a1), some (.int a2), none, none, none] [] S) : zc M_Tree_entryAfter d [.ref 1, .int a1, .int a2] S Q := zm_CC_intro (by decide) rfl rfl h
theorem s_Tree_followerOf_0 {d : Nat} {Q : zm_Q} {S : zm_S} {a1 : Int32}
    (l1 : zc M_Tree_entryAfter d [.ref 1, .int a1, .int 0] S (fun v G' S' => zm_WP M_Tree_followerOf none (d + 1) 0 0 Q 6 [some (.ref 1), some (.int a1), none, none, none] (zm_ps v []) G' S' 0 0)) :
    zw M_Tree_followerOf (d + 1) Q 0 [some (.ref 1), some (.int a1), none, none, none] [] S := by
  refine zr_aload_n (i := 0) (x := 1) (n := 1) d_Tree_followerOf_0 rfl rfl rfl ?_
  refine zr_iload_n (i := 1) (x := a1) (n := 2) d_Tree_followerOf_1 rfl rfl rfl ?_
  refine zr_iconst (v := 0) (n := 3) d_Tree_followerOf_2 rfl (by decide) ?_
  refine zr_callV (M' := M_Tree_entryAfter) (mc' := 0) (ms' := 0) (av := [.int a1, .int 0]) (rest := []) (n := 6) d_Tree_followerOf_3 rfl w_Tree_44 w_Tree_44k gg_1 rfl rfl rfl rfl rfl rfl (Nat.le_refl _) (Nat.le_refl _) ?_
  exact l1
theorem s_Tree_followerOf_6 {d : Nat} {Q : zm_Q} {S : zm_S} {a1 r : Int32}
    (l1 : zw M_Tree_followerOf (d + 1) Q 12 [some (.ref 1), none, some (.int r), some (.int a1), some (.int 0)] [] S) :
    zw M_Tree_followerOf (d + 1) Q 6 [some (.ref 1), some (.int a1), none, none, none] [.int r] S := by
  refine zr_istore_n (i := 2) (L' := [some (.ref 1), some (.int a1), some (.int r), none, none]) (n := 7) d_Tree_followerOf_6 rfl rfl rfl rfl ?_
  refine zr_iload_n (i := 1) (x := a1) (n := 8) d_Tree_followerOf_7 rfl rfl rfl ?_
  refine zr_istore_n (i := 3) (L' := [some (.ref 1), some (.int a1), some (.int r), some (.int a1), none]) (n := 9) d_Tree_followerOf_8 rfl rfl rfl rfl ?_
  refine zr_iconst (v := 0) (n := 10) d_Tree_followerOf_9 rfl (by decide) ?_
  refine zr_istore (i := 4) (L' := [some (.ref 1), some (.int a1), some (.int r), some (.int a1), some (.int 0)]) (n := 12) d_Tree_followerOf_10 rfl rfl rfl ?_
  exact zr_weak (zm_LE.cons (zm_LE.skip (zm_LE.cons (zm_LE.cons (zm_LE.cons zm_LE.nil))))) l1
theorem s_Tree_followerOf_12 {d : Nat} {Q : zm_Q} {S : zm_S} {a2 a3 a4 : Int32} (j1 : Nat) (o1 : ¬ 12 ≤ a4 → a2 = (-1) → ¬ a3 ≤ 0 → zm_ix a3 j1 12)
    (l1 : ((12 ≤ a4) ∨ (¬ 12 ≤ a4 ∧ ¬ a2 = (-1)) ∨ (¬ 12 ≤ a4 ∧ a2 = (-1) ∧ a3 ≤ 0)) → Q (some a2) GG S)
    (l2 : ¬ 12 ≤ a4 → a2 = (-1) → ¬ a3 ≤ 0 → zc M_Tree_entryAfter d [.ref 1, .int (S 3 j1), .int (S 4 j1)] S (fun v G' S' => zm_WP M_Tree_followerOf none (d + 1) 0 0 Q 44 [some (.ref 1), none, none, some (.int a3), some (.int a4)] (zm_ps v []) G' S' 0 0)) :
    zw M_Tree_followerOf (d + 1) Q 12 [some (.ref 1), none, some (.int a2), some (.int a3), some (.int a4)] [] S := by
  refine zr_iload (i := 4) (x := a4) (n := 14) d_Tree_followerOf_12 rfl rfl ?_
  refine zr_bipush (v := 12) (n := 16) d_Tree_followerOf_14 rfl (by decide) ?_
  refine zr_icmp_ge (tgt := 58) (n := 19) d_Tree_followerOf_16 rfl (by decide) (fun h1 => ?_) (fun h1 => ?_)
  · refine zr_iload_n (i := 2) (x := a2) (n := 59) d_Tree_followerOf_58 rfl rfl rfl ?_
    exact zr_ireturn d_Tree_followerOf_59 rfl rfl (Nat.le_refl _) (Nat.le_refl _) (l1 (Or.inl h1))
  · refine zr_iload_n (i := 2) (x := a2) (n := 20) d_Tree_followerOf_19 rfl rfl rfl ?_
    refine zr_iconst (v := (-1)) (n := 21) d_Tree_followerOf_20 rfl (by decide) ?_
    refine zr_icmp_ne (tgt := 58) (n := 24) d_Tree_followerOf_21 rfl (by decide) (fun h2 => ?_) (fun h2 => ?_)
    · refine zr_iload_n (i := 2) (x := a2) (n := 59) d_Tree_followerOf_58 rfl rfl rfl ?_
      exact zr_ireturn d_Tree_followerOf_59 rfl rfl (Nat.le_refl _) (Nat.le_refl _) (l1 (Or.inr (Or.inl ⟨h1, h2⟩)))
    · refine zr_iload_n (i := 3) (x := a3) (n := 25) d_Tree_followerOf_24 rfl rfl rfl ?_
      refine zr_if_le (tgt := 58) (n := 28) d_Tree_followerOf_25 rfl (by decide) (fun h3 => ?_) (fun h3 => ?_)
      · refine zr_iload_n (i := 2) (x := a2) (n := 59) d_Tree_followerOf_58 rfl rfl rfl ?_
        exact zr_ireturn d_Tree_followerOf_59 rfl rfl (Nat.le_refl _) (Nat.le_refl _) (l1 (Or.inr (Or.inr ⟨h1, h2, h3⟩)))
      · refine zr_aload_n (i := 0) (x := 1) (n := 29) d_Tree_followerOf_28 rfl rfl rfl ?_
        refine zr_aload_n (i := 0) (x := 1) (n := 30) d_Tree_followerOf_29 rfl rfl rfl ?_
        refine zr_getr (n := 33) d_Tree_followerOf_30 rfl f_Tree_15 gg_1 rfl ?_
        refine zr_iload_n (i := 3) (x := a3) (n := 34) d_Tree_followerOf_33 rfl rfl rfl ?_
        refine zr_iaload j1 (n := 35) d_Tree_followerOf_34 rfl gg_3 (o1 h1 h2 h3) ?_
        refine zr_aload_n (i := 0) (x := 1) (n := 36) d_Tree_followerOf_35 rfl rfl rfl ?_
        refine zr_getr (n := 39) d_Tree_followerOf_36 rfl f_Tree_18 gg_1 rfl ?_
        refine zr_iload_n (i := 3) (x := a3) (n := 40) d_Tree_followerOf_39 rfl rfl rfl ?_
        refine zr_iaload j1 (n := 41) d_Tree_followerOf_40 rfl gg_4 (o1 h1 h2 h3) ?_
        refine zr_weak (zm_LE.cons (zm_LE.cons (zm_LE.skip (zm_LE.cons (zm_LE.cons zm_LE.nil))))) ?_
        refine zr_callV (M' := M_Tree_entryAfter) (mc' := 0) (ms' := 0) (av := [.int (S 3 j1), .int (S 4 j1)]) (rest := []) (n := 44) d_Tree_followerOf_41 rfl w_Tree_44 w_Tree_44k gg_1 rfl rfl rfl rfl rfl rfl (Nat.le_refl _) (Nat.le_refl _) ?_
        exact (l2 h1 h2 h3)
theorem s_Tree_followerOf_44 {d : Nat} {Q : zm_Q} {S : zm_S} {a3 a4 r : Int32} (j1 : Nat) (o1 : zm_ix a3 j1 12)
    (l1 : zw M_Tree_followerOf (d + 1) Q 12 [some (.ref 1), none, some (.int r), some (.int (S 3 j1)), some (.int (a4 + 1))] [] S) :
    zw M_Tree_followerOf (d + 1) Q 44 [some (.ref 1), none, none, some (.int a3), some (.int a4)] [.int r] S := by
  refine zr_istore_n (i := 2) (L' := [some (.ref 1), none, some (.int r), some (.int a3), some (.int a4)]) (n := 45) d_Tree_followerOf_44 rfl rfl rfl rfl ?_
  refine zr_aload_n (i := 0) (x := 1) (n := 46) d_Tree_followerOf_45 rfl rfl rfl ?_
  refine zr_getr (n := 49) d_Tree_followerOf_46 rfl f_Tree_15 gg_1 rfl ?_
  refine zr_iload_n (i := 3) (x := a3) (n := 50) d_Tree_followerOf_49 rfl rfl rfl ?_
  refine zr_iaload j1 (n := 51) d_Tree_followerOf_50 rfl gg_3 o1 ?_
  refine zr_istore_n (i := 3) (L' := [some (.ref 1), none, some (.int r), some (.int (S 3 j1)), some (.int a4)]) (n := 52) d_Tree_followerOf_51 rfl rfl rfl rfl ?_
  refine zr_iinc (i := 4) (w := 1) (x := a4) (L' := [some (.ref 1), none, some (.int r), some (.int (S 3 j1)), some (.int (a4 + 1))]) (n := 55) d_Tree_followerOf_52 rfl (by decide) rfl rfl ?_
  refine zr_goto (tgt := 12) d_Tree_followerOf_55 (by decide) ?_
  exact l1
theorem e_Tree_followerOf {d : Nat} {Q : zm_Q} {S : zm_S} {a1 : Int32} (h : zw M_Tree_followerOf (d + 1) Q 0 [some (.ref 1), some (.int a1), none, none, none] [] S) : zc M_Tree_followerOf (d + 1) [.ref 1, .int a1] S Q := zm_CC_intro (by decide) rfl rfl h
theorem s_Arr_fill_0 {d : Nat} {Q : zm_Q} {S : zm_S} {a1 : Int32} {ra N : Nat} (hg : GG[ra]? = some (.inl (false, N)))
    (l1 : zw M_Arr_fill d Q 5 [some (.ref ra), some (.int a1), some (.int 0), some (.int (nI N))] [] S) :
    zw M_Arr_fill d Q 0 [some (.ref ra), some (.int a1), none, none] [] S := by
  refine zr_iconst (v := 0) (n := 1) d_Arr_fill_0 rfl (by decide) ?_
  refine zr_istore_n (i := 2) (L' := [some (.ref ra), some (.int a1), some (.int 0), none]) (n := 2) d_Arr_fill_1 rfl rfl rfl rfl ?_
  refine zr_aload_n (i := 0) (x := ra) (n := 3) d_Arr_fill_2 rfl rfl rfl ?_
  refine zr_alen (v := nI N) (n := 4) d_Arr_fill_3 rfl hg rfl ?_
  refine zr_istore_n (i := 3) (L' := [some (.ref ra), some (.int a1), some (.int 0), some (.int (nI N))]) (n := 5) d_Arr_fill_4 rfl rfl rfl rfl ?_
  exact l1
theorem s_Arr_fill_5 {d : Nat} {Q : zm_Q} {S : zm_S} {a1 a2 a3 : Int32} {ra N : Nat} (hg : GG[ra]? = some (.inl (false, N))) (j1 : Nat) (o1 : ¬ a3 ≤ a2 → zm_ix a2 j1 N)
    (l1 : a3 ≤ a2 → Q none GG S)
    (l2 : ¬ a3 ≤ a2 → zw M_Arr_fill d Q 5 [some (.ref ra), some (.int a1), some (.int (a2 + 1)), some (.int a3)] [] (zm_up S ra j1 a1)) :
    zw M_Arr_fill d Q 5 [some (.ref ra), some (.int a1), some (.int a2), some (.int a3)] [] S := by
  refine zr_iload_n (i := 2) (x := a2) (n := 6) d_Arr_fill_5 rfl rfl rfl ?_
  refine zr_iload_n (i := 3) (x := a3) (n := 7) d_Arr_fill_6 rfl rfl rfl ?_
  refine zr_icmp_ge (tgt := 20) (n := 10) d_Arr_fill_7 rfl (by decide) (fun h1 => ?_) (fun h1 => ?_)
  · exact zr_return d_Arr_fill_20 rfl (Nat.le_refl _) (Nat.le_refl _) (l1 h1)
  · refine zr_aload_n (i := 0) (x := ra) (n := 11) d_Arr_fill_10 rfl rfl rfl ?_
    refine zr_iload_n (i := 2) (x := a2) (n := 12) d_Arr_fill_11 rfl rfl rfl ?_
    refine zr_iload_n (i := 1) (x := a1) (n := 13) d_Arr_fill_12 rfl rfl rfl ?_
    refine zr_iastore j1 (n := 14) d_Arr_fill_13 rfl hg (o1 h1) ?_
    refine zr_iinc (i := 2) (w := 1) (x := a2) (L' := [some (.ref ra), some (.int a1), some (.int (a2 + 1)), some (.int a3)]) (n := 17) d_Arr_fill_14 rfl (by decide) rfl rfl ?_
    refine zr_goto (tgt := 5) d_Arr_fill_17 (by decide) ?_
    exact (l2 h1)
theorem e_Arr_fill {d : Nat} {Q : zm_Q} {S : zm_S} {a1 : Int32} {ra : Nat} (h : zw M_Arr_fill d Q 0 [some (.ref ra), some (.int a1), none, none] [] S) : zc M_Arr_fill d [.ref ra, .int a1] S Q := zm_CC_intro (by decide) rfl rfl h
theorem s_Int_bitCount_0 {d : Nat} {Q : zm_Q} {S : zm_S} {a0 : Int32}
    (l1 : Q (some ((((((((a0 - (((Int32.toUInt32 a0 >>> (Int32.toUInt32 1 &&& Int32.toUInt32 31)).toInt32) &&& 1431655765)) &&& 858993459) + (((Int32.toUInt32 (a0 - (((Int32.toUInt32 a0 >>> (Int32.toUInt32 1 &&& Int32.toUInt32 31)).toInt32) &&& 1431655765)) >>> (Int32.toUInt32 2 &&& Int32.toUInt32 31)).toInt32) &&& 858993459)) + ((Int32.toUInt32 (((a0 - (((Int32.toUInt32 a0 >>> (Int32.toUInt32 1 &&& Int32.toUInt32 31)).toInt32) &&& 1431655765)) &&& 858993459) + (((Int32.toUInt32 (a0 - (((Int32.toUInt32 a0 >>> (Int32.toUInt32 1 &&& Int32.toUInt32 31)).toInt32) &&& 1431655765)) >>> (Int32.toUInt32 2 &&& Int32.toUInt32 31)).toInt32) &&& 858993459)) >>> (Int32.toUInt32 4 &&& Int32.toUInt32 31)).toInt32)) &&& 252645135) + ((Int32.toUInt32 (((((a0 - (((Int32.toUInt32 a0 >>> (Int32.toUInt32 1 &&& Int32.toUInt32 31)).toInt32) &&& 1431655765)) &&& 858993459) + (((Int32.toUInt32 (a0 - (((Int32.toUInt32 a0 >>> (Int32.toUInt32 1 &&& Int32.toUInt32 31)).toInt32) &&& 1431655765)) >>> (Int32.toUInt32 2 &&& Int32.toUInt32 31)).toInt32) &&& 858993459)) + ((Int32.toUInt32 (((a0 - (((Int32.toUInt32 a0 >>> (Int32.toUInt32 1 &&& Int32.toUInt32 31)).toInt32) &&& 1431655765)) &&& 858993459) + (((Int32.toUInt32 (a0 - (((Int32.toUInt32 a0 >>> (Int32.toUInt32 1 &&& Int32.toUInt32 31)).toInt32) &&& 1431655765)) >>> (Int32.toUInt32 2 &&& Int32.toUInt32 31)).toInt32) &&& 858993459)) >>> (Int32.toUInt32 4 &&& Int32.toUInt32 31)).toInt32)) &&& 252645135) >>> (Int32.toUInt32 8 &&& Int32.toUInt32 31)).toInt32)) + ((Int32.toUInt32 ((((((a0 - (((Int32.toUInt32 a0 >>> (Int32.toUInt32 1 &&& Int32.toUInt32 31)).toInt32) &&& 1431655765)) &&& 858993459) + (((Int32.toUInt32 (a0 - (((Int32.toUInt32 a0 >>> (Int32.toUInt32 1 &&& Int32.toUInt32 31)).toInt32) &&& 1431655765)) >>> (Int32.toUInt32 2 &&& Int32.toUInt32 31)).toInt32) &&& 858993459)) + ((Int32.toUInt32 (((a0 - (((Int32.toUInt32 a0 >>> (Int32.toUInt32 1 &&& Int32.toUInt32 31)).toInt32) &&& 1431655765)) &&& 858993459) + (((Int32.toUInt32 (a0 - (((Int32.toUInt32 a0 >>> (Int32.toUInt32 1 &&& Int32.toUInt32 31)).toInt32) &&& 1431655765)) >>> (Int32.toUInt32 2 &&& Int32.toUInt32 31)).toInt32) &&& 858993459)) >>> (Int32.toUInt32 4 &&& Int32.toUInt32 31)).toInt32)) &&& 252645135) + ((Int32.toUInt32 (((((a0 - (((Int32.toUInt32 a0 >>> (Int32.toUInt32 1 &&& Int32.toUInt32 31)).toInt32) &&& 1431655765)) &&& 858993459) + (((Int32.toUInt32 (a0 - (((Int32.toUInt32 a0 >>> (Int32.toUInt32 1 &&& Int32.toUInt32 31)).toInt32) &&& 1431655765)) >>> (Int32.toUInt32 2 &&& Int32.toUInt32 31)).toInt32) &&& 858993459)) + ((Int32.toUInt32 (((a0 - (((Int32.toUInt32 a0 >>> (Int32.toUInt32 1 &&& Int32.toUInt32 31)).toInt32) &&& 1431655765)) &&& 858993459) + (((Int32.toUInt32 (a0 - (((Int32.toUInt32 a0 >>> (Int32.toUInt32 1 &&& Int32.toUInt32 31)).toInt32) &&& 1431655765)) >>> (Int32.toUInt32 2 &&& Int32.toUInt32 31)).toInt32) &&& 858993459)) >>> (Int32.toUInt32 4 &&& Int32.toUInt32 31)).toInt32)) &&& 252645135) >>> (Int32.toUInt32 8 &&& Int32.toUInt32 31)).toInt32)) >>> (Int32.toUInt32 16 &&& Int32.toUInt32 31)).toInt32)) &&& 63)) GG S) :
    zw M_Int_bitCount d Q 0 [some (.int a0)] [] S := by
  refine zr_iload_n (i := 0) (x := a0) (n := 1) d_Int_bitCount_0 rfl rfl rfl ?_
  refine zr_iload_n (i := 0) (x := a0) (n := 2) d_Int_bitCount_1 rfl rfl rfl ?_
  refine zr_iconst (v := 1) (n := 3) d_Int_bitCount_2 rfl (by decide) ?_
  refine zr_iushr (n := 4) d_Int_bitCount_3 rfl ?_
  refine zr_ldcw (v := 1431655765) (n := 7) d_Int_bitCount_4 rfl k_Int_265 ?_
  refine zr_iand (n := 8) d_Int_bitCount_7 rfl ?_
  refine zr_isub (n := 9) d_Int_bitCount_8 rfl ?_
  refine zr_istore_n (i := 0) (L' := [some (.int (a0 - (((Int32.toUInt32 a0 >>> (Int32.toUInt32 1 &&& Int32.toUInt32 31)).toInt32) &&& 1431655765)))]) (n := 10) d_Int_bitCount_9 rfl rfl rfl rfl ?_
  refine zr_iload_n (i := 0) (x := (a0 - (((Int32.toUInt32 a0 >>> (Int32.toUInt32 1 &&& Int32.toUInt32 31)).toInt32) &&& 1431655765))) (n := 11) d_Int_bitCount_10 rfl rfl rfl ?_
  refine zr_ldcw (v := 858993459) (n := 14) d_Int_bitCount_11 rfl k_Int_266 ?_
  refine zr_iand (n := 15) d_Int_bitCount_14 rfl ?_
  refine zr_iload_n (i := 0) (x := (a0 - (((Int32.toUInt32 a0 >>> (Int32.toUInt32 1 &&& Int32.toUInt32 31)).toInt32) &&& 1431655765))) (n := 16) d_Int_bitCount_15 rfl rfl rfl ?_
  refine zr_iconst (v := 2) (n := 17) d_Int_bitCount_16 rfl (by decide) ?_
  refine zr_iushr (n := 18) d_Int_bitCount_17 rfl ?_
  refine zr_ldcw (v := 858993459) (n := 21) d_Int_bitCount_18 rfl k_Int_266 ?_
  refine zr_iand (n := 22) d_Int_bitCount_21 rfl ?_
  refine zr_iadd (n := 23) d_Int_bitCount_22 rfl ?_
  refine zr_istore_n (i := 0) (L' := [some (.int (((a0 - (((Int32.toUInt32 a0 >>> (Int32.toUInt32 1 &&& Int32.toUInt32 31)).toInt32) &&& 1431655765)) &&& 858993459) + (((Int32.toUInt32 (a0 - (((Int32.toUInt32 a0 >>> (Int32.toUInt32 1 &&& Int32.toUInt32 31)).toInt32) &&& 1431655765)) >>> (Int32.toUInt32 2 &&& Int32.toUInt32 31)).toInt32) &&& 858993459)))]) (n := 24) d_Int_bitCount_23 rfl rfl rfl rfl ?_
  refine zr_iload_n (i := 0) (x := (((a0 - (((Int32.toUInt32 a0 >>> (Int32.toUInt32 1 &&& Int32.toUInt32 31)).toInt32) &&& 1431655765)) &&& 858993459) + (((Int32.toUInt32 (a0 - (((Int32.toUInt32 a0 >>> (Int32.toUInt32 1 &&& Int32.toUInt32 31)).toInt32) &&& 1431655765)) >>> (Int32.toUInt32 2 &&& Int32.toUInt32 31)).toInt32) &&& 858993459))) (n := 25) d_Int_bitCount_24 rfl rfl rfl ?_
  refine zr_iload_n (i := 0) (x := (((a0 - (((Int32.toUInt32 a0 >>> (Int32.toUInt32 1 &&& Int32.toUInt32 31)).toInt32) &&& 1431655765)) &&& 858993459) + (((Int32.toUInt32 (a0 - (((Int32.toUInt32 a0 >>> (Int32.toUInt32 1 &&& Int32.toUInt32 31)).toInt32) &&& 1431655765)) >>> (Int32.toUInt32 2 &&& Int32.toUInt32 31)).toInt32) &&& 858993459))) (n := 26) d_Int_bitCount_25 rfl rfl rfl ?_
  refine zr_iconst (v := 4) (n := 27) d_Int_bitCount_26 rfl (by decide) ?_
  refine zr_iushr (n := 28) d_Int_bitCount_27 rfl ?_
  refine zr_iadd (n := 29) d_Int_bitCount_28 rfl ?_
  refine zr_ldcw (v := 252645135) (n := 32) d_Int_bitCount_29 rfl k_Int_267 ?_
  refine zr_iand (n := 33) d_Int_bitCount_32 rfl ?_
  refine zr_istore_n (i := 0) (L' := [some (.int (((((a0 - (((Int32.toUInt32 a0 >>> (Int32.toUInt32 1 &&& Int32.toUInt32 31)).toInt32) &&& 1431655765)) &&& 858993459) + (((Int32.toUInt32 (a0 - (((Int32.toUInt32 a0 >>> (Int32.toUInt32 1 &&& Int32.toUInt32 31)).toInt32) &&& 1431655765)) >>> (Int32.toUInt32 2 &&& Int32.toUInt32 31)).toInt32) &&& 858993459)) + ((Int32.toUInt32 (((a0 - (((Int32.toUInt32 a0 >>> (Int32.toUInt32 1 &&& Int32.toUInt32 31)).toInt32) &&& 1431655765)) &&& 858993459) + (((Int32.toUInt32 (a0 - (((Int32.toUInt32 a0 >>> (Int32.toUInt32 1 &&& Int32.toUInt32 31)).toInt32) &&& 1431655765)) >>> (Int32.toUInt32 2 &&& Int32.toUInt32 31)).toInt32) &&& 858993459)) >>> (Int32.toUInt32 4 &&& Int32.toUInt32 31)).toInt32)) &&& 252645135))]) (n := 34) d_Int_bitCount_33 rfl rfl rfl rfl ?_
  refine zr_iload_n (i := 0) (x := (((((a0 - (((Int32.toUInt32 a0 >>> (Int32.toUInt32 1 &&& Int32.toUInt32 31)).toInt32) &&& 1431655765)) &&& 858993459) + (((Int32.toUInt32 (a0 - (((Int32.toUInt32 a0 >>> (Int32.toUInt32 1 &&& Int32.toUInt32 31)).toInt32) &&& 1431655765)) >>> (Int32.toUInt32 2 &&& Int32.toUInt32 31)).toInt32) &&& 858993459)) + ((Int32.toUInt32 (((a0 - (((Int32.toUInt32 a0 >>> (Int32.toUInt32 1 &&& Int32.toUInt32 31)).toInt32) &&& 1431655765)) &&& 858993459) + (((Int32.toUInt32 (a0 - (((Int32.toUInt32 a0 >>> (Int32.toUInt32 1 &&& Int32.toUInt32 31)).toInt32) &&& 1431655765)) >>> (Int32.toUInt32 2 &&& Int32.toUInt32 31)).toInt32) &&& 858993459)) >>> (Int32.toUInt32 4 &&& Int32.toUInt32 31)).toInt32)) &&& 252645135)) (n := 35) d_Int_bitCount_34 rfl rfl rfl ?_
  refine zr_iload_n (i := 0) (x := (((((a0 - (((Int32.toUInt32 a0 >>> (Int32.toUInt32 1 &&& Int32.toUInt32 31)).toInt32) &&& 1431655765)) &&& 858993459) + (((Int32.toUInt32 (a0 - (((Int32.toUInt32 a0 >>> (Int32.toUInt32 1 &&& Int32.toUInt32 31)).toInt32) &&& 1431655765)) >>> (Int32.toUInt32 2 &&& Int32.toUInt32 31)).toInt32) &&& 858993459)) + ((Int32.toUInt32 (((a0 - (((Int32.toUInt32 a0 >>> (Int32.toUInt32 1 &&& Int32.toUInt32 31)).toInt32) &&& 1431655765)) &&& 858993459) + (((Int32.toUInt32 (a0 - (((Int32.toUInt32 a0 >>> (Int32.toUInt32 1 &&& Int32.toUInt32 31)).toInt32) &&& 1431655765)) >>> (Int32.toUInt32 2 &&& Int32.toUInt32 31)).toInt32) &&& 858993459)) >>> (Int32.toUInt32 4 &&& Int32.toUInt32 31)).toInt32)) &&& 252645135)) (n := 36) d_Int_bitCount_35 rfl rfl rfl ?_
  refine zr_bipush (v := 8) (n := 38) d_Int_bitCount_36 rfl (by decide) ?_
  refine zr_iushr (n := 39) d_Int_bitCount_38 rfl ?_
  refine zr_iadd (n := 40) d_Int_bitCount_39 rfl ?_
  refine zr_istore_n (i := 0) (L' := [some (.int ((((((a0 - (((Int32.toUInt32 a0 >>> (Int32.toUInt32 1 &&& Int32.toUInt32 31)).toInt32) &&& 1431655765)) &&& 858993459) + (((Int32.toUInt32 (a0 - (((Int32.toUInt32 a0 >>> (Int32.toUInt32 1 &&& Int32.toUInt32 31)).toInt32) &&& 1431655765)) >>> (Int32.toUInt32 2 &&& Int32.toUInt32 31)).toInt32) &&& 858993459)) + ((Int32.toUInt32 (((a0 - (((Int32.toUInt32 a0 >>> (Int32.toUInt32 1 &&& Int32.toUInt32 31)).toInt32) &&& 1431655765)) &&& 858993459) + (((Int32.toUInt32 (a0 - (((Int32.toUInt32 a0 >>> (Int32.toUInt32 1 &&& Int32.toUInt32 31)).toInt32) &&& 1431655765)) >>> (Int32.toUInt32 2 &&& Int32.toUInt32 31)).toInt32) &&& 858993459)) >>> (Int32.toUInt32 4 &&& Int32.toUInt32 31)).toInt32)) &&& 252645135) + ((Int32.toUInt32 (((((a0 - (((Int32.toUInt32 a0 >>> (Int32.toUInt32 1 &&& Int32.toUInt32 31)).toInt32) &&& 1431655765)) &&& 858993459) + (((Int32.toUInt32 (a0 - (((Int32.toUInt32 a0 >>> (Int32.toUInt32 1 &&& Int32.toUInt32 31)).toInt32) &&& 1431655765)) >>> (Int32.toUInt32 2 &&& Int32.toUInt32 31)).toInt32) &&& 858993459)) + ((Int32.toUInt32 (((a0 - (((Int32.toUInt32 a0 >>> (Int32.toUInt32 1 &&& Int32.toUInt32 31)).toInt32) &&& 1431655765)) &&& 858993459) + (((Int32.toUInt32 (a0 - (((Int32.toUInt32 a0 >>> (Int32.toUInt32 1 &&& Int32.toUInt32 31)).toInt32) &&& 1431655765)) >>> (Int32.toUInt32 2 &&& Int32.toUInt32 31)).toInt32) &&& 858993459)) >>> (Int32.toUInt32 4 &&& Int32.toUInt32 31)).toInt32)) &&& 252645135) >>> (Int32.toUInt32 8 &&& Int32.toUInt32 31)).toInt32)))]) (n := 41) d_Int_bitCount_40 rfl rfl rfl rfl ?_
  refine zr_iload_n (i := 0) (x := ((((((a0 - (((Int32.toUInt32 a0 >>> (Int32.toUInt32 1 &&& Int32.toUInt32 31)).toInt32) &&& 1431655765)) &&& 858993459) + (((Int32.toUInt32 (a0 - (((Int32.toUInt32 a0 >>> (Int32.toUInt32 1 &&& Int32.toUInt32 31)).toInt32) &&& 1431655765)) >>> (Int32.toUInt32 2 &&& Int32.toUInt32 31)).toInt32) &&& 858993459)) + ((Int32.toUInt32 (((a0 - (((Int32.toUInt32 a0 >>> (Int32.toUInt32 1 &&& Int32.toUInt32 31)).toInt32) &&& 1431655765)) &&& 858993459) + (((Int32.toUInt32 (a0 - (((Int32.toUInt32 a0 >>> (Int32.toUInt32 1 &&& Int32.toUInt32 31)).toInt32) &&& 1431655765)) >>> (Int32.toUInt32 2 &&& Int32.toUInt32 31)).toInt32) &&& 858993459)) >>> (Int32.toUInt32 4 &&& Int32.toUInt32 31)).toInt32)) &&& 252645135) + ((Int32.toUInt32 (((((a0 - (((Int32.toUInt32 a0 >>> (Int32.toUInt32 1 &&& Int32.toUInt32 31)).toInt32) &&& 1431655765)) &&& 858993459) + (((Int32.toUInt32 (a0 - (((Int32.toUInt32 a0 >>> (Int32.toUInt32 1 &&& Int32.toUInt32 31)).toInt32) &&& 1431655765)) >>> (Int32.toUInt32 2 &&& Int32.toUInt32 31)).toInt32) &&& 858993459)) + ((Int32.toUInt32 (((a0 - (((Int32.toUInt32 a0 >>> (Int32.toUInt32 1 &&& Int32.toUInt32 31)).toInt32) &&& 1431655765)) &&& 858993459) + (((Int32.toUInt32 (a0 - (((Int32.toUInt32 a0 >>> (Int32.toUInt32 1 &&& Int32.toUInt32 31)).toInt32) &&& 1431655765)) >>> (Int32.toUInt32 2 &&& Int32.toUInt32 31)).toInt32) &&& 858993459)) >>> (Int32.toUInt32 4 &&& Int32.toUInt32 31)).toInt32)) &&& 252645135) >>> (Int32.toUInt32 8 &&& Int32.toUInt32 31)).toInt32))) (n := 42) d_Int_bitCount_41 rfl rfl rfl ?_
  refine zr_iload_n (i := 0) (x := ((((((a0 - (((Int32.toUInt32 a0 >>> (Int32.toUInt32 1 &&& Int32.toUInt32 31)).toInt32) &&& 1431655765)) &&& 858993459) + (((Int32.toUInt32 (a0 - (((Int32.toUInt32 a0 >>> (Int32.toUInt32 1 &&& Int32.toUInt32 31)).toInt32) &&& 1431655765)) >>> (Int32.toUInt32 2 &&& Int32.toUInt32 31)).toInt32) &&& 858993459)) + ((Int32.toUInt32 (((a0 - (((Int32.toUInt32 a0 >>> (Int32.toUInt32 1 &&& Int32.toUInt32 31)).toInt32) &&& 1431655765)) &&& 858993459) + (((Int32.toUInt32 (a0 - (((Int32.toUInt32 a0 >>> (Int32.toUInt32 1 &&& Int32.toUInt32 31)).toInt32) &&& 1431655765)) >>> (Int32.toUInt32 2 &&& Int32.toUInt32 31)).toInt32) &&& 858993459)) >>> (Int32.toUInt32 4 &&& Int32.toUInt32 31)).toInt32)) &&& 252645135) + ((Int32.toUInt32 (((((a0 - (((Int32.toUInt32 a0 >>> (Int32.toUInt32 1 &&& Int32.toUInt32 31)).toInt32) &&& 1431655765)) &&& 858993459) + (((Int32.toUInt32 (a0 - (((Int32.toUInt32 a0 >>> (Int32.toUInt32 1 &&& Int32.toUInt32 31)).toInt32) &&& 1431655765)) >>> (Int32.toUInt32 2 &&& Int32.toUInt32 31)).toInt32) &&& 858993459)) + ((Int32.toUInt32 (((a0 - (((Int32.toUInt32 a0 >>> (Int32.toUInt32 1 &&& Int32.toUInt32 31)).toInt32) &&& 1431655765)) &&& 858993459) + (((Int32.toUInt32 (a0 - (((Int32.toUInt32 a0 >>> (Int32.toUInt32 1 &&& Int32.toUInt32 31)).toInt32) &&& 1431655765)) >>> (Int32.toUInt32 2 &&& Int32.toUInt32 31)).toInt32) &&& 858993459)) >>> (Int32.toUInt32 4 &&& Int32.toUInt32 31)).toInt32)) &&& 252645135) >>> (Int32.toUInt32 8 &&& Int32.toUInt32 31)).toInt32))) (n := 43) d_Int_bitCount_42 rfl rfl rfl ?_
  refine zr_bipush (v := 16) (n := 45) d_Int_bitCount_43 rfl (by decide) ?_
  refine zr_iushr (n := 46) d_Int_bitCount_45 rfl ?_
  refine zr_iadd (n := 47) d_Int_bitCount_46 rfl ?_
  refine zr_istore_n (i := 0) (L' := [some (.int (((((((a0 - (((Int32.toUInt32 a0 >>> (Int32.toUInt32 1 &&& Int32.toUInt32 31)).toInt32) &&& 1431655765)) &&& 858993459) + (((Int32.toUInt32 (a0 - (((Int32.toUInt32 a0 >>> (Int32.toUInt32 1 &&& Int32.toUInt32 31)).toInt32) &&& 1431655765)) >>> (Int32.toUInt32 2 &&& Int32.toUInt32 31)).toInt32) &&& 858993459)) + ((Int32.toUInt32 (((a0 - (((Int32.toUInt32 a0 >>> (Int32.toUInt32 1 &&& Int32.toUInt32 31)).toInt32) &&& 1431655765)) &&& 858993459) + (((Int32.toUInt32 (a0 - (((Int32.toUInt32 a0 >>> (Int32.toUInt32 1 &&& Int32.toUInt32 31)).toInt32) &&& 1431655765)) >>> (Int32.toUInt32 2 &&& Int32.toUInt32 31)).toInt32) &&& 858993459)) >>> (Int32.toUInt32 4 &&& Int32.toUInt32 31)).toInt32)) &&& 252645135) + ((Int32.toUInt32 (((((a0 - (((Int32.toUInt32 a0 >>> (Int32.toUInt32 1 &&& Int32.toUInt32 31)).toInt32) &&& 1431655765)) &&& 858993459) + (((Int32.toUInt32 (a0 - (((Int32.toUInt32 a0 >>> (Int32.toUInt32 1 &&& Int32.toUInt32 31)).toInt32) &&& 1431655765)) >>> (Int32.toUInt32 2 &&& Int32.toUInt32 31)).toInt32) &&& 858993459)) + ((Int32.toUInt32 (((a0 - (((Int32.toUInt32 a0 >>> (Int32.toUInt32 1 &&& Int32.toUInt32 31)).toInt32) &&& 1431655765)) &&& 858993459) + (((Int32.toUInt32 (a0 - (((Int32.toUInt32 a0 >>> (Int32.toUInt32 1 &&& Int32.toUInt32 31)).toInt32) &&& 1431655765)) >>> (Int32.toUInt32 2 &&& Int32.toUInt32 31)).toInt32) &&& 858993459)) >>> (Int32.toUInt32 4 &&& Int32.toUInt32 31)).toInt32)) &&& 252645135) >>> (Int32.toUInt32 8 &&& Int32.toUInt32 31)).toInt32)) + ((Int32.toUInt32 ((((((a0 - (((Int32.toUInt32 a0 >>> (Int32.toUInt32 1 &&& Int32.toUInt32 31)).toInt32) &&& 1431655765)) &&& 858993459) + (((Int32.toUInt32 (a0 - (((Int32.toUInt32 a0 >>> (Int32.toUInt32 1 &&& Int32.toUInt32 31)).toInt32) &&& 1431655765)) >>> (Int32.toUInt32 2 &&& Int32.toUInt32 31)).toInt32) &&& 858993459)) + ((Int32.toUInt32 (((a0 - (((Int32.toUInt32 a0 >>> (Int32.toUInt32 1 &&& Int32.toUInt32 31)).toInt32) &&& 1431655765)) &&& 858993459) + (((Int32.toUInt32 (a0 - (((Int32.toUInt32 a0 >>> (Int32.toUInt32 1 &&& Int32.toUInt32 31)).toInt32) &&& 1431655765)) >>> (Int32.toUInt32 2 &&& Int32.toUInt32 31)).toInt32) &&& 858993459)) >>> (Int32.toUInt32 4 &&& Int32.toUInt32 31)).toInt32)) &&& 252645135) + ((Int32.toUInt32 (((((a0 - (((Int32.toUInt32 a0 >>> (Int32.toUInt32 1 &&& Int32.toUInt32 31)).toInt32) &&& 1431655765)) &&& 858993459) + (((Int32.toUInt32 (a0 - (((Int32.toUInt32 a0 >>> (Int32.toUInt32 1 &&& Int32.toUInt32 31)).toInt32) &&& 1431655765)) >>> (Int32.toUInt32 2 &&& Int32.toUInt32 31)).toInt32) &&& 858993459)) + ((Int32.toUInt32 (((a0 - (((Int32.toUInt32 a0 >>> (Int32.toUInt32 1 &&& Int32.toUInt32 31)).toInt32) &&& 1431655765)) &&& 858993459) + (((Int32.toUInt32 (a0 - (((Int32.toUInt32 a0 >>> (Int32.toUInt32 1 &&& Int32.toUInt32 31)).toInt32) &&& 1431655765)) >>> (Int32.toUInt32 2 &&& Int32.toUInt32 31)).toInt32) &&& 858993459)) >>> (Int32.toUInt32 4 &&& Int32.toUInt32 31)).toInt32)) &&& 252645135) >>> (Int32.toUInt32 8 &&& Int32.toUInt32 31)).toInt32)) >>> (Int32.toUInt32 16 &&& Int32.toUInt32 31)).toInt32)))]) (n := 48) d_Int_bitCount_47 rfl rfl rfl rfl ?_
  refine zr_iload_n (i := 0) (x := (((((((a0 - (((Int32.toUInt32 a0 >>> (Int32.toUInt32 1 &&& Int32.toUInt32 31)).toInt32) &&& 1431655765)) &&& 858993459) + (((Int32.toUInt32 (a0 - (((Int32.toUInt32 a0 >>> (Int32.toUInt32 1 &&& Int32.toUInt32 31)).toInt32) &&& 1431655765)) >>> (Int32.toUInt32 2 &&& Int32.toUInt32 31)).toInt32) &&& 858993459)) + ((Int32.toUInt32 (((a0 - (((Int32.toUInt32 a0 >>> (Int32.toUInt32 1 &&& Int32.toUInt32 31)).toInt32) &&& 1431655765)) &&& 858993459) + (((Int32.toUInt32 (a0 - (((Int32.toUInt32 a0 >>> (Int32.toUInt32 1 &&& Int32.toUInt32 31)).toInt32) &&& 1431655765)) >>> (Int32.toUInt32 2 &&& Int32.toUInt32 31)).toInt32) &&& 858993459)) >>> (Int32.toUInt32 4 &&& Int32.toUInt32 31)).toInt32)) &&& 252645135) + ((Int32.toUInt32 (((((a0 - (((Int32.toUInt32 a0 >>> (Int32.toUInt32 1 &&& Int32.toUInt32 31)).toInt32) &&& 1431655765)) &&& 858993459) + (((Int32.toUInt32 (a0 - (((Int32.toUInt32 a0 >>> (Int32.toUInt32 1 &&& Int32.toUInt32 31)).toInt32) &&& 1431655765)) >>> (Int32.toUInt32 2 &&& Int32.toUInt32 31)).toInt32) &&& 858993459)) + ((Int32.toUInt32 (((a0 - (((Int32.toUInt32 a0 >>> (Int32.toUInt32 1 &&& Int32.toUInt32 31)).toInt32) &&& 1431655765)) &&& 858993459) + (((Int32.toUInt32 (a0 - (((Int32.toUInt32 a0 >>> (Int32.toUInt32 1 &&& Int32.toUInt32 31)).toInt32) &&& 1431655765)) >>> (Int32.toUInt32 2 &&& Int32.toUInt32 31)).toInt32) &&& 858993459)) >>> (Int32.toUInt32 4 &&& Int32.toUInt32 31)).toInt32)) &&& 252645135) >>> (Int32.toUInt32 8 &&& Int32.toUInt32 31)).toInt32)) + ((Int32.toUInt32 ((((((a0 - (((Int32.toUInt32 a0 >>> (Int32.toUInt32 1 &&& Int32.toUInt32 31)).toInt32) &&& 1431655765)) &&& 858993459) + (((Int32.toUInt32 (a0 - (((Int32.toUInt32 a0 >>> (Int32.toUInt32 1 &&& Int32.toUInt32 31)).toInt32) &&& 1431655765)) >>> (Int32.toUInt32 2 &&& Int32.toUInt32 31)).toInt32) &&& 858993459)) + ((Int32.toUInt32 (((a0 - (((Int32.toUInt32 a0 >>> (Int32.toUInt32 1 &&& Int32.toUInt32 31)).toInt32) &&& 1431655765)) &&& 858993459) + (((Int32.toUInt32 (a0 - (((Int32.toUInt32 a0 >>> (Int32.toUInt32 1 &&& Int32.toUInt32 31)).toInt32) &&& 1431655765)) >>> (Int32.toUInt32 2 &&& Int32.toUInt32 31)).toInt32) &&& 858993459)) >>> (Int32.toUInt32 4 &&& Int32.toUInt32 31)).toInt32)) &&& 252645135) + ((Int32.toUInt32 (((((a0 - (((Int32.toUInt32 a0 >>> (Int32.toUInt32 1 &&& Int32.toUInt32 31)).toInt32) &&& 1431655765)) &&& 858993459) + (((Int32.toUInt32 (a0 - (((Int32.toUInt32 a0 >>> (Int32.toUInt32 1 &&& Int32.toUInt32 31)).toInt32) &&& 1431655765)) >>> (Int32.toUInt32 2 &&& Int32.toUInt32 31)).toInt32) &&& 858993459)) + ((Int32.toUInt32 (((a0 - (((Int32.toUInt32 a0 >>> (Int32.toUInt32 1 &&& Int32.toUInt32 31)).toInt32) &&& 1431655765)) &&& 858993459) + (((Int32.toUInt32 (a0 - (((Int32.toUInt32 a0 >>> (Int32.toUInt32 1 &&& Int32.toUInt32 31)).toInt32) &&& 1431655765)) >>> (Int32.toUInt32 2 &&& Int32.toUInt32 31)).toInt32) &&& 858993459)) >>> (Int32.toUInt32 4 &&& Int32.toUInt32 31)).toInt32)) &&& 252645135) >>> (Int32.toUInt32 8 &&& Int32.toUInt32 31)).toInt32)) >>> (Int32.toUInt32 16 &&& Int32.toUInt32 31)).toInt32))) (n := 49) d_Int_bitCount_48 rfl rfl rfl ?_
  refine zr_bipush (v := 63) (n := 51) d_Int_bitCount_49 rfl (by decide) ?_
  refine zr_iand (n := 52) d_Int_bitCount_51 rfl ?_
  exact zr_ireturn d_Int_bitCount_52 rfl rfl (Nat.le_refl _) (Nat.le_refl _) l1
theorem e_Int_bitCount {d : Nat} {Q : zm_Q} {S : zm_S} {a0 : Int32} (h : zw M_Int_bitCount d Q 0 [some (.int a0)] [] S) : zc M_Int_bitCount d [.int a0] S Q := zm_CC_intro (by decide) rfl rfl h
end
