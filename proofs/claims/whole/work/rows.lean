section
-- ===== PART A: goes FIRST, ahead of the names: the tables' words, and 'selects' of the private methods out of them =====
/-- a private method of a class that the tables say can be made, by its rows of tables_1 -/
def lw_okq (q : MethodName × Nat) : Prop := (q.1.cls ≠ "java/lang/invoke/MethodHandle" ∧ q.1.cls ≠ "java/lang/invoke/VarHandle") ∧ Cond.instantiable q.1.cls q.2 ∈ tables_1 ∧ Cond.privateMethod q.1 ∈ tables_1 ∧ Cond.instanceMethod q.1 ∈ tables_1
theorem lw_p0 : lw_okq (⟨"CarouselMount$Edition", "arrange", "(LCarouselMount$Tree;)V"⟩, 10) := ⟨⟨by decide +kernel, by decide +kernel⟩, List.mem_of_getElem? (i := 47) (by decide +kernel), List.mem_of_getElem? (i := 275) (by decide +kernel), List.mem_of_getElem? (i := 276) (by decide +kernel)⟩
theorem lw_p1 : lw_okq (⟨"CarouselMount$Edition", "assignModules", "(LCarouselMount$Tree;)I"⟩, 10) := ⟨⟨by decide +kernel, by decide +kernel⟩, List.mem_of_getElem? (i := 47) (by decide +kernel), List.mem_of_getElem? (i := 287) (by decide +kernel), List.mem_of_getElem? (i := 288) (by decide +kernel)⟩
theorem lw_p2 : lw_okq (⟨"CarouselMount$Edition", "draftModule", "(LCarouselMount$Tree;I)V"⟩, 10) := ⟨⟨by decide +kernel, by decide +kernel⟩, List.mem_of_getElem? (i := 47) (by decide +kernel), List.mem_of_getElem? (i := 297) (by decide +kernel), List.mem_of_getElem? (i := 298) (by decide +kernel)⟩
theorem lw_p3 : lw_okq (⟨"CarouselMount$Edition", "draftMessage", "(LCarouselMount$Tree;I)V"⟩, 10) := ⟨⟨by decide +kernel, by decide +kernel⟩, List.mem_of_getElem? (i := 47) (by decide +kernel), List.mem_of_getElem? (i := 301) (by decide +kernel), List.mem_of_getElem? (i := 302) (by decide +kernel)⟩
theorem lw_p4 : lw_okq (⟨"CarouselMount$Edition", "write", "(I)V"⟩, 10) := ⟨⟨by decide +kernel, by decide +kernel⟩, List.mem_of_getElem? (i := 47) (by decide +kernel), List.mem_of_getElem? (i := 309) (by decide +kernel), List.mem_of_getElem? (i := 310) (by decide +kernel)⟩
theorem lw_p5 : lw_okq (⟨"CarouselMount$Edition", "draftEntries", "(LCarouselMount$Tree;I)V"⟩, 10) := ⟨⟨by decide +kernel, by decide +kernel⟩, List.mem_of_getElem? (i := 47) (by decide +kernel), List.mem_of_getElem? (i := 319) (by decide +kernel), List.mem_of_getElem? (i := 320) (by decide +kernel)⟩
theorem lw_p6 : lw_okq (⟨"CarouselMount$Edition", "keepDraft", "(I)V"⟩, 10) := ⟨⟨by decide +kernel, by decide +kernel⟩, List.mem_of_getElem? (i := 47) (by decide +kernel), List.mem_of_getElem? (i := 328) (by decide +kernel), List.mem_of_getElem? (i := 329) (by decide +kernel)⟩
theorem lw_p7 : lw_okq (⟨"CarouselMount$Edition", "draftEquals", "(I)Z"⟩, 10) := ⟨⟨by decide +kernel, by decide +kernel⟩, List.mem_of_getElem? (i := 47) (by decide +kernel), List.mem_of_getElem? (i := 332) (by decide +kernel), List.mem_of_getElem? (i := 333) (by decide +kernel)⟩
theorem lw_p8 : lw_okq (⟨"CarouselMount$Cycle", "addList", "(LCarouselMount$Edition;)V"⟩, 4) := ⟨⟨by decide +kernel, by decide +kernel⟩, List.mem_of_getElem? (i := 98) (by decide +kernel), List.mem_of_getElem? (i := 351) (by decide +kernel), List.mem_of_getElem? (i := 352) (by decide +kernel)⟩
theorem lw_p9 : lw_okq (⟨"CarouselMount$Cycle", "begin", "(II)V"⟩, 4) := ⟨⟨by decide +kernel, by decide +kernel⟩, List.mem_of_getElem? (i := 98) (by decide +kernel), List.mem_of_getElem? (i := 355) (by decide +kernel), List.mem_of_getElem? (i := 356) (by decide +kernel)⟩
theorem lw_p10 : lw_okq (⟨"CarouselMount$Cycle", "write", "(I)V"⟩, 4) := ⟨⟨by decide +kernel, by decide +kernel⟩, List.mem_of_getElem? (i := 98) (by decide +kernel), List.mem_of_getElem? (i := 359) (by decide +kernel), List.mem_of_getElem? (i := 360) (by decide +kernel)⟩
theorem lw_p11 : lw_okq (⟨"CarouselMount$Cycle", "writePair", "(I)V"⟩, 4) := ⟨⟨by decide +kernel, by decide +kernel⟩, List.mem_of_getElem? (i := 98) (by decide +kernel), List.mem_of_getElem? (i := 363) (by decide +kernel), List.mem_of_getElem? (i := 364) (by decide +kernel)⟩
theorem lw_p12 : lw_okq (⟨"CarouselMount$Cycle", "writeCheck", "()V"⟩, 4) := ⟨⟨by decide +kernel, by decide +kernel⟩, List.mem_of_getElem? (i := 98) (by decide +kernel), List.mem_of_getElem? (i := 367) (by decide +kernel), List.mem_of_getElem? (i := 368) (by decide +kernel)⟩
theorem lw_p13 : lw_okq (⟨"CarouselMount$Cycle", "addBlock", "(LCarouselMount$Edition;II)V"⟩, 4) := ⟨⟨by decide +kernel, by decide +kernel⟩, List.mem_of_getElem? (i := 98) (by decide +kernel), List.mem_of_getElem? (i := 378) (by decide +kernel), List.mem_of_getElem? (i := 379) (by decide +kernel)⟩
theorem lw_p14 : lw_okq (⟨"CarouselMount$Sender", "prepare", "()V"⟩, 5) := ⟨⟨by decide +kernel, by decide +kernel⟩, List.mem_of_getElem? (i := 92) (by decide +kernel), List.mem_of_getElem? (i := 386) (by decide +kernel), List.mem_of_getElem? (i := 387) (by decide +kernel)⟩
theorem lw_p15 : lw_okq (⟨"CarouselMount$Sender", "load", "(II)V"⟩, 5) := ⟨⟨by decide +kernel, by decide +kernel⟩, List.mem_of_getElem? (i := 92) (by decide +kernel), List.mem_of_getElem? (i := 394) (by decide +kernel), List.mem_of_getElem? (i := 395) (by decide +kernel)⟩
def lw_privs_1 : List (MethodName × Nat) := [(⟨"CarouselMount$Edition", "arrange", "(LCarouselMount$Tree;)V"⟩, 10), (⟨"CarouselMount$Edition", "assignModules", "(LCarouselMount$Tree;)I"⟩, 10), (⟨"CarouselMount$Edition", "draftModule", "(LCarouselMount$Tree;I)V"⟩, 10), (⟨"CarouselMount$Edition", "draftMessage", "(LCarouselMount$Tree;I)V"⟩, 10), (⟨"CarouselMount$Edition", "write", "(I)V"⟩, 10), (⟨"CarouselMount$Edition", "draftEntries", "(LCarouselMount$Tree;I)V"⟩, 10), (⟨"CarouselMount$Edition", "keepDraft", "(I)V"⟩, 10), (⟨"CarouselMount$Edition", "draftEquals", "(I)Z"⟩, 10), (⟨"CarouselMount$Cycle", "addList", "(LCarouselMount$Edition;)V"⟩, 4), (⟨"CarouselMount$Cycle", "begin", "(II)V"⟩, 4), (⟨"CarouselMount$Cycle", "write", "(I)V"⟩, 4), (⟨"CarouselMount$Cycle", "writePair", "(I)V"⟩, 4), (⟨"CarouselMount$Cycle", "writeCheck", "()V"⟩, 4), (⟨"CarouselMount$Cycle", "addBlock", "(LCarouselMount$Edition;II)V"⟩, 4), (⟨"CarouselMount$Sender", "prepare", "()V"⟩, 5), (⟨"CarouselMount$Sender", "load", "(II)V"⟩, 5)]
theorem lw_r1 : ∀ q ∈ lw_privs_1, lw_okq q := List.forall_mem_cons.mpr ⟨lw_p0, List.forall_mem_cons.mpr ⟨lw_p1, List.forall_mem_cons.mpr ⟨lw_p2, List.forall_mem_cons.mpr ⟨lw_p3, List.forall_mem_cons.mpr ⟨lw_p4, List.forall_mem_cons.mpr ⟨lw_p5, List.forall_mem_cons.mpr ⟨lw_p6, List.forall_mem_cons.mpr ⟨lw_p7, List.forall_mem_cons.mpr ⟨lw_p8, List.forall_mem_cons.mpr ⟨lw_p9, List.forall_mem_cons.mpr ⟨lw_p10, List.forall_mem_cons.mpr ⟨lw_p11, List.forall_mem_cons.mpr ⟨lw_p12, List.forall_mem_cons.mpr ⟨lw_p13, List.forall_mem_cons.mpr ⟨lw_p14, List.forall_mem_cons.mpr ⟨lw_p15, fun _ h => absurd h List.not_mem_nil⟩⟩⟩⟩⟩⟩⟩⟩⟩⟩⟩⟩⟩⟩⟩⟩
theorem lw_p16 : lw_okq (⟨"CarouselMount$Receiver", "throwAway", "()V"⟩, 5) := ⟨⟨by decide +kernel, by decide +kernel⟩, List.mem_of_getElem? (i := 136) (by decide +kernel), List.mem_of_getElem? (i := 423) (by decide +kernel), List.mem_of_getElem? (i := 424) (by decide +kernel)⟩
theorem lw_p17 : lw_okq (⟨"CarouselMount$Receiver", "continueSection", "([III)V"⟩, 5) := ⟨⟨by decide +kernel, by decide +kernel⟩, List.mem_of_getElem? (i := 136) (by decide +kernel), List.mem_of_getElem? (i := 427) (by decide +kernel), List.mem_of_getElem? (i := 428) (by decide +kernel)⟩
theorem lw_p18 : lw_okq (⟨"CarouselMount$Receiver", "collect", "(I)V"⟩, 5) := ⟨⟨by decide +kernel, by decide +kernel⟩, List.mem_of_getElem? (i := 136) (by decide +kernel), List.mem_of_getElem? (i := 431) (by decide +kernel), List.mem_of_getElem? (i := 432) (by decide +kernel)⟩
theorem lw_p19 : lw_okq (⟨"CarouselMount$Receiver", "judge", "(I)I"⟩, 5) := ⟨⟨by decide +kernel, by decide +kernel⟩, List.mem_of_getElem? (i := 136) (by decide +kernel), List.mem_of_getElem? (i := 435) (by decide +kernel), List.mem_of_getElem? (i := 436) (by decide +kernel)⟩
theorem lw_p20 : lw_okq (⟨"CarouselMount$Receiver", "hasCheckDue", "(I)Z"⟩, 5) := ⟨⟨by decide +kernel, by decide +kernel⟩, List.mem_of_getElem? (i := 136) (by decide +kernel), List.mem_of_getElem? (i := 439) (by decide +kernel), List.mem_of_getElem? (i := 440) (by decide +kernel)⟩
theorem lw_p21 : lw_okq (⟨"CarouselMount$Receiver", "isList", "(I)Z"⟩, 5) := ⟨⟨by decide +kernel, by decide +kernel⟩, List.mem_of_getElem? (i := 136) (by decide +kernel), List.mem_of_getElem? (i := 447) (by decide +kernel), List.mem_of_getElem? (i := 448) (by decide +kernel)⟩
theorem lw_p22 : lw_okq (⟨"CarouselMount$Mount", "relist", "(III)V"⟩, 6) := ⟨⟨by decide +kernel, by decide +kernel⟩, List.mem_of_getElem? (i := 142) (by decide +kernel), List.mem_of_getElem? (i := 456) (by decide +kernel), List.mem_of_getElem? (i := 457) (by decide +kernel)⟩
theorem lw_p23 : lw_okq (⟨"CarouselMount$Receiver", "isBlock", "(I)Z"⟩, 5) := ⟨⟨by decide +kernel, by decide +kernel⟩, List.mem_of_getElem? (i := 136) (by decide +kernel), List.mem_of_getElem? (i := 460) (by decide +kernel), List.mem_of_getElem? (i := 461) (by decide +kernel)⟩
theorem lw_p24 : lw_okq (⟨"CarouselMount$Receiver", "beginSections", "([II)V"⟩, 5) := ⟨⟨by decide +kernel, by decide +kernel⟩, List.mem_of_getElem? (i := 136) (by decide +kernel), List.mem_of_getElem? (i := 475) (by decide +kernel), List.mem_of_getElem? (i := 476) (by decide +kernel)⟩
theorem lw_p25 : lw_okq (⟨"CarouselMount", "follow", "(III)I"⟩, 4) := ⟨⟨by decide +kernel, by decide +kernel⟩, List.mem_of_getElem? (i := 13) (by decide +kernel), List.mem_of_getElem? (i := 531) (by decide +kernel), List.mem_of_getElem? (i := 532) (by decide +kernel)⟩
theorem lw_p26 : lw_okq (⟨"CarouselMount$Mount", "obstacle", "(I)I"⟩, 6) := ⟨⟨by decide +kernel, by decide +kernel⟩, List.mem_of_getElem? (i := 142) (by decide +kernel), List.mem_of_getElem? (i := 539) (by decide +kernel), List.mem_of_getElem? (i := 540) (by decide +kernel)⟩
theorem lw_p27 : lw_okq (⟨"CarouselMount$Mount", "fits", "(II)Z"⟩, 6) := ⟨⟨by decide +kernel, by decide +kernel⟩, List.mem_of_getElem? (i := 142) (by decide +kernel), List.mem_of_getElem? (i := 544) (by decide +kernel), List.mem_of_getElem? (i := 545) (by decide +kernel)⟩
theorem lw_p28 : lw_okq (⟨"CarouselMount$Mount", "messageWithKey", "(II)I"⟩, 6) := ⟨⟨by decide +kernel, by decide +kernel⟩, List.mem_of_getElem? (i := 142) (by decide +kernel), List.mem_of_getElem? (i := 564) (by decide +kernel), List.mem_of_getElem? (i := 565) (by decide +kernel)⟩
theorem lw_p29 : lw_okq (⟨"CarouselMountModel", "after", "(II)I"⟩, 33) := ⟨⟨by decide +kernel, by decide +kernel⟩, List.mem_of_getElem? (i := 583) (by decide +kernel), List.mem_of_getElem? (i := 697) (by decide +kernel), List.mem_of_getElem? (i := 698) (by decide +kernel)⟩
theorem lw_p30 : lw_okq (⟨"CarouselMountModel", "keepOld", "()V"⟩, 33) := ⟨⟨by decide +kernel, by decide +kernel⟩, List.mem_of_getElem? (i := 583) (by decide +kernel), List.mem_of_getElem? (i := 717) (by decide +kernel), List.mem_of_getElem? (i := 718) (by decide +kernel)⟩
theorem lw_p31 : lw_okq (⟨"CarouselMountModel", "payload", "(I)I"⟩, 33) := ⟨⟨by decide +kernel, by decide +kernel⟩, List.mem_of_getElem? (i := 583) (by decide +kernel), List.mem_of_getElem? (i := 721) (by decide +kernel), List.mem_of_getElem? (i := 722) (by decide +kernel)⟩
def lw_privs_2 : List (MethodName × Nat) := [(⟨"CarouselMount$Receiver", "throwAway", "()V"⟩, 5), (⟨"CarouselMount$Receiver", "continueSection", "([III)V"⟩, 5), (⟨"CarouselMount$Receiver", "collect", "(I)V"⟩, 5), (⟨"CarouselMount$Receiver", "judge", "(I)I"⟩, 5), (⟨"CarouselMount$Receiver", "hasCheckDue", "(I)Z"⟩, 5), (⟨"CarouselMount$Receiver", "isList", "(I)Z"⟩, 5), (⟨"CarouselMount$Mount", "relist", "(III)V"⟩, 6), (⟨"CarouselMount$Receiver", "isBlock", "(I)Z"⟩, 5), (⟨"CarouselMount$Receiver", "beginSections", "([II)V"⟩, 5), (⟨"CarouselMount", "follow", "(III)I"⟩, 4), (⟨"CarouselMount$Mount", "obstacle", "(I)I"⟩, 6), (⟨"CarouselMount$Mount", "fits", "(II)Z"⟩, 6), (⟨"CarouselMount$Mount", "messageWithKey", "(II)I"⟩, 6), (⟨"CarouselMountModel", "after", "(II)I"⟩, 33), (⟨"CarouselMountModel", "keepOld", "()V"⟩, 33), (⟨"CarouselMountModel", "payload", "(I)I"⟩, 33)]
theorem lw_r2 : ∀ q ∈ lw_privs_2, lw_okq q := List.forall_mem_cons.mpr ⟨lw_p16, List.forall_mem_cons.mpr ⟨lw_p17, List.forall_mem_cons.mpr ⟨lw_p18, List.forall_mem_cons.mpr ⟨lw_p19, List.forall_mem_cons.mpr ⟨lw_p20, List.forall_mem_cons.mpr ⟨lw_p21, List.forall_mem_cons.mpr ⟨lw_p22, List.forall_mem_cons.mpr ⟨lw_p23, List.forall_mem_cons.mpr ⟨lw_p24, List.forall_mem_cons.mpr ⟨lw_p25, List.forall_mem_cons.mpr ⟨lw_p26, List.forall_mem_cons.mpr ⟨lw_p27, List.forall_mem_cons.mpr ⟨lw_p28, List.forall_mem_cons.mpr ⟨lw_p29, List.forall_mem_cons.mpr ⟨lw_p30, List.forall_mem_cons.mpr ⟨lw_p31, fun _ h => absurd h List.not_mem_nil⟩⟩⟩⟩⟩⟩⟩⟩⟩⟩⟩⟩⟩⟩⟩⟩
theorem lw_p32 : lw_okq (⟨"CarouselMountModel", "next", "(I)I"⟩, 33) := ⟨⟨by decide +kernel, by decide +kernel⟩, List.mem_of_getElem? (i := 583) (by decide +kernel), List.mem_of_getElem? (i := 725) (by decide +kernel), List.mem_of_getElem? (i := 726) (by decide +kernel)⟩
theorem lw_p33 : lw_okq (⟨"CarouselMountModel", "message", "(I)V"⟩, 33) := ⟨⟨by decide +kernel, by decide +kernel⟩, List.mem_of_getElem? (i := 583) (by decide +kernel), List.mem_of_getElem? (i := 729) (by decide +kernel), List.mem_of_getElem? (i := 730) (by decide +kernel)⟩
theorem lw_p34 : lw_okq (⟨"CarouselMountModel", "put", "(II)V"⟩, 33) := ⟨⟨by decide +kernel, by decide +kernel⟩, List.mem_of_getElem? (i := 583) (by decide +kernel), List.mem_of_getElem? (i := 733) (by decide +kernel), List.mem_of_getElem? (i := 734) (by decide +kernel)⟩
theorem lw_p35 : lw_okq (⟨"CarouselMountModel", "unchanged", "(I)Z"⟩, 33) := ⟨⟨by decide +kernel, by decide +kernel⟩, List.mem_of_getElem? (i := 583) (by decide +kernel), List.mem_of_getElem? (i := 737) (by decide +kernel), List.mem_of_getElem? (i := 738) (by decide +kernel)⟩
theorem lw_p36 : lw_okq (⟨"CarouselMountModel", "writeCycle", "()V"⟩, 33) := ⟨⟨by decide +kernel, by decide +kernel⟩, List.mem_of_getElem? (i := 583) (by decide +kernel), List.mem_of_getElem? (i := 741) (by decide +kernel), List.mem_of_getElem? (i := 742) (by decide +kernel)⟩
theorem lw_p37 : lw_okq (⟨"CarouselMountModel", "emit", "(I)V"⟩, 33) := ⟨⟨by decide +kernel, by decide +kernel⟩, List.mem_of_getElem? (i := 583) (by decide +kernel), List.mem_of_getElem? (i := 745) (by decide +kernel), List.mem_of_getElem? (i := 746) (by decide +kernel)⟩
theorem lw_p38 : lw_okq (⟨"CarouselMountModel", "emitPair", "(I)V"⟩, 33) := ⟨⟨by decide +kernel, by decide +kernel⟩, List.mem_of_getElem? (i := 583) (by decide +kernel), List.mem_of_getElem? (i := 753) (by decide +kernel), List.mem_of_getElem? (i := 754) (by decide +kernel)⟩
theorem lw_p39 : lw_okq (⟨"CarouselMountModel", "emitCheck", "()V"⟩, 33) := ⟨⟨by decide +kernel, by decide +kernel⟩, List.mem_of_getElem? (i := 583) (by decide +kernel), List.mem_of_getElem? (i := 757) (by decide +kernel), List.mem_of_getElem? (i := 758) (by decide +kernel)⟩
theorem lw_p40 : lw_okq (⟨"CarouselMountModel", "build", "()I"⟩, 33) := ⟨⟨by decide +kernel, by decide +kernel⟩, List.mem_of_getElem? (i := 583) (by decide +kernel), List.mem_of_getElem? (i := 774) (by decide +kernel), List.mem_of_getElem? (i := 775) (by decide +kernel)⟩
theorem lw_p41 : lw_okq (⟨"CarouselMountModel", "rest", "()I"⟩, 33) := ⟨⟨by decide +kernel, by decide +kernel⟩, List.mem_of_getElem? (i := 583) (by decide +kernel), List.mem_of_getElem? (i := 778) (by decide +kernel), List.mem_of_getElem? (i := 779) (by decide +kernel)⟩
theorem lw_p42 : lw_okq (⟨"CarouselMountModel", "pass", "(IZ)I"⟩, 33) := ⟨⟨by decide +kernel, by decide +kernel⟩, List.mem_of_getElem? (i := 583) (by decide +kernel), List.mem_of_getElem? (i := 786) (by decide +kernel), List.mem_of_getElem? (i := 787) (by decide +kernel)⟩
theorem lw_p43 : lw_okq (⟨"CarouselMountModel", "sent", "()V"⟩, 33) := ⟨⟨by decide +kernel, by decide +kernel⟩, List.mem_of_getElem? (i := 583) (by decide +kernel), List.mem_of_getElem? (i := 790) (by decide +kernel), List.mem_of_getElem? (i := 791) (by decide +kernel)⟩
theorem lw_p44 : lw_okq (⟨"CarouselMountModel", "receive", "()V"⟩, 33) := ⟨⟨by decide +kernel, by decide +kernel⟩, List.mem_of_getElem? (i := 583) (by decide +kernel), List.mem_of_getElem? (i := 794) (by decide +kernel), List.mem_of_getElem? (i := 795) (by decide +kernel)⟩
theorem lw_p45 : lw_okq (⟨"CarouselMountModel", "throwAway", "()V"⟩, 33) := ⟨⟨by decide +kernel, by decide +kernel⟩, List.mem_of_getElem? (i := 583) (by decide +kernel), List.mem_of_getElem? (i := 798) (by decide +kernel), List.mem_of_getElem? (i := 799) (by decide +kernel)⟩
theorem lw_p46 : lw_okq (⟨"CarouselMountModel", "more", "(II)V"⟩, 33) := ⟨⟨by decide +kernel, by decide +kernel⟩, List.mem_of_getElem? (i := 583) (by decide +kernel), List.mem_of_getElem? (i := 802) (by decide +kernel), List.mem_of_getElem? (i := 803) (by decide +kernel)⟩
theorem lw_p47 : lw_okq (⟨"CarouselMountModel", "take", "(I)V"⟩, 33) := ⟨⟨by decide +kernel, by decide +kernel⟩, List.mem_of_getElem? (i := 583) (by decide +kernel), List.mem_of_getElem? (i := 806) (by decide +kernel), List.mem_of_getElem? (i := 807) (by decide +kernel)⟩
def lw_privs_3 : List (MethodName × Nat) := [(⟨"CarouselMountModel", "next", "(I)I"⟩, 33), (⟨"CarouselMountModel", "message", "(I)V"⟩, 33), (⟨"CarouselMountModel", "put", "(II)V"⟩, 33), (⟨"CarouselMountModel", "unchanged", "(I)Z"⟩, 33), (⟨"CarouselMountModel", "writeCycle", "()V"⟩, 33), (⟨"CarouselMountModel", "emit", "(I)V"⟩, 33), (⟨"CarouselMountModel", "emitPair", "(I)V"⟩, 33), (⟨"CarouselMountModel", "emitCheck", "()V"⟩, 33), (⟨"CarouselMountModel", "build", "()I"⟩, 33), (⟨"CarouselMountModel", "rest", "()I"⟩, 33), (⟨"CarouselMountModel", "pass", "(IZ)I"⟩, 33), (⟨"CarouselMountModel", "sent", "()V"⟩, 33), (⟨"CarouselMountModel", "receive", "()V"⟩, 33), (⟨"CarouselMountModel", "throwAway", "()V"⟩, 33), (⟨"CarouselMountModel", "more", "(II)V"⟩, 33), (⟨"CarouselMountModel", "take", "(I)V"⟩, 33)]
theorem lw_r3 : ∀ q ∈ lw_privs_3, lw_okq q := List.forall_mem_cons.mpr ⟨lw_p32, List.forall_mem_cons.mpr ⟨lw_p33, List.forall_mem_cons.mpr ⟨lw_p34, List.forall_mem_cons.mpr ⟨lw_p35, List.forall_mem_cons.mpr ⟨lw_p36, List.forall_mem_cons.mpr ⟨lw_p37, List.forall_mem_cons.mpr ⟨lw_p38, List.forall_mem_cons.mpr ⟨lw_p39, List.forall_mem_cons.mpr ⟨lw_p40, List.forall_mem_cons.mpr ⟨lw_p41, List.forall_mem_cons.mpr ⟨lw_p42, List.forall_mem_cons.mpr ⟨lw_p43, List.forall_mem_cons.mpr ⟨lw_p44, List.forall_mem_cons.mpr ⟨lw_p45, List.forall_mem_cons.mpr ⟨lw_p46, List.forall_mem_cons.mpr ⟨lw_p47, fun _ h => absurd h List.not_mem_nil⟩⟩⟩⟩⟩⟩⟩⟩⟩⟩⟩⟩⟩⟩⟩⟩
theorem lw_p48 : lw_okq (⟨"CarouselMountModel", "look", "()V"⟩, 33) := ⟨⟨by decide +kernel, by decide +kernel⟩, List.mem_of_getElem? (i := 583) (by decide +kernel), List.mem_of_getElem? (i := 810) (by decide +kernel), List.mem_of_getElem? (i := 811) (by decide +kernel)⟩
theorem lw_p49 : lw_okq (⟨"CarouselMountModel", "checks", "()Z"⟩, 33) := ⟨⟨by decide +kernel, by decide +kernel⟩, List.mem_of_getElem? (i := 583) (by decide +kernel), List.mem_of_getElem? (i := 814) (by decide +kernel), List.mem_of_getElem? (i := 815) (by decide +kernel)⟩
theorem lw_p50 : lw_okq (⟨"CarouselMountModel", "isList", "()Z"⟩, 33) := ⟨⟨by decide +kernel, by decide +kernel⟩, List.mem_of_getElem? (i := 583) (by decide +kernel), List.mem_of_getElem? (i := 818) (by decide +kernel), List.mem_of_getElem? (i := 819) (by decide +kernel)⟩
theorem lw_p51 : lw_okq (⟨"CarouselMountModel", "list", "()V"⟩, 33) := ⟨⟨by decide +kernel, by decide +kernel⟩, List.mem_of_getElem? (i := 583) (by decide +kernel), List.mem_of_getElem? (i := 822) (by decide +kernel), List.mem_of_getElem? (i := 823) (by decide +kernel)⟩
theorem lw_p52 : lw_okq (⟨"CarouselMountModel", "pair", "(I)I"⟩, 33) := ⟨⟨by decide +kernel, by decide +kernel⟩, List.mem_of_getElem? (i := 583) (by decide +kernel), List.mem_of_getElem? (i := 826) (by decide +kernel), List.mem_of_getElem? (i := 827) (by decide +kernel)⟩
theorem lw_p53 : lw_okq (⟨"CarouselMountModel", "nothing", "(I)V"⟩, 33) := ⟨⟨by decide +kernel, by decide +kernel⟩, List.mem_of_getElem? (i := 583) (by decide +kernel), List.mem_of_getElem? (i := 830) (by decide +kernel), List.mem_of_getElem? (i := 831) (by decide +kernel)⟩
theorem lw_p54 : lw_okq (⟨"CarouselMountModel", "fits", "()Z"⟩, 33) := ⟨⟨by decide +kernel, by decide +kernel⟩, List.mem_of_getElem? (i := 583) (by decide +kernel), List.mem_of_getElem? (i := 834) (by decide +kernel), List.mem_of_getElem? (i := 835) (by decide +kernel)⟩
theorem lw_p55 : lw_okq (⟨"CarouselMountModel", "block", "()V"⟩, 33) := ⟨⟨by decide +kernel, by decide +kernel⟩, List.mem_of_getElem? (i := 583) (by decide +kernel), List.mem_of_getElem? (i := 838) (by decide +kernel), List.mem_of_getElem? (i := 839) (by decide +kernel)⟩
theorem lw_p56 : lw_okq (⟨"CarouselMountModel", "heldOf", "(I)I"⟩, 33) := ⟨⟨by decide +kernel, by decide +kernel⟩, List.mem_of_getElem? (i := 583) (by decide +kernel), List.mem_of_getElem? (i := 866) (by decide +kernel), List.mem_of_getElem? (i := 867) (by decide +kernel)⟩
theorem lw_p57 : lw_okq (⟨"CarouselMountModel", "follow", "(III)I"⟩, 33) := ⟨⟨by decide +kernel, by decide +kernel⟩, List.mem_of_getElem? (i := 583) (by decide +kernel), List.mem_of_getElem? (i := 874) (by decide +kernel), List.mem_of_getElem? (i := 875) (by decide +kernel)⟩
theorem lw_p58 : lw_okq (⟨"CarouselMountModel", "gateway", "()I"⟩, 33) := ⟨⟨by decide +kernel, by decide +kernel⟩, List.mem_of_getElem? (i := 583) (by decide +kernel), List.mem_of_getElem? (i := 878) (by decide +kernel), List.mem_of_getElem? (i := 879) (by decide +kernel)⟩
theorem lw_p59 : lw_okq (⟨"CarouselMountModel", "ready", "(I)I"⟩, 33) := ⟨⟨by decide +kernel, by decide +kernel⟩, List.mem_of_getElem? (i := 583) (by decide +kernel), List.mem_of_getElem? (i := 882) (by decide +kernel), List.mem_of_getElem? (i := 883) (by decide +kernel)⟩
theorem lw_p60 : lw_okq (⟨"CarouselMountModel", "first", "(II)I"⟩, 33) := ⟨⟨by decide +kernel, by decide +kernel⟩, List.mem_of_getElem? (i := 583) (by decide +kernel), List.mem_of_getElem? (i := 886) (by decide +kernel), List.mem_of_getElem? (i := 887) (by decide +kernel)⟩
theorem lw_p61 : lw_okq (⟨"CarouselMountModel", "stands", "(II)Z"⟩, 33) := ⟨⟨by decide +kernel, by decide +kernel⟩, List.mem_of_getElem? (i := 583) (by decide +kernel), List.mem_of_getElem? (i := 890) (by decide +kernel), List.mem_of_getElem? (i := 891) (by decide +kernel)⟩
theorem lw_p62 : lw_okq (⟨"CarouselMountModel", "enter", "(II)I"⟩, 33) := ⟨⟨by decide +kernel, by decide +kernel⟩, List.mem_of_getElem? (i := 583) (by decide +kernel), List.mem_of_getElem? (i := 894) (by decide +kernel), List.mem_of_getElem? (i := 895) (by decide +kernel)⟩
def lw_privs_4 : List (MethodName × Nat) := [(⟨"CarouselMountModel", "look", "()V"⟩, 33), (⟨"CarouselMountModel", "checks", "()Z"⟩, 33), (⟨"CarouselMountModel", "isList", "()Z"⟩, 33), (⟨"CarouselMountModel", "list", "()V"⟩, 33), (⟨"CarouselMountModel", "pair", "(I)I"⟩, 33), (⟨"CarouselMountModel", "nothing", "(I)V"⟩, 33), (⟨"CarouselMountModel", "fits", "()Z"⟩, 33), (⟨"CarouselMountModel", "block", "()V"⟩, 33), (⟨"CarouselMountModel", "heldOf", "(I)I"⟩, 33), (⟨"CarouselMountModel", "follow", "(III)I"⟩, 33), (⟨"CarouselMountModel", "gateway", "()I"⟩, 33), (⟨"CarouselMountModel", "ready", "(I)I"⟩, 33), (⟨"CarouselMountModel", "first", "(II)I"⟩, 33), (⟨"CarouselMountModel", "stands", "(II)Z"⟩, 33), (⟨"CarouselMountModel", "enter", "(II)I"⟩, 33)]
theorem lw_r4 : ∀ q ∈ lw_privs_4, lw_okq q := List.forall_mem_cons.mpr ⟨lw_p48, List.forall_mem_cons.mpr ⟨lw_p49, List.forall_mem_cons.mpr ⟨lw_p50, List.forall_mem_cons.mpr ⟨lw_p51, List.forall_mem_cons.mpr ⟨lw_p52, List.forall_mem_cons.mpr ⟨lw_p53, List.forall_mem_cons.mpr ⟨lw_p54, List.forall_mem_cons.mpr ⟨lw_p55, List.forall_mem_cons.mpr ⟨lw_p56, List.forall_mem_cons.mpr ⟨lw_p57, List.forall_mem_cons.mpr ⟨lw_p58, List.forall_mem_cons.mpr ⟨lw_p59, List.forall_mem_cons.mpr ⟨lw_p60, List.forall_mem_cons.mpr ⟨lw_p61, List.forall_mem_cons.mpr ⟨lw_p62, fun _ h => absurd h List.not_mem_nil⟩⟩⟩⟩⟩⟩⟩⟩⟩⟩⟩⟩⟩⟩⟩
def lw_privs : List (MethodName × Nat) := lw_privs_1 ++ (lw_privs_2 ++ (lw_privs_3 ++ (lw_privs_4)))
def lw_tbl : List Cond := k2_sels lw_privs ++ tables_1
theorem lw_privs_ok : ∀ q ∈ lw_privs, lw_okq q := by
  show ∀ q ∈ lw_privs_1 ++ (lw_privs_2 ++ (lw_privs_3 ++ (lw_privs_4))), lw_okq q
  exact List.forall_mem_append.mpr ⟨lw_r1, List.forall_mem_append.mpr ⟨lw_r2, List.forall_mem_append.mpr ⟨lw_r3, lw_r4⟩⟩⟩
-- ===== end of PART A; then your names; then what follows =====
end
section
def R_CM : String := "CarouselMount"
def F_CM : u_T := fun k => match k with
  | 0 => ("CarouselMount", "tree", "LCarouselMount$Tree;", true)
  | 1 => ("CarouselMount", "edition", "LCarouselMount$Edition;", true)
  | 2 => ("CarouselMount", "sender", "LCarouselMount$Sender;", true)
  | _ => ("CarouselMount", "receiver", "LCarouselMount$Receiver;", true)
def t_CM : Nat → FieldType := fun k => match k with
  | 0 => .object "CarouselMount$Tree"
  | 1 => .object "CarouselMount$Edition"
  | 2 => .object "CarouselMount$Sender"
  | _ => .object "CarouselMount$Receiver"
theorem n_CM : ∀ a, a < 4 → ∀ b, b < 4 → a ≠ b → (F_CM a).2.1 ≠ (F_CM b).2.1 := by decide +kernel
theorem to_CM : ∀ k, k < 4 → parseFieldDescriptor (F_CM k).2.2.1 = some (t_CM k) := by decide +kernel
def R_Tree : String := "CarouselMount$Tree"
def F_Tree : u_T := fun k => match k with
  | 0 => ("CarouselMount$Tree", "kinds", "[I", true)
  | 1 => ("CarouselMount$Tree", "parents", "[I", true)
  | 2 => ("CarouselMount$Tree", "names", "[I", true)
  | 3 => ("CarouselMount$Tree", "lengths", "[I", true)
  | _ => ("CarouselMount$Tree", "bytes", "[I", true)
def t_Tree : Nat → FieldType := fun k => match k with
  | 0 => .array .int
  | 1 => .array .int
  | 2 => .array .int
  | 3 => .array .int
  | _ => .array .int
theorem n_Tree : ∀ a, a < 5 → ∀ b, b < 5 → a ≠ b → (F_Tree a).2.1 ≠ (F_Tree b).2.1 := by decide +kernel
theorem to_Tree : ∀ k, k < 5 → parseFieldDescriptor (F_Tree k).2.2.1 = some (t_Tree k) := by decide +kernel
def R_Ed : String := "CarouselMount$Edition"
def F_Ed : u_T := fun k => match k with
  | 0 => ("CarouselMount$Edition", "number", "I", false)
  | 1 => ("CarouselMount$Edition", "moduleCount", "I", false)
  | 2 => ("CarouselMount$Edition", "sizes", "[I", true)
  | 3 => ("CarouselMount$Edition", "versions", "[I", true)
  | 4 => ("CarouselMount$Edition", "bytes", "[I", true)
  | 5 => ("CarouselMount$Edition", "order", "[I", true)
  | 6 => ("CarouselMount$Edition", "orderCount", "I", false)
  | 7 => ("CarouselMount$Edition", "moduleOf", "[I", true)
  | 8 => ("CarouselMount$Edition", "draft", "[I", true)
  | _ => ("CarouselMount$Edition", "draftSize", "I", false)
def t_Ed : Nat → FieldType := fun k => match k with
  | 0 => .int
  | 1 => .int
  | 2 => .array .int
  | 3 => .array .int
  | 4 => .array .int
  | 5 => .array .int
  | 6 => .int
  | 7 => .array .int
  | 8 => .array .int
  | _ => .int
theorem n_Ed : ∀ a, a < 10 → ∀ b, b < 10 → a ≠ b → (F_Ed a).2.1 ≠ (F_Ed b).2.1 := by decide +kernel
theorem to_Ed : ∀ k, k < 10 → parseFieldDescriptor (F_Ed k).2.2.1 = some (t_Ed k) := by decide +kernel
def R_Sn : String := "CarouselMount$Sender"
def F_Sn : u_T := fun k => match k with
  | 0 => ("CarouselMount$Sender", "packet", "[I", true)
  | 1 => ("CarouselMount$Sender", "cycle", "LCarouselMount$Cycle;", true)
  | 2 => ("CarouselMount$Sender", "counter", "I", false)
  | 3 => ("CarouselMount$Sender", "position", "I", false)
  | _ => ("CarouselMount$Sender", "positionBehind", "I", false)
def t_Sn : Nat → FieldType := fun k => match k with
  | 0 => .array .int
  | 1 => .object "CarouselMount$Cycle"
  | 2 => .int
  | 3 => .int
  | _ => .int
theorem n_Sn : ∀ a, a < 5 → ∀ b, b < 5 → a ≠ b → (F_Sn a).2.1 ≠ (F_Sn b).2.1 := by decide +kernel
theorem to_Sn : ∀ k, k < 5 → parseFieldDescriptor (F_Sn k).2.2.1 = some (t_Sn k) := by decide +kernel
def R_Cy : String := "CarouselMount$Cycle"
def F_Cy : u_T := fun k => match k with
  | 0 => ("CarouselMount$Cycle", "bytes", "[I", true)
  | 1 => ("CarouselMount$Cycle", "length", "I", false)
  | 2 => ("CarouselMount$Cycle", "starts", "[I", true)
  | _ => ("CarouselMount$Cycle", "sectionCount", "I", false)
def t_Cy : Nat → FieldType := fun k => match k with
  | 0 => .array .int
  | 1 => .int
  | 2 => .array .int
  | _ => .int
theorem n_Cy : ∀ a, a < 4 → ∀ b, b < 4 → a ≠ b → (F_Cy a).2.1 ≠ (F_Cy b).2.1 := by decide +kernel
theorem to_Cy : ∀ k, k < 4 → parseFieldDescriptor (F_Cy k).2.2.1 = some (t_Cy k) := by decide +kernel
def R_Rc : String := "CarouselMount$Receiver"
def F_Rc : u_T := fun k => match k with
  | 0 => ("CarouselMount$Receiver", "mount", "LCarouselMount$Mount;", true)
  | 1 => ("CarouselMount$Receiver", "counts", "[I", true)
  | 2 => ("CarouselMount$Receiver", "section", "[I", true)
  | 3 => ("CarouselMount$Receiver", "collected", "I", false)
  | _ => ("CarouselMount$Receiver", "lastCounter", "I", false)
def t_Rc : Nat → FieldType := fun k => match k with
  | 0 => .object "CarouselMount$Mount"
  | 1 => .array .int
  | 2 => .array .int
  | 3 => .int
  | _ => .int
theorem n_Rc : ∀ a, a < 5 → ∀ b, b < 5 → a ≠ b → (F_Rc a).2.1 ≠ (F_Rc b).2.1 := by decide +kernel
theorem to_Rc : ∀ k, k < 5 → parseFieldDescriptor (F_Rc k).2.2.1 = some (t_Rc k) := by decide +kernel
def R_Mt : String := "CarouselMount$Mount"
def F_Mt : u_T := fun k => match k with
  | 0 => ("CarouselMount$Mount", "hasList", "Z", false)
  | 1 => ("CarouselMount$Mount", "listTransaction", "I", false)
  | 2 => ("CarouselMount$Mount", "sizes", "[I", true)
  | 3 => ("CarouselMount$Mount", "versions", "[I", true)
  | 4 => ("CarouselMount$Mount", "heldBits", "[I", true)
  | _ => ("CarouselMount$Mount", "bytes", "[I", true)
def t_Mt : Nat → FieldType := fun k => match k with
  | 0 => .boolean
  | 1 => .int
  | 2 => .array .int
  | 3 => .array .int
  | 4 => .array .int
  | _ => .array .int
theorem n_Mt : ∀ a, a < 6 → ∀ b, b < 6 → a ≠ b → (F_Mt a).2.1 ≠ (F_Mt b).2.1 := by decide +kernel
theorem to_Mt : ∀ k, k < 6 → parseFieldDescriptor (F_Mt k).2.2.1 = some (t_Mt k) := by decide +kernel
def R_Md : String := "CarouselMountModel"
def F_Md : u_T := fun k => match k with
  | 0 => ("CarouselMountModel", "kindOf", "[I", true)
  | 1 => ("CarouselMountModel", "parent", "[I", true)
  | 2 => ("CarouselMountModel", "name", "[I", true)
  | 3 => ("CarouselMountModel", "length", "[I", true)
  | 4 => ("CarouselMountModel", "bytes", "[I", true)
  | 5 => ("CarouselMountModel", "transaction", "I", false)
  | 6 => ("CarouselMountModel", "modules", "I", false)
  | 7 => ("CarouselMountModel", "sizes", "[I", true)
  | 8 => ("CarouselMountModel", "versions", "[I", true)
  | 9 => ("CarouselMountModel", "contents", "[I", true)
  | 10 => ("CarouselMountModel", "oldModules", "I", false)
  | 11 => ("CarouselMountModel", "oldSizes", "[I", true)
  | 12 => ("CarouselMountModel", "oldVersions", "[I", true)
  | 13 => ("CarouselMountModel", "oldContents", "[I", true)
  | 14 => ("CarouselMountModel", "liesIn", "[I", true)
  | 15 => ("CarouselMountModel", "cycle", "[I", true)
  | 16 => ("CarouselMountModel", "ends", "[Z", true)
  | 17 => ("CarouselMountModel", "total", "I", false)
  | 18 => ("CarouselMountModel", "sum", "I", false)
  | 19 => ("CarouselMountModel", "position", "I", false)
  | 20 => ("CarouselMountModel", "counter", "I", false)
  | 21 => ("CarouselMountModel", "packet", "[I", true)
  | 22 => ("CarouselMountModel", "heardTransaction", "I", false)
  | 23 => ("CarouselMountModel", "heardCounter", "I", false)
  | 24 => ("CarouselMountModel", "listed", "[Z", true)
  | 25 => ("CarouselMountModel", "listedVersion", "[I", true)
  | 26 => ("CarouselMountModel", "listedSize", "[I", true)
  | 27 => ("CarouselMountModel", "holds", "[Z", true)
  | 28 => ("CarouselMountModel", "store", "[I", true)
  | 29 => ("CarouselMountModel", "collecting", "Z", false)
  | 30 => ("CarouselMountModel", "got", "I", false)
  | 31 => ("CarouselMountModel", "section", "[I", true)
  | _ => ("CarouselMountModel", "counts", "[I", true)
def t_Md : Nat → FieldType := fun k => match k with
  | 0 => .array .int
  | 1 => .array .int
  | 2 => .array .int
  | 3 => .array .int
  | 4 => .array .int
  | 5 => .int
  | 6 => .int
  | 7 => .array .int
  | 8 => .array .int
  | 9 => .array .int
  | 10 => .int
  | 11 => .array .int
  | 12 => .array .int
  | 13 => .array .int
  | 14 => .array .int
  | 15 => .array .int
  | 16 => .array .boolean
  | 17 => .int
  | 18 => .int
  | 19 => .int
  | 20 => .int
  | 21 => .array .int
  | 22 => .int
  | 23 => .int
  | 24 => .array .boolean
  | 25 => .array .int
  | 26 => .array .int
  | 27 => .array .boolean
  | 28 => .array .int
  | 29 => .boolean
  | 30 => .int
  | 31 => .array .int
  | _ => .array .int
theorem n_Md : ∀ a, a < 33 → ∀ b, b < 33 → a ≠ b → (F_Md a).2.1 ≠ (F_Md b).2.1 := by decide +kernel
theorem to_Md : ∀ k, k < 33 → parseFieldDescriptor (F_Md k).2.2.1 = some (t_Md k) := by decide +kernel
def R_Law : String := "CarouselMountLaw"
def R_Arr : String := "java/util/Arrays"
def R_Int : String := "java/lang/Integer"
abbrev zcl : List vw_C := [(R_CM, F_CM, 4), (R_Tree, F_Tree, 5), (R_Ed, F_Ed, 10), (R_Sn, F_Sn, 5), (R_Cy, F_Cy, 4), (R_Rc, F_Rc, 5), (R_Mt, F_Mt, 6), (R_Md, F_Md, 33)]
abbrev b_CM_init : ByteArray := prog_1_method_1_code
def y_CM_init : MethodName := ⟨R_CM, "<init>", "()V"⟩
abbrev b_CM_make : ByteArray := prog_1_method_2_code
def y_CM_make : MethodName := ⟨R_CM, "make", "(IIZ)I"⟩
abbrev b_CM_remove : ByteArray := prog_1_method_3_code
def y_CM_remove : MethodName := ⟨R_CM, "remove", "(I)I"⟩
abbrev b_CM_append : ByteArray := prog_1_method_4_code
def y_CM_append : MethodName := ⟨R_CM, "append", "(II)I"⟩
abbrev b_CM_empty : ByteArray := prog_1_method_5_code
def y_CM_empty : MethodName := ⟨R_CM, "empty", "(I)I"⟩
abbrev b_CM_publish : ByteArray := prog_1_method_6_code
def y_CM_publish : MethodName := ⟨R_CM, "publish", "()I"⟩
abbrev b_CM_modules : ByteArray := prog_1_method_7_code
def y_CM_modules : MethodName := ⟨R_CM, "modules", "()I"⟩
abbrev b_CM_module : ByteArray := prog_1_method_8_code
def y_CM_module : MethodName := ⟨R_CM, "module", "(I)I"⟩
abbrev b_CM_peek : ByteArray := prog_1_method_9_code
def y_CM_peek : MethodName := ⟨R_CM, "peek", "(I)I"⟩
abbrev b_CM_send : ByteArray := prog_1_method_10_code
def y_CM_send : MethodName := ⟨R_CM, "send", "(I)I"⟩
abbrev b_CM_lose : ByteArray := prog_1_method_11_code
def y_CM_lose : MethodName := ⟨R_CM, "lose", "(I)I"⟩
abbrev b_CM_spoil : ByteArray := prog_1_method_12_code
def y_CM_spoil : MethodName := ⟨R_CM, "spoil", "(II)I"⟩
abbrev b_CM_retune : ByteArray := prog_1_method_13_code
def y_CM_retune : MethodName := ⟨R_CM, "retune", "()V"⟩
abbrev b_CM_count : ByteArray := prog_1_method_14_code
def y_CM_count : MethodName := ⟨R_CM, "count", "(I)I"⟩
abbrev b_CM_transaction : ByteArray := prog_1_method_15_code
def y_CM_transaction : MethodName := ⟨R_CM, "transaction", "()I"⟩
abbrev b_CM_held : ByteArray := prog_1_method_16_code
def y_CM_held : MethodName := ⟨R_CM, "held", "(I)I"⟩
abbrev b_CM_kind : ByteArray := prog_1_method_17_code
def y_CM_kind : MethodName := ⟨R_CM, "kind", "(III)I"⟩
abbrev b_CM_size : ByteArray := prog_1_method_18_code
def y_CM_size : MethodName := ⟨R_CM, "size", "(III)I"⟩
abbrev b_CM_read : ByteArray := prog_1_method_19_code
def y_CM_read : MethodName := ⟨R_CM, "read", "(IIII)I"⟩
abbrev b_CM_follow : ByteArray := prog_1_method_20_code
def y_CM_follow : MethodName := ⟨R_CM, "follow", "(III)I"⟩
abbrev b_CM_isEntryKey : ByteArray := prog_1_method_21_code
def y_CM_isEntryKey : MethodName := ⟨R_CM, "isEntryKey", "(I)Z"⟩
abbrev b_CM_isByte : ByteArray := prog_1_method_22_code
def y_CM_isByte : MethodName := ⟨R_CM, "isByte", "(I)Z"⟩
abbrev b_CM_pairAt : ByteArray := prog_1_method_23_code
def y_CM_pairAt : MethodName := ⟨R_CM, "pairAt", "([II)I"⟩
abbrev b_CM_checkOf : ByteArray := prog_1_method_24_code
def y_CM_checkOf : MethodName := ⟨R_CM, "checkOf", "([III)I"⟩
abbrev b_CM_blocksIn : ByteArray := prog_1_method_25_code
def y_CM_blocksIn : MethodName := ⟨R_CM, "blocksIn", "(I)I"⟩
abbrev b_CM_blockLength : ByteArray := prog_1_method_26_code
def y_CM_blockLength : MethodName := ⟨R_CM, "blockLength", "(II)I"⟩
abbrev b_Md_init : ByteArray := prog_9_method_1_code
def y_Md_init : MethodName := ⟨R_Md, "<init>", "()V"⟩
abbrev b_Md_within : ByteArray := prog_9_method_2_code
def y_Md_within : MethodName := ⟨R_Md, "within", "(III)Z"⟩
abbrev b_Md_after : ByteArray := prog_9_method_3_code
def y_Md_after : MethodName := ⟨R_Md, "after", "(II)I"⟩
abbrev b_Md_make : ByteArray := prog_9_method_4_code
def y_Md_make : MethodName := ⟨R_Md, "make", "(IIZ)I"⟩
abbrev b_Md_remove : ByteArray := prog_9_method_5_code
def y_Md_remove : MethodName := ⟨R_Md, "remove", "(I)I"⟩
abbrev b_Md_append : ByteArray := prog_9_method_6_code
def y_Md_append : MethodName := ⟨R_Md, "append", "(II)I"⟩
abbrev b_Md_empty : ByteArray := prog_9_method_7_code
def y_Md_empty : MethodName := ⟨R_Md, "empty", "(I)I"⟩
abbrev b_Md_next : ByteArray := prog_9_method_8_code
def y_Md_next : MethodName := ⟨R_Md, "next", "(I)I"⟩
abbrev b_Md_payload : ByteArray := prog_9_method_9_code
def y_Md_payload : MethodName := ⟨R_Md, "payload", "(I)I"⟩
abbrev b_Md_put : ByteArray := prog_9_method_10_code
def y_Md_put : MethodName := ⟨R_Md, "put", "(II)V"⟩
abbrev b_Md_message : ByteArray := prog_9_method_11_code
def y_Md_message : MethodName := ⟨R_Md, "message", "(I)V"⟩
abbrev b_Md_keepOld : ByteArray := prog_9_method_12_code
def y_Md_keepOld : MethodName := ⟨R_Md, "keepOld", "()V"⟩
abbrev b_Md_unchanged : ByteArray := prog_9_method_13_code
def y_Md_unchanged : MethodName := ⟨R_Md, "unchanged", "(I)Z"⟩
abbrev b_Md_publish : ByteArray := prog_9_method_14_code
def y_Md_publish : MethodName := ⟨R_Md, "publish", "()I"⟩
abbrev b_Md_mixed : ByteArray := prog_9_method_15_code
def y_Md_mixed : MethodName := ⟨R_Md, "mixed", "(II)I"⟩
abbrev b_Md_emit : ByteArray := prog_9_method_16_code
def y_Md_emit : MethodName := ⟨R_Md, "emit", "(I)V"⟩
abbrev b_Md_emitPair : ByteArray := prog_9_method_17_code
def y_Md_emitPair : MethodName := ⟨R_Md, "emitPair", "(I)V"⟩
abbrev b_Md_emitCheck : ByteArray := prog_9_method_18_code
def y_Md_emitCheck : MethodName := ⟨R_Md, "emitCheck", "()V"⟩
abbrev b_Md_writeCycle : ByteArray := prog_9_method_19_code
def y_Md_writeCycle : MethodName := ⟨R_Md, "writeCycle", "()V"⟩
abbrev b_Md_modules : ByteArray := prog_9_method_20_code
def y_Md_modules : MethodName := ⟨R_Md, "modules", "()I"⟩
abbrev b_Md_module : ByteArray := prog_9_method_21_code
def y_Md_module : MethodName := ⟨R_Md, "module", "(I)I"⟩
abbrev b_Md_rest : ByteArray := prog_9_method_22_code
def y_Md_rest : MethodName := ⟨R_Md, "rest", "()I"⟩
abbrev b_Md_build : ByteArray := prog_9_method_23_code
def y_Md_build : MethodName := ⟨R_Md, "build", "()I"⟩
abbrev b_Md_sent : ByteArray := prog_9_method_24_code
def y_Md_sent : MethodName := ⟨R_Md, "sent", "()V"⟩
abbrev b_Md_peek : ByteArray := prog_9_method_25_code
def y_Md_peek : MethodName := ⟨R_Md, "peek", "(I)I"⟩
abbrev b_Md_pass : ByteArray := prog_9_method_26_code
def y_Md_pass : MethodName := ⟨R_Md, "pass", "(IZ)I"⟩
abbrev b_Md_send : ByteArray := prog_9_method_27_code
def y_Md_send : MethodName := ⟨R_Md, "send", "(I)I"⟩
abbrev b_Md_lose : ByteArray := prog_9_method_28_code
def y_Md_lose : MethodName := ⟨R_Md, "lose", "(I)I"⟩
abbrev b_Md_spoil : ByteArray := prog_9_method_29_code
def y_Md_spoil : MethodName := ⟨R_Md, "spoil", "(II)I"⟩
abbrev b_Md_retune : ByteArray := prog_9_method_30_code
def y_Md_retune : MethodName := ⟨R_Md, "retune", "()V"⟩
abbrev b_Md_nothing : ByteArray := prog_9_method_31_code
def y_Md_nothing : MethodName := ⟨R_Md, "nothing", "(I)V"⟩
abbrev b_Md_throwAway : ByteArray := prog_9_method_32_code
def y_Md_throwAway : MethodName := ⟨R_Md, "throwAway", "()V"⟩
abbrev b_Md_receive : ByteArray := prog_9_method_33_code
def y_Md_receive : MethodName := ⟨R_Md, "receive", "()V"⟩
abbrev b_Md_more : ByteArray := prog_9_method_34_code
def y_Md_more : MethodName := ⟨R_Md, "more", "(II)V"⟩
abbrev b_Md_take : ByteArray := prog_9_method_35_code
def y_Md_take : MethodName := ⟨R_Md, "take", "(I)V"⟩
abbrev b_Md_pair : ByteArray := prog_9_method_36_code
def y_Md_pair : MethodName := ⟨R_Md, "pair", "(I)I"⟩
abbrev b_Md_checks : ByteArray := prog_9_method_37_code
def y_Md_checks : MethodName := ⟨R_Md, "checks", "()Z"⟩
abbrev b_Md_isList : ByteArray := prog_9_method_38_code
def y_Md_isList : MethodName := ⟨R_Md, "isList", "()Z"⟩
abbrev b_Md_look : ByteArray := prog_9_method_39_code
def y_Md_look : MethodName := ⟨R_Md, "look", "()V"⟩
abbrev b_Md_list : ByteArray := prog_9_method_40_code
def y_Md_list : MethodName := ⟨R_Md, "list", "()V"⟩
abbrev b_Md_fits : ByteArray := prog_9_method_41_code
def y_Md_fits : MethodName := ⟨R_Md, "fits", "()Z"⟩
abbrev b_Md_block : ByteArray := prog_9_method_42_code
def y_Md_block : MethodName := ⟨R_Md, "block", "()V"⟩
abbrev b_Md_count : ByteArray := prog_9_method_43_code
def y_Md_count : MethodName := ⟨R_Md, "count", "(I)I"⟩
abbrev b_Md_transaction : ByteArray := prog_9_method_44_code
def y_Md_transaction : MethodName := ⟨R_Md, "transaction", "()I"⟩
abbrev b_Md_heldOf : ByteArray := prog_9_method_45_code
def y_Md_heldOf : MethodName := ⟨R_Md, "heldOf", "(I)I"⟩
abbrev b_Md_held : ByteArray := prog_9_method_46_code
def y_Md_held : MethodName := ⟨R_Md, "held", "(I)I"⟩
abbrev b_Md_ready : ByteArray := prog_9_method_47_code
def y_Md_ready : MethodName := ⟨R_Md, "ready", "(I)I"⟩
abbrev b_Md_stands : ByteArray := prog_9_method_48_code
def y_Md_stands : MethodName := ⟨R_Md, "stands", "(II)Z"⟩
abbrev b_Md_first : ByteArray := prog_9_method_49_code
def y_Md_first : MethodName := ⟨R_Md, "first", "(II)I"⟩
abbrev b_Md_gateway : ByteArray := prog_9_method_50_code
def y_Md_gateway : MethodName := ⟨R_Md, "gateway", "()I"⟩
abbrev b_Md_enter : ByteArray := prog_9_method_51_code
def y_Md_enter : MethodName := ⟨R_Md, "enter", "(II)I"⟩
abbrev b_Md_follow : ByteArray := prog_9_method_52_code
def y_Md_follow : MethodName := ⟨R_Md, "follow", "(III)I"⟩
abbrev b_Md_kind : ByteArray := prog_9_method_53_code
def y_Md_kind : MethodName := ⟨R_Md, "kind", "(III)I"⟩
abbrev b_Md_size : ByteArray := prog_9_method_54_code
def y_Md_size : MethodName := ⟨R_Md, "size", "(III)I"⟩
abbrev b_Md_read : ByteArray := prog_9_method_55_code
def y_Md_read : MethodName := ⟨R_Md, "read", "(IIII)I"⟩
abbrev b_Cy_init : ByteArray := prog_2_method_1_code
def y_Cy_init : MethodName := ⟨R_Cy, "<init>", "()V"⟩
abbrev b_Cy_renew : ByteArray := prog_2_method_2_code
def y_Cy_renew : MethodName := ⟨R_Cy, "renew", "(LCarouselMount$Edition;)V"⟩
abbrev b_Cy_startFrom : ByteArray := prog_2_method_3_code
def y_Cy_startFrom : MethodName := ⟨R_Cy, "startFrom", "(I)I"⟩
abbrev b_Cy_addList : ByteArray := prog_2_method_4_code
def y_Cy_addList : MethodName := ⟨R_Cy, "addList", "(LCarouselMount$Edition;)V"⟩
abbrev b_Cy_addBlock : ByteArray := prog_2_method_5_code
def y_Cy_addBlock : MethodName := ⟨R_Cy, "addBlock", "(LCarouselMount$Edition;II)V"⟩
abbrev b_Cy_begin : ByteArray := prog_2_method_6_code
def y_Cy_begin : MethodName := ⟨R_Cy, "begin", "(II)V"⟩
abbrev b_Cy_writeCheck : ByteArray := prog_2_method_7_code
def y_Cy_writeCheck : MethodName := ⟨R_Cy, "writeCheck", "()V"⟩
abbrev b_Cy_writePair : ByteArray := prog_2_method_8_code
def y_Cy_writePair : MethodName := ⟨R_Cy, "writePair", "(I)V"⟩
abbrev b_Cy_write : ByteArray := prog_2_method_9_code
def y_Cy_write : MethodName := ⟨R_Cy, "write", "(I)V"⟩
abbrev b_Ed_init : ByteArray := prog_3_method_1_code
def y_Ed_init : MethodName := ⟨R_Ed, "<init>", "()V"⟩
abbrev b_Ed_byteAt : ByteArray := prog_3_method_2_code
def y_Ed_byteAt : MethodName := ⟨R_Ed, "byteAt", "(II)I"⟩
abbrev b_Ed_renew : ByteArray := prog_3_method_3_code
def y_Ed_renew : MethodName := ⟨R_Ed, "renew", "(LCarouselMount$Tree;)V"⟩
abbrev b_Ed_arrange : ByteArray := prog_3_method_4_code
def y_Ed_arrange : MethodName := ⟨R_Ed, "arrange", "(LCarouselMount$Tree;)V"⟩
abbrev b_Ed_assignModules : ByteArray := prog_3_method_5_code
def y_Ed_assignModules : MethodName := ⟨R_Ed, "assignModules", "(LCarouselMount$Tree;)I"⟩
abbrev b_Ed_draftModule : ByteArray := prog_3_method_6_code
def y_Ed_draftModule : MethodName := ⟨R_Ed, "draftModule", "(LCarouselMount$Tree;I)V"⟩
abbrev b_Ed_draftMessage : ByteArray := prog_3_method_7_code
def y_Ed_draftMessage : MethodName := ⟨R_Ed, "draftMessage", "(LCarouselMount$Tree;I)V"⟩
abbrev b_Ed_draftEntries : ByteArray := prog_3_method_8_code
def y_Ed_draftEntries : MethodName := ⟨R_Ed, "draftEntries", "(LCarouselMount$Tree;I)V"⟩
abbrev b_Ed_write : ByteArray := prog_3_method_9_code
def y_Ed_write : MethodName := ⟨R_Ed, "write", "(I)V"⟩
abbrev b_Ed_keepDraft : ByteArray := prog_3_method_10_code
def y_Ed_keepDraft : MethodName := ⟨R_Ed, "keepDraft", "(I)V"⟩
abbrev b_Ed_draftEquals : ByteArray := prog_3_method_11_code
def y_Ed_draftEquals : MethodName := ⟨R_Ed, "draftEquals", "(I)Z"⟩
abbrev b_Mt_init : ByteArray := prog_4_method_1_code
def y_Mt_init : MethodName := ⟨R_Mt, "<init>", "()V"⟩
abbrev b_Mt_reset : ByteArray := prog_4_method_2_code
def y_Mt_reset : MethodName := ⟨R_Mt, "reset", "()V"⟩
abbrev b_Mt_relist : ByteArray := prog_4_method_3_code
def y_Mt_relist : MethodName := ⟨R_Mt, "relist", "(III)V"⟩
abbrev b_Mt_takeList : ByteArray := prog_4_method_4_code
def y_Mt_takeList : MethodName := ⟨R_Mt, "takeList", "([I)V"⟩
abbrev b_Mt_takeBlock : ByteArray := prog_4_method_5_code
def y_Mt_takeBlock : MethodName := ⟨R_Mt, "takeBlock", "([II)Z"⟩
abbrev b_Mt_isListed : ByteArray := prog_4_method_6_code
def y_Mt_isListed : MethodName := ⟨R_Mt, "isListed", "(I)Z"⟩
abbrev b_Mt_blocksHeld : ByteArray := prog_4_method_7_code
def y_Mt_blocksHeld : MethodName := ⟨R_Mt, "blocksHeld", "(I)I"⟩
abbrev b_Mt_obstacle : ByteArray := prog_4_method_8_code
def y_Mt_obstacle : MethodName := ⟨R_Mt, "obstacle", "(I)I"⟩
abbrev b_Mt_gateway : ByteArray := prog_4_method_9_code
def y_Mt_gateway : MethodName := ⟨R_Mt, "gateway", "()I"⟩
abbrev b_Mt_enter : ByteArray := prog_4_method_10_code
def y_Mt_enter : MethodName := ⟨R_Mt, "enter", "(II)I"⟩
abbrev b_Mt_messageWithKey : ByteArray := prog_4_method_11_code
def y_Mt_messageWithKey : MethodName := ⟨R_Mt, "messageWithKey", "(II)I"⟩
abbrev b_Mt_fits : ByteArray := prog_4_method_12_code
def y_Mt_fits : MethodName := ⟨R_Mt, "fits", "(II)Z"⟩
abbrev b_Mt_isDirectoryAt : ByteArray := prog_4_method_13_code
def y_Mt_isDirectoryAt : MethodName := ⟨R_Mt, "isDirectoryAt", "(I)Z"⟩
abbrev b_Mt_kindAt : ByteArray := prog_4_method_14_code
def y_Mt_kindAt : MethodName := ⟨R_Mt, "kindAt", "(I)I"⟩
abbrev b_Mt_lengthAt : ByteArray := prog_4_method_15_code
def y_Mt_lengthAt : MethodName := ⟨R_Mt, "lengthAt", "(I)I"⟩
abbrev b_Mt_contentAt : ByteArray := prog_4_method_16_code
def y_Mt_contentAt : MethodName := ⟨R_Mt, "contentAt", "(II)I"⟩
abbrev b_Rc_init : ByteArray := prog_5_method_1_code
def y_Rc_init : MethodName := ⟨R_Rc, "<init>", "()V"⟩
abbrev b_Rc_reset : ByteArray := prog_5_method_2_code
def y_Rc_reset : MethodName := ⟨R_Rc, "reset", "()V"⟩
abbrev b_Rc_takePacket : ByteArray := prog_5_method_3_code
def y_Rc_takePacket : MethodName := ⟨R_Rc, "takePacket", "([I)V"⟩
abbrev b_Rc_continueSection : ByteArray := prog_5_method_4_code
def y_Rc_continueSection : MethodName := ⟨R_Rc, "continueSection", "([III)V"⟩
abbrev b_Rc_beginSections : ByteArray := prog_5_method_5_code
def y_Rc_beginSections : MethodName := ⟨R_Rc, "beginSections", "([II)V"⟩
abbrev b_Rc_throwAway : ByteArray := prog_5_method_6_code
def y_Rc_throwAway : MethodName := ⟨R_Rc, "throwAway", "()V"⟩
abbrev b_Rc_collect : ByteArray := prog_5_method_7_code
def y_Rc_collect : MethodName := ⟨R_Rc, "collect", "(I)V"⟩
abbrev b_Rc_judge : ByteArray := prog_5_method_8_code
def y_Rc_judge : MethodName := ⟨R_Rc, "judge", "(I)I"⟩
abbrev b_Rc_hasCheckDue : ByteArray := prog_5_method_9_code
def y_Rc_hasCheckDue : MethodName := ⟨R_Rc, "hasCheckDue", "(I)Z"⟩
abbrev b_Rc_isList : ByteArray := prog_5_method_10_code
def y_Rc_isList : MethodName := ⟨R_Rc, "isList", "(I)Z"⟩
abbrev b_Rc_isBlock : ByteArray := prog_5_method_11_code
def y_Rc_isBlock : MethodName := ⟨R_Rc, "isBlock", "(I)Z"⟩
abbrev b_Sn_init : ByteArray := prog_6_method_1_code
def y_Sn_init : MethodName := ⟨R_Sn, "<init>", "()V"⟩
abbrev b_Sn_isOnAir : ByteArray := prog_6_method_2_code
def y_Sn_isOnAir : MethodName := ⟨R_Sn, "isOnAir", "()Z"⟩
abbrev b_Sn_beginCycleOf : ByteArray := prog_6_method_3_code
def y_Sn_beginCycleOf : MethodName := ⟨R_Sn, "beginCycleOf", "(LCarouselMount$Edition;)V"⟩
abbrev b_Sn_advance : ByteArray := prog_6_method_4_code
def y_Sn_advance : MethodName := ⟨R_Sn, "advance", "()V"⟩
abbrev b_Sn_prepare : ByteArray := prog_6_method_5_code
def y_Sn_prepare : MethodName := ⟨R_Sn, "prepare", "()V"⟩
abbrev b_Sn_load : ByteArray := prog_6_method_6_code
def y_Sn_load : MethodName := ⟨R_Sn, "load", "(II)V"⟩
abbrev b_Tree_init : ByteArray := prog_7_method_1_code
def y_Tree_init : MethodName := ⟨R_Tree, "<init>", "()V"⟩
abbrev b_Tree_isThere : ByteArray := prog_7_method_2_code
def y_Tree_isThere : MethodName := ⟨R_Tree, "isThere", "(I)Z"⟩
abbrev b_Tree_isDirectory : ByteArray := prog_7_method_3_code
def y_Tree_isDirectory : MethodName := ⟨R_Tree, "isDirectory", "(I)Z"⟩
abbrev b_Tree_isFile : ByteArray := prog_7_method_4_code
def y_Tree_isFile : MethodName := ⟨R_Tree, "isFile", "(I)Z"⟩
abbrev b_Tree_kindOf : ByteArray := prog_7_method_5_code
def y_Tree_kindOf : MethodName := ⟨R_Tree, "kindOf", "(I)I"⟩
abbrev b_Tree_nameOf : ByteArray := prog_7_method_6_code
def y_Tree_nameOf : MethodName := ⟨R_Tree, "nameOf", "(I)I"⟩
abbrev b_Tree_fileLength : ByteArray := prog_7_method_7_code
def y_Tree_fileLength : MethodName := ⟨R_Tree, "fileLength", "(I)I"⟩
abbrev b_Tree_fileByte : ByteArray := prog_7_method_8_code
def y_Tree_fileByte : MethodName := ⟨R_Tree, "fileByte", "(II)I"⟩
abbrev b_Tree_hasEntry : ByteArray := prog_7_method_9_code
def y_Tree_hasEntry : MethodName := ⟨R_Tree, "hasEntry", "(II)Z"⟩
abbrev b_Tree_entryCount : ByteArray := prog_7_method_10_code
def y_Tree_entryCount : MethodName := ⟨R_Tree, "entryCount", "(I)I"⟩
abbrev b_Tree_leastFreeKey : ByteArray := prog_7_method_11_code
def y_Tree_leastFreeKey : MethodName := ⟨R_Tree, "leastFreeKey", "()I"⟩
abbrev b_Tree_put : ByteArray := prog_7_method_12_code
def y_Tree_put : MethodName := ⟨R_Tree, "put", "(IIII)V"⟩
abbrev b_Tree_take : ByteArray := prog_7_method_13_code
def y_Tree_take : MethodName := ⟨R_Tree, "take", "(I)V"⟩
abbrev b_Tree_addByte : ByteArray := prog_7_method_14_code
def y_Tree_addByte : MethodName := ⟨R_Tree, "addByte", "(II)I"⟩
abbrev b_Tree_clearFile : ByteArray := prog_7_method_15_code
def y_Tree_clearFile : MethodName := ⟨R_Tree, "clearFile", "(I)I"⟩
abbrev b_Tree_messageLength : ByteArray := prog_7_method_16_code
def y_Tree_messageLength : MethodName := ⟨R_Tree, "messageLength", "(I)I"⟩
abbrev b_Tree_entryAfter : ByteArray := prog_7_method_17_code
def y_Tree_entryAfter : MethodName := ⟨R_Tree, "entryAfter", "(II)I"⟩
abbrev b_Tree_followerOf : ByteArray := prog_7_method_18_code
def y_Tree_followerOf : MethodName := ⟨R_Tree, "followerOf", "(I)I"⟩
abbrev b_Arr_fill : ByteArray := prog_12_method_103_code
def y_Arr_fill : MethodName := ⟨R_Arr, "fill", "([II)V"⟩
abbrev b_Int_bitCount : ByteArray := prog_10_method_49_code
def y_Int_bitCount : MethodName := ⟨R_Int, "bitCount", "(I)I"⟩
abbrev b_Law_law : ByteArray := code
def y_Law_law : MethodName := ⟨R_Law, "law", "([I)Z"⟩
end
section

-- shapes of cells in the order of making: an int (false) or boolean (true) array of n, or an object of class number ci; a slot is none (an int, kept in S) or some v
abbrev zm_Sh : Type := (Bool × Nat) ⊕ (Nat × List (Option Value))
abbrev zm_S : Type := Nat → Nat → Int32
abbrev zm_L : Type := List (Option Value)
abbrev zm_Q : Type := Option Int32 → List zm_Sh → zm_S → Prop
-- a method: name, (code, locals), return type
abbrev zm_M : Type := MethodName × (ByteArray × Nat) × Option FieldType
def zm_v (ad : Nat → Nat) : Value → Value
  | .ref k => .ref (ad k)
  | v => v
theorem zm_cat (ad : Nat → Nat) (v : Value) : (zm_v ad v).category = v.category := by cases v <;> rfl
def zm_o (ad : Nat → Nat) (S : zm_S) (k i : Nat) : Option Value → Value
  | none => .int (S k i)
  | some v => zm_v ad v
def zm_e (cI cZ : ClassId) (ad : Nat → Nat) (S : zm_S) (k : Nat) : zm_Sh → va_E
  | .inl (b, n) => .inl (cond b cZ cI, n, .inl (S k))
  | .inr (ci, rs) => .inr (ci, rs.mapIdx (fun i o => zm_o ad S k i o))
def zm_w (cI cZ : ClassId) (ad : Nat → Nat) (G : List zm_Sh) (S : zm_S) : va_W := G.mapIdx (fun k sh => (ad k, zm_e cI cZ ad S k sh))
theorem zm_w_at {cI cZ : ClassId} {ad : Nat → Nat} {G : List zm_Sh} {S : zm_S} (k : Nat) : (zm_w cI cZ ad G S)[k]? = (G[k]?).map (fun sh => (ad k, zm_e cI cZ ad S k sh)) := by
  unfold zm_w; rw [List.getElem?_mapIdx]
theorem zm_w_get {cI cZ : ClassId} {ad : Nat → Nat} {G : List zm_Sh} {S : zm_S} {k : Nat} {sh : zm_Sh} (h : G[k]? = some sh) : (zm_w cI cZ ad G S)[k]? = some (ad k, zm_e cI cZ ad S k sh) := by
  rw [zm_w_at, h]; rfl
def zm_up (S : zm_S) (k i : Nat) (x : Int32) : zm_S := fun a => if a = k then upd (S k) i x else S a
def zm_upA (S : zm_S) (k : Nat) (f : Nat → Int32) : zm_S := fun a => if a = k then f else S a
theorem zm_up_self (S : zm_S) (k i : Nat) (x : Int32) : zm_up S k i x k = upd (S k) i x := by simp [zm_up]
theorem zm_up_ne (S : zm_S) {k a : Nat} (i : Nat) (x : Int32) (h : a ≠ k) : zm_up S k i x a = S a := by simp [zm_up, h]
theorem zm_upA_self (S : zm_S) (k : Nat) (f : Nat → Int32) : zm_upA S k f k = f := by simp [zm_upA]
theorem zm_upA_ne (S : zm_S) {k a : Nat} (f : Nat → Int32) (h : a ≠ k) : zm_upA S k f a = S a := by simp [zm_upA, h]
theorem zm_e_congr {cI cZ : ClassId} {ad : Nat → Nat} {S S' : zm_S} {k : Nat} (h : S k = S' k) (sh : zm_Sh) : zm_e cI cZ ad S k sh = zm_e cI cZ ad S' k sh := by
  rcases sh with ⟨b, n⟩ | ⟨ci, rs⟩
  · simp [zm_e, h]
  · have e : (fun (i : Nat) (o : Option Value) => zm_o ad S k i o) = (fun (i : Nat) (o : Option Value) => zm_o ad S' k i o) := by
      funext i o
      cases o with
      | none => show Value.int (S k i) = Value.int (S' k i); rw [h]
      | some v => rfl
    simp only [zm_e, e]
-- one cell changed
theorem zm_w_set {cI cZ : ClassId} {ad : Nat → Nat} {G G' : List zm_Sh} {S S' : zm_S} {k : Nat} {e : va_E} {sh sh' : zm_Sh} (hk : G[k]? = some sh) (hl : ∀ j, j ≠ k → G'[j]? = G[j]?) (hs : ∀ j, j ≠ k → S' j = S j) (hk' : G'[k]? = some sh') (he : zm_e cI cZ ad S' k sh' = e) : (zm_w cI cZ ad G S).set k (ad k, e) = zm_w cI cZ ad G' S' := by
  apply List.ext_getElem?
  intro j
  by_cases hj : j = k
  · subst hj
    have h1 : j < (zm_w cI cZ ad G S).length := (List.getElem?_eq_some_iff.mp (zm_w_get hk)).1
    rw [List.getElem?_set_self h1, zm_w_get hk', he]
  · rw [List.getElem?_set_ne (Ne.symm hj), zm_w_at, zm_w_at, hl j hj]
    cases G[j]? with
    | none => rfl
    | some x => simp only [Option.map_some]; rw [zm_e_congr (hs j hj).symm]
theorem zm_w_up {cI cZ : ClassId} {ad : Nat → Nat} {G : List zm_Sh} {S : zm_S} {k i n : Nat} {b : Bool} {x : Int32} (hk : G[k]? = some (.inl (b, n))) : (zm_w cI cZ ad G S).set k (ad k, .inl (cond b cZ cI, n, .inl (upd (S k) i x))) = zm_w cI cZ ad G (zm_up S k i x) :=
  zm_w_set hk (fun _ _ => rfl) (fun j hj => zm_up_ne S i x hj) hk (by simp [zm_e, zm_up_self])
theorem zm_w_upA {cI cZ : ClassId} {ad : Nat → Nat} {G : List zm_Sh} {S : zm_S} {k n : Nat} {b : Bool} {f : Nat → Int32} (hk : G[k]? = some (.inl (b, n))) : (zm_w cI cZ ad G S).set k (ad k, .inl (cond b cZ cI, n, .inl f)) = zm_w cI cZ ad G (zm_upA S k f) :=
  zm_w_set hk (fun _ _ => rfl) (fun j hj => zm_upA_ne S f hj) hk (by simp [zm_e, zm_upA_self])
theorem zm_w_upo {cI cZ : ClassId} {ad : Nat → Nat} {G : List zm_Sh} {S : zm_S} {k i ci : Nat} {rs : List (Option Value)} {x : Int32} (hk : G[k]? = some (.inr (ci, rs))) (hi : rs[i]? = some none) : (zm_w cI cZ ad G S).set k (ad k, .inr (ci, (rs.mapIdx (fun i o => zm_o ad S k i o)).set i (.int x))) = zm_w cI cZ ad G (zm_up S k i x) := by
  refine zm_w_set hk (fun _ _ => rfl) (fun j hj => zm_up_ne S i x hj) hk ?_
  have e : rs.mapIdx (fun i o => zm_o ad (zm_up S k i x) k i o) = rs.mapIdx (fun i o => zm_o ad (zm_up S k i x) k i o) := rfl
  show Sum.inr (ci, rs.mapIdx (fun a o => zm_o ad (zm_up S k i x) k a o)) = _
  congr 2
  apply List.ext_getElem?
  intro j
  rw [List.getElem?_mapIdx]
  by_cases hj : j = i
  · subst hj
    have h1 : j < (rs.mapIdx (fun i o => zm_o ad S k i o)).length := by rw [List.length_mapIdx]; exact (List.getElem?_eq_some_iff.mp hi).1
    rw [List.getElem?_set_self h1, hi]
    show some (Value.int (zm_up S k j x k j)) = _
    rw [zm_up_self]; simp [upd]
  · rw [List.getElem?_set_ne (Ne.symm hj), List.getElem?_mapIdx]
    cases rs[j]? with
    | none => rfl
    | some o =>
      cases o with
      | none => show some (Value.int (zm_up S k i x k j)) = some (Value.int (S k j)); rw [zm_up_self]; simp [upd, hj]
      | some v => rfl
theorem zm_w_upr {cI cZ : ClassId} {ad : Nat → Nat} {G : List zm_Sh} {S : zm_S} {k i ci : Nat} {rs : List (Option Value)} {o : Value} {v : Value} (hk : G[k]? = some (.inr (ci, rs))) (hi : rs[i]? = some (some o)) : (zm_w cI cZ ad G S).set k (ad k, .inr (ci, (rs.mapIdx (fun i o => zm_o ad S k i o)).set i (zm_v ad v))) = zm_w cI cZ ad (G.set k (.inr (ci, rs.set i (some v)))) S := by
  have hkl := (List.getElem?_eq_some_iff.mp hk).1
  have hil := (List.getElem?_eq_some_iff.mp hi).1
  refine zm_w_set hk (fun j hj => List.getElem?_set_ne (Ne.symm hj)) (fun j hj => rfl) (List.getElem?_set_self hkl) ?_
  show Sum.inr (ci, (rs.set i (some v)).mapIdx (fun a o => zm_o ad S k a o)) = _
  congr 2
  apply List.ext_getElem?
  intro j
  rw [List.getElem?_mapIdx]
  by_cases hj : j = i
  · subst hj
    rw [List.getElem?_set_self hil, List.getElem?_set_self (by rw [List.length_mapIdx]; exact hil)]
    rfl
  · rw [List.getElem?_set_ne (Ne.symm hj), List.getElem?_set_ne (Ne.symm hj), List.getElem?_mapIdx]
-- references below n (or the script's position)
def zm_lt (n : Nat) : Value → Bool
  | .ref k => Nat.blt k n || k == 1000000
  | _ => true
def zm_lto (n : Nat) : Option Value → Bool
  | none => true
  | some v => zm_lt n v
def zm_ltG (n : Nat) (G : List zm_Sh) : Bool := G.all (fun sh => match sh with
  | .inl _ => true
  | .inr (_, rs) => rs.all (zm_lto n))
def zm_ltL (n : Nat) (L : zm_L) : Bool := L.all (zm_lto n)
def zm_ltS (n : Nat) (st : List Value) : Bool := st.all (zm_lt n)
theorem zm_v_eq {ad ad' : Nat → Nat} {n : Nat} (ha : ∀ k, k < n ∨ k = 1000000 → ad' k = ad k) {v : Value} (h : zm_lt n v = true) : zm_v ad' v = zm_v ad v := by
  cases v with
  | ref k =>
    simp only [zm_lt, Bool.or_eq_true, Nat.blt_eq, beq_iff_eq] at h
    show Value.ref (ad' k) = Value.ref (ad k)
    rw [ha k h]
  | _ => rfl
theorem zm_o_eq {ad ad' : Nat → Nat} {n : Nat} (ha : ∀ k, k < n ∨ k = 1000000 → ad' k = ad k) {S : zm_S} {k i : Nat} {o : Option Value} (h : zm_lto n o = true) : zm_o ad' S k i o = zm_o ad S k i o := by
  cases o with
  | none => rfl
  | some v => exact zm_v_eq ha h
theorem zm_S_eq {ad ad' : Nat → Nat} {n : Nat} (ha : ∀ k, k < n ∨ k = 1000000 → ad' k = ad k) {st : List Value} (h : zm_ltS n st = true) : st.map (zm_v ad') = st.map (zm_v ad) := by
  apply List.map_congr_left
  intro v hv
  exact zm_v_eq ha (List.all_eq_true.mp h v hv)
-- a new cell at the end
theorem zm_w_push {cI cZ : ClassId} {ad : Nat → Nat} {G : List zm_Sh} {S S' : zm_S} {q : Nat} {sh : zm_Sh} {e : va_E} {ad' : Nat → Nat} (hG : zm_ltG G.length G = true) (ha : ∀ k, k < G.length ∨ k = 1000000 → ad' k = ad k) (hq : ad' G.length = q) (hS : ∀ k, k < G.length → S' k = S k) (he : zm_e cI cZ ad' S' G.length sh = e) : zm_w cI cZ ad G S ++ [(q, e)] = zm_w cI cZ ad' (G ++ [sh]) S' := by
  apply List.ext_getElem?
  intro j
  have hlen : (zm_w cI cZ ad G S).length = G.length := by unfold zm_w; rw [List.length_mapIdx]
  rw [zm_w_at]
  by_cases hj : j < G.length
  · rw [List.getElem?_append_left (by rw [hlen]; exact hj), List.getElem?_append_left hj, zm_w_at]
    have h1 : G[j]? = some G[j] := List.getElem?_eq_getElem hj
    rw [h1]
    simp only [Option.map_some]
    rw [ha j (Or.inl hj)]
    have h2 := List.all_eq_true.mp hG G[j] (List.getElem_mem hj)
    have h3 : zm_e cI cZ ad S j G[j] = zm_e cI cZ ad' S' j G[j] := by
      rw [zm_e_congr (hS j hj).symm]
      generalize G[j] = x at h2
      rcases x with ⟨b, n⟩ | ⟨ci, rs⟩
      · rfl
      · show Sum.inr (ci, _) = Sum.inr (ci, _)
        congr 2
        apply List.ext_getElem?
        intro i
        rw [List.getElem?_mapIdx, List.getElem?_mapIdx]
        cases hri : rs[i]? with
        | none => rfl
        | some o =>
          simp only [Option.map_some]
          rw [zm_o_eq ha (List.all_eq_true.mp h2 o (List.mem_of_getElem? hri))]
    rw [h3]
  · by_cases hj2 : j = G.length
    · subst hj2
      rw [List.getElem?_append_right (by rw [hlen]; omega), List.getElem?_append_right (by omega), hlen]
      simp [hq, he]
    · rw [List.getElem?_append_right (by rw [hlen]; omega), List.getElem?_append_right (by omega), hlen]
      have h1 : ∃ z, j - G.length = z + 1 := ⟨j - G.length - 1, by omega⟩
      obtain ⟨z, hz⟩ := h1
      rw [hz]; rfl
-- locals
def zm_as (ad : Nat → Nat) (L : zm_L) : List (Nat × Value) := (List.range L.length).filterMap (fun i => (L[i]?.join).map (fun v => (i, zm_v ad v)))
def zm_LV (ad : Nat → Nat) (ls : Array Slot) (L : zm_L) : Prop := ls.size = L.length ∧ lv_wf ls ∧ ∀ (i : Nat) (v : Value), L[i]? = some (some v) → v.category = 1 ∧ ls[i]? = some (.val (zm_v ad v))
theorem zm_as_mem {ad : Nat → Nat} {L : zm_L} {q : Nat × Value} : q ∈ zm_as ad L ↔ ∃ v, L[q.1]? = some (some v) ∧ q.2 = zm_v ad v := by
  constructor
  · intro h
    obtain ⟨i, hi, h2⟩ := List.mem_filterMap.mp h
    cases h3 : L[i]? with
    | none => rw [h3] at h2; cases h2
    | some o =>
      rw [h3] at h2
      cases o with
      | none => cases h2
      | some v => simp only [Option.join_some, Option.map_some, Option.some.injEq] at h2; subst h2; exact ⟨v, h3, rfl⟩
  · rintro ⟨v, h1, h2⟩
    refine List.mem_filterMap.mpr ⟨q.1, List.mem_range.mpr (List.getElem?_eq_some_iff.mp h1).1, ?_⟩
    rw [h1]; simp only [Option.join_some, Option.map_some, ← h2]
theorem zm_LV.has {ad : Nat → Nat} {ls : Array Slot} {L : zm_L} (h : zm_LV ad ls L) : lv_has ls L.length (zm_as ad L) := by
  refine ⟨h.1, h.2.1, fun q hq => ?_⟩
  obtain ⟨v, h1, h2⟩ := zm_as_mem.mp hq
  rw [h2]; exact (h.2.2 q.1 v h1).2
theorem zm_LV.at {ad : Nat → Nat} {ls : Array Slot} {L : zm_L} (h : zm_LV ad ls L) {i : Nat} {v : Value} (hi : L[i]? = some (some v)) : ls[i]? = some (.val (zm_v ad v)) := (h.2.2 i v hi).2
theorem zm_LV.store {ad : Nat → Nat} {ls ls' : Array Slot} {L : zm_L} {i : Nat} {v : Value} (h : zm_LV ad ls L) (hc : v.category = 1) (h2 : lv_has ls' L.length ((i, zm_v ad v) :: (zm_as ad L).filter (fun q => !(q.1 == i) && !(q.1 + 1 == i && q.2.category == 2)))) : zm_LV ad ls' (L.set i (some v)) := by
  refine ⟨by rw [List.length_set]; exact h2.1, h2.2.1, fun j w hj => ?_⟩
  by_cases e : j = i
  · subst e
    rw [List.getElem?_set_self (by rw [← List.length_set]; exact (List.getElem?_eq_some_iff.mp hj).1)] at hj
    cases hj
    exact ⟨hc, h2.2.2 (j, zm_v ad v) List.mem_cons_self⟩
  · rw [List.getElem?_set_ne (Ne.symm e)] at hj
    have hw := h.2.2 j w hj
    refine ⟨hw.1, h2.2.2 (j, zm_v ad w) (List.mem_cons_of_mem _ (List.mem_filter.mpr ⟨zm_as_mem.mpr ⟨w, hj, rfl⟩, ?_⟩))⟩
    have hw1 : (zm_v ad w).category = 1 := by rw [zm_cat]; exact hw.1
    simp [e, hw1]
theorem zm_LV.re {ad ad' : Nat → Nat} {ls : Array Slot} {L : zm_L} {n : Nat} (h : zm_LV ad ls L) (ha : ∀ k, k < n ∨ k = 1000000 → ad' k = ad k) (hn : zm_ltL n L = true) : zm_LV ad' ls L := by
  refine ⟨h.1, h.2.1, fun i v hi => ⟨(h.2.2 i v hi).1, ?_⟩⟩
  rw [zm_v_eq ha (List.all_eq_true.mp hn _ (List.mem_of_getElem? hi))]
  exact (h.2.2 i v hi).2
-- fewer locals
def zm_leL : zm_L → zm_L → Bool
  | [], [] => true
  | none :: a, _ :: b => zm_leL a b
  | some v :: a, some w :: b => decide (v = w) && zm_leL a b
  | _, _ => false
def zm_LE (a b : zm_L) : Prop := a.length = b.length ∧ ∀ (i : Nat) (v : Value), a[i]? = some (some v) → b[i]? = some (some v)
theorem zm_LE.nil : zm_LE [] [] := ⟨rfl, fun i v h => by simp at h⟩
theorem zm_LE.skip {a b : zm_L} {o : Option Value} (h : zm_LE a b) : zm_LE (none :: a) (o :: b) := by
  refine ⟨by simp [h.1], fun i v hi => ?_⟩
  cases i with
  | zero => simp at hi
  | succ i => simpa using h.2 i v (by simpa using hi)
theorem zm_LE.cons {a b : zm_L} {o : Option Value} (h : zm_LE a b) : zm_LE (o :: a) (o :: b) := by
  refine ⟨by simp [h.1], fun i v hi => ?_⟩
  cases i with
  | zero => simpa using hi
  | succ i => simpa using h.2 i v (by simpa using hi)
theorem zm_LV.le {ad : Nat → Nat} {ls : Array Slot} {a b : zm_L} (h : zm_LV ad ls b) (hl : zm_LE a b) : zm_LV ad ls a := ⟨by rw [hl.1]; exact h.1, h.2.1, fun i v hi => h.2.2 i v (hl.2 i v hi)⟩
-- the good words of the tables, and those of nest mates
def zm_all : List Cond := lw_tbl.filter goodWord
def zm_isN : Cond → Bool
  | .methodLinkNest .. => true
  | .fieldLinkNest .. => true
  | _ => false
def zm_N (U : State) : Prop := ∀ w ∈ lw_tbl, zm_isN w = true → va_Nw w U
theorem zm_N.warm {s U : State} (hW : s.WarmedH U.vm) (h : zm_N s) : zm_N U := by
  intro w hw hn
  have h1 := h w hw hn
  cases w <;> first | exact va_Nw.warmM hW h1 | exact va_Nw.warmF hW h1 | exact absurd hn (by simp [zm_isN])
theorem zm_isN_on {w : Cond} (hn : zm_isN w = true) : w.onTables = true := by cases w <;> first | rfl | exact absurd hn (by simp [zm_isN])
theorem zm_N.same {s U : State} (hv : s.vm = U.vm) (h : zm_N s) : zm_N U := fun w hw hn => va_Nw.same (zm_isN_on hn) hv (h w hw hn)
-- the context of a running frame
def zm_ps : Option Int32 → List Value → List Value
  | none, st => st
  | some x, st => .int x :: st
def zm_tys (cI cZ : ClassId) : List (ClassId × FieldType) := [(cI, .int), (cZ, .boolean)]
def zm_room (d mc ms : Nat) : Room := { frames := d, cells := mc, slots := ms, locals := 44 * d }
def zm_rd (M : zm_M) (pc : Nat) : Option Int32 → Prop
  | none => M.2.2 = none ∧ decode M.2.1.1 pc = .ok (.return_, 1)
  | some x => (∃ ty, M.2.2 = some ty ∧ narrow ty (.int x) = .int x) ∧ decode M.2.1.1 pc = .ok (.ireturn, 1)
def zm_Cx (M : zm_M) (sc : Option (Nat × (Nat → Int32))) (d mc ms : Nat) (Q : zm_Q)
    (p : Program) (l : Launch) (e : Env) (R : Room) (s : State) (m : MethodId) (args : Array Value) (below : List Frame) (meth : Method) (c : Code)
    (D : va_G) (cI cZ : ClassId) (A : Nat → Prop) (QM : State → Prop) (ad0 : Nat → Nat) (n0 : Nat) : Prop :=
  p.tables.exec = Jvm.exec ∧ c.code = M.2.1.1 ∧ c.maxLocals = M.2.1.2 ∧ s.vm.findClass M.1.cls = some m.cls ∧ ((∀ w ∈ zm_all, w.before args s = true) ∧ zm_N s) ∧
  va_K D zcl (zm_tys cI cZ) s ∧ (∀ q, s.heap.size ≤ q → A q) ∧ (d ≤ R.frames ∧ 44 * d ≤ R.locals ∧ mc ≤ R.cells ∧ ms ≤ R.slots) ∧ meth.name = M.1.name ∧
  (∀ Lx, sc = some Lx → va_X (ad0 1000000) Lx.1 Lx.2 s s.heap ∧ ad0 1000000 < s.heap.size ∧ ¬ A (ad0 1000000)) ∧
  (∀ (v : Option Int32) (pc : Nat) (ls : Array Slot) (H : Heap) (locs : List Loc) (ad : Nat → Nat) (G : List zm_Sh) (S : zm_S) (nc ns : Nat),
    zm_rd M pc v → (∀ k, k < n0 ∨ k = 1000000 → ad k = ad0 k) → n0 ≤ G.length → va_P D zcl (zm_w cI cZ ad G S) H → va_D A (zm_w cI cZ ad G S) → va_S A s.heap H locs → nc ≤ mc → ns ≤ ms → Q v G S →
    W p l e R s m args below meth c H locs nc ns QM (F0 m pc ls (zm_ps v [])))
def zm_WP (M : zm_M) (sc : Option (Nat × (Nat → Int32))) (d mc ms : Nat) (Q : zm_Q) (pc : Nat) (L : zm_L) (st : List Value) (G : List zm_Sh) (S : zm_S) (nc ns : Nat) : Prop :=
  ∀ (p : Program) (l : Launch) (e : Env) (R : Room) (s : State) (m : MethodId) (args : Array Value) (below : List Frame) (meth : Method) (c : Code) (D : va_G) (cI cZ : ClassId) (A : Nat → Prop) (QM : State → Prop) (ad0 : Nat → Nat) (n0 : Nat),
    zm_Cx M sc d mc ms Q p l e R s m args below meth c D cI cZ A QM ad0 n0 →
    ∀ (ad : Nat → Nat) (H : Heap) (locs : List Loc) (ls : Array Slot), (∀ k, k < n0 ∨ k = 1000000 → ad k = ad0 k) → n0 ≤ G.length → va_P D zcl (zm_w cI cZ ad G S) H → va_D A (zm_w cI cZ ad G S) → va_S A s.heap H locs → zm_LV ad ls L → L.length = M.2.1.2 →
      W p l e R s m args below meth c H locs nc ns QM (F0 m pc ls (st.map (zm_v ad)))
-- contracts
def zm_ws (M : zm_M) : List Cond := .code M.1 M.2.1.1 M.2.1.2 M.2.2 :: zm_all
def zm_Pc (D : va_G) (cI cZ : ClassId) (ad : Nat → Nat) (sz : Nat) (av : List Value) (G : List zm_Sh) (S : zm_S) : Array Value → State → Prop :=
  va_Pc (av.map (zm_v ad)) (fun U => U.heap.size = sz ∧ va_P D zcl (zm_w cI cZ ad G S) U.heap ∧ va_K D zcl (zm_tys cI cZ) U ∧ va_D (fun _ => True) (zm_w cI cZ ad G S) ∧ zm_N U)
def zm_B (D : va_G) (cI cZ : ClassId) (ad : Nat → Nat) (sz : Nat) (G : List zm_Sh) (S : zm_S) (Q : zm_Q) (oc : Outcome) (t : State) : Prop :=
  ∃ (v : Option Int32) (ad' : Nat → Nat) (G' : List zm_Sh) (S' : zm_S), oc = .returned (v.map Value.int) ∧ Q v G' S' ∧ (∀ k, k < G.length ∨ k = 1000000 → ad' k = ad k) ∧ G.length ≤ G'.length ∧ va_P D zcl (zm_w cI cZ ad' G' S') t.heap ∧ va_D (va_A (zm_w cI cZ ad G S) sz) (zm_w cI cZ ad' G' S')
def zm_Qc (D : va_G) (cI cZ : ClassId) (ad : Nat → Nat) (sz : Nat) (G : List zm_Sh) (S : zm_S) (Q : zm_Q) : Array Value → State → Outcome → State → Prop :=
  fun _ st oc t => zm_B D cI cZ ad sz G S Q oc t ∧ va_F (va_A (zm_w cI cZ ad G S) sz) st t
def zm_CC (M : zm_M) (d mc ms : Nat) (av : List Value) (G : List zm_Sh) (S : zm_S) (Q : zm_Q) : Prop :=
  ∀ (l : Launch) (D : va_G) (cI cZ : ClassId) (ad : Nat → Nat) (sz : Nat), Met l M.1 (zm_ws M) (zm_room d mc ms) (zm_Pc D cI cZ ad sz av G S) (zm_Qc D cI cZ ad sz G S Q) mc ms (va_A (zm_w cI cZ ad G S) sz)
-- the entry of a method
def zm_c1 (av : List Value) : Bool := av.all (fun v => v.category == 1)
theorem zm_sl_len : ∀ vs : List Value, (∀ v ∈ vs, v.category = 1) → lg_sl vs = vs.map Slot.val
  | [], _ => rfl
  | v :: vs, h => by
    have h1 := h v List.mem_cons_self
    have ih := zm_sl_len vs (fun w hw => h w (List.mem_cons_of_mem _ hw))
    simp only [lg_sl, List.flatMap_cons, h1, List.map_cons] at ih ⊢
    rw [ih]; simp
theorem zm_args_mem : ∀ (vs : List Value) (k i : Nat) (v : Value), (∀ v ∈ vs, v.category = 1) → vs[i]? = some v → (k + i, v) ∈ lv_args k vs
  | [], _, i, _, _, h => by simp at h
  | w :: vs, k, i, v, hc, h => by
    have h1 := hc w List.mem_cons_self
    have e : lv_args k (w :: vs) = (k, w) :: lv_args (k + 1) vs := by simp [lv_args, h1]
    rw [e]
    cases i with
    | zero => simp at h; subst h; exact List.mem_cons_self
    | succ i =>
      have := zm_args_mem vs (k + 1) i v (fun w hw => hc w (List.mem_cons_of_mem _ hw)) (by simpa using h)
      rw [show k + (i + 1) = k + 1 + i by omega]
      exact List.mem_cons_of_mem _ this
theorem zm_entry {ad : Nat → Nat} {av : List Value} {n : Nat} (hc : zm_c1 av = true) (hn : av.length ≤ n) : zm_LV ad ((lg_sl (av.map (zm_v ad)) ++ List.replicate (n - (lg_sl (av.map (zm_v ad))).length) Slot.unset).toArray) (av.map some ++ List.replicate (n - av.length) none) := by
  have hcv : ∀ v ∈ av, v.category = 1 := fun v hv => by simpa using List.all_eq_true.mp hc v hv
  have hcw : ∀ v ∈ av.map (zm_v ad), v.category = 1 := by
    intro v hv
    obtain ⟨w, hw, rfl⟩ := List.mem_map.mp hv
    rw [zm_cat]; exact hcv w hw
  have hlen : (lg_sl (av.map (zm_v ad))).length = av.length := by rw [zm_sl_len _ hcw]; simp
  have h := lv_entry (av.map (zm_v ad)) (n := n) (by rw [hlen]; exact hn)
  refine ⟨by rw [h.1]; simp; omega, h.2.1, fun i v hi => ?_⟩
  have hi2 : av[i]? = some v := by
    by_cases hlt : i < av.length
    · rw [List.getElem?_append_left (by simpa using hlt), List.getElem?_map] at hi
      cases hh : av[i]? with
      | none => rw [hh] at hi; cases hi
      | some w => rw [hh] at hi; simp only [Option.map_some, Option.some.injEq] at hi; rw [hi]
    · rw [List.getElem?_append_right (by simpa using hlt)] at hi
      have := List.mem_of_getElem? hi
      rw [List.mem_replicate] at this
      cases this.2
  refine ⟨hcv v (List.mem_of_getElem? hi2), ?_⟩
  have hm := zm_args_mem (av.map (zm_v ad)) 0 i (zm_v ad v) hcw (by rw [List.getElem?_map, hi2]; rfl)
  rw [Nat.zero_add] at hm
  exact h.2.2 (i, zm_v ad v) hm
theorem zm_CC_intro {M : zm_M} {d mc ms : Nat} {av : List Value} {G : List zm_Sh} {S : zm_S} {Q : zm_Q} (hy : plainName M.1.cls = true) (hc : zm_c1 av = true) (hn : Nat.ble av.length M.2.1.2 = true) (hw : zm_WP M none d mc ms Q 0 (av.map some ++ List.replicate (M.2.1.2 - av.length) none) [] G S 0 0) : zm_CC M d mc ms av G S Q := by
  intro l D cI cZ ad sz
  refine Met.ofW (cc := M.2.1.1) (maxL := M.2.1.2) (ret := M.2.2) hy rfl ?_
  intro p e s m args below meth c s₁ B hml hv
  obtain ⟨rfl, hsz, hP, hK, hD0, hN⟩ := hv
  have hx := B.exec
  have hb := B.bytes
  have hr := B.returns
  have hts := atoms_spec (ws := zm_ws M) B.pre
  have hown : s.vm.findClass M.1.cls = some m.cls := findClass_of_methodNamed B.named
  have hlocks := B.notSynchronized
  have hin : meth.name = M.1.name := (name_of_methodNamed B.named B.method).1
  subst hsz
  have hD := hD0.self (sz := s.heap.size)
  have hnl := Nat.le_of_ble_eq_true hn
  rw [lg_entry_eq]
  refine hw p l e _ s m _ below meth c D cI cZ (va_A (zm_w cI cZ ad G S) s.heap.size) _ ad G.length ?_ ad s.heap [] _ (fun _ _ => rfl) (Nat.le_refl _) hP hD va_S.rf (zm_entry hc hnl) (by simp; omega)
  refine ⟨hx, hb, hml, hown, ⟨fun w h => hts w (List.mem_cons_of_mem _ h), hN⟩, hK, fun q h => Or.inr h, ⟨Nat.le_refl _, Nat.le_refl _, Nat.le_refl _, Nat.le_refl _⟩, hin, (fun Lx h => by cases h), ?_⟩
  intro v pc ls H locs ad' G' S' nc ns hd ha hG hP1 hD1 hS1 h1 h2 hQ
  refine W.widen (k := mc) (n := ms) h1 h2 ?_
  cases v with
  | none =>
    obtain ⟨hr0, hd⟩ := hd
    exact W.vret hx hb (hr.trans hr0) (fun t ht hW => ⟨⟨none, ad', G', S', rfl, hQ, ha, hG, by rw [ht]; exact hP1, hD1⟩, hS1.F ht⟩) hS1.2.2 hd hlocks
  | some x =>
    obtain ⟨⟨ty, hr0, hnar⟩, hd⟩ := hd
    exact W.zret hx hb (hr.trans hr0) hnar (fun t ht hW => ⟨⟨some x, ad', G', S', rfl, hQ, ha, hG, by rw [ht]; exact hP1, hD1⟩, hS1.F ht⟩) hS1.2.2 hd hlocks
-- behind a call
theorem zm_cont {p : Program} {l : Launch} {e : Env} {R : Room} {s : State} {m : MethodId} {args : Array Value} {below : List Frame} {meth : Method} {c : Code} {H : Heap} {locs : List Loc} {cells slots : Nat} {Q : State → Prop} {pc : Nat} {ls : Array Slot} {rest st0 : List Value} {A0 A1 : Nat → Prop} {H0 : Heap} {mc ms : Nat} {free : Addr → Prop} {B : Outcome → State → Prop} {Qa : State → Outcome → State → Prop}
    (hr : va_Run p l e R s m args below meth c H locs cells slots mc ms (F0 m pc ls st0) rest Qa free) (hQ : ∀ st oc t, Qa st oc t → B oc t ∧ va_F A1 st t) (hS : va_S A0 H0 H locs) (hA : ∀ q, q < H.size → A1 q → A0 q) (hf : ∀ q, free q → A0 q)
    (kk : ∀ (v : Option Value) (t : State) (H1 : Heap) (locs1 : List Loc), t.heap = H1 → s.vm.Alike t.vm → B (.returned v) t → H.size ≤ H1.size → va_S A0 H0 H1 locs1 → W p l e R s m args below meth c H1 locs1 (cells + mc) (slots + ms) Q (F0 m (pc + 3) ls (v.toList ++ rest))) : W p l e R s m args below meth c H locs cells slots Q (F0 m pc ls st0) := by
  intro T hT X
  obtain ⟨v, st₀, t, T', L, h0, X', hL, e1, e2, hq, st⟩ := hr T hT X
  obtain ⟨hb, hz, hk⟩ := hQ _ _ _ hq
  rw [h0] at hz hk
  obtain ⟨t2, a1, b1⟩ := kk v t T'.heap (locs ++ L) e1.symm (by rw [← e2]; exact X'.warmed.alike) hb (by rw [e1]; exact hz)
    ⟨Nat.le_trans hS.1 (by rw [e1]; exact hz), fun q h1 h2 => by rw [e1, hk q (Nat.lt_of_lt_of_le h1 hS.1) (fun z => h2 (hA q (Nat.lt_of_lt_of_le h1 hS.1) z))]; exact hS.2.1 q h1 h2, fun q hq => by
      rcases List.mem_append.mp hq with h | h
      · exact hS.2.2 q h
      · exact hf _ (hL q h)⟩ T' rfl X'
  exact ⟨t2, st t2 a1, b1⟩

section
variable {M : zm_M} {sc : Option (Nat × (Nat → Int32))} {d mc ms : Nat} {Q : zm_Q} {pc : Nat} {L : zm_L} {st : List Value} {G : List zm_Sh} {S : zm_S} {nc ns : Nat}
theorem zr_iadd {x y : Int32} {n : Nat} (hd : decode M.2.1.1 pc = .ok (.iadd, 1)) (hn : pc + 1 = n) (k : zm_WP M sc d mc ms Q n L (.int (x + y) :: st) G S nc ns) : zm_WP M sc d mc ms Q pc L (.int y :: .int x :: st) G S nc ns := by
  subst hn
  intro p l e R s m args below meth c D cI cZ A QM ad0 n0 X ad H locs ls h1 h2 hP hD hS hl hz
  exact lv_iadd X.1 X.2.1 hd (k p l e R s m args below meth c D cI cZ A QM ad0 n0 X ad H locs ls h1 h2 hP hD hS hl hz)
theorem zr_isub {x y : Int32} {n : Nat} (hd : decode M.2.1.1 pc = .ok (.isub, 1)) (hn : pc + 1 = n) (k : zm_WP M sc d mc ms Q n L (.int (x - y) :: st) G S nc ns) : zm_WP M sc d mc ms Q pc L (.int y :: .int x :: st) G S nc ns := by
  subst hn
  intro p l e R s m args below meth c D cI cZ A QM ad0 n0 X ad H locs ls h1 h2 hP hD hS hl hz
  exact lv_isub X.1 X.2.1 hd (k p l e R s m args below meth c D cI cZ A QM ad0 n0 X ad H locs ls h1 h2 hP hD hS hl hz)
theorem zr_imul {x y : Int32} {n : Nat} (hd : decode M.2.1.1 pc = .ok (.imul, 1)) (hn : pc + 1 = n) (k : zm_WP M sc d mc ms Q n L (.int (x * y) :: st) G S nc ns) : zm_WP M sc d mc ms Q pc L (.int y :: .int x :: st) G S nc ns := by
  subst hn
  intro p l e R s m args below meth c D cI cZ A QM ad0 n0 X ad H locs ls h1 h2 hP hD hS hl hz
  exact lv_imul X.1 X.2.1 hd (k p l e R s m args below meth c D cI cZ A QM ad0 n0 X ad H locs ls h1 h2 hP hD hS hl hz)
theorem zr_iand {x y : Int32} {n : Nat} (hd : decode M.2.1.1 pc = .ok (.iand, 1)) (hn : pc + 1 = n) (k : zm_WP M sc d mc ms Q n L (.int (x &&& y) :: st) G S nc ns) : zm_WP M sc d mc ms Q pc L (.int y :: .int x :: st) G S nc ns := by
  subst hn
  intro p l e R s m args below meth c D cI cZ A QM ad0 n0 X ad H locs ls h1 h2 hP hD hS hl hz
  exact lv_iand X.1 X.2.1 hd (k p l e R s m args below meth c D cI cZ A QM ad0 n0 X ad H locs ls h1 h2 hP hD hS hl hz)
theorem zr_ior {x y : Int32} {n : Nat} (hd : decode M.2.1.1 pc = .ok (.ior, 1)) (hn : pc + 1 = n) (k : zm_WP M sc d mc ms Q n L (.int (x ||| y) :: st) G S nc ns) : zm_WP M sc d mc ms Q pc L (.int y :: .int x :: st) G S nc ns := by
  subst hn
  intro p l e R s m args below meth c D cI cZ A QM ad0 n0 X ad H locs ls h1 h2 hP hD hS hl hz
  exact lv_ior X.1 X.2.1 hd (k p l e R s m args below meth c D cI cZ A QM ad0 n0 X ad H locs ls h1 h2 hP hD hS hl hz)
theorem zr_ixor {x y : Int32} {n : Nat} (hd : decode M.2.1.1 pc = .ok (.ixor, 1)) (hn : pc + 1 = n) (k : zm_WP M sc d mc ms Q n L (.int (x ^^^ y) :: st) G S nc ns) : zm_WP M sc d mc ms Q pc L (.int y :: .int x :: st) G S nc ns := by
  subst hn
  intro p l e R s m args below meth c D cI cZ A QM ad0 n0 X ad H locs ls h1 h2 hP hD hS hl hz
  exact lv_ixor X.1 X.2.1 hd (k p l e R s m args below meth c D cI cZ A QM ad0 n0 X ad H locs ls h1 h2 hP hD hS hl hz)
theorem zr_ishl {x y : Int32} {n : Nat} (hd : decode M.2.1.1 pc = .ok (.ishl, 1)) (hn : pc + 1 = n) (k : zm_WP M sc d mc ms Q n L (.int (x <<< (y &&& 31)) :: st) G S nc ns) : zm_WP M sc d mc ms Q pc L (.int y :: .int x :: st) G S nc ns := by
  subst hn
  intro p l e R s m args below meth c D cI cZ A QM ad0 n0 X ad H locs ls h1 h2 hP hD hS hl hz
  exact lv_ishl X.1 X.2.1 hd (k p l e R s m args below meth c D cI cZ A QM ad0 n0 X ad H locs ls h1 h2 hP hD hS hl hz)
theorem zr_ishr {x y : Int32} {n : Nat} (hd : decode M.2.1.1 pc = .ok (.ishr, 1)) (hn : pc + 1 = n) (k : zm_WP M sc d mc ms Q n L (.int (x >>> (y &&& 31)) :: st) G S nc ns) : zm_WP M sc d mc ms Q pc L (.int y :: .int x :: st) G S nc ns := by
  subst hn
  intro p l e R s m args below meth c D cI cZ A QM ad0 n0 X ad H locs ls h1 h2 hP hD hS hl hz
  exact lv_ishr X.1 X.2.1 hd (k p l e R s m args below meth c D cI cZ A QM ad0 n0 X ad H locs ls h1 h2 hP hD hS hl hz)
theorem zr_iushr {x y : Int32} {n : Nat} (hd : decode M.2.1.1 pc = .ok (.iushr, 1)) (hn : pc + 1 = n) (k : zm_WP M sc d mc ms Q n L (.int ((x.toUInt32 >>> (y.toUInt32 &&& Int32.toUInt32 31)).toInt32) :: st) G S nc ns) : zm_WP M sc d mc ms Q pc L (.int y :: .int x :: st) G S nc ns := by
  subst hn
  intro p l e R s m args below meth c D cI cZ A QM ad0 n0 X ad H locs ls h1 h2 hP hD hS hl hz
  exact lv_iushr X.1 X.2.1 hd rfl (k p l e R s m args below meth c D cI cZ A QM ad0 n0 X ad H locs ls h1 h2 hP hD hS hl hz)
theorem zr_idiv {x y : Int32} {n : Nat} (hd : decode M.2.1.1 pc = .ok (.idiv, 1)) (hn : pc + 1 = n) (hne : ¬ y = 0) (k : zm_WP M sc d mc ms Q n L (.int (x / y) :: st) G S nc ns) : zm_WP M sc d mc ms Q pc L (.int y :: .int x :: st) G S nc ns := by
  subst hn
  intro p l e R s m args below meth c D cI cZ A QM ad0 n0 X ad H locs ls h1 h2 hP hD hS hl hz
  exact lv_idiv X.1 X.2.1 hd hne (k p l e R s m args below meth c D cI cZ A QM ad0 n0 X ad H locs ls h1 h2 hP hD hS hl hz)
theorem zr_irem {x y : Int32} {n : Nat} (hd : decode M.2.1.1 pc = .ok (.irem, 1)) (hn : pc + 1 = n) (hne : ¬ y = 0) (k : zm_WP M sc d mc ms Q n L (.int (x - x / y * y) :: st) G S nc ns) : zm_WP M sc d mc ms Q pc L (.int y :: .int x :: st) G S nc ns := by
  subst hn
  intro p l e R s m args below meth c D cI cZ A QM ad0 n0 X ad H locs ls h1 h2 hP hD hS hl hz
  exact lv_irem X.1 X.2.1 hd hne (k p l e R s m args below meth c D cI cZ A QM ad0 n0 X ad H locs ls h1 h2 hP hD hS hl hz)
theorem zr_ineg {x : Int32} {n : Nat} (hd : decode M.2.1.1 pc = .ok (.ineg, 1)) (hn : pc + 1 = n) (k : zm_WP M sc d mc ms Q n L (.int (-x) :: st) G S nc ns) : zm_WP M sc d mc ms Q pc L (.int x :: st) G S nc ns := by
  subst hn
  intro p l e R s m args below meth c D cI cZ A QM ad0 n0 X ad H locs ls h1 h2 hP hD hS hl hz
  exact lv_ineg X.1 X.2.1 hd (k p l e R s m args below meth c D cI cZ A QM ad0 n0 X ad H locs ls h1 h2 hP hD hS hl hz)
theorem zr_iconst {i : Int} {v : Int32} {n : Nat} (hd : decode M.2.1.1 pc = .ok (.iconst i, 1)) (hn : pc + 1 = n) (hv : Int32.ofInt i = v) (k : zm_WP M sc d mc ms Q n L (.int v :: st) G S nc ns) : zm_WP M sc d mc ms Q pc L st G S nc ns := by
  subst hn
  intro p l e R s m args below meth c D cI cZ A QM ad0 n0 X ad H locs ls h1 h2 hP hD hS hl hz
  exact lv_iconst X.1 X.2.1 hd hv (k p l e R s m args below meth c D cI cZ A QM ad0 n0 X ad H locs ls h1 h2 hP hD hS hl hz)
theorem zr_bipush {i : Int} {v : Int32} {n : Nat} (hd : decode M.2.1.1 pc = .ok (.bipush i, 2)) (hn : pc + 2 = n) (hv : (Int8.ofInt i).toInt32 = v) (k : zm_WP M sc d mc ms Q n L (.int v :: st) G S nc ns) : zm_WP M sc d mc ms Q pc L st G S nc ns := by
  subst hn
  intro p l e R s m args below meth c D cI cZ A QM ad0 n0 X ad H locs ls h1 h2 hP hD hS hl hz
  exact lv_bipush X.1 X.2.1 hd hv (k p l e R s m args below meth c D cI cZ A QM ad0 n0 X ad H locs ls h1 h2 hP hD hS hl hz)
theorem zr_sipush {i : Int} {v : Int32} {n : Nat} (hd : decode M.2.1.1 pc = .ok (.sipush i, 3)) (hn : pc + 3 = n) (hv : (Int16.ofInt i).toInt32 = v) (k : zm_WP M sc d mc ms Q n L (.int v :: st) G S nc ns) : zm_WP M sc d mc ms Q pc L st G S nc ns := by
  subst hn
  intro p l e R s m args below meth c D cI cZ A QM ad0 n0 X ad H locs ls h1 h2 hP hD hS hl hz
  exact lv_sipush X.1 X.2.1 hd hv (k p l e R s m args below meth c D cI cZ A QM ad0 n0 X ad H locs ls h1 h2 hP hD hS hl hz)
theorem zr_iload_n {k4 : Fin 4} {i : Nat} {x : Int32} {n : Nat} (hd : decode M.2.1.1 pc = .ok (.iload_n k4, 1)) (hn : pc + 1 = n) (hi : (k4 : Nat) = i) (hx : L[i]? = some (some (.int x))) (k : zm_WP M sc d mc ms Q n L (.int x :: st) G S nc ns) : zm_WP M sc d mc ms Q pc L st G S nc ns := by
  subst hn
  intro p l e R s m args below meth c D cI cZ A QM ad0 n0 X ad H locs ls h1 h2 hP hD hS hl hz
  exact lv_iload_n X.1 X.2.1 hd hi (hl.at hx) (k p l e R s m args below meth c D cI cZ A QM ad0 n0 X ad H locs ls h1 h2 hP hD hS hl hz)
theorem zr_aload_n {k4 : Fin 4} {i : Nat} {x : Nat} {n : Nat} (hd : decode M.2.1.1 pc = .ok (.aload_n k4, 1)) (hn : pc + 1 = n) (hi : (k4 : Nat) = i) (hx : L[i]? = some (some (.ref x))) (k : zm_WP M sc d mc ms Q n L (.ref x :: st) G S nc ns) : zm_WP M sc d mc ms Q pc L st G S nc ns := by
  subst hn
  intro p l e R s m args below meth c D cI cZ A QM ad0 n0 X ad H locs ls h1 h2 hP hD hS hl hz
  exact lv_aload_n X.1 X.2.1 hd hi (hl.at hx) (k p l e R s m args below meth c D cI cZ A QM ad0 n0 X ad H locs ls h1 h2 hP hD hS hl hz)
theorem zr_iload {i : Nat} {x : Int32} {n : Nat} (hd : decode M.2.1.1 pc = .ok (.iload i, 2)) (hn : pc + 2 = n) (hx : L[i]? = some (some (.int x))) (k : zm_WP M sc d mc ms Q n L (.int x :: st) G S nc ns) : zm_WP M sc d mc ms Q pc L st G S nc ns := by
  subst hn
  intro p l e R s m args below meth c D cI cZ A QM ad0 n0 X ad H locs ls h1 h2 hP hD hS hl hz
  exact lv_iload X.1 X.2.1 hd (hl.at hx) (k p l e R s m args below meth c D cI cZ A QM ad0 n0 X ad H locs ls h1 h2 hP hD hS hl hz)
theorem zr_aload {i : Nat} {x : Nat} {n : Nat} (hd : decode M.2.1.1 pc = .ok (.aload i, 2)) (hn : pc + 2 = n) (hx : L[i]? = some (some (.ref x))) (k : zm_WP M sc d mc ms Q n L (.ref x :: st) G S nc ns) : zm_WP M sc d mc ms Q pc L st G S nc ns := by
  subst hn
  intro p l e R s m args below meth c D cI cZ A QM ad0 n0 X ad H locs ls h1 h2 hP hD hS hl hz
  exact lv_aload X.1 X.2.1 hd (hl.at hx) (k p l e R s m args below meth c D cI cZ A QM ad0 n0 X ad H locs ls h1 h2 hP hD hS hl hz)
theorem zr_dup {v : Value} {n : Nat} (hd : decode M.2.1.1 pc = .ok (.dup, 1)) (hn : pc + 1 = n) (hv : v.category = 1) (k : zm_WP M sc d mc ms Q n L (v :: v :: st) G S nc ns) : zm_WP M sc d mc ms Q pc L (v :: st) G S nc ns := by
  subst hn
  intro p l e R s m args below meth c D cI cZ A QM ad0 n0 X ad H locs ls h1 h2 hP hD hS hl hz
  exact lv_dup X.1 X.2.1 hd (by rw [zm_cat]; exact hv) (k p l e R s m args below meth c D cI cZ A QM ad0 n0 X ad H locs ls h1 h2 hP hD hS hl hz)
theorem zr_dup2 {v w : Value} {n : Nat} (hd : decode M.2.1.1 pc = .ok (.dup2, 1)) (hn : pc + 1 = n) (hv : v.category = 1) (hw : w.category = 1) (k : zm_WP M sc d mc ms Q n L (v :: w :: v :: w :: st) G S nc ns) : zm_WP M sc d mc ms Q pc L (v :: w :: st) G S nc ns := by
  subst hn
  intro p l e R s m args below meth c D cI cZ A QM ad0 n0 X ad H locs ls h1 h2 hP hD hS hl hz
  exact lv_dup2_11 X.1 X.2.1 hd (by rw [zm_cat]; exact hv) (by rw [zm_cat]; exact hw) (k p l e R s m args below meth c D cI cZ A QM ad0 n0 X ad H locs ls h1 h2 hP hD hS hl hz)
theorem zr_dup_x1 {v w : Value} {n : Nat} (hd : decode M.2.1.1 pc = .ok (.dup_x1, 1)) (hn : pc + 1 = n) (hv : v.category = 1) (hw : w.category = 1) (k : zm_WP M sc d mc ms Q n L (v :: w :: v :: st) G S nc ns) : zm_WP M sc d mc ms Q pc L (v :: w :: st) G S nc ns := by
  subst hn
  intro p l e R s m args below meth c D cI cZ A QM ad0 n0 X ad H locs ls h1 h2 hP hD hS hl hz
  exact lv_dup_x1 X.1 X.2.1 hd (by rw [zm_cat]; exact hv) (by rw [zm_cat]; exact hw) (k p l e R s m args below meth c D cI cZ A QM ad0 n0 X ad H locs ls h1 h2 hP hD hS hl hz)
theorem zr_pop {v : Value} {n : Nat} (hd : decode M.2.1.1 pc = .ok (.pop, 1)) (hn : pc + 1 = n) (hv : v.category = 1) (k : zm_WP M sc d mc ms Q n L st G S nc ns) : zm_WP M sc d mc ms Q pc L (v :: st) G S nc ns := by
  subst hn
  intro p l e R s m args below meth c D cI cZ A QM ad0 n0 X ad H locs ls h1 h2 hP hD hS hl hz
  exact lv_pop X.1 X.2.1 hd (by rw [zm_cat]; exact hv) (k p l e R s m args below meth c D cI cZ A QM ad0 n0 X ad H locs ls h1 h2 hP hD hS hl hz)
theorem zr_istore_n {k4 : Fin 4} {i : Nat} {x : Int32} {n : Nat} {L' : zm_L} (hd : decode M.2.1.1 pc = .ok (.istore_n k4, 1)) (hn : pc + 1 = n) (hi : (k4 : Nat) = i) (hb : Nat.ble (i + 1) L.length = true) (hL : L.set i (some (.int x)) = L') (k : zm_WP M sc d mc ms Q n L' st G S nc ns) : zm_WP M sc d mc ms Q pc L (.int x :: st) G S nc ns := by
  subst hn hL
  intro p l e R s m args below meth c D cI cZ A QM ad0 n0 X ad H locs ls h1 h2 hP hD hS hl hz
  exact lv_istore_n X.1 X.2.1 hd hi hl.has (Nat.le_of_ble_eq_true hb) rfl (fun ls' hls => k p l e R s m args below meth c D cI cZ A QM ad0 n0 X ad H locs ls' h1 h2 hP hD hS (hl.store (v := .int x) rfl hls) (by rw [List.length_set]; exact hz))
theorem zr_istore {i : Nat} {x : Int32} {n : Nat} {L' : zm_L} (hd : decode M.2.1.1 pc = .ok (.istore i, 2)) (hn : pc + 2 = n) (hb : Nat.ble (i + 1) L.length = true) (hL : L.set i (some (.int x)) = L') (k : zm_WP M sc d mc ms Q n L' st G S nc ns) : zm_WP M sc d mc ms Q pc L (.int x :: st) G S nc ns := by
  subst hn hL
  intro p l e R s m args below meth c D cI cZ A QM ad0 n0 X ad H locs ls h1 h2 hP hD hS hl hz
  exact lv_istore X.1 X.2.1 hd hl.has (Nat.le_of_ble_eq_true hb) rfl (fun ls' hls => k p l e R s m args below meth c D cI cZ A QM ad0 n0 X ad H locs ls' h1 h2 hP hD hS (hl.store (v := .int x) rfl hls) (by rw [List.length_set]; exact hz))
theorem zr_astore_n {k4 : Fin 4} {i : Nat} {x : Nat} {n : Nat} {L' : zm_L} (hd : decode M.2.1.1 pc = .ok (.astore_n k4, 1)) (hn : pc + 1 = n) (hi : (k4 : Nat) = i) (hb : Nat.ble (i + 1) L.length = true) (hL : L.set i (some (.ref x)) = L') (k : zm_WP M sc d mc ms Q n L' st G S nc ns) : zm_WP M sc d mc ms Q pc L (.ref x :: st) G S nc ns := by
  subst hn hL
  intro p l e R s m args below meth c D cI cZ A QM ad0 n0 X ad H locs ls h1 h2 hP hD hS hl hz
  exact lv_astore_n X.1 X.2.1 hd hi hl.has (Nat.le_of_ble_eq_true hb) rfl (fun ls' hls => k p l e R s m args below meth c D cI cZ A QM ad0 n0 X ad H locs ls' h1 h2 hP hD hS (hl.store (v := .ref x) rfl hls) (by rw [List.length_set]; exact hz))
theorem zr_astore {i : Nat} {x : Nat} {n : Nat} {L' : zm_L} (hd : decode M.2.1.1 pc = .ok (.astore i, 2)) (hn : pc + 2 = n) (hb : Nat.ble (i + 1) L.length = true) (hL : L.set i (some (.ref x)) = L') (k : zm_WP M sc d mc ms Q n L' st G S nc ns) : zm_WP M sc d mc ms Q pc L (.ref x :: st) G S nc ns := by
  subst hn hL
  intro p l e R s m args below meth c D cI cZ A QM ad0 n0 X ad H locs ls h1 h2 hP hD hS hl hz
  exact lv_astore X.1 X.2.1 hd hl.has (Nat.le_of_ble_eq_true hb) rfl (fun ls' hls => k p l e R s m args below meth c D cI cZ A QM ad0 n0 X ad H locs ls' h1 h2 hP hD hS (hl.store (v := .ref x) rfl hls) (by rw [List.length_set]; exact hz))
theorem zr_iinc {i : Nat} {c0 : Int} {x w : Int32} {n : Nat} {L' : zm_L} (hd : decode M.2.1.1 pc = .ok (.iinc i c0, 3)) (hn : pc + 3 = n) (hw : Int32.ofInt c0 = w) (hx : L[i]? = some (some (.int x))) (hL : L.set i (some (.int (x + w))) = L') (k : zm_WP M sc d mc ms Q n L' st G S nc ns) : zm_WP M sc d mc ms Q pc L st G S nc ns := by
  subst hn hL hw
  intro p l e R s m args below meth c D cI cZ A QM ad0 n0 X ad H locs ls h1 h2 hP hD hS hl hz
  obtain ⟨kq, hq⟩ := List.getElem?_of_mem (zm_as_mem (ad := ad) (L := L) (q := (i, Value.int x)) |>.mpr ⟨.int x, hx, rfl⟩)
  exact lv_iinc X.1 X.2.1 hd hl.has hq rfl (List.getElem?_eq_some_iff.mp hx).1 rfl (fun ls' hls => k p l e R s m args below meth c D cI cZ A QM ad0 n0 X ad H locs ls' h1 h2 hP hD hS (hl.store (v := .int _) rfl hls) (by rw [List.length_set]; exact hz))
theorem zr_weak {L' : zm_L} (h : zm_LE L' L) (k : zm_WP M sc d mc ms Q pc L' st G S nc ns) : zm_WP M sc d mc ms Q pc L st G S nc ns := by
  intro p l e R s m args below meth c D cI cZ A QM ad0 n0 X ad H locs ls h1 h2 hP hD hS hl hz
  exact k p l e R s m args below meth c D cI cZ A QM ad0 n0 X ad H locs ls h1 h2 hP hD hS (hl.le h) (h.1.trans hz)
theorem zr_icmp_eq {x y : Int32} {off : Int} {tgt n : Nat} (hd : decode M.2.1.1 pc = .ok (.if_icmp .eq off, 3)) (hn : pc + 3 = n) (ht : (pc : Int) + off = (tgt : Int)) (kt : x = y → zm_WP M sc d mc ms Q tgt L st G S nc ns) (kf : ¬ x = y → zm_WP M sc d mc ms Q n L st G S nc ns) : zm_WP M sc d mc ms Q pc L (.int y :: .int x :: st) G S nc ns := by
  subst hn
  intro p l e R s m args below meth c D cI cZ A QM ad0 n0 X ad H locs ls h1 h2 hP hD hS hl hz
  exact lv_icmp_eq X.1 X.2.1 hd ht (fun h => kt h p l e R s m args below meth c D cI cZ A QM ad0 n0 X ad H locs ls h1 h2 hP hD hS hl hz) (fun h => kf h p l e R s m args below meth c D cI cZ A QM ad0 n0 X ad H locs ls h1 h2 hP hD hS hl hz)
theorem zr_if_eq {x : Int32} {off : Int} {tgt n : Nat} (hd : decode M.2.1.1 pc = .ok (.ifCond .eq off, 3)) (hn : pc + 3 = n) (ht : (pc : Int) + off = (tgt : Int)) (kt : x = 0 → zm_WP M sc d mc ms Q tgt L st G S nc ns) (kf : ¬ x = 0 → zm_WP M sc d mc ms Q n L st G S nc ns) : zm_WP M sc d mc ms Q pc L (.int x :: st) G S nc ns := by
  subst hn
  intro p l e R s m args below meth c D cI cZ A QM ad0 n0 X ad H locs ls h1 h2 hP hD hS hl hz
  exact lv_if_eq X.1 X.2.1 hd ht (fun h => kt h p l e R s m args below meth c D cI cZ A QM ad0 n0 X ad H locs ls h1 h2 hP hD hS hl hz) (fun h => kf h p l e R s m args below meth c D cI cZ A QM ad0 n0 X ad H locs ls h1 h2 hP hD hS hl hz)
theorem zr_icmp_ne {x y : Int32} {off : Int} {tgt n : Nat} (hd : decode M.2.1.1 pc = .ok (.if_icmp .ne off, 3)) (hn : pc + 3 = n) (ht : (pc : Int) + off = (tgt : Int)) (kt : ¬ x = y → zm_WP M sc d mc ms Q tgt L st G S nc ns) (kf : x = y → zm_WP M sc d mc ms Q n L st G S nc ns) : zm_WP M sc d mc ms Q pc L (.int y :: .int x :: st) G S nc ns := by
  subst hn
  intro p l e R s m args below meth c D cI cZ A QM ad0 n0 X ad H locs ls h1 h2 hP hD hS hl hz
  exact lv_icmp_ne X.1 X.2.1 hd ht (fun h => kt h p l e R s m args below meth c D cI cZ A QM ad0 n0 X ad H locs ls h1 h2 hP hD hS hl hz) (fun h => kf h p l e R s m args below meth c D cI cZ A QM ad0 n0 X ad H locs ls h1 h2 hP hD hS hl hz)
theorem zr_if_ne {x : Int32} {off : Int} {tgt n : Nat} (hd : decode M.2.1.1 pc = .ok (.ifCond .ne off, 3)) (hn : pc + 3 = n) (ht : (pc : Int) + off = (tgt : Int)) (kt : ¬ x = 0 → zm_WP M sc d mc ms Q tgt L st G S nc ns) (kf : x = 0 → zm_WP M sc d mc ms Q n L st G S nc ns) : zm_WP M sc d mc ms Q pc L (.int x :: st) G S nc ns := by
  subst hn
  intro p l e R s m args below meth c D cI cZ A QM ad0 n0 X ad H locs ls h1 h2 hP hD hS hl hz
  exact lv_if_ne X.1 X.2.1 hd ht (fun h => kt h p l e R s m args below meth c D cI cZ A QM ad0 n0 X ad H locs ls h1 h2 hP hD hS hl hz) (fun h => kf h p l e R s m args below meth c D cI cZ A QM ad0 n0 X ad H locs ls h1 h2 hP hD hS hl hz)
theorem zr_icmp_lt {x y : Int32} {off : Int} {tgt n : Nat} (hd : decode M.2.1.1 pc = .ok (.if_icmp .lt off, 3)) (hn : pc + 3 = n) (ht : (pc : Int) + off = (tgt : Int)) (kt : x < y → zm_WP M sc d mc ms Q tgt L st G S nc ns) (kf : ¬ x < y → zm_WP M sc d mc ms Q n L st G S nc ns) : zm_WP M sc d mc ms Q pc L (.int y :: .int x :: st) G S nc ns := by
  subst hn
  intro p l e R s m args below meth c D cI cZ A QM ad0 n0 X ad H locs ls h1 h2 hP hD hS hl hz
  exact lv_icmp_lt X.1 X.2.1 hd ht (fun h => kt h p l e R s m args below meth c D cI cZ A QM ad0 n0 X ad H locs ls h1 h2 hP hD hS hl hz) (fun h => kf h p l e R s m args below meth c D cI cZ A QM ad0 n0 X ad H locs ls h1 h2 hP hD hS hl hz)
theorem zr_if_lt {x : Int32} {off : Int} {tgt n : Nat} (hd : decode M.2.1.1 pc = .ok (.ifCond .lt off, 3)) (hn : pc + 3 = n) (ht : (pc : Int) + off = (tgt : Int)) (kt : x < 0 → zm_WP M sc d mc ms Q tgt L st G S nc ns) (kf : ¬ x < 0 → zm_WP M sc d mc ms Q n L st G S nc ns) : zm_WP M sc d mc ms Q pc L (.int x :: st) G S nc ns := by
  subst hn
  intro p l e R s m args below meth c D cI cZ A QM ad0 n0 X ad H locs ls h1 h2 hP hD hS hl hz
  exact lv_if_lt X.1 X.2.1 hd ht (fun h => kt h p l e R s m args below meth c D cI cZ A QM ad0 n0 X ad H locs ls h1 h2 hP hD hS hl hz) (fun h => kf h p l e R s m args below meth c D cI cZ A QM ad0 n0 X ad H locs ls h1 h2 hP hD hS hl hz)
theorem zr_icmp_ge {x y : Int32} {off : Int} {tgt n : Nat} (hd : decode M.2.1.1 pc = .ok (.if_icmp .ge off, 3)) (hn : pc + 3 = n) (ht : (pc : Int) + off = (tgt : Int)) (kt : y ≤ x → zm_WP M sc d mc ms Q tgt L st G S nc ns) (kf : ¬ y ≤ x → zm_WP M sc d mc ms Q n L st G S nc ns) : zm_WP M sc d mc ms Q pc L (.int y :: .int x :: st) G S nc ns := by
  subst hn
  intro p l e R s m args below meth c D cI cZ A QM ad0 n0 X ad H locs ls h1 h2 hP hD hS hl hz
  exact lv_icmp_ge X.1 X.2.1 hd ht (fun h => kt h p l e R s m args below meth c D cI cZ A QM ad0 n0 X ad H locs ls h1 h2 hP hD hS hl hz) (fun h => kf h p l e R s m args below meth c D cI cZ A QM ad0 n0 X ad H locs ls h1 h2 hP hD hS hl hz)
theorem zr_if_ge {x : Int32} {off : Int} {tgt n : Nat} (hd : decode M.2.1.1 pc = .ok (.ifCond .ge off, 3)) (hn : pc + 3 = n) (ht : (pc : Int) + off = (tgt : Int)) (kt : 0 ≤ x → zm_WP M sc d mc ms Q tgt L st G S nc ns) (kf : ¬ 0 ≤ x → zm_WP M sc d mc ms Q n L st G S nc ns) : zm_WP M sc d mc ms Q pc L (.int x :: st) G S nc ns := by
  subst hn
  intro p l e R s m args below meth c D cI cZ A QM ad0 n0 X ad H locs ls h1 h2 hP hD hS hl hz
  exact lv_if_ge X.1 X.2.1 hd ht (fun h => kt h p l e R s m args below meth c D cI cZ A QM ad0 n0 X ad H locs ls h1 h2 hP hD hS hl hz) (fun h => kf h p l e R s m args below meth c D cI cZ A QM ad0 n0 X ad H locs ls h1 h2 hP hD hS hl hz)
theorem zr_icmp_gt {x y : Int32} {off : Int} {tgt n : Nat} (hd : decode M.2.1.1 pc = .ok (.if_icmp .gt off, 3)) (hn : pc + 3 = n) (ht : (pc : Int) + off = (tgt : Int)) (kt : y < x → zm_WP M sc d mc ms Q tgt L st G S nc ns) (kf : ¬ y < x → zm_WP M sc d mc ms Q n L st G S nc ns) : zm_WP M sc d mc ms Q pc L (.int y :: .int x :: st) G S nc ns := by
  subst hn
  intro p l e R s m args below meth c D cI cZ A QM ad0 n0 X ad H locs ls h1 h2 hP hD hS hl hz
  exact lv_icmp_gt X.1 X.2.1 hd ht (fun h => kt h p l e R s m args below meth c D cI cZ A QM ad0 n0 X ad H locs ls h1 h2 hP hD hS hl hz) (fun h => kf h p l e R s m args below meth c D cI cZ A QM ad0 n0 X ad H locs ls h1 h2 hP hD hS hl hz)
theorem zr_if_gt {x : Int32} {off : Int} {tgt n : Nat} (hd : decode M.2.1.1 pc = .ok (.ifCond .gt off, 3)) (hn : pc + 3 = n) (ht : (pc : Int) + off = (tgt : Int)) (kt : 0 < x → zm_WP M sc d mc ms Q tgt L st G S nc ns) (kf : ¬ 0 < x → zm_WP M sc d mc ms Q n L st G S nc ns) : zm_WP M sc d mc ms Q pc L (.int x :: st) G S nc ns := by
  subst hn
  intro p l e R s m args below meth c D cI cZ A QM ad0 n0 X ad H locs ls h1 h2 hP hD hS hl hz
  exact lv_if_gt X.1 X.2.1 hd ht (fun h => kt h p l e R s m args below meth c D cI cZ A QM ad0 n0 X ad H locs ls h1 h2 hP hD hS hl hz) (fun h => kf h p l e R s m args below meth c D cI cZ A QM ad0 n0 X ad H locs ls h1 h2 hP hD hS hl hz)
theorem zr_icmp_le {x y : Int32} {off : Int} {tgt n : Nat} (hd : decode M.2.1.1 pc = .ok (.if_icmp .le off, 3)) (hn : pc + 3 = n) (ht : (pc : Int) + off = (tgt : Int)) (kt : x ≤ y → zm_WP M sc d mc ms Q tgt L st G S nc ns) (kf : ¬ x ≤ y → zm_WP M sc d mc ms Q n L st G S nc ns) : zm_WP M sc d mc ms Q pc L (.int y :: .int x :: st) G S nc ns := by
  subst hn
  intro p l e R s m args below meth c D cI cZ A QM ad0 n0 X ad H locs ls h1 h2 hP hD hS hl hz
  exact lv_icmp_le X.1 X.2.1 hd ht (fun h => kt h p l e R s m args below meth c D cI cZ A QM ad0 n0 X ad H locs ls h1 h2 hP hD hS hl hz) (fun h => kf h p l e R s m args below meth c D cI cZ A QM ad0 n0 X ad H locs ls h1 h2 hP hD hS hl hz)
theorem zr_if_le {x : Int32} {off : Int} {tgt n : Nat} (hd : decode M.2.1.1 pc = .ok (.ifCond .le off, 3)) (hn : pc + 3 = n) (ht : (pc : Int) + off = (tgt : Int)) (kt : x ≤ 0 → zm_WP M sc d mc ms Q tgt L st G S nc ns) (kf : ¬ x ≤ 0 → zm_WP M sc d mc ms Q n L st G S nc ns) : zm_WP M sc d mc ms Q pc L (.int x :: st) G S nc ns := by
  subst hn
  intro p l e R s m args below meth c D cI cZ A QM ad0 n0 X ad H locs ls h1 h2 hP hD hS hl hz
  exact lv_if_le X.1 X.2.1 hd ht (fun h => kt h p l e R s m args below meth c D cI cZ A QM ad0 n0 X ad H locs ls h1 h2 hP hD hS hl hz) (fun h => kf h p l e R s m args below meth c D cI cZ A QM ad0 n0 X ad H locs ls h1 h2 hP hD hS hl hz)
theorem zr_goto {off : Int} {tgt : Nat} (hd : decode M.2.1.1 pc = .ok (.goto off, 3)) (ht : (pc : Int) + off = (tgt : Int)) (k : zm_WP M sc d mc ms Q tgt L st G S nc ns) : zm_WP M sc d mc ms Q pc L st G S nc ns := by
  intro p l e R s m args below meth c D cI cZ A QM ad0 n0 X ad H locs ls h1 h2 hP hD hS hl hz
  exact lv_goto X.1 X.2.1 hd ht (k p l e R s m args below meth c D cI cZ A QM ad0 n0 X ad H locs ls h1 h2 hP hD hS hl hz)
theorem zr_tableIn {x : Int32} {dflt lo hi off : Int} {offs : Array Int} {len tgt : Nat} (hd : decode M.2.1.1 pc = .ok (.tableswitch dflt lo hi offs, len)) (ha : ¬ x.toInt < lo) (hb : ¬ hi < x.toInt) (ho : offs[(x.toInt - lo).toNat]? = some off) (ht : (pc : Int) + off = (tgt : Int)) (k : zm_WP M sc d mc ms Q tgt L st G S nc ns) : zm_WP M sc d mc ms Q pc L (.int x :: st) G S nc ns := by
  intro p l e R s m args below meth c D cI cZ A QM ad0 n0 X ad H locs ls h1 h2 hP hD hS hl hz
  exact lv_tableIn X.1 X.2.1 hd ha hb ho ht (k p l e R s m args below meth c D cI cZ A QM ad0 n0 X ad H locs ls h1 h2 hP hD hS hl hz)
theorem zr_tableOut {x : Int32} {dflt lo hi : Int} {offs : Array Int} {len tgt : Nat} (hd : decode M.2.1.1 pc = .ok (.tableswitch dflt lo hi offs, len)) (ha : x.toInt < lo ∨ hi < x.toInt) (ht : (pc : Int) + dflt = (tgt : Int)) (k : zm_WP M sc d mc ms Q tgt L st G S nc ns) : zm_WP M sc d mc ms Q pc L (.int x :: st) G S nc ns := by
  intro p l e R s m args below meth c D cI cZ A QM ad0 n0 X ad H locs ls h1 h2 hP hD hS hl hz
  exact lv_tableOut X.1 X.2.1 hd ha ht (k p l e R s m args below meth c D cI cZ A QM ad0 n0 X ad H locs ls h1 h2 hP hD hS hl hz)
theorem zr_ldc {i : Nat} {v : Int32} {n : Nat} (hd : decode M.2.1.1 pc = .ok (.ldc i, 2)) (hn : pc + 2 = n) (hc : Cond.constant M.1.cls i v ∈ zm_all) (k : zm_WP M sc d mc ms Q n L (.int v :: st) G S nc ns) : zm_WP M sc d mc ms Q pc L st G S nc ns := by
  subst hn
  intro p l e R s m args below meth c D cI cZ A QM ad0 n0 X ad H locs ls h1 h2 hP hD hS hl hz
  exact lv_ldc X.1 X.2.1 X.2.2.2.1 (X.2.2.2.2.1.1 _ hc) hd (k p l e R s m args below meth c D cI cZ A QM ad0 n0 X ad H locs ls h1 h2 hP hD hS hl hz)
def zm_ix (i : Int32) (j n : Nat) : Prop := i.toNatClampNeg = j ∧ vp_in i n
end
theorem zm_ixN {j N : Nat} (h : j < N) (hN : N < 2147483648) : zm_ix (nI j) j N := ⟨nI_clamp (by omega), vp_in_nI h hN⟩
theorem zm_nz {x : Int32} (h : x = 0 ∨ x = 1) : narrow .boolean (.int x) = .int x := by rcases h with rfl | rfl <;> rfl
theorem zm_fz {x : Int32} (h : x = 0 ∨ x = 1) : fits .boolean (.int x) = true := by rcases h with rfl | rfl <;> rfl
theorem zm_vz {x : Int32} (h : x = 0 ∨ x = 1) : vp_nar .boolean x = x := by rcases h with rfl | rfl <;> rfl
theorem zm_tyI {cI cZ : ClassId} : (zm_tys cI cZ)[0]? = some (cI, FieldType.int) := rfl
theorem zm_tyZ {cI cZ : ClassId} : (zm_tys cI cZ)[1]? = some (cZ, FieldType.boolean) := rfl
section
variable {M : zm_M} {sc : Option (Nat × (Nat → Int32))} {d mc ms : Nat} {Q : zm_Q} {pc : Nat} {L : zm_L} {st : List Value} {G : List zm_Sh} {S : zm_S} {nc ns : Nat}
theorem zr_iaload {a N : Nat} {i : Int32} (j : Nat) {n : Nat} (hd : decode M.2.1.1 pc = .ok (.iaload, 1)) (hn : pc + 1 = n) (hg : G[a]? = some (.inl (false, N))) (hi : zm_ix i j N) (k : zm_WP M sc d mc ms Q n L (.int (S a j) :: st) G S nc ns) : zm_WP M sc d mc ms Q pc L (.int i :: .ref a :: st) G S nc ns := by
  subst hn
  obtain ⟨rfl, hi⟩ := hi
  intro p l e R s m args below meth c D cI cZ A QM ad0 n0 X ad H locs ls h1 h2 hP hD hS hl hz
  exact va_iald X.1 X.2.1 X.2.2.2.2.2.1 hP a 0 (zm_w_get hg) zm_tyI hi hd (k p l e R s m args below meth c D cI cZ A QM ad0 n0 X ad H locs ls h1 h2 hP hD hS hl hz)
theorem zr_baload {a N : Nat} {i : Int32} (j : Nat) {n : Nat} (hd : decode M.2.1.1 pc = .ok (.baload, 1)) (hn : pc + 1 = n) (hg : G[a]? = some (.inl (true, N))) (hi : zm_ix i j N) (k : zm_WP M sc d mc ms Q n L (.int (S a j) :: st) G S nc ns) : zm_WP M sc d mc ms Q pc L (.int i :: .ref a :: st) G S nc ns := by
  subst hn
  obtain ⟨rfl, hi⟩ := hi
  intro p l e R s m args below meth c D cI cZ A QM ad0 n0 X ad H locs ls h1 h2 hP hD hS hl hz
  exact va_zald X.1 X.2.1 X.2.2.2.2.2.1 hP a 1 (zm_w_get hg) zm_tyZ hi hd (k p l e R s m args below meth c D cI cZ A QM ad0 n0 X ad H locs ls h1 h2 hP hD hS hl hz)
theorem zr_iastore {a N : Nat} {i x : Int32} (j : Nat) {n : Nat} (hd : decode M.2.1.1 pc = .ok (.iastore, 1)) (hn : pc + 1 = n) (hg : G[a]? = some (.inl (false, N))) (hi : zm_ix i j N) (k : zm_WP M sc d mc ms Q n L st G (zm_up S a j x) nc ns) : zm_WP M sc d mc ms Q pc L (.int x :: .int i :: .ref a :: st) G S nc ns := by
  subst hn
  obtain ⟨rfl, hi⟩ := hi
  intro p l e R s m args below meth c D cI cZ A QM ad0 n0 X ad H locs ls h1 h2 hP hD hS hl hz
  refine va_iast X.1 X.2.1 X.2.2.2.2.2.1 hP hD hS a 0 (zm_w_get hg) zm_tyI hi hd (fun H1 locs1 hP1 hD1 hS1 => ?_)
  have eW := zm_w_up (cI := cI) (cZ := cZ) (ad := ad) (i := i.toNatClampNeg) (x := x) (S := S) hg
  exact k p l e R s m args below meth c D cI cZ A QM ad0 n0 X ad H1 locs1 ls h1 h2 (eW ▸ hP1) (eW ▸ hD1) hS1 hl hz
theorem zr_bastore {a N : Nat} {i x : Int32} (j : Nat) {n : Nat} (hd : decode M.2.1.1 pc = .ok (.bastore, 1)) (hn : pc + 1 = n) (hg : G[a]? = some (.inl (true, N))) (hi : zm_ix i j N) (k : zm_WP M sc d mc ms Q n L st G (zm_up S a j (vp_nar .boolean x)) nc ns) : zm_WP M sc d mc ms Q pc L (.int x :: .int i :: .ref a :: st) G S nc ns := by
  subst hn
  obtain ⟨rfl, hi⟩ := hi
  intro p l e R s m args below meth c D cI cZ A QM ad0 n0 X ad H locs ls h1 h2 hP hD hS hl hz
  refine va_zast X.1 X.2.1 X.2.2.2.2.2.1 hP hD hS a 1 (zm_w_get hg) zm_tyZ hi hd (fun H1 locs1 hP1 hD1 hS1 => ?_)
  have eW := zm_w_up (cI := cI) (cZ := cZ) (ad := ad) (i := i.toNatClampNeg) (x := (vp_nar .boolean x)) (S := S) hg
  exact k p l e R s m args below meth c D cI cZ A QM ad0 n0 X ad H1 locs1 ls h1 h2 (eW ▸ hP1) (eW ▸ hD1) hS1 hl hz
theorem zr_alen {a N : Nat} {b : Bool} {v : Int32} {n : Nat} (hd : decode M.2.1.1 pc = .ok (.arraylength, 1)) (hn : pc + 1 = n) (hg : G[a]? = some (.inl (b, N))) (hv : Int32.ofNat N = v) (k : zm_WP M sc d mc ms Q n L (.int v :: st) G S nc ns) : zm_WP M sc d mc ms Q pc L (.ref a :: st) G S nc ns := by
  subst hn
  intro p l e R s m args below meth c D cI cZ A QM ad0 n0 X ad H locs ls h1 h2 hP hD hS hl hz
  cases b with
  | false => exact va_alen X.1 X.2.1 X.2.2.2.2.2.1 hP a 0 (zm_w_get hg) zm_tyI hv hd (k p l e R s m args below meth c D cI cZ A QM ad0 n0 X ad H locs ls h1 h2 hP hD hS hl hz)
  | true => exact va_alen X.1 X.2.1 X.2.2.2.2.2.1 hP a 1 (zm_w_get hg) zm_tyZ hv hd (k p l e R s m args below meth c D cI cZ A QM ad0 n0 X ad H locs ls h1 h2 hP hD hS hl hz)
theorem zr_bastoreV {a N : Nat} {i x : Int32} {n : Nat} (j : Nat) (hd : decode M.2.1.1 pc = .ok (.bastore, 1)) (hn : pc + 1 = n) (hg : G[a]? = some (.inl (true, N))) (hi : zm_ix i j N) (hx : vp_nar .boolean x = x) (k : zm_WP M sc d mc ms Q n L st G (zm_up S a j x) nc ns) : zm_WP M sc d mc ms Q pc L (.int x :: .int i :: .ref a :: st) G S nc ns := zr_bastore j hd hn hg hi (by rw [hx]; exact k)
theorem zr_top {x v : Int32} (h : x = v) (k : zm_WP M sc d mc ms Q pc L (.int v :: st) G S nc ns) : zm_WP M sc d mc ms Q pc L (.int x :: st) G S nc ns := by rw [h]; exact k
theorem zr_ldcw {i : Nat} {v : Int32} {n : Nat} (hd : decode M.2.1.1 pc = .ok (.ldc_w i, 3)) (hn : pc + 3 = n) (hc : Cond.constant M.1.cls i v ∈ zm_all) (k : zm_WP M sc d mc ms Q n L (.int v :: st) G S nc ns) : zm_WP M sc d mc ms Q pc L st G S nc ns := by
  subst hn
  intro p l e R s m args below meth c D cI cZ A QM ad0 n0 X ad H locs ls h1 h2 hP hD hS hl hz
  exact lv_ldcw X.1 X.2.1 X.2.2.2.1 (X.2.2.2.2.1.1 _ hc) hd (k p l e R s m args below meth c D cI cZ A QM ad0 n0 X ad H locs ls h1 h2 hP hD hS hl hz)
theorem zr_sload {N : Nat} {xs : Nat → Int32} {i : Int32} (j : Nat) {n : Nat} (hd : decode M.2.1.1 pc = .ok (.iaload, 1)) (hn : pc + 1 = n) (hi : zm_ix i j N) (k : zm_WP M (some (N, xs)) d mc ms Q n L (.int (xs j) :: st) G S nc ns) : zm_WP M (some (N, xs)) d mc ms Q pc L (.int i :: .ref 1000000 :: st) G S nc ns := by
  subst hn
  obtain ⟨rfl, hi⟩ := hi
  intro p l e R s m args below meth c D cI cZ A QM ad0 n0 X ad H locs ls h1 h2 hP hD hS hl hz
  obtain ⟨hX, hb, hA⟩ := X.2.2.2.2.2.2.2.2.2.1 _ rfl
  rw [← h1 1000000 (Or.inr rfl)] at hX hb hA
  exact va_sld X.1 X.2.1 hX hb hA hS hi hd (k p l e R s m args below meth c D cI cZ A QM ad0 n0 X ad H locs ls h1 h2 hP hD hS hl hz)
theorem zr_slen {N : Nat} {xs : Nat → Int32} {n : Nat} (hd : decode M.2.1.1 pc = .ok (.arraylength, 1)) (hn : pc + 1 = n) (k : zm_WP M (some (N, xs)) d mc ms Q n L (.int (nI N) :: st) G S nc ns) : zm_WP M (some (N, xs)) d mc ms Q pc L (.ref 1000000 :: st) G S nc ns := by
  subst hn
  intro p l e R s m args below meth c D cI cZ A QM ad0 n0 X ad H locs ls h1 h2 hP hD hS hl hz
  obtain ⟨hX, hb, hA⟩ := X.2.2.2.2.2.2.2.2.2.1 _ rfl
  rw [← h1 1000000 (Or.inr rfl)] at hX hb hA
  exact va_slen X.1 X.2.1 hX hb hA hS hd (k p l e R s m args below meth c D cI cZ A QM ad0 n0 X ad H locs ls h1 h2 hP hD hS hl hz)
end
def zm_fw (own : String) (index ci f : Nat) (C : String) (T : u_T) (N : Nat) : Prop :=
  zcl[ci]? = some (C, T, N) ∧ f < N ∧ (∀ w ∈ u_ws C T N, w ∈ zm_all) ∧ (Cond.fieldLink own index (T f).1 (T f).2.1 (T f).2.2.1 ∈ zm_all ∨ ∃ host, Cond.fieldLinkNest own index (T f).1 (T f).2.1 (T f).2.2.1 host ∈ lw_tbl)
def zm_tw (T : u_T) (N : Nat) (ty0 : Nat → FieldType) : Prop := (∀ k, k < N → parseFieldDescriptor (T k).2.2.1 = some (ty0 k)) ∧ ∀ a, a < N → ∀ b, b < N → a ≠ b → (T a).2.1 ≠ (T b).2.1
section
variable {M : zm_M} {sc : Option (Nat × (Nat → Int32))} {d mc ms : Nat} {Q : zm_Q} {pc : Nat} {L : zm_L} {st : List Value} {G : List zm_Sh} {S : zm_S} {nc ns : Nat}
theorem zr_geti {index ci f a : Nat} {C : String} {T : u_T} {N : Nat} {rs : List (Option Value)} {n : Nat} (hd : decode M.2.1.1 pc = .ok (.getfield index, 3)) (hn : pc + 3 = n) (hf : zm_fw M.1.cls index ci f C T N) (hg : G[a]? = some (.inr (ci, rs))) (hv : rs[f]? = some none) (k : zm_WP M sc d mc ms Q n L (.int (S a f) :: st) G S nc ns) : zm_WP M sc d mc ms Q pc L (.ref a :: st) G S nc ns := by
  subst hn
  obtain ⟨hc, hfN, hin, hlink⟩ := hf
  intro p l e R s m args below meth c D cI cZ A QM ad0 n0 X ad H locs ls h1 h2 hP hD hS hl hz
  have hv2 : (rs.mapIdx (fun i o => zm_o ad S a i o))[f]? = some (zm_o ad S a f none) := by rw [List.getElem?_mapIdx, hv]; rfl
  rcases hlink with hlink | ⟨host, hlink⟩
  · exact va_get X.1 X.2.1 X.2.2.2.2.1.1 hin X.2.2.2.1 X.2.2.2.2.2.1 hP a (zm_w_get hg) hc f hfN (X.2.2.2.2.1.1 _ hlink) (fun _ h => h) hv2 hd (k p l e R s m args below meth c D cI cZ A QM ad0 n0 X ad H locs ls h1 h2 hP hD hS hl hz)
  · exact va_getN X.1 X.2.1 X.2.2.2.2.1.1 hin X.2.2.2.1 X.2.2.2.2.2.1 hP a (zm_w_get hg) hc f hfN (va_Nw.use rfl (X.2.2.2.2.1.2 _ hlink rfl)) (fun _ h => h) hv2 hd (k p l e R s m args below meth c D cI cZ A QM ad0 n0 X ad H locs ls h1 h2 hP hD hS hl hz)
theorem zr_getr {index ci f a : Nat} {C : String} {T : u_T} {N : Nat} {rs : List (Option Value)} {v : Value} {n : Nat} (hd : decode M.2.1.1 pc = .ok (.getfield index, 3)) (hn : pc + 3 = n) (hf : zm_fw M.1.cls index ci f C T N) (hg : G[a]? = some (.inr (ci, rs))) (hv : rs[f]? = some (some v)) (k : zm_WP M sc d mc ms Q n L (v :: st) G S nc ns) : zm_WP M sc d mc ms Q pc L (.ref a :: st) G S nc ns := by
  subst hn
  obtain ⟨hc, hfN, hin, hlink⟩ := hf
  intro p l e R s m args below meth c D cI cZ A QM ad0 n0 X ad H locs ls h1 h2 hP hD hS hl hz
  have hv2 : (rs.mapIdx (fun i o => zm_o ad S a i o))[f]? = some (zm_o ad S a f (some v)) := by rw [List.getElem?_mapIdx, hv]; rfl
  rcases hlink with hlink | ⟨host, hlink⟩
  · exact va_get X.1 X.2.1 X.2.2.2.2.1.1 hin X.2.2.2.1 X.2.2.2.2.2.1 hP a (zm_w_get hg) hc f hfN (X.2.2.2.2.1.1 _ hlink) (fun _ h => h) hv2 hd (k p l e R s m args below meth c D cI cZ A QM ad0 n0 X ad H locs ls h1 h2 hP hD hS hl hz)
  · exact va_getN X.1 X.2.1 X.2.2.2.2.1.1 hin X.2.2.2.1 X.2.2.2.2.2.1 hP a (zm_w_get hg) hc f hfN (va_Nw.use rfl (X.2.2.2.2.1.2 _ hlink rfl)) (fun _ h => h) hv2 hd (k p l e R s m args below meth c D cI cZ A QM ad0 n0 X ad H locs ls h1 h2 hP hD hS hl hz)
theorem zr_puti {index ci f a : Nat} {C : String} {T : u_T} {N : Nat} {rs : List (Option Value)} {x : Int32} {ty0 : Nat → FieldType} {ty : FieldType} {n : Nat} (hd : decode M.2.1.1 pc = .ok (.putfield index, 3)) (hn : pc + 3 = n) (hf : zm_fw M.1.cls index ci f C T N) (ht : zm_tw T N ty0) (hfin : (T f).2.2.2 = false) (hty : parseFieldDescriptor (T f).2.2.1 = some ty) (hnar : narrow ty (.int x) = .int x) (hfit : fits ty (.int x) = true) (hg : G[a]? = some (.inr (ci, rs))) (hv : rs[f]? = some none) (k : zm_WP M sc d mc ms Q n L st G (zm_up S a f x) nc ns) : zm_WP M sc d mc ms Q pc L (.int x :: .ref a :: st) G S nc ns := by
  subst hn
  obtain ⟨hc, hfN, hin, hlink⟩ := hf
  intro p l e R s m args below meth c D cI cZ A QM ad0 n0 X ad H locs ls h1 h2 hP hD hS hl hz
  have hl2 : f < (rs.mapIdx (fun i o => zm_o ad S a i o)).length := by rw [List.length_mapIdx]; exact (List.getElem?_eq_some_iff.mp hv).1
  have eW := zm_w_upo (cI := cI) (cZ := cZ) (ad := ad) (x := x) (S := S) hg hv
  rcases hlink with hlink | ⟨host, hlink⟩
  · refine va_put X.1 X.2.1 X.2.2.2.2.1.1 hin ty0 ht.1 ht.2 X.2.2.2.1 X.2.2.2.2.2.1 hP hD hS a (zm_w_get hg) hc f hfN (X.2.2.2.2.1.1 _ hlink) (fun _ h => h) hfin hty hnar hfit hl2 hd (fun H1 locs1 hP1 hD1 hS1 => ?_)
    exact k p l e R s m args below meth c D cI cZ A QM ad0 n0 X ad H1 locs1 ls h1 h2 (eW ▸ hP1) (eW ▸ hD1) hS1 hl hz
  · refine va_putN X.1 X.2.1 X.2.2.2.2.1.1 hin ty0 ht.1 ht.2 X.2.2.2.1 X.2.2.2.2.2.1 hP hD hS a (zm_w_get hg) hc f hfN (va_Nw.use rfl (X.2.2.2.2.1.2 _ hlink rfl)) (fun _ h => h) hfin hty hnar hfit hl2 hd (fun H1 locs1 hP1 hD1 hS1 => ?_)
    exact k p l e R s m args below meth c D cI cZ A QM ad0 n0 X ad H1 locs1 ls h1 h2 (eW ▸ hP1) (eW ▸ hD1) hS1 hl hz
theorem zr_putF {index ci f a r : Nat} {C : String} {T : u_T} {N : Nat} {rs : List (Option Value)} {o : Value} {ty0 : Nat → FieldType} {ty : FieldType} {n : Nat} {G' : List zm_Sh} (hd : decode M.2.1.1 pc = .ok (.putfield index, 3)) (hn : pc + 3 = n) (hf : zm_fw M.1.cls index ci f C T N) (hlk : Cond.fieldLink M.1.cls index (T f).1 (T f).2.1 (T f).2.2.1 ∈ zm_all) (ht : zm_tw T N ty0) (hfin : (T f).2.2.2 = true) (hini : M.1.name = "<init>") (hdecl : (T f).1 = M.1.cls) (hty : parseFieldDescriptor (T f).2.2.1 = some ty) (hnar : ∀ q, narrow ty (.ref q) = .ref q) (hfit : ∀ q, fits ty (.ref q) = true) (hg : G[a]? = some (.inr (ci, rs))) (hv : rs[f]? = some (some o)) (hG : G.set a (.inr (ci, rs.set f (some (.ref r)))) = G') (k : zm_WP M sc d mc ms Q n L st G' S nc ns) : zm_WP M sc d mc ms Q pc L (.ref r :: .ref a :: st) G S nc ns := by
  subst hn hG
  obtain ⟨hc, hfN, hin, hlink⟩ := hf
  intro p l e R s m args below meth c D cI cZ A QM ad0 n0 X ad H locs ls h1 h2 hP hD hS hl hz
  have hl2 : f < (rs.mapIdx (fun i o => zm_o ad S a i o)).length := by rw [List.length_mapIdx]; exact (List.getElem?_eq_some_iff.mp hv).1
  have eW := zm_w_upr (cI := cI) (cZ := cZ) (ad := ad) (v := .ref r) (S := S) hg hv
  refine va_putF X.1 X.2.1 X.2.2.2.2.1.1 hin ty0 ht.1 ht.2 X.2.2.2.1 X.2.2.2.2.2.1 hP hD hS a (zm_w_get hg) hc f hfN (X.2.2.2.2.1.1 _ hlk) (fun _ h => h) hfin (X.2.2.2.2.2.2.2.2.1.trans hini) hdecl hty (hnar _) (hfit _) hl2 hd (fun H1 locs1 hP1 hD1 hS1 => ?_)
  exact k p l e R s m args below meth c D cI cZ A QM ad0 n0 X ad H1 locs1 ls h1 (by rw [List.length_set]; exact h2) (eW ▸ hP1) (eW ▸ hD1) hS1 hl hz
theorem zr_ireturn {x : Int32} {ty : FieldType} (hd : decode M.2.1.1 pc = .ok (.ireturn, 1)) (hr : M.2.2 = some ty) (hnar : narrow ty (.int x) = .int x) (hc : nc ≤ mc) (hs : ns ≤ ms) (hq : Q (some x) G S) : zm_WP M sc d mc ms Q pc L [.int x] G S nc ns := by
  intro p l e R s m args below meth c D cI cZ A QM ad0 n0 X ad H locs ls h1 h2 hP hD hS hl hz
  exact X.2.2.2.2.2.2.2.2.2.2 (some x) pc ls H locs ad G S nc ns ⟨⟨ty, hr, hnar⟩, hd⟩ h1 h2 hP hD hS hc hs hq
theorem zr_return (hd : decode M.2.1.1 pc = .ok (.return_, 1)) (hr : M.2.2 = none) (hc : nc ≤ mc) (hs : ns ≤ ms) (hq : Q none G S) : zm_WP M sc d mc ms Q pc L [] G S nc ns := by
  intro p l e R s m args below meth c D cI cZ A QM ad0 n0 X ad H locs ls h1 h2 hP hD hS hl hz
  exact X.2.2.2.2.2.2.2.2.2.2 none pc ls H locs ad G S nc ns ⟨hr, hd⟩ h1 h2 hP hD hS hc hs hq
theorem zr_newI {x : Int32} {atype : ArrayType} {N g n : Nat} {G' : List zm_Sh} (hd : decode M.2.1.1 pc = .ok (.newarray atype, 2)) (hn : pc + 2 = n) (hat : newarray.typeOf atype = .int) (hcw : Cond.arrayClass .int ∈ zm_all) (hx : ¬ x < 0) (hN : x.toNatClampNeg = N) (hby : N * componentBytes .int ≤ 536870912) (hcs : nc + 1 ≤ mc) (hss : ns + N ≤ ms) (hg : G.length = g) (hG1 : G ++ [.inl (false, N)] = G') (hG : zm_ltG g G = true) (hL : zm_ltL g L = true) (hst : zm_ltS g st = true) (hlen : Nat.blt g 1000000 = true) (k : zm_WP M sc d mc ms Q n L (.ref g :: st) G' (zm_upA S g (fun _ => 0)) (nc + 1) (ns + N)) : zm_WP M sc d mc ms Q pc L (.int x :: st) G S nc ns := by
  subst hn hG1 hg
  intro p l e R s m args below meth c D cI cZ A QM ad0 n0 X ad H locs ls h1 h2 hP hD hS hl hz
  have hlt : G.length < 1000000 := by simpa using hlen
  refine va_newa X.1 X.2.1 (atype := atype) (by rw [hat]; exact X.2.2.2.2.1.1 _ hcw) hat X.2.2.2.2.2.1 hP hD hS X.2.2.2.2.2.2.1 (a0 := (N, .inl (fun _ => 0))) (fun cA => rfl) hx hN hby (Nat.le_trans hcs X.2.2.2.2.2.2.2.1.2.2.1) (Nat.le_trans hss X.2.2.2.2.2.2.2.1.2.2.2) hd (fun q cA H1 hK1 hP1 hD1 hS1 => ?_)
  have e0 : cA = cI := by
    have a1 := (hK1.2 2 (cA, .int) rfl).2
    have a2 := (X.2.2.2.2.2.1.2 0 (cI, .int) rfl).2
    exact Option.some.inj (a1.symm.trans a2)
  rw [e0] at hP1 hD1
  let ad' : Nat → Nat := fun k => if k = G.length then q else ad k
  have ha : ∀ k, k < G.length ∨ k = 1000000 → ad' k = ad k := fun k hk => if_neg (by omega)
  have hq : ad' G.length = q := if_pos rfl
  have eW := zm_w_push (cI := cI) (cZ := cZ) (ad := ad) (ad' := ad') (S := S) (S' := zm_upA S G.length (fun _ => 0)) (q := q) (sh := .inl (false, N)) hG ha hq (fun k hk => zm_upA_ne S _ (by omega)) rfl
  have e1 : zm_e cI cZ ad' (zm_upA S G.length (fun _ => 0)) G.length (.inl (false, N)) = .inl (cI, N, .inl (fun _ => 0)) := by simp [zm_e, zm_upA_self]
  rw [e1] at eW
  have e2 : (Value.ref G.length :: st).map (zm_v ad') = .ref q :: st.map (zm_v ad) := by
    rw [List.map_cons, zm_S_eq ha hst]; show Value.ref (ad' G.length) :: _ = _; rw [hq]
  rw [← e2]
  exact k p l e R s m args below meth c D cI cZ A QM ad0 n0 X ad' H1 locs ls (fun k hk => (ha k (by omega)).trans (h1 k hk)) (by rw [List.length_append]; omega) (eW ▸ hP1) (eW ▸ hD1) hS1 (hl.re ha hL) hz
theorem zr_newZ {x : Int32} {atype : ArrayType} {N g n : Nat} {G' : List zm_Sh} (hd : decode M.2.1.1 pc = .ok (.newarray atype, 2)) (hn : pc + 2 = n) (hat : newarray.typeOf atype = .boolean) (hcw : Cond.arrayClass .boolean ∈ zm_all) (hx : ¬ x < 0) (hN : x.toNatClampNeg = N) (hby : N * componentBytes .boolean ≤ 536870912) (hcs : nc + 1 ≤ mc) (hss : ns + N ≤ ms) (hg : G.length = g) (hG1 : G ++ [.inl (true, N)] = G') (hG : zm_ltG g G = true) (hL : zm_ltL g L = true) (hst : zm_ltS g st = true) (hlen : Nat.blt g 1000000 = true) (k : zm_WP M sc d mc ms Q n L (.ref g :: st) G' (zm_upA S g (fun _ => 0)) (nc + 1) (ns + N)) : zm_WP M sc d mc ms Q pc L (.int x :: st) G S nc ns := by
  subst hn hG1 hg
  intro p l e R s m args below meth c D cI cZ A QM ad0 n0 X ad H locs ls h1 h2 hP hD hS hl hz
  have hlt : G.length < 1000000 := by simpa using hlen
  refine va_newa X.1 X.2.1 (atype := atype) (by rw [hat]; exact X.2.2.2.2.1.1 _ hcw) hat X.2.2.2.2.2.1 hP hD hS X.2.2.2.2.2.2.1 (a0 := (N, .inl (fun _ => 0))) (fun cA => rfl) hx hN hby (Nat.le_trans hcs X.2.2.2.2.2.2.2.1.2.2.1) (Nat.le_trans hss X.2.2.2.2.2.2.2.1.2.2.2) hd (fun q cA H1 hK1 hP1 hD1 hS1 => ?_)
  have e0 : cA = cZ := by
    have a1 := (hK1.2 2 (cA, .boolean) rfl).2
    have a2 := (X.2.2.2.2.2.1.2 1 (cZ, .boolean) rfl).2
    exact Option.some.inj (a1.symm.trans a2)
  rw [e0] at hP1 hD1
  let ad' : Nat → Nat := fun k => if k = G.length then q else ad k
  have ha : ∀ k, k < G.length ∨ k = 1000000 → ad' k = ad k := fun k hk => if_neg (by omega)
  have hq : ad' G.length = q := if_pos rfl
  have eW := zm_w_push (cI := cI) (cZ := cZ) (ad := ad) (ad' := ad') (S := S) (S' := zm_upA S G.length (fun _ => 0)) (q := q) (sh := .inl (true, N)) hG ha hq (fun k hk => zm_upA_ne S _ (by omega)) rfl
  have e1 : zm_e cI cZ ad' (zm_upA S G.length (fun _ => 0)) G.length (.inl (true, N)) = .inl (cZ, N, .inl (fun _ => 0)) := by simp [zm_e, zm_upA_self]
  rw [e1] at eW
  have e2 : (Value.ref G.length :: st).map (zm_v ad') = .ref q :: st.map (zm_v ad) := by
    rw [List.map_cons, zm_S_eq ha hst]; show Value.ref (ad' G.length) :: _ = _; rw [hq]
  rw [← e2]
  exact k p l e R s m args below meth c D cI cZ A QM ad0 n0 X ad' H1 locs ls (fun k hk => (ha k (by omega)).trans (h1 k hk)) (by rw [List.length_append]; omega) (eW ▸ hP1) (eW ▸ hD1) hS1 (hl.re ha hL) hz
end
def zm_dv : Option Value → Value
  | none => .int 0
  | some v => v
def zm_nl : Option Value → Bool
  | none => true
  | some .null => true
  | _ => false
section
variable {M : zm_M} {sc : Option (Nat × (Nat → Int32))} {d mc ms : Nat} {Q : zm_Q} {pc : Nat} {L : zm_L} {st : List Value} {G : List zm_Sh} {S : zm_S} {nc ns : Nat}
theorem zr_new {index ci N g n : Nat} {C : String} {T : u_T} {ty0 : Nat → FieldType} {rs : List (Option Value)} {G' : List zm_Sh} (hd : decode M.2.1.1 pc = .ok (.new index, 3)) (hn : pc + 3 = n) (hc : zcl[ci]? = some (C, T, N)) (hin : ∀ w ∈ u_ws C T N, w ∈ zm_all) (ht : zm_tw T N ty0) (hw : Cond.classLink M.1.cls index C ∈ zm_all ∧ Cond.instantiable C N ∈ zm_all ∧ Cond.initialized C ∈ zm_all) (hdf : ∀ j, j < N → defaultValue (ty0 j) = vp_V (rs.map zm_dv) j) (hnl : rs.all zm_nl = true) (hcs : nc + 1 ≤ mc) (hss : ns + N ≤ ms) (hg : G.length = g) (hG1 : G ++ [.inr (ci, rs)] = G') (hG : zm_ltG g G = true) (hL : zm_ltL g L = true) (hst : zm_ltS g st = true) (hlen : Nat.blt g 1000000 = true) (k : zm_WP M sc d mc ms Q n L (.ref g :: st) G' (zm_upA S g (fun _ => 0)) (nc + 1) (ns + N)) : zm_WP M sc d mc ms Q pc L st G S nc ns := by
  subst hn hG1 hg
  intro p l e R s m args below meth c D cI cZ A QM ad0 n0 X ad H locs ls h1 h2 hP hD hS hl hz
  have hlt : G.length < 1000000 := by simpa using hlen
  refine va_new X.1 X.2.1 X.2.2.2.2.1.1 hin ty0 ht.1 X.2.2.2.1 (X.2.2.2.2.1.1 _ hw.1) (X.2.2.2.2.1.1 _ hw.2.1) (X.2.2.2.2.1.1 _ hw.2.2) X.2.2.2.2.2.1 hP hD hS X.2.2.2.2.2.2.1 hc (fs := rs.map zm_dv) hdf (Nat.le_trans hcs X.2.2.2.2.2.2.2.1.2.2.1) (Nat.le_trans hss X.2.2.2.2.2.2.2.1.2.2.2) hd (fun q H1 hP1 hD1 hS1 => ?_)
  let ad' : Nat → Nat := fun k => if k = G.length then q else ad k
  have ha : ∀ k, k < G.length ∨ k = 1000000 → ad' k = ad k := fun k hk => if_neg (by omega)
  have hq : ad' G.length = q := if_pos rfl
  have eW := zm_w_push (cI := cI) (cZ := cZ) (ad := ad) (ad' := ad') (S := S) (S' := zm_upA S G.length (fun _ => 0)) (q := q) (sh := .inr (ci, rs)) hG ha hq (fun k hk => zm_upA_ne S _ (by omega)) rfl
  have e1 : zm_e cI cZ ad' (zm_upA S G.length (fun _ => 0)) G.length (.inr (ci, rs)) = .inr (ci, rs.map zm_dv) := by
    show Sum.inr (ci, _) = Sum.inr (ci, _)
    congr 2
    apply List.ext_getElem?
    intro j
    rw [List.getElem?_mapIdx, List.getElem?_map]
    cases hj : rs[j]? with
    | none => rfl
    | some o =>
      have ho := List.all_eq_true.mp hnl o (List.mem_of_getElem? hj)
      cases o with
      | none => show some (Value.int (zm_upA S G.length (fun _ => 0) G.length j)) = some (Value.int 0); rw [zm_upA_self]
      | some v => cases v with
        | null => rfl
        | _ => cases ho
  rw [e1] at eW
  have e2 : (Value.ref G.length :: st).map (zm_v ad') = .ref q :: st.map (zm_v ad) := by
    rw [List.map_cons, zm_S_eq ha hst]; show Value.ref (ad' G.length) :: _ = _; rw [hq]
  rw [← e2]
  exact k p l e R s m args below meth c D cI cZ A QM ad0 n0 X ad' H1 locs ls (fun k hk => (ha k (by omega)).trans (h1 k hk)) (by rw [List.length_append]; omega) (eW ▸ hP1) (eW ▸ hD1) hS1 (hl.re ha hL) hz
end
theorem zm_sum (ad : Nat → Nat) (st : List Value) : ((st.map (zm_v ad)).map fun v => v.category).sum = (st.map fun v => v.category).sum := by rw [List.map_map]; congr 1; apply List.map_congr_left; intro v _; exact zm_cat ad v
theorem zm_goodIn {M' : zm_M} (h : Cond.code M'.1 M'.2.1.1 M'.2.1.2 M'.2.2 ∈ zm_all) : GoodIn zm_all (zm_ws M') := by
  intro w hw
  have hm : w ∈ zm_all := by
    rcases List.mem_cons.mp hw with rfl | hw
    · exact h
    · exact hw
  exact ⟨hm, good_of_word (List.mem_filter.mp hm).2⟩
def zm_cw (own : String) (index : Nat) (M' : zm_M) (np : Nat) : Prop :=
  Cond.code M'.1 M'.2.1.1 M'.2.1.2 M'.2.2 ∈ zm_all ∧ Cond.initialized M'.1.cls ∈ zm_all ∧ (M'.1.cls ≠ "java/lang/invoke/MethodHandle" ∧ M'.1.cls ≠ "java/lang/invoke/VarHandle" ∧ (parseMethodDescriptor M'.1.desc).map (fun d => d.parameters.length) = some np) ∧ M'.2.1.2 ≤ 25 ∧ (Cond.methodLink own index M'.1 ∈ zm_all ∨ ∃ host, Cond.methodLinkNest own index M'.1 host ∈ lw_tbl)
theorem zm_fb {D : va_G} {cI cZ : ClassId} {ad : Nat → Nat} {sz : Nat} {av : List Value} {G : List zm_Sh} {S : zm_S} : FrameBlind (zm_Pc D cI cZ ad sz av G S) := fun a U g mk q => by
  obtain ⟨q0, q1, qP, qK, qD, qN⟩ := q
  exact ⟨q0, q1, qP, va_K.moved (u := U) (U := U.calling g mk a) (Vm.Alike.refl U.vm) qK, qD, zm_N.same (s := U) (U := U.calling g mk a) rfl qN⟩
theorem zm_pre {D : va_G} {cI cZ : ClassId} {ad : Nat → Nat} {A : Nat → Prop} {av : List Value} {G : List zm_Sh} {S : zm_S} {s : State} {H : Heap} (hK : va_K D zcl (zm_tys cI cZ) s) (hP : va_P D zcl (zm_w cI cZ ad G S) H) (hD : va_D A (zm_w cI cZ ad G S)) (hN : zm_N s) : PreS s H (zm_Pc D cI cZ ad H.size av G S) (av.map (zm_v ad)) :=
  ⟨zm_fb, fun U hU hW => ⟨rfl, by rw [hU], by rw [hU]; exact hP, va_K.moved hW.alike hK, hD.weaken (fun _ _ _ _ => trivial), zm_N.warm hW hN⟩⟩
theorem zm_callB {s : State} {args : Array Value} {R : Room} {own : String} {index np d mc' ms' : Nat} {M' : zm_M} (hts : ∀ w ∈ zm_all, w.before args s = true) (hw : zm_cw own index M' np) (hl : Cond.methodLink own index M'.1 ∈ zm_all) (hR : d + 1 ≤ R.frames ∧ 44 * (d + 1) ≤ R.locals) : CallB R s args own index M'.1 M'.2.1.1 M'.2.1.2 M'.2.2 (zm_ws M') (zm_room d mc' ms') mc' ms' np :=
  callB_of np hts (zm_goodIn hw.1) rfl rfl rfl (hts _ hw.2.1) (hts _ hl) hw.2.2.1 ⟨hR.1, by have := hw.2.2.2.1; show 8 + (M'.2.1.2 + 11) + 44 * d ≤ R.locals; omega⟩
theorem zm_callN {s : State} {args : Array Value} {R : Room} {own host : String} {index np d mc' ms' : Nat} {M' : zm_M} (hts : ∀ w ∈ zm_all, w.before args s = true) (hN : zm_N s) (hw : zm_cw own index M' np) (hl : Cond.methodLinkNest own index M'.1 host ∈ lw_tbl) (hR : d + 1 ≤ R.frames ∧ 44 * (d + 1) ≤ R.locals) : va_CN R s args own index M'.1 host M'.2.1.1 M'.2.1.2 M'.2.2 (zm_ws M') (zm_room d mc' ms') mc' ms' np := by
  refine ⟨⟨rfl, rfl, hR.1, by have := hw.2.2.2.1; show 8 + (M'.2.1.2 + 11) + 44 * d ≤ R.locals; omega, pay_in hts (zm_goodIn hw.1), List.mem_cons_self⟩, hts _ hw.1, hts _ hw.2.1, ⟨hw.2.2.1.1, hw.2.2.1.2.1⟩, fun sig h => ?_, va_Nw.use rfl (hN _ hl rfl)⟩
  have h2 := hw.2.2.1.2.2
  rw [h] at h2
  exact (Option.some.inj h2).symm
section
variable {M : zm_M} {sc : Option (Nat × (Nat → Int32))} {d mc ms : Nat} {Q : zm_Q} {pc : Nat} {L : zm_L} {st : List Value} {G : List zm_Sh} {S : zm_S} {nc ns : Nat}
theorem zm_after {Q' : zm_Q} {mc' ms' n : Nat} {rest : List Value} (hn : pc + 3 = n) (hL : zm_ltL G.length L = true) (hst : zm_ltS G.length rest = true)
    (hk : ∀ v G' S', Q' v G' S' → zm_WP M sc (d + 1) mc ms Q n L (zm_ps v rest) G' S' (nc + mc') (ns + ms'))
    {p : Program} {l : Launch} {e : Env} {R : Room} {s : State} {m : MethodId} {args : Array Value} {below : List Frame} {meth : Method} {c : Code} {D : va_G} {cI cZ : ClassId} {A : Nat → Prop} {QM : State → Prop} {ad0 : Nat → Nat} {n0 : Nat} (X : zm_Cx M sc (d + 1) mc ms Q p l e R s m args below meth c D cI cZ A QM ad0 n0)
    {ad : Nat → Nat} {H : Heap} {locs : List Loc} {ls : Array Slot} {a : Array Value} {st0 : List Value} (h1 : ∀ k, k < n0 ∨ k = 1000000 → ad k = ad0 k) (h2 : n0 ≤ G.length) (hD : va_D A (zm_w cI cZ ad G S)) (hS : va_S A s.heap H locs) (hl : zm_LV ad ls L) (hz : L.length = M.2.1.2)
    (hr : va_Run p l e R s m args below meth c H locs nc ns mc' ms' (F0 m pc ls st0) (rest.map (zm_v ad)) (zm_Qc D cI cZ ad H.size G S Q' a) (va_A (zm_w cI cZ ad G S) H.size)) : W p l e R s m args below meth c H locs nc ns QM (F0 m pc ls st0) := by
  subst hn
  have hFc : ∀ q, va_A (zm_w cI cZ ad G S) H.size q → A q := by
    rintro q (⟨k, e, h⟩ | h)
    · exact hD.2 k _ h
    · exact X.2.2.2.2.2.2.1 q (Nat.le_trans hS.1 h)
  refine zm_cont hr (fun st oc t h => h) hS (fun q _ h => hFc q h) hFc (fun v t H1 locs1 ht hvm hB hz1 hS1 => ?_)
  obtain ⟨v', ad', G', S', hv, hQ, ha, hGl, hP1, hD1⟩ := hB
  have hv2 : v = v'.map Value.int := by injection hv
  subst hv2
  rw [ht] at hP1
  have := hk v' G' S' hQ p l e R s m args below meth c D cI cZ A QM ad0 n0 X ad' H1 locs1 ls (fun k hk => (ha k (by omega)).trans (h1 k hk)) (Nat.le_trans h2 hGl) hP1 (hD1.weaken (fun _ q _ h => hFc q.1 h)) hS1 (hl.re ha hL) hz
  cases v' with
  | none =>
    have e3 : (zm_ps none rest).map (zm_v ad') = rest.map (zm_v ad) := zm_S_eq ha hst
    rw [e3] at this; exact this
  | some x =>
    have e3 : (zm_ps (some x) rest).map (zm_v ad') = .int x :: rest.map (zm_v ad) := by
      show (Value.int x :: rest).map (zm_v ad') = _
      rw [List.map_cons, zm_S_eq ha hst]; rfl
    rw [e3] at this; exact this
theorem zr_callV {M' : zm_M} {mc' ms' index np n b ci N : Nat} {T : u_T} {rs : List (Option Value)} {av rest : List Value} (hd : decode M.2.1.1 pc = .ok (.invokevirtual index, 3)) (hn : pc + 3 = n) (hw : zm_cw M.1.cls index M' np) (hw2 : Cond.instanceMethod M'.1 ∈ zm_all ∧ Cond.selects M'.1.cls M'.1 M'.1 ∈ zm_all) (hg : G[b]? = some (.inr (ci, rs))) (hc : zcl[ci]? = some (M'.1.cls, T, N)) (hst : st = av.reverse ++ .ref b :: rest) (hav : av.length = np) (hL : zm_ltL G.length L = true) (hr : zm_ltS G.length rest = true) (hs : Nat.ble (rest.map fun v => v.category).sum 8 = true) (hcs : nc + mc' ≤ mc) (hss : ns + ms' ≤ ms) (k : zm_CC M' d mc' ms' (.ref b :: av) G S (fun v G' S' => zm_WP M sc (d + 1) mc ms Q n L (zm_ps v rest) G' S' (nc + mc') (ns + ms'))) : zm_WP M sc (d + 1) mc ms Q pc L st G S nc ns := by
  intro p l e R s m args below meth c D cI cZ A QM ad0 n0 X ad H locs ls h1 h2 hP hD hS hl hz
  have hroom : 2 * (F0 m pc ls (st.map (zm_v ad))).monitorRoom + ((rest.map (zm_v ad)).map fun v => v.category).sum ≤ 8 := lv_room (by rw [zm_sum]; exact Nat.le_of_ble_eq_true hs)
  have hsz : ls.size = M.2.1.2 := hl.1.trans hz
  have hst2 : st.map (zm_v ad) = (av.map (zm_v ad)).reverse ++ .ref (ad b) :: rest.map (zm_v ad) := by rw [hst, List.map_append, List.map_reverse]; rfl
  have hp : PreV s H M'.1.cls (ad b) (zm_Pc D cI cZ ad H.size (.ref b :: av) G S) (av.map (zm_v ad)) := ⟨zm_fb, va_recv X.2.2.2.2.2.1 hP hc (zm_w_get hg), (zm_pre (av := .ref b :: av) X.2.2.2.2.2.1 hP hD X.2.2.2.2.1.2).2⟩
  rcases hw.2.2.2.2 with hlk | ⟨host, hlk⟩
  · exact zm_after hn hL hr (fun v G' S' h => h) X h1 h2 hD hS hl hz (va_runV ⟨X.1, X.2.1, X.2.2.1, X.2.2.2.1, X.2.2.2.2.1.1⟩ (k l D cI cZ ad H.size) ⟨zm_callB X.2.2.2.2.1.1 hw hlk ⟨X.2.2.2.2.2.2.2.1.1, X.2.2.2.2.2.2.2.1.2.1⟩, X.2.2.2.2.1.1 _ hw2.1, X.2.2.2.2.1.1 _ hw2.2⟩ hp rfl (by rw [List.length_map]; exact hav) hsz hst2 hroom hd ⟨Nat.le_trans hcs X.2.2.2.2.2.2.2.1.2.2.1, Nat.le_trans hss X.2.2.2.2.2.2.2.1.2.2.2⟩)
  · exact zm_after hn hL hr (fun v G' S' h => h) X h1 h2 hD hS hl hz (va_runVN ⟨X.1, X.2.1, X.2.2.1, X.2.2.2.1, X.2.2.2.2.1.1⟩ (k l D cI cZ ad H.size) ⟨zm_callN X.2.2.2.2.1.1 X.2.2.2.2.1.2 hw hlk ⟨X.2.2.2.2.2.2.2.1.1, X.2.2.2.2.2.2.2.1.2.1⟩, X.2.2.2.2.1.1 _ hw2.1, X.2.2.2.2.1.1 _ hw2.2⟩ hp rfl (by rw [List.length_map]; exact hav) hsz hst2 hroom hd ⟨Nat.le_trans hcs X.2.2.2.2.2.2.2.1.2.2.1, Nat.le_trans hss X.2.2.2.2.2.2.2.1.2.2.2⟩)
theorem zr_callS {M' : zm_M} {mc' ms' index np n : Nat} {av rest : List Value} (hd : decode M.2.1.1 pc = .ok (.invokestatic index, 3)) (hn : pc + 3 = n) (hw : zm_cw M.1.cls index M' np) (hw2 : Cond.static M'.1 ∈ zm_all) (hst : st = av.reverse ++ rest) (hav : av.length = np) (hL : zm_ltL G.length L = true) (hr : zm_ltS G.length rest = true) (hs : Nat.ble (rest.map fun v => v.category).sum 8 = true) (hcs : nc + mc' ≤ mc) (hss : ns + ms' ≤ ms) (k : zm_CC M' d mc' ms' av G S (fun v G' S' => zm_WP M sc (d + 1) mc ms Q n L (zm_ps v rest) G' S' (nc + mc') (ns + ms'))) : zm_WP M sc (d + 1) mc ms Q pc L st G S nc ns := by
  intro p l e R s m args below meth c D cI cZ A QM ad0 n0 X ad H locs ls h1 h2 hP hD hS hl hz
  have hroom : 2 * (F0 m pc ls (st.map (zm_v ad))).monitorRoom + ((rest.map (zm_v ad)).map fun v => v.category).sum ≤ 8 := lv_room (by rw [zm_sum]; exact Nat.le_of_ble_eq_true hs)
  have hsz : ls.size = M.2.1.2 := hl.1.trans hz
  have hst2 : st.map (zm_v ad) = (av.map (zm_v ad)).reverse ++ rest.map (zm_v ad) := by rw [hst, List.map_append, List.map_reverse]
  rcases hw.2.2.2.2 with hlk | ⟨host, hlk⟩
  · exact zm_after hn hL hr (fun v G' S' h => h) X h1 h2 hD hS hl hz (va_runS ⟨X.1, X.2.1, X.2.2.1, X.2.2.2.1, X.2.2.2.2.1.1⟩ (k l D cI cZ ad H.size) ⟨zm_callB X.2.2.2.2.1.1 hw hlk ⟨X.2.2.2.2.2.2.2.1.1, X.2.2.2.2.2.2.2.1.2.1⟩, X.2.2.2.2.1.1 _ hw2⟩ (zm_pre X.2.2.2.2.2.1 hP hD X.2.2.2.2.1.2) rfl (by rw [List.length_map]; exact hav) hsz hst2 hroom hd ⟨Nat.le_trans hcs X.2.2.2.2.2.2.2.1.2.2.1, Nat.le_trans hss X.2.2.2.2.2.2.2.1.2.2.2⟩)
  · exact zm_after hn hL hr (fun v G' S' h => h) X h1 h2 hD hS hl hz (va_runSN ⟨X.1, X.2.1, X.2.2.1, X.2.2.2.1, X.2.2.2.2.1.1⟩ (k l D cI cZ ad H.size) ⟨zm_callN X.2.2.2.2.1.1 X.2.2.2.2.1.2 hw hlk ⟨X.2.2.2.2.2.2.2.1.1, X.2.2.2.2.2.2.2.1.2.1⟩, X.2.2.2.2.1.1 _ hw2, trivial⟩ (zm_pre X.2.2.2.2.2.1 hP hD X.2.2.2.2.1.2) rfl (by rw [List.length_map]; exact hav) hsz hst2 hroom hd ⟨Nat.le_trans hcs X.2.2.2.2.2.2.2.1.2.2.1, Nat.le_trans hss X.2.2.2.2.2.2.2.1.2.2.2⟩)
theorem zr_callI {M' : zm_M} {mc' ms' index np n b : Nat} {av rest : List Value} (hd : decode M.2.1.1 pc = .ok (.invokespecial index, 3)) (hn : pc + 3 = n) (hw : zm_cw M.1.cls index M' np) (hret : M'.2.2 = none) (hin : M'.1.name = "<init>") (hw2 : Cond.instanceMethod M'.1 ∈ zm_all) (hst : st = av.reverse ++ .ref b :: rest) (hav : av.length = np) (hL : zm_ltL G.length L = true) (hr : zm_ltS G.length rest = true) (hs : Nat.ble (rest.map fun v => v.category).sum 8 = true) (hcs : nc + mc' ≤ mc) (hss : ns + ms' ≤ ms) (k : zm_CC M' d mc' ms' (.ref b :: av) G S (fun v G' S' => zm_WP M sc (d + 1) mc ms Q n L (zm_ps v rest) G' S' (nc + mc') (ns + ms'))) : zm_WP M sc (d + 1) mc ms Q pc L st G S nc ns := by
  intro p l e R s m args below meth c D cI cZ A QM ad0 n0 X ad H locs ls h1 h2 hP hD hS hl hz
  have hroom : 2 * (F0 m pc ls (st.map (zm_v ad))).monitorRoom + ((rest.map (zm_v ad)).map fun v => v.category).sum ≤ 8 := lv_room (by rw [zm_sum]; exact Nat.le_of_ble_eq_true hs)
  have hsz : ls.size = M.2.1.2 := hl.1.trans hz
  have hst2 : st.map (zm_v ad) = (av.map (zm_v ad)).reverse ++ .ref (ad b) :: rest.map (zm_v ad) := by rw [hst, List.map_append, List.map_reverse]; rfl
  rcases hw.2.2.2.2 with hlk | ⟨host, hlk⟩
  · have cb := zm_callB (mc' := mc') (ms' := ms') (d := d) (R := R) (s := s) (args := args) X.2.2.2.2.1.1 hw hlk ⟨X.2.2.2.2.2.2.2.1.1, X.2.2.2.2.2.2.2.1.2.1⟩
    rw [hret] at cb
    exact zm_after hn hL hr (fun v G' S' h => h) X h1 h2 hD hS hl hz (va_runI ⟨X.1, X.2.1, X.2.2.1, X.2.2.2.1, X.2.2.2.2.1.1⟩ (k l D cI cZ ad H.size) ⟨cb, hin, X.2.2.2.2.1.1 _ hw2⟩ (zm_pre (av := .ref b :: av) X.2.2.2.2.2.1 hP hD X.2.2.2.2.1.2) rfl (by rw [List.length_map]; exact hav) hsz hst2 hroom hd ⟨Nat.le_trans hcs X.2.2.2.2.2.2.2.1.2.2.1, Nat.le_trans hss X.2.2.2.2.2.2.2.1.2.2.2⟩)
  · have cb := zm_callN (mc' := mc') (ms' := ms') (d := d) (R := R) (s := s) (args := args) X.2.2.2.2.1.1 X.2.2.2.2.1.2 hw hlk ⟨X.2.2.2.2.2.2.2.1.1, X.2.2.2.2.2.2.2.1.2.1⟩
    rw [hret] at cb
    exact zm_after hn hL hr (fun v G' S' h => h) X h1 h2 hD hS hl hz (va_runIN ⟨X.1, X.2.1, X.2.2.1, X.2.2.2.1, X.2.2.2.2.1.1⟩ (k l D cI cZ ad H.size) ⟨cb, hin, X.2.2.2.2.1.1 _ hw2⟩ (zm_pre (av := .ref b :: av) X.2.2.2.2.2.1 hP hD X.2.2.2.2.1.2) rfl (by rw [List.length_map]; exact hav) hsz hst2 hroom hd ⟨Nat.le_trans hcs X.2.2.2.2.2.2.2.1.2.2.1, Nat.le_trans hss X.2.2.2.2.2.2.2.1.2.2.2⟩)
theorem zr_objInit {index n a : Nat} (hd : decode M.2.1.1 pc = .ok (.invokespecial index, 3)) (hn : pc + 3 = n) (hw : Cond.methodLink M.1.cls index Lib.objectInit ∈ zm_all ∧ Cond.instanceMethod Lib.objectInit ∈ zm_all ∧ Cond.code Lib.objectInit ⟨#[0xb1]⟩ 1 none ∈ zm_all) (hs : Nat.ble (st.map fun v => v.category).sum 8 = true) (k : zm_WP M sc (d + 1) mc ms Q n L st G S nc ns) : zm_WP M sc (d + 1) mc ms Q pc L (.ref a :: st) G S nc ns := by
  subst hn
  intro p l e R s m args below meth c D cI cZ A QM ad0 n0 X ad H locs ls h1 h2 hP hD hS hl hz
  have hroom : 2 * (F0 m pc ls (st.map (zm_v ad))).monitorRoom + ((st.map (zm_v ad)).map fun v => v.category).sum ≤ 8 := lv_room (by rw [zm_sum]; exact Nat.le_of_ble_eq_true hs)
  have hR := X.2.2.2.2.2.2.2.1
  exact W.objInit X.1 X.2.1 X.2.2.2.1 (X.2.2.2.2.1.1 _ hw.1) (X.2.2.2.2.1.1 _ hw.2.1) (X.2.2.2.2.1.1 _ hw.2.2) rfl (by rw [X.2.2.1, ← hz]; exact hl.1) rfl hd (by omega) (Nat.le_trans (Nat.add_le_add_right hroom 12) (by omega)) (k p l e R s m args below meth c D cI cZ A QM ad0 n0 X ad H locs ls h1 h2 hP hD hS hl hz)
theorem zr_copy {index n a0 a1 N0 N1 : Nat} {sp dp w : Int32} (j0 j1 jn : Nat) (hd : decode M.2.1.1 pc = .ok (.invokestatic index, 3)) (hn : pc + 3 = n) (hw : Cond.methodLink M.1.cls index arraycopyName ∈ zm_all ∧ Cond.native arraycopyName ∈ zm_all ∧ Cond.static arraycopyName ∈ zm_all ∧ Cond.initialized "java/lang/System" ∈ zm_all) (hg0 : G[a0]? = some (.inl (false, N0))) (hg1 : G[a1]? = some (.inl (false, N1))) (hsp : ¬ sp < 0 ∧ sp.toNatClampNeg = j0) (hdp : ¬ dp < 0 ∧ dp.toNatClampNeg = j1) (hwn : ¬ w < 0 ∧ w.toNatClampNeg = jn) (hb0 : j0 + jn ≤ N0) (hb1 : j1 + jn ≤ N1) (hs : Nat.ble (st.map fun v => v.category).sum 8 = true) (k : zm_WP M sc (d + 1) mc ms Q n L st G (zm_upA S a1 (va_cpy (S a0) (S a1) j0 j1 jn)) nc ns) : zm_WP M sc (d + 1) mc ms Q pc L (.int w :: .int dp :: .ref a1 :: .int sp :: .ref a0 :: st) G S nc ns := by
  subst hn
  obtain ⟨hsp, rfl⟩ := hsp
  obtain ⟨hdp, rfl⟩ := hdp
  obtain ⟨hwn, rfl⟩ := hwn
  intro p l e R s m args below meth c D cI cZ A QM ad0 n0 X ad H locs ls h1 h2 hP hD hS hl hz
  have hR := X.2.2.2.2.2.2.2.1
  have hs8 := Nat.le_of_ble_eq_true hs
  have hnf : nativeFrameWords "java/lang/System" "arraycopy" 5 + 11 ≤ 36 := by decide +kernel
  have eW := zm_w_upA (cI := cI) (cZ := cZ) (ad := ad) (f := va_cpy (S a0) (S a1) sp.toNatClampNeg dp.toNatClampNeg w.toNatClampNeg) (S := S) hg1
  refine va_copyi X.1 X.2.1 (X.2.2.1.trans (hl.1.trans hz).symm) X.2.2.2.1 (X.2.2.2.2.1.1 _ hw.1) (X.2.2.2.2.1.1 _ hw.2.1) (X.2.2.2.2.1.1 _ hw.2.2.1) (X.2.2.2.2.1.1 _ hw.2.2.2) X.2.2.2.2.2.1 hP hD hS a0 a1 0 0 (zm_w_get hg0) (zm_w_get hg1) zm_tyI zm_tyI rfl hsp hdp hwn hb0 hb1 (fun _ _ => rfl) (by omega) (by rw [zm_sum]; omega) hd (fun H1 locs1 hP1 hD1 hS1 => ?_)
  exact k p l e R s m args below meth c D cI cZ A QM ad0 n0 X ad H1 locs1 ls h1 h2 (eW ▸ hP1) (eW ▸ hD1) hS1 hl hz
end
end
section
theorem d_CM_init_0 : decode b_CM_init 0 = .ok (.aload_n 0, 1) := by decide +kernel
theorem d_CM_init_1 : decode b_CM_init 1 = .ok (.invokespecial 1, 3) := by decide +kernel
theorem d_CM_init_4 : decode b_CM_init 4 = .ok (.aload_n 0, 1) := by decide +kernel
theorem d_CM_init_5 : decode b_CM_init 5 = .ok (.new 7, 3) := by decide +kernel
theorem d_CM_init_8 : decode b_CM_init 8 = .ok (.dup, 1) := by decide +kernel
theorem d_CM_init_9 : decode b_CM_init 9 = .ok (.invokespecial 9, 3) := by decide +kernel
theorem d_CM_init_12 : decode b_CM_init 12 = .ok (.putfield 10, 3) := by decide +kernel
theorem d_CM_init_15 : decode b_CM_init 15 = .ok (.aload_n 0, 1) := by decide +kernel
theorem d_CM_init_16 : decode b_CM_init 16 = .ok (.new 16, 3) := by decide +kernel
theorem d_CM_init_19 : decode b_CM_init 19 = .ok (.dup, 1) := by decide +kernel
theorem d_CM_init_20 : decode b_CM_init 20 = .ok (.invokespecial 18, 3) := by decide +kernel
theorem d_CM_init_23 : decode b_CM_init 23 = .ok (.putfield 19, 3) := by decide +kernel
theorem d_CM_init_26 : decode b_CM_init 26 = .ok (.aload_n 0, 1) := by decide +kernel
theorem d_CM_init_27 : decode b_CM_init 27 = .ok (.new 23, 3) := by decide +kernel
theorem d_CM_init_30 : decode b_CM_init 30 = .ok (.dup, 1) := by decide +kernel
theorem d_CM_init_31 : decode b_CM_init 31 = .ok (.invokespecial 25, 3) := by decide +kernel
theorem d_CM_init_34 : decode b_CM_init 34 = .ok (.putfield 26, 3) := by decide +kernel
theorem d_CM_init_37 : decode b_CM_init 37 = .ok (.aload_n 0, 1) := by decide +kernel
theorem d_CM_init_38 : decode b_CM_init 38 = .ok (.new 30, 3) := by decide +kernel
theorem d_CM_init_41 : decode b_CM_init 41 = .ok (.dup, 1) := by decide +kernel
theorem d_CM_init_42 : decode b_CM_init 42 = .ok (.invokespecial 32, 3) := by decide +kernel
theorem d_CM_init_45 : decode b_CM_init 45 = .ok (.putfield 33, 3) := by decide +kernel
theorem d_CM_init_48 : decode b_CM_init 48 = .ok (.return_, 1) := by decide +kernel
theorem d_CM_make_0 : decode b_CM_make 0 = .ok (.iload_n 1, 1) := by decide +kernel
theorem d_CM_make_1 : decode b_CM_make 1 = .ok (.ifCond .lt 21, 3) := by decide +kernel
theorem d_CM_make_4 : decode b_CM_make 4 = .ok (.iload_n 1, 1) := by decide +kernel
theorem d_CM_make_5 : decode b_CM_make 5 = .ok (.bipush 12, 2) := by decide +kernel
theorem d_CM_make_7 : decode b_CM_make 7 = .ok (.if_icmp .ge 15, 3) := by decide +kernel
theorem d_CM_make_10 : decode b_CM_make 10 = .ok (.iload_n 2, 1) := by decide +kernel
theorem d_CM_make_11 : decode b_CM_make 11 = .ok (.iconst 1, 1) := by decide +kernel
theorem d_CM_make_12 : decode b_CM_make 12 = .ok (.if_icmp .lt 10, 3) := by decide +kernel
theorem d_CM_make_15 : decode b_CM_make 15 = .ok (.iload_n 2, 1) := by decide +kernel
theorem d_CM_make_16 : decode b_CM_make 16 = .ok (.sipush 255, 3) := by decide +kernel
theorem d_CM_make_19 : decode b_CM_make 19 = .ok (.if_icmp .le 5, 3) := by decide +kernel
theorem d_CM_make_22 : decode b_CM_make 22 = .ok (.iconst (-1), 1) := by decide +kernel
theorem d_CM_make_23 : decode b_CM_make 23 = .ok (.ireturn, 1) := by decide +kernel
theorem d_CM_make_24 : decode b_CM_make 24 = .ok (.aload_n 0, 1) := by decide +kernel
theorem d_CM_make_25 : decode b_CM_make 25 = .ok (.getfield 10, 3) := by decide +kernel
theorem d_CM_make_28 : decode b_CM_make 28 = .ok (.iload_n 1, 1) := by decide +kernel
theorem d_CM_make_29 : decode b_CM_make 29 = .ok (.invokevirtual 37, 3) := by decide +kernel
theorem d_CM_make_32 : decode b_CM_make 32 = .ok (.ifCond .ne 6, 3) := by decide +kernel
theorem d_CM_make_35 : decode b_CM_make 35 = .ok (.bipush (-2), 2) := by decide +kernel
theorem d_CM_make_37 : decode b_CM_make 37 = .ok (.ireturn, 1) := by decide +kernel
theorem d_CM_make_38 : decode b_CM_make 38 = .ok (.aload_n 0, 1) := by decide +kernel
theorem d_CM_make_39 : decode b_CM_make 39 = .ok (.getfield 10, 3) := by decide +kernel
theorem d_CM_make_42 : decode b_CM_make 42 = .ok (.iload_n 1, 1) := by decide +kernel
theorem d_CM_make_43 : decode b_CM_make 43 = .ok (.iload_n 2, 1) := by decide +kernel
theorem d_CM_make_44 : decode b_CM_make 44 = .ok (.invokevirtual 41, 3) := by decide +kernel
theorem d_CM_make_47 : decode b_CM_make 47 = .ok (.ifCond .eq 6, 3) := by decide +kernel
theorem d_CM_make_50 : decode b_CM_make 50 = .ok (.bipush (-3), 2) := by decide +kernel
theorem d_CM_make_52 : decode b_CM_make 52 = .ok (.ireturn, 1) := by decide +kernel
theorem d_CM_make_53 : decode b_CM_make 53 = .ok (.aload_n 0, 1) := by decide +kernel
theorem d_CM_make_54 : decode b_CM_make 54 = .ok (.getfield 10, 3) := by decide +kernel
theorem d_CM_make_57 : decode b_CM_make 57 = .ok (.invokevirtual 45, 3) := by decide +kernel
theorem d_CM_make_60 : decode b_CM_make 60 = .ok (.istore 4, 2) := by decide +kernel
theorem d_CM_make_62 : decode b_CM_make 62 = .ok (.iload 4, 2) := by decide +kernel
theorem d_CM_make_64 : decode b_CM_make 64 = .ok (.iconst (-1), 1) := by decide +kernel
theorem d_CM_make_65 : decode b_CM_make 65 = .ok (.if_icmp .ne 6, 3) := by decide +kernel
theorem d_CM_make_68 : decode b_CM_make 68 = .ok (.bipush (-4), 2) := by decide +kernel
theorem d_CM_make_70 : decode b_CM_make 70 = .ok (.ireturn, 1) := by decide +kernel
theorem d_CM_make_71 : decode b_CM_make 71 = .ok (.aload_n 0, 1) := by decide +kernel
theorem d_CM_make_72 : decode b_CM_make 72 = .ok (.getfield 10, 3) := by decide +kernel
theorem d_CM_make_75 : decode b_CM_make 75 = .ok (.iload 4, 2) := by decide +kernel
theorem d_CM_make_77 : decode b_CM_make 77 = .ok (.iload_n 1, 1) := by decide +kernel
theorem d_CM_make_78 : decode b_CM_make 78 = .ok (.iload_n 2, 1) := by decide +kernel
theorem d_CM_make_79 : decode b_CM_make 79 = .ok (.iload_n 3, 1) := by decide +kernel
theorem d_CM_make_80 : decode b_CM_make 80 = .ok (.ifCond .eq 7, 3) := by decide +kernel
theorem d_CM_make_83 : decode b_CM_make 83 = .ok (.iconst 2, 1) := by decide +kernel
theorem d_CM_make_84 : decode b_CM_make 84 = .ok (.goto 4, 3) := by decide +kernel
theorem d_CM_make_87 : decode b_CM_make 87 = .ok (.iconst 3, 1) := by decide +kernel
theorem d_CM_make_88 : decode b_CM_make 88 = .ok (.invokevirtual 49, 3) := by decide +kernel
theorem d_CM_make_91 : decode b_CM_make 91 = .ok (.iload 4, 2) := by decide +kernel
theorem d_CM_make_93 : decode b_CM_make 93 = .ok (.ireturn, 1) := by decide +kernel
theorem d_CM_remove_0 : decode b_CM_remove 0 = .ok (.iload_n 1, 1) := by decide +kernel
theorem d_CM_remove_1 : decode b_CM_remove 1 = .ok (.invokestatic 53, 3) := by decide +kernel
theorem d_CM_remove_4 : decode b_CM_remove 4 = .ok (.ifCond .ne 5, 3) := by decide +kernel
theorem d_CM_remove_7 : decode b_CM_remove 7 = .ok (.iconst (-1), 1) := by decide +kernel
theorem d_CM_remove_8 : decode b_CM_remove 8 = .ok (.ireturn, 1) := by decide +kernel
theorem d_CM_remove_9 : decode b_CM_remove 9 = .ok (.aload_n 0, 1) := by decide +kernel
theorem d_CM_remove_10 : decode b_CM_remove 10 = .ok (.getfield 10, 3) := by decide +kernel
theorem d_CM_remove_13 : decode b_CM_remove 13 = .ok (.iload_n 1, 1) := by decide +kernel
theorem d_CM_remove_14 : decode b_CM_remove 14 = .ok (.invokevirtual 56, 3) := by decide +kernel
theorem d_CM_remove_17 : decode b_CM_remove 17 = .ok (.ifCond .ne 6, 3) := by decide +kernel
theorem d_CM_remove_20 : decode b_CM_remove 20 = .ok (.bipush (-2), 2) := by decide +kernel
theorem d_CM_remove_22 : decode b_CM_remove 22 = .ok (.ireturn, 1) := by decide +kernel
theorem d_CM_remove_23 : decode b_CM_remove 23 = .ok (.aload_n 0, 1) := by decide +kernel
theorem d_CM_remove_24 : decode b_CM_remove 24 = .ok (.getfield 10, 3) := by decide +kernel
theorem d_CM_remove_27 : decode b_CM_remove 27 = .ok (.iload_n 1, 1) := by decide +kernel
theorem d_CM_remove_28 : decode b_CM_remove 28 = .ok (.invokevirtual 59, 3) := by decide +kernel
theorem d_CM_remove_31 : decode b_CM_remove 31 = .ok (.ifCond .le 6, 3) := by decide +kernel
theorem d_CM_remove_34 : decode b_CM_remove 34 = .ok (.bipush (-5), 2) := by decide +kernel
theorem d_CM_remove_36 : decode b_CM_remove 36 = .ok (.ireturn, 1) := by decide +kernel
theorem d_CM_remove_37 : decode b_CM_remove 37 = .ok (.aload_n 0, 1) := by decide +kernel
theorem d_CM_remove_38 : decode b_CM_remove 38 = .ok (.getfield 10, 3) := by decide +kernel
theorem d_CM_remove_41 : decode b_CM_remove 41 = .ok (.iload_n 1, 1) := by decide +kernel
theorem d_CM_remove_42 : decode b_CM_remove 42 = .ok (.invokevirtual 63, 3) := by decide +kernel
theorem d_CM_remove_45 : decode b_CM_remove 45 = .ok (.iconst 0, 1) := by decide +kernel
theorem d_CM_remove_46 : decode b_CM_remove 46 = .ok (.ireturn, 1) := by decide +kernel
theorem d_CM_append_0 : decode b_CM_append 0 = .ok (.iload_n 1, 1) := by decide +kernel
theorem d_CM_append_1 : decode b_CM_append 1 = .ok (.invokestatic 53, 3) := by decide +kernel
theorem d_CM_append_4 : decode b_CM_append 4 = .ok (.ifCond .eq 10, 3) := by decide +kernel
theorem d_CM_append_7 : decode b_CM_append 7 = .ok (.iload_n 2, 1) := by decide +kernel
theorem d_CM_append_8 : decode b_CM_append 8 = .ok (.invokestatic 67, 3) := by decide +kernel
theorem d_CM_append_11 : decode b_CM_append 11 = .ok (.ifCond .ne 5, 3) := by decide +kernel
theorem d_CM_append_14 : decode b_CM_append 14 = .ok (.iconst (-1), 1) := by decide +kernel
theorem d_CM_append_15 : decode b_CM_append 15 = .ok (.ireturn, 1) := by decide +kernel
theorem d_CM_append_16 : decode b_CM_append 16 = .ok (.aload_n 0, 1) := by decide +kernel
theorem d_CM_append_17 : decode b_CM_append 17 = .ok (.getfield 10, 3) := by decide +kernel
theorem d_CM_append_20 : decode b_CM_append 20 = .ok (.iload_n 1, 1) := by decide +kernel
theorem d_CM_append_21 : decode b_CM_append 21 = .ok (.invokevirtual 70, 3) := by decide +kernel
theorem d_CM_append_24 : decode b_CM_append 24 = .ok (.ifCond .ne 6, 3) := by decide +kernel
theorem d_CM_append_27 : decode b_CM_append 27 = .ok (.bipush (-2), 2) := by decide +kernel
theorem d_CM_append_29 : decode b_CM_append 29 = .ok (.ireturn, 1) := by decide +kernel
theorem d_CM_append_30 : decode b_CM_append 30 = .ok (.aload_n 0, 1) := by decide +kernel
theorem d_CM_append_31 : decode b_CM_append 31 = .ok (.getfield 10, 3) := by decide +kernel
theorem d_CM_append_34 : decode b_CM_append 34 = .ok (.iload_n 1, 1) := by decide +kernel
theorem d_CM_append_35 : decode b_CM_append 35 = .ok (.invokevirtual 73, 3) := by decide +kernel
theorem d_CM_append_38 : decode b_CM_append 38 = .ok (.bipush 12, 2) := by decide +kernel
theorem d_CM_append_40 : decode b_CM_append 40 = .ok (.if_icmp .lt 6, 3) := by decide +kernel
theorem d_CM_append_43 : decode b_CM_append 43 = .ok (.bipush (-4), 2) := by decide +kernel
theorem d_CM_append_45 : decode b_CM_append 45 = .ok (.ireturn, 1) := by decide +kernel
theorem d_CM_append_46 : decode b_CM_append 46 = .ok (.aload_n 0, 1) := by decide +kernel
theorem d_CM_append_47 : decode b_CM_append 47 = .ok (.getfield 10, 3) := by decide +kernel
theorem d_CM_append_50 : decode b_CM_append 50 = .ok (.iload_n 1, 1) := by decide +kernel
theorem d_CM_append_51 : decode b_CM_append 51 = .ok (.iload_n 2, 1) := by decide +kernel
theorem d_CM_append_52 : decode b_CM_append 52 = .ok (.invokevirtual 76, 3) := by decide +kernel
theorem d_CM_append_55 : decode b_CM_append 55 = .ok (.ireturn, 1) := by decide +kernel
theorem d_CM_empty_0 : decode b_CM_empty 0 = .ok (.iload_n 1, 1) := by decide +kernel
theorem d_CM_empty_1 : decode b_CM_empty 1 = .ok (.invokestatic 53, 3) := by decide +kernel
theorem d_CM_empty_4 : decode b_CM_empty 4 = .ok (.ifCond .ne 5, 3) := by decide +kernel
theorem d_CM_empty_7 : decode b_CM_empty 7 = .ok (.iconst (-1), 1) := by decide +kernel
theorem d_CM_empty_8 : decode b_CM_empty 8 = .ok (.ireturn, 1) := by decide +kernel
theorem d_CM_empty_9 : decode b_CM_empty 9 = .ok (.aload_n 0, 1) := by decide +kernel
theorem d_CM_empty_10 : decode b_CM_empty 10 = .ok (.getfield 10, 3) := by decide +kernel
theorem d_CM_empty_13 : decode b_CM_empty 13 = .ok (.iload_n 1, 1) := by decide +kernel
theorem d_CM_empty_14 : decode b_CM_empty 14 = .ok (.invokevirtual 70, 3) := by decide +kernel
theorem d_CM_empty_17 : decode b_CM_empty 17 = .ok (.ifCond .ne 6, 3) := by decide +kernel
theorem d_CM_empty_20 : decode b_CM_empty 20 = .ok (.bipush (-2), 2) := by decide +kernel
theorem d_CM_empty_22 : decode b_CM_empty 22 = .ok (.ireturn, 1) := by decide +kernel
theorem d_CM_empty_23 : decode b_CM_empty 23 = .ok (.aload_n 0, 1) := by decide +kernel
theorem d_CM_empty_24 : decode b_CM_empty 24 = .ok (.getfield 10, 3) := by decide +kernel
theorem d_CM_empty_27 : decode b_CM_empty 27 = .ok (.iload_n 1, 1) := by decide +kernel
theorem d_CM_empty_28 : decode b_CM_empty 28 = .ok (.invokevirtual 80, 3) := by decide +kernel
theorem d_CM_empty_31 : decode b_CM_empty 31 = .ok (.ireturn, 1) := by decide +kernel
theorem d_CM_publish_0 : decode b_CM_publish 0 = .ok (.aload_n 0, 1) := by decide +kernel
theorem d_CM_publish_1 : decode b_CM_publish 1 = .ok (.getfield 19, 3) := by decide +kernel
theorem d_CM_publish_4 : decode b_CM_publish 4 = .ok (.aload_n 0, 1) := by decide +kernel
theorem d_CM_publish_5 : decode b_CM_publish 5 = .ok (.getfield 10, 3) := by decide +kernel
theorem d_CM_publish_8 : decode b_CM_publish 8 = .ok (.invokevirtual 83, 3) := by decide +kernel
theorem d_CM_publish_11 : decode b_CM_publish 11 = .ok (.aload_n 0, 1) := by decide +kernel
theorem d_CM_publish_12 : decode b_CM_publish 12 = .ok (.getfield 26, 3) := by decide +kernel
theorem d_CM_publish_15 : decode b_CM_publish 15 = .ok (.aload_n 0, 1) := by decide +kernel
theorem d_CM_publish_16 : decode b_CM_publish 16 = .ok (.getfield 19, 3) := by decide +kernel
theorem d_CM_publish_19 : decode b_CM_publish 19 = .ok (.invokevirtual 87, 3) := by decide +kernel
theorem d_CM_publish_22 : decode b_CM_publish 22 = .ok (.aload_n 0, 1) := by decide +kernel
theorem d_CM_publish_23 : decode b_CM_publish 23 = .ok (.getfield 19, 3) := by decide +kernel
theorem d_CM_publish_26 : decode b_CM_publish 26 = .ok (.getfield 91, 3) := by decide +kernel
theorem d_CM_publish_29 : decode b_CM_publish 29 = .ok (.ireturn, 1) := by decide +kernel
theorem d_CM_modules_0 : decode b_CM_modules 0 = .ok (.aload_n 0, 1) := by decide +kernel
theorem d_CM_modules_1 : decode b_CM_modules 1 = .ok (.getfield 19, 3) := by decide +kernel
theorem d_CM_modules_4 : decode b_CM_modules 4 = .ok (.getfield 95, 3) := by decide +kernel
theorem d_CM_modules_7 : decode b_CM_modules 7 = .ok (.ireturn, 1) := by decide +kernel
theorem d_CM_module_0 : decode b_CM_module 0 = .ok (.iload_n 1, 1) := by decide +kernel
theorem d_CM_module_1 : decode b_CM_module 1 = .ok (.ifCond .lt 14, 3) := by decide +kernel
theorem d_CM_module_4 : decode b_CM_module 4 = .ok (.iload_n 1, 1) := by decide +kernel
theorem d_CM_module_5 : decode b_CM_module 5 = .ok (.aload_n 0, 1) := by decide +kernel
theorem d_CM_module_6 : decode b_CM_module 6 = .ok (.getfield 19, 3) := by decide +kernel
theorem d_CM_module_9 : decode b_CM_module 9 = .ok (.getfield 95, 3) := by decide +kernel
theorem d_CM_module_12 : decode b_CM_module 12 = .ok (.if_icmp .lt 6, 3) := by decide +kernel
theorem d_CM_module_15 : decode b_CM_module 15 = .ok (.bipush (-2), 2) := by decide +kernel
theorem d_CM_module_17 : decode b_CM_module 17 = .ok (.ireturn, 1) := by decide +kernel
theorem d_CM_module_18 : decode b_CM_module 18 = .ok (.ldc 98, 2) := by decide +kernel
theorem d_CM_module_20 : decode b_CM_module 20 = .ok (.aload_n 0, 1) := by decide +kernel
theorem d_CM_module_21 : decode b_CM_module 21 = .ok (.getfield 19, 3) := by decide +kernel
theorem d_CM_module_24 : decode b_CM_module 24 = .ok (.getfield 99, 3) := by decide +kernel
theorem d_CM_module_27 : decode b_CM_module 27 = .ok (.iload_n 1, 1) := by decide +kernel
theorem d_CM_module_28 : decode b_CM_module 28 = .ok (.iaload, 1) := by decide +kernel
theorem d_CM_module_29 : decode b_CM_module 29 = .ok (.imul, 1) := by decide +kernel
theorem d_CM_module_30 : decode b_CM_module 30 = .ok (.aload_n 0, 1) := by decide +kernel
theorem d_CM_module_31 : decode b_CM_module 31 = .ok (.getfield 19, 3) := by decide +kernel
theorem d_CM_module_34 : decode b_CM_module 34 = .ok (.getfield 103, 3) := by decide +kernel
theorem d_CM_module_37 : decode b_CM_module 37 = .ok (.iload_n 1, 1) := by decide +kernel
theorem d_CM_module_38 : decode b_CM_module 38 = .ok (.iaload, 1) := by decide +kernel
theorem d_CM_module_39 : decode b_CM_module 39 = .ok (.iadd, 1) := by decide +kernel
theorem d_CM_module_40 : decode b_CM_module 40 = .ok (.ireturn, 1) := by decide +kernel
theorem d_CM_peek_0 : decode b_CM_peek 0 = .ok (.aload_n 0, 1) := by decide +kernel
theorem d_CM_peek_1 : decode b_CM_peek 1 = .ok (.getfield 26, 3) := by decide +kernel
theorem d_CM_peek_4 : decode b_CM_peek 4 = .ok (.invokevirtual 106, 3) := by decide +kernel
theorem d_CM_peek_7 : decode b_CM_peek 7 = .ok (.ifCond .eq 13, 3) := by decide +kernel
theorem d_CM_peek_10 : decode b_CM_peek 10 = .ok (.iload_n 1, 1) := by decide +kernel
theorem d_CM_peek_11 : decode b_CM_peek 11 = .ok (.ifCond .lt 9, 3) := by decide +kernel
theorem d_CM_peek_14 : decode b_CM_peek 14 = .ok (.iload_n 1, 1) := by decide +kernel
theorem d_CM_peek_15 : decode b_CM_peek 15 = .ok (.bipush 16, 2) := by decide +kernel
theorem d_CM_peek_17 : decode b_CM_peek 17 = .ok (.if_icmp .lt 6, 3) := by decide +kernel
theorem d_CM_peek_20 : decode b_CM_peek 20 = .ok (.bipush (-2), 2) := by decide +kernel
theorem d_CM_peek_22 : decode b_CM_peek 22 = .ok (.ireturn, 1) := by decide +kernel
theorem d_CM_peek_23 : decode b_CM_peek 23 = .ok (.aload_n 0, 1) := by decide +kernel
theorem d_CM_peek_24 : decode b_CM_peek 24 = .ok (.getfield 26, 3) := by decide +kernel
theorem d_CM_peek_27 : decode b_CM_peek 27 = .ok (.getfield 110, 3) := by decide +kernel
theorem d_CM_peek_30 : decode b_CM_peek 30 = .ok (.iload_n 1, 1) := by decide +kernel
theorem d_CM_peek_31 : decode b_CM_peek 31 = .ok (.iaload, 1) := by decide +kernel
theorem d_CM_peek_32 : decode b_CM_peek 32 = .ok (.ireturn, 1) := by decide +kernel
theorem d_CM_send_0 : decode b_CM_send 0 = .ok (.iload_n 1, 1) := by decide +kernel
theorem d_CM_send_1 : decode b_CM_send 1 = .ok (.ifCond .lt 9, 3) := by decide +kernel
theorem d_CM_send_4 : decode b_CM_send 4 = .ok (.iload_n 1, 1) := by decide +kernel
theorem d_CM_send_5 : decode b_CM_send 5 = .ok (.bipush 64, 2) := by decide +kernel
theorem d_CM_send_7 : decode b_CM_send 7 = .ok (.if_icmp .le 5, 3) := by decide +kernel
theorem d_CM_send_10 : decode b_CM_send 10 = .ok (.iconst (-1), 1) := by decide +kernel
theorem d_CM_send_11 : decode b_CM_send 11 = .ok (.ireturn, 1) := by decide +kernel
theorem d_CM_send_12 : decode b_CM_send 12 = .ok (.aload_n 0, 1) := by decide +kernel
theorem d_CM_send_13 : decode b_CM_send 13 = .ok (.getfield 26, 3) := by decide +kernel
theorem d_CM_send_16 : decode b_CM_send 16 = .ok (.invokevirtual 106, 3) := by decide +kernel
theorem d_CM_send_19 : decode b_CM_send 19 = .ok (.ifCond .ne 6, 3) := by decide +kernel
theorem d_CM_send_22 : decode b_CM_send 22 = .ok (.bipush (-2), 2) := by decide +kernel
theorem d_CM_send_24 : decode b_CM_send 24 = .ok (.ireturn, 1) := by decide +kernel
theorem d_CM_send_25 : decode b_CM_send 25 = .ok (.iconst 0, 1) := by decide +kernel
theorem d_CM_send_26 : decode b_CM_send 26 = .ok (.istore_n 2, 1) := by decide +kernel
theorem d_CM_send_27 : decode b_CM_send 27 = .ok (.iload_n 2, 1) := by decide +kernel
theorem d_CM_send_28 : decode b_CM_send 28 = .ok (.iload_n 1, 1) := by decide +kernel
theorem d_CM_send_29 : decode b_CM_send 29 = .ok (.if_icmp .ge 30, 3) := by decide +kernel
theorem d_CM_send_32 : decode b_CM_send 32 = .ok (.aload_n 0, 1) := by decide +kernel
theorem d_CM_send_33 : decode b_CM_send 33 = .ok (.getfield 33, 3) := by decide +kernel
theorem d_CM_send_36 : decode b_CM_send 36 = .ok (.aload_n 0, 1) := by decide +kernel
theorem d_CM_send_37 : decode b_CM_send 37 = .ok (.getfield 26, 3) := by decide +kernel
theorem d_CM_send_40 : decode b_CM_send 40 = .ok (.getfield 110, 3) := by decide +kernel
theorem d_CM_send_43 : decode b_CM_send 43 = .ok (.invokevirtual 113, 3) := by decide +kernel
theorem d_CM_send_46 : decode b_CM_send 46 = .ok (.aload_n 0, 1) := by decide +kernel
theorem d_CM_send_47 : decode b_CM_send 47 = .ok (.getfield 26, 3) := by decide +kernel
theorem d_CM_send_50 : decode b_CM_send 50 = .ok (.invokevirtual 117, 3) := by decide +kernel
theorem d_CM_send_53 : decode b_CM_send 53 = .ok (.iinc 2 1, 3) := by decide +kernel
theorem d_CM_send_56 : decode b_CM_send 56 = .ok (.goto (-29), 3) := by decide +kernel
theorem d_CM_send_59 : decode b_CM_send 59 = .ok (.iload_n 1, 1) := by decide +kernel
theorem d_CM_send_60 : decode b_CM_send 60 = .ok (.ireturn, 1) := by decide +kernel
theorem d_CM_lose_0 : decode b_CM_lose 0 = .ok (.iload_n 1, 1) := by decide +kernel
theorem d_CM_lose_1 : decode b_CM_lose 1 = .ok (.ifCond .lt 9, 3) := by decide +kernel
theorem d_CM_lose_4 : decode b_CM_lose 4 = .ok (.iload_n 1, 1) := by decide +kernel
theorem d_CM_lose_5 : decode b_CM_lose 5 = .ok (.bipush 64, 2) := by decide +kernel
theorem d_CM_lose_7 : decode b_CM_lose 7 = .ok (.if_icmp .le 5, 3) := by decide +kernel
theorem d_CM_lose_10 : decode b_CM_lose 10 = .ok (.iconst (-1), 1) := by decide +kernel
theorem d_CM_lose_11 : decode b_CM_lose 11 = .ok (.ireturn, 1) := by decide +kernel
theorem d_CM_lose_12 : decode b_CM_lose 12 = .ok (.aload_n 0, 1) := by decide +kernel
theorem d_CM_lose_13 : decode b_CM_lose 13 = .ok (.getfield 26, 3) := by decide +kernel
theorem d_CM_lose_16 : decode b_CM_lose 16 = .ok (.invokevirtual 106, 3) := by decide +kernel
theorem d_CM_lose_19 : decode b_CM_lose 19 = .ok (.ifCond .ne 6, 3) := by decide +kernel
theorem d_CM_lose_22 : decode b_CM_lose 22 = .ok (.bipush (-2), 2) := by decide +kernel
theorem d_CM_lose_24 : decode b_CM_lose 24 = .ok (.ireturn, 1) := by decide +kernel
theorem d_CM_lose_25 : decode b_CM_lose 25 = .ok (.iconst 0, 1) := by decide +kernel
theorem d_CM_lose_26 : decode b_CM_lose 26 = .ok (.istore_n 2, 1) := by decide +kernel
theorem d_CM_lose_27 : decode b_CM_lose 27 = .ok (.iload_n 2, 1) := by decide +kernel
theorem d_CM_lose_28 : decode b_CM_lose 28 = .ok (.iload_n 1, 1) := by decide +kernel
theorem d_CM_lose_29 : decode b_CM_lose 29 = .ok (.if_icmp .ge 16, 3) := by decide +kernel
theorem d_CM_lose_32 : decode b_CM_lose 32 = .ok (.aload_n 0, 1) := by decide +kernel
theorem d_CM_lose_33 : decode b_CM_lose 33 = .ok (.getfield 26, 3) := by decide +kernel
theorem d_CM_lose_36 : decode b_CM_lose 36 = .ok (.invokevirtual 117, 3) := by decide +kernel
theorem d_CM_lose_39 : decode b_CM_lose 39 = .ok (.iinc 2 1, 3) := by decide +kernel
theorem d_CM_lose_42 : decode b_CM_lose 42 = .ok (.goto (-15), 3) := by decide +kernel
theorem d_CM_lose_45 : decode b_CM_lose 45 = .ok (.iload_n 1, 1) := by decide +kernel
theorem d_CM_lose_46 : decode b_CM_lose 46 = .ok (.ireturn, 1) := by decide +kernel
theorem d_CM_spoil_0 : decode b_CM_spoil 0 = .ok (.iload_n 1, 1) := by decide +kernel
theorem d_CM_spoil_1 : decode b_CM_spoil 1 = .ok (.ifCond .lt 16, 3) := by decide +kernel
theorem d_CM_spoil_4 : decode b_CM_spoil 4 = .ok (.iload_n 1, 1) := by decide +kernel
theorem d_CM_spoil_5 : decode b_CM_spoil 5 = .ok (.bipush 16, 2) := by decide +kernel
theorem d_CM_spoil_7 : decode b_CM_spoil 7 = .ok (.if_icmp .ge 10, 3) := by decide +kernel
theorem d_CM_spoil_10 : decode b_CM_spoil 10 = .ok (.iload_n 2, 1) := by decide +kernel
theorem d_CM_spoil_11 : decode b_CM_spoil 11 = .ok (.invokestatic 67, 3) := by decide +kernel
theorem d_CM_spoil_14 : decode b_CM_spoil 14 = .ok (.ifCond .ne 5, 3) := by decide +kernel
theorem d_CM_spoil_17 : decode b_CM_spoil 17 = .ok (.iconst (-1), 1) := by decide +kernel
theorem d_CM_spoil_18 : decode b_CM_spoil 18 = .ok (.ireturn, 1) := by decide +kernel
theorem d_CM_spoil_19 : decode b_CM_spoil 19 = .ok (.aload_n 0, 1) := by decide +kernel
theorem d_CM_spoil_20 : decode b_CM_spoil 20 = .ok (.getfield 26, 3) := by decide +kernel
theorem d_CM_spoil_23 : decode b_CM_spoil 23 = .ok (.invokevirtual 106, 3) := by decide +kernel
theorem d_CM_spoil_26 : decode b_CM_spoil 26 = .ok (.ifCond .ne 6, 3) := by decide +kernel
theorem d_CM_spoil_29 : decode b_CM_spoil 29 = .ok (.bipush (-2), 2) := by decide +kernel
theorem d_CM_spoil_31 : decode b_CM_spoil 31 = .ok (.ireturn, 1) := by decide +kernel
theorem d_CM_spoil_32 : decode b_CM_spoil 32 = .ok (.aload_n 0, 1) := by decide +kernel
theorem d_CM_spoil_33 : decode b_CM_spoil 33 = .ok (.getfield 26, 3) := by decide +kernel
theorem d_CM_spoil_36 : decode b_CM_spoil 36 = .ok (.getfield 110, 3) := by decide +kernel
theorem d_CM_spoil_39 : decode b_CM_spoil 39 = .ok (.iload_n 1, 1) := by decide +kernel
theorem d_CM_spoil_40 : decode b_CM_spoil 40 = .ok (.dup2, 1) := by decide +kernel
theorem d_CM_spoil_41 : decode b_CM_spoil 41 = .ok (.iaload, 1) := by decide +kernel
theorem d_CM_spoil_42 : decode b_CM_spoil 42 = .ok (.iload_n 2, 1) := by decide +kernel
theorem d_CM_spoil_43 : decode b_CM_spoil 43 = .ok (.ixor, 1) := by decide +kernel
theorem d_CM_spoil_44 : decode b_CM_spoil 44 = .ok (.iastore, 1) := by decide +kernel
theorem d_CM_spoil_45 : decode b_CM_spoil 45 = .ok (.aload_n 0, 1) := by decide +kernel
theorem d_CM_spoil_46 : decode b_CM_spoil 46 = .ok (.getfield 33, 3) := by decide +kernel
theorem d_CM_spoil_49 : decode b_CM_spoil 49 = .ok (.aload_n 0, 1) := by decide +kernel
theorem d_CM_spoil_50 : decode b_CM_spoil 50 = .ok (.getfield 26, 3) := by decide +kernel
theorem d_CM_spoil_53 : decode b_CM_spoil 53 = .ok (.getfield 110, 3) := by decide +kernel
theorem d_CM_spoil_56 : decode b_CM_spoil 56 = .ok (.invokevirtual 113, 3) := by decide +kernel
theorem d_CM_spoil_59 : decode b_CM_spoil 59 = .ok (.aload_n 0, 1) := by decide +kernel
theorem d_CM_spoil_60 : decode b_CM_spoil 60 = .ok (.getfield 26, 3) := by decide +kernel
theorem d_CM_spoil_63 : decode b_CM_spoil 63 = .ok (.invokevirtual 117, 3) := by decide +kernel
theorem d_CM_spoil_66 : decode b_CM_spoil 66 = .ok (.iconst 1, 1) := by decide +kernel
theorem d_CM_spoil_67 : decode b_CM_spoil 67 = .ok (.ireturn, 1) := by decide +kernel
theorem d_CM_retune_0 : decode b_CM_retune 0 = .ok (.aload_n 0, 1) := by decide +kernel
theorem d_CM_retune_1 : decode b_CM_retune 1 = .ok (.getfield 33, 3) := by decide +kernel
theorem d_CM_retune_4 : decode b_CM_retune 4 = .ok (.invokevirtual 120, 3) := by decide +kernel
theorem d_CM_retune_7 : decode b_CM_retune 7 = .ok (.return_, 1) := by decide +kernel
theorem d_CM_count_0 : decode b_CM_count 0 = .ok (.iload_n 1, 1) := by decide +kernel
theorem d_CM_count_1 : decode b_CM_count 1 = .ok (.ifCond .lt 15, 3) := by decide +kernel
theorem d_CM_count_4 : decode b_CM_count 4 = .ok (.iload_n 1, 1) := by decide +kernel
theorem d_CM_count_5 : decode b_CM_count 5 = .ok (.aload_n 0, 1) := by decide +kernel
theorem d_CM_count_6 : decode b_CM_count 6 = .ok (.getfield 33, 3) := by decide +kernel
theorem d_CM_count_9 : decode b_CM_count 9 = .ok (.getfield 123, 3) := by decide +kernel
theorem d_CM_count_12 : decode b_CM_count 12 = .ok (.arraylength, 1) := by decide +kernel
theorem d_CM_count_13 : decode b_CM_count 13 = .ok (.if_icmp .lt 5, 3) := by decide +kernel
theorem d_CM_count_16 : decode b_CM_count 16 = .ok (.iconst (-1), 1) := by decide +kernel
theorem d_CM_count_17 : decode b_CM_count 17 = .ok (.ireturn, 1) := by decide +kernel
theorem d_CM_count_18 : decode b_CM_count 18 = .ok (.aload_n 0, 1) := by decide +kernel
theorem d_CM_count_19 : decode b_CM_count 19 = .ok (.getfield 33, 3) := by decide +kernel
theorem d_CM_count_22 : decode b_CM_count 22 = .ok (.getfield 123, 3) := by decide +kernel
theorem d_CM_count_25 : decode b_CM_count 25 = .ok (.iload_n 1, 1) := by decide +kernel
theorem d_CM_count_26 : decode b_CM_count 26 = .ok (.iaload, 1) := by decide +kernel
theorem d_CM_count_27 : decode b_CM_count 27 = .ok (.ireturn, 1) := by decide +kernel
theorem d_CM_transaction_0 : decode b_CM_transaction 0 = .ok (.aload_n 0, 1) := by decide +kernel
theorem d_CM_transaction_1 : decode b_CM_transaction 1 = .ok (.getfield 33, 3) := by decide +kernel
theorem d_CM_transaction_4 : decode b_CM_transaction 4 = .ok (.getfield 126, 3) := by decide +kernel
theorem d_CM_transaction_7 : decode b_CM_transaction 7 = .ok (.astore_n 1, 1) := by decide +kernel
theorem d_CM_transaction_8 : decode b_CM_transaction 8 = .ok (.aload_n 1, 1) := by decide +kernel
theorem d_CM_transaction_9 : decode b_CM_transaction 9 = .ok (.getfield 130, 3) := by decide +kernel
theorem d_CM_transaction_12 : decode b_CM_transaction 12 = .ok (.ifCond .eq 10, 3) := by decide +kernel
theorem d_CM_transaction_15 : decode b_CM_transaction 15 = .ok (.aload_n 1, 1) := by decide +kernel
theorem d_CM_transaction_16 : decode b_CM_transaction 16 = .ok (.getfield 136, 3) := by decide +kernel
theorem d_CM_transaction_19 : decode b_CM_transaction 19 = .ok (.goto 5, 3) := by decide +kernel
theorem d_CM_transaction_22 : decode b_CM_transaction 22 = .ok (.bipush (-2), 2) := by decide +kernel
theorem d_CM_transaction_24 : decode b_CM_transaction 24 = .ok (.ireturn, 1) := by decide +kernel
theorem d_CM_held_0 : decode b_CM_held 0 = .ok (.aload_n 0, 1) := by decide +kernel
theorem d_CM_held_1 : decode b_CM_held 1 = .ok (.getfield 33, 3) := by decide +kernel
theorem d_CM_held_4 : decode b_CM_held 4 = .ok (.getfield 126, 3) := by decide +kernel
theorem d_CM_held_7 : decode b_CM_held 7 = .ok (.astore_n 2, 1) := by decide +kernel
theorem d_CM_held_8 : decode b_CM_held 8 = .ok (.aload_n 2, 1) := by decide +kernel
theorem d_CM_held_9 : decode b_CM_held 9 = .ok (.iload_n 1, 1) := by decide +kernel
theorem d_CM_held_10 : decode b_CM_held 10 = .ok (.invokevirtual 139, 3) := by decide +kernel
theorem d_CM_held_13 : decode b_CM_held 13 = .ok (.ifCond .eq 11, 3) := by decide +kernel
theorem d_CM_held_16 : decode b_CM_held 16 = .ok (.aload_n 2, 1) := by decide +kernel
theorem d_CM_held_17 : decode b_CM_held 17 = .ok (.iload_n 1, 1) := by decide +kernel
theorem d_CM_held_18 : decode b_CM_held 18 = .ok (.invokevirtual 142, 3) := by decide +kernel
theorem d_CM_held_21 : decode b_CM_held 21 = .ok (.goto 5, 3) := by decide +kernel
theorem d_CM_held_24 : decode b_CM_held 24 = .ok (.bipush (-2), 2) := by decide +kernel
theorem d_CM_held_26 : decode b_CM_held 26 = .ok (.ireturn, 1) := by decide +kernel
theorem d_CM_kind_0 : decode b_CM_kind 0 = .ok (.aload_n 0, 1) := by decide +kernel
theorem d_CM_kind_1 : decode b_CM_kind 1 = .ok (.iload_n 1, 1) := by decide +kernel
theorem d_CM_kind_2 : decode b_CM_kind 2 = .ok (.iload_n 2, 1) := by decide +kernel
theorem d_CM_kind_3 : decode b_CM_kind 3 = .ok (.iload_n 3, 1) := by decide +kernel
theorem d_CM_kind_4 : decode b_CM_kind 4 = .ok (.invokevirtual 145, 3) := by decide +kernel
theorem d_CM_kind_7 : decode b_CM_kind 7 = .ok (.istore 4, 2) := by decide +kernel
theorem d_CM_kind_9 : decode b_CM_kind 9 = .ok (.iload 4, 2) := by decide +kernel
theorem d_CM_kind_11 : decode b_CM_kind 11 = .ok (.ifCond .ge 8, 3) := by decide +kernel
theorem d_CM_kind_14 : decode b_CM_kind 14 = .ok (.iload 4, 2) := by decide +kernel
theorem d_CM_kind_16 : decode b_CM_kind 16 = .ok (.goto 15, 3) := by decide +kernel
theorem d_CM_kind_19 : decode b_CM_kind 19 = .ok (.aload_n 0, 1) := by decide +kernel
theorem d_CM_kind_20 : decode b_CM_kind 20 = .ok (.getfield 33, 3) := by decide +kernel
theorem d_CM_kind_23 : decode b_CM_kind 23 = .ok (.getfield 126, 3) := by decide +kernel
theorem d_CM_kind_26 : decode b_CM_kind 26 = .ok (.iload 4, 2) := by decide +kernel
theorem d_CM_kind_28 : decode b_CM_kind 28 = .ok (.invokevirtual 149, 3) := by decide +kernel
theorem d_CM_kind_31 : decode b_CM_kind 31 = .ok (.ireturn, 1) := by decide +kernel
theorem d_CM_size_0 : decode b_CM_size 0 = .ok (.aload_n 0, 1) := by decide +kernel
theorem d_CM_size_1 : decode b_CM_size 1 = .ok (.iload_n 1, 1) := by decide +kernel
theorem d_CM_size_2 : decode b_CM_size 2 = .ok (.iload_n 2, 1) := by decide +kernel
theorem d_CM_size_3 : decode b_CM_size 3 = .ok (.iload_n 3, 1) := by decide +kernel
theorem d_CM_size_4 : decode b_CM_size 4 = .ok (.invokevirtual 145, 3) := by decide +kernel
theorem d_CM_size_7 : decode b_CM_size 7 = .ok (.istore 4, 2) := by decide +kernel
theorem d_CM_size_9 : decode b_CM_size 9 = .ok (.iload 4, 2) := by decide +kernel
theorem d_CM_size_11 : decode b_CM_size 11 = .ok (.ifCond .ge 6, 3) := by decide +kernel
theorem d_CM_size_14 : decode b_CM_size 14 = .ok (.iload 4, 2) := by decide +kernel
theorem d_CM_size_16 : decode b_CM_size 16 = .ok (.ireturn, 1) := by decide +kernel
theorem d_CM_size_17 : decode b_CM_size 17 = .ok (.aload_n 0, 1) := by decide +kernel
theorem d_CM_size_18 : decode b_CM_size 18 = .ok (.getfield 33, 3) := by decide +kernel
theorem d_CM_size_21 : decode b_CM_size 21 = .ok (.getfield 126, 3) := by decide +kernel
theorem d_CM_size_24 : decode b_CM_size 24 = .ok (.astore 5, 2) := by decide +kernel
theorem d_CM_size_26 : decode b_CM_size 26 = .ok (.aload 5, 2) := by decide +kernel
theorem d_CM_size_28 : decode b_CM_size 28 = .ok (.iload 4, 2) := by decide +kernel
theorem d_CM_size_30 : decode b_CM_size 30 = .ok (.invokevirtual 152, 3) := by decide +kernel
theorem d_CM_size_33 : decode b_CM_size 33 = .ok (.istore 6, 2) := by decide +kernel
theorem d_CM_size_35 : decode b_CM_size 35 = .ok (.aload 5, 2) := by decide +kernel
theorem d_CM_size_37 : decode b_CM_size 37 = .ok (.iload 4, 2) := by decide +kernel
theorem d_CM_size_39 : decode b_CM_size 39 = .ok (.invokevirtual 155, 3) := by decide +kernel
theorem d_CM_size_42 : decode b_CM_size 42 = .ok (.ifCond .eq 10, 3) := by decide +kernel
theorem d_CM_size_45 : decode b_CM_size 45 = .ok (.iload 6, 2) := by decide +kernel
theorem d_CM_size_47 : decode b_CM_size 47 = .ok (.iconst 4, 1) := by decide +kernel
theorem d_CM_size_48 : decode b_CM_size 48 = .ok (.idiv, 1) := by decide +kernel
theorem d_CM_size_49 : decode b_CM_size 49 = .ok (.goto 5, 3) := by decide +kernel
theorem d_CM_size_52 : decode b_CM_size 52 = .ok (.iload 6, 2) := by decide +kernel
theorem d_CM_size_54 : decode b_CM_size 54 = .ok (.ireturn, 1) := by decide +kernel
theorem d_CM_read_0 : decode b_CM_read 0 = .ok (.aload_n 0, 1) := by decide +kernel
theorem d_CM_read_1 : decode b_CM_read 1 = .ok (.iload_n 1, 1) := by decide +kernel
theorem d_CM_read_2 : decode b_CM_read 2 = .ok (.iload_n 2, 1) := by decide +kernel
theorem d_CM_read_3 : decode b_CM_read 3 = .ok (.iload_n 3, 1) := by decide +kernel
theorem d_CM_read_4 : decode b_CM_read 4 = .ok (.invokevirtual 145, 3) := by decide +kernel
theorem d_CM_read_7 : decode b_CM_read 7 = .ok (.istore 5, 2) := by decide +kernel
theorem d_CM_read_9 : decode b_CM_read 9 = .ok (.iload 5, 2) := by decide +kernel
theorem d_CM_read_11 : decode b_CM_read 11 = .ok (.ifCond .ge 6, 3) := by decide +kernel
theorem d_CM_read_14 : decode b_CM_read 14 = .ok (.iload 5, 2) := by decide +kernel
theorem d_CM_read_16 : decode b_CM_read 16 = .ok (.ireturn, 1) := by decide +kernel
theorem d_CM_read_17 : decode b_CM_read 17 = .ok (.iload 4, 2) := by decide +kernel
theorem d_CM_read_19 : decode b_CM_read 19 = .ok (.ifCond .lt 20, 3) := by decide +kernel
theorem d_CM_read_22 : decode b_CM_read 22 = .ok (.iload 4, 2) := by decide +kernel
theorem d_CM_read_24 : decode b_CM_read 24 = .ok (.aload_n 0, 1) := by decide +kernel
theorem d_CM_read_25 : decode b_CM_read 25 = .ok (.getfield 33, 3) := by decide +kernel
theorem d_CM_read_28 : decode b_CM_read 28 = .ok (.getfield 126, 3) := by decide +kernel
theorem d_CM_read_31 : decode b_CM_read 31 = .ok (.iload 5, 2) := by decide +kernel
theorem d_CM_read_33 : decode b_CM_read 33 = .ok (.invokevirtual 152, 3) := by decide +kernel
theorem d_CM_read_36 : decode b_CM_read 36 = .ok (.if_icmp .lt 6, 3) := by decide +kernel
theorem d_CM_read_39 : decode b_CM_read 39 = .ok (.bipush (-2), 2) := by decide +kernel
theorem d_CM_read_41 : decode b_CM_read 41 = .ok (.ireturn, 1) := by decide +kernel
theorem d_CM_read_42 : decode b_CM_read 42 = .ok (.aload_n 0, 1) := by decide +kernel
theorem d_CM_read_43 : decode b_CM_read 43 = .ok (.getfield 33, 3) := by decide +kernel
theorem d_CM_read_46 : decode b_CM_read 46 = .ok (.getfield 126, 3) := by decide +kernel
theorem d_CM_read_49 : decode b_CM_read 49 = .ok (.iload 5, 2) := by decide +kernel
theorem d_CM_read_51 : decode b_CM_read 51 = .ok (.iload 4, 2) := by decide +kernel
theorem d_CM_read_53 : decode b_CM_read 53 = .ok (.invokevirtual 158, 3) := by decide +kernel
theorem d_CM_read_56 : decode b_CM_read 56 = .ok (.ireturn, 1) := by decide +kernel
theorem d_CM_follow_0 : decode b_CM_follow 0 = .ok (.iload_n 1, 1) := by decide +kernel
theorem d_CM_follow_1 : decode b_CM_follow 1 = .ok (.invokestatic 67, 3) := by decide +kernel
theorem d_CM_follow_4 : decode b_CM_follow 4 = .ok (.ifCond .eq 17, 3) := by decide +kernel
theorem d_CM_follow_7 : decode b_CM_follow 7 = .ok (.iload_n 2, 1) := by decide +kernel
theorem d_CM_follow_8 : decode b_CM_follow 8 = .ok (.invokestatic 67, 3) := by decide +kernel
theorem d_CM_follow_11 : decode b_CM_follow 11 = .ok (.ifCond .eq 10, 3) := by decide +kernel
theorem d_CM_follow_14 : decode b_CM_follow 14 = .ok (.iload_n 3, 1) := by decide +kernel
theorem d_CM_follow_15 : decode b_CM_follow 15 = .ok (.invokestatic 67, 3) := by decide +kernel
theorem d_CM_follow_18 : decode b_CM_follow 18 = .ok (.ifCond .ne 5, 3) := by decide +kernel
theorem d_CM_follow_21 : decode b_CM_follow 21 = .ok (.iconst (-1), 1) := by decide +kernel
theorem d_CM_follow_22 : decode b_CM_follow 22 = .ok (.ireturn, 1) := by decide +kernel
theorem d_CM_follow_23 : decode b_CM_follow 23 = .ok (.aload_n 0, 1) := by decide +kernel
theorem d_CM_follow_24 : decode b_CM_follow 24 = .ok (.getfield 33, 3) := by decide +kernel
theorem d_CM_follow_27 : decode b_CM_follow 27 = .ok (.getfield 126, 3) := by decide +kernel
theorem d_CM_follow_30 : decode b_CM_follow 30 = .ok (.astore 4, 2) := by decide +kernel
theorem d_CM_follow_32 : decode b_CM_follow 32 = .ok (.aload 4, 2) := by decide +kernel
theorem d_CM_follow_34 : decode b_CM_follow 34 = .ok (.invokevirtual 161, 3) := by decide +kernel
theorem d_CM_follow_37 : decode b_CM_follow 37 = .ok (.istore 5, 2) := by decide +kernel
theorem d_CM_follow_39 : decode b_CM_follow 39 = .ok (.iload_n 1, 1) := by decide +kernel
theorem d_CM_follow_40 : decode b_CM_follow 40 = .ok (.ifCond .eq 8, 3) := by decide +kernel
theorem d_CM_follow_43 : decode b_CM_follow 43 = .ok (.iload 5, 2) := by decide +kernel
theorem d_CM_follow_45 : decode b_CM_follow 45 = .ok (.ifCond .ge 6, 3) := by decide +kernel
theorem d_CM_follow_48 : decode b_CM_follow 48 = .ok (.iload 5, 2) := by decide +kernel
theorem d_CM_follow_50 : decode b_CM_follow 50 = .ok (.ireturn, 1) := by decide +kernel
theorem d_CM_follow_51 : decode b_CM_follow 51 = .ok (.aload 4, 2) := by decide +kernel
theorem d_CM_follow_53 : decode b_CM_follow 53 = .ok (.iload 5, 2) := by decide +kernel
theorem d_CM_follow_55 : decode b_CM_follow 55 = .ok (.iload_n 1, 1) := by decide +kernel
theorem d_CM_follow_56 : decode b_CM_follow 56 = .ok (.invokevirtual 164, 3) := by decide +kernel
theorem d_CM_follow_59 : decode b_CM_follow 59 = .ok (.istore 5, 2) := by decide +kernel
theorem d_CM_follow_61 : decode b_CM_follow 61 = .ok (.iload_n 2, 1) := by decide +kernel
theorem d_CM_follow_62 : decode b_CM_follow 62 = .ok (.ifCond .eq 8, 3) := by decide +kernel
theorem d_CM_follow_65 : decode b_CM_follow 65 = .ok (.iload 5, 2) := by decide +kernel
theorem d_CM_follow_67 : decode b_CM_follow 67 = .ok (.ifCond .ge 6, 3) := by decide +kernel
theorem d_CM_follow_70 : decode b_CM_follow 70 = .ok (.iload 5, 2) := by decide +kernel
theorem d_CM_follow_72 : decode b_CM_follow 72 = .ok (.ireturn, 1) := by decide +kernel
theorem d_CM_follow_73 : decode b_CM_follow 73 = .ok (.aload 4, 2) := by decide +kernel
theorem d_CM_follow_75 : decode b_CM_follow 75 = .ok (.iload 5, 2) := by decide +kernel
theorem d_CM_follow_77 : decode b_CM_follow 77 = .ok (.iload_n 2, 1) := by decide +kernel
theorem d_CM_follow_78 : decode b_CM_follow 78 = .ok (.invokevirtual 164, 3) := by decide +kernel
theorem d_CM_follow_81 : decode b_CM_follow 81 = .ok (.istore 5, 2) := by decide +kernel
theorem d_CM_follow_83 : decode b_CM_follow 83 = .ok (.iload_n 3, 1) := by decide +kernel
theorem d_CM_follow_84 : decode b_CM_follow 84 = .ok (.ifCond .eq 8, 3) := by decide +kernel
theorem d_CM_follow_87 : decode b_CM_follow 87 = .ok (.iload 5, 2) := by decide +kernel
theorem d_CM_follow_89 : decode b_CM_follow 89 = .ok (.ifCond .ge 6, 3) := by decide +kernel
theorem d_CM_follow_92 : decode b_CM_follow 92 = .ok (.iload 5, 2) := by decide +kernel
theorem d_CM_follow_94 : decode b_CM_follow 94 = .ok (.ireturn, 1) := by decide +kernel
theorem d_CM_follow_95 : decode b_CM_follow 95 = .ok (.aload 4, 2) := by decide +kernel
theorem d_CM_follow_97 : decode b_CM_follow 97 = .ok (.iload 5, 2) := by decide +kernel
theorem d_CM_follow_99 : decode b_CM_follow 99 = .ok (.iload_n 3, 1) := by decide +kernel
theorem d_CM_follow_100 : decode b_CM_follow 100 = .ok (.invokevirtual 164, 3) := by decide +kernel
theorem d_CM_follow_103 : decode b_CM_follow 103 = .ok (.ireturn, 1) := by decide +kernel
theorem d_CM_isEntryKey_0 : decode b_CM_isEntryKey 0 = .ok (.iload_n 0, 1) := by decide +kernel
theorem d_CM_isEntryKey_1 : decode b_CM_isEntryKey 1 = .ok (.iconst 1, 1) := by decide +kernel
theorem d_CM_isEntryKey_2 : decode b_CM_isEntryKey 2 = .ok (.if_icmp .lt 13, 3) := by decide +kernel
theorem d_CM_isEntryKey_5 : decode b_CM_isEntryKey 5 = .ok (.iload_n 0, 1) := by decide +kernel
theorem d_CM_isEntryKey_6 : decode b_CM_isEntryKey 6 = .ok (.bipush 12, 2) := by decide +kernel
theorem d_CM_isEntryKey_8 : decode b_CM_isEntryKey 8 = .ok (.if_icmp .ge 7, 3) := by decide +kernel
theorem d_CM_isEntryKey_11 : decode b_CM_isEntryKey 11 = .ok (.iconst 1, 1) := by decide +kernel
theorem d_CM_isEntryKey_12 : decode b_CM_isEntryKey 12 = .ok (.goto 4, 3) := by decide +kernel
theorem d_CM_isEntryKey_15 : decode b_CM_isEntryKey 15 = .ok (.iconst 0, 1) := by decide +kernel
theorem d_CM_isEntryKey_16 : decode b_CM_isEntryKey 16 = .ok (.ireturn, 1) := by decide +kernel
theorem d_CM_isByte_0 : decode b_CM_isByte 0 = .ok (.iload_n 0, 1) := by decide +kernel
theorem d_CM_isByte_1 : decode b_CM_isByte 1 = .ok (.ifCond .lt 14, 3) := by decide +kernel
theorem d_CM_isByte_4 : decode b_CM_isByte 4 = .ok (.iload_n 0, 1) := by decide +kernel
theorem d_CM_isByte_5 : decode b_CM_isByte 5 = .ok (.sipush 255, 3) := by decide +kernel
theorem d_CM_isByte_8 : decode b_CM_isByte 8 = .ok (.if_icmp .gt 7, 3) := by decide +kernel
theorem d_CM_isByte_11 : decode b_CM_isByte 11 = .ok (.iconst 1, 1) := by decide +kernel
theorem d_CM_isByte_12 : decode b_CM_isByte 12 = .ok (.goto 4, 3) := by decide +kernel
theorem d_CM_isByte_15 : decode b_CM_isByte 15 = .ok (.iconst 0, 1) := by decide +kernel
theorem d_CM_isByte_16 : decode b_CM_isByte 16 = .ok (.ireturn, 1) := by decide +kernel
theorem d_CM_pairAt_0 : decode b_CM_pairAt 0 = .ok (.aload_n 0, 1) := by decide +kernel
theorem d_CM_pairAt_1 : decode b_CM_pairAt 1 = .ok (.iload_n 1, 1) := by decide +kernel
theorem d_CM_pairAt_2 : decode b_CM_pairAt 2 = .ok (.iaload, 1) := by decide +kernel
theorem d_CM_pairAt_3 : decode b_CM_pairAt 3 = .ok (.sipush 256, 3) := by decide +kernel
theorem d_CM_pairAt_6 : decode b_CM_pairAt 6 = .ok (.imul, 1) := by decide +kernel
theorem d_CM_pairAt_7 : decode b_CM_pairAt 7 = .ok (.aload_n 0, 1) := by decide +kernel
theorem d_CM_pairAt_8 : decode b_CM_pairAt 8 = .ok (.iload_n 1, 1) := by decide +kernel
theorem d_CM_pairAt_9 : decode b_CM_pairAt 9 = .ok (.iconst 1, 1) := by decide +kernel
theorem d_CM_pairAt_10 : decode b_CM_pairAt 10 = .ok (.iadd, 1) := by decide +kernel
theorem d_CM_pairAt_11 : decode b_CM_pairAt 11 = .ok (.iaload, 1) := by decide +kernel
theorem d_CM_pairAt_12 : decode b_CM_pairAt 12 = .ok (.iadd, 1) := by decide +kernel
theorem d_CM_pairAt_13 : decode b_CM_pairAt 13 = .ok (.ireturn, 1) := by decide +kernel
theorem d_CM_checkOf_0 : decode b_CM_checkOf 0 = .ok (.iconst (-1), 1) := by decide +kernel
theorem d_CM_checkOf_1 : decode b_CM_checkOf 1 = .ok (.istore_n 3, 1) := by decide +kernel
theorem d_CM_checkOf_2 : decode b_CM_checkOf 2 = .ok (.iload_n 1, 1) := by decide +kernel
theorem d_CM_checkOf_3 : decode b_CM_checkOf 3 = .ok (.istore 4, 2) := by decide +kernel
theorem d_CM_checkOf_5 : decode b_CM_checkOf 5 = .ok (.iload 4, 2) := by decide +kernel
theorem d_CM_checkOf_7 : decode b_CM_checkOf 7 = .ok (.iload_n 2, 1) := by decide +kernel
theorem d_CM_checkOf_8 : decode b_CM_checkOf 8 = .ok (.if_icmp .ge 52, 3) := by decide +kernel
theorem d_CM_checkOf_11 : decode b_CM_checkOf 11 = .ok (.iload_n 3, 1) := by decide +kernel
theorem d_CM_checkOf_12 : decode b_CM_checkOf 12 = .ok (.aload_n 0, 1) := by decide +kernel
theorem d_CM_checkOf_13 : decode b_CM_checkOf 13 = .ok (.iload 4, 2) := by decide +kernel
theorem d_CM_checkOf_15 : decode b_CM_checkOf 15 = .ok (.iaload, 1) := by decide +kernel
theorem d_CM_checkOf_16 : decode b_CM_checkOf 16 = .ok (.bipush 24, 2) := by decide +kernel
theorem d_CM_checkOf_18 : decode b_CM_checkOf 18 = .ok (.ishl, 1) := by decide +kernel
theorem d_CM_checkOf_19 : decode b_CM_checkOf 19 = .ok (.ixor, 1) := by decide +kernel
theorem d_CM_checkOf_20 : decode b_CM_checkOf 20 = .ok (.istore_n 3, 1) := by decide +kernel
theorem d_CM_checkOf_21 : decode b_CM_checkOf 21 = .ok (.iconst 0, 1) := by decide +kernel
theorem d_CM_checkOf_22 : decode b_CM_checkOf 22 = .ok (.istore 5, 2) := by decide +kernel
theorem d_CM_checkOf_24 : decode b_CM_checkOf 24 = .ok (.iload 5, 2) := by decide +kernel
theorem d_CM_checkOf_26 : decode b_CM_checkOf 26 = .ok (.bipush 8, 2) := by decide +kernel
theorem d_CM_checkOf_28 : decode b_CM_checkOf 28 = .ok (.if_icmp .ge 26, 3) := by decide +kernel
theorem d_CM_checkOf_31 : decode b_CM_checkOf 31 = .ok (.iload_n 3, 1) := by decide +kernel
theorem d_CM_checkOf_32 : decode b_CM_checkOf 32 = .ok (.ifCond .ge 12, 3) := by decide +kernel
theorem d_CM_checkOf_35 : decode b_CM_checkOf 35 = .ok (.iload_n 3, 1) := by decide +kernel
theorem d_CM_checkOf_36 : decode b_CM_checkOf 36 = .ok (.iconst 1, 1) := by decide +kernel
theorem d_CM_checkOf_37 : decode b_CM_checkOf 37 = .ok (.ishl, 1) := by decide +kernel
theorem d_CM_checkOf_38 : decode b_CM_checkOf 38 = .ok (.ldc 167, 2) := by decide +kernel
theorem d_CM_checkOf_40 : decode b_CM_checkOf 40 = .ok (.ixor, 1) := by decide +kernel
theorem d_CM_checkOf_41 : decode b_CM_checkOf 41 = .ok (.goto 6, 3) := by decide +kernel
theorem d_CM_checkOf_44 : decode b_CM_checkOf 44 = .ok (.iload_n 3, 1) := by decide +kernel
theorem d_CM_checkOf_45 : decode b_CM_checkOf 45 = .ok (.iconst 1, 1) := by decide +kernel
theorem d_CM_checkOf_46 : decode b_CM_checkOf 46 = .ok (.ishl, 1) := by decide +kernel
theorem d_CM_checkOf_47 : decode b_CM_checkOf 47 = .ok (.istore_n 3, 1) := by decide +kernel
theorem d_CM_checkOf_48 : decode b_CM_checkOf 48 = .ok (.iinc 5 1, 3) := by decide +kernel
theorem d_CM_checkOf_51 : decode b_CM_checkOf 51 = .ok (.goto (-27), 3) := by decide +kernel
theorem d_CM_checkOf_54 : decode b_CM_checkOf 54 = .ok (.iinc 4 1, 3) := by decide +kernel
theorem d_CM_checkOf_57 : decode b_CM_checkOf 57 = .ok (.goto (-52), 3) := by decide +kernel
theorem d_CM_checkOf_60 : decode b_CM_checkOf 60 = .ok (.iload_n 3, 1) := by decide +kernel
theorem d_CM_checkOf_61 : decode b_CM_checkOf 61 = .ok (.ireturn, 1) := by decide +kernel
theorem d_CM_blocksIn_0 : decode b_CM_blocksIn 0 = .ok (.iload_n 0, 1) := by decide +kernel
theorem d_CM_blocksIn_1 : decode b_CM_blocksIn 1 = .ok (.bipush 8, 2) := by decide +kernel
theorem d_CM_blocksIn_3 : decode b_CM_blocksIn 3 = .ok (.iadd, 1) := by decide +kernel
theorem d_CM_blocksIn_4 : decode b_CM_blocksIn 4 = .ok (.iconst 1, 1) := by decide +kernel
theorem d_CM_blocksIn_5 : decode b_CM_blocksIn 5 = .ok (.isub, 1) := by decide +kernel
theorem d_CM_blocksIn_6 : decode b_CM_blocksIn 6 = .ok (.bipush 8, 2) := by decide +kernel
theorem d_CM_blocksIn_8 : decode b_CM_blocksIn 8 = .ok (.idiv, 1) := by decide +kernel
theorem d_CM_blocksIn_9 : decode b_CM_blocksIn 9 = .ok (.ireturn, 1) := by decide +kernel
theorem d_CM_blockLength_0 : decode b_CM_blockLength 0 = .ok (.iload_n 0, 1) := by decide +kernel
theorem d_CM_blockLength_1 : decode b_CM_blockLength 1 = .ok (.iload_n 1, 1) := by decide +kernel
theorem d_CM_blockLength_2 : decode b_CM_blockLength 2 = .ok (.bipush 8, 2) := by decide +kernel
theorem d_CM_blockLength_4 : decode b_CM_blockLength 4 = .ok (.imul, 1) := by decide +kernel
theorem d_CM_blockLength_5 : decode b_CM_blockLength 5 = .ok (.isub, 1) := by decide +kernel
theorem d_CM_blockLength_6 : decode b_CM_blockLength 6 = .ok (.istore_n 2, 1) := by decide +kernel
theorem d_CM_blockLength_7 : decode b_CM_blockLength 7 = .ok (.iload_n 2, 1) := by decide +kernel
theorem d_CM_blockLength_8 : decode b_CM_blockLength 8 = .ok (.bipush 8, 2) := by decide +kernel
theorem d_CM_blockLength_10 : decode b_CM_blockLength 10 = .ok (.if_icmp .ge 7, 3) := by decide +kernel
theorem d_CM_blockLength_13 : decode b_CM_blockLength 13 = .ok (.iload_n 2, 1) := by decide +kernel
theorem d_CM_blockLength_14 : decode b_CM_blockLength 14 = .ok (.goto 5, 3) := by decide +kernel
theorem d_CM_blockLength_17 : decode b_CM_blockLength 17 = .ok (.bipush 8, 2) := by decide +kernel
theorem d_CM_blockLength_19 : decode b_CM_blockLength 19 = .ok (.ireturn, 1) := by decide +kernel
theorem d_Ed_init_0 : decode b_Ed_init 0 = .ok (.aload_n 0, 1) := by decide +kernel
theorem d_Ed_init_1 : decode b_Ed_init 1 = .ok (.invokespecial 3, 3) := by decide +kernel
theorem d_Ed_init_4 : decode b_Ed_init 4 = .ok (.aload_n 0, 1) := by decide +kernel
theorem d_Ed_init_5 : decode b_Ed_init 5 = .ok (.iconst 0, 1) := by decide +kernel
theorem d_Ed_init_6 : decode b_Ed_init 6 = .ok (.putfield 9, 3) := by decide +kernel
theorem d_Ed_init_9 : decode b_Ed_init 9 = .ok (.aload_n 0, 1) := by decide +kernel
theorem d_Ed_init_10 : decode b_Ed_init 10 = .ok (.iconst 0, 1) := by decide +kernel
theorem d_Ed_init_11 : decode b_Ed_init 11 = .ok (.putfield 15, 3) := by decide +kernel
theorem d_Ed_init_14 : decode b_Ed_init 14 = .ok (.aload_n 0, 1) := by decide +kernel
theorem d_Ed_init_15 : decode b_Ed_init 15 = .ok (.bipush 12, 2) := by decide +kernel
theorem d_Ed_init_17 : decode b_Ed_init 17 = .ok (.newarray .int, 2) := by decide +kernel
theorem d_Ed_init_19 : decode b_Ed_init 19 = .ok (.putfield 18, 3) := by decide +kernel
theorem d_Ed_init_22 : decode b_Ed_init 22 = .ok (.aload_n 0, 1) := by decide +kernel
theorem d_Ed_init_23 : decode b_Ed_init 23 = .ok (.bipush 12, 2) := by decide +kernel
theorem d_Ed_init_25 : decode b_Ed_init 25 = .ok (.newarray .int, 2) := by decide +kernel
theorem d_Ed_init_27 : decode b_Ed_init 27 = .ok (.putfield 22, 3) := by decide +kernel
theorem d_Ed_init_30 : decode b_Ed_init 30 = .ok (.aload_n 0, 1) := by decide +kernel
theorem d_Ed_init_31 : decode b_Ed_init 31 = .ok (.sipush 576, 3) := by decide +kernel
theorem d_Ed_init_34 : decode b_Ed_init 34 = .ok (.newarray .int, 2) := by decide +kernel
theorem d_Ed_init_36 : decode b_Ed_init 36 = .ok (.putfield 25, 3) := by decide +kernel
theorem d_Ed_init_39 : decode b_Ed_init 39 = .ok (.aload_n 0, 1) := by decide +kernel
theorem d_Ed_init_40 : decode b_Ed_init 40 = .ok (.bipush 12, 2) := by decide +kernel
theorem d_Ed_init_42 : decode b_Ed_init 42 = .ok (.newarray .int, 2) := by decide +kernel
theorem d_Ed_init_44 : decode b_Ed_init 44 = .ok (.putfield 28, 3) := by decide +kernel
theorem d_Ed_init_47 : decode b_Ed_init 47 = .ok (.aload_n 0, 1) := by decide +kernel
theorem d_Ed_init_48 : decode b_Ed_init 48 = .ok (.iconst 0, 1) := by decide +kernel
theorem d_Ed_init_49 : decode b_Ed_init 49 = .ok (.putfield 31, 3) := by decide +kernel
theorem d_Ed_init_52 : decode b_Ed_init 52 = .ok (.aload_n 0, 1) := by decide +kernel
theorem d_Ed_init_53 : decode b_Ed_init 53 = .ok (.bipush 12, 2) := by decide +kernel
theorem d_Ed_init_55 : decode b_Ed_init 55 = .ok (.newarray .int, 2) := by decide +kernel
theorem d_Ed_init_57 : decode b_Ed_init 57 = .ok (.putfield 34, 3) := by decide +kernel
theorem d_Ed_init_60 : decode b_Ed_init 60 = .ok (.aload_n 0, 1) := by decide +kernel
theorem d_Ed_init_61 : decode b_Ed_init 61 = .ok (.bipush 48, 2) := by decide +kernel
theorem d_Ed_init_63 : decode b_Ed_init 63 = .ok (.newarray .int, 2) := by decide +kernel
theorem d_Ed_init_65 : decode b_Ed_init 65 = .ok (.putfield 37, 3) := by decide +kernel
theorem d_Ed_init_68 : decode b_Ed_init 68 = .ok (.aload_n 0, 1) := by decide +kernel
theorem d_Ed_init_69 : decode b_Ed_init 69 = .ok (.iconst 0, 1) := by decide +kernel
theorem d_Ed_init_70 : decode b_Ed_init 70 = .ok (.putfield 40, 3) := by decide +kernel
theorem d_Ed_init_73 : decode b_Ed_init 73 = .ok (.return_, 1) := by decide +kernel
theorem d_Ed_byteAt_0 : decode b_Ed_byteAt 0 = .ok (.aload_n 0, 1) := by decide +kernel
theorem d_Ed_byteAt_1 : decode b_Ed_byteAt 1 = .ok (.getfield 25, 3) := by decide +kernel
theorem d_Ed_byteAt_4 : decode b_Ed_byteAt 4 = .ok (.iload_n 1, 1) := by decide +kernel
theorem d_Ed_byteAt_5 : decode b_Ed_byteAt 5 = .ok (.bipush 48, 2) := by decide +kernel
theorem d_Ed_byteAt_7 : decode b_Ed_byteAt 7 = .ok (.imul, 1) := by decide +kernel
theorem d_Ed_byteAt_8 : decode b_Ed_byteAt 8 = .ok (.iload_n 2, 1) := by decide +kernel
theorem d_Ed_byteAt_9 : decode b_Ed_byteAt 9 = .ok (.iadd, 1) := by decide +kernel
theorem d_Ed_byteAt_10 : decode b_Ed_byteAt 10 = .ok (.iaload, 1) := by decide +kernel
theorem d_Ed_byteAt_11 : decode b_Ed_byteAt 11 = .ok (.ireturn, 1) := by decide +kernel
theorem d_Ed_renew_0 : decode b_Ed_renew 0 = .ok (.aload_n 0, 1) := by decide +kernel
theorem d_Ed_renew_1 : decode b_Ed_renew 1 = .ok (.dup, 1) := by decide +kernel
theorem d_Ed_renew_2 : decode b_Ed_renew 2 = .ok (.getfield 9, 3) := by decide +kernel
theorem d_Ed_renew_5 : decode b_Ed_renew 5 = .ok (.iconst 1, 1) := by decide +kernel
theorem d_Ed_renew_6 : decode b_Ed_renew 6 = .ok (.iadd, 1) := by decide +kernel
theorem d_Ed_renew_7 : decode b_Ed_renew 7 = .ok (.putfield 9, 3) := by decide +kernel
theorem d_Ed_renew_10 : decode b_Ed_renew 10 = .ok (.aload_n 0, 1) := by decide +kernel
theorem d_Ed_renew_11 : decode b_Ed_renew 11 = .ok (.aload_n 1, 1) := by decide +kernel
theorem d_Ed_renew_12 : decode b_Ed_renew 12 = .ok (.invokevirtual 43, 3) := by decide +kernel
theorem d_Ed_renew_15 : decode b_Ed_renew 15 = .ok (.aload_n 0, 1) := by decide +kernel
theorem d_Ed_renew_16 : decode b_Ed_renew 16 = .ok (.aload_n 1, 1) := by decide +kernel
theorem d_Ed_renew_17 : decode b_Ed_renew 17 = .ok (.invokevirtual 47, 3) := by decide +kernel
theorem d_Ed_renew_20 : decode b_Ed_renew 20 = .ok (.istore_n 2, 1) := by decide +kernel
theorem d_Ed_renew_21 : decode b_Ed_renew 21 = .ok (.iconst 0, 1) := by decide +kernel
theorem d_Ed_renew_22 : decode b_Ed_renew 22 = .ok (.istore_n 3, 1) := by decide +kernel
theorem d_Ed_renew_23 : decode b_Ed_renew 23 = .ok (.iload_n 3, 1) := by decide +kernel
theorem d_Ed_renew_24 : decode b_Ed_renew 24 = .ok (.iload_n 2, 1) := by decide +kernel
theorem d_Ed_renew_25 : decode b_Ed_renew 25 = .ok (.if_icmp .ge 20, 3) := by decide +kernel
theorem d_Ed_renew_28 : decode b_Ed_renew 28 = .ok (.aload_n 0, 1) := by decide +kernel
theorem d_Ed_renew_29 : decode b_Ed_renew 29 = .ok (.aload_n 1, 1) := by decide +kernel
theorem d_Ed_renew_30 : decode b_Ed_renew 30 = .ok (.iload_n 3, 1) := by decide +kernel
theorem d_Ed_renew_31 : decode b_Ed_renew 31 = .ok (.invokevirtual 51, 3) := by decide +kernel
theorem d_Ed_renew_34 : decode b_Ed_renew 34 = .ok (.aload_n 0, 1) := by decide +kernel
theorem d_Ed_renew_35 : decode b_Ed_renew 35 = .ok (.iload_n 3, 1) := by decide +kernel
theorem d_Ed_renew_36 : decode b_Ed_renew 36 = .ok (.invokevirtual 55, 3) := by decide +kernel
theorem d_Ed_renew_39 : decode b_Ed_renew 39 = .ok (.iinc 3 1, 3) := by decide +kernel
theorem d_Ed_renew_42 : decode b_Ed_renew 42 = .ok (.goto (-19), 3) := by decide +kernel
theorem d_Ed_renew_45 : decode b_Ed_renew 45 = .ok (.aload_n 0, 1) := by decide +kernel
theorem d_Ed_renew_46 : decode b_Ed_renew 46 = .ok (.iload_n 2, 1) := by decide +kernel
theorem d_Ed_renew_47 : decode b_Ed_renew 47 = .ok (.putfield 15, 3) := by decide +kernel
theorem d_Ed_renew_50 : decode b_Ed_renew 50 = .ok (.return_, 1) := by decide +kernel
theorem d_Ed_arrange_0 : decode b_Ed_arrange 0 = .ok (.aload_n 0, 1) := by decide +kernel
theorem d_Ed_arrange_1 : decode b_Ed_arrange 1 = .ok (.iconst 0, 1) := by decide +kernel
theorem d_Ed_arrange_2 : decode b_Ed_arrange 2 = .ok (.putfield 31, 3) := by decide +kernel
theorem d_Ed_arrange_5 : decode b_Ed_arrange 5 = .ok (.iconst 0, 1) := by decide +kernel
theorem d_Ed_arrange_6 : decode b_Ed_arrange 6 = .ok (.istore_n 2, 1) := by decide +kernel
theorem d_Ed_arrange_7 : decode b_Ed_arrange 7 = .ok (.iconst 0, 1) := by decide +kernel
theorem d_Ed_arrange_8 : decode b_Ed_arrange 8 = .ok (.istore_n 3, 1) := by decide +kernel
theorem d_Ed_arrange_9 : decode b_Ed_arrange 9 = .ok (.iload_n 3, 1) := by decide +kernel
theorem d_Ed_arrange_10 : decode b_Ed_arrange 10 = .ok (.bipush 12, 2) := by decide +kernel
theorem d_Ed_arrange_12 : decode b_Ed_arrange 12 = .ok (.if_icmp .ge 37, 3) := by decide +kernel
theorem d_Ed_arrange_15 : decode b_Ed_arrange 15 = .ok (.iload_n 2, 1) := by decide +kernel
theorem d_Ed_arrange_16 : decode b_Ed_arrange 16 = .ok (.iconst (-1), 1) := by decide +kernel
theorem d_Ed_arrange_17 : decode b_Ed_arrange 17 = .ok (.if_icmp .eq 32, 3) := by decide +kernel
theorem d_Ed_arrange_20 : decode b_Ed_arrange 20 = .ok (.aload_n 0, 1) := by decide +kernel
theorem d_Ed_arrange_21 : decode b_Ed_arrange 21 = .ok (.getfield 28, 3) := by decide +kernel
theorem d_Ed_arrange_24 : decode b_Ed_arrange 24 = .ok (.iload_n 3, 1) := by decide +kernel
theorem d_Ed_arrange_25 : decode b_Ed_arrange 25 = .ok (.iload_n 2, 1) := by decide +kernel
theorem d_Ed_arrange_26 : decode b_Ed_arrange 26 = .ok (.iastore, 1) := by decide +kernel
theorem d_Ed_arrange_27 : decode b_Ed_arrange 27 = .ok (.aload_n 0, 1) := by decide +kernel
theorem d_Ed_arrange_28 : decode b_Ed_arrange 28 = .ok (.dup, 1) := by decide +kernel
theorem d_Ed_arrange_29 : decode b_Ed_arrange 29 = .ok (.getfield 31, 3) := by decide +kernel
theorem d_Ed_arrange_32 : decode b_Ed_arrange 32 = .ok (.iconst 1, 1) := by decide +kernel
theorem d_Ed_arrange_33 : decode b_Ed_arrange 33 = .ok (.iadd, 1) := by decide +kernel
theorem d_Ed_arrange_34 : decode b_Ed_arrange 34 = .ok (.putfield 31, 3) := by decide +kernel
theorem d_Ed_arrange_37 : decode b_Ed_arrange 37 = .ok (.aload_n 1, 1) := by decide +kernel
theorem d_Ed_arrange_38 : decode b_Ed_arrange 38 = .ok (.iload_n 2, 1) := by decide +kernel
theorem d_Ed_arrange_39 : decode b_Ed_arrange 39 = .ok (.invokevirtual 59, 3) := by decide +kernel
theorem d_Ed_arrange_42 : decode b_Ed_arrange 42 = .ok (.istore_n 2, 1) := by decide +kernel
theorem d_Ed_arrange_43 : decode b_Ed_arrange 43 = .ok (.iinc 3 1, 3) := by decide +kernel
theorem d_Ed_arrange_46 : decode b_Ed_arrange 46 = .ok (.goto (-37), 3) := by decide +kernel
theorem d_Ed_arrange_49 : decode b_Ed_arrange 49 = .ok (.return_, 1) := by decide +kernel
theorem d_Ed_assignModules_0 : decode b_Ed_assignModules 0 = .ok (.iconst 0, 1) := by decide +kernel
theorem d_Ed_assignModules_1 : decode b_Ed_assignModules 1 = .ok (.istore_n 2, 1) := by decide +kernel
theorem d_Ed_assignModules_2 : decode b_Ed_assignModules 2 = .ok (.iconst 0, 1) := by decide +kernel
theorem d_Ed_assignModules_3 : decode b_Ed_assignModules 3 = .ok (.istore_n 3, 1) := by decide +kernel
theorem d_Ed_assignModules_4 : decode b_Ed_assignModules 4 = .ok (.iconst 0, 1) := by decide +kernel
theorem d_Ed_assignModules_5 : decode b_Ed_assignModules 5 = .ok (.istore 4, 2) := by decide +kernel
theorem d_Ed_assignModules_7 : decode b_Ed_assignModules 7 = .ok (.iload 4, 2) := by decide +kernel
theorem d_Ed_assignModules_9 : decode b_Ed_assignModules 9 = .ok (.aload_n 0, 1) := by decide +kernel
theorem d_Ed_assignModules_10 : decode b_Ed_assignModules 10 = .ok (.getfield 31, 3) := by decide +kernel
theorem d_Ed_assignModules_13 : decode b_Ed_assignModules 13 = .ok (.if_icmp .ge 61, 3) := by decide +kernel
theorem d_Ed_assignModules_16 : decode b_Ed_assignModules 16 = .ok (.iconst 3, 1) := by decide +kernel
theorem d_Ed_assignModules_17 : decode b_Ed_assignModules 17 = .ok (.aload_n 1, 1) := by decide +kernel
theorem d_Ed_assignModules_18 : decode b_Ed_assignModules 18 = .ok (.aload_n 0, 1) := by decide +kernel
theorem d_Ed_assignModules_19 : decode b_Ed_assignModules 19 = .ok (.getfield 28, 3) := by decide +kernel
theorem d_Ed_assignModules_22 : decode b_Ed_assignModules 22 = .ok (.iload 4, 2) := by decide +kernel
theorem d_Ed_assignModules_24 : decode b_Ed_assignModules 24 = .ok (.iaload, 1) := by decide +kernel
theorem d_Ed_assignModules_25 : decode b_Ed_assignModules 25 = .ok (.invokevirtual 65, 3) := by decide +kernel
theorem d_Ed_assignModules_28 : decode b_Ed_assignModules 28 = .ok (.iadd, 1) := by decide +kernel
theorem d_Ed_assignModules_29 : decode b_Ed_assignModules 29 = .ok (.istore 5, 2) := by decide +kernel
theorem d_Ed_assignModules_31 : decode b_Ed_assignModules 31 = .ok (.iload 4, 2) := by decide +kernel
theorem d_Ed_assignModules_33 : decode b_Ed_assignModules 33 = .ok (.ifCond .le 17, 3) := by decide +kernel
theorem d_Ed_assignModules_36 : decode b_Ed_assignModules 36 = .ok (.iload_n 3, 1) := by decide +kernel
theorem d_Ed_assignModules_37 : decode b_Ed_assignModules 37 = .ok (.iload 5, 2) := by decide +kernel
theorem d_Ed_assignModules_39 : decode b_Ed_assignModules 39 = .ok (.iadd, 1) := by decide +kernel
theorem d_Ed_assignModules_40 : decode b_Ed_assignModules 40 = .ok (.bipush 24, 2) := by decide +kernel
theorem d_Ed_assignModules_42 : decode b_Ed_assignModules 42 = .ok (.if_icmp .le 8, 3) := by decide +kernel
theorem d_Ed_assignModules_45 : decode b_Ed_assignModules 45 = .ok (.iinc 2 1, 3) := by decide +kernel
theorem d_Ed_assignModules_48 : decode b_Ed_assignModules 48 = .ok (.iconst 0, 1) := by decide +kernel
theorem d_Ed_assignModules_49 : decode b_Ed_assignModules 49 = .ok (.istore_n 3, 1) := by decide +kernel
theorem d_Ed_assignModules_50 : decode b_Ed_assignModules 50 = .ok (.aload_n 0, 1) := by decide +kernel
theorem d_Ed_assignModules_51 : decode b_Ed_assignModules 51 = .ok (.getfield 34, 3) := by decide +kernel
theorem d_Ed_assignModules_54 : decode b_Ed_assignModules 54 = .ok (.aload_n 0, 1) := by decide +kernel
theorem d_Ed_assignModules_55 : decode b_Ed_assignModules 55 = .ok (.getfield 28, 3) := by decide +kernel
theorem d_Ed_assignModules_58 : decode b_Ed_assignModules 58 = .ok (.iload 4, 2) := by decide +kernel
theorem d_Ed_assignModules_60 : decode b_Ed_assignModules 60 = .ok (.iaload, 1) := by decide +kernel
theorem d_Ed_assignModules_61 : decode b_Ed_assignModules 61 = .ok (.iload_n 2, 1) := by decide +kernel
theorem d_Ed_assignModules_62 : decode b_Ed_assignModules 62 = .ok (.iastore, 1) := by decide +kernel
theorem d_Ed_assignModules_63 : decode b_Ed_assignModules 63 = .ok (.iload_n 3, 1) := by decide +kernel
theorem d_Ed_assignModules_64 : decode b_Ed_assignModules 64 = .ok (.iload 5, 2) := by decide +kernel
theorem d_Ed_assignModules_66 : decode b_Ed_assignModules 66 = .ok (.iadd, 1) := by decide +kernel
theorem d_Ed_assignModules_67 : decode b_Ed_assignModules 67 = .ok (.istore_n 3, 1) := by decide +kernel
theorem d_Ed_assignModules_68 : decode b_Ed_assignModules 68 = .ok (.iinc 4 1, 3) := by decide +kernel
theorem d_Ed_assignModules_71 : decode b_Ed_assignModules 71 = .ok (.goto (-64), 3) := by decide +kernel
theorem d_Ed_assignModules_74 : decode b_Ed_assignModules 74 = .ok (.iload_n 2, 1) := by decide +kernel
theorem d_Ed_assignModules_75 : decode b_Ed_assignModules 75 = .ok (.iconst 1, 1) := by decide +kernel
theorem d_Ed_assignModules_76 : decode b_Ed_assignModules 76 = .ok (.iadd, 1) := by decide +kernel
theorem d_Ed_assignModules_77 : decode b_Ed_assignModules 77 = .ok (.ireturn, 1) := by decide +kernel
theorem d_Ed_draftModule_0 : decode b_Ed_draftModule 0 = .ok (.aload_n 0, 1) := by decide +kernel
theorem d_Ed_draftModule_1 : decode b_Ed_draftModule 1 = .ok (.iconst 0, 1) := by decide +kernel
theorem d_Ed_draftModule_2 : decode b_Ed_draftModule 2 = .ok (.putfield 40, 3) := by decide +kernel
theorem d_Ed_draftModule_5 : decode b_Ed_draftModule 5 = .ok (.iconst 0, 1) := by decide +kernel
theorem d_Ed_draftModule_6 : decode b_Ed_draftModule 6 = .ok (.istore_n 3, 1) := by decide +kernel
theorem d_Ed_draftModule_7 : decode b_Ed_draftModule 7 = .ok (.iload_n 3, 1) := by decide +kernel
theorem d_Ed_draftModule_8 : decode b_Ed_draftModule 8 = .ok (.aload_n 0, 1) := by decide +kernel
theorem d_Ed_draftModule_9 : decode b_Ed_draftModule 9 = .ok (.getfield 31, 3) := by decide +kernel
theorem d_Ed_draftModule_12 : decode b_Ed_draftModule 12 = .ok (.if_icmp .ge 35, 3) := by decide +kernel
theorem d_Ed_draftModule_15 : decode b_Ed_draftModule 15 = .ok (.aload_n 0, 1) := by decide +kernel
theorem d_Ed_draftModule_16 : decode b_Ed_draftModule 16 = .ok (.getfield 34, 3) := by decide +kernel
theorem d_Ed_draftModule_19 : decode b_Ed_draftModule 19 = .ok (.aload_n 0, 1) := by decide +kernel
theorem d_Ed_draftModule_20 : decode b_Ed_draftModule 20 = .ok (.getfield 28, 3) := by decide +kernel
theorem d_Ed_draftModule_23 : decode b_Ed_draftModule 23 = .ok (.iload_n 3, 1) := by decide +kernel
theorem d_Ed_draftModule_24 : decode b_Ed_draftModule 24 = .ok (.iaload, 1) := by decide +kernel
theorem d_Ed_draftModule_25 : decode b_Ed_draftModule 25 = .ok (.iaload, 1) := by decide +kernel
theorem d_Ed_draftModule_26 : decode b_Ed_draftModule 26 = .ok (.iload_n 2, 1) := by decide +kernel
theorem d_Ed_draftModule_27 : decode b_Ed_draftModule 27 = .ok (.if_icmp .ne 14, 3) := by decide +kernel
theorem d_Ed_draftModule_30 : decode b_Ed_draftModule 30 = .ok (.aload_n 0, 1) := by decide +kernel
theorem d_Ed_draftModule_31 : decode b_Ed_draftModule 31 = .ok (.aload_n 1, 1) := by decide +kernel
theorem d_Ed_draftModule_32 : decode b_Ed_draftModule 32 = .ok (.aload_n 0, 1) := by decide +kernel
theorem d_Ed_draftModule_33 : decode b_Ed_draftModule 33 = .ok (.getfield 28, 3) := by decide +kernel
theorem d_Ed_draftModule_36 : decode b_Ed_draftModule 36 = .ok (.iload_n 3, 1) := by decide +kernel
theorem d_Ed_draftModule_37 : decode b_Ed_draftModule 37 = .ok (.iaload, 1) := by decide +kernel
theorem d_Ed_draftModule_38 : decode b_Ed_draftModule 38 = .ok (.invokevirtual 68, 3) := by decide +kernel
theorem d_Ed_draftModule_41 : decode b_Ed_draftModule 41 = .ok (.iinc 3 1, 3) := by decide +kernel
theorem d_Ed_draftModule_44 : decode b_Ed_draftModule 44 = .ok (.goto (-37), 3) := by decide +kernel
theorem d_Ed_draftModule_47 : decode b_Ed_draftModule 47 = .ok (.return_, 1) := by decide +kernel
theorem d_Ed_draftMessage_0 : decode b_Ed_draftMessage 0 = .ok (.aload_n 0, 1) := by decide +kernel
theorem d_Ed_draftMessage_1 : decode b_Ed_draftMessage 1 = .ok (.aload_n 1, 1) := by decide +kernel
theorem d_Ed_draftMessage_2 : decode b_Ed_draftMessage 2 = .ok (.iload_n 2, 1) := by decide +kernel
theorem d_Ed_draftMessage_3 : decode b_Ed_draftMessage 3 = .ok (.invokevirtual 71, 3) := by decide +kernel
theorem d_Ed_draftMessage_6 : decode b_Ed_draftMessage 6 = .ok (.invokevirtual 74, 3) := by decide +kernel
theorem d_Ed_draftMessage_9 : decode b_Ed_draftMessage 9 = .ok (.aload_n 0, 1) := by decide +kernel
theorem d_Ed_draftMessage_10 : decode b_Ed_draftMessage 10 = .ok (.iload_n 2, 1) := by decide +kernel
theorem d_Ed_draftMessage_11 : decode b_Ed_draftMessage 11 = .ok (.invokevirtual 74, 3) := by decide +kernel
theorem d_Ed_draftMessage_14 : decode b_Ed_draftMessage 14 = .ok (.aload_n 0, 1) := by decide +kernel
theorem d_Ed_draftMessage_15 : decode b_Ed_draftMessage 15 = .ok (.aload_n 1, 1) := by decide +kernel
theorem d_Ed_draftMessage_16 : decode b_Ed_draftMessage 16 = .ok (.iload_n 2, 1) := by decide +kernel
theorem d_Ed_draftMessage_17 : decode b_Ed_draftMessage 17 = .ok (.invokevirtual 65, 3) := by decide +kernel
theorem d_Ed_draftMessage_20 : decode b_Ed_draftMessage 20 = .ok (.invokevirtual 74, 3) := by decide +kernel
theorem d_Ed_draftMessage_23 : decode b_Ed_draftMessage 23 = .ok (.aload_n 1, 1) := by decide +kernel
theorem d_Ed_draftMessage_24 : decode b_Ed_draftMessage 24 = .ok (.iload_n 2, 1) := by decide +kernel
theorem d_Ed_draftMessage_25 : decode b_Ed_draftMessage 25 = .ok (.invokevirtual 77, 3) := by decide +kernel
theorem d_Ed_draftMessage_28 : decode b_Ed_draftMessage 28 = .ok (.ifCond .eq 33, 3) := by decide +kernel
theorem d_Ed_draftMessage_31 : decode b_Ed_draftMessage 31 = .ok (.iconst 0, 1) := by decide +kernel
theorem d_Ed_draftMessage_32 : decode b_Ed_draftMessage 32 = .ok (.istore_n 3, 1) := by decide +kernel
theorem d_Ed_draftMessage_33 : decode b_Ed_draftMessage 33 = .ok (.iload_n 3, 1) := by decide +kernel
theorem d_Ed_draftMessage_34 : decode b_Ed_draftMessage 34 = .ok (.aload_n 1, 1) := by decide +kernel
theorem d_Ed_draftMessage_35 : decode b_Ed_draftMessage 35 = .ok (.iload_n 2, 1) := by decide +kernel
theorem d_Ed_draftMessage_36 : decode b_Ed_draftMessage 36 = .ok (.invokevirtual 81, 3) := by decide +kernel
theorem d_Ed_draftMessage_39 : decode b_Ed_draftMessage 39 = .ok (.if_icmp .ge 19, 3) := by decide +kernel
theorem d_Ed_draftMessage_42 : decode b_Ed_draftMessage 42 = .ok (.aload_n 0, 1) := by decide +kernel
theorem d_Ed_draftMessage_43 : decode b_Ed_draftMessage 43 = .ok (.aload_n 1, 1) := by decide +kernel
theorem d_Ed_draftMessage_44 : decode b_Ed_draftMessage 44 = .ok (.iload_n 2, 1) := by decide +kernel
theorem d_Ed_draftMessage_45 : decode b_Ed_draftMessage 45 = .ok (.iload_n 3, 1) := by decide +kernel
theorem d_Ed_draftMessage_46 : decode b_Ed_draftMessage 46 = .ok (.invokevirtual 84, 3) := by decide +kernel
theorem d_Ed_draftMessage_49 : decode b_Ed_draftMessage 49 = .ok (.invokevirtual 74, 3) := by decide +kernel
theorem d_Ed_draftMessage_52 : decode b_Ed_draftMessage 52 = .ok (.iinc 3 1, 3) := by decide +kernel
theorem d_Ed_draftMessage_55 : decode b_Ed_draftMessage 55 = .ok (.goto (-22), 3) := by decide +kernel
theorem d_Ed_draftMessage_58 : decode b_Ed_draftMessage 58 = .ok (.goto 9, 3) := by decide +kernel
theorem d_Ed_draftMessage_61 : decode b_Ed_draftMessage 61 = .ok (.aload_n 0, 1) := by decide +kernel
theorem d_Ed_draftMessage_62 : decode b_Ed_draftMessage 62 = .ok (.aload_n 1, 1) := by decide +kernel
theorem d_Ed_draftMessage_63 : decode b_Ed_draftMessage 63 = .ok (.iload_n 2, 1) := by decide +kernel
theorem d_Ed_draftMessage_64 : decode b_Ed_draftMessage 64 = .ok (.invokevirtual 88, 3) := by decide +kernel
theorem d_Ed_draftMessage_67 : decode b_Ed_draftMessage 67 = .ok (.return_, 1) := by decide +kernel
theorem d_Ed_draftEntries_0 : decode b_Ed_draftEntries 0 = .ok (.aload_n 1, 1) := by decide +kernel
theorem d_Ed_draftEntries_1 : decode b_Ed_draftEntries 1 = .ok (.iload_n 2, 1) := by decide +kernel
theorem d_Ed_draftEntries_2 : decode b_Ed_draftEntries 2 = .ok (.iconst 0, 1) := by decide +kernel
theorem d_Ed_draftEntries_3 : decode b_Ed_draftEntries 3 = .ok (.invokevirtual 91, 3) := by decide +kernel
theorem d_Ed_draftEntries_6 : decode b_Ed_draftEntries 6 = .ok (.istore_n 3, 1) := by decide +kernel
theorem d_Ed_draftEntries_7 : decode b_Ed_draftEntries 7 = .ok (.iconst 0, 1) := by decide +kernel
theorem d_Ed_draftEntries_8 : decode b_Ed_draftEntries 8 = .ok (.istore 4, 2) := by decide +kernel
theorem d_Ed_draftEntries_10 : decode b_Ed_draftEntries 10 = .ok (.iload 4, 2) := by decide +kernel
theorem d_Ed_draftEntries_12 : decode b_Ed_draftEntries 12 = .ok (.bipush 12, 2) := by decide +kernel
theorem d_Ed_draftEntries_14 : decode b_Ed_draftEntries 14 = .ok (.if_icmp .ge 58, 3) := by decide +kernel
theorem d_Ed_draftEntries_17 : decode b_Ed_draftEntries 17 = .ok (.iload_n 3, 1) := by decide +kernel
theorem d_Ed_draftEntries_18 : decode b_Ed_draftEntries 18 = .ok (.iconst (-1), 1) := by decide +kernel
theorem d_Ed_draftEntries_19 : decode b_Ed_draftEntries 19 = .ok (.if_icmp .eq 53, 3) := by decide +kernel
theorem d_Ed_draftEntries_22 : decode b_Ed_draftEntries 22 = .ok (.aload_n 0, 1) := by decide +kernel
theorem d_Ed_draftEntries_23 : decode b_Ed_draftEntries 23 = .ok (.aload_n 1, 1) := by decide +kernel
theorem d_Ed_draftEntries_24 : decode b_Ed_draftEntries 24 = .ok (.iload_n 3, 1) := by decide +kernel
theorem d_Ed_draftEntries_25 : decode b_Ed_draftEntries 25 = .ok (.invokevirtual 94, 3) := by decide +kernel
theorem d_Ed_draftEntries_28 : decode b_Ed_draftEntries 28 = .ok (.invokevirtual 74, 3) := by decide +kernel
theorem d_Ed_draftEntries_31 : decode b_Ed_draftEntries 31 = .ok (.aload_n 0, 1) := by decide +kernel
theorem d_Ed_draftEntries_32 : decode b_Ed_draftEntries 32 = .ok (.aload_n 1, 1) := by decide +kernel
theorem d_Ed_draftEntries_33 : decode b_Ed_draftEntries 33 = .ok (.iload_n 3, 1) := by decide +kernel
theorem d_Ed_draftEntries_34 : decode b_Ed_draftEntries 34 = .ok (.invokevirtual 71, 3) := by decide +kernel
theorem d_Ed_draftEntries_37 : decode b_Ed_draftEntries 37 = .ok (.invokevirtual 74, 3) := by decide +kernel
theorem d_Ed_draftEntries_40 : decode b_Ed_draftEntries 40 = .ok (.aload_n 0, 1) := by decide +kernel
theorem d_Ed_draftEntries_41 : decode b_Ed_draftEntries 41 = .ok (.aload_n 0, 1) := by decide +kernel
theorem d_Ed_draftEntries_42 : decode b_Ed_draftEntries 42 = .ok (.getfield 34, 3) := by decide +kernel
theorem d_Ed_draftEntries_45 : decode b_Ed_draftEntries 45 = .ok (.iload_n 3, 1) := by decide +kernel
theorem d_Ed_draftEntries_46 : decode b_Ed_draftEntries 46 = .ok (.iaload, 1) := by decide +kernel
theorem d_Ed_draftEntries_47 : decode b_Ed_draftEntries 47 = .ok (.invokevirtual 74, 3) := by decide +kernel
theorem d_Ed_draftEntries_50 : decode b_Ed_draftEntries 50 = .ok (.aload_n 0, 1) := by decide +kernel
theorem d_Ed_draftEntries_51 : decode b_Ed_draftEntries 51 = .ok (.iload_n 3, 1) := by decide +kernel
theorem d_Ed_draftEntries_52 : decode b_Ed_draftEntries 52 = .ok (.invokevirtual 74, 3) := by decide +kernel
theorem d_Ed_draftEntries_55 : decode b_Ed_draftEntries 55 = .ok (.aload_n 1, 1) := by decide +kernel
theorem d_Ed_draftEntries_56 : decode b_Ed_draftEntries 56 = .ok (.iload_n 2, 1) := by decide +kernel
theorem d_Ed_draftEntries_57 : decode b_Ed_draftEntries 57 = .ok (.aload_n 1, 1) := by decide +kernel
theorem d_Ed_draftEntries_58 : decode b_Ed_draftEntries 58 = .ok (.iload_n 3, 1) := by decide +kernel
theorem d_Ed_draftEntries_59 : decode b_Ed_draftEntries 59 = .ok (.invokevirtual 94, 3) := by decide +kernel
theorem d_Ed_draftEntries_62 : decode b_Ed_draftEntries 62 = .ok (.invokevirtual 91, 3) := by decide +kernel
theorem d_Ed_draftEntries_65 : decode b_Ed_draftEntries 65 = .ok (.istore_n 3, 1) := by decide +kernel
theorem d_Ed_draftEntries_66 : decode b_Ed_draftEntries 66 = .ok (.iinc 4 1, 3) := by decide +kernel
theorem d_Ed_draftEntries_69 : decode b_Ed_draftEntries 69 = .ok (.goto (-59), 3) := by decide +kernel
theorem d_Ed_draftEntries_72 : decode b_Ed_draftEntries 72 = .ok (.return_, 1) := by decide +kernel
theorem d_Ed_write_0 : decode b_Ed_write 0 = .ok (.aload_n 0, 1) := by decide +kernel
theorem d_Ed_write_1 : decode b_Ed_write 1 = .ok (.getfield 40, 3) := by decide +kernel
theorem d_Ed_write_4 : decode b_Ed_write 4 = .ok (.aload_n 0, 1) := by decide +kernel
theorem d_Ed_write_5 : decode b_Ed_write 5 = .ok (.getfield 37, 3) := by decide +kernel
theorem d_Ed_write_8 : decode b_Ed_write 8 = .ok (.arraylength, 1) := by decide +kernel
theorem d_Ed_write_9 : decode b_Ed_write 9 = .ok (.if_icmp .ge 23, 3) := by decide +kernel
theorem d_Ed_write_12 : decode b_Ed_write 12 = .ok (.aload_n 0, 1) := by decide +kernel
theorem d_Ed_write_13 : decode b_Ed_write 13 = .ok (.getfield 37, 3) := by decide +kernel
theorem d_Ed_write_16 : decode b_Ed_write 16 = .ok (.aload_n 0, 1) := by decide +kernel
theorem d_Ed_write_17 : decode b_Ed_write 17 = .ok (.getfield 40, 3) := by decide +kernel
theorem d_Ed_write_20 : decode b_Ed_write 20 = .ok (.iload_n 1, 1) := by decide +kernel
theorem d_Ed_write_21 : decode b_Ed_write 21 = .ok (.iastore, 1) := by decide +kernel
theorem d_Ed_write_22 : decode b_Ed_write 22 = .ok (.aload_n 0, 1) := by decide +kernel
theorem d_Ed_write_23 : decode b_Ed_write 23 = .ok (.dup, 1) := by decide +kernel
theorem d_Ed_write_24 : decode b_Ed_write 24 = .ok (.getfield 40, 3) := by decide +kernel
theorem d_Ed_write_27 : decode b_Ed_write 27 = .ok (.iconst 1, 1) := by decide +kernel
theorem d_Ed_write_28 : decode b_Ed_write 28 = .ok (.iadd, 1) := by decide +kernel
theorem d_Ed_write_29 : decode b_Ed_write 29 = .ok (.putfield 40, 3) := by decide +kernel
theorem d_Ed_write_32 : decode b_Ed_write 32 = .ok (.return_, 1) := by decide +kernel
theorem d_Ed_keepDraft_0 : decode b_Ed_keepDraft 0 = .ok (.iload_n 1, 1) := by decide +kernel
theorem d_Ed_keepDraft_1 : decode b_Ed_keepDraft 1 = .ok (.aload_n 0, 1) := by decide +kernel
theorem d_Ed_keepDraft_2 : decode b_Ed_keepDraft 2 = .ok (.getfield 15, 3) := by decide +kernel
theorem d_Ed_keepDraft_5 : decode b_Ed_keepDraft 5 = .ok (.if_icmp .ge 11, 3) := by decide +kernel
theorem d_Ed_keepDraft_8 : decode b_Ed_keepDraft 8 = .ok (.aload_n 0, 1) := by decide +kernel
theorem d_Ed_keepDraft_9 : decode b_Ed_keepDraft 9 = .ok (.iload_n 1, 1) := by decide +kernel
theorem d_Ed_keepDraft_10 : decode b_Ed_keepDraft 10 = .ok (.invokevirtual 97, 3) := by decide +kernel
theorem d_Ed_keepDraft_13 : decode b_Ed_keepDraft 13 = .ok (.ifCond .ne 13, 3) := by decide +kernel
theorem d_Ed_keepDraft_16 : decode b_Ed_keepDraft 16 = .ok (.aload_n 0, 1) := by decide +kernel
theorem d_Ed_keepDraft_17 : decode b_Ed_keepDraft 17 = .ok (.getfield 22, 3) := by decide +kernel
theorem d_Ed_keepDraft_20 : decode b_Ed_keepDraft 20 = .ok (.iload_n 1, 1) := by decide +kernel
theorem d_Ed_keepDraft_21 : decode b_Ed_keepDraft 21 = .ok (.aload_n 0, 1) := by decide +kernel
theorem d_Ed_keepDraft_22 : decode b_Ed_keepDraft 22 = .ok (.getfield 9, 3) := by decide +kernel
theorem d_Ed_keepDraft_25 : decode b_Ed_keepDraft 25 = .ok (.iastore, 1) := by decide +kernel
theorem d_Ed_keepDraft_26 : decode b_Ed_keepDraft 26 = .ok (.aload_n 0, 1) := by decide +kernel
theorem d_Ed_keepDraft_27 : decode b_Ed_keepDraft 27 = .ok (.getfield 18, 3) := by decide +kernel
theorem d_Ed_keepDraft_30 : decode b_Ed_keepDraft 30 = .ok (.iload_n 1, 1) := by decide +kernel
theorem d_Ed_keepDraft_31 : decode b_Ed_keepDraft 31 = .ok (.aload_n 0, 1) := by decide +kernel
theorem d_Ed_keepDraft_32 : decode b_Ed_keepDraft 32 = .ok (.getfield 40, 3) := by decide +kernel
theorem d_Ed_keepDraft_35 : decode b_Ed_keepDraft 35 = .ok (.iastore, 1) := by decide +kernel
theorem d_Ed_keepDraft_36 : decode b_Ed_keepDraft 36 = .ok (.aload_n 0, 1) := by decide +kernel
theorem d_Ed_keepDraft_37 : decode b_Ed_keepDraft 37 = .ok (.getfield 37, 3) := by decide +kernel
theorem d_Ed_keepDraft_40 : decode b_Ed_keepDraft 40 = .ok (.iconst 0, 1) := by decide +kernel
theorem d_Ed_keepDraft_41 : decode b_Ed_keepDraft 41 = .ok (.aload_n 0, 1) := by decide +kernel
theorem d_Ed_keepDraft_42 : decode b_Ed_keepDraft 42 = .ok (.getfield 25, 3) := by decide +kernel
theorem d_Ed_keepDraft_45 : decode b_Ed_keepDraft 45 = .ok (.iload_n 1, 1) := by decide +kernel
theorem d_Ed_keepDraft_46 : decode b_Ed_keepDraft 46 = .ok (.bipush 48, 2) := by decide +kernel
theorem d_Ed_keepDraft_48 : decode b_Ed_keepDraft 48 = .ok (.imul, 1) := by decide +kernel
theorem d_Ed_keepDraft_49 : decode b_Ed_keepDraft 49 = .ok (.aload_n 0, 1) := by decide +kernel
theorem d_Ed_keepDraft_50 : decode b_Ed_keepDraft 50 = .ok (.getfield 40, 3) := by decide +kernel
theorem d_Ed_keepDraft_53 : decode b_Ed_keepDraft 53 = .ok (.invokestatic 100, 3) := by decide +kernel
theorem d_Ed_keepDraft_56 : decode b_Ed_keepDraft 56 = .ok (.return_, 1) := by decide +kernel
theorem d_Ed_draftEquals_0 : decode b_Ed_draftEquals 0 = .ok (.aload_n 0, 1) := by decide +kernel
theorem d_Ed_draftEquals_1 : decode b_Ed_draftEquals 1 = .ok (.getfield 18, 3) := by decide +kernel
theorem d_Ed_draftEquals_4 : decode b_Ed_draftEquals 4 = .ok (.iload_n 1, 1) := by decide +kernel
theorem d_Ed_draftEquals_5 : decode b_Ed_draftEquals 5 = .ok (.iaload, 1) := by decide +kernel
theorem d_Ed_draftEquals_6 : decode b_Ed_draftEquals 6 = .ok (.aload_n 0, 1) := by decide +kernel
theorem d_Ed_draftEquals_7 : decode b_Ed_draftEquals 7 = .ok (.getfield 40, 3) := by decide +kernel
theorem d_Ed_draftEquals_10 : decode b_Ed_draftEquals 10 = .ok (.if_icmp .eq 5, 3) := by decide +kernel
theorem d_Ed_draftEquals_13 : decode b_Ed_draftEquals 13 = .ok (.iconst 0, 1) := by decide +kernel
theorem d_Ed_draftEquals_14 : decode b_Ed_draftEquals 14 = .ok (.ireturn, 1) := by decide +kernel
theorem d_Ed_draftEquals_15 : decode b_Ed_draftEquals 15 = .ok (.iconst 0, 1) := by decide +kernel
theorem d_Ed_draftEquals_16 : decode b_Ed_draftEquals 16 = .ok (.istore_n 2, 1) := by decide +kernel
theorem d_Ed_draftEquals_17 : decode b_Ed_draftEquals 17 = .ok (.iload_n 2, 1) := by decide +kernel
theorem d_Ed_draftEquals_18 : decode b_Ed_draftEquals 18 = .ok (.aload_n 0, 1) := by decide +kernel
theorem d_Ed_draftEquals_19 : decode b_Ed_draftEquals 19 = .ok (.getfield 40, 3) := by decide +kernel
theorem d_Ed_draftEquals_22 : decode b_Ed_draftEquals 22 = .ok (.if_icmp .ge 26, 3) := by decide +kernel
theorem d_Ed_draftEquals_25 : decode b_Ed_draftEquals 25 = .ok (.aload_n 0, 1) := by decide +kernel
theorem d_Ed_draftEquals_26 : decode b_Ed_draftEquals 26 = .ok (.iload_n 1, 1) := by decide +kernel
theorem d_Ed_draftEquals_27 : decode b_Ed_draftEquals 27 = .ok (.iload_n 2, 1) := by decide +kernel
theorem d_Ed_draftEquals_28 : decode b_Ed_draftEquals 28 = .ok (.invokevirtual 106, 3) := by decide +kernel
theorem d_Ed_draftEquals_31 : decode b_Ed_draftEquals 31 = .ok (.aload_n 0, 1) := by decide +kernel
theorem d_Ed_draftEquals_32 : decode b_Ed_draftEquals 32 = .ok (.getfield 37, 3) := by decide +kernel
theorem d_Ed_draftEquals_35 : decode b_Ed_draftEquals 35 = .ok (.iload_n 2, 1) := by decide +kernel
theorem d_Ed_draftEquals_36 : decode b_Ed_draftEquals 36 = .ok (.iaload, 1) := by decide +kernel
theorem d_Ed_draftEquals_37 : decode b_Ed_draftEquals 37 = .ok (.if_icmp .eq 5, 3) := by decide +kernel
theorem d_Ed_draftEquals_40 : decode b_Ed_draftEquals 40 = .ok (.iconst 0, 1) := by decide +kernel
theorem d_Ed_draftEquals_41 : decode b_Ed_draftEquals 41 = .ok (.ireturn, 1) := by decide +kernel
theorem d_Ed_draftEquals_42 : decode b_Ed_draftEquals 42 = .ok (.iinc 2 1, 3) := by decide +kernel
theorem d_Ed_draftEquals_45 : decode b_Ed_draftEquals 45 = .ok (.goto (-28), 3) := by decide +kernel
theorem d_Ed_draftEquals_48 : decode b_Ed_draftEquals 48 = .ok (.iconst 1, 1) := by decide +kernel
theorem d_Ed_draftEquals_49 : decode b_Ed_draftEquals 49 = .ok (.ireturn, 1) := by decide +kernel
theorem d_Tree_init_0 : decode b_Tree_init 0 = .ok (.aload_n 0, 1) := by decide +kernel
theorem d_Tree_init_1 : decode b_Tree_init 1 = .ok (.invokespecial 3, 3) := by decide +kernel
theorem d_Tree_init_4 : decode b_Tree_init 4 = .ok (.aload_n 0, 1) := by decide +kernel
theorem d_Tree_init_5 : decode b_Tree_init 5 = .ok (.bipush 12, 2) := by decide +kernel
theorem d_Tree_init_7 : decode b_Tree_init 7 = .ok (.newarray .int, 2) := by decide +kernel
theorem d_Tree_init_9 : decode b_Tree_init 9 = .ok (.putfield 9, 3) := by decide +kernel
theorem d_Tree_init_12 : decode b_Tree_init 12 = .ok (.aload_n 0, 1) := by decide +kernel
theorem d_Tree_init_13 : decode b_Tree_init 13 = .ok (.bipush 12, 2) := by decide +kernel
theorem d_Tree_init_15 : decode b_Tree_init 15 = .ok (.newarray .int, 2) := by decide +kernel
theorem d_Tree_init_17 : decode b_Tree_init 17 = .ok (.putfield 15, 3) := by decide +kernel
theorem d_Tree_init_20 : decode b_Tree_init 20 = .ok (.aload_n 0, 1) := by decide +kernel
theorem d_Tree_init_21 : decode b_Tree_init 21 = .ok (.bipush 12, 2) := by decide +kernel
theorem d_Tree_init_23 : decode b_Tree_init 23 = .ok (.newarray .int, 2) := by decide +kernel
theorem d_Tree_init_25 : decode b_Tree_init 25 = .ok (.putfield 18, 3) := by decide +kernel
theorem d_Tree_init_28 : decode b_Tree_init 28 = .ok (.aload_n 0, 1) := by decide +kernel
theorem d_Tree_init_29 : decode b_Tree_init 29 = .ok (.bipush 12, 2) := by decide +kernel
theorem d_Tree_init_31 : decode b_Tree_init 31 = .ok (.newarray .int, 2) := by decide +kernel
theorem d_Tree_init_33 : decode b_Tree_init 33 = .ok (.putfield 21, 3) := by decide +kernel
theorem d_Tree_init_36 : decode b_Tree_init 36 = .ok (.aload_n 0, 1) := by decide +kernel
theorem d_Tree_init_37 : decode b_Tree_init 37 = .ok (.sipush 144, 3) := by decide +kernel
theorem d_Tree_init_40 : decode b_Tree_init 40 = .ok (.newarray .int, 2) := by decide +kernel
theorem d_Tree_init_42 : decode b_Tree_init 42 = .ok (.putfield 24, 3) := by decide +kernel
theorem d_Tree_init_45 : decode b_Tree_init 45 = .ok (.aload_n 0, 1) := by decide +kernel
theorem d_Tree_init_46 : decode b_Tree_init 46 = .ok (.getfield 9, 3) := by decide +kernel
theorem d_Tree_init_49 : decode b_Tree_init 49 = .ok (.iconst 0, 1) := by decide +kernel
theorem d_Tree_init_50 : decode b_Tree_init 50 = .ok (.iconst 1, 1) := by decide +kernel
theorem d_Tree_init_51 : decode b_Tree_init 51 = .ok (.iastore, 1) := by decide +kernel
theorem d_Tree_init_52 : decode b_Tree_init 52 = .ok (.aload_n 0, 1) := by decide +kernel
theorem d_Tree_init_53 : decode b_Tree_init 53 = .ok (.getfield 15, 3) := by decide +kernel
theorem d_Tree_init_56 : decode b_Tree_init 56 = .ok (.iconst (-1), 1) := by decide +kernel
theorem d_Tree_init_57 : decode b_Tree_init 57 = .ok (.invokestatic 27, 3) := by decide +kernel
theorem d_Tree_init_60 : decode b_Tree_init 60 = .ok (.return_, 1) := by decide +kernel
theorem d_Tree_isThere_0 : decode b_Tree_isThere 0 = .ok (.aload_n 0, 1) := by decide +kernel
theorem d_Tree_isThere_1 : decode b_Tree_isThere 1 = .ok (.getfield 9, 3) := by decide +kernel
theorem d_Tree_isThere_4 : decode b_Tree_isThere 4 = .ok (.iload_n 1, 1) := by decide +kernel
theorem d_Tree_isThere_5 : decode b_Tree_isThere 5 = .ok (.iaload, 1) := by decide +kernel
theorem d_Tree_isThere_6 : decode b_Tree_isThere 6 = .ok (.ifCond .eq 7, 3) := by decide +kernel
theorem d_Tree_isThere_9 : decode b_Tree_isThere 9 = .ok (.iconst 1, 1) := by decide +kernel
theorem d_Tree_isThere_10 : decode b_Tree_isThere 10 = .ok (.goto 4, 3) := by decide +kernel
theorem d_Tree_isThere_13 : decode b_Tree_isThere 13 = .ok (.iconst 0, 1) := by decide +kernel
theorem d_Tree_isThere_14 : decode b_Tree_isThere 14 = .ok (.ireturn, 1) := by decide +kernel
theorem d_Tree_isDirectory_0 : decode b_Tree_isDirectory 0 = .ok (.aload_n 0, 1) := by decide +kernel
theorem d_Tree_isDirectory_1 : decode b_Tree_isDirectory 1 = .ok (.getfield 9, 3) := by decide +kernel
theorem d_Tree_isDirectory_4 : decode b_Tree_isDirectory 4 = .ok (.iload_n 1, 1) := by decide +kernel
theorem d_Tree_isDirectory_5 : decode b_Tree_isDirectory 5 = .ok (.iaload, 1) := by decide +kernel
theorem d_Tree_isDirectory_6 : decode b_Tree_isDirectory 6 = .ok (.iconst 1, 1) := by decide +kernel
theorem d_Tree_isDirectory_7 : decode b_Tree_isDirectory 7 = .ok (.if_icmp .eq 13, 3) := by decide +kernel
theorem d_Tree_isDirectory_10 : decode b_Tree_isDirectory 10 = .ok (.aload_n 0, 1) := by decide +kernel
theorem d_Tree_isDirectory_11 : decode b_Tree_isDirectory 11 = .ok (.getfield 9, 3) := by decide +kernel
theorem d_Tree_isDirectory_14 : decode b_Tree_isDirectory 14 = .ok (.iload_n 1, 1) := by decide +kernel
theorem d_Tree_isDirectory_15 : decode b_Tree_isDirectory 15 = .ok (.iaload, 1) := by decide +kernel
theorem d_Tree_isDirectory_16 : decode b_Tree_isDirectory 16 = .ok (.iconst 2, 1) := by decide +kernel
theorem d_Tree_isDirectory_17 : decode b_Tree_isDirectory 17 = .ok (.if_icmp .ne 7, 3) := by decide +kernel
theorem d_Tree_isDirectory_20 : decode b_Tree_isDirectory 20 = .ok (.iconst 1, 1) := by decide +kernel
theorem d_Tree_isDirectory_21 : decode b_Tree_isDirectory 21 = .ok (.goto 4, 3) := by decide +kernel
theorem d_Tree_isDirectory_24 : decode b_Tree_isDirectory 24 = .ok (.iconst 0, 1) := by decide +kernel
theorem d_Tree_isDirectory_25 : decode b_Tree_isDirectory 25 = .ok (.ireturn, 1) := by decide +kernel
theorem d_Tree_isFile_0 : decode b_Tree_isFile 0 = .ok (.aload_n 0, 1) := by decide +kernel
theorem d_Tree_isFile_1 : decode b_Tree_isFile 1 = .ok (.getfield 9, 3) := by decide +kernel
theorem d_Tree_isFile_4 : decode b_Tree_isFile 4 = .ok (.iload_n 1, 1) := by decide +kernel
theorem d_Tree_isFile_5 : decode b_Tree_isFile 5 = .ok (.iaload, 1) := by decide +kernel
theorem d_Tree_isFile_6 : decode b_Tree_isFile 6 = .ok (.iconst 3, 1) := by decide +kernel
theorem d_Tree_isFile_7 : decode b_Tree_isFile 7 = .ok (.if_icmp .ne 7, 3) := by decide +kernel
theorem d_Tree_isFile_10 : decode b_Tree_isFile 10 = .ok (.iconst 1, 1) := by decide +kernel
theorem d_Tree_isFile_11 : decode b_Tree_isFile 11 = .ok (.goto 4, 3) := by decide +kernel
theorem d_Tree_isFile_14 : decode b_Tree_isFile 14 = .ok (.iconst 0, 1) := by decide +kernel
theorem d_Tree_isFile_15 : decode b_Tree_isFile 15 = .ok (.ireturn, 1) := by decide +kernel
theorem d_Tree_kindOf_0 : decode b_Tree_kindOf 0 = .ok (.aload_n 0, 1) := by decide +kernel
theorem d_Tree_kindOf_1 : decode b_Tree_kindOf 1 = .ok (.getfield 9, 3) := by decide +kernel
theorem d_Tree_kindOf_4 : decode b_Tree_kindOf 4 = .ok (.iload_n 1, 1) := by decide +kernel
theorem d_Tree_kindOf_5 : decode b_Tree_kindOf 5 = .ok (.iaload, 1) := by decide +kernel
theorem d_Tree_kindOf_6 : decode b_Tree_kindOf 6 = .ok (.ireturn, 1) := by decide +kernel
theorem d_Tree_nameOf_0 : decode b_Tree_nameOf 0 = .ok (.aload_n 0, 1) := by decide +kernel
theorem d_Tree_nameOf_1 : decode b_Tree_nameOf 1 = .ok (.getfield 18, 3) := by decide +kernel
theorem d_Tree_nameOf_4 : decode b_Tree_nameOf 4 = .ok (.iload_n 1, 1) := by decide +kernel
theorem d_Tree_nameOf_5 : decode b_Tree_nameOf 5 = .ok (.iaload, 1) := by decide +kernel
theorem d_Tree_nameOf_6 : decode b_Tree_nameOf 6 = .ok (.ireturn, 1) := by decide +kernel
theorem d_Tree_fileLength_0 : decode b_Tree_fileLength 0 = .ok (.aload_n 0, 1) := by decide +kernel
theorem d_Tree_fileLength_1 : decode b_Tree_fileLength 1 = .ok (.getfield 21, 3) := by decide +kernel
theorem d_Tree_fileLength_4 : decode b_Tree_fileLength 4 = .ok (.iload_n 1, 1) := by decide +kernel
theorem d_Tree_fileLength_5 : decode b_Tree_fileLength 5 = .ok (.iaload, 1) := by decide +kernel
theorem d_Tree_fileLength_6 : decode b_Tree_fileLength 6 = .ok (.ireturn, 1) := by decide +kernel
theorem d_Tree_fileByte_0 : decode b_Tree_fileByte 0 = .ok (.aload_n 0, 1) := by decide +kernel
theorem d_Tree_fileByte_1 : decode b_Tree_fileByte 1 = .ok (.getfield 24, 3) := by decide +kernel
theorem d_Tree_fileByte_4 : decode b_Tree_fileByte 4 = .ok (.iload_n 1, 1) := by decide +kernel
theorem d_Tree_fileByte_5 : decode b_Tree_fileByte 5 = .ok (.bipush 12, 2) := by decide +kernel
theorem d_Tree_fileByte_7 : decode b_Tree_fileByte 7 = .ok (.imul, 1) := by decide +kernel
theorem d_Tree_fileByte_8 : decode b_Tree_fileByte 8 = .ok (.iload_n 2, 1) := by decide +kernel
theorem d_Tree_fileByte_9 : decode b_Tree_fileByte 9 = .ok (.iadd, 1) := by decide +kernel
theorem d_Tree_fileByte_10 : decode b_Tree_fileByte 10 = .ok (.iaload, 1) := by decide +kernel
theorem d_Tree_fileByte_11 : decode b_Tree_fileByte 11 = .ok (.ireturn, 1) := by decide +kernel
theorem d_Tree_hasEntry_0 : decode b_Tree_hasEntry 0 = .ok (.iconst 1, 1) := by decide +kernel
theorem d_Tree_hasEntry_1 : decode b_Tree_hasEntry 1 = .ok (.istore_n 3, 1) := by decide +kernel
theorem d_Tree_hasEntry_2 : decode b_Tree_hasEntry 2 = .ok (.iload_n 3, 1) := by decide +kernel
theorem d_Tree_hasEntry_3 : decode b_Tree_hasEntry 3 = .ok (.bipush 12, 2) := by decide +kernel
theorem d_Tree_hasEntry_5 : decode b_Tree_hasEntry 5 = .ok (.if_icmp .ge 31, 3) := by decide +kernel
theorem d_Tree_hasEntry_8 : decode b_Tree_hasEntry 8 = .ok (.aload_n 0, 1) := by decide +kernel
theorem d_Tree_hasEntry_9 : decode b_Tree_hasEntry 9 = .ok (.getfield 15, 3) := by decide +kernel
theorem d_Tree_hasEntry_12 : decode b_Tree_hasEntry 12 = .ok (.iload_n 3, 1) := by decide +kernel
theorem d_Tree_hasEntry_13 : decode b_Tree_hasEntry 13 = .ok (.iaload, 1) := by decide +kernel
theorem d_Tree_hasEntry_14 : decode b_Tree_hasEntry 14 = .ok (.iload_n 1, 1) := by decide +kernel
theorem d_Tree_hasEntry_15 : decode b_Tree_hasEntry 15 = .ok (.if_icmp .ne 15, 3) := by decide +kernel
theorem d_Tree_hasEntry_18 : decode b_Tree_hasEntry 18 = .ok (.aload_n 0, 1) := by decide +kernel
theorem d_Tree_hasEntry_19 : decode b_Tree_hasEntry 19 = .ok (.getfield 18, 3) := by decide +kernel
theorem d_Tree_hasEntry_22 : decode b_Tree_hasEntry 22 = .ok (.iload_n 3, 1) := by decide +kernel
theorem d_Tree_hasEntry_23 : decode b_Tree_hasEntry 23 = .ok (.iaload, 1) := by decide +kernel
theorem d_Tree_hasEntry_24 : decode b_Tree_hasEntry 24 = .ok (.iload_n 2, 1) := by decide +kernel
theorem d_Tree_hasEntry_25 : decode b_Tree_hasEntry 25 = .ok (.if_icmp .ne 5, 3) := by decide +kernel
theorem d_Tree_hasEntry_28 : decode b_Tree_hasEntry 28 = .ok (.iconst 1, 1) := by decide +kernel
theorem d_Tree_hasEntry_29 : decode b_Tree_hasEntry 29 = .ok (.ireturn, 1) := by decide +kernel
theorem d_Tree_hasEntry_30 : decode b_Tree_hasEntry 30 = .ok (.iinc 3 1, 3) := by decide +kernel
theorem d_Tree_hasEntry_33 : decode b_Tree_hasEntry 33 = .ok (.goto (-31), 3) := by decide +kernel
theorem d_Tree_hasEntry_36 : decode b_Tree_hasEntry 36 = .ok (.iconst 0, 1) := by decide +kernel
theorem d_Tree_hasEntry_37 : decode b_Tree_hasEntry 37 = .ok (.ireturn, 1) := by decide +kernel
theorem d_Tree_entryCount_0 : decode b_Tree_entryCount 0 = .ok (.iconst 0, 1) := by decide +kernel
theorem d_Tree_entryCount_1 : decode b_Tree_entryCount 1 = .ok (.istore_n 2, 1) := by decide +kernel
theorem d_Tree_entryCount_2 : decode b_Tree_entryCount 2 = .ok (.iconst 1, 1) := by decide +kernel
theorem d_Tree_entryCount_3 : decode b_Tree_entryCount 3 = .ok (.istore_n 3, 1) := by decide +kernel
theorem d_Tree_entryCount_4 : decode b_Tree_entryCount 4 = .ok (.iload_n 3, 1) := by decide +kernel
theorem d_Tree_entryCount_5 : decode b_Tree_entryCount 5 = .ok (.bipush 12, 2) := by decide +kernel
theorem d_Tree_entryCount_7 : decode b_Tree_entryCount 7 = .ok (.if_icmp .ge 22, 3) := by decide +kernel
theorem d_Tree_entryCount_10 : decode b_Tree_entryCount 10 = .ok (.aload_n 0, 1) := by decide +kernel
theorem d_Tree_entryCount_11 : decode b_Tree_entryCount 11 = .ok (.getfield 15, 3) := by decide +kernel
theorem d_Tree_entryCount_14 : decode b_Tree_entryCount 14 = .ok (.iload_n 3, 1) := by decide +kernel
theorem d_Tree_entryCount_15 : decode b_Tree_entryCount 15 = .ok (.iaload, 1) := by decide +kernel
theorem d_Tree_entryCount_16 : decode b_Tree_entryCount 16 = .ok (.iload_n 1, 1) := by decide +kernel
theorem d_Tree_entryCount_17 : decode b_Tree_entryCount 17 = .ok (.if_icmp .ne 6, 3) := by decide +kernel
theorem d_Tree_entryCount_20 : decode b_Tree_entryCount 20 = .ok (.iinc 2 1, 3) := by decide +kernel
theorem d_Tree_entryCount_23 : decode b_Tree_entryCount 23 = .ok (.iinc 3 1, 3) := by decide +kernel
theorem d_Tree_entryCount_26 : decode b_Tree_entryCount 26 = .ok (.goto (-22), 3) := by decide +kernel
theorem d_Tree_entryCount_29 : decode b_Tree_entryCount 29 = .ok (.iload_n 2, 1) := by decide +kernel
theorem d_Tree_entryCount_30 : decode b_Tree_entryCount 30 = .ok (.ireturn, 1) := by decide +kernel
theorem d_Tree_leastFreeKey_0 : decode b_Tree_leastFreeKey 0 = .ok (.iconst 1, 1) := by decide +kernel
theorem d_Tree_leastFreeKey_1 : decode b_Tree_leastFreeKey 1 = .ok (.istore_n 1, 1) := by decide +kernel
theorem d_Tree_leastFreeKey_2 : decode b_Tree_leastFreeKey 2 = .ok (.iload_n 1, 1) := by decide +kernel
theorem d_Tree_leastFreeKey_3 : decode b_Tree_leastFreeKey 3 = .ok (.bipush 12, 2) := by decide +kernel
theorem d_Tree_leastFreeKey_5 : decode b_Tree_leastFreeKey 5 = .ok (.if_icmp .ge 19, 3) := by decide +kernel
theorem d_Tree_leastFreeKey_8 : decode b_Tree_leastFreeKey 8 = .ok (.aload_n 0, 1) := by decide +kernel
theorem d_Tree_leastFreeKey_9 : decode b_Tree_leastFreeKey 9 = .ok (.iload_n 1, 1) := by decide +kernel
theorem d_Tree_leastFreeKey_10 : decode b_Tree_leastFreeKey 10 = .ok (.invokevirtual 33, 3) := by decide +kernel
theorem d_Tree_leastFreeKey_13 : decode b_Tree_leastFreeKey 13 = .ok (.ifCond .ne 5, 3) := by decide +kernel
theorem d_Tree_leastFreeKey_16 : decode b_Tree_leastFreeKey 16 = .ok (.iload_n 1, 1) := by decide +kernel
theorem d_Tree_leastFreeKey_17 : decode b_Tree_leastFreeKey 17 = .ok (.ireturn, 1) := by decide +kernel
theorem d_Tree_leastFreeKey_18 : decode b_Tree_leastFreeKey 18 = .ok (.iinc 1 1, 3) := by decide +kernel
theorem d_Tree_leastFreeKey_21 : decode b_Tree_leastFreeKey 21 = .ok (.goto (-19), 3) := by decide +kernel
theorem d_Tree_leastFreeKey_24 : decode b_Tree_leastFreeKey 24 = .ok (.iconst (-1), 1) := by decide +kernel
theorem d_Tree_leastFreeKey_25 : decode b_Tree_leastFreeKey 25 = .ok (.ireturn, 1) := by decide +kernel
theorem d_Tree_put_0 : decode b_Tree_put 0 = .ok (.aload_n 0, 1) := by decide +kernel
theorem d_Tree_put_1 : decode b_Tree_put 1 = .ok (.getfield 9, 3) := by decide +kernel
theorem d_Tree_put_4 : decode b_Tree_put 4 = .ok (.iload_n 1, 1) := by decide +kernel
theorem d_Tree_put_5 : decode b_Tree_put 5 = .ok (.iload 4, 2) := by decide +kernel
theorem d_Tree_put_7 : decode b_Tree_put 7 = .ok (.iastore, 1) := by decide +kernel
theorem d_Tree_put_8 : decode b_Tree_put 8 = .ok (.aload_n 0, 1) := by decide +kernel
theorem d_Tree_put_9 : decode b_Tree_put 9 = .ok (.getfield 15, 3) := by decide +kernel
theorem d_Tree_put_12 : decode b_Tree_put 12 = .ok (.iload_n 1, 1) := by decide +kernel
theorem d_Tree_put_13 : decode b_Tree_put 13 = .ok (.iload_n 2, 1) := by decide +kernel
theorem d_Tree_put_14 : decode b_Tree_put 14 = .ok (.iastore, 1) := by decide +kernel
theorem d_Tree_put_15 : decode b_Tree_put 15 = .ok (.aload_n 0, 1) := by decide +kernel
theorem d_Tree_put_16 : decode b_Tree_put 16 = .ok (.getfield 18, 3) := by decide +kernel
theorem d_Tree_put_19 : decode b_Tree_put 19 = .ok (.iload_n 1, 1) := by decide +kernel
theorem d_Tree_put_20 : decode b_Tree_put 20 = .ok (.iload_n 3, 1) := by decide +kernel
theorem d_Tree_put_21 : decode b_Tree_put 21 = .ok (.iastore, 1) := by decide +kernel
theorem d_Tree_put_22 : decode b_Tree_put 22 = .ok (.aload_n 0, 1) := by decide +kernel
theorem d_Tree_put_23 : decode b_Tree_put 23 = .ok (.getfield 21, 3) := by decide +kernel
theorem d_Tree_put_26 : decode b_Tree_put 26 = .ok (.iload_n 1, 1) := by decide +kernel
theorem d_Tree_put_27 : decode b_Tree_put 27 = .ok (.iconst 0, 1) := by decide +kernel
theorem d_Tree_put_28 : decode b_Tree_put 28 = .ok (.iastore, 1) := by decide +kernel
theorem d_Tree_put_29 : decode b_Tree_put 29 = .ok (.return_, 1) := by decide +kernel
theorem d_Tree_take_0 : decode b_Tree_take 0 = .ok (.aload_n 0, 1) := by decide +kernel
theorem d_Tree_take_1 : decode b_Tree_take 1 = .ok (.getfield 9, 3) := by decide +kernel
theorem d_Tree_take_4 : decode b_Tree_take 4 = .ok (.iload_n 1, 1) := by decide +kernel
theorem d_Tree_take_5 : decode b_Tree_take 5 = .ok (.iconst 0, 1) := by decide +kernel
theorem d_Tree_take_6 : decode b_Tree_take 6 = .ok (.iastore, 1) := by decide +kernel
theorem d_Tree_take_7 : decode b_Tree_take 7 = .ok (.aload_n 0, 1) := by decide +kernel
theorem d_Tree_take_8 : decode b_Tree_take 8 = .ok (.getfield 15, 3) := by decide +kernel
theorem d_Tree_take_11 : decode b_Tree_take 11 = .ok (.iload_n 1, 1) := by decide +kernel
theorem d_Tree_take_12 : decode b_Tree_take 12 = .ok (.iconst (-1), 1) := by decide +kernel
theorem d_Tree_take_13 : decode b_Tree_take 13 = .ok (.iastore, 1) := by decide +kernel
theorem d_Tree_take_14 : decode b_Tree_take 14 = .ok (.return_, 1) := by decide +kernel
theorem d_Tree_addByte_0 : decode b_Tree_addByte 0 = .ok (.aload_n 0, 1) := by decide +kernel
theorem d_Tree_addByte_1 : decode b_Tree_addByte 1 = .ok (.getfield 24, 3) := by decide +kernel
theorem d_Tree_addByte_4 : decode b_Tree_addByte 4 = .ok (.iload_n 1, 1) := by decide +kernel
theorem d_Tree_addByte_5 : decode b_Tree_addByte 5 = .ok (.bipush 12, 2) := by decide +kernel
theorem d_Tree_addByte_7 : decode b_Tree_addByte 7 = .ok (.imul, 1) := by decide +kernel
theorem d_Tree_addByte_8 : decode b_Tree_addByte 8 = .ok (.aload_n 0, 1) := by decide +kernel
theorem d_Tree_addByte_9 : decode b_Tree_addByte 9 = .ok (.getfield 21, 3) := by decide +kernel
theorem d_Tree_addByte_12 : decode b_Tree_addByte 12 = .ok (.iload_n 1, 1) := by decide +kernel
theorem d_Tree_addByte_13 : decode b_Tree_addByte 13 = .ok (.iaload, 1) := by decide +kernel
theorem d_Tree_addByte_14 : decode b_Tree_addByte 14 = .ok (.iadd, 1) := by decide +kernel
theorem d_Tree_addByte_15 : decode b_Tree_addByte 15 = .ok (.iload_n 2, 1) := by decide +kernel
theorem d_Tree_addByte_16 : decode b_Tree_addByte 16 = .ok (.iastore, 1) := by decide +kernel
theorem d_Tree_addByte_17 : decode b_Tree_addByte 17 = .ok (.aload_n 0, 1) := by decide +kernel
theorem d_Tree_addByte_18 : decode b_Tree_addByte 18 = .ok (.getfield 21, 3) := by decide +kernel
theorem d_Tree_addByte_21 : decode b_Tree_addByte 21 = .ok (.iload_n 1, 1) := by decide +kernel
theorem d_Tree_addByte_22 : decode b_Tree_addByte 22 = .ok (.dup2, 1) := by decide +kernel
theorem d_Tree_addByte_23 : decode b_Tree_addByte 23 = .ok (.iaload, 1) := by decide +kernel
theorem d_Tree_addByte_24 : decode b_Tree_addByte 24 = .ok (.iconst 1, 1) := by decide +kernel
theorem d_Tree_addByte_25 : decode b_Tree_addByte 25 = .ok (.iadd, 1) := by decide +kernel
theorem d_Tree_addByte_26 : decode b_Tree_addByte 26 = .ok (.iastore, 1) := by decide +kernel
theorem d_Tree_addByte_27 : decode b_Tree_addByte 27 = .ok (.aload_n 0, 1) := by decide +kernel
theorem d_Tree_addByte_28 : decode b_Tree_addByte 28 = .ok (.getfield 21, 3) := by decide +kernel
theorem d_Tree_addByte_31 : decode b_Tree_addByte 31 = .ok (.iload_n 1, 1) := by decide +kernel
theorem d_Tree_addByte_32 : decode b_Tree_addByte 32 = .ok (.iaload, 1) := by decide +kernel
theorem d_Tree_addByte_33 : decode b_Tree_addByte 33 = .ok (.ireturn, 1) := by decide +kernel
theorem d_Tree_clearFile_0 : decode b_Tree_clearFile 0 = .ok (.aload_n 0, 1) := by decide +kernel
theorem d_Tree_clearFile_1 : decode b_Tree_clearFile 1 = .ok (.getfield 21, 3) := by decide +kernel
theorem d_Tree_clearFile_4 : decode b_Tree_clearFile 4 = .ok (.iload_n 1, 1) := by decide +kernel
theorem d_Tree_clearFile_5 : decode b_Tree_clearFile 5 = .ok (.iaload, 1) := by decide +kernel
theorem d_Tree_clearFile_6 : decode b_Tree_clearFile 6 = .ok (.istore_n 2, 1) := by decide +kernel
theorem d_Tree_clearFile_7 : decode b_Tree_clearFile 7 = .ok (.aload_n 0, 1) := by decide +kernel
theorem d_Tree_clearFile_8 : decode b_Tree_clearFile 8 = .ok (.getfield 21, 3) := by decide +kernel
theorem d_Tree_clearFile_11 : decode b_Tree_clearFile 11 = .ok (.iload_n 1, 1) := by decide +kernel
theorem d_Tree_clearFile_12 : decode b_Tree_clearFile 12 = .ok (.iconst 0, 1) := by decide +kernel
theorem d_Tree_clearFile_13 : decode b_Tree_clearFile 13 = .ok (.iastore, 1) := by decide +kernel
theorem d_Tree_clearFile_14 : decode b_Tree_clearFile 14 = .ok (.iload_n 2, 1) := by decide +kernel
theorem d_Tree_clearFile_15 : decode b_Tree_clearFile 15 = .ok (.ireturn, 1) := by decide +kernel
theorem d_Tree_messageLength_0 : decode b_Tree_messageLength 0 = .ok (.aload_n 0, 1) := by decide +kernel
theorem d_Tree_messageLength_1 : decode b_Tree_messageLength 1 = .ok (.iload_n 1, 1) := by decide +kernel
theorem d_Tree_messageLength_2 : decode b_Tree_messageLength 2 = .ok (.invokevirtual 37, 3) := by decide +kernel
theorem d_Tree_messageLength_5 : decode b_Tree_messageLength 5 = .ok (.ifCond .eq 12, 3) := by decide +kernel
theorem d_Tree_messageLength_8 : decode b_Tree_messageLength 8 = .ok (.aload_n 0, 1) := by decide +kernel
theorem d_Tree_messageLength_9 : decode b_Tree_messageLength 9 = .ok (.getfield 21, 3) := by decide +kernel
theorem d_Tree_messageLength_12 : decode b_Tree_messageLength 12 = .ok (.iload_n 1, 1) := by decide +kernel
theorem d_Tree_messageLength_13 : decode b_Tree_messageLength 13 = .ok (.iaload, 1) := by decide +kernel
theorem d_Tree_messageLength_14 : decode b_Tree_messageLength 14 = .ok (.goto 10, 3) := by decide +kernel
theorem d_Tree_messageLength_17 : decode b_Tree_messageLength 17 = .ok (.iconst 4, 1) := by decide +kernel
theorem d_Tree_messageLength_18 : decode b_Tree_messageLength 18 = .ok (.aload_n 0, 1) := by decide +kernel
theorem d_Tree_messageLength_19 : decode b_Tree_messageLength 19 = .ok (.iload_n 1, 1) := by decide +kernel
theorem d_Tree_messageLength_20 : decode b_Tree_messageLength 20 = .ok (.invokevirtual 40, 3) := by decide +kernel
theorem d_Tree_messageLength_23 : decode b_Tree_messageLength 23 = .ok (.imul, 1) := by decide +kernel
theorem d_Tree_messageLength_24 : decode b_Tree_messageLength 24 = .ok (.ireturn, 1) := by decide +kernel
theorem d_Tree_entryAfter_0 : decode b_Tree_entryAfter 0 = .ok (.iconst (-1), 1) := by decide +kernel
theorem d_Tree_entryAfter_1 : decode b_Tree_entryAfter 1 = .ok (.istore_n 3, 1) := by decide +kernel
theorem d_Tree_entryAfter_2 : decode b_Tree_entryAfter 2 = .ok (.iconst 1, 1) := by decide +kernel
theorem d_Tree_entryAfter_3 : decode b_Tree_entryAfter 3 = .ok (.istore 4, 2) := by decide +kernel
theorem d_Tree_entryAfter_5 : decode b_Tree_entryAfter 5 = .ok (.iload 4, 2) := by decide +kernel
theorem d_Tree_entryAfter_7 : decode b_Tree_entryAfter 7 = .ok (.bipush 12, 2) := by decide +kernel
theorem d_Tree_entryAfter_9 : decode b_Tree_entryAfter 9 = .ok (.if_icmp .ge 67, 3) := by decide +kernel
theorem d_Tree_entryAfter_12 : decode b_Tree_entryAfter 12 = .ok (.aload_n 0, 1) := by decide +kernel
theorem d_Tree_entryAfter_13 : decode b_Tree_entryAfter 13 = .ok (.getfield 15, 3) := by decide +kernel
theorem d_Tree_entryAfter_16 : decode b_Tree_entryAfter 16 = .ok (.iload 4, 2) := by decide +kernel
theorem d_Tree_entryAfter_18 : decode b_Tree_entryAfter 18 = .ok (.iaload, 1) := by decide +kernel
theorem d_Tree_entryAfter_19 : decode b_Tree_entryAfter 19 = .ok (.iload_n 1, 1) := by decide +kernel
theorem d_Tree_entryAfter_20 : decode b_Tree_entryAfter 20 = .ok (.if_icmp .ne 18, 3) := by decide +kernel
theorem d_Tree_entryAfter_23 : decode b_Tree_entryAfter 23 = .ok (.aload_n 0, 1) := by decide +kernel
theorem d_Tree_entryAfter_24 : decode b_Tree_entryAfter 24 = .ok (.getfield 18, 3) := by decide +kernel
theorem d_Tree_entryAfter_27 : decode b_Tree_entryAfter 27 = .ok (.iload 4, 2) := by decide +kernel
theorem d_Tree_entryAfter_29 : decode b_Tree_entryAfter 29 = .ok (.iaload, 1) := by decide +kernel
theorem d_Tree_entryAfter_30 : decode b_Tree_entryAfter 30 = .ok (.iload_n 2, 1) := by decide +kernel
theorem d_Tree_entryAfter_31 : decode b_Tree_entryAfter 31 = .ok (.if_icmp .le 7, 3) := by decide +kernel
theorem d_Tree_entryAfter_34 : decode b_Tree_entryAfter 34 = .ok (.iconst 1, 1) := by decide +kernel
theorem d_Tree_entryAfter_35 : decode b_Tree_entryAfter 35 = .ok (.goto 4, 3) := by decide +kernel
theorem d_Tree_entryAfter_38 : decode b_Tree_entryAfter 38 = .ok (.iconst 0, 1) := by decide +kernel
theorem d_Tree_entryAfter_39 : decode b_Tree_entryAfter 39 = .ok (.istore 5, 2) := by decide +kernel
theorem d_Tree_entryAfter_41 : decode b_Tree_entryAfter 41 = .ok (.iload 5, 2) := by decide +kernel
theorem d_Tree_entryAfter_43 : decode b_Tree_entryAfter 43 = .ok (.ifCond .eq 27, 3) := by decide +kernel
theorem d_Tree_entryAfter_46 : decode b_Tree_entryAfter 46 = .ok (.iload_n 3, 1) := by decide +kernel
theorem d_Tree_entryAfter_47 : decode b_Tree_entryAfter 47 = .ok (.iconst (-1), 1) := by decide +kernel
theorem d_Tree_entryAfter_48 : decode b_Tree_entryAfter 48 = .ok (.if_icmp .eq 19, 3) := by decide +kernel
theorem d_Tree_entryAfter_51 : decode b_Tree_entryAfter 51 = .ok (.aload_n 0, 1) := by decide +kernel
theorem d_Tree_entryAfter_52 : decode b_Tree_entryAfter 52 = .ok (.getfield 18, 3) := by decide +kernel
theorem d_Tree_entryAfter_55 : decode b_Tree_entryAfter 55 = .ok (.iload 4, 2) := by decide +kernel
theorem d_Tree_entryAfter_57 : decode b_Tree_entryAfter 57 = .ok (.iaload, 1) := by decide +kernel
theorem d_Tree_entryAfter_58 : decode b_Tree_entryAfter 58 = .ok (.aload_n 0, 1) := by decide +kernel
theorem d_Tree_entryAfter_59 : decode b_Tree_entryAfter 59 = .ok (.getfield 18, 3) := by decide +kernel
theorem d_Tree_entryAfter_62 : decode b_Tree_entryAfter 62 = .ok (.iload_n 3, 1) := by decide +kernel
theorem d_Tree_entryAfter_63 : decode b_Tree_entryAfter 63 = .ok (.iaload, 1) := by decide +kernel
theorem d_Tree_entryAfter_64 : decode b_Tree_entryAfter 64 = .ok (.if_icmp .ge 6, 3) := by decide +kernel
theorem d_Tree_entryAfter_67 : decode b_Tree_entryAfter 67 = .ok (.iload 4, 2) := by decide +kernel
theorem d_Tree_entryAfter_69 : decode b_Tree_entryAfter 69 = .ok (.istore_n 3, 1) := by decide +kernel
theorem d_Tree_entryAfter_70 : decode b_Tree_entryAfter 70 = .ok (.iinc 4 1, 3) := by decide +kernel
theorem d_Tree_entryAfter_73 : decode b_Tree_entryAfter 73 = .ok (.goto (-68), 3) := by decide +kernel
theorem d_Tree_entryAfter_76 : decode b_Tree_entryAfter 76 = .ok (.iload_n 3, 1) := by decide +kernel
theorem d_Tree_entryAfter_77 : decode b_Tree_entryAfter 77 = .ok (.ireturn, 1) := by decide +kernel
theorem d_Tree_followerOf_0 : decode b_Tree_followerOf 0 = .ok (.aload_n 0, 1) := by decide +kernel
theorem d_Tree_followerOf_1 : decode b_Tree_followerOf 1 = .ok (.iload_n 1, 1) := by decide +kernel
theorem d_Tree_followerOf_2 : decode b_Tree_followerOf 2 = .ok (.iconst 0, 1) := by decide +kernel
theorem d_Tree_followerOf_3 : decode b_Tree_followerOf 3 = .ok (.invokevirtual 44, 3) := by decide +kernel
theorem d_Tree_followerOf_6 : decode b_Tree_followerOf 6 = .ok (.istore_n 2, 1) := by decide +kernel
theorem d_Tree_followerOf_7 : decode b_Tree_followerOf 7 = .ok (.iload_n 1, 1) := by decide +kernel
theorem d_Tree_followerOf_8 : decode b_Tree_followerOf 8 = .ok (.istore_n 3, 1) := by decide +kernel
theorem d_Tree_followerOf_9 : decode b_Tree_followerOf 9 = .ok (.iconst 0, 1) := by decide +kernel
theorem d_Tree_followerOf_10 : decode b_Tree_followerOf 10 = .ok (.istore 4, 2) := by decide +kernel
theorem d_Tree_followerOf_12 : decode b_Tree_followerOf 12 = .ok (.iload 4, 2) := by decide +kernel
theorem d_Tree_followerOf_14 : decode b_Tree_followerOf 14 = .ok (.bipush 12, 2) := by decide +kernel
theorem d_Tree_followerOf_16 : decode b_Tree_followerOf 16 = .ok (.if_icmp .ge 42, 3) := by decide +kernel
theorem d_Tree_followerOf_19 : decode b_Tree_followerOf 19 = .ok (.iload_n 2, 1) := by decide +kernel
theorem d_Tree_followerOf_20 : decode b_Tree_followerOf 20 = .ok (.iconst (-1), 1) := by decide +kernel
theorem d_Tree_followerOf_21 : decode b_Tree_followerOf 21 = .ok (.if_icmp .ne 37, 3) := by decide +kernel
theorem d_Tree_followerOf_24 : decode b_Tree_followerOf 24 = .ok (.iload_n 3, 1) := by decide +kernel
theorem d_Tree_followerOf_25 : decode b_Tree_followerOf 25 = .ok (.ifCond .le 33, 3) := by decide +kernel
theorem d_Tree_followerOf_28 : decode b_Tree_followerOf 28 = .ok (.aload_n 0, 1) := by decide +kernel
theorem d_Tree_followerOf_29 : decode b_Tree_followerOf 29 = .ok (.aload_n 0, 1) := by decide +kernel
theorem d_Tree_followerOf_30 : decode b_Tree_followerOf 30 = .ok (.getfield 15, 3) := by decide +kernel
theorem d_Tree_followerOf_33 : decode b_Tree_followerOf 33 = .ok (.iload_n 3, 1) := by decide +kernel
theorem d_Tree_followerOf_34 : decode b_Tree_followerOf 34 = .ok (.iaload, 1) := by decide +kernel
theorem d_Tree_followerOf_35 : decode b_Tree_followerOf 35 = .ok (.aload_n 0, 1) := by decide +kernel
theorem d_Tree_followerOf_36 : decode b_Tree_followerOf 36 = .ok (.getfield 18, 3) := by decide +kernel
theorem d_Tree_followerOf_39 : decode b_Tree_followerOf 39 = .ok (.iload_n 3, 1) := by decide +kernel
theorem d_Tree_followerOf_40 : decode b_Tree_followerOf 40 = .ok (.iaload, 1) := by decide +kernel
theorem d_Tree_followerOf_41 : decode b_Tree_followerOf 41 = .ok (.invokevirtual 44, 3) := by decide +kernel
theorem d_Tree_followerOf_44 : decode b_Tree_followerOf 44 = .ok (.istore_n 2, 1) := by decide +kernel
theorem d_Tree_followerOf_45 : decode b_Tree_followerOf 45 = .ok (.aload_n 0, 1) := by decide +kernel
theorem d_Tree_followerOf_46 : decode b_Tree_followerOf 46 = .ok (.getfield 15, 3) := by decide +kernel
theorem d_Tree_followerOf_49 : decode b_Tree_followerOf 49 = .ok (.iload_n 3, 1) := by decide +kernel
theorem d_Tree_followerOf_50 : decode b_Tree_followerOf 50 = .ok (.iaload, 1) := by decide +kernel
theorem d_Tree_followerOf_51 : decode b_Tree_followerOf 51 = .ok (.istore_n 3, 1) := by decide +kernel
theorem d_Tree_followerOf_52 : decode b_Tree_followerOf 52 = .ok (.iinc 4 1, 3) := by decide +kernel
theorem d_Tree_followerOf_55 : decode b_Tree_followerOf 55 = .ok (.goto (-43), 3) := by decide +kernel
theorem d_Tree_followerOf_58 : decode b_Tree_followerOf 58 = .ok (.iload_n 2, 1) := by decide +kernel
theorem d_Tree_followerOf_59 : decode b_Tree_followerOf 59 = .ok (.ireturn, 1) := by decide +kernel
end
section
def GG : List zm_Sh := [.inr (0, [some (.ref 1), some (.ref 7), some (.ref 14), some (.ref 19)]), .inr (1, [some (.ref 2), some (.ref 3), some (.ref 4), some (.ref 5), some (.ref 6)]), .inl (false, 12), .inl (false, 12), .inl (false, 12), .inl (false, 12), .inl (false, 144), .inr (2, [none, none, some (.ref 8), some (.ref 9), some (.ref 10), some (.ref 11), none, some (.ref 12), some (.ref 13), none]), .inl (false, 12), .inl (false, 12), .inl (false, 576), .inl (false, 12), .inl (false, 12), .inl (false, 48), .inr (3, [some (.ref 15), some (.ref 16), none, none, none]), .inl (false, 16), .inr (4, [some (.ref 17), none, some (.ref 18), none]), .inl (false, 1341), .inl (false, 73), .inr (5, [some (.ref 20), some (.ref 25), some (.ref 26), none, none]), .inr (6, [none, none, some (.ref 21), some (.ref 22), some (.ref 23), some (.ref 24)]), .inl (false, 12), .inl (false, 12), .inl (false, 12), .inl (false, 576), .inl (false, 6), .inl (false, 257), .inr (7, [some (.ref 28), some (.ref 29), some (.ref 30), some (.ref 31), some (.ref 32), none, none, some (.ref 33), some (.ref 34), some (.ref 35), none, some (.ref 36), some (.ref 37), some (.ref 38), some (.ref 39), some (.ref 40), some (.ref 41), none, none, none, none, some (.ref 42), none, none, some (.ref 43), some (.ref 44), some (.ref 45), some (.ref 46), some (.ref 47), none, none, some (.ref 48), some (.ref 49)]), .inl (false, 12), .inl (false, 12), .inl (false, 12), .inl (false, 12), .inl (false, 144), .inl (false, 12), .inl (false, 12), .inl (false, 576), .inl (false, 12), .inl (false, 12), .inl (false, 576), .inl (false, 12), .inl (false, 700), .inl (true, 700), .inl (false, 16), .inl (true, 12), .inl (false, 12), .inl (false, 12), .inl (true, 72), .inl (false, 576), .inl (false, 258), .inl (false, 6)]
theorem gg_0 : GG[0]? = some (.inr (0, [some (.ref 1), some (.ref 7), some (.ref 14), some (.ref 19)])) := rfl
theorem gg_1 : GG[1]? = some (.inr (1, [some (.ref 2), some (.ref 3), some (.ref 4), some (.ref 5), some (.ref 6)])) := rfl
theorem gg_2 : GG[2]? = some (.inl (false, 12)) := rfl
theorem gg_3 : GG[3]? = some (.inl (false, 12)) := rfl
theorem gg_4 : GG[4]? = some (.inl (false, 12)) := rfl
theorem gg_5 : GG[5]? = some (.inl (false, 12)) := rfl
theorem gg_6 : GG[6]? = some (.inl (false, 144)) := rfl
theorem gg_7 : GG[7]? = some (.inr (2, [none, none, some (.ref 8), some (.ref 9), some (.ref 10), some (.ref 11), none, some (.ref 12), some (.ref 13), none])) := rfl
theorem gg_8 : GG[8]? = some (.inl (false, 12)) := rfl
theorem gg_9 : GG[9]? = some (.inl (false, 12)) := rfl
theorem gg_10 : GG[10]? = some (.inl (false, 576)) := rfl
theorem gg_11 : GG[11]? = some (.inl (false, 12)) := rfl
theorem gg_12 : GG[12]? = some (.inl (false, 12)) := rfl
theorem gg_13 : GG[13]? = some (.inl (false, 48)) := rfl
theorem gg_14 : GG[14]? = some (.inr (3, [some (.ref 15), some (.ref 16), none, none, none])) := rfl
theorem gg_15 : GG[15]? = some (.inl (false, 16)) := rfl
theorem gg_16 : GG[16]? = some (.inr (4, [some (.ref 17), none, some (.ref 18), none])) := rfl
theorem gg_17 : GG[17]? = some (.inl (false, 1341)) := rfl
theorem gg_18 : GG[18]? = some (.inl (false, 73)) := rfl
theorem gg_19 : GG[19]? = some (.inr (5, [some (.ref 20), some (.ref 25), some (.ref 26), none, none])) := rfl
theorem gg_20 : GG[20]? = some (.inr (6, [none, none, some (.ref 21), some (.ref 22), some (.ref 23), some (.ref 24)])) := rfl
theorem gg_21 : GG[21]? = some (.inl (false, 12)) := rfl
theorem gg_22 : GG[22]? = some (.inl (false, 12)) := rfl
theorem gg_23 : GG[23]? = some (.inl (false, 12)) := rfl
theorem gg_24 : GG[24]? = some (.inl (false, 576)) := rfl
theorem gg_25 : GG[25]? = some (.inl (false, 6)) := rfl
theorem gg_26 : GG[26]? = some (.inl (false, 257)) := rfl
theorem gg_27 : GG[27]? = some (.inr (7, [some (.ref 28), some (.ref 29), some (.ref 30), some (.ref 31), some (.ref 32), none, none, some (.ref 33), some (.ref 34), some (.ref 35), none, some (.ref 36), some (.ref 37), some (.ref 38), some (.ref 39), some (.ref 40), some (.ref 41), none, none, none, none, some (.ref 42), none, none, some (.ref 43), some (.ref 44), some (.ref 45), some (.ref 46), some (.ref 47), none, none, some (.ref 48), some (.ref 49)])) := rfl
theorem gg_28 : GG[28]? = some (.inl (false, 12)) := rfl
theorem gg_29 : GG[29]? = some (.inl (false, 12)) := rfl
theorem gg_30 : GG[30]? = some (.inl (false, 12)) := rfl
theorem gg_31 : GG[31]? = some (.inl (false, 12)) := rfl
theorem gg_32 : GG[32]? = some (.inl (false, 144)) := rfl
theorem gg_33 : GG[33]? = some (.inl (false, 12)) := rfl
theorem gg_34 : GG[34]? = some (.inl (false, 12)) := rfl
theorem gg_35 : GG[35]? = some (.inl (false, 576)) := rfl
theorem gg_36 : GG[36]? = some (.inl (false, 12)) := rfl
theorem gg_37 : GG[37]? = some (.inl (false, 12)) := rfl
theorem gg_38 : GG[38]? = some (.inl (false, 576)) := rfl
theorem gg_39 : GG[39]? = some (.inl (false, 12)) := rfl
theorem gg_40 : GG[40]? = some (.inl (false, 700)) := rfl
theorem gg_41 : GG[41]? = some (.inl (true, 700)) := rfl
theorem gg_42 : GG[42]? = some (.inl (false, 16)) := rfl
theorem gg_43 : GG[43]? = some (.inl (true, 12)) := rfl
theorem gg_44 : GG[44]? = some (.inl (false, 12)) := rfl
theorem gg_45 : GG[45]? = some (.inl (false, 12)) := rfl
theorem gg_46 : GG[46]? = some (.inl (true, 72)) := rfl
theorem gg_47 : GG[47]? = some (.inl (false, 576)) := rfl
theorem gg_48 : GG[48]? = some (.inl (false, 258)) := rfl
theorem gg_49 : GG[49]? = some (.inl (false, 6)) := rfl
abbrev zw (M : zm_M) (d : Nat) (Q : zm_Q) (pc : Nat) (L : zm_L) (st : List Value) (S : zm_S) : Prop := zm_WP M none d 0 0 Q pc L st GG S 0 0
abbrev zc (M : zm_M) (d : Nat) (av : List Value) (S : zm_S) (Q : zm_Q) : Prop := zm_CC M d 0 0 av GG S Q
def M_CM_init : zm_M := (y_CM_init, (b_CM_init, 1), none)
def M_CM_make : zm_M := (y_CM_make, (b_CM_make, 5), (some .int))
def M_CM_remove : zm_M := (y_CM_remove, (b_CM_remove, 2), (some .int))
def M_CM_append : zm_M := (y_CM_append, (b_CM_append, 3), (some .int))
def M_CM_empty : zm_M := (y_CM_empty, (b_CM_empty, 2), (some .int))
def M_CM_publish : zm_M := (y_CM_publish, (b_CM_publish, 1), (some .int))
def M_CM_modules : zm_M := (y_CM_modules, (b_CM_modules, 1), (some .int))
def M_CM_module : zm_M := (y_CM_module, (b_CM_module, 2), (some .int))
def M_CM_peek : zm_M := (y_CM_peek, (b_CM_peek, 2), (some .int))
def M_CM_send : zm_M := (y_CM_send, (b_CM_send, 3), (some .int))
def M_CM_lose : zm_M := (y_CM_lose, (b_CM_lose, 3), (some .int))
def M_CM_spoil : zm_M := (y_CM_spoil, (b_CM_spoil, 3), (some .int))
def M_CM_retune : zm_M := (y_CM_retune, (b_CM_retune, 1), none)
def M_CM_count : zm_M := (y_CM_count, (b_CM_count, 2), (some .int))
def M_CM_transaction : zm_M := (y_CM_transaction, (b_CM_transaction, 2), (some .int))
def M_CM_held : zm_M := (y_CM_held, (b_CM_held, 3), (some .int))
def M_CM_kind : zm_M := (y_CM_kind, (b_CM_kind, 5), (some .int))
def M_CM_size : zm_M := (y_CM_size, (b_CM_size, 7), (some .int))
def M_CM_read : zm_M := (y_CM_read, (b_CM_read, 6), (some .int))
def M_CM_follow : zm_M := (y_CM_follow, (b_CM_follow, 6), (some .int))
def M_CM_isEntryKey : zm_M := (y_CM_isEntryKey, (b_CM_isEntryKey, 1), (some .boolean))
def M_CM_isByte : zm_M := (y_CM_isByte, (b_CM_isByte, 1), (some .boolean))
def M_CM_pairAt : zm_M := (y_CM_pairAt, (b_CM_pairAt, 2), (some .int))
def M_CM_checkOf : zm_M := (y_CM_checkOf, (b_CM_checkOf, 6), (some .int))
def M_CM_blocksIn : zm_M := (y_CM_blocksIn, (b_CM_blocksIn, 1), (some .int))
def M_CM_blockLength : zm_M := (y_CM_blockLength, (b_CM_blockLength, 3), (some .int))
def M_Md_init : zm_M := (y_Md_init, (b_Md_init, 1), none)
def M_Md_within : zm_M := (y_Md_within, (b_Md_within, 3), (some .boolean))
def M_Md_after : zm_M := (y_Md_after, (b_Md_after, 6), (some .int))
def M_Md_make : zm_M := (y_Md_make, (b_Md_make, 5), (some .int))
def M_Md_remove : zm_M := (y_Md_remove, (b_Md_remove, 2), (some .int))
def M_Md_append : zm_M := (y_Md_append, (b_Md_append, 3), (some .int))
def M_Md_empty : zm_M := (y_Md_empty, (b_Md_empty, 3), (some .int))
def M_Md_next : zm_M := (y_Md_next, (b_Md_next, 4), (some .int))
def M_Md_payload : zm_M := (y_Md_payload, (b_Md_payload, 4), (some .int))
def M_Md_put : zm_M := (y_Md_put, (b_Md_put, 3), none)
def M_Md_message : zm_M := (y_Md_message, (b_Md_message, 4), none)
def M_Md_keepOld : zm_M := (y_Md_keepOld, (b_Md_keepOld, 2), none)
def M_Md_unchanged : zm_M := (y_Md_unchanged, (b_Md_unchanged, 4), (some .boolean))
def M_Md_publish : zm_M := (y_Md_publish, (b_Md_publish, 4), (some .int))
def M_Md_mixed : zm_M := (y_Md_mixed, (b_Md_mixed, 5), (some .int))
def M_Md_emit : zm_M := (y_Md_emit, (b_Md_emit, 2), none)
def M_Md_emitPair : zm_M := (y_Md_emitPair, (b_Md_emitPair, 2), none)
def M_Md_emitCheck : zm_M := (y_Md_emitCheck, (b_Md_emitCheck, 2), none)
def M_Md_writeCycle : zm_M := (y_Md_writeCycle, (b_Md_writeCycle, 5), none)
def M_Md_modules : zm_M := (y_Md_modules, (b_Md_modules, 1), (some .int))
def M_Md_module : zm_M := (y_Md_module, (b_Md_module, 2), (some .int))
def M_Md_rest : zm_M := (y_Md_rest, (b_Md_rest, 2), (some .int))
def M_Md_build : zm_M := (y_Md_build, (b_Md_build, 9), (some .int))
def M_Md_sent : zm_M := (y_Md_sent, (b_Md_sent, 2), none)
def M_Md_peek : zm_M := (y_Md_peek, (b_Md_peek, 3), (some .int))
def M_Md_pass : zm_M := (y_Md_pass, (b_Md_pass, 4), (some .int))
def M_Md_send : zm_M := (y_Md_send, (b_Md_send, 2), (some .int))
def M_Md_lose : zm_M := (y_Md_lose, (b_Md_lose, 2), (some .int))
def M_Md_spoil : zm_M := (y_Md_spoil, (b_Md_spoil, 3), (some .int))
def M_Md_retune : zm_M := (y_Md_retune, (b_Md_retune, 2), none)
def M_Md_nothing : zm_M := (y_Md_nothing, (b_Md_nothing, 3), none)
def M_Md_throwAway : zm_M := (y_Md_throwAway, (b_Md_throwAway, 1), none)
def M_Md_receive : zm_M := (y_Md_receive, (b_Md_receive, 5), none)
def M_Md_more : zm_M := (y_Md_more, (b_Md_more, 4), none)
def M_Md_take : zm_M := (y_Md_take, (b_Md_take, 2), none)
def M_Md_pair : zm_M := (y_Md_pair, (b_Md_pair, 2), (some .int))
def M_Md_checks : zm_M := (y_Md_checks, (b_Md_checks, 4), (some .boolean))
def M_Md_isList : zm_M := (y_Md_isList, (b_Md_isList, 3), (some .boolean))
def M_Md_look : zm_M := (y_Md_look, (b_Md_look, 1), none)
def M_Md_list : zm_M := (y_Md_list, (b_Md_list, 6), none)
def M_Md_fits : zm_M := (y_Md_fits, (b_Md_fits, 3), (some .boolean))
def M_Md_block : zm_M := (y_Md_block, (b_Md_block, 3), none)
def M_Md_count : zm_M := (y_Md_count, (b_Md_count, 2), (some .int))
def M_Md_transaction : zm_M := (y_Md_transaction, (b_Md_transaction, 1), (some .int))
def M_Md_heldOf : zm_M := (y_Md_heldOf, (b_Md_heldOf, 4), (some .int))
def M_Md_held : zm_M := (y_Md_held, (b_Md_held, 2), (some .int))
def M_Md_ready : zm_M := (y_Md_ready, (b_Md_ready, 2), (some .int))
def M_Md_stands : zm_M := (y_Md_stands, (b_Md_stands, 4), (some .boolean))
def M_Md_first : zm_M := (y_Md_first, (b_Md_first, 4), (some .int))
def M_Md_gateway : zm_M := (y_Md_gateway, (b_Md_gateway, 3), (some .int))
def M_Md_enter : zm_M := (y_Md_enter, (b_Md_enter, 7), (some .int))
def M_Md_follow : zm_M := (y_Md_follow, (b_Md_follow, 5), (some .int))
def M_Md_kind : zm_M := (y_Md_kind, (b_Md_kind, 5), (some .int))
def M_Md_size : zm_M := (y_Md_size, (b_Md_size, 5), (some .int))
def M_Md_read : zm_M := (y_Md_read, (b_Md_read, 6), (some .int))
def M_Cy_init : zm_M := (y_Cy_init, (b_Cy_init, 1), none)
def M_Cy_renew : zm_M := (y_Cy_renew, (b_Cy_renew, 5), none)
def M_Cy_startFrom : zm_M := (y_Cy_startFrom, (b_Cy_startFrom, 3), (some .int))
def M_Cy_addList : zm_M := (y_Cy_addList, (b_Cy_addList, 3), none)
def M_Cy_addBlock : zm_M := (y_Cy_addBlock, (b_Cy_addBlock, 6), none)
def M_Cy_begin : zm_M := (y_Cy_begin, (b_Cy_begin, 3), none)
def M_Cy_writeCheck : zm_M := (y_Cy_writeCheck, (b_Cy_writeCheck, 2), none)
def M_Cy_writePair : zm_M := (y_Cy_writePair, (b_Cy_writePair, 2), none)
def M_Cy_write : zm_M := (y_Cy_write, (b_Cy_write, 2), none)
def M_Ed_init : zm_M := (y_Ed_init, (b_Ed_init, 1), none)
def M_Ed_byteAt : zm_M := (y_Ed_byteAt, (b_Ed_byteAt, 3), (some .int))
def M_Ed_renew : zm_M := (y_Ed_renew, (b_Ed_renew, 4), none)
def M_Ed_arrange : zm_M := (y_Ed_arrange, (b_Ed_arrange, 4), none)
def M_Ed_assignModules : zm_M := (y_Ed_assignModules, (b_Ed_assignModules, 6), (some .int))
def M_Ed_draftModule : zm_M := (y_Ed_draftModule, (b_Ed_draftModule, 4), none)
def M_Ed_draftMessage : zm_M := (y_Ed_draftMessage, (b_Ed_draftMessage, 4), none)
def M_Ed_draftEntries : zm_M := (y_Ed_draftEntries, (b_Ed_draftEntries, 5), none)
def M_Ed_write : zm_M := (y_Ed_write, (b_Ed_write, 2), none)
def M_Ed_keepDraft : zm_M := (y_Ed_keepDraft, (b_Ed_keepDraft, 2), none)
def M_Ed_draftEquals : zm_M := (y_Ed_draftEquals, (b_Ed_draftEquals, 3), (some .boolean))
def M_Mt_init : zm_M := (y_Mt_init, (b_Mt_init, 1), none)
def M_Mt_reset : zm_M := (y_Mt_reset, (b_Mt_reset, 2), none)
def M_Mt_relist : zm_M := (y_Mt_relist, (b_Mt_relist, 4), none)
def M_Mt_takeList : zm_M := (y_Mt_takeList, (b_Mt_takeList, 7), none)
def M_Mt_takeBlock : zm_M := (y_Mt_takeBlock, (b_Mt_takeBlock, 6), (some .boolean))
def M_Mt_isListed : zm_M := (y_Mt_isListed, (b_Mt_isListed, 2), (some .boolean))
def M_Mt_blocksHeld : zm_M := (y_Mt_blocksHeld, (b_Mt_blocksHeld, 2), (some .int))
def M_Mt_obstacle : zm_M := (y_Mt_obstacle, (b_Mt_obstacle, 2), (some .int))
def M_Mt_gateway : zm_M := (y_Mt_gateway, (b_Mt_gateway, 2), (some .int))
def M_Mt_enter : zm_M := (y_Mt_enter, (b_Mt_enter, 6), (some .int))
def M_Mt_messageWithKey : zm_M := (y_Mt_messageWithKey, (b_Mt_messageWithKey, 7), (some .int))
def M_Mt_fits : zm_M := (y_Mt_fits, (b_Mt_fits, 3), (some .boolean))
def M_Mt_isDirectoryAt : zm_M := (y_Mt_isDirectoryAt, (b_Mt_isDirectoryAt, 2), (some .boolean))
def M_Mt_kindAt : zm_M := (y_Mt_kindAt, (b_Mt_kindAt, 2), (some .int))
def M_Mt_lengthAt : zm_M := (y_Mt_lengthAt, (b_Mt_lengthAt, 2), (some .int))
def M_Mt_contentAt : zm_M := (y_Mt_contentAt, (b_Mt_contentAt, 3), (some .int))
def M_Rc_init : zm_M := (y_Rc_init, (b_Rc_init, 1), none)
def M_Rc_reset : zm_M := (y_Rc_reset, (b_Rc_reset, 1), none)
def M_Rc_takePacket : zm_M := (y_Rc_takePacket, (b_Rc_takePacket, 6), none)
def M_Rc_continueSection : zm_M := (y_Rc_continueSection, (b_Rc_continueSection, 5), none)
def M_Rc_beginSections : zm_M := (y_Rc_beginSections, (b_Rc_beginSections, 4), none)
def M_Rc_throwAway : zm_M := (y_Rc_throwAway, (b_Rc_throwAway, 1), none)
def M_Rc_collect : zm_M := (y_Rc_collect, (b_Rc_collect, 3), none)
def M_Rc_judge : zm_M := (y_Rc_judge, (b_Rc_judge, 2), (some .int))
def M_Rc_hasCheckDue : zm_M := (y_Rc_hasCheckDue, (b_Rc_hasCheckDue, 4), (some .boolean))
def M_Rc_isList : zm_M := (y_Rc_isList, (b_Rc_isList, 5), (some .boolean))
def M_Rc_isBlock : zm_M := (y_Rc_isBlock, (b_Rc_isBlock, 3), (some .boolean))
def M_Sn_init : zm_M := (y_Sn_init, (b_Sn_init, 1), none)
def M_Sn_isOnAir : zm_M := (y_Sn_isOnAir, (b_Sn_isOnAir, 1), (some .boolean))
def M_Sn_beginCycleOf : zm_M := (y_Sn_beginCycleOf, (b_Sn_beginCycleOf, 2), none)
def M_Sn_advance : zm_M := (y_Sn_advance, (b_Sn_advance, 1), none)
def M_Sn_prepare : zm_M := (y_Sn_prepare, (b_Sn_prepare, 4), none)
def M_Sn_load : zm_M := (y_Sn_load, (b_Sn_load, 5), none)
def M_Tree_init : zm_M := (y_Tree_init, (b_Tree_init, 1), none)
def M_Tree_isThere : zm_M := (y_Tree_isThere, (b_Tree_isThere, 2), (some .boolean))
def M_Tree_isDirectory : zm_M := (y_Tree_isDirectory, (b_Tree_isDirectory, 2), (some .boolean))
def M_Tree_isFile : zm_M := (y_Tree_isFile, (b_Tree_isFile, 2), (some .boolean))
def M_Tree_kindOf : zm_M := (y_Tree_kindOf, (b_Tree_kindOf, 2), (some .int))
def M_Tree_nameOf : zm_M := (y_Tree_nameOf, (b_Tree_nameOf, 2), (some .int))
def M_Tree_fileLength : zm_M := (y_Tree_fileLength, (b_Tree_fileLength, 2), (some .int))
def M_Tree_fileByte : zm_M := (y_Tree_fileByte, (b_Tree_fileByte, 3), (some .int))
def M_Tree_hasEntry : zm_M := (y_Tree_hasEntry, (b_Tree_hasEntry, 4), (some .boolean))
def M_Tree_entryCount : zm_M := (y_Tree_entryCount, (b_Tree_entryCount, 4), (some .int))
def M_Tree_leastFreeKey : zm_M := (y_Tree_leastFreeKey, (b_Tree_leastFreeKey, 2), (some .int))
def M_Tree_put : zm_M := (y_Tree_put, (b_Tree_put, 5), none)
def M_Tree_take : zm_M := (y_Tree_take, (b_Tree_take, 2), none)
def M_Tree_addByte : zm_M := (y_Tree_addByte, (b_Tree_addByte, 3), (some .int))
def M_Tree_clearFile : zm_M := (y_Tree_clearFile, (b_Tree_clearFile, 3), (some .int))
def M_Tree_messageLength : zm_M := (y_Tree_messageLength, (b_Tree_messageLength, 2), (some .int))
def M_Tree_entryAfter : zm_M := (y_Tree_entryAfter, (b_Tree_entryAfter, 6), (some .int))
def M_Tree_followerOf : zm_M := (y_Tree_followerOf, (b_Tree_followerOf, 5), (some .int))
def M_Arr_fill : zm_M := (y_Arr_fill, (b_Arr_fill, 4), none)
def M_Int_bitCount : zm_M := (y_Int_bitCount, (b_Int_bitCount, 1), (some .int))
def M_Law_law : zm_M := (y_Law_law, (b_Law_law, 4), some .boolean)
theorem ztn {w : Cond} (i : Nat) (h : tables_1[i]? = some w) : w ∈ lw_tbl := List.mem_append_right _ (List.mem_of_getElem? h)
theorem zt {w : Cond} (i : Nat) (h : tables_1[i]? = some w) (hg : goodWord w = true) : w ∈ zm_all := List.mem_filter.mpr ⟨ztn i h, hg⟩
theorem zs {y : MethodName} {n : Nat} (i : Nat) (h : lw_privs[i]? = some (y, n)) : Cond.selects y.cls y y ∈ zm_all := List.mem_filter.mpr ⟨List.mem_append_left _ (List.mem_map.mpr ⟨(y, n), List.mem_of_getElem? h, rfl⟩), rfl⟩
theorem ul_CM_0 : u_lay R_CM F_CM 0 ∈ zm_all := zt 190 (by decide +kernel) (by decide +kernel)
theorem ul_CM_1 : u_lay R_CM F_CM 1 ∈ zm_all := zt 192 (by decide +kernel) (by decide +kernel)
theorem ul_CM_2 : u_lay R_CM F_CM 2 ∈ zm_all := zt 194 (by decide +kernel) (by decide +kernel)
theorem ul_CM_3 : u_lay R_CM F_CM 3 ∈ zm_all := zt 196 (by decide +kernel) (by decide +kernel)
theorem uin_CM : ∀ w ∈ u_ws R_CM F_CM 4, w ∈ zm_all := by
  intro w hw
  obtain ⟨k, hk, rfl⟩ := List.mem_map.mp hw
  have hk := List.mem_range.mp hk
  match k, hk with
  | 0, _ => exact ul_CM_0
  | 1, _ => exact ul_CM_1
  | 2, _ => exact ul_CM_2
  | 3, _ => exact ul_CM_3
  | k + 4, hk => exact absurd hk (by omega)
theorem tw_CM : zm_tw F_CM 4 t_CM := ⟨to_CM, n_CM⟩
theorem ul_Tree_0 : u_lay R_Tree F_Tree 0 ∈ zm_all := zt 34 (by decide +kernel) (by decide +kernel)
theorem ul_Tree_1 : u_lay R_Tree F_Tree 1 ∈ zm_all := zt 36 (by decide +kernel) (by decide +kernel)
theorem ul_Tree_2 : u_lay R_Tree F_Tree 2 ∈ zm_all := zt 38 (by decide +kernel) (by decide +kernel)
theorem ul_Tree_3 : u_lay R_Tree F_Tree 3 ∈ zm_all := zt 40 (by decide +kernel) (by decide +kernel)
theorem ul_Tree_4 : u_lay R_Tree F_Tree 4 ∈ zm_all := zt 42 (by decide +kernel) (by decide +kernel)
theorem uin_Tree : ∀ w ∈ u_ws R_Tree F_Tree 5, w ∈ zm_all := by
  intro w hw
  obtain ⟨k, hk, rfl⟩ := List.mem_map.mp hw
  have hk := List.mem_range.mp hk
  match k, hk with
  | 0, _ => exact ul_Tree_0
  | 1, _ => exact ul_Tree_1
  | 2, _ => exact ul_Tree_2
  | 3, _ => exact ul_Tree_3
  | 4, _ => exact ul_Tree_4
  | k + 5, hk => exact absurd hk (by omega)
theorem tw_Tree : zm_tw F_Tree 5 t_Tree := ⟨to_Tree, n_Tree⟩
theorem ul_Ed_0 : u_lay R_Ed F_Ed 0 ∈ zm_all := zt 70 (by decide +kernel) (by decide +kernel)
theorem ul_Ed_1 : u_lay R_Ed F_Ed 1 ∈ zm_all := zt 72 (by decide +kernel) (by decide +kernel)
theorem ul_Ed_2 : u_lay R_Ed F_Ed 2 ∈ zm_all := zt 74 (by decide +kernel) (by decide +kernel)
theorem ul_Ed_3 : u_lay R_Ed F_Ed 3 ∈ zm_all := zt 76 (by decide +kernel) (by decide +kernel)
theorem ul_Ed_4 : u_lay R_Ed F_Ed 4 ∈ zm_all := zt 78 (by decide +kernel) (by decide +kernel)
theorem ul_Ed_5 : u_lay R_Ed F_Ed 5 ∈ zm_all := zt 80 (by decide +kernel) (by decide +kernel)
theorem ul_Ed_6 : u_lay R_Ed F_Ed 6 ∈ zm_all := zt 82 (by decide +kernel) (by decide +kernel)
theorem ul_Ed_7 : u_lay R_Ed F_Ed 7 ∈ zm_all := zt 84 (by decide +kernel) (by decide +kernel)
theorem ul_Ed_8 : u_lay R_Ed F_Ed 8 ∈ zm_all := zt 86 (by decide +kernel) (by decide +kernel)
theorem ul_Ed_9 : u_lay R_Ed F_Ed 9 ∈ zm_all := zt 88 (by decide +kernel) (by decide +kernel)
theorem uin_Ed : ∀ w ∈ u_ws R_Ed F_Ed 10, w ∈ zm_all := by
  intro w hw
  obtain ⟨k, hk, rfl⟩ := List.mem_map.mp hw
  have hk := List.mem_range.mp hk
  match k, hk with
  | 0, _ => exact ul_Ed_0
  | 1, _ => exact ul_Ed_1
  | 2, _ => exact ul_Ed_2
  | 3, _ => exact ul_Ed_3
  | 4, _ => exact ul_Ed_4
  | 5, _ => exact ul_Ed_5
  | 6, _ => exact ul_Ed_6
  | 7, _ => exact ul_Ed_7
  | 8, _ => exact ul_Ed_8
  | 9, _ => exact ul_Ed_9
  | k + 10, hk => exact absurd hk (by omega)
theorem tw_Ed : zm_tw F_Ed 10 t_Ed := ⟨to_Ed, n_Ed⟩
theorem ul_Sn_0 : u_lay R_Sn F_Sn 0 ∈ zm_all := zt 124 (by decide +kernel) (by decide +kernel)
theorem ul_Sn_1 : u_lay R_Sn F_Sn 1 ∈ zm_all := zt 126 (by decide +kernel) (by decide +kernel)
theorem ul_Sn_2 : u_lay R_Sn F_Sn 2 ∈ zm_all := zt 128 (by decide +kernel) (by decide +kernel)
theorem ul_Sn_3 : u_lay R_Sn F_Sn 3 ∈ zm_all := zt 130 (by decide +kernel) (by decide +kernel)
theorem ul_Sn_4 : u_lay R_Sn F_Sn 4 ∈ zm_all := zt 132 (by decide +kernel) (by decide +kernel)
theorem uin_Sn : ∀ w ∈ u_ws R_Sn F_Sn 5, w ∈ zm_all := by
  intro w hw
  obtain ⟨k, hk, rfl⟩ := List.mem_map.mp hw
  have hk := List.mem_range.mp hk
  match k, hk with
  | 0, _ => exact ul_Sn_0
  | 1, _ => exact ul_Sn_1
  | 2, _ => exact ul_Sn_2
  | 3, _ => exact ul_Sn_3
  | 4, _ => exact ul_Sn_4
  | k + 5, hk => exact absurd hk (by omega)
theorem tw_Sn : zm_tw F_Sn 5 t_Sn := ⟨to_Sn, n_Sn⟩
theorem ul_Cy_0 : u_lay R_Cy F_Cy 0 ∈ zm_all := zt 109 (by decide +kernel) (by decide +kernel)
theorem ul_Cy_1 : u_lay R_Cy F_Cy 1 ∈ zm_all := zt 111 (by decide +kernel) (by decide +kernel)
theorem ul_Cy_2 : u_lay R_Cy F_Cy 2 ∈ zm_all := zt 113 (by decide +kernel) (by decide +kernel)
theorem ul_Cy_3 : u_lay R_Cy F_Cy 3 ∈ zm_all := zt 115 (by decide +kernel) (by decide +kernel)
theorem uin_Cy : ∀ w ∈ u_ws R_Cy F_Cy 4, w ∈ zm_all := by
  intro w hw
  obtain ⟨k, hk, rfl⟩ := List.mem_map.mp hw
  have hk := List.mem_range.mp hk
  match k, hk with
  | 0, _ => exact ul_Cy_0
  | 1, _ => exact ul_Cy_1
  | 2, _ => exact ul_Cy_2
  | 3, _ => exact ul_Cy_3
  | k + 4, hk => exact absurd hk (by omega)
theorem tw_Cy : zm_tw F_Cy 4 t_Cy := ⟨to_Cy, n_Cy⟩
theorem ul_Rc_0 : u_lay R_Rc F_Rc 0 ∈ zm_all := zt 175 (by decide +kernel) (by decide +kernel)
theorem ul_Rc_1 : u_lay R_Rc F_Rc 1 ∈ zm_all := zt 177 (by decide +kernel) (by decide +kernel)
theorem ul_Rc_2 : u_lay R_Rc F_Rc 2 ∈ zm_all := zt 179 (by decide +kernel) (by decide +kernel)
theorem ul_Rc_3 : u_lay R_Rc F_Rc 3 ∈ zm_all := zt 181 (by decide +kernel) (by decide +kernel)
theorem ul_Rc_4 : u_lay R_Rc F_Rc 4 ∈ zm_all := zt 183 (by decide +kernel) (by decide +kernel)
theorem uin_Rc : ∀ w ∈ u_ws R_Rc F_Rc 5, w ∈ zm_all := by
  intro w hw
  obtain ⟨k, hk, rfl⟩ := List.mem_map.mp hw
  have hk := List.mem_range.mp hk
  match k, hk with
  | 0, _ => exact ul_Rc_0
  | 1, _ => exact ul_Rc_1
  | 2, _ => exact ul_Rc_2
  | 3, _ => exact ul_Rc_3
  | 4, _ => exact ul_Rc_4
  | k + 5, hk => exact absurd hk (by omega)
theorem tw_Rc : zm_tw F_Rc 5 t_Rc := ⟨to_Rc, n_Rc⟩
theorem ul_Mt_0 : u_lay R_Mt F_Mt 0 ∈ zm_all := zt 155 (by decide +kernel) (by decide +kernel)
theorem ul_Mt_1 : u_lay R_Mt F_Mt 1 ∈ zm_all := zt 157 (by decide +kernel) (by decide +kernel)
theorem ul_Mt_2 : u_lay R_Mt F_Mt 2 ∈ zm_all := zt 159 (by decide +kernel) (by decide +kernel)
theorem ul_Mt_3 : u_lay R_Mt F_Mt 3 ∈ zm_all := zt 161 (by decide +kernel) (by decide +kernel)
theorem ul_Mt_4 : u_lay R_Mt F_Mt 4 ∈ zm_all := zt 163 (by decide +kernel) (by decide +kernel)
theorem ul_Mt_5 : u_lay R_Mt F_Mt 5 ∈ zm_all := zt 165 (by decide +kernel) (by decide +kernel)
theorem uin_Mt : ∀ w ∈ u_ws R_Mt F_Mt 6, w ∈ zm_all := by
  intro w hw
  obtain ⟨k, hk, rfl⟩ := List.mem_map.mp hw
  have hk := List.mem_range.mp hk
  match k, hk with
  | 0, _ => exact ul_Mt_0
  | 1, _ => exact ul_Mt_1
  | 2, _ => exact ul_Mt_2
  | 3, _ => exact ul_Mt_3
  | 4, _ => exact ul_Mt_4
  | 5, _ => exact ul_Mt_5
  | k + 6, hk => exact absurd hk (by omega)
theorem tw_Mt : zm_tw F_Mt 6 t_Mt := ⟨to_Mt, n_Mt⟩
theorem ul_Md_0 : u_lay R_Md F_Md 0 ∈ zm_all := zt 621 (by decide +kernel) (by decide +kernel)
theorem ul_Md_1 : u_lay R_Md F_Md 1 ∈ zm_all := zt 623 (by decide +kernel) (by decide +kernel)
theorem ul_Md_2 : u_lay R_Md F_Md 2 ∈ zm_all := zt 625 (by decide +kernel) (by decide +kernel)
theorem ul_Md_3 : u_lay R_Md F_Md 3 ∈ zm_all := zt 627 (by decide +kernel) (by decide +kernel)
theorem ul_Md_4 : u_lay R_Md F_Md 4 ∈ zm_all := zt 629 (by decide +kernel) (by decide +kernel)
theorem ul_Md_5 : u_lay R_Md F_Md 5 ∈ zm_all := zt 631 (by decide +kernel) (by decide +kernel)
theorem ul_Md_6 : u_lay R_Md F_Md 6 ∈ zm_all := zt 633 (by decide +kernel) (by decide +kernel)
theorem ul_Md_7 : u_lay R_Md F_Md 7 ∈ zm_all := zt 635 (by decide +kernel) (by decide +kernel)
theorem ul_Md_8 : u_lay R_Md F_Md 8 ∈ zm_all := zt 637 (by decide +kernel) (by decide +kernel)
theorem ul_Md_9 : u_lay R_Md F_Md 9 ∈ zm_all := zt 639 (by decide +kernel) (by decide +kernel)
theorem ul_Md_10 : u_lay R_Md F_Md 10 ∈ zm_all := zt 641 (by decide +kernel) (by decide +kernel)
theorem ul_Md_11 : u_lay R_Md F_Md 11 ∈ zm_all := zt 643 (by decide +kernel) (by decide +kernel)
theorem ul_Md_12 : u_lay R_Md F_Md 12 ∈ zm_all := zt 645 (by decide +kernel) (by decide +kernel)
theorem ul_Md_13 : u_lay R_Md F_Md 13 ∈ zm_all := zt 647 (by decide +kernel) (by decide +kernel)
theorem ul_Md_14 : u_lay R_Md F_Md 14 ∈ zm_all := zt 649 (by decide +kernel) (by decide +kernel)
theorem ul_Md_15 : u_lay R_Md F_Md 15 ∈ zm_all := zt 651 (by decide +kernel) (by decide +kernel)
theorem ul_Md_16 : u_lay R_Md F_Md 16 ∈ zm_all := zt 653 (by decide +kernel) (by decide +kernel)
theorem ul_Md_17 : u_lay R_Md F_Md 17 ∈ zm_all := zt 655 (by decide +kernel) (by decide +kernel)
theorem ul_Md_18 : u_lay R_Md F_Md 18 ∈ zm_all := zt 657 (by decide +kernel) (by decide +kernel)
theorem ul_Md_19 : u_lay R_Md F_Md 19 ∈ zm_all := zt 659 (by decide +kernel) (by decide +kernel)
theorem ul_Md_20 : u_lay R_Md F_Md 20 ∈ zm_all := zt 661 (by decide +kernel) (by decide +kernel)
theorem ul_Md_21 : u_lay R_Md F_Md 21 ∈ zm_all := zt 663 (by decide +kernel) (by decide +kernel)
theorem ul_Md_22 : u_lay R_Md F_Md 22 ∈ zm_all := zt 665 (by decide +kernel) (by decide +kernel)
theorem ul_Md_23 : u_lay R_Md F_Md 23 ∈ zm_all := zt 667 (by decide +kernel) (by decide +kernel)
theorem ul_Md_24 : u_lay R_Md F_Md 24 ∈ zm_all := zt 669 (by decide +kernel) (by decide +kernel)
theorem ul_Md_25 : u_lay R_Md F_Md 25 ∈ zm_all := zt 671 (by decide +kernel) (by decide +kernel)
theorem ul_Md_26 : u_lay R_Md F_Md 26 ∈ zm_all := zt 673 (by decide +kernel) (by decide +kernel)
theorem ul_Md_27 : u_lay R_Md F_Md 27 ∈ zm_all := zt 675 (by decide +kernel) (by decide +kernel)
theorem ul_Md_28 : u_lay R_Md F_Md 28 ∈ zm_all := zt 677 (by decide +kernel) (by decide +kernel)
theorem ul_Md_29 : u_lay R_Md F_Md 29 ∈ zm_all := zt 679 (by decide +kernel) (by decide +kernel)
theorem ul_Md_30 : u_lay R_Md F_Md 30 ∈ zm_all := zt 681 (by decide +kernel) (by decide +kernel)
theorem ul_Md_31 : u_lay R_Md F_Md 31 ∈ zm_all := zt 683 (by decide +kernel) (by decide +kernel)
theorem ul_Md_32 : u_lay R_Md F_Md 32 ∈ zm_all := zt 685 (by decide +kernel) (by decide +kernel)
theorem uin_Md : ∀ w ∈ u_ws R_Md F_Md 33, w ∈ zm_all := by
  intro w hw
  obtain ⟨k, hk, rfl⟩ := List.mem_map.mp hw
  have hk := List.mem_range.mp hk
  match k, hk with
  | 0, _ => exact ul_Md_0
  | 1, _ => exact ul_Md_1
  | 2, _ => exact ul_Md_2
  | 3, _ => exact ul_Md_3
  | 4, _ => exact ul_Md_4
  | 5, _ => exact ul_Md_5
  | 6, _ => exact ul_Md_6
  | 7, _ => exact ul_Md_7
  | 8, _ => exact ul_Md_8
  | 9, _ => exact ul_Md_9
  | 10, _ => exact ul_Md_10
  | 11, _ => exact ul_Md_11
  | 12, _ => exact ul_Md_12
  | 13, _ => exact ul_Md_13
  | 14, _ => exact ul_Md_14
  | 15, _ => exact ul_Md_15
  | 16, _ => exact ul_Md_16
  | 17, _ => exact ul_Md_17
  | 18, _ => exact ul_Md_18
  | 19, _ => exact ul_Md_19
  | 20, _ => exact ul_Md_20
  | 21, _ => exact ul_Md_21
  | 22, _ => exact ul_Md_22
  | 23, _ => exact ul_Md_23
  | 24, _ => exact ul_Md_24
  | 25, _ => exact ul_Md_25
  | 26, _ => exact ul_Md_26
  | 27, _ => exact ul_Md_27
  | 28, _ => exact ul_Md_28
  | 29, _ => exact ul_Md_29
  | 30, _ => exact ul_Md_30
  | 31, _ => exact ul_Md_31
  | 32, _ => exact ul_Md_32
  | k + 33, hk => exact absurd hk (by omega)
theorem tw_Md : zm_tw F_Md 33 t_Md := ⟨to_Md, n_Md⟩
theorem oi_CM_1 : Cond.methodLink R_CM 1 Lib.objectInit ∈ zm_all ∧ Cond.instanceMethod Lib.objectInit ∈ zm_all ∧ Cond.code Lib.objectInit ⟨#[0xb1]⟩ 1 none ∈ zm_all := ⟨(zt 17 (by decide +kernel) rfl), (zt 18 (by decide +kernel) rfl), zt 19 rfl rfl⟩
theorem nw_CM_7 : Cond.classLink R_CM 7 R_Tree ∈ zm_all ∧ Cond.instantiable R_Tree 5 ∈ zm_all ∧ Cond.initialized R_Tree ∈ zm_all := ⟨(zt 20 (by decide +kernel) rfl), (zt 21 (by decide +kernel) rfl), (zt 2 (by decide +kernel) rfl)⟩
theorem w_CM_9 : zm_cw R_CM 9 M_Tree_init 0 := ⟨(zt 24 (by decide +kernel) rfl), (zt 2 (by decide +kernel) rfl), ⟨by decide, by decide, by decide +kernel⟩, by decide, Or.inl (zt 22 (by decide +kernel) rfl)⟩
theorem w_CM_9k : Cond.instanceMethod M_Tree_init.1 ∈ zm_all := (zt 23 (by decide +kernel) rfl)
theorem f_CM_10 : zm_fw R_CM 10 0 0 R_CM F_CM 4 := ⟨rfl, by decide, uin_CM, Or.inl (zt 186 (by decide +kernel) rfl)⟩
theorem fl_CM_10 : Cond.fieldLink R_CM 10 (F_CM 0).1 (F_CM 0).2.1 (F_CM 0).2.2.1 ∈ zm_all := (zt 186 (by decide +kernel) rfl)
theorem nw_CM_16 : Cond.classLink R_CM 16 R_Ed ∈ zm_all ∧ Cond.instantiable R_Ed 10 ∈ zm_all ∧ Cond.initialized R_Ed ∈ zm_all := ⟨(zt 46 (by decide +kernel) rfl), (zt 47 (by decide +kernel) rfl), (zt 4 (by decide +kernel) rfl)⟩
theorem w_CM_18 : zm_cw R_CM 18 M_Ed_init 0 := ⟨(zt 50 (by decide +kernel) rfl), (zt 4 (by decide +kernel) rfl), ⟨by decide, by decide, by decide +kernel⟩, by decide, Or.inr ⟨_, ztn (w := Cond.methodLinkNest R_CM 18 y_Ed_init "CarouselMount") 48 (by decide +kernel)⟩⟩
theorem w_CM_18k : Cond.instanceMethod M_Ed_init.1 ∈ zm_all := (zt 49 (by decide +kernel) rfl)
theorem f_CM_19 : zm_fw R_CM 19 0 1 R_CM F_CM 4 := ⟨rfl, by decide, uin_CM, Or.inl (zt 187 (by decide +kernel) rfl)⟩
theorem fl_CM_19 : Cond.fieldLink R_CM 19 (F_CM 1).1 (F_CM 1).2.1 (F_CM 1).2.2.1 ∈ zm_all := (zt 187 (by decide +kernel) rfl)
theorem nw_CM_23 : Cond.classLink R_CM 23 R_Sn ∈ zm_all ∧ Cond.instantiable R_Sn 5 ∈ zm_all ∧ Cond.initialized R_Sn ∈ zm_all := ⟨(zt 91 (by decide +kernel) rfl), (zt 92 (by decide +kernel) rfl), (zt 5 (by decide +kernel) rfl)⟩
theorem w_CM_25 : zm_cw R_CM 25 M_Sn_init 0 := ⟨(zt 95 (by decide +kernel) rfl), (zt 5 (by decide +kernel) rfl), ⟨by decide, by decide, by decide +kernel⟩, by decide, Or.inr ⟨_, ztn (w := Cond.methodLinkNest R_CM 25 y_Sn_init "CarouselMount") 93 (by decide +kernel)⟩⟩
theorem w_CM_25k : Cond.instanceMethod M_Sn_init.1 ∈ zm_all := (zt 94 (by decide +kernel) rfl)
theorem f_CM_26 : zm_fw R_CM 26 0 2 R_CM F_CM 4 := ⟨rfl, by decide, uin_CM, Or.inl (zt 188 (by decide +kernel) rfl)⟩
theorem fl_CM_26 : Cond.fieldLink R_CM 26 (F_CM 2).1 (F_CM 2).2.1 (F_CM 2).2.2.1 ∈ zm_all := (zt 188 (by decide +kernel) rfl)
theorem nw_CM_30 : Cond.classLink R_CM 30 R_Rc ∈ zm_all ∧ Cond.instantiable R_Rc 5 ∈ zm_all ∧ Cond.initialized R_Rc ∈ zm_all := ⟨(zt 135 (by decide +kernel) rfl), (zt 136 (by decide +kernel) rfl), (zt 7 (by decide +kernel) rfl)⟩
theorem w_CM_32 : zm_cw R_CM 32 M_Rc_init 0 := ⟨(zt 139 (by decide +kernel) rfl), (zt 7 (by decide +kernel) rfl), ⟨by decide, by decide, by decide +kernel⟩, by decide, Or.inr ⟨_, ztn (w := Cond.methodLinkNest R_CM 32 y_Rc_init "CarouselMount") 137 (by decide +kernel)⟩⟩
theorem w_CM_32k : Cond.instanceMethod M_Rc_init.1 ∈ zm_all := (zt 138 (by decide +kernel) rfl)
theorem f_CM_33 : zm_fw R_CM 33 0 3 R_CM F_CM 4 := ⟨rfl, by decide, uin_CM, Or.inl (zt 189 (by decide +kernel) rfl)⟩
theorem fl_CM_33 : Cond.fieldLink R_CM 33 (F_CM 3).1 (F_CM 3).2.1 (F_CM 3).2.2.1 ∈ zm_all := (zt 189 (by decide +kernel) rfl)
theorem w_CM_37 : zm_cw R_CM 37 M_Tree_isDirectory 1 := ⟨(zt 206 (by decide +kernel) rfl), (zt 2 (by decide +kernel) rfl), ⟨by decide, by decide, by decide +kernel⟩, by decide, Or.inl (zt 203 (by decide +kernel) rfl)⟩
theorem w_CM_37k : Cond.instanceMethod M_Tree_isDirectory.1 ∈ zm_all ∧ Cond.selects M_Tree_isDirectory.1.cls M_Tree_isDirectory.1 M_Tree_isDirectory.1 ∈ zm_all := ⟨(zt 204 (by decide +kernel) rfl), (zt 205 (by decide +kernel) rfl)⟩
theorem w_CM_41 : zm_cw R_CM 41 M_Tree_hasEntry 2 := ⟨(zt 210 (by decide +kernel) rfl), (zt 2 (by decide +kernel) rfl), ⟨by decide, by decide, by decide +kernel⟩, by decide, Or.inl (zt 207 (by decide +kernel) rfl)⟩
theorem w_CM_41k : Cond.instanceMethod M_Tree_hasEntry.1 ∈ zm_all ∧ Cond.selects M_Tree_hasEntry.1.cls M_Tree_hasEntry.1 M_Tree_hasEntry.1 ∈ zm_all := ⟨(zt 208 (by decide +kernel) rfl), (zt 209 (by decide +kernel) rfl)⟩
theorem w_CM_45 : zm_cw R_CM 45 M_Tree_leastFreeKey 0 := ⟨(zt 214 (by decide +kernel) rfl), (zt 2 (by decide +kernel) rfl), ⟨by decide, by decide, by decide +kernel⟩, by decide, Or.inl (zt 211 (by decide +kernel) rfl)⟩
theorem w_CM_45k : Cond.instanceMethod M_Tree_leastFreeKey.1 ∈ zm_all ∧ Cond.selects M_Tree_leastFreeKey.1.cls M_Tree_leastFreeKey.1 M_Tree_leastFreeKey.1 ∈ zm_all := ⟨(zt 212 (by decide +kernel) rfl), (zt 213 (by decide +kernel) rfl)⟩
theorem w_CM_49 : zm_cw R_CM 49 M_Tree_put 4 := ⟨(zt 222 (by decide +kernel) rfl), (zt 2 (by decide +kernel) rfl), ⟨by decide, by decide, by decide +kernel⟩, by decide, Or.inl (zt 219 (by decide +kernel) rfl)⟩
theorem w_CM_49k : Cond.instanceMethod M_Tree_put.1 ∈ zm_all ∧ Cond.selects M_Tree_put.1.cls M_Tree_put.1 M_Tree_put.1 ∈ zm_all := ⟨(zt 220 (by decide +kernel) rfl), (zt 221 (by decide +kernel) rfl)⟩
theorem w_CM_53 : zm_cw R_CM 53 M_CM_isEntryKey 1 := ⟨(zt 229 (by decide +kernel) rfl), (zt 1 (by decide +kernel) rfl), ⟨by decide, by decide, by decide +kernel⟩, by decide, Or.inl (zt 227 (by decide +kernel) rfl)⟩
theorem w_CM_53k : Cond.static M_CM_isEntryKey.1 ∈ zm_all := (zt 228 (by decide +kernel) rfl)
theorem w_CM_56 : zm_cw R_CM 56 M_Tree_isThere 1 := ⟨(zt 218 (by decide +kernel) rfl), (zt 2 (by decide +kernel) rfl), ⟨by decide, by decide, by decide +kernel⟩, by decide, Or.inl (zt 230 (by decide +kernel) rfl)⟩
theorem w_CM_56k : Cond.instanceMethod M_Tree_isThere.1 ∈ zm_all ∧ Cond.selects M_Tree_isThere.1.cls M_Tree_isThere.1 M_Tree_isThere.1 ∈ zm_all := ⟨(zt 216 (by decide +kernel) rfl), (zt 217 (by decide +kernel) rfl)⟩
theorem w_CM_59 : zm_cw R_CM 59 M_Tree_entryCount 1 := ⟨(zt 234 (by decide +kernel) rfl), (zt 2 (by decide +kernel) rfl), ⟨by decide, by decide, by decide +kernel⟩, by decide, Or.inl (zt 231 (by decide +kernel) rfl)⟩
theorem w_CM_59k : Cond.instanceMethod M_Tree_entryCount.1 ∈ zm_all ∧ Cond.selects M_Tree_entryCount.1.cls M_Tree_entryCount.1 M_Tree_entryCount.1 ∈ zm_all := ⟨(zt 232 (by decide +kernel) rfl), (zt 233 (by decide +kernel) rfl)⟩
theorem w_CM_63 : zm_cw R_CM 63 M_Tree_take 1 := ⟨(zt 238 (by decide +kernel) rfl), (zt 2 (by decide +kernel) rfl), ⟨by decide, by decide, by decide +kernel⟩, by decide, Or.inl (zt 235 (by decide +kernel) rfl)⟩
theorem w_CM_63k : Cond.instanceMethod M_Tree_take.1 ∈ zm_all ∧ Cond.selects M_Tree_take.1.cls M_Tree_take.1 M_Tree_take.1 ∈ zm_all := ⟨(zt 236 (by decide +kernel) rfl), (zt 237 (by decide +kernel) rfl)⟩
theorem w_CM_67 : zm_cw R_CM 67 M_CM_isByte 1 := ⟨(zt 245 (by decide +kernel) rfl), (zt 1 (by decide +kernel) rfl), ⟨by decide, by decide, by decide +kernel⟩, by decide, Or.inl (zt 243 (by decide +kernel) rfl)⟩
theorem w_CM_67k : Cond.static M_CM_isByte.1 ∈ zm_all := (zt 244 (by decide +kernel) rfl)
theorem w_CM_70 : zm_cw R_CM 70 M_Tree_isFile 1 := ⟨(zt 249 (by decide +kernel) rfl), (zt 2 (by decide +kernel) rfl), ⟨by decide, by decide, by decide +kernel⟩, by decide, Or.inl (zt 246 (by decide +kernel) rfl)⟩
theorem w_CM_70k : Cond.instanceMethod M_Tree_isFile.1 ∈ zm_all ∧ Cond.selects M_Tree_isFile.1.cls M_Tree_isFile.1 M_Tree_isFile.1 ∈ zm_all := ⟨(zt 247 (by decide +kernel) rfl), (zt 248 (by decide +kernel) rfl)⟩
theorem w_CM_73 : zm_cw R_CM 73 M_Tree_fileLength 1 := ⟨(zt 253 (by decide +kernel) rfl), (zt 2 (by decide +kernel) rfl), ⟨by decide, by decide, by decide +kernel⟩, by decide, Or.inl (zt 250 (by decide +kernel) rfl)⟩
theorem w_CM_73k : Cond.instanceMethod M_Tree_fileLength.1 ∈ zm_all ∧ Cond.selects M_Tree_fileLength.1.cls M_Tree_fileLength.1 M_Tree_fileLength.1 ∈ zm_all := ⟨(zt 251 (by decide +kernel) rfl), (zt 252 (by decide +kernel) rfl)⟩
theorem w_CM_76 : zm_cw R_CM 76 M_Tree_addByte 2 := ⟨(zt 257 (by decide +kernel) rfl), (zt 2 (by decide +kernel) rfl), ⟨by decide, by decide, by decide +kernel⟩, by decide, Or.inl (zt 254 (by decide +kernel) rfl)⟩
theorem w_CM_76k : Cond.instanceMethod M_Tree_addByte.1 ∈ zm_all ∧ Cond.selects M_Tree_addByte.1.cls M_Tree_addByte.1 M_Tree_addByte.1 ∈ zm_all := ⟨(zt 255 (by decide +kernel) rfl), (zt 256 (by decide +kernel) rfl)⟩
theorem w_CM_80 : zm_cw R_CM 80 M_Tree_clearFile 1 := ⟨(zt 265 (by decide +kernel) rfl), (zt 2 (by decide +kernel) rfl), ⟨by decide, by decide, by decide +kernel⟩, by decide, Or.inl (zt 262 (by decide +kernel) rfl)⟩
theorem w_CM_80k : Cond.instanceMethod M_Tree_clearFile.1 ∈ zm_all ∧ Cond.selects M_Tree_clearFile.1.cls M_Tree_clearFile.1 M_Tree_clearFile.1 ∈ zm_all := ⟨(zt 263 (by decide +kernel) rfl), (zt 264 (by decide +kernel) rfl)⟩
theorem w_CM_83 : zm_cw R_CM 83 M_Ed_renew 1 := ⟨(zt 273 (by decide +kernel) rfl), (zt 4 (by decide +kernel) rfl), ⟨by decide, by decide, by decide +kernel⟩, by decide, Or.inl (zt 270 (by decide +kernel) rfl)⟩
theorem w_CM_83k : Cond.instanceMethod M_Ed_renew.1 ∈ zm_all ∧ Cond.selects M_Ed_renew.1.cls M_Ed_renew.1 M_Ed_renew.1 ∈ zm_all := ⟨(zt 271 (by decide +kernel) rfl), (zt 272 (by decide +kernel) rfl)⟩
theorem w_CM_87 : zm_cw R_CM 87 M_Sn_beginCycleOf 1 := ⟨(zt 345 (by decide +kernel) rfl), (zt 5 (by decide +kernel) rfl), ⟨by decide, by decide, by decide +kernel⟩, by decide, Or.inl (zt 342 (by decide +kernel) rfl)⟩
theorem w_CM_87k : Cond.instanceMethod M_Sn_beginCycleOf.1 ∈ zm_all ∧ Cond.selects M_Sn_beginCycleOf.1.cls M_Sn_beginCycleOf.1 M_Sn_beginCycleOf.1 ∈ zm_all := ⟨(zt 343 (by decide +kernel) rfl), (zt 344 (by decide +kernel) rfl)⟩
theorem f_CM_91 : zm_fw R_CM 91 2 0 R_Ed F_Ed 10 := ⟨rfl, by decide, uin_Ed, Or.inl (zt 54 (by decide +kernel) rfl)⟩
theorem fl_CM_91 : Cond.fieldLink R_CM 91 (F_Ed 0).1 (F_Ed 0).2.1 (F_Ed 0).2.2.1 ∈ zm_all := (zt 54 (by decide +kernel) rfl)
theorem f_CM_95 : zm_fw R_CM 95 2 1 R_Ed F_Ed 10 := ⟨rfl, by decide, uin_Ed, Or.inl (zt 57 (by decide +kernel) rfl)⟩
theorem fl_CM_95 : Cond.fieldLink R_CM 95 (F_Ed 1).1 (F_Ed 1).2.1 (F_Ed 1).2.2.1 ∈ zm_all := (zt 57 (by decide +kernel) rfl)
theorem k_CM_98 : Cond.constant R_CM 98 65536 ∈ zm_all := (zt 405 (by decide +kernel) rfl)
theorem f_CM_99 : zm_fw R_CM 99 2 3 R_Ed F_Ed 10 := ⟨rfl, by decide, uin_Ed, Or.inl (zt 63 (by decide +kernel) rfl)⟩
theorem fl_CM_99 : Cond.fieldLink R_CM 99 (F_Ed 3).1 (F_Ed 3).2.1 (F_Ed 3).2.2.1 ∈ zm_all := (zt 63 (by decide +kernel) rfl)
theorem f_CM_103 : zm_fw R_CM 103 2 2 R_Ed F_Ed 10 := ⟨rfl, by decide, uin_Ed, Or.inl (zt 60 (by decide +kernel) rfl)⟩
theorem fl_CM_103 : Cond.fieldLink R_CM 103 (F_Ed 2).1 (F_Ed 2).2.1 (F_Ed 2).2.2.1 ∈ zm_all := (zt 60 (by decide +kernel) rfl)
theorem w_CM_106 : zm_cw R_CM 106 M_Sn_isOnAir 0 := ⟨(zt 413 (by decide +kernel) rfl), (zt 5 (by decide +kernel) rfl), ⟨by decide, by decide, by decide +kernel⟩, by decide, Or.inl (zt 410 (by decide +kernel) rfl)⟩
theorem w_CM_106k : Cond.instanceMethod M_Sn_isOnAir.1 ∈ zm_all ∧ Cond.selects M_Sn_isOnAir.1.cls M_Sn_isOnAir.1 M_Sn_isOnAir.1 ∈ zm_all := ⟨(zt 411 (by decide +kernel) rfl), (zt 412 (by decide +kernel) rfl)⟩
theorem f_CM_110 : zm_fw R_CM 110 3 0 R_Sn F_Sn 5 := ⟨rfl, by decide, uin_Sn, Or.inl (zt 119 (by decide +kernel) rfl)⟩
theorem fl_CM_110 : Cond.fieldLink R_CM 110 (F_Sn 0).1 (F_Sn 0).2.1 (F_Sn 0).2.2.1 ∈ zm_all := (zt 119 (by decide +kernel) rfl)
theorem w_CM_113 : zm_cw R_CM 113 M_Rc_takePacket 1 := ⟨(zt 421 (by decide +kernel) rfl), (zt 7 (by decide +kernel) rfl), ⟨by decide, by decide, by decide +kernel⟩, by decide, Or.inl (zt 418 (by decide +kernel) rfl)⟩
theorem w_CM_113k : Cond.instanceMethod M_Rc_takePacket.1 ∈ zm_all ∧ Cond.selects M_Rc_takePacket.1.cls M_Rc_takePacket.1 M_Rc_takePacket.1 ∈ zm_all := ⟨(zt 419 (by decide +kernel) rfl), (zt 420 (by decide +kernel) rfl)⟩
theorem w_CM_117 : zm_cw R_CM 117 M_Sn_advance 0 := ⟨(zt 481 (by decide +kernel) rfl), (zt 5 (by decide +kernel) rfl), ⟨by decide, by decide, by decide +kernel⟩, by decide, Or.inl (zt 478 (by decide +kernel) rfl)⟩
theorem w_CM_117k : Cond.instanceMethod M_Sn_advance.1 ∈ zm_all ∧ Cond.selects M_Sn_advance.1.cls M_Sn_advance.1 M_Sn_advance.1 ∈ zm_all := ⟨(zt 479 (by decide +kernel) rfl), (zt 480 (by decide +kernel) rfl)⟩
theorem w_CM_120 : zm_cw R_CM 120 M_Rc_reset 0 := ⟨(zt 497 (by decide +kernel) rfl), (zt 7 (by decide +kernel) rfl), ⟨by decide, by decide, by decide +kernel⟩, by decide, Or.inl (zt 494 (by decide +kernel) rfl)⟩
theorem w_CM_120k : Cond.instanceMethod M_Rc_reset.1 ∈ zm_all ∧ Cond.selects M_Rc_reset.1.cls M_Rc_reset.1 M_Rc_reset.1 ∈ zm_all := ⟨(zt 495 (by decide +kernel) rfl), (zt 496 (by decide +kernel) rfl)⟩
theorem f_CM_123 : zm_fw R_CM 123 5 1 R_Rc F_Rc 5 := ⟨rfl, by decide, uin_Rc, Or.inl (zt 171 (by decide +kernel) rfl)⟩
theorem fl_CM_123 : Cond.fieldLink R_CM 123 (F_Rc 1).1 (F_Rc 1).2.1 (F_Rc 1).2.2.1 ∈ zm_all := (zt 171 (by decide +kernel) rfl)
theorem f_CM_126 : zm_fw R_CM 126 5 0 R_Rc F_Rc 5 := ⟨rfl, by decide, uin_Rc, Or.inl (zt 169 (by decide +kernel) rfl)⟩
theorem fl_CM_126 : Cond.fieldLink R_CM 126 (F_Rc 0).1 (F_Rc 0).2.1 (F_Rc 0).2.2.1 ∈ zm_all := (zt 169 (by decide +kernel) rfl)
theorem f_CM_130 : zm_fw R_CM 130 6 0 R_Mt F_Mt 6 := ⟨rfl, by decide, uin_Mt, Or.inl (zt 148 (by decide +kernel) rfl)⟩
theorem fl_CM_130 : Cond.fieldLink R_CM 130 (F_Mt 0).1 (F_Mt 0).2.1 (F_Mt 0).2.2.1 ∈ zm_all := (zt 148 (by decide +kernel) rfl)
theorem f_CM_136 : zm_fw R_CM 136 6 1 R_Mt F_Mt 6 := ⟨rfl, by decide, uin_Mt, Or.inl (zt 150 (by decide +kernel) rfl)⟩
theorem fl_CM_136 : Cond.fieldLink R_CM 136 (F_Mt 1).1 (F_Mt 1).2.1 (F_Mt 1).2.2.1 ∈ zm_all := (zt 150 (by decide +kernel) rfl)
theorem w_CM_139 : zm_cw R_CM 139 M_Mt_isListed 1 := ⟨(zt 470 (by decide +kernel) rfl), (zt 8 (by decide +kernel) rfl), ⟨by decide, by decide, by decide +kernel⟩, by decide, Or.inl (zt 515 (by decide +kernel) rfl)⟩
theorem w_CM_139k : Cond.instanceMethod M_Mt_isListed.1 ∈ zm_all ∧ Cond.selects M_Mt_isListed.1.cls M_Mt_isListed.1 M_Mt_isListed.1 ∈ zm_all := ⟨(zt 468 (by decide +kernel) rfl), (zt 469 (by decide +kernel) rfl)⟩
theorem w_CM_142 : zm_cw R_CM 142 M_Mt_blocksHeld 1 := ⟨(zt 519 (by decide +kernel) rfl), (zt 8 (by decide +kernel) rfl), ⟨by decide, by decide, by decide +kernel⟩, by decide, Or.inl (zt 516 (by decide +kernel) rfl)⟩
theorem w_CM_142k : Cond.instanceMethod M_Mt_blocksHeld.1 ∈ zm_all ∧ Cond.selects M_Mt_blocksHeld.1.cls M_Mt_blocksHeld.1 M_Mt_blocksHeld.1 ∈ zm_all := ⟨(zt 517 (by decide +kernel) rfl), (zt 518 (by decide +kernel) rfl)⟩
theorem w_CM_145 : zm_cw R_CM 145 M_CM_follow 3 := ⟨(zt 533 (by decide +kernel) rfl), (zt 1 (by decide +kernel) rfl), ⟨by decide, by decide, by decide +kernel⟩, by decide, Or.inl (zt 530 (by decide +kernel) rfl)⟩
theorem w_CM_145k : Cond.instanceMethod M_CM_follow.1 ∈ zm_all ∧ Cond.selects M_CM_follow.1.cls M_CM_follow.1 M_CM_follow.1 ∈ zm_all := ⟨(zt 532 (by decide +kernel) rfl), (zs (y := y_CM_follow) (n := 4) 25 (by decide +kernel))⟩
theorem w_CM_149 : zm_cw R_CM 149 M_Mt_kindAt 1 := ⟨(zt 554 (by decide +kernel) rfl), (zt 8 (by decide +kernel) rfl), ⟨by decide, by decide, by decide +kernel⟩, by decide, Or.inl (zt 567 (by decide +kernel) rfl)⟩
theorem w_CM_149k : Cond.instanceMethod M_Mt_kindAt.1 ∈ zm_all ∧ Cond.selects M_Mt_kindAt.1.cls M_Mt_kindAt.1 M_Mt_kindAt.1 ∈ zm_all := ⟨(zt 552 (by decide +kernel) rfl), (zt 553 (by decide +kernel) rfl)⟩
theorem w_CM_152 : zm_cw R_CM 152 M_Mt_lengthAt 1 := ⟨(zt 550 (by decide +kernel) rfl), (zt 8 (by decide +kernel) rfl), ⟨by decide, by decide, by decide +kernel⟩, by decide, Or.inl (zt 572 (by decide +kernel) rfl)⟩
theorem w_CM_152k : Cond.instanceMethod M_Mt_lengthAt.1 ∈ zm_all ∧ Cond.selects M_Mt_lengthAt.1.cls M_Mt_lengthAt.1 M_Mt_lengthAt.1 ∈ zm_all := ⟨(zt 548 (by decide +kernel) rfl), (zt 549 (by decide +kernel) rfl)⟩
theorem w_CM_155 : zm_cw R_CM 155 M_Mt_isDirectoryAt 1 := ⟨(zt 562 (by decide +kernel) rfl), (zt 8 (by decide +kernel) rfl), ⟨by decide, by decide, by decide +kernel⟩, by decide, Or.inl (zt 573 (by decide +kernel) rfl)⟩
theorem w_CM_155k : Cond.instanceMethod M_Mt_isDirectoryAt.1 ∈ zm_all ∧ Cond.selects M_Mt_isDirectoryAt.1.cls M_Mt_isDirectoryAt.1 M_Mt_isDirectoryAt.1 ∈ zm_all := ⟨(zt 560 (by decide +kernel) rfl), (zt 561 (by decide +kernel) rfl)⟩
theorem w_CM_158 : zm_cw R_CM 158 M_Mt_contentAt 2 := ⟨(zt 581 (by decide +kernel) rfl), (zt 8 (by decide +kernel) rfl), ⟨by decide, by decide, by decide +kernel⟩, by decide, Or.inl (zt 578 (by decide +kernel) rfl)⟩
theorem w_CM_158k : Cond.instanceMethod M_Mt_contentAt.1 ∈ zm_all ∧ Cond.selects M_Mt_contentAt.1.cls M_Mt_contentAt.1 M_Mt_contentAt.1 ∈ zm_all := ⟨(zt 579 (by decide +kernel) rfl), (zt 580 (by decide +kernel) rfl)⟩
theorem w_CM_161 : zm_cw R_CM 161 M_Mt_gateway 0 := ⟨(zt 537 (by decide +kernel) rfl), (zt 8 (by decide +kernel) rfl), ⟨by decide, by decide, by decide +kernel⟩, by decide, Or.inl (zt 534 (by decide +kernel) rfl)⟩
theorem w_CM_161k : Cond.instanceMethod M_Mt_gateway.1 ∈ zm_all ∧ Cond.selects M_Mt_gateway.1.cls M_Mt_gateway.1 M_Mt_gateway.1 ∈ zm_all := ⟨(zt 535 (by decide +kernel) rfl), (zt 536 (by decide +kernel) rfl)⟩
theorem w_CM_164 : zm_cw R_CM 164 M_Mt_enter 2 := ⟨(zt 558 (by decide +kernel) rfl), (zt 8 (by decide +kernel) rfl), ⟨by decide, by decide, by decide +kernel⟩, by decide, Or.inl (zt 555 (by decide +kernel) rfl)⟩
theorem w_CM_164k : Cond.instanceMethod M_Mt_enter.1 ∈ zm_all ∧ Cond.selects M_Mt_enter.1.cls M_Mt_enter.1 M_Mt_enter.1 ∈ zm_all := ⟨(zt 556 (by decide +kernel) rfl), (zt 557 (by decide +kernel) rfl)⟩
theorem k_CM_167 : Cond.constant R_CM 167 79764919 ∈ zm_all := (zt 373 (by decide +kernel) rfl)
theorem oi_Md_1 : Cond.methodLink R_Md 1 Lib.objectInit ∈ zm_all ∧ Cond.instanceMethod Lib.objectInit ∈ zm_all ∧ Cond.code Lib.objectInit ⟨#[0xb1]⟩ 1 none ∈ zm_all := ⟨(zt 587 (by decide +kernel) rfl), (zt 18 (by decide +kernel) rfl), zt 19 rfl rfl⟩
theorem f_Md_7 : zm_fw R_Md 7 7 0 R_Md F_Md 33 := ⟨rfl, by decide, uin_Md, Or.inl (zt 588 (by decide +kernel) rfl)⟩
theorem fl_Md_7 : Cond.fieldLink R_Md 7 (F_Md 0).1 (F_Md 0).2.1 (F_Md 0).2.2.1 ∈ zm_all := (zt 588 (by decide +kernel) rfl)
theorem f_Md_13 : zm_fw R_Md 13 7 1 R_Md F_Md 33 := ⟨rfl, by decide, uin_Md, Or.inl (zt 589 (by decide +kernel) rfl)⟩
theorem fl_Md_13 : Cond.fieldLink R_Md 13 (F_Md 1).1 (F_Md 1).2.1 (F_Md 1).2.2.1 ∈ zm_all := (zt 589 (by decide +kernel) rfl)
theorem f_Md_16 : zm_fw R_Md 16 7 2 R_Md F_Md 33 := ⟨rfl, by decide, uin_Md, Or.inl (zt 590 (by decide +kernel) rfl)⟩
theorem fl_Md_16 : Cond.fieldLink R_Md 16 (F_Md 2).1 (F_Md 2).2.1 (F_Md 2).2.2.1 ∈ zm_all := (zt 590 (by decide +kernel) rfl)
theorem f_Md_19 : zm_fw R_Md 19 7 3 R_Md F_Md 33 := ⟨rfl, by decide, uin_Md, Or.inl (zt 591 (by decide +kernel) rfl)⟩
theorem fl_Md_19 : Cond.fieldLink R_Md 19 (F_Md 3).1 (F_Md 3).2.1 (F_Md 3).2.2.1 ∈ zm_all := (zt 591 (by decide +kernel) rfl)
theorem f_Md_22 : zm_fw R_Md 22 7 4 R_Md F_Md 33 := ⟨rfl, by decide, uin_Md, Or.inl (zt 592 (by decide +kernel) rfl)⟩
theorem fl_Md_22 : Cond.fieldLink R_Md 22 (F_Md 4).1 (F_Md 4).2.1 (F_Md 4).2.2.1 ∈ zm_all := (zt 592 (by decide +kernel) rfl)
theorem f_Md_25 : zm_fw R_Md 25 7 7 R_Md F_Md 33 := ⟨rfl, by decide, uin_Md, Or.inl (zt 595 (by decide +kernel) rfl)⟩
theorem fl_Md_25 : Cond.fieldLink R_Md 25 (F_Md 7).1 (F_Md 7).2.1 (F_Md 7).2.2.1 ∈ zm_all := (zt 595 (by decide +kernel) rfl)
theorem f_Md_28 : zm_fw R_Md 28 7 8 R_Md F_Md 33 := ⟨rfl, by decide, uin_Md, Or.inl (zt 596 (by decide +kernel) rfl)⟩
theorem fl_Md_28 : Cond.fieldLink R_Md 28 (F_Md 8).1 (F_Md 8).2.1 (F_Md 8).2.2.1 ∈ zm_all := (zt 596 (by decide +kernel) rfl)
theorem f_Md_31 : zm_fw R_Md 31 7 9 R_Md F_Md 33 := ⟨rfl, by decide, uin_Md, Or.inl (zt 597 (by decide +kernel) rfl)⟩
theorem fl_Md_31 : Cond.fieldLink R_Md 31 (F_Md 9).1 (F_Md 9).2.1 (F_Md 9).2.2.1 ∈ zm_all := (zt 597 (by decide +kernel) rfl)
theorem f_Md_34 : zm_fw R_Md 34 7 11 R_Md F_Md 33 := ⟨rfl, by decide, uin_Md, Or.inl (zt 599 (by decide +kernel) rfl)⟩
theorem fl_Md_34 : Cond.fieldLink R_Md 34 (F_Md 11).1 (F_Md 11).2.1 (F_Md 11).2.2.1 ∈ zm_all := (zt 599 (by decide +kernel) rfl)
theorem f_Md_37 : zm_fw R_Md 37 7 12 R_Md F_Md 33 := ⟨rfl, by decide, uin_Md, Or.inl (zt 600 (by decide +kernel) rfl)⟩
theorem fl_Md_37 : Cond.fieldLink R_Md 37 (F_Md 12).1 (F_Md 12).2.1 (F_Md 12).2.2.1 ∈ zm_all := (zt 600 (by decide +kernel) rfl)
theorem f_Md_40 : zm_fw R_Md 40 7 13 R_Md F_Md 33 := ⟨rfl, by decide, uin_Md, Or.inl (zt 601 (by decide +kernel) rfl)⟩
theorem fl_Md_40 : Cond.fieldLink R_Md 40 (F_Md 13).1 (F_Md 13).2.1 (F_Md 13).2.2.1 ∈ zm_all := (zt 601 (by decide +kernel) rfl)
theorem f_Md_43 : zm_fw R_Md 43 7 14 R_Md F_Md 33 := ⟨rfl, by decide, uin_Md, Or.inl (zt 602 (by decide +kernel) rfl)⟩
theorem fl_Md_43 : Cond.fieldLink R_Md 43 (F_Md 14).1 (F_Md 14).2.1 (F_Md 14).2.2.1 ∈ zm_all := (zt 602 (by decide +kernel) rfl)
theorem f_Md_46 : zm_fw R_Md 46 7 15 R_Md F_Md 33 := ⟨rfl, by decide, uin_Md, Or.inl (zt 603 (by decide +kernel) rfl)⟩
theorem fl_Md_46 : Cond.fieldLink R_Md 46 (F_Md 15).1 (F_Md 15).2.1 (F_Md 15).2.2.1 ∈ zm_all := (zt 603 (by decide +kernel) rfl)
theorem f_Md_49 : zm_fw R_Md 49 7 16 R_Md F_Md 33 := ⟨rfl, by decide, uin_Md, Or.inl (zt 604 (by decide +kernel) rfl)⟩
theorem fl_Md_49 : Cond.fieldLink R_Md 49 (F_Md 16).1 (F_Md 16).2.1 (F_Md 16).2.2.1 ∈ zm_all := (zt 604 (by decide +kernel) rfl)
theorem f_Md_53 : zm_fw R_Md 53 7 21 R_Md F_Md 33 := ⟨rfl, by decide, uin_Md, Or.inl (zt 609 (by decide +kernel) rfl)⟩
theorem fl_Md_53 : Cond.fieldLink R_Md 53 (F_Md 21).1 (F_Md 21).2.1 (F_Md 21).2.2.1 ∈ zm_all := (zt 609 (by decide +kernel) rfl)
theorem f_Md_56 : zm_fw R_Md 56 7 22 R_Md F_Md 33 := ⟨rfl, by decide, uin_Md, Or.inl (zt 610 (by decide +kernel) rfl)⟩
theorem fl_Md_56 : Cond.fieldLink R_Md 56 (F_Md 22).1 (F_Md 22).2.1 (F_Md 22).2.2.1 ∈ zm_all := (zt 610 (by decide +kernel) rfl)
theorem f_Md_60 : zm_fw R_Md 60 7 23 R_Md F_Md 33 := ⟨rfl, by decide, uin_Md, Or.inl (zt 611 (by decide +kernel) rfl)⟩
theorem fl_Md_60 : Cond.fieldLink R_Md 60 (F_Md 23).1 (F_Md 23).2.1 (F_Md 23).2.2.1 ∈ zm_all := (zt 611 (by decide +kernel) rfl)
theorem f_Md_63 : zm_fw R_Md 63 7 24 R_Md F_Md 33 := ⟨rfl, by decide, uin_Md, Or.inl (zt 612 (by decide +kernel) rfl)⟩
theorem fl_Md_63 : Cond.fieldLink R_Md 63 (F_Md 24).1 (F_Md 24).2.1 (F_Md 24).2.2.1 ∈ zm_all := (zt 612 (by decide +kernel) rfl)
theorem f_Md_66 : zm_fw R_Md 66 7 25 R_Md F_Md 33 := ⟨rfl, by decide, uin_Md, Or.inl (zt 613 (by decide +kernel) rfl)⟩
theorem fl_Md_66 : Cond.fieldLink R_Md 66 (F_Md 25).1 (F_Md 25).2.1 (F_Md 25).2.2.1 ∈ zm_all := (zt 613 (by decide +kernel) rfl)
theorem f_Md_69 : zm_fw R_Md 69 7 26 R_Md F_Md 33 := ⟨rfl, by decide, uin_Md, Or.inl (zt 614 (by decide +kernel) rfl)⟩
theorem fl_Md_69 : Cond.fieldLink R_Md 69 (F_Md 26).1 (F_Md 26).2.1 (F_Md 26).2.2.1 ∈ zm_all := (zt 614 (by decide +kernel) rfl)
theorem f_Md_72 : zm_fw R_Md 72 7 27 R_Md F_Md 33 := ⟨rfl, by decide, uin_Md, Or.inl (zt 615 (by decide +kernel) rfl)⟩
theorem fl_Md_72 : Cond.fieldLink R_Md 72 (F_Md 27).1 (F_Md 27).2.1 (F_Md 27).2.2.1 ∈ zm_all := (zt 615 (by decide +kernel) rfl)
theorem f_Md_75 : zm_fw R_Md 75 7 28 R_Md F_Md 33 := ⟨rfl, by decide, uin_Md, Or.inl (zt 616 (by decide +kernel) rfl)⟩
theorem fl_Md_75 : Cond.fieldLink R_Md 75 (F_Md 28).1 (F_Md 28).2.1 (F_Md 28).2.2.1 ∈ zm_all := (zt 616 (by decide +kernel) rfl)
theorem f_Md_78 : zm_fw R_Md 78 7 31 R_Md F_Md 33 := ⟨rfl, by decide, uin_Md, Or.inl (zt 619 (by decide +kernel) rfl)⟩
theorem fl_Md_78 : Cond.fieldLink R_Md 78 (F_Md 31).1 (F_Md 31).2.1 (F_Md 31).2.2.1 ∈ zm_all := (zt 619 (by decide +kernel) rfl)
theorem f_Md_81 : zm_fw R_Md 81 7 32 R_Md F_Md 33 := ⟨rfl, by decide, uin_Md, Or.inl (zt 620 (by decide +kernel) rfl)⟩
theorem fl_Md_81 : Cond.fieldLink R_Md 81 (F_Md 32).1 (F_Md 32).2.1 (F_Md 32).2.2.1 ∈ zm_all := (zt 620 (by decide +kernel) rfl)
theorem w_Md_84 : zm_cw R_Md 84 M_Md_within 3 := ⟨(zt 695 (by decide +kernel) rfl), (zt 9 (by decide +kernel) rfl), ⟨by decide, by decide, by decide +kernel⟩, by decide, Or.inl (zt 693 (by decide +kernel) rfl)⟩
theorem w_Md_84k : Cond.static M_Md_within.1 ∈ zm_all := (zt 694 (by decide +kernel) rfl)
theorem w_Md_88 : zm_cw R_Md 88 M_Md_after 2 := ⟨(zt 699 (by decide +kernel) rfl), (zt 9 (by decide +kernel) rfl), ⟨by decide, by decide, by decide +kernel⟩, by decide, Or.inl (zt 696 (by decide +kernel) rfl)⟩
theorem w_Md_88k : Cond.instanceMethod M_Md_after.1 ∈ zm_all ∧ Cond.selects M_Md_after.1.cls M_Md_after.1 M_Md_after.1 ∈ zm_all := ⟨(zt 698 (by decide +kernel) rfl), (zs (y := y_Md_after) (n := 33) 29 (by decide +kernel))⟩
theorem w_Md_92 : zm_cw R_Md 92 M_Md_put 2 := ⟨(zt 735 (by decide +kernel) rfl), (zt 9 (by decide +kernel) rfl), ⟨by decide, by decide, by decide +kernel⟩, by decide, Or.inl (zt 732 (by decide +kernel) rfl)⟩
theorem w_Md_92k : Cond.instanceMethod M_Md_put.1 ∈ zm_all ∧ Cond.selects M_Md_put.1.cls M_Md_put.1 M_Md_put.1 ∈ zm_all := ⟨(zt 734 (by decide +kernel) rfl), (zs (y := y_Md_put) (n := 33) 34 (by decide +kernel))⟩
theorem w_Md_96 : zm_cw R_Md 96 M_Md_payload 1 := ⟨(zt 723 (by decide +kernel) rfl), (zt 9 (by decide +kernel) rfl), ⟨by decide, by decide, by decide +kernel⟩, by decide, Or.inl (zt 720 (by decide +kernel) rfl)⟩
theorem w_Md_96k : Cond.instanceMethod M_Md_payload.1 ∈ zm_all ∧ Cond.selects M_Md_payload.1.cls M_Md_payload.1 M_Md_payload.1 ∈ zm_all := ⟨(zt 722 (by decide +kernel) rfl), (zs (y := y_Md_payload) (n := 33) 31 (by decide +kernel))⟩
theorem f_Md_100 : zm_fw R_Md 100 7 6 R_Md F_Md 33 := ⟨rfl, by decide, uin_Md, Or.inl (zt 594 (by decide +kernel) rfl)⟩
theorem fl_Md_100 : Cond.fieldLink R_Md 100 (F_Md 6).1 (F_Md 6).2.1 (F_Md 6).2.2.1 ∈ zm_all := (zt 594 (by decide +kernel) rfl)
theorem f_Md_103 : zm_fw R_Md 103 7 10 R_Md F_Md 33 := ⟨rfl, by decide, uin_Md, Or.inl (zt 598 (by decide +kernel) rfl)⟩
theorem fl_Md_103 : Cond.fieldLink R_Md 103 (F_Md 10).1 (F_Md 10).2.1 (F_Md 10).2.2.1 ∈ zm_all := (zt 598 (by decide +kernel) rfl)
theorem w_Md_106 : zm_cw R_Md 106 M_Md_keepOld 0 := ⟨(zt 719 (by decide +kernel) rfl), (zt 9 (by decide +kernel) rfl), ⟨by decide, by decide, by decide +kernel⟩, by decide, Or.inl (zt 716 (by decide +kernel) rfl)⟩
theorem w_Md_106k : Cond.instanceMethod M_Md_keepOld.1 ∈ zm_all ∧ Cond.selects M_Md_keepOld.1.cls M_Md_keepOld.1 M_Md_keepOld.1 ∈ zm_all := ⟨(zt 718 (by decide +kernel) rfl), (zs (y := y_Md_keepOld) (n := 33) 30 (by decide +kernel))⟩
theorem f_Md_109 : zm_fw R_Md 109 7 5 R_Md F_Md 33 := ⟨rfl, by decide, uin_Md, Or.inl (zt 593 (by decide +kernel) rfl)⟩
theorem fl_Md_109 : Cond.fieldLink R_Md 109 (F_Md 5).1 (F_Md 5).2.1 (F_Md 5).2.2.1 ∈ zm_all := (zt 593 (by decide +kernel) rfl)
theorem w_Md_112 : zm_cw R_Md 112 M_Md_next 1 := ⟨(zt 727 (by decide +kernel) rfl), (zt 9 (by decide +kernel) rfl), ⟨by decide, by decide, by decide +kernel⟩, by decide, Or.inl (zt 724 (by decide +kernel) rfl)⟩
theorem w_Md_112k : Cond.instanceMethod M_Md_next.1 ∈ zm_all ∧ Cond.selects M_Md_next.1.cls M_Md_next.1 M_Md_next.1 ∈ zm_all := ⟨(zt 726 (by decide +kernel) rfl), (zs (y := y_Md_next) (n := 33) 32 (by decide +kernel))⟩
theorem w_Md_115 : zm_cw R_Md 115 M_Md_message 1 := ⟨(zt 731 (by decide +kernel) rfl), (zt 9 (by decide +kernel) rfl), ⟨by decide, by decide, by decide +kernel⟩, by decide, Or.inl (zt 728 (by decide +kernel) rfl)⟩
theorem w_Md_115k : Cond.instanceMethod M_Md_message.1 ∈ zm_all ∧ Cond.selects M_Md_message.1.cls M_Md_message.1 M_Md_message.1 ∈ zm_all := ⟨(zt 730 (by decide +kernel) rfl), (zs (y := y_Md_message) (n := 33) 33 (by decide +kernel))⟩
theorem w_Md_119 : zm_cw R_Md 119 M_Md_unchanged 1 := ⟨(zt 739 (by decide +kernel) rfl), (zt 9 (by decide +kernel) rfl), ⟨by decide, by decide, by decide +kernel⟩, by decide, Or.inl (zt 736 (by decide +kernel) rfl)⟩
theorem w_Md_119k : Cond.instanceMethod M_Md_unchanged.1 ∈ zm_all ∧ Cond.selects M_Md_unchanged.1.cls M_Md_unchanged.1 M_Md_unchanged.1 ∈ zm_all := ⟨(zt 738 (by decide +kernel) rfl), (zs (y := y_Md_unchanged) (n := 33) 35 (by decide +kernel))⟩
theorem w_Md_123 : zm_cw R_Md 123 M_Md_writeCycle 0 := ⟨(zt 743 (by decide +kernel) rfl), (zt 9 (by decide +kernel) rfl), ⟨by decide, by decide, by decide +kernel⟩, by decide, Or.inl (zt 740 (by decide +kernel) rfl)⟩
theorem w_Md_123k : Cond.instanceMethod M_Md_writeCycle.1 ∈ zm_all ∧ Cond.selects M_Md_writeCycle.1.cls M_Md_writeCycle.1 M_Md_writeCycle.1 ∈ zm_all := ⟨(zt 742 (by decide +kernel) rfl), (zs (y := y_Md_writeCycle) (n := 33) 36 (by decide +kernel))⟩
theorem f_Md_126 : zm_fw R_Md 126 7 19 R_Md F_Md 33 := ⟨rfl, by decide, uin_Md, Or.inl (zt 607 (by decide +kernel) rfl)⟩
theorem fl_Md_126 : Cond.fieldLink R_Md 126 (F_Md 19).1 (F_Md 19).2.1 (F_Md 19).2.2.1 ∈ zm_all := (zt 607 (by decide +kernel) rfl)
theorem k_Md_129 : Cond.constant R_Md 129 79764919 ∈ zm_all := (zt 751 (by decide +kernel) rfl)
theorem f_Md_130 : zm_fw R_Md 130 7 17 R_Md F_Md 33 := ⟨rfl, by decide, uin_Md, Or.inl (zt 605 (by decide +kernel) rfl)⟩
theorem fl_Md_130 : Cond.fieldLink R_Md 130 (F_Md 17).1 (F_Md 17).2.1 (F_Md 17).2.2.1 ∈ zm_all := (zt 605 (by decide +kernel) rfl)
theorem f_Md_133 : zm_fw R_Md 133 7 18 R_Md F_Md 33 := ⟨rfl, by decide, uin_Md, Or.inl (zt 606 (by decide +kernel) rfl)⟩
theorem fl_Md_133 : Cond.fieldLink R_Md 133 (F_Md 18).1 (F_Md 18).2.1 (F_Md 18).2.2.1 ∈ zm_all := (zt 606 (by decide +kernel) rfl)
theorem w_Md_136 : zm_cw R_Md 136 M_Md_mixed 2 := ⟨(zt 750 (by decide +kernel) rfl), (zt 9 (by decide +kernel) rfl), ⟨by decide, by decide, by decide +kernel⟩, by decide, Or.inl (zt 748 (by decide +kernel) rfl)⟩
theorem w_Md_136k : Cond.static M_Md_mixed.1 ∈ zm_all := (zt 749 (by decide +kernel) rfl)
theorem w_Md_139 : zm_cw R_Md 139 M_Md_emit 1 := ⟨(zt 747 (by decide +kernel) rfl), (zt 9 (by decide +kernel) rfl), ⟨by decide, by decide, by decide +kernel⟩, by decide, Or.inl (zt 744 (by decide +kernel) rfl)⟩
theorem w_Md_139k : Cond.instanceMethod M_Md_emit.1 ∈ zm_all ∧ Cond.selects M_Md_emit.1.cls M_Md_emit.1 M_Md_emit.1 ∈ zm_all := ⟨(zt 746 (by decide +kernel) rfl), (zs (y := y_Md_emit) (n := 33) 37 (by decide +kernel))⟩
theorem w_Md_142 : zm_cw R_Md 142 M_Md_emitPair 1 := ⟨(zt 755 (by decide +kernel) rfl), (zt 9 (by decide +kernel) rfl), ⟨by decide, by decide, by decide +kernel⟩, by decide, Or.inl (zt 752 (by decide +kernel) rfl)⟩
theorem w_Md_142k : Cond.instanceMethod M_Md_emitPair.1 ∈ zm_all ∧ Cond.selects M_Md_emitPair.1.cls M_Md_emitPair.1 M_Md_emitPair.1 ∈ zm_all := ⟨(zt 754 (by decide +kernel) rfl), (zs (y := y_Md_emitPair) (n := 33) 38 (by decide +kernel))⟩
theorem w_Md_145 : zm_cw R_Md 145 M_Md_emitCheck 0 := ⟨(zt 759 (by decide +kernel) rfl), (zt 9 (by decide +kernel) rfl), ⟨by decide, by decide, by decide +kernel⟩, by decide, Or.inl (zt 756 (by decide +kernel) rfl)⟩
theorem w_Md_145k : Cond.instanceMethod M_Md_emitCheck.1 ∈ zm_all ∧ Cond.selects M_Md_emitCheck.1.cls M_Md_emitCheck.1 M_Md_emitCheck.1 ∈ zm_all := ⟨(zt 758 (by decide +kernel) rfl), (zs (y := y_Md_emitCheck) (n := 33) 39 (by decide +kernel))⟩
theorem k_Md_148 : Cond.constant R_Md 148 65536 ∈ zm_all := (zt 768 (by decide +kernel) rfl)
theorem w_Md_149 : zm_cw R_Md 149 M_Md_rest 0 := ⟨(zt 780 (by decide +kernel) rfl), (zt 9 (by decide +kernel) rfl), ⟨by decide, by decide, by decide +kernel⟩, by decide, Or.inl (zt 777 (by decide +kernel) rfl)⟩
theorem w_Md_149k : Cond.instanceMethod M_Md_rest.1 ∈ zm_all ∧ Cond.selects M_Md_rest.1.cls M_Md_rest.1 M_Md_rest.1 ∈ zm_all := ⟨(zt 779 (by decide +kernel) rfl), (zs (y := y_Md_rest) (n := 33) 41 (by decide +kernel))⟩
theorem f_Md_153 : zm_fw R_Md 153 7 20 R_Md F_Md 33 := ⟨rfl, by decide, uin_Md, Or.inl (zt 608 (by decide +kernel) rfl)⟩
theorem fl_Md_153 : Cond.fieldLink R_Md 153 (F_Md 20).1 (F_Md 20).2.1 (F_Md 20).2.2.1 ∈ zm_all := (zt 608 (by decide +kernel) rfl)
theorem w_Md_156 : zm_cw R_Md 156 M_Md_build 0 := ⟨(zt 776 (by decide +kernel) rfl), (zt 9 (by decide +kernel) rfl), ⟨by decide, by decide, by decide +kernel⟩, by decide, Or.inl (zt 773 (by decide +kernel) rfl)⟩
theorem w_Md_156k : Cond.instanceMethod M_Md_build.1 ∈ zm_all ∧ Cond.selects M_Md_build.1.cls M_Md_build.1 M_Md_build.1 ∈ zm_all := ⟨(zt 775 (by decide +kernel) rfl), (zs (y := y_Md_build) (n := 33) 40 (by decide +kernel))⟩
theorem w_Md_159 : zm_cw R_Md 159 M_Md_sent 0 := ⟨(zt 792 (by decide +kernel) rfl), (zt 9 (by decide +kernel) rfl), ⟨by decide, by decide, by decide +kernel⟩, by decide, Or.inl (zt 789 (by decide +kernel) rfl)⟩
theorem w_Md_159k : Cond.instanceMethod M_Md_sent.1 ∈ zm_all ∧ Cond.selects M_Md_sent.1.cls M_Md_sent.1 M_Md_sent.1 ∈ zm_all := ⟨(zt 791 (by decide +kernel) rfl), (zs (y := y_Md_sent) (n := 33) 43 (by decide +kernel))⟩
theorem w_Md_162 : zm_cw R_Md 162 M_Md_receive 0 := ⟨(zt 796 (by decide +kernel) rfl), (zt 9 (by decide +kernel) rfl), ⟨by decide, by decide, by decide +kernel⟩, by decide, Or.inl (zt 793 (by decide +kernel) rfl)⟩
theorem w_Md_162k : Cond.instanceMethod M_Md_receive.1 ∈ zm_all ∧ Cond.selects M_Md_receive.1.cls M_Md_receive.1 M_Md_receive.1 ∈ zm_all := ⟨(zt 795 (by decide +kernel) rfl), (zs (y := y_Md_receive) (n := 33) 44 (by decide +kernel))⟩
theorem w_Md_165 : zm_cw R_Md 165 M_Md_pass 2 := ⟨(zt 788 (by decide +kernel) rfl), (zt 9 (by decide +kernel) rfl), ⟨by decide, by decide, by decide +kernel⟩, by decide, Or.inl (zt 785 (by decide +kernel) rfl)⟩
theorem w_Md_165k : Cond.instanceMethod M_Md_pass.1 ∈ zm_all ∧ Cond.selects M_Md_pass.1.cls M_Md_pass.1 M_Md_pass.1 ∈ zm_all := ⟨(zt 787 (by decide +kernel) rfl), (zs (y := y_Md_pass) (n := 33) 42 (by decide +kernel))⟩
theorem f_Md_169 : zm_fw R_Md 169 7 29 R_Md F_Md 33 := ⟨rfl, by decide, uin_Md, Or.inl (zt 617 (by decide +kernel) rfl)⟩
theorem fl_Md_169 : Cond.fieldLink R_Md 169 (F_Md 29).1 (F_Md 29).2.1 (F_Md 29).2.2.1 ∈ zm_all := (zt 617 (by decide +kernel) rfl)
theorem w_Md_173 : zm_cw R_Md 173 M_Md_nothing 1 := ⟨(zt 832 (by decide +kernel) rfl), (zt 9 (by decide +kernel) rfl), ⟨by decide, by decide, by decide +kernel⟩, by decide, Or.inl (zt 829 (by decide +kernel) rfl)⟩
theorem w_Md_173k : Cond.instanceMethod M_Md_nothing.1 ∈ zm_all ∧ Cond.selects M_Md_nothing.1.cls M_Md_nothing.1 M_Md_nothing.1 ∈ zm_all := ⟨(zt 831 (by decide +kernel) rfl), (zs (y := y_Md_nothing) (n := 33) 53 (by decide +kernel))⟩
theorem w_Md_176 : zm_cw R_Md 176 M_Md_throwAway 0 := ⟨(zt 800 (by decide +kernel) rfl), (zt 9 (by decide +kernel) rfl), ⟨by decide, by decide, by decide +kernel⟩, by decide, Or.inl (zt 797 (by decide +kernel) rfl)⟩
theorem w_Md_176k : Cond.instanceMethod M_Md_throwAway.1 ∈ zm_all ∧ Cond.selects M_Md_throwAway.1.cls M_Md_throwAway.1 M_Md_throwAway.1 ∈ zm_all := ⟨(zt 799 (by decide +kernel) rfl), (zs (y := y_Md_throwAway) (n := 33) 45 (by decide +kernel))⟩
theorem w_Md_179 : zm_cw R_Md 179 M_Md_more 2 := ⟨(zt 804 (by decide +kernel) rfl), (zt 9 (by decide +kernel) rfl), ⟨by decide, by decide, by decide +kernel⟩, by decide, Or.inl (zt 801 (by decide +kernel) rfl)⟩
theorem w_Md_179k : Cond.instanceMethod M_Md_more.1 ∈ zm_all ∧ Cond.selects M_Md_more.1.cls M_Md_more.1 M_Md_more.1 ∈ zm_all := ⟨(zt 803 (by decide +kernel) rfl), (zs (y := y_Md_more) (n := 33) 46 (by decide +kernel))⟩
theorem f_Md_182 : zm_fw R_Md 182 7 30 R_Md F_Md 33 := ⟨rfl, by decide, uin_Md, Or.inl (zt 618 (by decide +kernel) rfl)⟩
theorem fl_Md_182 : Cond.fieldLink R_Md 182 (F_Md 30).1 (F_Md 30).2.1 (F_Md 30).2.2.1 ∈ zm_all := (zt 618 (by decide +kernel) rfl)
theorem w_Md_185 : zm_cw R_Md 185 M_Md_take 1 := ⟨(zt 808 (by decide +kernel) rfl), (zt 9 (by decide +kernel) rfl), ⟨by decide, by decide, by decide +kernel⟩, by decide, Or.inl (zt 805 (by decide +kernel) rfl)⟩
theorem w_Md_185k : Cond.instanceMethod M_Md_take.1 ∈ zm_all ∧ Cond.selects M_Md_take.1.cls M_Md_take.1 M_Md_take.1 ∈ zm_all := ⟨(zt 807 (by decide +kernel) rfl), (zs (y := y_Md_take) (n := 33) 47 (by decide +kernel))⟩
theorem w_Md_188 : zm_cw R_Md 188 M_Md_look 0 := ⟨(zt 812 (by decide +kernel) rfl), (zt 9 (by decide +kernel) rfl), ⟨by decide, by decide, by decide +kernel⟩, by decide, Or.inl (zt 809 (by decide +kernel) rfl)⟩
theorem w_Md_188k : Cond.instanceMethod M_Md_look.1 ∈ zm_all ∧ Cond.selects M_Md_look.1.cls M_Md_look.1 M_Md_look.1 ∈ zm_all := ⟨(zt 811 (by decide +kernel) rfl), (zs (y := y_Md_look) (n := 33) 48 (by decide +kernel))⟩
theorem w_Md_191 : zm_cw R_Md 191 M_Md_checks 0 := ⟨(zt 816 (by decide +kernel) rfl), (zt 9 (by decide +kernel) rfl), ⟨by decide, by decide, by decide +kernel⟩, by decide, Or.inl (zt 813 (by decide +kernel) rfl)⟩
theorem w_Md_191k : Cond.instanceMethod M_Md_checks.1 ∈ zm_all ∧ Cond.selects M_Md_checks.1.cls M_Md_checks.1 M_Md_checks.1 ∈ zm_all := ⟨(zt 815 (by decide +kernel) rfl), (zs (y := y_Md_checks) (n := 33) 49 (by decide +kernel))⟩
theorem w_Md_195 : zm_cw R_Md 195 M_Md_isList 0 := ⟨(zt 820 (by decide +kernel) rfl), (zt 9 (by decide +kernel) rfl), ⟨by decide, by decide, by decide +kernel⟩, by decide, Or.inl (zt 817 (by decide +kernel) rfl)⟩
theorem w_Md_195k : Cond.instanceMethod M_Md_isList.1 ∈ zm_all ∧ Cond.selects M_Md_isList.1.cls M_Md_isList.1 M_Md_isList.1 ∈ zm_all := ⟨(zt 819 (by decide +kernel) rfl), (zs (y := y_Md_isList) (n := 33) 50 (by decide +kernel))⟩
theorem w_Md_198 : zm_cw R_Md 198 M_Md_list 0 := ⟨(zt 824 (by decide +kernel) rfl), (zt 9 (by decide +kernel) rfl), ⟨by decide, by decide, by decide +kernel⟩, by decide, Or.inl (zt 821 (by decide +kernel) rfl)⟩
theorem w_Md_198k : Cond.instanceMethod M_Md_list.1 ∈ zm_all ∧ Cond.selects M_Md_list.1.cls M_Md_list.1 M_Md_list.1 ∈ zm_all := ⟨(zt 823 (by decide +kernel) rfl), (zs (y := y_Md_list) (n := 33) 51 (by decide +kernel))⟩
theorem w_Md_201 : zm_cw R_Md 201 M_Md_fits 0 := ⟨(zt 836 (by decide +kernel) rfl), (zt 9 (by decide +kernel) rfl), ⟨by decide, by decide, by decide +kernel⟩, by decide, Or.inl (zt 833 (by decide +kernel) rfl)⟩
theorem w_Md_201k : Cond.instanceMethod M_Md_fits.1 ∈ zm_all ∧ Cond.selects M_Md_fits.1.cls M_Md_fits.1 M_Md_fits.1 ∈ zm_all := ⟨(zt 835 (by decide +kernel) rfl), (zs (y := y_Md_fits) (n := 33) 54 (by decide +kernel))⟩
theorem w_Md_204 : zm_cw R_Md 204 M_Md_block 0 := ⟨(zt 840 (by decide +kernel) rfl), (zt 9 (by decide +kernel) rfl), ⟨by decide, by decide, by decide +kernel⟩, by decide, Or.inl (zt 837 (by decide +kernel) rfl)⟩
theorem w_Md_204k : Cond.instanceMethod M_Md_block.1 ∈ zm_all ∧ Cond.selects M_Md_block.1.cls M_Md_block.1 M_Md_block.1 ∈ zm_all := ⟨(zt 839 (by decide +kernel) rfl), (zs (y := y_Md_block) (n := 33) 55 (by decide +kernel))⟩
theorem w_Md_207 : zm_cw R_Md 207 M_Md_pair 1 := ⟨(zt 828 (by decide +kernel) rfl), (zt 9 (by decide +kernel) rfl), ⟨by decide, by decide, by decide +kernel⟩, by decide, Or.inl (zt 825 (by decide +kernel) rfl)⟩
theorem w_Md_207k : Cond.instanceMethod M_Md_pair.1 ∈ zm_all ∧ Cond.selects M_Md_pair.1.cls M_Md_pair.1 M_Md_pair.1 ∈ zm_all := ⟨(zt 827 (by decide +kernel) rfl), (zs (y := y_Md_pair) (n := 33) 52 (by decide +kernel))⟩
theorem w_Md_210 : zm_cw R_Md 210 M_Md_heldOf 1 := ⟨(zt 868 (by decide +kernel) rfl), (zt 9 (by decide +kernel) rfl), ⟨by decide, by decide, by decide +kernel⟩, by decide, Or.inl (zt 865 (by decide +kernel) rfl)⟩
theorem w_Md_210k : Cond.instanceMethod M_Md_heldOf.1 ∈ zm_all ∧ Cond.selects M_Md_heldOf.1.cls M_Md_heldOf.1 M_Md_heldOf.1 ∈ zm_all := ⟨(zt 867 (by decide +kernel) rfl), (zs (y := y_Md_heldOf) (n := 33) 56 (by decide +kernel))⟩
theorem w_Md_213 : zm_cw R_Md 213 M_Md_stands 2 := ⟨(zt 892 (by decide +kernel) rfl), (zt 9 (by decide +kernel) rfl), ⟨by decide, by decide, by decide +kernel⟩, by decide, Or.inl (zt 889 (by decide +kernel) rfl)⟩
theorem w_Md_213k : Cond.instanceMethod M_Md_stands.1 ∈ zm_all ∧ Cond.selects M_Md_stands.1.cls M_Md_stands.1 M_Md_stands.1 ∈ zm_all := ⟨(zt 891 (by decide +kernel) rfl), (zs (y := y_Md_stands) (n := 33) 61 (by decide +kernel))⟩
theorem w_Md_217 : zm_cw R_Md 217 M_Md_ready 1 := ⟨(zt 884 (by decide +kernel) rfl), (zt 9 (by decide +kernel) rfl), ⟨by decide, by decide, by decide +kernel⟩, by decide, Or.inl (zt 881 (by decide +kernel) rfl)⟩
theorem w_Md_217k : Cond.instanceMethod M_Md_ready.1 ∈ zm_all ∧ Cond.selects M_Md_ready.1.cls M_Md_ready.1 M_Md_ready.1 ∈ zm_all := ⟨(zt 883 (by decide +kernel) rfl), (zs (y := y_Md_ready) (n := 33) 59 (by decide +kernel))⟩
theorem w_Md_220 : zm_cw R_Md 220 M_Md_first 2 := ⟨(zt 888 (by decide +kernel) rfl), (zt 9 (by decide +kernel) rfl), ⟨by decide, by decide, by decide +kernel⟩, by decide, Or.inl (zt 885 (by decide +kernel) rfl)⟩
theorem w_Md_220k : Cond.instanceMethod M_Md_first.1 ∈ zm_all ∧ Cond.selects M_Md_first.1.cls M_Md_first.1 M_Md_first.1 ∈ zm_all := ⟨(zt 887 (by decide +kernel) rfl), (zs (y := y_Md_first) (n := 33) 60 (by decide +kernel))⟩
theorem w_Md_223 : zm_cw R_Md 223 M_Md_gateway 0 := ⟨(zt 880 (by decide +kernel) rfl), (zt 9 (by decide +kernel) rfl), ⟨by decide, by decide, by decide +kernel⟩, by decide, Or.inl (zt 877 (by decide +kernel) rfl)⟩
theorem w_Md_223k : Cond.instanceMethod M_Md_gateway.1 ∈ zm_all ∧ Cond.selects M_Md_gateway.1.cls M_Md_gateway.1 M_Md_gateway.1 ∈ zm_all := ⟨(zt 879 (by decide +kernel) rfl), (zs (y := y_Md_gateway) (n := 33) 58 (by decide +kernel))⟩
theorem w_Md_226 : zm_cw R_Md 226 M_Md_enter 2 := ⟨(zt 896 (by decide +kernel) rfl), (zt 9 (by decide +kernel) rfl), ⟨by decide, by decide, by decide +kernel⟩, by decide, Or.inl (zt 893 (by decide +kernel) rfl)⟩
theorem w_Md_226k : Cond.instanceMethod M_Md_enter.1 ∈ zm_all ∧ Cond.selects M_Md_enter.1.cls M_Md_enter.1 M_Md_enter.1 ∈ zm_all := ⟨(zt 895 (by decide +kernel) rfl), (zs (y := y_Md_enter) (n := 33) 62 (by decide +kernel))⟩
theorem w_Md_229 : zm_cw R_Md 229 M_Md_follow 3 := ⟨(zt 876 (by decide +kernel) rfl), (zt 9 (by decide +kernel) rfl), ⟨by decide, by decide, by decide +kernel⟩, by decide, Or.inl (zt 873 (by decide +kernel) rfl)⟩
theorem w_Md_229k : Cond.instanceMethod M_Md_follow.1 ∈ zm_all ∧ Cond.selects M_Md_follow.1.cls M_Md_follow.1 M_Md_follow.1 ∈ zm_all := ⟨(zt 875 (by decide +kernel) rfl), (zs (y := y_Md_follow) (n := 33) 57 (by decide +kernel))⟩
theorem oi_Cy_3 : Cond.methodLink R_Cy 3 Lib.objectInit ∈ zm_all ∧ Cond.instanceMethod Lib.objectInit ∈ zm_all ∧ Cond.code Lib.objectInit ⟨#[0xb1]⟩ 1 none ∈ zm_all := ⟨(zt 102 (by decide +kernel) rfl), (zt 18 (by decide +kernel) rfl), zt 19 rfl rfl⟩
theorem f_Cy_11 : zm_fw R_Cy 11 4 0 R_Cy F_Cy 4 := ⟨rfl, by decide, uin_Cy, Or.inl (zt 103 (by decide +kernel) rfl)⟩
theorem fl_Cy_11 : Cond.fieldLink R_Cy 11 (F_Cy 0).1 (F_Cy 0).2.1 (F_Cy 0).2.2.1 ∈ zm_all := (zt 103 (by decide +kernel) rfl)
theorem f_Cy_15 : zm_fw R_Cy 15 4 1 R_Cy F_Cy 4 := ⟨rfl, by decide, uin_Cy, Or.inl (zt 105 (by decide +kernel) rfl)⟩
theorem fl_Cy_15 : Cond.fieldLink R_Cy 15 (F_Cy 1).1 (F_Cy 1).2.1 (F_Cy 1).2.2.1 ∈ zm_all := (zt 105 (by decide +kernel) rfl)
theorem f_Cy_19 : zm_fw R_Cy 19 4 2 R_Cy F_Cy 4 := ⟨rfl, by decide, uin_Cy, Or.inl (zt 107 (by decide +kernel) rfl)⟩
theorem fl_Cy_19 : Cond.fieldLink R_Cy 19 (F_Cy 2).1 (F_Cy 2).2.1 (F_Cy 2).2.2.1 ∈ zm_all := (zt 107 (by decide +kernel) rfl)
theorem f_Cy_22 : zm_fw R_Cy 22 4 3 R_Cy F_Cy 4 := ⟨rfl, by decide, uin_Cy, Or.inl (zt 108 (by decide +kernel) rfl)⟩
theorem fl_Cy_22 : Cond.fieldLink R_Cy 22 (F_Cy 3).1 (F_Cy 3).2.1 (F_Cy 3).2.2.1 ∈ zm_all := (zt 108 (by decide +kernel) rfl)
theorem w_Cy_25 : zm_cw R_Cy 25 M_Cy_addList 1 := ⟨(zt 353 (by decide +kernel) rfl), (zt 6 (by decide +kernel) rfl), ⟨by decide, by decide, by decide +kernel⟩, by decide, Or.inl (zt 350 (by decide +kernel) rfl)⟩
theorem w_Cy_25k : Cond.instanceMethod M_Cy_addList.1 ∈ zm_all ∧ Cond.selects M_Cy_addList.1.cls M_Cy_addList.1 M_Cy_addList.1 ∈ zm_all := ⟨(zt 352 (by decide +kernel) rfl), (zs (y := y_Cy_addList) (n := 4) 8 (by decide +kernel))⟩
theorem f_Cy_29 : zm_fw R_Cy 29 2 1 R_Ed F_Ed 10 := ⟨rfl, by decide, uin_Ed, Or.inl (zt 56 (by decide +kernel) rfl)⟩
theorem fl_Cy_29 : Cond.fieldLink R_Cy 29 (F_Ed 1).1 (F_Ed 1).2.1 (F_Ed 1).2.2.1 ∈ zm_all := (zt 56 (by decide +kernel) rfl)
theorem f_Cy_34 : zm_fw R_Cy 34 2 2 R_Ed F_Ed 10 := ⟨rfl, by decide, uin_Ed, Or.inl (zt 59 (by decide +kernel) rfl)⟩
theorem fl_Cy_34 : Cond.fieldLink R_Cy 34 (F_Ed 2).1 (F_Ed 2).2.1 (F_Ed 2).2.2.1 ∈ zm_all := (zt 59 (by decide +kernel) rfl)
theorem w_Cy_37 : zm_cw R_Cy 37 M_CM_blocksIn 1 := ⟨(zt 376 (by decide +kernel) rfl), (zt 1 (by decide +kernel) rfl), ⟨by decide, by decide, by decide +kernel⟩, by decide, Or.inr ⟨_, ztn (w := Cond.methodLinkNest R_Cy 37 y_CM_blocksIn "CarouselMount") 374 (by decide +kernel)⟩⟩
theorem w_Cy_37k : Cond.static M_CM_blocksIn.1 ∈ zm_all := (zt 375 (by decide +kernel) rfl)
theorem w_Cy_41 : zm_cw R_Cy 41 M_Cy_addBlock 3 := ⟨(zt 380 (by decide +kernel) rfl), (zt 6 (by decide +kernel) rfl), ⟨by decide, by decide, by decide +kernel⟩, by decide, Or.inl (zt 377 (by decide +kernel) rfl)⟩
theorem w_Cy_41k : Cond.instanceMethod M_Cy_addBlock.1 ∈ zm_all ∧ Cond.selects M_Cy_addBlock.1.cls M_Cy_addBlock.1 M_Cy_addBlock.1 ∈ zm_all := ⟨(zt 379 (by decide +kernel) rfl), (zs (y := y_Cy_addBlock) (n := 4) 13 (by decide +kernel))⟩
theorem w_Cy_45 : zm_cw R_Cy 45 M_Cy_begin 2 := ⟨(zt 357 (by decide +kernel) rfl), (zt 6 (by decide +kernel) rfl), ⟨by decide, by decide, by decide +kernel⟩, by decide, Or.inl (zt 354 (by decide +kernel) rfl)⟩
theorem w_Cy_45k : Cond.instanceMethod M_Cy_begin.1 ∈ zm_all ∧ Cond.selects M_Cy_begin.1.cls M_Cy_begin.1 M_Cy_begin.1 ∈ zm_all := ⟨(zt 356 (by decide +kernel) rfl), (zs (y := y_Cy_begin) (n := 4) 9 (by decide +kernel))⟩
theorem f_Cy_49 : zm_fw R_Cy 49 2 0 R_Ed F_Ed 10 := ⟨rfl, by decide, uin_Ed, Or.inl (zt 53 (by decide +kernel) rfl)⟩
theorem fl_Cy_49 : Cond.fieldLink R_Cy 49 (F_Ed 0).1 (F_Ed 0).2.1 (F_Ed 0).2.2.1 ∈ zm_all := (zt 53 (by decide +kernel) rfl)
theorem w_Cy_52 : zm_cw R_Cy 52 M_Cy_writePair 1 := ⟨(zt 365 (by decide +kernel) rfl), (zt 6 (by decide +kernel) rfl), ⟨by decide, by decide, by decide +kernel⟩, by decide, Or.inl (zt 362 (by decide +kernel) rfl)⟩
theorem w_Cy_52k : Cond.instanceMethod M_Cy_writePair.1 ∈ zm_all ∧ Cond.selects M_Cy_writePair.1.cls M_Cy_writePair.1 M_Cy_writePair.1 ∈ zm_all := ⟨(zt 364 (by decide +kernel) rfl), (zs (y := y_Cy_writePair) (n := 4) 11 (by decide +kernel))⟩
theorem w_Cy_56 : zm_cw R_Cy 56 M_Cy_write 1 := ⟨(zt 361 (by decide +kernel) rfl), (zt 6 (by decide +kernel) rfl), ⟨by decide, by decide, by decide +kernel⟩, by decide, Or.inl (zt 358 (by decide +kernel) rfl)⟩
theorem w_Cy_56k : Cond.instanceMethod M_Cy_write.1 ∈ zm_all ∧ Cond.selects M_Cy_write.1.cls M_Cy_write.1 M_Cy_write.1 ∈ zm_all := ⟨(zt 360 (by decide +kernel) rfl), (zs (y := y_Cy_write) (n := 4) 10 (by decide +kernel))⟩
theorem f_Cy_59 : zm_fw R_Cy 59 2 3 R_Ed F_Ed 10 := ⟨rfl, by decide, uin_Ed, Or.inl (zt 62 (by decide +kernel) rfl)⟩
theorem fl_Cy_59 : Cond.fieldLink R_Cy 59 (F_Ed 3).1 (F_Ed 3).2.1 (F_Ed 3).2.2.1 ∈ zm_all := (zt 62 (by decide +kernel) rfl)
theorem w_Cy_62 : zm_cw R_Cy 62 M_Cy_writeCheck 0 := ⟨(zt 369 (by decide +kernel) rfl), (zt 6 (by decide +kernel) rfl), ⟨by decide, by decide, by decide +kernel⟩, by decide, Or.inl (zt 366 (by decide +kernel) rfl)⟩
theorem w_Cy_62k : Cond.instanceMethod M_Cy_writeCheck.1 ∈ zm_all ∧ Cond.selects M_Cy_writeCheck.1.cls M_Cy_writeCheck.1 M_Cy_writeCheck.1 ∈ zm_all := ⟨(zt 368 (by decide +kernel) rfl), (zs (y := y_Cy_writeCheck) (n := 4) 12 (by decide +kernel))⟩
theorem w_Cy_65 : zm_cw R_Cy 65 M_CM_blockLength 2 := ⟨(zt 383 (by decide +kernel) rfl), (zt 1 (by decide +kernel) rfl), ⟨by decide, by decide, by decide +kernel⟩, by decide, Or.inr ⟨_, ztn (w := Cond.methodLinkNest R_Cy 65 y_CM_blockLength "CarouselMount") 381 (by decide +kernel)⟩⟩
theorem w_Cy_65k : Cond.static M_CM_blockLength.1 ∈ zm_all := (zt 382 (by decide +kernel) rfl)
theorem w_Cy_69 : zm_cw R_Cy 69 M_Ed_byteAt 2 := ⟨(zt 338 (by decide +kernel) rfl), (zt 4 (by decide +kernel) rfl), ⟨by decide, by decide, by decide +kernel⟩, by decide, Or.inl (zt 384 (by decide +kernel) rfl)⟩
theorem w_Cy_69k : Cond.instanceMethod M_Ed_byteAt.1 ∈ zm_all ∧ Cond.selects M_Ed_byteAt.1.cls M_Ed_byteAt.1 M_Ed_byteAt.1 ∈ zm_all := ⟨(zt 336 (by decide +kernel) rfl), (zt 337 (by decide +kernel) rfl)⟩
theorem w_Cy_72 : zm_cw R_Cy 72 M_CM_checkOf 3 := ⟨(zt 372 (by decide +kernel) rfl), (zt 1 (by decide +kernel) rfl), ⟨by decide, by decide, by decide +kernel⟩, by decide, Or.inr ⟨_, ztn (w := Cond.methodLinkNest R_Cy 72 y_CM_checkOf "CarouselMount") 370 (by decide +kernel)⟩⟩
theorem w_Cy_72k : Cond.static M_CM_checkOf.1 ∈ zm_all := (zt 371 (by decide +kernel) rfl)
theorem oi_Ed_3 : Cond.methodLink R_Ed 3 Lib.objectInit ∈ zm_all ∧ Cond.instanceMethod Lib.objectInit ∈ zm_all ∧ Cond.code Lib.objectInit ⟨#[0xb1]⟩ 1 none ∈ zm_all := ⟨(zt 51 (by decide +kernel) rfl), (zt 18 (by decide +kernel) rfl), zt 19 rfl rfl⟩
theorem f_Ed_9 : zm_fw R_Ed 9 2 0 R_Ed F_Ed 10 := ⟨rfl, by decide, uin_Ed, Or.inl (zt 52 (by decide +kernel) rfl)⟩
theorem fl_Ed_9 : Cond.fieldLink R_Ed 9 (F_Ed 0).1 (F_Ed 0).2.1 (F_Ed 0).2.2.1 ∈ zm_all := (zt 52 (by decide +kernel) rfl)
theorem f_Ed_15 : zm_fw R_Ed 15 2 1 R_Ed F_Ed 10 := ⟨rfl, by decide, uin_Ed, Or.inl (zt 55 (by decide +kernel) rfl)⟩
theorem fl_Ed_15 : Cond.fieldLink R_Ed 15 (F_Ed 1).1 (F_Ed 1).2.1 (F_Ed 1).2.2.1 ∈ zm_all := (zt 55 (by decide +kernel) rfl)
theorem f_Ed_18 : zm_fw R_Ed 18 2 2 R_Ed F_Ed 10 := ⟨rfl, by decide, uin_Ed, Or.inl (zt 58 (by decide +kernel) rfl)⟩
theorem fl_Ed_18 : Cond.fieldLink R_Ed 18 (F_Ed 2).1 (F_Ed 2).2.1 (F_Ed 2).2.2.1 ∈ zm_all := (zt 58 (by decide +kernel) rfl)
theorem f_Ed_22 : zm_fw R_Ed 22 2 3 R_Ed F_Ed 10 := ⟨rfl, by decide, uin_Ed, Or.inl (zt 61 (by decide +kernel) rfl)⟩
theorem fl_Ed_22 : Cond.fieldLink R_Ed 22 (F_Ed 3).1 (F_Ed 3).2.1 (F_Ed 3).2.2.1 ∈ zm_all := (zt 61 (by decide +kernel) rfl)
theorem f_Ed_25 : zm_fw R_Ed 25 2 4 R_Ed F_Ed 10 := ⟨rfl, by decide, uin_Ed, Or.inl (zt 64 (by decide +kernel) rfl)⟩
theorem fl_Ed_25 : Cond.fieldLink R_Ed 25 (F_Ed 4).1 (F_Ed 4).2.1 (F_Ed 4).2.2.1 ∈ zm_all := (zt 64 (by decide +kernel) rfl)
theorem f_Ed_28 : zm_fw R_Ed 28 2 5 R_Ed F_Ed 10 := ⟨rfl, by decide, uin_Ed, Or.inl (zt 65 (by decide +kernel) rfl)⟩
theorem fl_Ed_28 : Cond.fieldLink R_Ed 28 (F_Ed 5).1 (F_Ed 5).2.1 (F_Ed 5).2.2.1 ∈ zm_all := (zt 65 (by decide +kernel) rfl)
theorem f_Ed_31 : zm_fw R_Ed 31 2 6 R_Ed F_Ed 10 := ⟨rfl, by decide, uin_Ed, Or.inl (zt 66 (by decide +kernel) rfl)⟩
theorem fl_Ed_31 : Cond.fieldLink R_Ed 31 (F_Ed 6).1 (F_Ed 6).2.1 (F_Ed 6).2.2.1 ∈ zm_all := (zt 66 (by decide +kernel) rfl)
theorem f_Ed_34 : zm_fw R_Ed 34 2 7 R_Ed F_Ed 10 := ⟨rfl, by decide, uin_Ed, Or.inl (zt 67 (by decide +kernel) rfl)⟩
theorem fl_Ed_34 : Cond.fieldLink R_Ed 34 (F_Ed 7).1 (F_Ed 7).2.1 (F_Ed 7).2.2.1 ∈ zm_all := (zt 67 (by decide +kernel) rfl)
theorem f_Ed_37 : zm_fw R_Ed 37 2 8 R_Ed F_Ed 10 := ⟨rfl, by decide, uin_Ed, Or.inl (zt 68 (by decide +kernel) rfl)⟩
theorem fl_Ed_37 : Cond.fieldLink R_Ed 37 (F_Ed 8).1 (F_Ed 8).2.1 (F_Ed 8).2.2.1 ∈ zm_all := (zt 68 (by decide +kernel) rfl)
theorem f_Ed_40 : zm_fw R_Ed 40 2 9 R_Ed F_Ed 10 := ⟨rfl, by decide, uin_Ed, Or.inl (zt 69 (by decide +kernel) rfl)⟩
theorem fl_Ed_40 : Cond.fieldLink R_Ed 40 (F_Ed 9).1 (F_Ed 9).2.1 (F_Ed 9).2.2.1 ∈ zm_all := (zt 69 (by decide +kernel) rfl)
theorem w_Ed_43 : zm_cw R_Ed 43 M_Ed_arrange 1 := ⟨(zt 277 (by decide +kernel) rfl), (zt 4 (by decide +kernel) rfl), ⟨by decide, by decide, by decide +kernel⟩, by decide, Or.inl (zt 274 (by decide +kernel) rfl)⟩
theorem w_Ed_43k : Cond.instanceMethod M_Ed_arrange.1 ∈ zm_all ∧ Cond.selects M_Ed_arrange.1.cls M_Ed_arrange.1 M_Ed_arrange.1 ∈ zm_all := ⟨(zt 276 (by decide +kernel) rfl), (zs (y := y_Ed_arrange) (n := 10) 0 (by decide +kernel))⟩
theorem w_Ed_47 : zm_cw R_Ed 47 M_Ed_assignModules 1 := ⟨(zt 289 (by decide +kernel) rfl), (zt 4 (by decide +kernel) rfl), ⟨by decide, by decide, by decide +kernel⟩, by decide, Or.inl (zt 286 (by decide +kernel) rfl)⟩
theorem w_Ed_47k : Cond.instanceMethod M_Ed_assignModules.1 ∈ zm_all ∧ Cond.selects M_Ed_assignModules.1.cls M_Ed_assignModules.1 M_Ed_assignModules.1 ∈ zm_all := ⟨(zt 288 (by decide +kernel) rfl), (zs (y := y_Ed_assignModules) (n := 10) 1 (by decide +kernel))⟩
theorem w_Ed_51 : zm_cw R_Ed 51 M_Ed_draftModule 2 := ⟨(zt 299 (by decide +kernel) rfl), (zt 4 (by decide +kernel) rfl), ⟨by decide, by decide, by decide +kernel⟩, by decide, Or.inl (zt 296 (by decide +kernel) rfl)⟩
theorem w_Ed_51k : Cond.instanceMethod M_Ed_draftModule.1 ∈ zm_all ∧ Cond.selects M_Ed_draftModule.1.cls M_Ed_draftModule.1 M_Ed_draftModule.1 ∈ zm_all := ⟨(zt 298 (by decide +kernel) rfl), (zs (y := y_Ed_draftModule) (n := 10) 2 (by decide +kernel))⟩
theorem w_Ed_55 : zm_cw R_Ed 55 M_Ed_keepDraft 1 := ⟨(zt 330 (by decide +kernel) rfl), (zt 4 (by decide +kernel) rfl), ⟨by decide, by decide, by decide +kernel⟩, by decide, Or.inl (zt 327 (by decide +kernel) rfl)⟩
theorem w_Ed_55k : Cond.instanceMethod M_Ed_keepDraft.1 ∈ zm_all ∧ Cond.selects M_Ed_keepDraft.1.cls M_Ed_keepDraft.1 M_Ed_keepDraft.1 ∈ zm_all := ⟨(zt 329 (by decide +kernel) rfl), (zs (y := y_Ed_keepDraft) (n := 10) 6 (by decide +kernel))⟩
theorem w_Ed_59 : zm_cw R_Ed 59 M_Tree_followerOf 1 := ⟨(zt 281 (by decide +kernel) rfl), (zt 2 (by decide +kernel) rfl), ⟨by decide, by decide, by decide +kernel⟩, by decide, Or.inl (zt 278 (by decide +kernel) rfl)⟩
theorem w_Ed_59k : Cond.instanceMethod M_Tree_followerOf.1 ∈ zm_all ∧ Cond.selects M_Tree_followerOf.1.cls M_Tree_followerOf.1 M_Tree_followerOf.1 ∈ zm_all := ⟨(zt 279 (by decide +kernel) rfl), (zt 280 (by decide +kernel) rfl)⟩
theorem w_Ed_65 : zm_cw R_Ed 65 M_Tree_messageLength 1 := ⟨(zt 293 (by decide +kernel) rfl), (zt 2 (by decide +kernel) rfl), ⟨by decide, by decide, by decide +kernel⟩, by decide, Or.inl (zt 290 (by decide +kernel) rfl)⟩
theorem w_Ed_65k : Cond.instanceMethod M_Tree_messageLength.1 ∈ zm_all ∧ Cond.selects M_Tree_messageLength.1.cls M_Tree_messageLength.1 M_Tree_messageLength.1 ∈ zm_all := ⟨(zt 291 (by decide +kernel) rfl), (zt 292 (by decide +kernel) rfl)⟩
theorem w_Ed_68 : zm_cw R_Ed 68 M_Ed_draftMessage 2 := ⟨(zt 303 (by decide +kernel) rfl), (zt 4 (by decide +kernel) rfl), ⟨by decide, by decide, by decide +kernel⟩, by decide, Or.inl (zt 300 (by decide +kernel) rfl)⟩
theorem w_Ed_68k : Cond.instanceMethod M_Ed_draftMessage.1 ∈ zm_all ∧ Cond.selects M_Ed_draftMessage.1.cls M_Ed_draftMessage.1 M_Ed_draftMessage.1 ∈ zm_all := ⟨(zt 302 (by decide +kernel) rfl), (zs (y := y_Ed_draftMessage) (n := 10) 3 (by decide +kernel))⟩
theorem w_Ed_71 : zm_cw R_Ed 71 M_Tree_kindOf 1 := ⟨(zt 307 (by decide +kernel) rfl), (zt 2 (by decide +kernel) rfl), ⟨by decide, by decide, by decide +kernel⟩, by decide, Or.inl (zt 304 (by decide +kernel) rfl)⟩
theorem w_Ed_71k : Cond.instanceMethod M_Tree_kindOf.1 ∈ zm_all ∧ Cond.selects M_Tree_kindOf.1.cls M_Tree_kindOf.1 M_Tree_kindOf.1 ∈ zm_all := ⟨(zt 305 (by decide +kernel) rfl), (zt 306 (by decide +kernel) rfl)⟩
theorem w_Ed_74 : zm_cw R_Ed 74 M_Ed_write 1 := ⟨(zt 311 (by decide +kernel) rfl), (zt 4 (by decide +kernel) rfl), ⟨by decide, by decide, by decide +kernel⟩, by decide, Or.inl (zt 308 (by decide +kernel) rfl)⟩
theorem w_Ed_74k : Cond.instanceMethod M_Ed_write.1 ∈ zm_all ∧ Cond.selects M_Ed_write.1.cls M_Ed_write.1 M_Ed_write.1 ∈ zm_all := ⟨(zt 310 (by decide +kernel) rfl), (zs (y := y_Ed_write) (n := 10) 4 (by decide +kernel))⟩
theorem w_Ed_77 : zm_cw R_Ed 77 M_Tree_isFile 1 := ⟨(zt 249 (by decide +kernel) rfl), (zt 2 (by decide +kernel) rfl), ⟨by decide, by decide, by decide +kernel⟩, by decide, Or.inl (zt 312 (by decide +kernel) rfl)⟩
theorem w_Ed_77k : Cond.instanceMethod M_Tree_isFile.1 ∈ zm_all ∧ Cond.selects M_Tree_isFile.1.cls M_Tree_isFile.1 M_Tree_isFile.1 ∈ zm_all := ⟨(zt 247 (by decide +kernel) rfl), (zt 248 (by decide +kernel) rfl)⟩
theorem w_Ed_81 : zm_cw R_Ed 81 M_Tree_fileLength 1 := ⟨(zt 253 (by decide +kernel) rfl), (zt 2 (by decide +kernel) rfl), ⟨by decide, by decide, by decide +kernel⟩, by decide, Or.inl (zt 313 (by decide +kernel) rfl)⟩
theorem w_Ed_81k : Cond.instanceMethod M_Tree_fileLength.1 ∈ zm_all ∧ Cond.selects M_Tree_fileLength.1.cls M_Tree_fileLength.1 M_Tree_fileLength.1 ∈ zm_all := ⟨(zt 251 (by decide +kernel) rfl), (zt 252 (by decide +kernel) rfl)⟩
theorem w_Ed_84 : zm_cw R_Ed 84 M_Tree_fileByte 2 := ⟨(zt 317 (by decide +kernel) rfl), (zt 2 (by decide +kernel) rfl), ⟨by decide, by decide, by decide +kernel⟩, by decide, Or.inl (zt 314 (by decide +kernel) rfl)⟩
theorem w_Ed_84k : Cond.instanceMethod M_Tree_fileByte.1 ∈ zm_all ∧ Cond.selects M_Tree_fileByte.1.cls M_Tree_fileByte.1 M_Tree_fileByte.1 ∈ zm_all := ⟨(zt 315 (by decide +kernel) rfl), (zt 316 (by decide +kernel) rfl)⟩
theorem w_Ed_88 : zm_cw R_Ed 88 M_Ed_draftEntries 2 := ⟨(zt 321 (by decide +kernel) rfl), (zt 4 (by decide +kernel) rfl), ⟨by decide, by decide, by decide +kernel⟩, by decide, Or.inl (zt 318 (by decide +kernel) rfl)⟩
theorem w_Ed_88k : Cond.instanceMethod M_Ed_draftEntries.1 ∈ zm_all ∧ Cond.selects M_Ed_draftEntries.1.cls M_Ed_draftEntries.1 M_Ed_draftEntries.1 ∈ zm_all := ⟨(zt 320 (by decide +kernel) rfl), (zs (y := y_Ed_draftEntries) (n := 10) 5 (by decide +kernel))⟩
theorem w_Ed_91 : zm_cw R_Ed 91 M_Tree_entryAfter 2 := ⟨(zt 285 (by decide +kernel) rfl), (zt 2 (by decide +kernel) rfl), ⟨by decide, by decide, by decide +kernel⟩, by decide, Or.inl (zt 322 (by decide +kernel) rfl)⟩
theorem w_Ed_91k : Cond.instanceMethod M_Tree_entryAfter.1 ∈ zm_all ∧ Cond.selects M_Tree_entryAfter.1.cls M_Tree_entryAfter.1 M_Tree_entryAfter.1 ∈ zm_all := ⟨(zt 283 (by decide +kernel) rfl), (zt 284 (by decide +kernel) rfl)⟩
theorem w_Ed_94 : zm_cw R_Ed 94 M_Tree_nameOf 1 := ⟨(zt 326 (by decide +kernel) rfl), (zt 2 (by decide +kernel) rfl), ⟨by decide, by decide, by decide +kernel⟩, by decide, Or.inl (zt 323 (by decide +kernel) rfl)⟩
theorem w_Ed_94k : Cond.instanceMethod M_Tree_nameOf.1 ∈ zm_all ∧ Cond.selects M_Tree_nameOf.1.cls M_Tree_nameOf.1 M_Tree_nameOf.1 ∈ zm_all := ⟨(zt 324 (by decide +kernel) rfl), (zt 325 (by decide +kernel) rfl)⟩
theorem w_Ed_97 : zm_cw R_Ed 97 M_Ed_draftEquals 1 := ⟨(zt 334 (by decide +kernel) rfl), (zt 4 (by decide +kernel) rfl), ⟨by decide, by decide, by decide +kernel⟩, by decide, Or.inl (zt 331 (by decide +kernel) rfl)⟩
theorem w_Ed_97k : Cond.instanceMethod M_Ed_draftEquals.1 ∈ zm_all ∧ Cond.selects M_Ed_draftEquals.1.cls M_Ed_draftEquals.1 M_Ed_draftEquals.1 ∈ zm_all := ⟨(zt 333 (by decide +kernel) rfl), (zs (y := y_Ed_draftEquals) (n := 10) 7 (by decide +kernel))⟩
theorem acw_Ed : Cond.methodLink R_Ed 100 arraycopyName ∈ zm_all ∧ Cond.native arraycopyName ∈ zm_all ∧ Cond.static arraycopyName ∈ zm_all ∧ Cond.initialized "java/lang/System" ∈ zm_all := ⟨(zt 339 (by decide +kernel) rfl), (zt 341 (by decide +kernel) rfl), (zt 340 (by decide +kernel) rfl), (zt 10 (by decide +kernel) rfl)⟩
theorem w_Ed_106 : zm_cw R_Ed 106 M_Ed_byteAt 2 := ⟨(zt 338 (by decide +kernel) rfl), (zt 4 (by decide +kernel) rfl), ⟨by decide, by decide, by decide +kernel⟩, by decide, Or.inl (zt 335 (by decide +kernel) rfl)⟩
theorem w_Ed_106k : Cond.instanceMethod M_Ed_byteAt.1 ∈ zm_all ∧ Cond.selects M_Ed_byteAt.1.cls M_Ed_byteAt.1 M_Ed_byteAt.1 ∈ zm_all := ⟨(zt 336 (by decide +kernel) rfl), (zt 337 (by decide +kernel) rfl)⟩
theorem oi_Mt_3 : Cond.methodLink R_Mt 3 Lib.objectInit ∈ zm_all ∧ Cond.instanceMethod Lib.objectInit ∈ zm_all ∧ Cond.code Lib.objectInit ⟨#[0xb1]⟩ 1 none ∈ zm_all := ⟨(zt 146 (by decide +kernel) rfl), (zt 18 (by decide +kernel) rfl), zt 19 rfl rfl⟩
theorem f_Mt_9 : zm_fw R_Mt 9 6 0 R_Mt F_Mt 6 := ⟨rfl, by decide, uin_Mt, Or.inl (zt 147 (by decide +kernel) rfl)⟩
theorem fl_Mt_9 : Cond.fieldLink R_Mt 9 (F_Mt 0).1 (F_Mt 0).2.1 (F_Mt 0).2.2.1 ∈ zm_all := (zt 147 (by decide +kernel) rfl)
theorem f_Mt_15 : zm_fw R_Mt 15 6 1 R_Mt F_Mt 6 := ⟨rfl, by decide, uin_Mt, Or.inl (zt 149 (by decide +kernel) rfl)⟩
theorem fl_Mt_15 : Cond.fieldLink R_Mt 15 (F_Mt 1).1 (F_Mt 1).2.1 (F_Mt 1).2.2.1 ∈ zm_all := (zt 149 (by decide +kernel) rfl)
theorem f_Mt_19 : zm_fw R_Mt 19 6 2 R_Mt F_Mt 6 := ⟨rfl, by decide, uin_Mt, Or.inl (zt 151 (by decide +kernel) rfl)⟩
theorem fl_Mt_19 : Cond.fieldLink R_Mt 19 (F_Mt 2).1 (F_Mt 2).2.1 (F_Mt 2).2.2.1 ∈ zm_all := (zt 151 (by decide +kernel) rfl)
theorem f_Mt_23 : zm_fw R_Mt 23 6 3 R_Mt F_Mt 6 := ⟨rfl, by decide, uin_Mt, Or.inl (zt 152 (by decide +kernel) rfl)⟩
theorem fl_Mt_23 : Cond.fieldLink R_Mt 23 (F_Mt 3).1 (F_Mt 3).2.1 (F_Mt 3).2.2.1 ∈ zm_all := (zt 152 (by decide +kernel) rfl)
theorem f_Mt_26 : zm_fw R_Mt 26 6 4 R_Mt F_Mt 6 := ⟨rfl, by decide, uin_Mt, Or.inl (zt 153 (by decide +kernel) rfl)⟩
theorem fl_Mt_26 : Cond.fieldLink R_Mt 26 (F_Mt 4).1 (F_Mt 4).2.1 (F_Mt 4).2.2.1 ∈ zm_all := (zt 153 (by decide +kernel) rfl)
theorem f_Mt_29 : zm_fw R_Mt 29 6 5 R_Mt F_Mt 6 := ⟨rfl, by decide, uin_Mt, Or.inl (zt 154 (by decide +kernel) rfl)⟩
theorem fl_Mt_29 : Cond.fieldLink R_Mt 29 (F_Mt 5).1 (F_Mt 5).2.1 (F_Mt 5).2.2.1 ∈ zm_all := (zt 154 (by decide +kernel) rfl)
theorem w_Mt_32 : zm_cw R_Mt 32 M_Mt_relist 3 := ⟨(zt 458 (by decide +kernel) rfl), (zt 8 (by decide +kernel) rfl), ⟨by decide, by decide, by decide +kernel⟩, by decide, Or.inl (zt 455 (by decide +kernel) rfl)⟩
theorem w_Mt_32k : Cond.instanceMethod M_Mt_relist.1 ∈ zm_all ∧ Cond.selects M_Mt_relist.1.cls M_Mt_relist.1 M_Mt_relist.1 ∈ zm_all := ⟨(zt 457 (by decide +kernel) rfl), (zs (y := y_Mt_relist) (n := 6) 22 (by decide +kernel))⟩
theorem w_Mt_36 : zm_cw R_Mt 36 M_CM_pairAt 2 := ⟨(zt 444 (by decide +kernel) rfl), (zt 1 (by decide +kernel) rfl), ⟨by decide, by decide, by decide +kernel⟩, by decide, Or.inr ⟨_, ztn (w := Cond.methodLinkNest R_Mt 36 y_CM_pairAt "CarouselMount") 454 (by decide +kernel)⟩⟩
theorem w_Mt_36k : Cond.static M_CM_pairAt.1 ∈ zm_all := (zt 443 (by decide +kernel) rfl)
theorem w_Mt_40 : zm_cw R_Mt 40 M_Mt_isListed 1 := ⟨(zt 470 (by decide +kernel) rfl), (zt 8 (by decide +kernel) rfl), ⟨by decide, by decide, by decide +kernel⟩, by decide, Or.inl (zt 467 (by decide +kernel) rfl)⟩
theorem w_Mt_40k : Cond.instanceMethod M_Mt_isListed.1 ∈ zm_all ∧ Cond.selects M_Mt_isListed.1.cls M_Mt_isListed.1 M_Mt_isListed.1 ∈ zm_all := ⟨(zt 468 (by decide +kernel) rfl), (zt 469 (by decide +kernel) rfl)⟩
theorem w_Mt_44 : zm_cw R_Mt 44 M_CM_blocksIn 1 := ⟨(zt 376 (by decide +kernel) rfl), (zt 1 (by decide +kernel) rfl), ⟨by decide, by decide, by decide +kernel⟩, by decide, Or.inr ⟨_, ztn (w := Cond.methodLinkNest R_Mt 44 y_CM_blocksIn "CarouselMount") 471 (by decide +kernel)⟩⟩
theorem w_Mt_44k : Cond.static M_CM_blocksIn.1 ∈ zm_all := (zt 375 (by decide +kernel) rfl)
theorem w_Mt_48 : zm_cw R_Mt 48 M_CM_blockLength 2 := ⟨(zt 383 (by decide +kernel) rfl), (zt 1 (by decide +kernel) rfl), ⟨by decide, by decide, by decide +kernel⟩, by decide, Or.inr ⟨_, ztn (w := Cond.methodLinkNest R_Mt 48 y_CM_blockLength "CarouselMount") 472 (by decide +kernel)⟩⟩
theorem w_Mt_48k : Cond.static M_CM_blockLength.1 ∈ zm_all := (zt 382 (by decide +kernel) rfl)
theorem acw_Mt : Cond.methodLink R_Mt 52 arraycopyName ∈ zm_all ∧ Cond.native arraycopyName ∈ zm_all ∧ Cond.static arraycopyName ∈ zm_all ∧ Cond.initialized "java/lang/System" ∈ zm_all := ⟨(zt 473 (by decide +kernel) rfl), (zt 341 (by decide +kernel) rfl), (zt 340 (by decide +kernel) rfl), (zt 10 (by decide +kernel) rfl)⟩
theorem w_Mt_58 : zm_cw R_Mt 58 M_Int_bitCount 1 := ⟨(zt 522 (by decide +kernel) rfl), (zt 11 (by decide +kernel) rfl), ⟨by decide, by decide, by decide +kernel⟩, by decide, Or.inl (zt 520 (by decide +kernel) rfl)⟩
theorem w_Mt_58k : Cond.static M_Int_bitCount.1 ∈ zm_all := (zt 521 (by decide +kernel) rfl)
theorem w_Mt_63 : zm_cw R_Mt 63 M_Mt_blocksHeld 1 := ⟨(zt 519 (by decide +kernel) rfl), (zt 8 (by decide +kernel) rfl), ⟨by decide, by decide, by decide +kernel⟩, by decide, Or.inl (zt 542 (by decide +kernel) rfl)⟩
theorem w_Mt_63k : Cond.instanceMethod M_Mt_blocksHeld.1 ∈ zm_all ∧ Cond.selects M_Mt_blocksHeld.1.cls M_Mt_blocksHeld.1 M_Mt_blocksHeld.1 ∈ zm_all := ⟨(zt 517 (by decide +kernel) rfl), (zt 518 (by decide +kernel) rfl)⟩
theorem w_Mt_66 : zm_cw R_Mt 66 M_Mt_obstacle 1 := ⟨(zt 541 (by decide +kernel) rfl), (zt 8 (by decide +kernel) rfl), ⟨by decide, by decide, by decide +kernel⟩, by decide, Or.inl (zt 538 (by decide +kernel) rfl)⟩
theorem w_Mt_66k : Cond.instanceMethod M_Mt_obstacle.1 ∈ zm_all ∧ Cond.selects M_Mt_obstacle.1.cls M_Mt_obstacle.1 M_Mt_obstacle.1 ∈ zm_all := ⟨(zt 540 (by decide +kernel) rfl), (zs (y := y_Mt_obstacle) (n := 6) 26 (by decide +kernel))⟩
theorem w_Mt_69 : zm_cw R_Mt 69 M_Mt_fits 2 := ⟨(zt 546 (by decide +kernel) rfl), (zt 8 (by decide +kernel) rfl), ⟨by decide, by decide, by decide +kernel⟩, by decide, Or.inl (zt 543 (by decide +kernel) rfl)⟩
theorem w_Mt_69k : Cond.instanceMethod M_Mt_fits.1 ∈ zm_all ∧ Cond.selects M_Mt_fits.1.cls M_Mt_fits.1 M_Mt_fits.1 ∈ zm_all := ⟨(zt 545 (by decide +kernel) rfl), (zs (y := y_Mt_fits) (n := 6) 27 (by decide +kernel))⟩
theorem w_Mt_73 : zm_cw R_Mt 73 M_Mt_kindAt 1 := ⟨(zt 554 (by decide +kernel) rfl), (zt 8 (by decide +kernel) rfl), ⟨by decide, by decide, by decide +kernel⟩, by decide, Or.inl (zt 551 (by decide +kernel) rfl)⟩
theorem w_Mt_73k : Cond.instanceMethod M_Mt_kindAt.1 ∈ zm_all ∧ Cond.selects M_Mt_kindAt.1.cls M_Mt_kindAt.1 M_Mt_kindAt.1 ∈ zm_all := ⟨(zt 552 (by decide +kernel) rfl), (zt 553 (by decide +kernel) rfl)⟩
theorem w_Mt_76 : zm_cw R_Mt 76 M_Mt_isDirectoryAt 1 := ⟨(zt 562 (by decide +kernel) rfl), (zt 8 (by decide +kernel) rfl), ⟨by decide, by decide, by decide +kernel⟩, by decide, Or.inl (zt 559 (by decide +kernel) rfl)⟩
theorem w_Mt_76k : Cond.instanceMethod M_Mt_isDirectoryAt.1 ∈ zm_all ∧ Cond.selects M_Mt_isDirectoryAt.1.cls M_Mt_isDirectoryAt.1 M_Mt_isDirectoryAt.1 ∈ zm_all := ⟨(zt 560 (by decide +kernel) rfl), (zt 561 (by decide +kernel) rfl)⟩
theorem w_Mt_79 : zm_cw R_Mt 79 M_Mt_lengthAt 1 := ⟨(zt 550 (by decide +kernel) rfl), (zt 8 (by decide +kernel) rfl), ⟨by decide, by decide, by decide +kernel⟩, by decide, Or.inl (zt 547 (by decide +kernel) rfl)⟩
theorem w_Mt_79k : Cond.instanceMethod M_Mt_lengthAt.1 ∈ zm_all ∧ Cond.selects M_Mt_lengthAt.1.cls M_Mt_lengthAt.1 M_Mt_lengthAt.1 ∈ zm_all := ⟨(zt 548 (by decide +kernel) rfl), (zt 549 (by decide +kernel) rfl)⟩
theorem w_Mt_82 : zm_cw R_Mt 82 M_Mt_messageWithKey 2 := ⟨(zt 566 (by decide +kernel) rfl), (zt 8 (by decide +kernel) rfl), ⟨by decide, by decide, by decide +kernel⟩, by decide, Or.inl (zt 563 (by decide +kernel) rfl)⟩
theorem w_Mt_82k : Cond.instanceMethod M_Mt_messageWithKey.1 ∈ zm_all ∧ Cond.selects M_Mt_messageWithKey.1.cls M_Mt_messageWithKey.1 M_Mt_messageWithKey.1 ∈ zm_all := ⟨(zt 565 (by decide +kernel) rfl), (zs (y := y_Mt_messageWithKey) (n := 6) 28 (by decide +kernel))⟩
theorem oi_Rc_3 : Cond.methodLink R_Rc 3 Lib.objectInit ∈ zm_all ∧ Cond.instanceMethod Lib.objectInit ∈ zm_all ∧ Cond.code Lib.objectInit ⟨#[0xb1]⟩ 1 none ∈ zm_all := ⟨(zt 140 (by decide +kernel) rfl), (zt 18 (by decide +kernel) rfl), zt 19 rfl rfl⟩
theorem nw_Rc_9 : Cond.classLink R_Rc 9 R_Mt ∈ zm_all ∧ Cond.instantiable R_Mt 6 ∈ zm_all ∧ Cond.initialized R_Mt ∈ zm_all := ⟨(zt 141 (by decide +kernel) rfl), (zt 142 (by decide +kernel) rfl), (zt 8 (by decide +kernel) rfl)⟩
theorem w_Rc_11 : zm_cw R_Rc 11 M_Mt_init 0 := ⟨(zt 145 (by decide +kernel) rfl), (zt 8 (by decide +kernel) rfl), ⟨by decide, by decide, by decide +kernel⟩, by decide, Or.inr ⟨_, ztn (w := Cond.methodLinkNest R_Rc 11 y_Mt_init "CarouselMount") 143 (by decide +kernel)⟩⟩
theorem w_Rc_11k : Cond.instanceMethod M_Mt_init.1 ∈ zm_all := (zt 144 (by decide +kernel) rfl)
theorem f_Rc_12 : zm_fw R_Rc 12 5 0 R_Rc F_Rc 5 := ⟨rfl, by decide, uin_Rc, Or.inl (zt 168 (by decide +kernel) rfl)⟩
theorem fl_Rc_12 : Cond.fieldLink R_Rc 12 (F_Rc 0).1 (F_Rc 0).2.1 (F_Rc 0).2.2.1 ∈ zm_all := (zt 168 (by decide +kernel) rfl)
theorem f_Rc_18 : zm_fw R_Rc 18 5 1 R_Rc F_Rc 5 := ⟨rfl, by decide, uin_Rc, Or.inl (zt 170 (by decide +kernel) rfl)⟩
theorem fl_Rc_18 : Cond.fieldLink R_Rc 18 (F_Rc 1).1 (F_Rc 1).2.1 (F_Rc 1).2.2.1 ∈ zm_all := (zt 170 (by decide +kernel) rfl)
theorem f_Rc_22 : zm_fw R_Rc 22 5 2 R_Rc F_Rc 5 := ⟨rfl, by decide, uin_Rc, Or.inl (zt 172 (by decide +kernel) rfl)⟩
theorem fl_Rc_22 : Cond.fieldLink R_Rc 22 (F_Rc 2).1 (F_Rc 2).2.1 (F_Rc 2).2.2.1 ∈ zm_all := (zt 172 (by decide +kernel) rfl)
theorem f_Rc_25 : zm_fw R_Rc 25 5 3 R_Rc F_Rc 5 := ⟨rfl, by decide, uin_Rc, Or.inl (zt 173 (by decide +kernel) rfl)⟩
theorem fl_Rc_25 : Cond.fieldLink R_Rc 25 (F_Rc 3).1 (F_Rc 3).2.1 (F_Rc 3).2.2.1 ∈ zm_all := (zt 173 (by decide +kernel) rfl)
theorem f_Rc_29 : zm_fw R_Rc 29 5 4 R_Rc F_Rc 5 := ⟨rfl, by decide, uin_Rc, Or.inl (zt 174 (by decide +kernel) rfl)⟩
theorem fl_Rc_29 : Cond.fieldLink R_Rc 29 (F_Rc 4).1 (F_Rc 4).2.1 (F_Rc 4).2.2.1 ∈ zm_all := (zt 174 (by decide +kernel) rfl)
theorem w_Rc_32 : zm_cw R_Rc 32 M_Mt_reset 0 := ⟨(zt 501 (by decide +kernel) rfl), (zt 8 (by decide +kernel) rfl), ⟨by decide, by decide, by decide +kernel⟩, by decide, Or.inl (zt 498 (by decide +kernel) rfl)⟩
theorem w_Rc_32k : Cond.instanceMethod M_Mt_reset.1 ∈ zm_all ∧ Cond.selects M_Mt_reset.1.cls M_Mt_reset.1 M_Mt_reset.1 ∈ zm_all := ⟨(zt 499 (by decide +kernel) rfl), (zt 500 (by decide +kernel) rfl)⟩
theorem w_Rc_35 : zm_cw R_Rc 35 M_Arr_fill 2 := ⟨(zt 28 (by decide +kernel) rfl), (zt 3 (by decide +kernel) rfl), ⟨by decide, by decide, by decide +kernel⟩, by decide, Or.inl (zt 502 (by decide +kernel) rfl)⟩
theorem w_Rc_35k : Cond.static M_Arr_fill.1 ∈ zm_all := (zt 27 (by decide +kernel) rfl)
theorem w_Rc_41 : zm_cw R_Rc 41 M_Rc_throwAway 0 := ⟨(zt 425 (by decide +kernel) rfl), (zt 7 (by decide +kernel) rfl), ⟨by decide, by decide, by decide +kernel⟩, by decide, Or.inl (zt 422 (by decide +kernel) rfl)⟩
theorem w_Rc_41k : Cond.instanceMethod M_Rc_throwAway.1 ∈ zm_all ∧ Cond.selects M_Rc_throwAway.1.cls M_Rc_throwAway.1 M_Rc_throwAway.1 ∈ zm_all := ⟨(zt 424 (by decide +kernel) rfl), (zs (y := y_Rc_throwAway) (n := 5) 16 (by decide +kernel))⟩
theorem w_Rc_44 : zm_cw R_Rc 44 M_Rc_continueSection 3 := ⟨(zt 429 (by decide +kernel) rfl), (zt 7 (by decide +kernel) rfl), ⟨by decide, by decide, by decide +kernel⟩, by decide, Or.inl (zt 426 (by decide +kernel) rfl)⟩
theorem w_Rc_44k : Cond.instanceMethod M_Rc_continueSection.1 ∈ zm_all ∧ Cond.selects M_Rc_continueSection.1.cls M_Rc_continueSection.1 M_Rc_continueSection.1 ∈ zm_all := ⟨(zt 428 (by decide +kernel) rfl), (zs (y := y_Rc_continueSection) (n := 5) 17 (by decide +kernel))⟩
theorem w_Rc_48 : zm_cw R_Rc 48 M_Rc_beginSections 2 := ⟨(zt 477 (by decide +kernel) rfl), (zt 7 (by decide +kernel) rfl), ⟨by decide, by decide, by decide +kernel⟩, by decide, Or.inl (zt 474 (by decide +kernel) rfl)⟩
theorem w_Rc_48k : Cond.instanceMethod M_Rc_beginSections.1 ∈ zm_all ∧ Cond.selects M_Rc_beginSections.1.cls M_Rc_beginSections.1 M_Rc_beginSections.1 ∈ zm_all := ⟨(zt 476 (by decide +kernel) rfl), (zs (y := y_Rc_beginSections) (n := 5) 24 (by decide +kernel))⟩
theorem w_Rc_51 : zm_cw R_Rc 51 M_Rc_collect 1 := ⟨(zt 433 (by decide +kernel) rfl), (zt 7 (by decide +kernel) rfl), ⟨by decide, by decide, by decide +kernel⟩, by decide, Or.inl (zt 430 (by decide +kernel) rfl)⟩
theorem w_Rc_51k : Cond.instanceMethod M_Rc_collect.1 ∈ zm_all ∧ Cond.selects M_Rc_collect.1.cls M_Rc_collect.1 M_Rc_collect.1 ∈ zm_all := ⟨(zt 432 (by decide +kernel) rfl), (zs (y := y_Rc_collect) (n := 5) 18 (by decide +kernel))⟩
theorem w_Rc_55 : zm_cw R_Rc 55 M_Rc_judge 1 := ⟨(zt 437 (by decide +kernel) rfl), (zt 7 (by decide +kernel) rfl), ⟨by decide, by decide, by decide +kernel⟩, by decide, Or.inl (zt 434 (by decide +kernel) rfl)⟩
theorem w_Rc_55k : Cond.instanceMethod M_Rc_judge.1 ∈ zm_all ∧ Cond.selects M_Rc_judge.1.cls M_Rc_judge.1 M_Rc_judge.1 ∈ zm_all := ⟨(zt 436 (by decide +kernel) rfl), (zs (y := y_Rc_judge) (n := 5) 19 (by decide +kernel))⟩
theorem w_Rc_59 : zm_cw R_Rc 59 M_Rc_hasCheckDue 1 := ⟨(zt 441 (by decide +kernel) rfl), (zt 7 (by decide +kernel) rfl), ⟨by decide, by decide, by decide +kernel⟩, by decide, Or.inl (zt 438 (by decide +kernel) rfl)⟩
theorem w_Rc_59k : Cond.instanceMethod M_Rc_hasCheckDue.1 ∈ zm_all ∧ Cond.selects M_Rc_hasCheckDue.1.cls M_Rc_hasCheckDue.1 M_Rc_hasCheckDue.1 ∈ zm_all := ⟨(zt 440 (by decide +kernel) rfl), (zs (y := y_Rc_hasCheckDue) (n := 5) 20 (by decide +kernel))⟩
theorem w_Rc_63 : zm_cw R_Rc 63 M_Rc_isList 1 := ⟨(zt 449 (by decide +kernel) rfl), (zt 7 (by decide +kernel) rfl), ⟨by decide, by decide, by decide +kernel⟩, by decide, Or.inl (zt 446 (by decide +kernel) rfl)⟩
theorem w_Rc_63k : Cond.instanceMethod M_Rc_isList.1 ∈ zm_all ∧ Cond.selects M_Rc_isList.1.cls M_Rc_isList.1 M_Rc_isList.1 ∈ zm_all := ⟨(zt 448 (by decide +kernel) rfl), (zs (y := y_Rc_isList) (n := 5) 21 (by decide +kernel))⟩
theorem w_Rc_66 : zm_cw R_Rc 66 M_Mt_takeList 1 := ⟨(zt 453 (by decide +kernel) rfl), (zt 8 (by decide +kernel) rfl), ⟨by decide, by decide, by decide +kernel⟩, by decide, Or.inl (zt 450 (by decide +kernel) rfl)⟩
theorem w_Rc_66k : Cond.instanceMethod M_Mt_takeList.1 ∈ zm_all ∧ Cond.selects M_Mt_takeList.1.cls M_Mt_takeList.1 M_Mt_takeList.1 ∈ zm_all := ⟨(zt 451 (by decide +kernel) rfl), (zt 452 (by decide +kernel) rfl)⟩
theorem w_Rc_70 : zm_cw R_Rc 70 M_Rc_isBlock 1 := ⟨(zt 462 (by decide +kernel) rfl), (zt 7 (by decide +kernel) rfl), ⟨by decide, by decide, by decide +kernel⟩, by decide, Or.inl (zt 459 (by decide +kernel) rfl)⟩
theorem w_Rc_70k : Cond.instanceMethod M_Rc_isBlock.1 ∈ zm_all ∧ Cond.selects M_Rc_isBlock.1.cls M_Rc_isBlock.1 M_Rc_isBlock.1 ∈ zm_all := ⟨(zt 461 (by decide +kernel) rfl), (zs (y := y_Rc_isBlock) (n := 5) 23 (by decide +kernel))⟩
theorem w_Rc_73 : zm_cw R_Rc 73 M_Mt_takeBlock 2 := ⟨(zt 466 (by decide +kernel) rfl), (zt 8 (by decide +kernel) rfl), ⟨by decide, by decide, by decide +kernel⟩, by decide, Or.inl (zt 463 (by decide +kernel) rfl)⟩
theorem w_Rc_73k : Cond.instanceMethod M_Mt_takeBlock.1 ∈ zm_all ∧ Cond.selects M_Mt_takeBlock.1.cls M_Mt_takeBlock.1 M_Mt_takeBlock.1 ∈ zm_all := ⟨(zt 464 (by decide +kernel) rfl), (zt 465 (by decide +kernel) rfl)⟩
theorem w_Rc_77 : zm_cw R_Rc 77 M_CM_pairAt 2 := ⟨(zt 444 (by decide +kernel) rfl), (zt 1 (by decide +kernel) rfl), ⟨by decide, by decide, by decide +kernel⟩, by decide, Or.inr ⟨_, ztn (w := Cond.methodLinkNest R_Rc 77 y_CM_pairAt "CarouselMount") 442 (by decide +kernel)⟩⟩
theorem w_Rc_77k : Cond.static M_CM_pairAt.1 ∈ zm_all := (zt 443 (by decide +kernel) rfl)
theorem w_Rc_81 : zm_cw R_Rc 81 M_CM_checkOf 3 := ⟨(zt 372 (by decide +kernel) rfl), (zt 1 (by decide +kernel) rfl), ⟨by decide, by decide, by decide +kernel⟩, by decide, Or.inr ⟨_, ztn (w := Cond.methodLinkNest R_Rc 81 y_CM_checkOf "CarouselMount") 445 (by decide +kernel)⟩⟩
theorem w_Rc_81k : Cond.static M_CM_checkOf.1 ∈ zm_all := (zt 371 (by decide +kernel) rfl)
theorem oi_Sn_3 : Cond.methodLink R_Sn 3 Lib.objectInit ∈ zm_all ∧ Cond.instanceMethod Lib.objectInit ∈ zm_all ∧ Cond.code Lib.objectInit ⟨#[0xb1]⟩ 1 none ∈ zm_all := ⟨(zt 96 (by decide +kernel) rfl), (zt 18 (by decide +kernel) rfl), zt 19 rfl rfl⟩
theorem f_Sn_9 : zm_fw R_Sn 9 3 0 R_Sn F_Sn 5 := ⟨rfl, by decide, uin_Sn, Or.inl (zt 118 (by decide +kernel) rfl)⟩
theorem fl_Sn_9 : Cond.fieldLink R_Sn 9 (F_Sn 0).1 (F_Sn 0).2.1 (F_Sn 0).2.2.1 ∈ zm_all := (zt 118 (by decide +kernel) rfl)
theorem nw_Sn_15 : Cond.classLink R_Sn 15 R_Cy ∈ zm_all ∧ Cond.instantiable R_Cy 4 ∈ zm_all ∧ Cond.initialized R_Cy ∈ zm_all := ⟨(zt 97 (by decide +kernel) rfl), (zt 98 (by decide +kernel) rfl), (zt 6 (by decide +kernel) rfl)⟩
theorem w_Sn_17 : zm_cw R_Sn 17 M_Cy_init 0 := ⟨(zt 101 (by decide +kernel) rfl), (zt 6 (by decide +kernel) rfl), ⟨by decide, by decide, by decide +kernel⟩, by decide, Or.inr ⟨_, ztn (w := Cond.methodLinkNest R_Sn 17 y_Cy_init "CarouselMount") 99 (by decide +kernel)⟩⟩
theorem w_Sn_17k : Cond.instanceMethod M_Cy_init.1 ∈ zm_all := (zt 100 (by decide +kernel) rfl)
theorem f_Sn_18 : zm_fw R_Sn 18 3 1 R_Sn F_Sn 5 := ⟨rfl, by decide, uin_Sn, Or.inl (zt 120 (by decide +kernel) rfl)⟩
theorem fl_Sn_18 : Cond.fieldLink R_Sn 18 (F_Sn 1).1 (F_Sn 1).2.1 (F_Sn 1).2.2.1 ∈ zm_all := (zt 120 (by decide +kernel) rfl)
theorem f_Sn_22 : zm_fw R_Sn 22 3 2 R_Sn F_Sn 5 := ⟨rfl, by decide, uin_Sn, Or.inl (zt 121 (by decide +kernel) rfl)⟩
theorem fl_Sn_22 : Cond.fieldLink R_Sn 22 (F_Sn 2).1 (F_Sn 2).2.1 (F_Sn 2).2.2.1 ∈ zm_all := (zt 121 (by decide +kernel) rfl)
theorem f_Sn_26 : zm_fw R_Sn 26 3 3 R_Sn F_Sn 5 := ⟨rfl, by decide, uin_Sn, Or.inl (zt 122 (by decide +kernel) rfl)⟩
theorem fl_Sn_26 : Cond.fieldLink R_Sn 26 (F_Sn 3).1 (F_Sn 3).2.1 (F_Sn 3).2.2.1 ∈ zm_all := (zt 122 (by decide +kernel) rfl)
theorem f_Sn_29 : zm_fw R_Sn 29 3 4 R_Sn F_Sn 5 := ⟨rfl, by decide, uin_Sn, Or.inl (zt 123 (by decide +kernel) rfl)⟩
theorem fl_Sn_29 : Cond.fieldLink R_Sn 29 (F_Sn 4).1 (F_Sn 4).2.1 (F_Sn 4).2.2.1 ∈ zm_all := (zt 123 (by decide +kernel) rfl)
theorem f_Sn_32 : zm_fw R_Sn 32 4 1 R_Cy F_Cy 4 := ⟨rfl, by decide, uin_Cy, Or.inl (zt 106 (by decide +kernel) rfl)⟩
theorem fl_Sn_32 : Cond.fieldLink R_Sn 32 (F_Cy 1).1 (F_Cy 1).2.1 (F_Cy 1).2.2.1 ∈ zm_all := (zt 106 (by decide +kernel) rfl)
theorem w_Sn_35 : zm_cw R_Sn 35 M_Cy_renew 1 := ⟨(zt 349 (by decide +kernel) rfl), (zt 6 (by decide +kernel) rfl), ⟨by decide, by decide, by decide +kernel⟩, by decide, Or.inl (zt 346 (by decide +kernel) rfl)⟩
theorem w_Sn_35k : Cond.instanceMethod M_Cy_renew.1 ∈ zm_all ∧ Cond.selects M_Cy_renew.1.cls M_Cy_renew.1 M_Cy_renew.1 ∈ zm_all := ⟨(zt 347 (by decide +kernel) rfl), (zt 348 (by decide +kernel) rfl)⟩
theorem w_Sn_39 : zm_cw R_Sn 39 M_Sn_prepare 0 := ⟨(zt 388 (by decide +kernel) rfl), (zt 5 (by decide +kernel) rfl), ⟨by decide, by decide, by decide +kernel⟩, by decide, Or.inl (zt 385 (by decide +kernel) rfl)⟩
theorem w_Sn_39k : Cond.instanceMethod M_Sn_prepare.1 ∈ zm_all ∧ Cond.selects M_Sn_prepare.1.cls M_Sn_prepare.1 M_Sn_prepare.1 ∈ zm_all := ⟨(zt 387 (by decide +kernel) rfl), (zs (y := y_Sn_prepare) (n := 5) 14 (by decide +kernel))⟩
theorem w_Sn_42 : zm_cw R_Sn 42 M_Cy_startFrom 1 := ⟨(zt 392 (by decide +kernel) rfl), (zt 6 (by decide +kernel) rfl), ⟨by decide, by decide, by decide +kernel⟩, by decide, Or.inl (zt 389 (by decide +kernel) rfl)⟩
theorem w_Sn_42k : Cond.instanceMethod M_Cy_startFrom.1 ∈ zm_all ∧ Cond.selects M_Cy_startFrom.1.cls M_Cy_startFrom.1 M_Cy_startFrom.1 ∈ zm_all := ⟨(zt 390 (by decide +kernel) rfl), (zt 391 (by decide +kernel) rfl)⟩
theorem w_Sn_46 : zm_cw R_Sn 46 M_Sn_load 2 := ⟨(zt 396 (by decide +kernel) rfl), (zt 5 (by decide +kernel) rfl), ⟨by decide, by decide, by decide +kernel⟩, by decide, Or.inl (zt 393 (by decide +kernel) rfl)⟩
theorem w_Sn_46k : Cond.instanceMethod M_Sn_load.1 ∈ zm_all ∧ Cond.selects M_Sn_load.1.cls M_Sn_load.1 M_Sn_load.1 ∈ zm_all := ⟨(zt 395 (by decide +kernel) rfl), (zs (y := y_Sn_load) (n := 5) 15 (by decide +kernel))⟩
theorem f_Sn_50 : zm_fw R_Sn 50 4 0 R_Cy F_Cy 4 := ⟨rfl, by decide, uin_Cy, Or.inl (zt 104 (by decide +kernel) rfl)⟩
theorem fl_Sn_50 : Cond.fieldLink R_Sn 50 (F_Cy 0).1 (F_Cy 0).2.1 (F_Cy 0).2.2.1 ∈ zm_all := (zt 104 (by decide +kernel) rfl)
theorem oi_Tree_3 : Cond.methodLink R_Tree 3 Lib.objectInit ∈ zm_all ∧ Cond.instanceMethod Lib.objectInit ∈ zm_all ∧ Cond.code Lib.objectInit ⟨#[0xb1]⟩ 1 none ∈ zm_all := ⟨(zt 25 (by decide +kernel) rfl), (zt 18 (by decide +kernel) rfl), zt 19 rfl rfl⟩
theorem f_Tree_9 : zm_fw R_Tree 9 1 0 R_Tree F_Tree 5 := ⟨rfl, by decide, uin_Tree, Or.inl (zt 29 (by decide +kernel) rfl)⟩
theorem fl_Tree_9 : Cond.fieldLink R_Tree 9 (F_Tree 0).1 (F_Tree 0).2.1 (F_Tree 0).2.2.1 ∈ zm_all := (zt 29 (by decide +kernel) rfl)
theorem f_Tree_15 : zm_fw R_Tree 15 1 1 R_Tree F_Tree 5 := ⟨rfl, by decide, uin_Tree, Or.inl (zt 30 (by decide +kernel) rfl)⟩
theorem fl_Tree_15 : Cond.fieldLink R_Tree 15 (F_Tree 1).1 (F_Tree 1).2.1 (F_Tree 1).2.2.1 ∈ zm_all := (zt 30 (by decide +kernel) rfl)
theorem f_Tree_18 : zm_fw R_Tree 18 1 2 R_Tree F_Tree 5 := ⟨rfl, by decide, uin_Tree, Or.inl (zt 31 (by decide +kernel) rfl)⟩
theorem fl_Tree_18 : Cond.fieldLink R_Tree 18 (F_Tree 2).1 (F_Tree 2).2.1 (F_Tree 2).2.2.1 ∈ zm_all := (zt 31 (by decide +kernel) rfl)
theorem f_Tree_21 : zm_fw R_Tree 21 1 3 R_Tree F_Tree 5 := ⟨rfl, by decide, uin_Tree, Or.inl (zt 32 (by decide +kernel) rfl)⟩
theorem fl_Tree_21 : Cond.fieldLink R_Tree 21 (F_Tree 3).1 (F_Tree 3).2.1 (F_Tree 3).2.2.1 ∈ zm_all := (zt 32 (by decide +kernel) rfl)
theorem f_Tree_24 : zm_fw R_Tree 24 1 4 R_Tree F_Tree 5 := ⟨rfl, by decide, uin_Tree, Or.inl (zt 33 (by decide +kernel) rfl)⟩
theorem fl_Tree_24 : Cond.fieldLink R_Tree 24 (F_Tree 4).1 (F_Tree 4).2.1 (F_Tree 4).2.2.1 ∈ zm_all := (zt 33 (by decide +kernel) rfl)
theorem w_Tree_27 : zm_cw R_Tree 27 M_Arr_fill 2 := ⟨(zt 28 (by decide +kernel) rfl), (zt 3 (by decide +kernel) rfl), ⟨by decide, by decide, by decide +kernel⟩, by decide, Or.inl (zt 26 (by decide +kernel) rfl)⟩
theorem w_Tree_27k : Cond.static M_Arr_fill.1 ∈ zm_all := (zt 27 (by decide +kernel) rfl)
theorem w_Tree_33 : zm_cw R_Tree 33 M_Tree_isThere 1 := ⟨(zt 218 (by decide +kernel) rfl), (zt 2 (by decide +kernel) rfl), ⟨by decide, by decide, by decide +kernel⟩, by decide, Or.inl (zt 215 (by decide +kernel) rfl)⟩
theorem w_Tree_33k : Cond.instanceMethod M_Tree_isThere.1 ∈ zm_all ∧ Cond.selects M_Tree_isThere.1.cls M_Tree_isThere.1 M_Tree_isThere.1 ∈ zm_all := ⟨(zt 216 (by decide +kernel) rfl), (zt 217 (by decide +kernel) rfl)⟩
theorem w_Tree_37 : zm_cw R_Tree 37 M_Tree_isFile 1 := ⟨(zt 249 (by decide +kernel) rfl), (zt 2 (by decide +kernel) rfl), ⟨by decide, by decide, by decide +kernel⟩, by decide, Or.inl (zt 294 (by decide +kernel) rfl)⟩
theorem w_Tree_37k : Cond.instanceMethod M_Tree_isFile.1 ∈ zm_all ∧ Cond.selects M_Tree_isFile.1.cls M_Tree_isFile.1 M_Tree_isFile.1 ∈ zm_all := ⟨(zt 247 (by decide +kernel) rfl), (zt 248 (by decide +kernel) rfl)⟩
theorem w_Tree_40 : zm_cw R_Tree 40 M_Tree_entryCount 1 := ⟨(zt 234 (by decide +kernel) rfl), (zt 2 (by decide +kernel) rfl), ⟨by decide, by decide, by decide +kernel⟩, by decide, Or.inl (zt 295 (by decide +kernel) rfl)⟩
theorem w_Tree_40k : Cond.instanceMethod M_Tree_entryCount.1 ∈ zm_all ∧ Cond.selects M_Tree_entryCount.1.cls M_Tree_entryCount.1 M_Tree_entryCount.1 ∈ zm_all := ⟨(zt 232 (by decide +kernel) rfl), (zt 233 (by decide +kernel) rfl)⟩
theorem w_Tree_44 : zm_cw R_Tree 44 M_Tree_entryAfter 2 := ⟨(zt 285 (by decide +kernel) rfl), (zt 2 (by decide +kernel) rfl), ⟨by decide, by decide, by decide +kernel⟩, by decide, Or.inl (zt 282 (by decide +kernel) rfl)⟩
theorem w_Tree_44k : Cond.instanceMethod M_Tree_entryAfter.1 ∈ zm_all ∧ Cond.selects M_Tree_entryAfter.1.cls M_Tree_entryAfter.1 M_Tree_entryAfter.1 ∈ zm_all := ⟨(zt 283 (by decide +kernel) rfl), (zt 284 (by decide +kernel) rfl)⟩
theorem k_Int_265 : Cond.constant R_Int 265 1431655765 ∈ zm_all := (zt 523 (by decide +kernel) rfl)
theorem k_Int_266 : Cond.constant R_Int 266 858993459 ∈ zm_all := (zt 524 (by decide +kernel) rfl)
theorem k_Int_267 : Cond.constant R_Int 267 252645135 ∈ zm_all := (zt 525 (by decide +kernel) rfl)
theorem nw_Law_7 : Cond.classLink R_Law 7 R_CM ∈ zm_all ∧ Cond.instantiable R_CM 4 ∈ zm_all ∧ Cond.initialized R_CM ∈ zm_all := ⟨(zt 12 (by decide +kernel) rfl), (zt 13 (by decide +kernel) rfl), (zt 1 (by decide +kernel) rfl)⟩
theorem w_Law_9 : zm_cw R_Law 9 M_CM_init 0 := ⟨(zt 16 (by decide +kernel) rfl), (zt 1 (by decide +kernel) rfl), ⟨by decide, by decide, by decide +kernel⟩, by decide, Or.inl (zt 14 (by decide +kernel) rfl)⟩
theorem w_Law_9k : Cond.instanceMethod M_CM_init.1 ∈ zm_all := (zt 15 (by decide +kernel) rfl)
theorem nw_Law_10 : Cond.classLink R_Law 10 R_Md ∈ zm_all ∧ Cond.instantiable R_Md 33 ∈ zm_all ∧ Cond.initialized R_Md ∈ zm_all := ⟨(zt 582 (by decide +kernel) rfl), (zt 583 (by decide +kernel) rfl), (zt 9 (by decide +kernel) rfl)⟩
theorem w_Law_12 : zm_cw R_Law 12 M_Md_init 0 := ⟨(zt 586 (by decide +kernel) rfl), (zt 9 (by decide +kernel) rfl), ⟨by decide, by decide, by decide +kernel⟩, by decide, Or.inl (zt 584 (by decide +kernel) rfl)⟩
theorem w_Law_12k : Cond.instanceMethod M_Md_init.1 ∈ zm_all := (zt 585 (by decide +kernel) rfl)
theorem w_Law_13 : zm_cw R_Law 13 M_CM_make 3 := ⟨(zt 202 (by decide +kernel) rfl), (zt 1 (by decide +kernel) rfl), ⟨by decide, by decide, by decide +kernel⟩, by decide, Or.inl (zt 199 (by decide +kernel) rfl)⟩
theorem w_Law_13k : Cond.instanceMethod M_CM_make.1 ∈ zm_all ∧ Cond.selects M_CM_make.1.cls M_CM_make.1 M_CM_make.1 ∈ zm_all := ⟨(zt 200 (by decide +kernel) rfl), (zt 201 (by decide +kernel) rfl)⟩
theorem w_Law_17 : zm_cw R_Law 17 M_Md_make 3 := ⟨(zt 692 (by decide +kernel) rfl), (zt 9 (by decide +kernel) rfl), ⟨by decide, by decide, by decide +kernel⟩, by decide, Or.inl (zt 689 (by decide +kernel) rfl)⟩
theorem w_Law_17k : Cond.instanceMethod M_Md_make.1 ∈ zm_all ∧ Cond.selects M_Md_make.1.cls M_Md_make.1 M_Md_make.1 ∈ zm_all := ⟨(zt 690 (by decide +kernel) rfl), (zt 691 (by decide +kernel) rfl)⟩
theorem w_Law_18 : zm_cw R_Law 18 M_CM_remove 1 := ⟨(zt 226 (by decide +kernel) rfl), (zt 1 (by decide +kernel) rfl), ⟨by decide, by decide, by decide +kernel⟩, by decide, Or.inl (zt 223 (by decide +kernel) rfl)⟩
theorem w_Law_18k : Cond.instanceMethod M_CM_remove.1 ∈ zm_all ∧ Cond.selects M_CM_remove.1.cls M_CM_remove.1 M_CM_remove.1 ∈ zm_all := ⟨(zt 224 (by decide +kernel) rfl), (zt 225 (by decide +kernel) rfl)⟩
theorem w_Law_22 : zm_cw R_Law 22 M_Md_remove 1 := ⟨(zt 703 (by decide +kernel) rfl), (zt 9 (by decide +kernel) rfl), ⟨by decide, by decide, by decide +kernel⟩, by decide, Or.inl (zt 700 (by decide +kernel) rfl)⟩
theorem w_Law_22k : Cond.instanceMethod M_Md_remove.1 ∈ zm_all ∧ Cond.selects M_Md_remove.1.cls M_Md_remove.1 M_Md_remove.1 ∈ zm_all := ⟨(zt 701 (by decide +kernel) rfl), (zt 702 (by decide +kernel) rfl)⟩
theorem w_Law_23 : zm_cw R_Law 23 M_CM_append 2 := ⟨(zt 242 (by decide +kernel) rfl), (zt 1 (by decide +kernel) rfl), ⟨by decide, by decide, by decide +kernel⟩, by decide, Or.inl (zt 239 (by decide +kernel) rfl)⟩
theorem w_Law_23k : Cond.instanceMethod M_CM_append.1 ∈ zm_all ∧ Cond.selects M_CM_append.1.cls M_CM_append.1 M_CM_append.1 ∈ zm_all := ⟨(zt 240 (by decide +kernel) rfl), (zt 241 (by decide +kernel) rfl)⟩
theorem w_Law_27 : zm_cw R_Law 27 M_Md_append 2 := ⟨(zt 707 (by decide +kernel) rfl), (zt 9 (by decide +kernel) rfl), ⟨by decide, by decide, by decide +kernel⟩, by decide, Or.inl (zt 704 (by decide +kernel) rfl)⟩
theorem w_Law_27k : Cond.instanceMethod M_Md_append.1 ∈ zm_all ∧ Cond.selects M_Md_append.1.cls M_Md_append.1 M_Md_append.1 ∈ zm_all := ⟨(zt 705 (by decide +kernel) rfl), (zt 706 (by decide +kernel) rfl)⟩
theorem w_Law_28 : zm_cw R_Law 28 M_CM_empty 1 := ⟨(zt 261 (by decide +kernel) rfl), (zt 1 (by decide +kernel) rfl), ⟨by decide, by decide, by decide +kernel⟩, by decide, Or.inl (zt 258 (by decide +kernel) rfl)⟩
theorem w_Law_28k : Cond.instanceMethod M_CM_empty.1 ∈ zm_all ∧ Cond.selects M_CM_empty.1.cls M_CM_empty.1 M_CM_empty.1 ∈ zm_all := ⟨(zt 259 (by decide +kernel) rfl), (zt 260 (by decide +kernel) rfl)⟩
theorem w_Law_31 : zm_cw R_Law 31 M_Md_empty 1 := ⟨(zt 711 (by decide +kernel) rfl), (zt 9 (by decide +kernel) rfl), ⟨by decide, by decide, by decide +kernel⟩, by decide, Or.inl (zt 708 (by decide +kernel) rfl)⟩
theorem w_Law_31k : Cond.instanceMethod M_Md_empty.1 ∈ zm_all ∧ Cond.selects M_Md_empty.1.cls M_Md_empty.1 M_Md_empty.1 ∈ zm_all := ⟨(zt 709 (by decide +kernel) rfl), (zt 710 (by decide +kernel) rfl)⟩
theorem w_Law_32 : zm_cw R_Law 32 M_CM_publish 0 := ⟨(zt 269 (by decide +kernel) rfl), (zt 1 (by decide +kernel) rfl), ⟨by decide, by decide, by decide +kernel⟩, by decide, Or.inl (zt 266 (by decide +kernel) rfl)⟩
theorem w_Law_32k : Cond.instanceMethod M_CM_publish.1 ∈ zm_all ∧ Cond.selects M_CM_publish.1.cls M_CM_publish.1 M_CM_publish.1 ∈ zm_all := ⟨(zt 267 (by decide +kernel) rfl), (zt 268 (by decide +kernel) rfl)⟩
theorem w_Law_36 : zm_cw R_Law 36 M_Md_publish 0 := ⟨(zt 715 (by decide +kernel) rfl), (zt 9 (by decide +kernel) rfl), ⟨by decide, by decide, by decide +kernel⟩, by decide, Or.inl (zt 712 (by decide +kernel) rfl)⟩
theorem w_Law_36k : Cond.instanceMethod M_Md_publish.1 ∈ zm_all ∧ Cond.selects M_Md_publish.1.cls M_Md_publish.1 M_Md_publish.1 ∈ zm_all := ⟨(zt 713 (by decide +kernel) rfl), (zt 714 (by decide +kernel) rfl)⟩
theorem w_Law_37 : zm_cw R_Law 37 M_CM_modules 0 := ⟨(zt 400 (by decide +kernel) rfl), (zt 1 (by decide +kernel) rfl), ⟨by decide, by decide, by decide +kernel⟩, by decide, Or.inl (zt 397 (by decide +kernel) rfl)⟩
theorem w_Law_37k : Cond.instanceMethod M_CM_modules.1 ∈ zm_all ∧ Cond.selects M_CM_modules.1.cls M_CM_modules.1 M_CM_modules.1 ∈ zm_all := ⟨(zt 398 (by decide +kernel) rfl), (zt 399 (by decide +kernel) rfl)⟩
theorem w_Law_40 : zm_cw R_Law 40 M_Md_modules 0 := ⟨(zt 763 (by decide +kernel) rfl), (zt 9 (by decide +kernel) rfl), ⟨by decide, by decide, by decide +kernel⟩, by decide, Or.inl (zt 760 (by decide +kernel) rfl)⟩
theorem w_Law_40k : Cond.instanceMethod M_Md_modules.1 ∈ zm_all ∧ Cond.selects M_Md_modules.1.cls M_Md_modules.1 M_Md_modules.1 ∈ zm_all := ⟨(zt 761 (by decide +kernel) rfl), (zt 762 (by decide +kernel) rfl)⟩
theorem w_Law_41 : zm_cw R_Law 41 M_CM_module 1 := ⟨(zt 404 (by decide +kernel) rfl), (zt 1 (by decide +kernel) rfl), ⟨by decide, by decide, by decide +kernel⟩, by decide, Or.inl (zt 401 (by decide +kernel) rfl)⟩
theorem w_Law_41k : Cond.instanceMethod M_CM_module.1 ∈ zm_all ∧ Cond.selects M_CM_module.1.cls M_CM_module.1 M_CM_module.1 ∈ zm_all := ⟨(zt 402 (by decide +kernel) rfl), (zt 403 (by decide +kernel) rfl)⟩
theorem w_Law_44 : zm_cw R_Law 44 M_Md_module 1 := ⟨(zt 767 (by decide +kernel) rfl), (zt 9 (by decide +kernel) rfl), ⟨by decide, by decide, by decide +kernel⟩, by decide, Or.inl (zt 764 (by decide +kernel) rfl)⟩
theorem w_Law_44k : Cond.instanceMethod M_Md_module.1 ∈ zm_all ∧ Cond.selects M_Md_module.1.cls M_Md_module.1 M_Md_module.1 ∈ zm_all := ⟨(zt 765 (by decide +kernel) rfl), (zt 766 (by decide +kernel) rfl)⟩
theorem w_Law_45 : zm_cw R_Law 45 M_CM_peek 1 := ⟨(zt 409 (by decide +kernel) rfl), (zt 1 (by decide +kernel) rfl), ⟨by decide, by decide, by decide +kernel⟩, by decide, Or.inl (zt 406 (by decide +kernel) rfl)⟩
theorem w_Law_45k : Cond.instanceMethod M_CM_peek.1 ∈ zm_all ∧ Cond.selects M_CM_peek.1.cls M_CM_peek.1 M_CM_peek.1 ∈ zm_all := ⟨(zt 407 (by decide +kernel) rfl), (zt 408 (by decide +kernel) rfl)⟩
theorem w_Law_48 : zm_cw R_Law 48 M_Md_peek 1 := ⟨(zt 772 (by decide +kernel) rfl), (zt 9 (by decide +kernel) rfl), ⟨by decide, by decide, by decide +kernel⟩, by decide, Or.inl (zt 769 (by decide +kernel) rfl)⟩
theorem w_Law_48k : Cond.instanceMethod M_Md_peek.1 ∈ zm_all ∧ Cond.selects M_Md_peek.1.cls M_Md_peek.1 M_Md_peek.1 ∈ zm_all := ⟨(zt 770 (by decide +kernel) rfl), (zt 771 (by decide +kernel) rfl)⟩
theorem w_Law_49 : zm_cw R_Law 49 M_CM_send 1 := ⟨(zt 417 (by decide +kernel) rfl), (zt 1 (by decide +kernel) rfl), ⟨by decide, by decide, by decide +kernel⟩, by decide, Or.inl (zt 414 (by decide +kernel) rfl)⟩
theorem w_Law_49k : Cond.instanceMethod M_CM_send.1 ∈ zm_all ∧ Cond.selects M_CM_send.1.cls M_CM_send.1 M_CM_send.1 ∈ zm_all := ⟨(zt 415 (by decide +kernel) rfl), (zt 416 (by decide +kernel) rfl)⟩
theorem w_Law_52 : zm_cw R_Law 52 M_Md_send 1 := ⟨(zt 784 (by decide +kernel) rfl), (zt 9 (by decide +kernel) rfl), ⟨by decide, by decide, by decide +kernel⟩, by decide, Or.inl (zt 781 (by decide +kernel) rfl)⟩
theorem w_Law_52k : Cond.instanceMethod M_Md_send.1 ∈ zm_all ∧ Cond.selects M_Md_send.1.cls M_Md_send.1 M_Md_send.1 ∈ zm_all := ⟨(zt 782 (by decide +kernel) rfl), (zt 783 (by decide +kernel) rfl)⟩
theorem w_Law_53 : zm_cw R_Law 53 M_CM_lose 1 := ⟨(zt 485 (by decide +kernel) rfl), (zt 1 (by decide +kernel) rfl), ⟨by decide, by decide, by decide +kernel⟩, by decide, Or.inl (zt 482 (by decide +kernel) rfl)⟩
theorem w_Law_53k : Cond.instanceMethod M_CM_lose.1 ∈ zm_all ∧ Cond.selects M_CM_lose.1.cls M_CM_lose.1 M_CM_lose.1 ∈ zm_all := ⟨(zt 483 (by decide +kernel) rfl), (zt 484 (by decide +kernel) rfl)⟩
theorem w_Law_56 : zm_cw R_Law 56 M_Md_lose 1 := ⟨(zt 844 (by decide +kernel) rfl), (zt 9 (by decide +kernel) rfl), ⟨by decide, by decide, by decide +kernel⟩, by decide, Or.inl (zt 841 (by decide +kernel) rfl)⟩
theorem w_Law_56k : Cond.instanceMethod M_Md_lose.1 ∈ zm_all ∧ Cond.selects M_Md_lose.1.cls M_Md_lose.1 M_Md_lose.1 ∈ zm_all := ⟨(zt 842 (by decide +kernel) rfl), (zt 843 (by decide +kernel) rfl)⟩
theorem w_Law_57 : zm_cw R_Law 57 M_CM_spoil 2 := ⟨(zt 489 (by decide +kernel) rfl), (zt 1 (by decide +kernel) rfl), ⟨by decide, by decide, by decide +kernel⟩, by decide, Or.inl (zt 486 (by decide +kernel) rfl)⟩
theorem w_Law_57k : Cond.instanceMethod M_CM_spoil.1 ∈ zm_all ∧ Cond.selects M_CM_spoil.1.cls M_CM_spoil.1 M_CM_spoil.1 ∈ zm_all := ⟨(zt 487 (by decide +kernel) rfl), (zt 488 (by decide +kernel) rfl)⟩
theorem w_Law_60 : zm_cw R_Law 60 M_Md_spoil 2 := ⟨(zt 848 (by decide +kernel) rfl), (zt 9 (by decide +kernel) rfl), ⟨by decide, by decide, by decide +kernel⟩, by decide, Or.inl (zt 845 (by decide +kernel) rfl)⟩
theorem w_Law_60k : Cond.instanceMethod M_Md_spoil.1 ∈ zm_all ∧ Cond.selects M_Md_spoil.1.cls M_Md_spoil.1 M_Md_spoil.1 ∈ zm_all := ⟨(zt 846 (by decide +kernel) rfl), (zt 847 (by decide +kernel) rfl)⟩
theorem w_Law_61 : zm_cw R_Law 61 M_CM_retune 0 := ⟨(zt 493 (by decide +kernel) rfl), (zt 1 (by decide +kernel) rfl), ⟨by decide, by decide, by decide +kernel⟩, by decide, Or.inl (zt 490 (by decide +kernel) rfl)⟩
theorem w_Law_61k : Cond.instanceMethod M_CM_retune.1 ∈ zm_all ∧ Cond.selects M_CM_retune.1.cls M_CM_retune.1 M_CM_retune.1 ∈ zm_all := ⟨(zt 491 (by decide +kernel) rfl), (zt 492 (by decide +kernel) rfl)⟩
theorem w_Law_64 : zm_cw R_Law 64 M_Md_retune 0 := ⟨(zt 852 (by decide +kernel) rfl), (zt 9 (by decide +kernel) rfl), ⟨by decide, by decide, by decide +kernel⟩, by decide, Or.inl (zt 849 (by decide +kernel) rfl)⟩
theorem w_Law_64k : Cond.instanceMethod M_Md_retune.1 ∈ zm_all ∧ Cond.selects M_Md_retune.1.cls M_Md_retune.1 M_Md_retune.1 ∈ zm_all := ⟨(zt 850 (by decide +kernel) rfl), (zt 851 (by decide +kernel) rfl)⟩
theorem w_Law_65 : zm_cw R_Law 65 M_CM_count 1 := ⟨(zt 506 (by decide +kernel) rfl), (zt 1 (by decide +kernel) rfl), ⟨by decide, by decide, by decide +kernel⟩, by decide, Or.inl (zt 503 (by decide +kernel) rfl)⟩
theorem w_Law_65k : Cond.instanceMethod M_CM_count.1 ∈ zm_all ∧ Cond.selects M_CM_count.1.cls M_CM_count.1 M_CM_count.1 ∈ zm_all := ⟨(zt 504 (by decide +kernel) rfl), (zt 505 (by decide +kernel) rfl)⟩
theorem w_Law_68 : zm_cw R_Law 68 M_Md_count 1 := ⟨(zt 856 (by decide +kernel) rfl), (zt 9 (by decide +kernel) rfl), ⟨by decide, by decide, by decide +kernel⟩, by decide, Or.inl (zt 853 (by decide +kernel) rfl)⟩
theorem w_Law_68k : Cond.instanceMethod M_Md_count.1 ∈ zm_all ∧ Cond.selects M_Md_count.1.cls M_Md_count.1 M_Md_count.1 ∈ zm_all := ⟨(zt 854 (by decide +kernel) rfl), (zt 855 (by decide +kernel) rfl)⟩
theorem w_Law_69 : zm_cw R_Law 69 M_CM_transaction 0 := ⟨(zt 510 (by decide +kernel) rfl), (zt 1 (by decide +kernel) rfl), ⟨by decide, by decide, by decide +kernel⟩, by decide, Or.inl (zt 507 (by decide +kernel) rfl)⟩
theorem w_Law_69k : Cond.instanceMethod M_CM_transaction.1 ∈ zm_all ∧ Cond.selects M_CM_transaction.1.cls M_CM_transaction.1 M_CM_transaction.1 ∈ zm_all := ⟨(zt 508 (by decide +kernel) rfl), (zt 509 (by decide +kernel) rfl)⟩
theorem w_Law_72 : zm_cw R_Law 72 M_Md_transaction 0 := ⟨(zt 860 (by decide +kernel) rfl), (zt 9 (by decide +kernel) rfl), ⟨by decide, by decide, by decide +kernel⟩, by decide, Or.inl (zt 857 (by decide +kernel) rfl)⟩
theorem w_Law_72k : Cond.instanceMethod M_Md_transaction.1 ∈ zm_all ∧ Cond.selects M_Md_transaction.1.cls M_Md_transaction.1 M_Md_transaction.1 ∈ zm_all := ⟨(zt 858 (by decide +kernel) rfl), (zt 859 (by decide +kernel) rfl)⟩
theorem w_Law_73 : zm_cw R_Law 73 M_CM_held 1 := ⟨(zt 514 (by decide +kernel) rfl), (zt 1 (by decide +kernel) rfl), ⟨by decide, by decide, by decide +kernel⟩, by decide, Or.inl (zt 511 (by decide +kernel) rfl)⟩
theorem w_Law_73k : Cond.instanceMethod M_CM_held.1 ∈ zm_all ∧ Cond.selects M_CM_held.1.cls M_CM_held.1 M_CM_held.1 ∈ zm_all := ⟨(zt 512 (by decide +kernel) rfl), (zt 513 (by decide +kernel) rfl)⟩
theorem w_Law_76 : zm_cw R_Law 76 M_Md_held 1 := ⟨(zt 864 (by decide +kernel) rfl), (zt 9 (by decide +kernel) rfl), ⟨by decide, by decide, by decide +kernel⟩, by decide, Or.inl (zt 861 (by decide +kernel) rfl)⟩
theorem w_Law_76k : Cond.instanceMethod M_Md_held.1 ∈ zm_all ∧ Cond.selects M_Md_held.1.cls M_Md_held.1 M_Md_held.1 ∈ zm_all := ⟨(zt 862 (by decide +kernel) rfl), (zt 863 (by decide +kernel) rfl)⟩
theorem w_Law_77 : zm_cw R_Law 77 M_CM_kind 3 := ⟨(zt 529 (by decide +kernel) rfl), (zt 1 (by decide +kernel) rfl), ⟨by decide, by decide, by decide +kernel⟩, by decide, Or.inl (zt 526 (by decide +kernel) rfl)⟩
theorem w_Law_77k : Cond.instanceMethod M_CM_kind.1 ∈ zm_all ∧ Cond.selects M_CM_kind.1.cls M_CM_kind.1 M_CM_kind.1 ∈ zm_all := ⟨(zt 527 (by decide +kernel) rfl), (zt 528 (by decide +kernel) rfl)⟩
theorem w_Law_81 : zm_cw R_Law 81 M_Md_kind 3 := ⟨(zt 872 (by decide +kernel) rfl), (zt 9 (by decide +kernel) rfl), ⟨by decide, by decide, by decide +kernel⟩, by decide, Or.inl (zt 869 (by decide +kernel) rfl)⟩
theorem w_Law_81k : Cond.instanceMethod M_Md_kind.1 ∈ zm_all ∧ Cond.selects M_Md_kind.1.cls M_Md_kind.1 M_Md_kind.1 ∈ zm_all := ⟨(zt 870 (by decide +kernel) rfl), (zt 871 (by decide +kernel) rfl)⟩
theorem w_Law_82 : zm_cw R_Law 82 M_CM_size 3 := ⟨(zt 571 (by decide +kernel) rfl), (zt 1 (by decide +kernel) rfl), ⟨by decide, by decide, by decide +kernel⟩, by decide, Or.inl (zt 568 (by decide +kernel) rfl)⟩
theorem w_Law_82k : Cond.instanceMethod M_CM_size.1 ∈ zm_all ∧ Cond.selects M_CM_size.1.cls M_CM_size.1 M_CM_size.1 ∈ zm_all := ⟨(zt 569 (by decide +kernel) rfl), (zt 570 (by decide +kernel) rfl)⟩
theorem w_Law_85 : zm_cw R_Law 85 M_Md_size 3 := ⟨(zt 900 (by decide +kernel) rfl), (zt 9 (by decide +kernel) rfl), ⟨by decide, by decide, by decide +kernel⟩, by decide, Or.inl (zt 897 (by decide +kernel) rfl)⟩
theorem w_Law_85k : Cond.instanceMethod M_Md_size.1 ∈ zm_all ∧ Cond.selects M_Md_size.1.cls M_Md_size.1 M_Md_size.1 ∈ zm_all := ⟨(zt 898 (by decide +kernel) rfl), (zt 899 (by decide +kernel) rfl)⟩
theorem w_Law_86 : zm_cw R_Law 86 M_CM_read 4 := ⟨(zt 577 (by decide +kernel) rfl), (zt 1 (by decide +kernel) rfl), ⟨by decide, by decide, by decide +kernel⟩, by decide, Or.inl (zt 574 (by decide +kernel) rfl)⟩
theorem w_Law_86k : Cond.instanceMethod M_CM_read.1 ∈ zm_all ∧ Cond.selects M_CM_read.1.cls M_CM_read.1 M_CM_read.1 ∈ zm_all := ⟨(zt 575 (by decide +kernel) rfl), (zt 576 (by decide +kernel) rfl)⟩
theorem w_Law_90 : zm_cw R_Law 90 M_Md_read 4 := ⟨(zt 904 (by decide +kernel) rfl), (zt 9 (by decide +kernel) rfl), ⟨by decide, by decide, by decide +kernel⟩, by decide, Or.inl (zt 901 (by decide +kernel) rfl)⟩
theorem w_Law_90k : Cond.instanceMethod M_Md_read.1 ∈ zm_all ∧ Cond.selects M_Md_read.1.cls M_Md_read.1 M_Md_read.1 ∈ zm_all := ⟨(zt 902 (by decide +kernel) rfl), (zt 903 (by decide +kernel) rfl)⟩
theorem acI : Cond.arrayClass .int ∈ zm_all := zt 45 (by decide +kernel) rfl
theorem acZ : Cond.arrayClass .boolean ∈ zm_all := zt 688 (by decide +kernel) rfl
end
