section
-- ===== PART A: goes FIRST, ahead of the names: the tables' words, and 'selects' of the private methods out of them =====
/-- a private method of a class that the tables say can be made, by its rows of tables_1 -/
def lw_okq (q : MethodName × Nat) : Prop := (q.1.cls ≠ "java/lang/invoke/MethodHandle" ∧ q.1.cls ≠ "java/lang/invoke/VarHandle") ∧ Cond.instantiable q.1.cls q.2 ∈ tables_1 ∧ Cond.privateMethod q.1 ∈ tables_1 ∧ Cond.instanceMethod q.1 ∈ tables_1
theorem lw_p0 : lw_okq (⟨"NetMerge$Nets", "clear", "()V"⟩, 20) := ⟨⟨by decide +kernel, by decide +kernel⟩, List.mem_of_getElem? (i := 30) (by decide +kernel), List.mem_of_getElem? (i := 254) (by decide +kernel), List.mem_of_getElem? (i := 255) (by decide +kernel)⟩
theorem lw_p1 : lw_okq (⟨"NetMergeLaw", "loads", "(LNetMerge;[I)Z"⟩, 2) := ⟨⟨by decide +kernel, by decide +kernel⟩, List.mem_of_getElem? (i := 292) (by decide +kernel), List.mem_of_getElem? (i := 305) (by decide +kernel), List.mem_of_getElem? (i := 306) (by decide +kernel)⟩
theorem lw_p2 : lw_okq (⟨"NetMergeLaw", "writes", "(Ljava/lang/String;)V"⟩, 2) := ⟨⟨by decide +kernel, by decide +kernel⟩, List.mem_of_getElem? (i := 292) (by decide +kernel), List.mem_of_getElem? (i := 314) (by decide +kernel), List.mem_of_getElem? (i := 315) (by decide +kernel)⟩
theorem lw_p3 : lw_okq (⟨"NetMergeLaw", "spaced", "(I)V"⟩, 2) := ⟨⟨by decide +kernel, by decide +kernel⟩, List.mem_of_getElem? (i := 292) (by decide +kernel), List.mem_of_getElem? (i := 366) (by decide +kernel), List.mem_of_getElem? (i := 367) (by decide +kernel)⟩
theorem lw_p4 : lw_okq (⟨"NetMergeLaw", "letter", "(I)V"⟩, 2) := ⟨⟨by decide +kernel, by decide +kernel⟩, List.mem_of_getElem? (i := 292) (by decide +kernel), List.mem_of_getElem? (i := 375) (by decide +kernel), List.mem_of_getElem? (i := 376) (by decide +kernel)⟩
theorem lw_p5 : lw_okq (⟨"NetMergeLaw", "feeds", "(LNetMerge;)I"⟩, 2) := ⟨⟨by decide +kernel, by decide +kernel⟩, List.mem_of_getElem? (i := 292) (by decide +kernel), List.mem_of_getElem? (i := 384) (by decide +kernel), List.mem_of_getElem? (i := 385) (by decide +kernel)⟩
theorem lw_p6 : lw_okq (⟨"NetMerge$Text", "append", "(I)V"⟩, 7) := ⟨⟨by decide +kernel, by decide +kernel⟩, List.mem_of_getElem? (i := 161) (by decide +kernel), List.mem_of_getElem? (i := 392) (by decide +kernel), List.mem_of_getElem? (i := 393) (by decide +kernel)⟩
theorem lw_p7 : lw_okq (⟨"java/lang/Throwable", "fillInStackTrace", "(I)Ljava/lang/Throwable;"⟩, 6) := ⟨⟨by decide +kernel, by decide +kernel⟩, List.mem_of_getElem? (i := 437) (by decide +kernel), List.mem_of_getElem? (i := 435) (by decide +kernel), List.mem_of_getElem? (i := 436) (by decide +kernel)⟩
theorem lw_p8 : lw_okq (⟨"NetMerge$Text", "begin", "(I)V"⟩, 7) := ⟨⟨by decide +kernel, by decide +kernel⟩, List.mem_of_getElem? (i := 161) (by decide +kernel), List.mem_of_getElem? (i := 463) (by decide +kernel), List.mem_of_getElem? (i := 464) (by decide +kernel)⟩
theorem lw_p9 : lw_okq (⟨"NetMerge$Text", "advance", "()V"⟩, 7) := ⟨⟨by decide +kernel, by decide +kernel⟩, List.mem_of_getElem? (i := 161) (by decide +kernel), List.mem_of_getElem? (i := 470) (by decide +kernel), List.mem_of_getElem? (i := 471) (by decide +kernel)⟩
theorem lw_p10 : lw_okq (⟨"NetMerge$Loader", "readText", "()I"⟩, 4) := ⟨⟨by decide +kernel, by decide +kernel⟩, List.mem_of_getElem? (i := 194) (by decide +kernel), List.mem_of_getElem? (i := 480) (by decide +kernel), List.mem_of_getElem? (i := 481) (by decide +kernel)⟩
theorem lw_p11 : lw_okq (⟨"NetMerge$Loader", "readHead", "()Z"⟩, 4) := ⟨⟨by decide +kernel, by decide +kernel⟩, List.mem_of_getElem? (i := 194) (by decide +kernel), List.mem_of_getElem? (i := 485) (by decide +kernel), List.mem_of_getElem? (i := 486) (by decide +kernel)⟩
theorem lw_p12 : lw_okq (⟨"NetMerge$Loader", "takeWord", "(Ljava/lang/String;)Z"⟩, 4) := ⟨⟨by decide +kernel, by decide +kernel⟩, List.mem_of_getElem? (i := 194) (by decide +kernel), List.mem_of_getElem? (i := 490) (by decide +kernel), List.mem_of_getElem? (i := 491) (by decide +kernel)⟩
theorem lw_p13 : lw_okq (⟨"NetMerge$Text", "isWord", "(Ljava/lang/String;)Z"⟩, 7) := ⟨⟨by decide +kernel, by decide +kernel⟩, List.mem_of_getElem? (i := 161) (by decide +kernel), List.mem_of_getElem? (i := 494) (by decide +kernel), List.mem_of_getElem? (i := 495) (by decide +kernel)⟩
theorem lw_p14 : lw_okq (⟨"NetMerge$Loader", "fail", "(I)Z"⟩, 4) := ⟨⟨by decide +kernel, by decide +kernel⟩, List.mem_of_getElem? (i := 194) (by decide +kernel), List.mem_of_getElem? (i := 500) (by decide +kernel), List.mem_of_getElem? (i := 501) (by decide +kernel)⟩
theorem lw_p15 : lw_okq (⟨"NetMerge$Loader", "readKeep", "()Z"⟩, 4) := ⟨⟨by decide +kernel, by decide +kernel⟩, List.mem_of_getElem? (i := 194) (by decide +kernel), List.mem_of_getElem? (i := 505) (by decide +kernel), List.mem_of_getElem? (i := 506) (by decide +kernel)⟩
def lw_privs_1 : List (MethodName × Nat) := [(⟨"NetMerge$Nets", "clear", "()V"⟩, 20), (⟨"NetMergeLaw", "loads", "(LNetMerge;[I)Z"⟩, 2), (⟨"NetMergeLaw", "writes", "(Ljava/lang/String;)V"⟩, 2), (⟨"NetMergeLaw", "spaced", "(I)V"⟩, 2), (⟨"NetMergeLaw", "letter", "(I)V"⟩, 2), (⟨"NetMergeLaw", "feeds", "(LNetMerge;)I"⟩, 2), (⟨"NetMerge$Text", "append", "(I)V"⟩, 7), (⟨"java/lang/Throwable", "fillInStackTrace", "(I)Ljava/lang/Throwable;"⟩, 6), (⟨"NetMerge$Text", "begin", "(I)V"⟩, 7), (⟨"NetMerge$Text", "advance", "()V"⟩, 7), (⟨"NetMerge$Loader", "readText", "()I"⟩, 4), (⟨"NetMerge$Loader", "readHead", "()Z"⟩, 4), (⟨"NetMerge$Loader", "takeWord", "(Ljava/lang/String;)Z"⟩, 4), (⟨"NetMerge$Text", "isWord", "(Ljava/lang/String;)Z"⟩, 7), (⟨"NetMerge$Loader", "fail", "(I)Z"⟩, 4), (⟨"NetMerge$Loader", "readKeep", "()Z"⟩, 4)]
theorem lw_r1 : ∀ q ∈ lw_privs_1, lw_okq q := List.forall_mem_cons.mpr ⟨lw_p0, List.forall_mem_cons.mpr ⟨lw_p1, List.forall_mem_cons.mpr ⟨lw_p2, List.forall_mem_cons.mpr ⟨lw_p3, List.forall_mem_cons.mpr ⟨lw_p4, List.forall_mem_cons.mpr ⟨lw_p5, List.forall_mem_cons.mpr ⟨lw_p6, List.forall_mem_cons.mpr ⟨lw_p7, List.forall_mem_cons.mpr ⟨lw_p8, List.forall_mem_cons.mpr ⟨lw_p9, List.forall_mem_cons.mpr ⟨lw_p10, List.forall_mem_cons.mpr ⟨lw_p11, List.forall_mem_cons.mpr ⟨lw_p12, List.forall_mem_cons.mpr ⟨lw_p13, List.forall_mem_cons.mpr ⟨lw_p14, List.forall_mem_cons.mpr ⟨lw_p15, fun _ h => absurd h List.not_mem_nil⟩⟩⟩⟩⟩⟩⟩⟩⟩⟩⟩⟩⟩⟩⟩⟩
theorem lw_p16 : lw_okq (⟨"NetMerge$Loader", "takeNumber", "(II)Z"⟩, 4) := ⟨⟨by decide +kernel, by decide +kernel⟩, List.mem_of_getElem? (i := 194) (by decide +kernel), List.mem_of_getElem? (i := 510) (by decide +kernel), List.mem_of_getElem? (i := 511) (by decide +kernel)⟩
theorem lw_p17 : lw_okq (⟨"NetMerge$Loader", "isNumber", "(II)Z"⟩, 4) := ⟨⟨by decide +kernel, by decide +kernel⟩, List.mem_of_getElem? (i := 194) (by decide +kernel), List.mem_of_getElem? (i := 514) (by decide +kernel), List.mem_of_getElem? (i := 515) (by decide +kernel)⟩
theorem lw_p18 : lw_okq (⟨"NetMerge$Loader", "readPer", "()Z"⟩, 4) := ⟨⟨by decide +kernel, by decide +kernel⟩, List.mem_of_getElem? (i := 194) (by decide +kernel), List.mem_of_getElem? (i := 518) (by decide +kernel), List.mem_of_getElem? (i := 519) (by decide +kernel)⟩
theorem lw_p19 : lw_okq (⟨"NetMerge$Loader", "readPool", "()Z"⟩, 4) := ⟨⟨by decide +kernel, by decide +kernel⟩, List.mem_of_getElem? (i := 194) (by decide +kernel), List.mem_of_getElem? (i := 523) (by decide +kernel), List.mem_of_getElem? (i := 524) (by decide +kernel)⟩
theorem lw_p20 : lw_okq (⟨"NetMerge$Loader", "takeSemicolon", "()Z"⟩, 4) := ⟨⟨by decide +kernel, by decide +kernel⟩, List.mem_of_getElem? (i := 194) (by decide +kernel), List.mem_of_getElem? (i := 528) (by decide +kernel), List.mem_of_getElem? (i := 529) (by decide +kernel)⟩
theorem lw_p21 : lw_okq (⟨"NetMerge$Text", "isSign", "(I)Z"⟩, 7) := ⟨⟨by decide +kernel, by decide +kernel⟩, List.mem_of_getElem? (i := 161) (by decide +kernel), List.mem_of_getElem? (i := 532) (by decide +kernel), List.mem_of_getElem? (i := 533) (by decide +kernel)⟩
theorem lw_p22 : lw_okq (⟨"NetMerge$Loader", "readHost", "()Z"⟩, 4) := ⟨⟨by decide +kernel, by decide +kernel⟩, List.mem_of_getElem? (i := 194) (by decide +kernel), List.mem_of_getElem? (i := 537) (by decide +kernel), List.mem_of_getElem? (i := 538) (by decide +kernel)⟩
theorem lw_p23 : lw_okq (⟨"NetMerge$Text", "letters", "()I"⟩, 7) := ⟨⟨by decide +kernel, by decide +kernel⟩, List.mem_of_getElem? (i := 161) (by decide +kernel), List.mem_of_getElem? (i := 541) (by decide +kernel), List.mem_of_getElem? (i := 542) (by decide +kernel)⟩
theorem lw_p24 : lw_okq (⟨"NetMerge$Text", "asName", "()J"⟩, 7) := ⟨⟨by decide +kernel, by decide +kernel⟩, List.mem_of_getElem? (i := 161) (by decide +kernel), List.mem_of_getElem? (i := 545) (by decide +kernel), List.mem_of_getElem? (i := 546) (by decide +kernel)⟩
theorem lw_p25 : lw_okq (⟨"NetMerge$Nets", "hostNamed", "(J)I"⟩, 20) := ⟨⟨by decide +kernel, by decide +kernel⟩, List.mem_of_getElem? (i := 30) (by decide +kernel), List.mem_of_getElem? (i := 550) (by decide +kernel), List.mem_of_getElem? (i := 551) (by decide +kernel)⟩
theorem lw_p26 : lw_okq (⟨"NetMerge$Nets", "holderInOffice", "(II)I"⟩, 20) := ⟨⟨by decide +kernel, by decide +kernel⟩, List.mem_of_getElem? (i := 30) (by decide +kernel), List.mem_of_getElem? (i := 554) (by decide +kernel), List.mem_of_getElem? (i := 555) (by decide +kernel)⟩
theorem lw_p27 : lw_okq (⟨"NetMerge$Nets", "keptBy", "(I)I"⟩, 20) := ⟨⟨by decide +kernel, by decide +kernel⟩, List.mem_of_getElem? (i := 30) (by decide +kernel), List.mem_of_getElem? (i := 558) (by decide +kernel), List.mem_of_getElem? (i := 559) (by decide +kernel)⟩
theorem lw_p28 : lw_okq (⟨"NetMerge$Nets", "keepsAt", "(II)Z"⟩, 20) := ⟨⟨by decide +kernel, by decide +kernel⟩, List.mem_of_getElem? (i := 30) (by decide +kernel), List.mem_of_getElem? (i := 562) (by decide +kernel), List.mem_of_getElem? (i := 563) (by decide +kernel)⟩
theorem lw_p29 : lw_okq (⟨"NetMerge$Nets", "numberAhead", "(II)I"⟩, 20) := ⟨⟨by decide +kernel, by decide +kernel⟩, List.mem_of_getElem? (i := 30) (by decide +kernel), List.mem_of_getElem? (i := 566) (by decide +kernel), List.mem_of_getElem? (i := 567) (by decide +kernel)⟩
theorem lw_p30 : lw_okq (⟨"NetMerge$Nets", "appendHost", "(JII)I"⟩, 20) := ⟨⟨by decide +kernel, by decide +kernel⟩, List.mem_of_getElem? (i := 30) (by decide +kernel), List.mem_of_getElem? (i := 570) (by decide +kernel), List.mem_of_getElem? (i := 571) (by decide +kernel)⟩
theorem lw_p31 : lw_okq (⟨"NetMerge$Loader", "readRule", "()Z"⟩, 4) := ⟨⟨by decide +kernel, by decide +kernel⟩, List.mem_of_getElem? (i := 194) (by decide +kernel), List.mem_of_getElem? (i := 576) (by decide +kernel), List.mem_of_getElem? (i := 577) (by decide +kernel)⟩
def lw_privs_2 : List (MethodName × Nat) := [(⟨"NetMerge$Loader", "takeNumber", "(II)Z"⟩, 4), (⟨"NetMerge$Loader", "isNumber", "(II)Z"⟩, 4), (⟨"NetMerge$Loader", "readPer", "()Z"⟩, 4), (⟨"NetMerge$Loader", "readPool", "()Z"⟩, 4), (⟨"NetMerge$Loader", "takeSemicolon", "()Z"⟩, 4), (⟨"NetMerge$Text", "isSign", "(I)Z"⟩, 7), (⟨"NetMerge$Loader", "readHost", "()Z"⟩, 4), (⟨"NetMerge$Text", "letters", "()I"⟩, 7), (⟨"NetMerge$Text", "asName", "()J"⟩, 7), (⟨"NetMerge$Nets", "hostNamed", "(J)I"⟩, 20), (⟨"NetMerge$Nets", "holderInOffice", "(II)I"⟩, 20), (⟨"NetMerge$Nets", "keptBy", "(I)I"⟩, 20), (⟨"NetMerge$Nets", "keepsAt", "(II)Z"⟩, 20), (⟨"NetMerge$Nets", "numberAhead", "(II)I"⟩, 20), (⟨"NetMerge$Nets", "appendHost", "(JII)I"⟩, 20), (⟨"NetMerge$Loader", "readRule", "()Z"⟩, 4)]
theorem lw_r2 : ∀ q ∈ lw_privs_2, lw_okq q := List.forall_mem_cons.mpr ⟨lw_p16, List.forall_mem_cons.mpr ⟨lw_p17, List.forall_mem_cons.mpr ⟨lw_p18, List.forall_mem_cons.mpr ⟨lw_p19, List.forall_mem_cons.mpr ⟨lw_p20, List.forall_mem_cons.mpr ⟨lw_p21, List.forall_mem_cons.mpr ⟨lw_p22, List.forall_mem_cons.mpr ⟨lw_p23, List.forall_mem_cons.mpr ⟨lw_p24, List.forall_mem_cons.mpr ⟨lw_p25, List.forall_mem_cons.mpr ⟨lw_p26, List.forall_mem_cons.mpr ⟨lw_p27, List.forall_mem_cons.mpr ⟨lw_p28, List.forall_mem_cons.mpr ⟨lw_p29, List.forall_mem_cons.mpr ⟨lw_p30, List.forall_mem_cons.mpr ⟨lw_p31, fun _ h => absurd h List.not_mem_nil⟩⟩⟩⟩⟩⟩⟩⟩⟩⟩⟩⟩⟩⟩⟩⟩
theorem lw_p32 : lw_okq (⟨"NetMerge$Loader", "takeSide", "()Z"⟩, 4) := ⟨⟨by decide +kernel, by decide +kernel⟩, List.mem_of_getElem? (i := 194) (by decide +kernel), List.mem_of_getElem? (i := 582) (by decide +kernel), List.mem_of_getElem? (i := 583) (by decide +kernel)⟩
theorem lw_p33 : lw_okq (⟨"NetMerge$Nets", "appendRule", "(IZII)I"⟩, 20) := ⟨⟨by decide +kernel, by decide +kernel⟩, List.mem_of_getElem? (i := 30) (by decide +kernel), List.mem_of_getElem? (i := 587) (by decide +kernel), List.mem_of_getElem? (i := 588) (by decide +kernel)⟩
theorem lw_p34 : lw_okq (⟨"NetMerge$Loader", "readMove", "()Z"⟩, 4) := ⟨⟨by decide +kernel, by decide +kernel⟩, List.mem_of_getElem? (i := 194) (by decide +kernel), List.mem_of_getElem? (i := 592) (by decide +kernel), List.mem_of_getElem? (i := 593) (by decide +kernel)⟩
theorem lw_p35 : lw_okq (⟨"NetMerge$Nets", "plansIn", "(I)I"⟩, 20) := ⟨⟨by decide +kernel, by decide +kernel⟩, List.mem_of_getElem? (i := 30) (by decide +kernel), List.mem_of_getElem? (i := 596) (by decide +kernel), List.mem_of_getElem? (i := 597) (by decide +kernel)⟩
theorem lw_p36 : lw_okq (⟨"NetMerge$Nets", "setPlan", "(III)V"⟩, 20) := ⟨⟨by decide +kernel, by decide +kernel⟩, List.mem_of_getElem? (i := 30) (by decide +kernel), List.mem_of_getElem? (i := 600) (by decide +kernel), List.mem_of_getElem? (i := 601) (by decide +kernel)⟩
theorem lw_p37 : lw_okq (⟨"NetMerge$Nets", "copyFrom", "(LNetMerge$Nets;)V"⟩, 20) := ⟨⟨by decide +kernel, by decide +kernel⟩, List.mem_of_getElem? (i := 30) (by decide +kernel), List.mem_of_getElem? (i := 604) (by decide +kernel), List.mem_of_getElem? (i := 605) (by decide +kernel)⟩
theorem lw_p38 : lw_okq (⟨"NetMerge$History", "clear", "()V"⟩, 3) := ⟨⟨by decide +kernel, by decide +kernel⟩, List.mem_of_getElem? (i := 125) (by decide +kernel), List.mem_of_getElem? (i := 611) (by decide +kernel), List.mem_of_getElem? (i := 612) (by decide +kernel)⟩
theorem lw_p39 : lw_okq (⟨"NetMerge$Nets", "planCount", "()I"⟩, 20) := ⟨⟨by decide +kernel, by decide +kernel⟩, List.mem_of_getElem? (i := 30) (by decide +kernel), List.mem_of_getElem? (i := 623) (by decide +kernel), List.mem_of_getElem? (i := 624) (by decide +kernel)⟩
theorem lw_p40 : lw_okq (⟨"NetMerge", "clashCount", "(LNetMerge$Nets;)I"⟩, 11) := ⟨⟨by decide +kernel, by decide +kernel⟩, List.mem_of_getElem? (i := 22) (by decide +kernel), List.mem_of_getElem? (i := 627) (by decide +kernel), List.mem_of_getElem? (i := 628) (by decide +kernel)⟩
theorem lw_p41 : lw_okq (⟨"NetMerge$Tally", "count", "(LNetMerge$Nets;)V"⟩, 3) := ⟨⟨by decide +kernel, by decide +kernel⟩, List.mem_of_getElem? (i := 145) (by decide +kernel), List.mem_of_getElem? (i := 631) (by decide +kernel), List.mem_of_getElem? (i := 632) (by decide +kernel)⟩
theorem lw_p42 : lw_okq (⟨"NetMerge$Tally", "clashes", "()I"⟩, 3) := ⟨⟨by decide +kernel, by decide +kernel⟩, List.mem_of_getElem? (i := 145) (by decide +kernel), List.mem_of_getElem? (i := 642) (by decide +kernel), List.mem_of_getElem? (i := 643) (by decide +kernel)⟩
theorem lw_p43 : lw_okq (⟨"NetMerge$Tally", "isClash", "(I)Z"⟩, 3) := ⟨⟨by decide +kernel, by decide +kernel⟩, List.mem_of_getElem? (i := 145) (by decide +kernel), List.mem_of_getElem? (i := 646) (by decide +kernel), List.mem_of_getElem? (i := 647) (by decide +kernel)⟩
theorem lw_p44 : lw_okq (⟨"NetMerge$Nets", "keeperCount", "()I"⟩, 20) := ⟨⟨by decide +kernel, by decide +kernel⟩, List.mem_of_getElem? (i := 30) (by decide +kernel), List.mem_of_getElem? (i := 650) (by decide +kernel), List.mem_of_getElem? (i := 651) (by decide +kernel)⟩
theorem lw_p45 : lw_okq (⟨"NetMerge", "needHost", "(I)V"⟩, 11) := ⟨⟨by decide +kernel, by decide +kernel⟩, List.mem_of_getElem? (i := 22) (by decide +kernel), List.mem_of_getElem? (i := 679) (by decide +kernel), List.mem_of_getElem? (i := 680) (by decide +kernel)⟩
theorem lw_p46 : lw_okq (⟨"NetMerge$Tally", "clashAt", "(I)I"⟩, 3) := ⟨⟨by decide +kernel, by decide +kernel⟩, List.mem_of_getElem? (i := 145) (by decide +kernel), List.mem_of_getElem? (i := 708) (by decide +kernel), List.mem_of_getElem? (i := 709) (by decide +kernel)⟩
theorem lw_p47 : lw_okq (⟨"NetMerge", "tryWave", "()I"⟩, 11) := ⟨⟨by decide +kernel, by decide +kernel⟩, List.mem_of_getElem? (i := 22) (by decide +kernel), List.mem_of_getElem? (i := 727) (by decide +kernel), List.mem_of_getElem? (i := 728) (by decide +kernel)⟩
def lw_privs_3 : List (MethodName × Nat) := [(⟨"NetMerge$Loader", "takeSide", "()Z"⟩, 4), (⟨"NetMerge$Nets", "appendRule", "(IZII)I"⟩, 20), (⟨"NetMerge$Loader", "readMove", "()Z"⟩, 4), (⟨"NetMerge$Nets", "plansIn", "(I)I"⟩, 20), (⟨"NetMerge$Nets", "setPlan", "(III)V"⟩, 20), (⟨"NetMerge$Nets", "copyFrom", "(LNetMerge$Nets;)V"⟩, 20), (⟨"NetMerge$History", "clear", "()V"⟩, 3), (⟨"NetMerge$Nets", "planCount", "()I"⟩, 20), (⟨"NetMerge", "clashCount", "(LNetMerge$Nets;)I"⟩, 11), (⟨"NetMerge$Tally", "count", "(LNetMerge$Nets;)V"⟩, 3), (⟨"NetMerge$Tally", "clashes", "()I"⟩, 3), (⟨"NetMerge$Tally", "isClash", "(I)Z"⟩, 3), (⟨"NetMerge$Nets", "keeperCount", "()I"⟩, 20), (⟨"NetMerge", "needHost", "(I)V"⟩, 11), (⟨"NetMerge$Tally", "clashAt", "(I)I"⟩, 3), (⟨"NetMerge", "tryWave", "()I"⟩, 11)]
theorem lw_r3 : ∀ q ∈ lw_privs_3, lw_okq q := List.forall_mem_cons.mpr ⟨lw_p32, List.forall_mem_cons.mpr ⟨lw_p33, List.forall_mem_cons.mpr ⟨lw_p34, List.forall_mem_cons.mpr ⟨lw_p35, List.forall_mem_cons.mpr ⟨lw_p36, List.forall_mem_cons.mpr ⟨lw_p37, List.forall_mem_cons.mpr ⟨lw_p38, List.forall_mem_cons.mpr ⟨lw_p39, List.forall_mem_cons.mpr ⟨lw_p40, List.forall_mem_cons.mpr ⟨lw_p41, List.forall_mem_cons.mpr ⟨lw_p42, List.forall_mem_cons.mpr ⟨lw_p43, List.forall_mem_cons.mpr ⟨lw_p44, List.forall_mem_cons.mpr ⟨lw_p45, List.forall_mem_cons.mpr ⟨lw_p46, List.forall_mem_cons.mpr ⟨lw_p47, fun _ h => absurd h List.not_mem_nil⟩⟩⟩⟩⟩⟩⟩⟩⟩⟩⟩⟩⟩⟩⟩⟩
theorem lw_p48 : lw_okq (⟨"NetMerge$Nets", "keeperWouldMove", "()Z"⟩, 20) := ⟨⟨by decide +kernel, by decide +kernel⟩, List.mem_of_getElem? (i := 30) (by decide +kernel), List.mem_of_getElem? (i := 731) (by decide +kernel), List.mem_of_getElem? (i := 732) (by decide +kernel)⟩
theorem lw_p49 : lw_okq (⟨"NetMerge$Nets", "doWave", "()I"⟩, 20) := ⟨⟨by decide +kernel, by decide +kernel⟩, List.mem_of_getElem? (i := 30) (by decide +kernel), List.mem_of_getElem? (i := 735) (by decide +kernel), List.mem_of_getElem? (i := 736) (by decide +kernel)⟩
theorem lw_p50 : lw_okq (⟨"NetMerge$Nets", "sideBehindWave", "(II)I"⟩, 20) := ⟨⟨by decide +kernel, by decide +kernel⟩, List.mem_of_getElem? (i := 30) (by decide +kernel), List.mem_of_getElem? (i := 739) (by decide +kernel), List.mem_of_getElem? (i := 740) (by decide +kernel)⟩
theorem lw_p51 : lw_okq (⟨"NetMerge$Nets", "numberedInNet", "(II)I"⟩, 20) := ⟨⟨by decide +kernel, by decide +kernel⟩, List.mem_of_getElem? (i := 30) (by decide +kernel), List.mem_of_getElem? (i := 743) (by decide +kernel), List.mem_of_getElem? (i := 744) (by decide +kernel)⟩
theorem lw_p52 : lw_okq (⟨"NetMerge$Nets", "inNet", "(II)Z"⟩, 20) := ⟨⟨by decide +kernel, by decide +kernel⟩, List.mem_of_getElem? (i := 30) (by decide +kernel), List.mem_of_getElem? (i := 747) (by decide +kernel), List.mem_of_getElem? (i := 748) (by decide +kernel)⟩
theorem lw_p53 : lw_okq (⟨"NetMerge", "heldTwice", "(LNetMerge$Nets;)I"⟩, 11) := ⟨⟨by decide +kernel, by decide +kernel⟩, List.mem_of_getElem? (i := 22) (by decide +kernel), List.mem_of_getElem? (i := 752) (by decide +kernel), List.mem_of_getElem? (i := 753) (by decide +kernel)⟩
theorem lw_p54 : lw_okq (⟨"NetMerge$Tally", "smallestTwice", "(Z)I"⟩, 3) := ⟨⟨by decide +kernel, by decide +kernel⟩, List.mem_of_getElem? (i := 145) (by decide +kernel), List.mem_of_getElem? (i := 756) (by decide +kernel), List.mem_of_getElem? (i := 757) (by decide +kernel)⟩
theorem lw_p55 : lw_okq (⟨"NetMerge", "adoptTrial", "()V"⟩, 11) := ⟨⟨by decide +kernel, by decide +kernel⟩, List.mem_of_getElem? (i := 22) (by decide +kernel), List.mem_of_getElem? (i := 765) (by decide +kernel), List.mem_of_getElem? (i := 766) (by decide +kernel)⟩
theorem lw_p56 : lw_okq (⟨"NetMerge$History", "add", "(LNetMerge$Nets;)V"⟩, 3) := ⟨⟨by decide +kernel, by decide +kernel⟩, List.mem_of_getElem? (i := 125) (by decide +kernel), List.mem_of_getElem? (i := 769) (by decide +kernel), List.mem_of_getElem? (i := 770) (by decide +kernel)⟩
theorem lw_p57 : lw_okq (⟨"NetMerge$History", "takeNewest", "(LNetMerge$Nets;)V"⟩, 3) := ⟨⟨by decide +kernel, by decide +kernel⟩, List.mem_of_getElem? (i := 125) (by decide +kernel), List.mem_of_getElem? (i := 779) (by decide +kernel), List.mem_of_getElem? (i := 780) (by decide +kernel)⟩
theorem lw_p58 : lw_okq (⟨"NetMerge$Nets", "holderInNet", "(II)I"⟩, 20) := ⟨⟨by decide +kernel, by decide +kernel⟩, List.mem_of_getElem? (i := 30) (by decide +kernel), List.mem_of_getElem? (i := 790) (by decide +kernel), List.mem_of_getElem? (i := 791) (by decide +kernel)⟩
theorem lw_p59 : lw_okq (⟨"NetMerge$Nets", "dropHost", "(I)V"⟩, 20) := ⟨⟨by decide +kernel, by decide +kernel⟩, List.mem_of_getElem? (i := 30) (by decide +kernel), List.mem_of_getElem? (i := 799) (by decide +kernel), List.mem_of_getElem? (i := 800) (by decide +kernel)⟩
theorem lw_p60 : lw_okq (⟨"NetMerge$Nets", "chosenToMove", "(I)I"⟩, 20) := ⟨⟨by decide +kernel, by decide +kernel⟩, List.mem_of_getElem? (i := 30) (by decide +kernel), List.mem_of_getElem? (i := 814) (by decide +kernel), List.mem_of_getElem? (i := 815) (by decide +kernel)⟩
theorem lw_p61 : lw_okq (⟨"NetMerge$Nets", "movableWith", "(II)I"⟩, 20) := ⟨⟨by decide +kernel, by decide +kernel⟩, List.mem_of_getElem? (i := 30) (by decide +kernel), List.mem_of_getElem? (i := 818) (by decide +kernel), List.mem_of_getElem? (i := 819) (by decide +kernel)⟩
theorem lw_p62 : lw_okq (⟨"NetMerge$Tally", "smallestFree", "(II)I"⟩, 3) := ⟨⟨by decide +kernel, by decide +kernel⟩, List.mem_of_getElem? (i := 145) (by decide +kernel), List.mem_of_getElem? (i := 822) (by decide +kernel), List.mem_of_getElem? (i := 823) (by decide +kernel)⟩
theorem lw_p63 : lw_okq (⟨"NetMerge$Nets", "firstWaveWithRoom", "()I"⟩, 20) := ⟨⟨by decide +kernel, by decide +kernel⟩, List.mem_of_getElem? (i := 30) (by decide +kernel), List.mem_of_getElem? (i := 829) (by decide +kernel), List.mem_of_getElem? (i := 830) (by decide +kernel)⟩
def lw_privs_4 : List (MethodName × Nat) := [(⟨"NetMerge$Nets", "keeperWouldMove", "()Z"⟩, 20), (⟨"NetMerge$Nets", "doWave", "()I"⟩, 20), (⟨"NetMerge$Nets", "sideBehindWave", "(II)I"⟩, 20), (⟨"NetMerge$Nets", "numberedInNet", "(II)I"⟩, 20), (⟨"NetMerge$Nets", "inNet", "(II)Z"⟩, 20), (⟨"NetMerge", "heldTwice", "(LNetMerge$Nets;)I"⟩, 11), (⟨"NetMerge$Tally", "smallestTwice", "(Z)I"⟩, 3), (⟨"NetMerge", "adoptTrial", "()V"⟩, 11), (⟨"NetMerge$History", "add", "(LNetMerge$Nets;)V"⟩, 3), (⟨"NetMerge$History", "takeNewest", "(LNetMerge$Nets;)V"⟩, 3), (⟨"NetMerge$Nets", "holderInNet", "(II)I"⟩, 20), (⟨"NetMerge$Nets", "dropHost", "(I)V"⟩, 20), (⟨"NetMerge$Nets", "chosenToMove", "(I)I"⟩, 20), (⟨"NetMerge$Nets", "movableWith", "(II)I"⟩, 20), (⟨"NetMerge$Tally", "smallestFree", "(II)I"⟩, 3), (⟨"NetMerge$Nets", "firstWaveWithRoom", "()I"⟩, 20)]
theorem lw_r4 : ∀ q ∈ lw_privs_4, lw_okq q := List.forall_mem_cons.mpr ⟨lw_p48, List.forall_mem_cons.mpr ⟨lw_p49, List.forall_mem_cons.mpr ⟨lw_p50, List.forall_mem_cons.mpr ⟨lw_p51, List.forall_mem_cons.mpr ⟨lw_p52, List.forall_mem_cons.mpr ⟨lw_p53, List.forall_mem_cons.mpr ⟨lw_p54, List.forall_mem_cons.mpr ⟨lw_p55, List.forall_mem_cons.mpr ⟨lw_p56, List.forall_mem_cons.mpr ⟨lw_p57, List.forall_mem_cons.mpr ⟨lw_p58, List.forall_mem_cons.mpr ⟨lw_p59, List.forall_mem_cons.mpr ⟨lw_p60, List.forall_mem_cons.mpr ⟨lw_p61, List.forall_mem_cons.mpr ⟨lw_p62, List.forall_mem_cons.mpr ⟨lw_p63, fun _ h => absurd h List.not_mem_nil⟩⟩⟩⟩⟩⟩⟩⟩⟩⟩⟩⟩⟩⟩⟩⟩
theorem lw_p64 : lw_okq (⟨"NetMerge$Tally", "countPlan", "(I)V"⟩, 3) := ⟨⟨by decide +kernel, by decide +kernel⟩, List.mem_of_getElem? (i := 145) (by decide +kernel), List.mem_of_getElem? (i := 834) (by decide +kernel), List.mem_of_getElem? (i := 835) (by decide +kernel)⟩
theorem lw_p65 : lw_okq (⟨"NetMerge$Nets", "undoWave", "()V"⟩, 20) := ⟨⟨by decide +kernel, by decide +kernel⟩, List.mem_of_getElem? (i := 30) (by decide +kernel), List.mem_of_getElem? (i := 842) (by decide +kernel), List.mem_of_getElem? (i := 843) (by decide +kernel)⟩
theorem lw_p66 : lw_okq (⟨"NetMerge$Nets", "sideAheadOfWave", "(II)I"⟩, 20) := ⟨⟨by decide +kernel, by decide +kernel⟩, List.mem_of_getElem? (i := 30) (by decide +kernel), List.mem_of_getElem? (i := 846) (by decide +kernel), List.mem_of_getElem? (i := 847) (by decide +kernel)⟩
theorem lw_p67 : lw_okq (⟨"NetMerge$Nets", "undoMove", "(I)V"⟩, 20) := ⟨⟨by decide +kernel, by decide +kernel⟩, List.mem_of_getElem? (i := 30) (by decide +kernel), List.mem_of_getElem? (i := 850) (by decide +kernel), List.mem_of_getElem? (i := 851) (by decide +kernel)⟩
theorem lw_p68 : lw_okq (⟨"NetMerge$Nets", "hostsOfOffice", "(I)I"⟩, 20) := ⟨⟨by decide +kernel, by decide +kernel⟩, List.mem_of_getElem? (i := 30) (by decide +kernel), List.mem_of_getElem? (i := 862) (by decide +kernel), List.mem_of_getElem? (i := 863) (by decide +kernel)⟩
theorem lw_p69 : lw_okq (⟨"NetMerge", "needRule", "(I)V"⟩, 11) := ⟨⟨by decide +kernel, by decide +kernel⟩, List.mem_of_getElem? (i := 22) (by decide +kernel), List.mem_of_getElem? (i := 878) (by decide +kernel), List.mem_of_getElem? (i := 879) (by decide +kernel)⟩
theorem lw_p70 : lw_okq (⟨"NetMerge$Nets", "dropRule", "(I)V"⟩, 20) := ⟨⟨by decide +kernel, by decide +kernel⟩, List.mem_of_getElem? (i := 30) (by decide +kernel), List.mem_of_getElem? (i := 882) (by decide +kernel), List.mem_of_getElem? (i := 883) (by decide +kernel)⟩
def lw_privs_5 : List (MethodName × Nat) := [(⟨"NetMerge$Tally", "countPlan", "(I)V"⟩, 3), (⟨"NetMerge$Nets", "undoWave", "()V"⟩, 20), (⟨"NetMerge$Nets", "sideAheadOfWave", "(II)I"⟩, 20), (⟨"NetMerge$Nets", "undoMove", "(I)V"⟩, 20), (⟨"NetMerge$Nets", "hostsOfOffice", "(I)I"⟩, 20), (⟨"NetMerge", "needRule", "(I)V"⟩, 11), (⟨"NetMerge$Nets", "dropRule", "(I)V"⟩, 20)]
theorem lw_r5 : ∀ q ∈ lw_privs_5, lw_okq q := List.forall_mem_cons.mpr ⟨lw_p64, List.forall_mem_cons.mpr ⟨lw_p65, List.forall_mem_cons.mpr ⟨lw_p66, List.forall_mem_cons.mpr ⟨lw_p67, List.forall_mem_cons.mpr ⟨lw_p68, List.forall_mem_cons.mpr ⟨lw_p69, List.forall_mem_cons.mpr ⟨lw_p70, fun _ h => absurd h List.not_mem_nil⟩⟩⟩⟩⟩⟩⟩
def lw_privs : List (MethodName × Nat) := lw_privs_1 ++ (lw_privs_2 ++ (lw_privs_3 ++ (lw_privs_4 ++ (lw_privs_5))))
def lw_tbl : List Cond := k2_sels lw_privs ++ tables_1
theorem lw_privs_ok : ∀ q ∈ lw_privs, lw_okq q := by
  show ∀ q ∈ lw_privs_1 ++ (lw_privs_2 ++ (lw_privs_3 ++ (lw_privs_4 ++ (lw_privs_5)))), lw_okq q
  exact List.forall_mem_append.mpr ⟨lw_r1, List.forall_mem_append.mpr ⟨lw_r2, List.forall_mem_append.mpr ⟨lw_r3, List.forall_mem_append.mpr ⟨lw_r4, lw_r5⟩⟩⟩⟩
-- ===== end of PART A; then your names; then what follows =====
end
section
/-! ===== BEGIN exceptions that leave a method, and their catching by the caller (launches without stack traces) ===== -/
section VXA
/-! The laws vx_back, vx_callV, vx_callS, vx_callSW, vx_throw0, vx_throwS follow proofs of the library, with one case more: JvmDerived/Free/Laws.lean (Back.of_free), Shelf42/LK1.lean (callV, callS), Shelf/KitTraced.lean (throwNew0V, throwNewS). -/
/-- where a method has thrown q: the class by its name, the cell, what was written, the world -/
def vx_T (XC : String → State → State → Prop) (st : State) (q : Addr) (t : State) (mc ms : Nat) (free : Addr → Prop) : Prop :=
  ∃ (E : String) (ce : Cell) (L : List Loc), XC E st t ∧ t.heap[q]? = some ce ∧ ce.vm = .none ∧ st.vm.findClass E = some ce.cls ∧ st.WarmedH t.vm ∧ st.sameButNew ({ t with vm := st.vm } : State) L mc ms ∧ ∀ z ∈ L, free z.base
def vx_Q (Qc : Array Value → State → Outcome → State → Prop) (XC : String → State → State → Prop) (mc ms : Nat) (free : Addr → Prop) : Array Value → State → Outcome → State → Prop := fun a st o t =>
  (Qc a st o t ∧ ∃ L, FrameEnd st o t L mc ms ∧ ∀ q ∈ L, free q.base) ∨ ∃ q, o = .threw q ∧ vx_T XC st q t mc ms free
/-- a callee that returns or throws -/
def vx_Met (l : Launch) (y : MethodName) (ws : List Cond) (rm : Room) (Pc : Array Value → State → Prop) (Qc : Array Value → State → Outcome → State → Prop) (XC : String → State → State → Prop) (mc ms : Nat) (free : Addr → Prop) : Prop :=
  MetFree l y (headSpec ws rm) Pc (fun _ _ _ _ _ => True) (vx_Q Qc XC mc ms free)
def vx_Post (XC : String → State → State → Prop) (mc ms : Nat) (free : Addr → Prop) : Pt → Array Value → Addr → Pt → Prop := fun A a q B =>
  ∃ (g : JFrame) (mk : MethodId) (t : State) (L : List Loc) (E : String) (ce : Cell), B.U.heap = t.heap ∧ B.U.vm = t.vm ∧ XC E (A.U.calling g mk a) t ∧ t.heap[q]? = some ce ∧ ce.vm = .none ∧ A.U.vm.findClass E = some ce.cls ∧ B.locs = A.locs ++ L ∧ (∀ z ∈ L, free z.base) ∧ B.cells = A.cells + mc ∧ B.slots = A.slots + ms
def vx_Back (l : Launch) (R : Room) (p : Program) (e : Env) (below : List Frame) (s : State) (sargs : Array Value) (y : MethodName) (len W9 : Nat)
    (Pre : Pt → Array Value → Prop) (Post : Pt → Array Value → Option Value → Pt → Prop) (PostX : Pt → Array Value → Addr → Pt → Prop) : Prop :=
  ∀ (m : MethodId) (meth : Method) (c : Code) (A : Pt) (g : JFrame) (ig : Instr) (mk : MethodId) (a : Array Value),
    Stand p l e R s m sargs below meth c A.U A.locs A.cells A.slots → g.method = m → g.locals.size = c.maxLocals → decode c.code g.pc = .ok (ig, len) →
    2 * g.monitorRoom + (g.stack.map fun v => v.category).sum ≤ W9 → A.U.methodNamed? y = some mk → Pre A a →
    (∃ (v : Option Value) (B : Pt), Stand p l e R s m sargs below meth c B.U B.locs B.cells B.slots ∧ Post A a v B ∧
      Steps p.tables e below (doInvoke e (A.U.setTop g) [] mk a).1 (B.U.setTop { g with pc := g.pc + len, stack := v.toList ++ g.stack })) ∨
    (∃ (q : Addr) (B : Pt), Stand p l e R s m sargs below meth c B.U B.locs B.cells B.slots ∧ PostX A a q B ∧
      Steps p.tables e below (doInvoke e (A.U.setTop g) [] mk a).1 ((B.U.setTop g).pushFrame (.throwing q)))
section Payer
variable {l : Launch} {R : Room} {p : Program} {e : Env} {below : List Frame} {s : State} {sargs : Array Value} {y : MethodName} {len W9 : Nat}
theorem vx_back {ws : List Cond} {rm : Room} {Pc : Array Value → State → Prop} {Qc : Array Value → State → Outcome → State → Prop} {XC : String → State → State → Prop} {mc ms : Nat} {free : Addr → Prop} {bytes : ByteArray} {maxL : Nat} {ret : Option FieldType}
    (hM : vx_Met l y ws rm Pc Qc XC mc ms free) (hblind : FrameBlind Pc) (hrc : rm.cells = mc) (hrs : rm.slots = ms)
    (hframes : rm.frames + 1 ≤ R.frames) (hlocals : W9 + (maxL + 11) + rm.locals ≤ R.locals)
    (hws : ∀ w ∈ ws, ∀ a' U, s.WarmedH U.vm → w.before a' U = true) (hcode : Cond.code y bytes maxL ret ∈ ws) (hinit : ∀ a' U, s.WarmedH U.vm → (Cond.initialized y.cls).before a' U = true) :
    vx_Back l R p e below s sargs y len W9 (PreOf R mc ms Pc) (PostOf Qc mc ms free) (vx_Post XC mc ms free) := by
  intro m meth c A g ig mk a X hg hsize hdg hW hn hp
  have h1 : (headSpec ws rm).pre.before a A.U = true := atoms_intro fun w hw => hws w hw _ _ X.warmed
  have h2 : (Cond.code y bytes maxL ret).before a A.U = true := hws _ hcode _ _ X.warmed
  have h3 : (Cond.initialized y.cls).before a A.U = true := hinit _ _ X.warmed
  have h4 : A.cells + (headSpec ws rm).room.cells ≤ R.cells := by rw [show (headSpec ws rm).room.cells = mc from hrc]; exact hp.1
  have h5 : A.slots + (headSpec ws rm).room.slots ≤ R.slots := by rw [show (headSpec ws rm).room.slots = ms from hrs]; exact hp.2.1
  have hPc : Pc a (A.U.calling g mk a) := hblind _ _ _ _ hp.2.2
  obtain ⟨U, Ls, c0, s0⟩ := A
  dsimp only [Pt.U, Pt.locs, Pt.cells, Pt.slots] at h1 h2 h3 h4 h5 X hn hPc ⊢
  obtain ⟨methY, cY, hmY, hcY, -, hlY, -, -, -, -⟩ := Cond.code_spec hn h2
  obtain ⟨kY, hkY, -⟩ := className_of_methodNamed hn
  have hinitY : kY.init = .initialized := Cond.initialized_spec (findClass_of_methodNamed hn) hkY h3
  have h : At U g.method c below := by rw [hg]; exact X.here
  have hlocals9 : W9 + (maxL + 11) + (headSpec ws rm).room.locals ≤ R.locals := hlocals
  have happ : (headSpec ws rm).appliesLoose y e.platform (U.calling g mk a) = true :=
    Spec.appliesLoose_calling (g := g) h hdg hn hkY hinitY
      (X.room_calling (g := g) (R' := (headSpec ws rm).room) hsize hmY hcY hframes (by rw [hlY]; omega) h4 h5) h1
  obtain ⟨mid, hmid⟩ := h.above
  have hfr : (U.setTop g).frames = (.java g :: mid) ++ below := by rw [State.frames_setTop' g h.top, hmid]; rfl
  obtain ⟨o, s₂, hsteps, -, hend, hq⟩ := Steps.callFree hM p X.admits X.cas X.clock (acts := []) hfr happ hPc trivial
  have hq' : vx_Q Qc XC mc ms free a (U.calling g mk a) o s₂ := hq
  rw [State.frames_setTop' g h.top] at hend
  obtain ⟨g₀, hg0⟩ := Option.isSome_iff_exists.mp h.top
  obtain ⟨r, hr⟩ := State.topJava?_eq_some.mp hg0
  have hr' : (({ U with heap := s₂.heap, slotsUsed := s₂.slotsUsed } : State).setVm s₂.vm).frames = .java g₀ :: r := hr
  rcases hq' with ⟨hqc, L, hfe, hL⟩ | ⟨q, rfl, E, ce, L, hx, hce, hcv, hcl, hW₂, hsm, hL⟩
  · obtain ⟨⟨v, rfl⟩, hW₂, e2, q2, q3, q4, q5, q6⟩ := id hfe
    have e3 : s₂ = ({ (U.calling g mk a).setFrames s₂.frames with heap := s₂.heap, slotsUsed := s₂.slotsUsed } : State).setVm s₂.vm := by
      have : s₂ = ({ s₂ with vm := (U.calling g mk a).vm } : State).setVm s₂.vm := rfl
      rw [e2] at this
      exact this
    obtain ⟨c₂, i₂, len₂, hc₂, hd₂, hf₂⟩ := hend
    have hW' : U.WarmedH s₂.vm := hW₂
    have hcc : c₂ = c := by
      have h1 : s₂.code? g.method = U.code? g.method := by
        rw [State.code?_eq, State.code?_eq, hW'.alike.method?]
      exact Option.some.inj (hc₂.symm.trans (h1.trans h.code))
    subst hcc
    have hlen : len₂ = len := by rw [hdg] at hd₂; cases hd₂; rfl
    subst hlen
    have hs₂ : s₂ = (({ U with heap := s₂.heap, slotsUsed := s₂.slotsUsed } : State).setVm s₂.vm).setTop { g with pc := g.pc + len₂, stack := v.toList ++ g.stack } := by
      refine e3.trans ?_
      rw [hf₂, State.calling_eq h.top, State.setFrames_setFrames, State.setTop_of_frames _ hr', hr]
      rfl
    have hsame : U.sameButNew ({ U with heap := s₂.heap, slotsUsed := s₂.slotsUsed } : State) L mc ms := by
      refine ⟨?_, q2, q3, q4, q5, q6⟩
      obtain ⟨t, ht, -⟩ := State.frames_cons hr
      show ({ U with heap := s₂.heap, slotsUsed := s₂.slotsUsed } : State) = { U.setFrames U.frames with heap := s₂.heap, slotsUsed := s₂.slotsUsed }
      rw [State.setFrames_self ht]
    subst hg
    refine Or.inl ⟨v, ⟨(({ U with heap := s₂.heap, slotsUsed := s₂.slotsUsed } : State).setVm s₂.vm), Ls ++ L, c0 + mc, s0 + ms⟩,
      ⟨X.admits, X.cas, X.clock, X.frames, X.room, X.hears, X.method, X.code, (X.here.setHeapUsed s₂.heap s₂.slotsUsed).setVm hW'.alike, X.tail, State.WarmedH.trans X.warmed hW', X.limits, X.bytes, X.same.trans (hsame.setVm s.vm)⟩,
      ⟨g, mk, s₂, L, rfl, rfl, hqc, rfl, hL, rfl, rfl⟩, ?_⟩
    show Steps p.tables e below _ ((({ U with heap := s₂.heap, slotsUsed := s₂.slotsUsed } : State).setVm s₂.vm).setTop { g with pc := g.pc + len₂, stack := v.toList ++ g.stack })
    rw [← hs₂]
    exact hsteps
  · obtain ⟨e2, q2, q3, q4, q5, q6⟩ := id hsm
    have e3 : s₂ = ({ (U.calling g mk a).setFrames s₂.frames with heap := s₂.heap, slotsUsed := s₂.slotsUsed } : State).setVm s₂.vm := by
      have : s₂ = ({ s₂ with vm := (U.calling g mk a).vm } : State).setVm s₂.vm := rfl
      rw [e2] at this
      exact this
    have hf₂ : s₂.frames = .throwing q :: .java g :: U.frames.tail := hend
    have hW' : U.WarmedH s₂.vm := hW₂
    have hs₂ : s₂ = ((({ U with heap := s₂.heap, slotsUsed := s₂.slotsUsed } : State).setVm s₂.vm).setTop g).pushFrame (.throwing q) := by
      refine e3.trans ?_
      rw [hf₂, State.calling_eq h.top, State.setFrames_setFrames, State.pushFrame, State.frames_setTop _ hr', State.setTop_of_frames _ hr', State.setFrames_setFrames, hr]
      rfl
    have hsame : U.sameButNew ({ U with heap := s₂.heap, slotsUsed := s₂.slotsUsed } : State) L mc ms := by
      refine ⟨?_, q2, q3, q4, q5, q6⟩
      obtain ⟨t, ht, -⟩ := State.frames_cons hr
      show ({ U with heap := s₂.heap, slotsUsed := s₂.slotsUsed } : State) = { U.setFrames U.frames with heap := s₂.heap, slotsUsed := s₂.slotsUsed }
      rw [State.setFrames_self ht]
    subst hg
    refine Or.inr ⟨q, ⟨(({ U with heap := s₂.heap, slotsUsed := s₂.slotsUsed } : State).setVm s₂.vm), Ls ++ L, c0 + mc, s0 + ms⟩,
      ⟨X.admits, X.cas, X.clock, X.frames, X.room, X.hears, X.method, X.code, (X.here.setHeapUsed s₂.heap s₂.slotsUsed).setVm hW'.alike, X.tail, State.WarmedH.trans X.warmed hW', X.limits, X.bytes, X.same.trans (hsame.setVm s.vm)⟩,
      ⟨g, mk, s₂, L, E, ce, rfl, rfl, hx, hce, hcv, hcl, rfl, hL, rfl, rfl⟩, ?_⟩
    show Steps p.tables e below _ (((({ U with heap := s₂.heap, slotsUsed := s₂.slotsUsed } : State).setVm s₂.vm).setTop g).pushFrame (.throwing q))
    rw [← hs₂]
    exact hsteps
end Payer
section Calls
variable {p : Program} {l : Launch} {e : Env} {R : Room} {s : State} {m : MethodId} {args : Array Value} {below : List Frame} {meth : Method} {c : Code} {T : State} {locs : List Loc} {cells slots : Nat}
theorem vx_callV (X : Stand p l e R s m args below meth c T locs cells slots) (hexec : p.tables.exec = Jvm.exec) {own C : String} {index : Nat} {y : MethodName} {bytes : ByteArray} {maxL : Nat} {ret : Option FieldType}
    (hown : s.vm.findClass own = some m.cls) (hlink : (Cond.methodLink own index y).before args s = true) (hinst : (Cond.instanceMethod y).before args s = true) (hsel : (Cond.selects C y y).before args s = true)
    (hcode : (Cond.code y bytes maxL ret).before args s = true) (hy : y.cls ≠ "java/lang/invoke/MethodHandle" ∧ y.cls ≠ "java/lang/invoke/VarHandle")
    {W9 : Nat} {Pre : Pt → Array Value → Prop} {Post : Pt → Array Value → Option Value → Pt → Prop} {PostX : Pt → Array Value → Addr → Pt → Prop} (hK : vx_Back l R p e below s args y 3 W9 Pre Post PostX)
    {b : Addr} {cellB : Cell} (hcell : T.heap[b]? = some cellB) (hobj : cellB.vm.isStatics = false) (hcls : s.vm.findClass C = some cellB.cls)
    {g : JFrame} (hg : g.method = m) (hsize : g.locals.size = c.maxLocals) {argsL rest : List Value} (hlen : ∀ sig, parseMethodDescriptor y.desc = some sig → argsL.length = sig.parameters.length)
    (hstack : g.stack = argsL.reverse ++ .ref b :: rest) (hW : 2 * g.monitorRoom + (rest.map fun v => v.category).sum ≤ W9) (hdg : decode c.code g.pc = .ok (.invokevirtual index, 3))
    (hpre : ∀ vm₁, s.WarmedH vm₁ → Pre ⟨T.setVm vm₁, locs, cells, slots⟩ (Value.ref b :: argsL).toArray) :
    (∃ (v : Option Value) (vm₁ : Vm) (B : Pt), s.WarmedH vm₁ ∧ Stand p l e R s m args below meth c B.U B.locs B.cells B.slots ∧ Post ⟨T.setVm vm₁, locs, cells, slots⟩ (Value.ref b :: argsL).toArray v B ∧
      ∀ target, Steps p.tables e below (B.U.setTop { g with pc := g.pc + 3, stack := v.toList ++ rest }) target → Steps p.tables e below (T.setTop g) target) ∨
    (∃ (q : Addr) (vm₁ : Vm) (B : Pt), s.WarmedH vm₁ ∧ Stand p l e R s m args below meth c B.U B.locs B.cells B.slots ∧ PostX ⟨T.setVm vm₁, locs, cells, slots⟩ (Value.ref b :: argsL).toArray q B ∧
      Steps p.tables e below (T.setTop g) ((B.U.setTop { g with stack := rest }).pushFrame (.throwing q))) := by
  obtain ⟨mk, methM, hnamed, hmethM, hstM, habM⟩ := Cond.instanceMethod_spec hinst
  obtain ⟨methM', cM, hmethM', -, -, -, -, -, -, hsigM⟩ := Cond.code_spec hnamed hcode
  cases hmethM.symm.trans hmethM'
  obtain ⟨c2, r2, m2, q1, q2, q3, q4, kP, hkP, hkPi⟩ := Cond.selects_spec hsel
  cases hcls.symm.trans q1
  cases (State.methodFound?_of_named hnamed hy).symm.trans q2
  cases hnamed.symm.trans q3
  have hselP : selectMethod e.platform s.vm cellB.cls mk = .method mk := by rw [Launch.admits_selectMethod X.admits]; exact q4
  obtain ⟨vm₁, X₁, hstep₁⟩ := X.invokevirtual hexec hown hlink hnamed hmethM hstM hkP hkPi hy (a := b) (cell := cellB) hcell
    (fun z h => by rw [h] at hobj; cases hobj) hselP hmethM habM hkP hkPi (g := g) hg (argsL := argsL) (rest := rest) (hlen _ hsigM) hstack hdg
  rcases hK m meth c ⟨T.setVm vm₁, locs, cells, slots⟩ { g with stack := rest } (.invokevirtual index) mk (Value.ref b :: argsL).toArray X₁ hg hsize hdg hW (X₁.named hnamed) (hpre vm₁ X₁.warmed) with ⟨v, B, X', hpost, hsteps⟩ | ⟨q, B, X', hpost, hsteps⟩
  · exact Or.inl ⟨v, vm₁, B, X₁.warmed, X', hpost, fun target h => hstep₁ _ fun acts => by rw [doInvoke_state]; exact hsteps.trans h⟩
  · exact Or.inr ⟨q, vm₁, B, X₁.warmed, X', hpost, hstep₁ _ fun acts => by rw [doInvoke_state]; exact hsteps⟩
theorem vx_callS (X : Stand p l e R s m args below meth c T locs cells slots) (hexec : p.tables.exec = Jvm.exec) {own : String} {index : Nat} {y : MethodName} {bytes : ByteArray} {maxL : Nat} {ret : Option FieldType}
    (hown : s.vm.findClass own = some m.cls) (hlink : (Cond.methodLink own index y).before args s = true) (hstat : (Cond.static y).before args s = true) (hinit : (Cond.initialized y.cls).before args s = true)
    (hcode : (Cond.code y bytes maxL ret).before args s = true) (hy : y.cls ≠ "java/lang/invoke/MethodHandle" ∧ y.cls ≠ "java/lang/invoke/VarHandle")
    {W9 : Nat} {Pre : Pt → Array Value → Prop} {Post : Pt → Array Value → Option Value → Pt → Prop} {PostX : Pt → Array Value → Addr → Pt → Prop} (hK : vx_Back l R p e below s args y 3 W9 Pre Post PostX)
    {g : JFrame} (hg : g.method = m) (hsize : g.locals.size = c.maxLocals) {argsL rest : List Value} (hlen : ∀ sig, parseMethodDescriptor y.desc = some sig → argsL.length = sig.parameters.length)
    (hstack : g.stack = argsL.reverse ++ rest) (hW : 2 * g.monitorRoom + (rest.map fun v => v.category).sum ≤ W9) (hdg : decode c.code g.pc = .ok (.invokestatic index, 3))
    (hpre : ∀ vm₁, s.WarmedH vm₁ → Pre ⟨T.setVm vm₁, locs, cells, slots⟩ argsL.toArray) :
    (∃ (v : Option Value) (vm₁ : Vm) (B : Pt), s.WarmedH vm₁ ∧ Stand p l e R s m args below meth c B.U B.locs B.cells B.slots ∧ Post ⟨T.setVm vm₁, locs, cells, slots⟩ argsL.toArray v B ∧
      ∀ target, Steps p.tables e below (B.U.setTop { g with pc := g.pc + 3, stack := v.toList ++ rest }) target → Steps p.tables e below (T.setTop g) target) ∨
    (∃ (q : Addr) (vm₁ : Vm) (B : Pt), s.WarmedH vm₁ ∧ Stand p l e R s m args below meth c B.U B.locs B.cells B.slots ∧ PostX ⟨T.setVm vm₁, locs, cells, slots⟩ argsL.toArray q B ∧
      Steps p.tables e below (T.setTop g) ((B.U.setTop { g with stack := rest }).pushFrame (.throwing q))) := by
  obtain ⟨mk, hnamed⟩ := Cond.code_named hcode
  obtain ⟨methM, cM, hmethM, -, -, -, -, -, -, hsigM⟩ := Cond.code_spec hnamed hcode
  have hstatic : methM.isStatic = true := Cond.static_spec hnamed hmethM hstat
  obtain ⟨kP, hkP, -⟩ := className_of_methodNamed hnamed
  have hinitP : kP.init = .initialized := Cond.initialized_spec (findClass_of_methodNamed hnamed) hkP hinit
  obtain ⟨vm₁, X₁, hstep₁⟩ := X.invokestatic hexec hown hlink hnamed hmethM hstatic hkP hinitP hy (g := g) hg (argsL := argsL) (rest := rest) (hlen _ hsigM) hstack hdg
  rcases hK m meth c ⟨T.setVm vm₁, locs, cells, slots⟩ { g with stack := rest } (.invokestatic index) mk argsL.toArray X₁ hg hsize hdg hW (X₁.named hnamed) (hpre vm₁ X₁.warmed) with ⟨v, B, X', hpost, hsteps⟩ | ⟨q, B, X', hpost, hsteps⟩
  · exact Or.inl ⟨v, vm₁, B, X₁.warmed, X', hpost, fun target h => hstep₁ _ fun acts => by rw [doInvoke_state]; exact hsteps.trans h⟩
  · exact Or.inr ⟨q, vm₁, B, X₁.warmed, X', hpost, hstep₁ _ fun acts => by rw [doInvoke_state]; exact hsteps⟩
end Calls
theorem vx_cls {s : State} {T : State} {vm₁ : Vm} {E : String} {k : ClassId} (hW : s.WarmedH vm₁) (h : (T.setVm vm₁).vm.findClass E = some k) : s.vm.findClass E = some k := by
  have h1 : vm₁.findClass E = some k := h
  rw [hW.alike.findClass] at h1
  exact h1
/-- the method's frame g, with q thrown over it -/
def vx_W (p : Program) (l : Launch) (e : Env) (R : Room) (s : State) (m : MethodId) (args : Array Value) (below : List Frame) (meth : Method) (c : Code) (H : Heap) (locs : List Loc) (cells slots : Nat) (Q : State → Prop) (g : JFrame) (q : Addr) : Prop :=
  ∀ T : State, T.heap = H → Stand p l e R s m args below meth c T locs cells slots → ∃ t, Steps p.tables e below ((T.setTop g).pushFrame (.throwing q)) t ∧ Q t
def vx_Run (p : Program) (l : Launch) (e : Env) (R : Room) (s : State) (m : MethodId) (args : Array Value) (below : List Frame) (meth : Method) (c : Code) (H : Heap) (locs : List Loc) (cells slots mc ms : Nat) (g : JFrame) (rest : List Value) (Qa : State → Outcome → State → Prop) (XC : String → State → State → Prop) (free : Addr → Prop) : Prop :=
  ∀ T : State, T.heap = H → Stand p l e R s m args below meth c T locs cells slots →
    (∃ (v : Option Value) (st₀ t T' : State) (L : List Loc), st₀.heap = H ∧ Stand p l e R s m args below meth c T' (locs ++ L) (cells + mc) (slots + ms) ∧ (∀ q ∈ L, free q.base) ∧ T'.heap = t.heap ∧ T'.vm = t.vm ∧ Qa st₀ (.returned v) t ∧
      Goes p e below T g T' { g with pc := g.pc + 3, stack := v.toList ++ rest }) ∨
    (∃ (q : Addr) (st₀ t T' : State) (L : List Loc) (E : String) (ce : Cell), st₀.heap = H ∧ Stand p l e R s m args below meth c T' (locs ++ L) (cells + mc) (slots + ms) ∧ (∀ z ∈ L, free z.base) ∧ T'.heap = t.heap ∧ T'.vm = t.vm ∧ XC E st₀ t ∧ t.heap[q]? = some ce ∧ ce.vm = .none ∧ s.vm.findClass E = some ce.cls ∧
      Steps p.tables e below (T.setTop g) ((T'.setTop { g with stack := rest }).pushFrame (.throwing q)))
def vx_X {S : Type} (px : S → Prop) (B : String → S → State → Prop) (A : Nat → Prop) : String → State → State → Prop := fun E st t => ∃ u : S, px u ∧ B E u t ∧ va_F A st t
section Runs
variable {p : Program} {l : Launch} {e : Env} {R : Room} {s : State} {m : MethodId} {args : Array Value} {below : List Frame} {meth : Method} {c : Code} {H : Heap} {locs : List Loc} {cells slots : Nat}
variable {y : MethodName} {bytes cc : ByteArray} {maxL nL mc ms n index : Nat} {ret : Option FieldType} {ws : List Cond} {rm : Room} {Pc : Array Value → State → Prop} {Qc : Array Value → State → Outcome → State → Prop} {XC : String → State → State → Prop} {free : Addr → Prop} {Ts : List Cond} {own C : String} {b : Addr} {As rest : List Value} {g : JFrame}
theorem vx_callBack (cb : CallB R s args own index y bytes maxL ret ws rm mc ms n) (hM : vx_Met l y ws rm Pc Qc XC mc ms free) (hbl : FrameBlind Pc) : vx_Back l R p e below s args y 3 8 (PreOf R mc ms Pc) (PostOf Qc mc ms free) (vx_Post XC mc ms free) := by
  obtain ⟨hrc, hrs, hfr, hlo, hws, hcw, -, hini, -⟩ := cb
  exact vx_back (bytes := bytes) (maxL := maxL) (ret := ret) hM hbl hrc hrs hfr hlo hws hcw (fun a' U hW => word_at hW (Or.inl (by first | rfl | simp [Cond.onTables, Cond.keeps, Cond.steady])) hini)
theorem vx_runV (S : CallFix p m c cc nL s args Ts own) (hM : vx_Met l y ws rm Pc Qc XC mc ms free) (cw : CallW R s args own C index y bytes maxL ret ws rm mc ms n) (hp : PreV s H C b Pc As)
    (hg : g.method = m) (hn : As.length = n) (hsize : g.locals.size = nL) (hstack : g.stack = As.reverse ++ .ref b :: rest) (hW : 2 * g.monitorRoom + (rest.map fun v => v.category).sum ≤ 8) (hdg : decode cc g.pc = .ok (.invokevirtual index, 3)) (hf : cells + mc ≤ R.cells ∧ slots + ms ≤ R.slots) :
    vx_Run p l e R s m args below meth c H locs cells slots mc ms g rest (Qc (Value.ref b :: As).toArray) XC free := by
  have hK : vx_Back l R p e below s args y 3 8 (PreOf R mc ms Pc) (PostOf Qc mc ms free) (vx_Post XC mc ms free) := vx_callBack cw.1 hM hp.1
  obtain ⟨⟨-, -, -, -, -, -, hcode, -, hy, hlen, hl⟩, hin, hse⟩ := cw
  obtain ⟨hx, hb, hml, ho, -⟩ := S
  obtain ⟨-, ⟨cellB, hcB, hoB, hclB⟩, hPc⟩ := hp
  intro T hT X
  rcases vx_callV X hx (C := C) (bytes := bytes) (maxL := maxL) (ret := ret) ho hl hin hse hcode hy hK (by rw [hT]; exact hcB) hoB hclB hg (hsize.trans hml.symm) (argsL := As) (rest := rest) (fun sig h => hn.trans (hlen sig h)) hstack hW (by rw [hb]; exact hdg)
    (fun vm₁ hW₁ => ⟨hf.1, hf.2, hPc (T.setVm vm₁) hT hW₁⟩) with ⟨v, vm₁, ⟨U', l2, c2, s2⟩, hW₁, X', ⟨g', mk, t, L, e1, e2, hq, h1, hL, h2, h3⟩, st⟩ | ⟨q, vm₁, ⟨U', l2, c2, s2⟩, hW₁, X', ⟨g', mk, t, L, E, ce, e1, e2, hq, hce, hcv, hcl, h1, hL, h2, h3⟩, st⟩
  · dsimp only [Pt.U, Pt.locs, Pt.cells, Pt.slots] at X' e1 e2 h1 h2 h3 st
    subst h1; subst h2; subst h3
    exact Or.inl ⟨v, (T.setVm vm₁).calling g' mk (Value.ref b :: As).toArray, t, U', L, hT, X', hL, e1, e2, hq, st⟩
  · dsimp only [Pt.U, Pt.locs, Pt.cells, Pt.slots] at X' e1 e2 h1 h2 h3 st hcl
    subst h1; subst h2; subst h3
    exact Or.inr ⟨q, (T.setVm vm₁).calling g' mk (Value.ref b :: As).toArray, t, U', L, E, ce, hT, X', hL, e1, e2, hq, hce, hcv, vx_cls hW₁ hcl, st⟩
theorem vx_runS (S : CallFix p m c cc nL s args Ts own) (hM : vx_Met l y ws rm Pc Qc XC mc ms free) (cw : CallB R s args own index y bytes maxL ret ws rm mc ms n ∧ (Cond.static y).before args s = true) (hp : PreS s H Pc As)
    (hg : g.method = m) (hn : As.length = n) (hsize : g.locals.size = nL) (hstack : g.stack = As.reverse ++ rest) (hW : 2 * g.monitorRoom + (rest.map fun v => v.category).sum ≤ 8) (hdg : decode cc g.pc = .ok (.invokestatic index, 3)) (hf : cells + mc ≤ R.cells ∧ slots + ms ≤ R.slots) :
    vx_Run p l e R s m args below meth c H locs cells slots mc ms g rest (Qc As.toArray) XC free := by
  have hK : vx_Back l R p e below s args y 3 8 (PreOf R mc ms Pc) (PostOf Qc mc ms free) (vx_Post XC mc ms free) := vx_callBack cw.1 hM hp.1
  obtain ⟨⟨-, -, -, -, -, -, hcode, hini, hy, hlen, hl⟩, hstt⟩ := cw
  obtain ⟨hx, hb, hml, ho, -⟩ := S
  intro T hT X
  rcases vx_callS X hx (bytes := bytes) (maxL := maxL) (ret := ret) ho hl hstt hini hcode hy hK hg (hsize.trans hml.symm) (argsL := As) (rest := rest) (fun sig h => hn.trans (hlen sig h)) hstack hW (by rw [hb]; exact hdg)
    (fun vm₁ hW₁ => ⟨hf.1, hf.2, hp.2 (T.setVm vm₁) hT hW₁⟩) with ⟨v, vm₁, ⟨U', l2, c2, s2⟩, hW₁, X', ⟨g', mk, t, L, e1, e2, hq, h1, hL, h2, h3⟩, st⟩ | ⟨q, vm₁, ⟨U', l2, c2, s2⟩, hW₁, X', ⟨g', mk, t, L, E, ce, e1, e2, hq, hce, hcv, hcl, h1, hL, h2, h3⟩, st⟩
  · dsimp only [Pt.U, Pt.locs, Pt.cells, Pt.slots] at X' e1 e2 h1 h2 h3 st
    subst h1; subst h2; subst h3
    exact Or.inl ⟨v, (T.setVm vm₁).calling g' mk As.toArray, t, U', L, hT, X', hL, e1, e2, hq, st⟩
  · dsimp only [Pt.U, Pt.locs, Pt.cells, Pt.slots] at X' e1 e2 h1 h2 h3 st hcl
    subst h1; subst h2; subst h3
    exact Or.inr ⟨q, (T.setVm vm₁).calling g' mk As.toArray, t, U', L, E, ce, hT, X', hL, e1, e2, hq, hce, hcv, vx_cls hW₁ hcl, st⟩
end Runs
section Rows
variable {p : Program} {l : Launch} {e : Env} {R : Room} {s : State} {m : MethodId} {args : Array Value} {below : List Frame} {meth : Method} {c : Code} {H : Heap} {locs : List Loc} {cells slots : Nat} {Q : State → Prop}
variable {mc ms : Nat} {free : Addr → Prop} {A0 A1 : Nat → Prop} {H0 : Heap} {a : Array Value} {pc : Nat} {ls : Array Slot} {st0 rest : List Value}
theorem vx_keep {st₀ t T' : State} {L : List Loc} (h0 : st₀.heap = H) (e1 : T'.heap = t.heap) (hS : va_S A0 H0 H locs) (hA : ∀ q, q < H.size → A1 q → A0 q) (hf : ∀ q, free q → A0 q) (hL : ∀ q ∈ L, free q.base) (hF : va_F A1 st₀ t) :
    H.size ≤ T'.heap.size ∧ (∀ q : Nat, q < H.size → ¬ A1 q → T'.heap[q]? = H[q]?) ∧ va_S A0 H0 T'.heap (locs ++ L) := by
  obtain ⟨hz, hk⟩ := hF
  rw [h0] at hz hk
  exact ⟨by rw [e1]; exact hz, fun q h1 h2 => by rw [e1]; exact hk q h1 h2,
    ⟨Nat.le_trans hS.1 (by rw [e1]; exact hz), fun q h1 h2 => by rw [e1, hk q (Nat.lt_of_lt_of_le h1 hS.1) (fun z => h2 (hA q (Nat.lt_of_lt_of_le h1 hS.1) z))]; exact hS.2.1 q h1 h2, fun q hq => by
      rcases List.mem_append.mp hq with h | h
      · exact hS.2.2 q h
      · exact hf _ (hL q h)⟩⟩
theorem vx_calli {S SX : Type} {post : Int32 → S → Prop} {px : SX → Prop} {B : S → State → Prop} {BX : String → SX → State → Prop} {AX : Nat → Prop} (hr : vx_Run p l e R s m args below meth c H locs cells slots mc ms (F0 m pc ls st0) rest (va_Qi post B A1 a) (vx_X px BX AX) free) (hS : va_S A0 H0 H locs) (hA : ∀ q, q < H.size → A1 q → A0 q) (hf : ∀ q, free q → A0 q) (hAX : ∀ q, q < H.size → AX q → A0 q)
    (kx : ∀ (E : String) (ce : Cell) (q9 : Addr) (u : SX) (t : State) (H1 : Heap) (locs1 : List Loc), t.heap = H1 → s.vm.Alike t.vm → px u → BX E u t → H.size ≤ H1.size → (∀ q : Nat, q < H.size → ¬ AX q → H1[q]? = H[q]?) → va_S A0 H0 H1 locs1 → H1[q9]? = some ce → ce.vm = .none → s.vm.findClass E = some ce.cls → vx_W p l e R s m args below meth c H1 locs1 (cells + mc) (slots + ms) Q (F0 m pc ls rest) q9)
    (kk : ∀ (r : Int32) (u : S) (t : State) (H1 : Heap) (locs1 : List Loc), t.heap = H1 → s.vm.Alike t.vm → post r u → B u t → H.size ≤ H1.size → (∀ q : Nat, q < H.size → ¬ A1 q → H1[q]? = H[q]?) → va_S A0 H0 H1 locs1 → W p l e R s m args below meth c H1 locs1 (cells + mc) (slots + ms) Q (F0 m (pc + 3) ls (.int r :: rest))) : W p l e R s m args below meth c H locs cells slots Q (F0 m pc ls st0) := by
  intro T hT X
  rcases hr T hT X with ⟨v, st₀, t, T', L, h0, X', hL, e1, e2, ⟨⟨r, u, hv, hp, hb⟩, hF⟩, st⟩ | ⟨q, st₀, t, T', L, E, ce, h0, X', hL, e1, e2, ⟨u, hp, hb, hF⟩, hce, hcv, hcl, st⟩
  · cases hv
    obtain ⟨k1, k2, k3⟩ := vx_keep h0 e1 hS hA hf hL hF
    obtain ⟨t2, a1, b1⟩ := kk r u t T'.heap (locs ++ L) e1.symm (by rw [← e2]; exact X'.warmed.alike) hp hb k1 k2 k3 T' rfl X'
    exact ⟨t2, st t2 a1, b1⟩
  · obtain ⟨k1, k2, k3⟩ := vx_keep h0 e1 hS hAX hf hL hF
    obtain ⟨t2, a1, b1⟩ := kx E ce q u t T'.heap (locs ++ L) e1.symm (by rw [← e2]; exact X'.warmed.alike) hp hb k1 k2 k3 (by rw [e1]; exact hce) hcv hcl T' rfl X'
    exact ⟨t2, st.trans a1, b1⟩
theorem vx_calll {S SX : Type} {post : Int64 → S → Prop} {px : SX → Prop} {B : S → State → Prop} {BX : String → SX → State → Prop} {AX : Nat → Prop} (hr : vx_Run p l e R s m args below meth c H locs cells slots mc ms (F0 m pc ls st0) rest (va_Ql post B A1 a) (vx_X px BX AX) free) (hS : va_S A0 H0 H locs) (hA : ∀ q, q < H.size → A1 q → A0 q) (hf : ∀ q, free q → A0 q) (hAX : ∀ q, q < H.size → AX q → A0 q)
    (kx : ∀ (E : String) (ce : Cell) (q9 : Addr) (u : SX) (t : State) (H1 : Heap) (locs1 : List Loc), t.heap = H1 → s.vm.Alike t.vm → px u → BX E u t → H.size ≤ H1.size → (∀ q : Nat, q < H.size → ¬ AX q → H1[q]? = H[q]?) → va_S A0 H0 H1 locs1 → H1[q9]? = some ce → ce.vm = .none → s.vm.findClass E = some ce.cls → vx_W p l e R s m args below meth c H1 locs1 (cells + mc) (slots + ms) Q (F0 m pc ls rest) q9)
    (kk : ∀ (r : Int64) (u : S) (t : State) (H1 : Heap) (locs1 : List Loc), t.heap = H1 → s.vm.Alike t.vm → post r u → B u t → H.size ≤ H1.size → (∀ q : Nat, q < H.size → ¬ A1 q → H1[q]? = H[q]?) → va_S A0 H0 H1 locs1 → W p l e R s m args below meth c H1 locs1 (cells + mc) (slots + ms) Q (F0 m (pc + 3) ls (.long r :: rest))) : W p l e R s m args below meth c H locs cells slots Q (F0 m pc ls st0) := by
  intro T hT X
  rcases hr T hT X with ⟨v, st₀, t, T', L, h0, X', hL, e1, e2, ⟨⟨r, u, hv, hp, hb⟩, hF⟩, st⟩ | ⟨q, st₀, t, T', L, E, ce, h0, X', hL, e1, e2, ⟨u, hp, hb, hF⟩, hce, hcv, hcl, st⟩
  · cases hv
    obtain ⟨k1, k2, k3⟩ := vx_keep h0 e1 hS hA hf hL hF
    obtain ⟨t2, a1, b1⟩ := kk r u t T'.heap (locs ++ L) e1.symm (by rw [← e2]; exact X'.warmed.alike) hp hb k1 k2 k3 T' rfl X'
    exact ⟨t2, st t2 a1, b1⟩
  · obtain ⟨k1, k2, k3⟩ := vx_keep h0 e1 hS hAX hf hL hF
    obtain ⟨t2, a1, b1⟩ := kx E ce q u t T'.heap (locs ++ L) e1.symm (by rw [← e2]; exact X'.warmed.alike) hp hb k1 k2 k3 (by rw [e1]; exact hce) hcv hcl T' rfl X'
    exact ⟨t2, st.trans a1, b1⟩
theorem vx_callf {S SX : Type} {post : UInt32 → S → Prop} {px : SX → Prop} {B : S → State → Prop} {BX : String → SX → State → Prop} {AX : Nat → Prop} (hr : vx_Run p l e R s m args below meth c H locs cells slots mc ms (F0 m pc ls st0) rest (va_Qf post B A1 a) (vx_X px BX AX) free) (hS : va_S A0 H0 H locs) (hA : ∀ q, q < H.size → A1 q → A0 q) (hf : ∀ q, free q → A0 q) (hAX : ∀ q, q < H.size → AX q → A0 q)
    (kx : ∀ (E : String) (ce : Cell) (q9 : Addr) (u : SX) (t : State) (H1 : Heap) (locs1 : List Loc), t.heap = H1 → s.vm.Alike t.vm → px u → BX E u t → H.size ≤ H1.size → (∀ q : Nat, q < H.size → ¬ AX q → H1[q]? = H[q]?) → va_S A0 H0 H1 locs1 → H1[q9]? = some ce → ce.vm = .none → s.vm.findClass E = some ce.cls → vx_W p l e R s m args below meth c H1 locs1 (cells + mc) (slots + ms) Q (F0 m pc ls rest) q9)
    (kk : ∀ (r : UInt32) (u : S) (t : State) (H1 : Heap) (locs1 : List Loc), t.heap = H1 → s.vm.Alike t.vm → post r u → B u t → H.size ≤ H1.size → (∀ q : Nat, q < H.size → ¬ A1 q → H1[q]? = H[q]?) → va_S A0 H0 H1 locs1 → W p l e R s m args below meth c H1 locs1 (cells + mc) (slots + ms) Q (F0 m (pc + 3) ls (.float r :: rest))) : W p l e R s m args below meth c H locs cells slots Q (F0 m pc ls st0) := by
  intro T hT X
  rcases hr T hT X with ⟨v, st₀, t, T', L, h0, X', hL, e1, e2, ⟨⟨r, u, hv, hp, hb⟩, hF⟩, st⟩ | ⟨q, st₀, t, T', L, E, ce, h0, X', hL, e1, e2, ⟨u, hp, hb, hF⟩, hce, hcv, hcl, st⟩
  · cases hv
    obtain ⟨k1, k2, k3⟩ := vx_keep h0 e1 hS hA hf hL hF
    obtain ⟨t2, a1, b1⟩ := kk r u t T'.heap (locs ++ L) e1.symm (by rw [← e2]; exact X'.warmed.alike) hp hb k1 k2 k3 T' rfl X'
    exact ⟨t2, st t2 a1, b1⟩
  · obtain ⟨k1, k2, k3⟩ := vx_keep h0 e1 hS hAX hf hL hF
    obtain ⟨t2, a1, b1⟩ := kx E ce q u t T'.heap (locs ++ L) e1.symm (by rw [← e2]; exact X'.warmed.alike) hp hb k1 k2 k3 (by rw [e1]; exact hce) hcv hcl T' rfl X'
    exact ⟨t2, st.trans a1, b1⟩
theorem vx_calld {S SX : Type} {post : UInt64 → S → Prop} {px : SX → Prop} {B : S → State → Prop} {BX : String → SX → State → Prop} {AX : Nat → Prop} (hr : vx_Run p l e R s m args below meth c H locs cells slots mc ms (F0 m pc ls st0) rest (va_Qd post B A1 a) (vx_X px BX AX) free) (hS : va_S A0 H0 H locs) (hA : ∀ q, q < H.size → A1 q → A0 q) (hf : ∀ q, free q → A0 q) (hAX : ∀ q, q < H.size → AX q → A0 q)
    (kx : ∀ (E : String) (ce : Cell) (q9 : Addr) (u : SX) (t : State) (H1 : Heap) (locs1 : List Loc), t.heap = H1 → s.vm.Alike t.vm → px u → BX E u t → H.size ≤ H1.size → (∀ q : Nat, q < H.size → ¬ AX q → H1[q]? = H[q]?) → va_S A0 H0 H1 locs1 → H1[q9]? = some ce → ce.vm = .none → s.vm.findClass E = some ce.cls → vx_W p l e R s m args below meth c H1 locs1 (cells + mc) (slots + ms) Q (F0 m pc ls rest) q9)
    (kk : ∀ (r : UInt64) (u : S) (t : State) (H1 : Heap) (locs1 : List Loc), t.heap = H1 → s.vm.Alike t.vm → post r u → B u t → H.size ≤ H1.size → (∀ q : Nat, q < H.size → ¬ A1 q → H1[q]? = H[q]?) → va_S A0 H0 H1 locs1 → W p l e R s m args below meth c H1 locs1 (cells + mc) (slots + ms) Q (F0 m (pc + 3) ls (.double r :: rest))) : W p l e R s m args below meth c H locs cells slots Q (F0 m pc ls st0) := by
  intro T hT X
  rcases hr T hT X with ⟨v, st₀, t, T', L, h0, X', hL, e1, e2, ⟨⟨r, u, hv, hp, hb⟩, hF⟩, st⟩ | ⟨q, st₀, t, T', L, E, ce, h0, X', hL, e1, e2, ⟨u, hp, hb, hF⟩, hce, hcv, hcl, st⟩
  · cases hv
    obtain ⟨k1, k2, k3⟩ := vx_keep h0 e1 hS hA hf hL hF
    obtain ⟨t2, a1, b1⟩ := kk r u t T'.heap (locs ++ L) e1.symm (by rw [← e2]; exact X'.warmed.alike) hp hb k1 k2 k3 T' rfl X'
    exact ⟨t2, st t2 a1, b1⟩
  · obtain ⟨k1, k2, k3⟩ := vx_keep h0 e1 hS hAX hf hL hF
    obtain ⟨t2, a1, b1⟩ := kx E ce q u t T'.heap (locs ++ L) e1.symm (by rw [← e2]; exact X'.warmed.alike) hp hb k1 k2 k3 (by rw [e1]; exact hce) hcv hcl T' rfl X'
    exact ⟨t2, st.trans a1, b1⟩
theorem vx_callv {S SX : Type} {post : S → Prop} {px : SX → Prop} {B : S → State → Prop} {BX : String → SX → State → Prop} {AX : Nat → Prop} (hr : vx_Run p l e R s m args below meth c H locs cells slots mc ms (F0 m pc ls st0) rest (va_Qv post B A1 a) (vx_X px BX AX) free) (hS : va_S A0 H0 H locs) (hA : ∀ q, q < H.size → A1 q → A0 q) (hf : ∀ q, free q → A0 q) (hAX : ∀ q, q < H.size → AX q → A0 q)
    (kx : ∀ (E : String) (ce : Cell) (q9 : Addr) (u : SX) (t : State) (H1 : Heap) (locs1 : List Loc), t.heap = H1 → s.vm.Alike t.vm → px u → BX E u t → H.size ≤ H1.size → (∀ q : Nat, q < H.size → ¬ AX q → H1[q]? = H[q]?) → va_S A0 H0 H1 locs1 → H1[q9]? = some ce → ce.vm = .none → s.vm.findClass E = some ce.cls → vx_W p l e R s m args below meth c H1 locs1 (cells + mc) (slots + ms) Q (F0 m pc ls rest) q9)
    (kk : ∀ (u : S) (t : State) (H1 : Heap) (locs1 : List Loc), t.heap = H1 → s.vm.Alike t.vm → post u → B u t → H.size ≤ H1.size → (∀ q : Nat, q < H.size → ¬ A1 q → H1[q]? = H[q]?) → va_S A0 H0 H1 locs1 → W p l e R s m args below meth c H1 locs1 (cells + mc) (slots + ms) Q (F0 m (pc + 3) ls (rest))) : W p l e R s m args below meth c H locs cells slots Q (F0 m pc ls st0) := by
  intro T hT X
  rcases hr T hT X with ⟨v, st₀, t, T', L, h0, X', hL, e1, e2, ⟨⟨u, hv, hp, hb⟩, hF⟩, st⟩ | ⟨q, st₀, t, T', L, E, ce, h0, X', hL, e1, e2, ⟨u, hp, hb, hF⟩, hce, hcv, hcl, st⟩
  · cases hv
    obtain ⟨k1, k2, k3⟩ := vx_keep h0 e1 hS hA hf hL hF
    obtain ⟨t2, a1, b1⟩ := kk u t T'.heap (locs ++ L) e1.symm (by rw [← e2]; exact X'.warmed.alike) hp hb k1 k2 k3 T' rfl X'
    exact ⟨t2, st t2 a1, b1⟩
  · obtain ⟨k1, k2, k3⟩ := vx_keep h0 e1 hS hAX hf hL hF
    obtain ⟨t2, a1, b1⟩ := kx E ce q u t T'.heap (locs ++ L) e1.symm (by rw [← e2]; exact X'.warmed.alike) hp hb k1 k2 k3 (by rw [e1]; exact hce) hcv hcl T' rfl X'
    exact ⟨t2, st.trans a1, b1⟩
/-- caught by the row x of this method's table; the rows ahead don't take it -/
theorem vx_catch {own name : String} {E : String} {ce : Cell} {q : Addr} (hown : s.vm.findClass own = some m.cls) (pre : List ExceptionTableEntry) (x : ExceptionTableEntry) (suf : List ExceptionTableEntry) (hsplit : c.exceptionTable.toList = pre ++ x :: suf)
    (hpass : ∀ z ∈ pre, covers z pc = false ∨ (z.catchType ≠ 0 ∧ ∃ nm : String, (Cond.classLink own z.catchType nm).before args s = true ∧ va_Nc E nm s)) (hx : covers x pc = true) (h0 : x.catchType ≠ 0)
    (hlink : (Cond.classLink own x.catchType name).before args s = true) (hcast : (Cond.castable E name).before args s = true) (hcell : H[q]? = some ce) (hv : ce.vm = .none) (hcl : s.vm.findClass E = some ce.cls)
    (kk : W p l e R s m args below meth c H locs cells slots Q (F0 m x.handlerPc ls [.ref q])) : vx_W p l e R s m args below meth c H locs cells slots Q (F0 m pc ls rest) q := by
  intro T hT X
  have hpl : e.platform.magicAccessors = ({} : Platform).magicAccessors := by rw [X.admits.platform]
  obtain ⟨c3, c4, hc3, hc4, hasg⟩ := Cond.castable_spec hcast
  cases Option.some.inj (hc3.symm.trans hcl)
  obtain ⟨c5, hc5, hcl5⟩ := Cond.classLink_spec hown hlink e.platform hpl
  cases Option.some.inj (hc4.symm.trans hc5)
  obtain ⟨vm', X', st⟩ := X.thenCaughtThrough q (g := F0 m pc ls rest) rfl (Steps.refl _) (by rw [hT]; exact hcell) (by rw [hv]; rfl) (by obtain ⟨k9, h9, -⟩ := Vm.findClass_spec hcl; exact ⟨k9, h9⟩) pre x suf hsplit
    (fun z hz => by
      rcases hpass z hz with h | ⟨hz0, nm, hl1, hn1⟩
      · exact Or.inl h
      · obtain ⟨c6, hc6, hcl6⟩ := Cond.classLink_spec hown hl1 e.platform hpl
        obtain ⟨a8, b8, h1, h2, h3⟩ := hn1
        cases Option.some.inj (h1.symm.trans hcl)
        cases Option.some.inj (h2.symm.trans hc6)
        exact Or.inr ⟨hz0, _, hcl6, h3⟩) hx (Or.inr ⟨h0, c4, hcl5, hasg⟩)
  obtain ⟨t, a1, b1⟩ := kk (T.setVm vm') hT X'
  exact ⟨t, st.trans a1, b1⟩
end Rows
section Ends
variable {p : Program} {l : Launch} {e : Env} {R : Room} {s : State} {m : MethodId} {args : Array Value} {below : List Frame} {meth : Method} {c : Code} {H : Heap} {locs : List Loc} {cells slots : Nat} {Q : State → Prop}
variable {mc ms : Nat} {free : Addr → Prop} {A0 A1 : Nat → Prop} {H0 : Heap} {a : Array Value} {ls : Array Slot} {st0 rest : List Value}
variable {Qc : Array Value → State → Outcome → State → Prop} {XC : String → State → State → Prop}
/-- what a body that may throw owes at its end -/
def vx_MQ (below : List Frame) (Qc : Array Value → State → Outcome → State → Prop) (XC : String → State → State → Prop) (a : Array Value) (s : State) (mc ms : Nat) (free : Addr → Prop) : State → Prop := fun t =>
  ∃ o, t.status = .running ∧ Ended t below o ∧ vx_Q Qc XC mc ms free a s o t
theorem vx_ret {g : JFrame} {mc ms : Nat} (k : W p l e R s m args below meth c H locs cells slots (MQ below Qc args s mc ms free) g) : W p l e R s m args below meth c H locs cells slots (vx_MQ below Qc XC args s mc ms free) g := by
  intro T hT X
  obtain ⟨t, a1, o, b1, b2, b3, b4⟩ := k T hT X
  exact ⟨t, a1, o, b1, b2, Or.inl ⟨b3, b4⟩⟩
/-- not caught here: it goes on to the caller -/
theorem vx_widen {g : JFrame} {q : Addr} {k n : Nat} (h1 : cells ≤ k) (h2 : slots ≤ n) (kk : vx_W p l e R s m args below meth c H locs k n Q g q) : vx_W p l e R s m args below meth c H locs cells slots Q g q := fun T hT X => kk T hT (stand_widen X h1 h2)
theorem vx_out {pc : Nat} {E : String} {ce : Cell} {q : Addr} {mc ms : Nat} (hout : ∀ x ∈ c.exceptionTable.toList, covers x pc = false) (hlocks : meth.locks = false) (hcell : H[q]? = some ce) (hv : ce.vm = .none) (hcl : s.vm.findClass E = some ce.cls)
    (hx : ∀ t : State, t.heap = H → s.vm.Alike t.vm → XC E s t) (hf : ∀ z ∈ locs, free z.base) (hc : cells ≤ mc) (hs : slots ≤ ms) :
    vx_W p l e R s m args below meth c H locs cells slots (vx_MQ below Qc XC args s mc ms free) (F0 m pc ls rest) q := by
  intro T hT X
  obtain ⟨st1, hrun, hend, hW, hsm⟩ := X.leaveThrown q (g := F0 m pc ls rest) rfl rfl rfl hout hlocks
  have hcell9 : (T.setFrames (.throwing q :: below)).heap[q]? = some ce := by
    show T.heap[q]? = some ce
    rw [hT]; exact hcell
  exact ⟨_, st1, .threw q, hrun, hend, Or.inr ⟨q, rfl, E, ce, locs, hx _ hT hW.alike, hcell9, hv, hcl, hW, hsm.mono hc hs, hf⟩⟩
theorem vx_frame {U : State} {k n : Nat} (h : s.sameButNew ({ U with vm := s.vm } : State) locs k n) : s.heap.size ≤ U.heap.size ∧ ∀ q : Nat, q < s.heap.size → (∀ z ∈ locs, z.base ≠ q) → U.heap[q]? = s.heap[q]? := by
  obtain ⟨-, h2, -, -, -, h6⟩ := h
  refine ⟨h2, fun q hq hz => ?_⟩
  obtain ⟨c9, e1, e2, e3, e4⟩ := h6 q _ (Array.getElem?_eq_getElem hq)
  have hs : c9.slots = (s.heap[q]).slots := Array.ext_getElem? fun i => e4 i fun hm => hz _ hm rfl
  have h9 : c9 = s.heap[q] := by
    rw [hs] at e2
    exact e2
  have e5 : U.heap[q]? = some c9 := e1
  rw [e5, h9, Array.getElem?_eq_getElem hq]
/-- the words of a throw but the four that speak of the heap -/
def vx_no (w : Cond) : Bool := decide (w ≠ .isRef (.static Bundle.tN "UNASSIGNED_STACK" Bundle.steD)) && decide (w ≠ .isRef (.static Bundle.tN "SUPPRESSED_SENTINEL" Bundle.listD)) && decide (w ≠ .laysStatic Bundle.tN "UNASSIGNED_STACK" Bundle.steD) && decide (w ≠ .laysStatic Bundle.tN "SUPPRESSED_SENTINEL" Bundle.listD)
def vx_at0 (own : String) (ic : Nat) (X : String) (names : List String) : List Cond := (Bundle.ownAtoms0 own ic X names).filter vx_no
def vx_atS (own : String) (ic : Nat) (X : String) (names : List String) : List Cond := (Bundle.ownAtoms own ic X names).filter vx_no
/-- a word that the tables alone decide, or a good one -/
def vx_ot (w : Cond) : Bool := w.onTables || goodWord w
theorem vx_ot_at {args a' : Array Value} {s U : State} {w : Cond} (hW : s.WarmedH U.vm) (hvm : s.vm = U.vm) (hg : vx_ot w = true) (h : w.before args s = true) : w.before a' U = true := by
  simp only [vx_ot, Bool.or_eq_true] at hg
  rcases hg with hg | hg
  · exact va_tabs hg hvm h
  · exact word_at hW (good_of_word hg) h
/-- a list's words: the good ones out of the method's own list, the others by premises of their own -/
theorem vx_hat {args : Array Value} {s : State} {L B : List Cond} (h1 : ∀ w ∈ L.filter goodWord, w.before args s = true) (h2 : ∀ w ∈ L.filter (fun w => !goodWord w), w ∈ B) (h3 : ∀ w ∈ B, w.before args s = true) : ∀ w ∈ L, w.before args s = true := by
  intro w hw
  by_cases g : goodWord w = true
  · exact h1 w (List.mem_filter.mpr ⟨hw, g⟩)
  · refine h3 w (h2 w (List.mem_filter.mpr ⟨hw, ?_⟩))
    show (!goodWord w) = true
    cases hgw : goodWord w
    · rfl
    · exact absurd hgw g
theorem vx_c {args : Array Value} {s : State} {w : Cond} {B : List Cond} (h : w.before args s = true) (t : ∀ w ∈ B, w.before args s = true) : ∀ w' ∈ w :: B, w'.before args s = true := fun w' h' => (List.mem_cons.mp h').elim (fun e => by rw [e]; exact h) (t w')
theorem vx_n {args : Array Value} {s : State} : ∀ w ∈ ([] : List Cond), w.before args s = true := fun _ h => nomatch h
theorem vx_own {args : Array Value} {s : State} {L : List Cond} (h1 : ∀ w ∈ L.filter vx_no, w.before args s = true)
    (hU : (Cond.isRef (.static Bundle.tN "UNASSIGNED_STACK" Bundle.steD)).before args s = true) (hN : (Cond.isRef (.static Bundle.tN "SUPPRESSED_SENTINEL" Bundle.listD)).before args s = true)
    (lU : (Cond.laysStatic Bundle.tN "UNASSIGNED_STACK" Bundle.steD).before args s = true) (lN : (Cond.laysStatic Bundle.tN "SUPPRESSED_SENTINEL" Bundle.listD).before args s = true) : ∀ w ∈ L, w.before args s = true := by
  intro w hw
  by_cases e1 : w = .isRef (.static Bundle.tN "UNASSIGNED_STACK" Bundle.steD)
  · rw [e1]; exact hU
  · by_cases e2 : w = .isRef (.static Bundle.tN "SUPPRESSED_SENTINEL" Bundle.listD)
    · rw [e2]; exact hN
    · by_cases e3 : w = .laysStatic Bundle.tN "UNASSIGNED_STACK" Bundle.steD
      · rw [e3]; exact lU
      · by_cases e4 : w = .laysStatic Bundle.tN "SUPPRESSED_SENTINEL" Bundle.listD
        · rw [e4]; exact lN
        · exact h1 w (List.mem_filter.mpr ⟨hw, by unfold vx_no; rw [decide_eq_true e1, decide_eq_true e2, decide_eq_true e3, decide_eq_true e4]; rfl⟩)
/-- where a static field lies, its class's statics cell in H -/
def vx_L (C n d : String) (A : Nat → Prop) (U : State) (H : Heap) : Prop := ∃ (c : ClassId) (k : Class) (i : Nat) (f : Field) (a : Nat) (cell : Cell), U.vm.findClass C = some c ∧ U.fieldFound? C n d = some (c, k, i, f) ∧ f.isStatic = true ∧ k.statics = some a ∧ H[a]? = some cell ∧ cell.vm.isStatics = true ∧ cell.cls = c ∧ f.slot < cell.slots.size ∧ k.staticTypes[f.slot]? = some f.type ∧ ¬ A a
theorem vx_L.moved {C n d : String} {A : Nat → Prop} {u U : State} {H : Heap} (hvm : u.vm.Alike U.vm) (h : vx_L C n d A u H) : vx_L C n d A U H := by
  obtain ⟨c, k, i, f, a, cell, h1, h2, h3, h4, h5, h6, h7, h8, h9, h10⟩ := h
  obtain ⟨k', hi', he⟩ := State.fieldFound?_setVm hvm h2
  exact ⟨c, k', i, f, a, cell, by rw [hvm.findClass]; exact h1, hi', h3, by rw [he]; exact h4, h5, h6, h7, h8, by rw [he]; exact h9, h10⟩
theorem vx_L.kept {C n d : String} {A : Nat → Prop} {U : State} {H H1 : Heap} (h : vx_L C n d A U H) (hq : ∀ a : Nat, a < H.size → ¬ A a → H1[a]? = H[a]?) : vx_L C n d A U H1 := by
  obtain ⟨c, k, i, f, a, cell, h1, h2, h3, h4, h5, h6, h7, h8, h9, h10⟩ := h
  exact ⟨c, k, i, f, a, cell, h1, h2, h3, h4, by rw [hq a (Array.getElem?_eq_some_iff.mp h5).1 h10]; exact h5, h6, h7, h8, h9, h10⟩
theorem vx_L.narrow {C n d : String} {A B : Nat → Prop} {U : State} {H : Heap} (h : vx_L C n d A U H) (hAB : ∀ q, B q → A q) : vx_L C n d B U H := by
  obtain ⟨c, k, i, f, a, cell, h1, h2, h3, h4, h5, h6, h7, h8, h9, h10⟩ := h
  exact ⟨c, k, i, f, a, cell, h1, h2, h3, h4, h5, h6, h7, h8, h9, fun z => h10 (hAB _ z)⟩
theorem vx_L.word {C n d : String} {A : Nat → Prop} {s : State} {args : Array Value} (h : vx_L C n d A s s.heap) : (Cond.laysStatic C n d).before args s = true := by
  obtain ⟨c, k, i, f, a, cell, h1, h2, h3, h4, h5, h6, h7, h8, h9, -⟩ := h
  show (Cond.laysStatic C n d).holds args s none s [] = true
  exact Cond.laysStatic_of h1 h2 h3 h4 h5 h6 h7 h8 h9
/-- .. and what it holds: null or some reference -/
def vx_Zq (C n d : String) (A : Nat → Prop) (U : State) (H : Heap) : Prop := va_Zq C n d A U H ∧ vx_L C n d A U H
theorem vx_Zq.moved {C n d : String} {A : Nat → Prop} {u U : State} {H : Heap} (hvm : u.vm.Alike U.vm) (h : vx_Zq C n d A u H) : vx_Zq C n d A U H := ⟨va_Zq.moved hvm h.1, vx_L.moved hvm h.2⟩
theorem vx_Zq.kept {C n d : String} {A : Nat → Prop} {U : State} {H H1 : Heap} (h : vx_Zq C n d A U H) (hq : ∀ a : Nat, a < H.size → ¬ A a → H1[a]? = H[a]?) : vx_Zq C n d A U H1 := ⟨va_Zq.kept h.1 hq, vx_L.kept h.2 hq⟩
theorem vx_Zq.narrow {C n d : String} {A B : Nat → Prop} {U : State} {H : Heap} (h : vx_Zq C n d A U H) (hAB : ∀ q, B q → A q) : vx_Zq C n d B U H := ⟨va_Zq.narrow h.1 hAB, vx_L.narrow h.2 hAB⟩
theorem vx_Zqof {args : Array Value} {s : State} {C n d : String} {A : Nat → Prop} (hl : (Cond.laysStatic C n d).before args s = true) (hini : (Cond.initialized C).before args s = true) (h : (Cond.isRef (.static C n d)).before args s = true) (hA : ∀ a : Nat, a < s.heap.size → ¬ A a) : vx_Zq C n d A s s.heap := by
  refine ⟨va_Zqof hl hini h hA, ?_⟩
  obtain ⟨c, k, i, f, a, cell, h1, h2, h3, h4, h5, h6, h7, h8, h9⟩ := Cond.laysStatic_spec hl
  exact ⟨c, k, i, f, a, cell, h1, h2, h3, h4, h5, h6, h7, h8, h9, hA a (Array.getElem?_eq_some_iff.mp h5).1⟩
theorem vx_isRef {C n d : String} {v : Value} {A : Nat → Prop} {s : State} {args : Array Value} (h : va_Z C n d v A s s.heap) (hv : v.isRef = true) : (Cond.isRef (.static C n d)).before args s = true := by
  obtain ⟨cf, kf, fi, f, a, cell, h1, h2, h3, h4, h5, h6, h7, -⟩ := h
  have he : (Term.static C n d).eval args s none [] s = some v := by
    simp [Term.eval, State.fieldNamed?, h1, h2, h4, h5, h6, h7]
  simp only [Cond.before, Cond.holds, Cond.value, he]
  cases v <;> simp_all [Value.isRef]
theorem vx_isRefq {C n d : String} {A : Nat → Prop} {s : State} {args : Array Value} (h : va_Zq C n d A s s.heap) : (Cond.isRef (.static C n d)).before args s = true := by
  rcases h with h | ⟨t, h⟩
  · exact vx_isRef h rfl
  · exact vx_isRef h rfl
/-- the same frame, seen from here: as if the method were called anew in this heap -/
theorem vx_rebase {T : State} (X : Stand p l e R s m args below meth c T locs cells slots) {R' : Room} (hf : R'.frames ≤ R.frames) (hl : R'.locals ≤ R.locals) (hc : cells + R'.cells ≤ R.cells) (hs : slots + R'.slots ≤ R.slots) :
    Stand p l e R' ((T.setVm s.vm).setFrames (.invoking m args :: below)) m args below meth c T [] 0 0 := by
  have htop : (T.setVm s.vm).topJava?.isSome := X.here.top
  have hF : ((T.setVm s.vm).setFrames (.invoking m args :: below)).frames = .invoking m args :: below := State.frames_setFrames _ (State.cur_lt_of_top htop)
  obtain ⟨g₀, hg0⟩ := Option.isSome_iff_exists.mp htop
  obtain ⟨r, hr⟩ := State.topJava?_eq_some.mp hg0
  have hl9 : e.platform.stackLimits (T.setVm s.vm).me = e.platform.stackLimits s.me := X.limits
  have hb9 : (T.setVm s.vm).me.stackBytes = s.me.stackBytes := X.bytes
  refine ⟨X.admits, X.cas, X.clock, hF, ?_, X.hears, X.method, X.code, X.here, X.tail, X.warmed, ?_, ?_, ?_⟩
  · have h := X.room
    have hU : ((T.setVm s.vm).setFrames (.invoking m args :: below)).localsInUse = s.localsInUse := by
      rw [State.localsInUse_invoking hF (meth := meth) (c := c) X.method X.code, State.localsInUse_invoking X.frames X.method X.code]
    simp only [State.hasRoom, Bool.and_eq_true, decide_eq_true_eq] at h ⊢
    obtain ⟨⟨⟨⟨h1, h2, h3, h4, h5, h6⟩, h7⟩, h8⟩, h9⟩ := h
    rw [X.frames, List.length_cons] at h2 h3
    have q1 := X.heapSize
    have q2 := X.used
    simp only [hF, hU, List.length_cons, State.stackLimits_setFrames, State.stackBytes_setFrames, hl9, hb9]
    refine ⟨⟨⟨⟨by omega, by omega, by omega, by omega, by omega, h6⟩, ?_⟩, ?_⟩, X.book⟩
    · show T.heap.size + R'.cells ≤ e.platform.maxCells
      omega
    · show T.slotsUsed + R'.slots ≤ e.platform.maxSlots
      omega
  · rw [State.stackLimits_setFrames]; rfl
  · rw [State.stackBytes_setFrames]; rfl
  · refine ⟨?_, Nat.le_refl _, Nat.le_refl _, ?_, ?_, fun a c9 h9 => ⟨c9, h9, rfl, rfl, fun _ _ => rfl⟩⟩
    · obtain ⟨t, ht, -⟩ := State.frames_cons hr
      show T.setVm s.vm = { ((T.setVm s.vm).setFrames (.invoking m args :: below)).setFrames (T.setVm s.vm).frames with heap := T.heap, slotsUsed := T.slotsUsed }
      rw [State.setFrames_setFrames, State.setFrames_self ht]
      rfl
    · show T.slotsUsed = T.slotsUsed + ((T.heap.toList.drop T.heap.size).map (·.slots.size)).sum
      rw [List.drop_eq_nil_of_le (Nat.le_of_eq Array.length_toList)]
      rfl
    · show ((T.heap.toList.drop T.heap.size).map (·.slots.size)).sum ≤ 0
      rw [List.drop_eq_nil_of_le (Nat.le_of_eq Array.length_toList)]
      exact Nat.le_refl _
/-- 'throw new E()': new; dup; invokespecial; athrow -/
theorem vx_throw0 {cc : ByteArray} {pc : Nat} (hexec : p.tables.exec = Jvm.exec) (hb : c.code = cc) (hl : l.stackTraces = false) {own cls : String} {names : List String} {ik ic mc ms : Nat} {A : Nat → Prop}
    (hown : s.vm.findClass own = some m.cls) (hcls : Bundle.fit cls = true) (hnames : ∀ n ∈ names, Bundle.fit n = true)
    (hk : (Cond.classLink own ik cls).before args s = true) (hini : (Cond.initialized cls).before args s = true) (hat : ∀ w ∈ vx_at0 own ic cls names, w.before args s = true)
    (hgood : ∀ w ∈ Cond.classLink own ik cls :: Cond.initialized cls :: vx_at0 own ic cls names, vx_ot w = true)
    (hU : vx_Zq Bundle.tN "UNASSIGNED_STACK" Bundle.steD A s s.heap) (hN : vx_Zq Bundle.tN "SUPPRESSED_SENTINEL" Bundle.listD A s s.heap) (hS : va_S A s.heap H locs) (hsize : ls.size = c.maxLocals)
    (d0 : decode cc pc = .ok (.new ik, 3)) (d3 : decode cc (pc + 3) = .ok (.dup, 1)) (d4 : decode cc (pc + 4) = .ok (.invokespecial ic, 3)) (d7 : decode cc (pc + 7) = .ok (.athrow, 1))
    (hout : ∀ x ∈ c.exceptionTable.toList, covers x (pc + 7) = false)
    (hRframes : names.length + 3 < R.frames) (hRlocals : (rest.map fun v => v.category).sum + (13 * (names.length + 1) + 42) ≤ R.locals) (hRcells : cells + 1 ≤ R.cells) (hRslots : slots + 6 ≤ R.slots) (hlocks : meth.locks = false)
    (hx : ∀ t : State, s.vm.Alike t.vm → H.size ≤ t.heap.size → (∀ q : Nat, q < H.size → t.heap[q]? = H[q]?) → XC cls s t)
    (hf : ∀ z ∈ locs, free z.base) (hc : cells + 1 ≤ mc) (hs : slots + 6 ≤ ms) :
    W p l e R s m args below meth c H locs cells slots (vx_MQ below Qc XC args s mc ms free) (F0 m pc ls rest) := by
  intro T hT X
  have htr : e.platform.stackTraces = false := (show e.platform.stackTraces = l.stackTraces by rw [X.admits.platform]).trans hl
  have Y := vx_rebase X (R' := { frames := R.frames, locals := R.locals, cells := 1, slots := 6 }) (Nat.le_refl _) (Nat.le_refl _) hRcells hRslots
  obtain ⟨s', hA⟩ : ∃ z, z = (T.setVm s.vm).setFrames (.invoking m args :: below) := ⟨_, rfl⟩
  rw [← hA] at Y
  have hvm : s'.vm = s.vm := by rw [hA]; rfl
  have hhp : s'.heap = H := by rw [hA]; exact hT
  have hW0 : s.WarmedH s'.vm := by rw [hvm]; exact State.WarmedH.refl s
  have hat' : ∀ w ∈ vx_at0 own ic cls names, w.before args s' = true := fun w hw => vx_ot_at hW0 hvm.symm (hgood w (List.mem_cons_of_mem _ (List.mem_cons_of_mem _ hw))) (hat w hw)
  have hk' : (Cond.classLink own ik cls).before args s' = true := vx_ot_at hW0 hvm.symm (hgood _ List.mem_cons_self) hk
  have hini' : (Cond.initialized cls).before args s' = true := vx_ot_at hW0 hvm.symm (hgood _ (List.mem_cons_of_mem _ List.mem_cons_self)) hini
  have hU' : vx_Zq Bundle.tN "UNASSIGNED_STACK" Bundle.steD A s' s'.heap := by rw [hhp]; exact vx_Zq.moved hW0.alike (hU.kept hS.2.1)
  have hN' : vx_Zq Bundle.tN "SUPPRESSED_SENTINEL" Bundle.listD A s' s'.heap := by rw [hhp]; exact vx_Zq.moved hW0.alike (hN.kept hS.2.1)
  have h : ∀ w ∈ Bundle.ownAtoms0 own ic cls names, w.before args s' = true := vx_own hat' (vx_isRefq hU'.1) (vx_isRefq hN'.1) hU'.2.word hN'.2.word
  have hown' : s'.vm.findClass own = some m.cls := by rw [hvm]; exact hown
  have hins : (Cond.instantiable cls 6).before args s' = true := h _ (by simp [Bundle.ownAtoms0])
  obtain ⟨vm₁, cX, kX, hfX, hkX, -, -, X₁, st1⟩ := Y.newCold hexec (own := own) (C := cls) (index := ik) (n := 6) hown' hk' hins hini'
    (g := F0 m pc ls rest) rfl (by rw [hb]; exact d0) (Nat.le_refl _) (Nat.le_refl _)
  generalize hT1 : (T.setVm vm₁).pushCell { cls := cX, slots := kX.instanceTypes.map defaultValue, vm := .none } = T1 at X₁ st1
  have hcat : (Value.ref T.heap.size).category = 1 := rfl
  have hcellA : T1.heap[T.heap.size]? = some (freshCell cX kX) := by rw [← hT1]; exact State.heap_pushCell_size _ _
  have d3' : decode c.code (pc + 3) = .ok (.dup, 1) := by rw [hb]; exact d3
  obtain ⟨U, hsteps, hrun, hend, hW, hsame, ce, hce, hO⟩ := X₁.ctorThrow0 hexec htr (own := own) (cls := cls) (names := names) (ic := ic) hown' hcls hnames h (fun x hx => nomatch hx) hfX hkX hcellA (by rw [hhp, hT]; exact Nat.le_refl _)
    (g := { method := m, pc := pc + 4, locals := ls, stack := .ref T.heap.size :: .ref T.heap.size :: rest, locked := none }) rfl hsize rfl rfl (rest := rest) rfl
    (by rw [hb]; exact d4) (by rw [hb]; exact d7) hout hRframes (by simp only [List.map_cons, List.sum_cons, hcat]; omega) hlocks
  obtain ⟨f1, f2⟩ := vx_frame hsame
  rw [hhp] at f1 f2
  have hWs : s.WarmedH U.vm := State.WarmedH.trans hW0 hW
  have hcl : s.vm.findClass cls = some ce.cls := by
    have h9 := hO.cls
    rw [hvm] at h9
    exact h9
  have hall : s.sameButNew ({ U with vm := s.vm } : State) locs mc ms := by
    subst hA
    obtain ⟨e1, e2⟩ := hsame
    rw [State.setFrames_setFrames] at e1
    have h2 : (T.setVm s.vm).sameButNew ({ U with vm := s.vm } : State) [] (0 + 1) (0 + 6) := ⟨e1, e2⟩
    have h3 := X.same.trans h2
    rw [List.append_nil] at h3
    exact h3.mono hc hs
  refine ⟨U, ?_, .threw T.heap.size, hrun, hend, Or.inr ⟨T.heap.size, rfl, cls, ce, locs, hx U hWs.alike f1 (fun q hq => f2 q hq (fun z hz => nomatch hz)), hce, hO.vm, hcl, hWs, hall, hf⟩⟩
  refine st1 _ ?_
  show Steps p.tables e below (T1.setTop { method := m, pc := pc + 3, locals := ls, stack := .ref T.heap.size :: rest, locked := none }) _
  jvm_step X₁.here [X₁.here.top, hexec, d3', Value.category]
  exact hsteps
/-- 'throw new E("text")': new; dup; ldc; invokespecial; athrow -/
theorem vx_throwS {cc : ByteArray} {pc : Nat} (hexec : p.tables.exec = Jvm.exec) (hb : c.code = cc) (hl : l.stackTraces = false) {own cls text : String} {names : List String} {ik is ic mc ms sa : Nat} {A : Nat → Prop}
    (hown : s.vm.findClass own = some m.cls) (hcls : Bundle.fit cls = true) (hnames : ∀ n ∈ names, Bundle.fit n = true)
    (hk : (Cond.classLink own ik cls).before args s = true) (hini : (Cond.initialized cls).before args s = true) (hstr : vk_R own is text sa s) (hat : ∀ w ∈ vx_atS own ic cls names, w.before args s = true)
    (hgood : ∀ w ∈ Cond.classLink own ik cls :: Cond.initialized cls :: vx_atS own ic cls names, vx_ot w = true)
    (hU : vx_Zq Bundle.tN "UNASSIGNED_STACK" Bundle.steD A s s.heap) (hN : vx_Zq Bundle.tN "SUPPRESSED_SENTINEL" Bundle.listD A s s.heap) (hS : va_S A s.heap H locs) (hsize : ls.size = c.maxLocals)
    (d0 : decode cc pc = .ok (.new ik, 3)) (d3 : decode cc (pc + 3) = .ok (.dup, 1)) (d4 : decode cc (pc + 4) = .ok (.ldc is, 2)) (d6 : decode cc (pc + 6) = .ok (.invokespecial ic, 3)) (d9 : decode cc (pc + 9) = .ok (.athrow, 1))
    (hout : ∀ x ∈ c.exceptionTable.toList, covers x (pc + 9) = false)
    (hRframes : names.length + 3 < R.frames) (hRlocals : (rest.map fun v => v.category).sum + (13 * (names.length + 1) + 43) ≤ R.locals) (hRcells : cells + 1 ≤ R.cells) (hRslots : slots + 6 ≤ R.slots) (hlocks : meth.locks = false)
    (hx : ∀ t : State, s.vm.Alike t.vm → H.size ≤ t.heap.size → (∀ q : Nat, q < H.size → t.heap[q]? = H[q]?) → XC cls s t)
    (hf : ∀ z ∈ locs, free z.base) (hc : cells + 1 ≤ mc) (hs : slots + 6 ≤ ms) :
    W p l e R s m args below meth c H locs cells slots (vx_MQ below Qc XC args s mc ms free) (F0 m pc ls rest) := by
  intro T hT X
  have htr : e.platform.stackTraces = false := (show e.platform.stackTraces = l.stackTraces by rw [X.admits.platform]).trans hl
  have Y := vx_rebase X (R' := { frames := R.frames, locals := R.locals, cells := 1, slots := 6 }) (Nat.le_refl _) (Nat.le_refl _) hRcells hRslots
  obtain ⟨s', hA⟩ : ∃ z, z = (T.setVm s.vm).setFrames (.invoking m args :: below) := ⟨_, rfl⟩
  rw [← hA] at Y
  have hvm : s'.vm = s.vm := by rw [hA]; rfl
  have hhp : s'.heap = H := by rw [hA]; exact hT
  have hW0 : s.WarmedH s'.vm := by rw [hvm]; exact State.WarmedH.refl s
  have hat' : ∀ w ∈ vx_atS own ic cls names, w.before args s' = true := fun w hw => vx_ot_at hW0 hvm.symm (hgood w (List.mem_cons_of_mem _ (List.mem_cons_of_mem _ hw))) (hat w hw)
  have hk' : (Cond.classLink own ik cls).before args s' = true := vx_ot_at hW0 hvm.symm (hgood _ List.mem_cons_self) hk
  have hini' : (Cond.initialized cls).before args s' = true := vx_ot_at hW0 hvm.symm (hgood _ (List.mem_cons_of_mem _ List.mem_cons_self)) hini
  have hU' : vx_Zq Bundle.tN "UNASSIGNED_STACK" Bundle.steD A s' s'.heap := by rw [hhp]; exact vx_Zq.moved hW0.alike (hU.kept hS.2.1)
  have hN' : vx_Zq Bundle.tN "SUPPRESSED_SENTINEL" Bundle.listD A s' s'.heap := by rw [hhp]; exact vx_Zq.moved hW0.alike (hN.kept hS.2.1)
  have h : ∀ w ∈ Bundle.ownAtoms own ic cls names, w.before args s' = true := vx_own hat' (vx_isRefq hU'.1) (vx_isRefq hN'.1) hU'.2.word hN'.2.word
  have hown' : s'.vm.findClass own = some m.cls := by rw [hvm]; exact hown
  have hins : (Cond.instantiable cls 6).before args s' = true := h _ (by simp [Bundle.ownAtoms])
  obtain ⟨vm₁, cX, kX, hfX, hkX, -, -, X₁, st1⟩ := Y.newCold hexec (own := own) (C := cls) (index := ik) (n := 6) hown' hk' hins hini'
    (g := F0 m pc ls rest) rfl (by rw [hb]; exact d0) (Nat.le_refl _) (Nat.le_refl _)
  generalize hT1 : (T.setVm vm₁).pushCell { cls := cX, slots := kX.instanceTypes.map defaultValue, vm := .none } = T1 at X₁ st1
  have hcat : (Value.ref T.heap.size).category = 1 := rfl
  have hcellA : T1.heap[T.heap.size]? = some (freshCell cX kX) := by rw [← hT1]; exact State.heap_pushCell_size _ _
  have d3' : decode c.code (pc + 3) = .ok (.dup, 1) := by rw [hb]; exact d3
  have d4' : decode c.code (pc + 4) = .ok (.ldc is, 2) := by rw [hb]; exact d4
  have hstr' : vk_R own is text sa s' := vk_R.warm hW0 hstr
  obtain ⟨U, hsteps, hrun, hend, hW, hsame, ce, hce, hO⟩ := X₁.ctorThrowS hexec htr (own := own) (cls := cls) (names := names) (ic := ic) hown' hcls hnames h (fun x hx => nomatch hx) hfX hkX hcellA (by rw [hhp, hT]; exact Nat.le_refl _) (msg := .ref sa) rfl
    (g := { method := m, pc := pc + 6, locals := ls, stack := .ref sa :: .ref T.heap.size :: .ref T.heap.size :: rest, locked := none }) rfl hsize rfl rfl (rest := rest) rfl
    (by rw [hb]; exact d6) (by rw [hb]; exact d9) hout hRframes (by simp only [List.map_cons, List.sum_cons, hcat]; omega) hlocks
  obtain ⟨f1, f2⟩ := vx_frame hsame
  rw [hhp] at f1 f2
  have hWs : s.WarmedH U.vm := State.WarmedH.trans hW0 hW
  have hcl : s.vm.findClass cls = some ce.cls := by
    have h9 := hO.cls
    rw [hvm] at h9
    exact h9
  have hall : s.sameButNew ({ U with vm := s.vm } : State) locs mc ms := by
    subst hA
    obtain ⟨e1, e2⟩ := hsame
    rw [State.setFrames_setFrames] at e1
    have h2 : (T.setVm s.vm).sameButNew ({ U with vm := s.vm } : State) [] (0 + 1) (0 + 6) := ⟨e1, e2⟩
    have h3 := X.same.trans h2
    rw [List.append_nil] at h3
    exact h3.mono hc hs
  refine ⟨U, ?_, .threw T.heap.size, hrun, hend, Or.inr ⟨T.heap.size, rfl, cls, ce, locs, hx U hWs.alike f1 (fun q hq => f2 q hq (fun z hz => nomatch hz)), hce, hO.vm, hcl, hWs, hall, hf⟩⟩
  refine st1 _ ?_
  show Steps p.tables e below (T1.setTop { method := m, pc := pc + 3, locals := ls, stack := .ref T.heap.size :: rest, locked := none }) _
  jvm_step X₁.here [X₁.here.top, hexec, d3', Value.category]
  exact X₁.ldcString hexec (own := own) (text := text) (index := is) (a := sa) hown' hstr'.1 hstr'.2
    (g := { method := m, pc := pc + 4, locals := ls, stack := .ref T.heap.size :: .ref T.heap.size :: rest, locked := none }) rfl d4' _ hsteps
/-- 'throw new E("text")', the text by a wide index -/
theorem vx_throwSW {cc : ByteArray} {pc : Nat} (hexec : p.tables.exec = Jvm.exec) (hb : c.code = cc) (hl : l.stackTraces = false) {own cls text : String} {names : List String} {ik is ic mc ms sa : Nat} {A : Nat → Prop}
    (hown : s.vm.findClass own = some m.cls) (hcls : Bundle.fit cls = true) (hnames : ∀ n ∈ names, Bundle.fit n = true)
    (hk : (Cond.classLink own ik cls).before args s = true) (hini : (Cond.initialized cls).before args s = true) (hstr : vk_R own is text sa s) (hat : ∀ w ∈ vx_atS own ic cls names, w.before args s = true)
    (hgood : ∀ w ∈ Cond.classLink own ik cls :: Cond.initialized cls :: vx_atS own ic cls names, vx_ot w = true)
    (hU : vx_Zq Bundle.tN "UNASSIGNED_STACK" Bundle.steD A s s.heap) (hN : vx_Zq Bundle.tN "SUPPRESSED_SENTINEL" Bundle.listD A s s.heap) (hS : va_S A s.heap H locs) (hsize : ls.size = c.maxLocals)
    (d0 : decode cc pc = .ok (.new ik, 3)) (d3 : decode cc (pc + 3) = .ok (.dup, 1)) (d4 : decode cc (pc + 4) = .ok (.ldc_w is, 3)) (d7 : decode cc (pc + 7) = .ok (.invokespecial ic, 3)) (d10 : decode cc (pc + 10) = .ok (.athrow, 1))
    (hout : ∀ x ∈ c.exceptionTable.toList, covers x (pc + 10) = false)
    (hRframes : names.length + 3 < R.frames) (hRlocals : (rest.map fun v => v.category).sum + (13 * (names.length + 1) + 43) ≤ R.locals) (hRcells : cells + 1 ≤ R.cells) (hRslots : slots + 6 ≤ R.slots) (hlocks : meth.locks = false)
    (hx : ∀ t : State, s.vm.Alike t.vm → H.size ≤ t.heap.size → (∀ q : Nat, q < H.size → t.heap[q]? = H[q]?) → XC cls s t)
    (hf : ∀ z ∈ locs, free z.base) (hc : cells + 1 ≤ mc) (hs : slots + 6 ≤ ms) :
    W p l e R s m args below meth c H locs cells slots (vx_MQ below Qc XC args s mc ms free) (F0 m pc ls rest) := by
  intro T hT X
  have htr : e.platform.stackTraces = false := (show e.platform.stackTraces = l.stackTraces by rw [X.admits.platform]).trans hl
  have Y := vx_rebase X (R' := { frames := R.frames, locals := R.locals, cells := 1, slots := 6 }) (Nat.le_refl _) (Nat.le_refl _) hRcells hRslots
  obtain ⟨s', hA⟩ : ∃ z, z = (T.setVm s.vm).setFrames (.invoking m args :: below) := ⟨_, rfl⟩
  rw [← hA] at Y
  have hvm : s'.vm = s.vm := by rw [hA]; rfl
  have hhp : s'.heap = H := by rw [hA]; exact hT
  have hW0 : s.WarmedH s'.vm := by rw [hvm]; exact State.WarmedH.refl s
  have hat' : ∀ w ∈ vx_atS own ic cls names, w.before args s' = true := fun w hw => vx_ot_at hW0 hvm.symm (hgood w (List.mem_cons_of_mem _ (List.mem_cons_of_mem _ hw))) (hat w hw)
  have hk' : (Cond.classLink own ik cls).before args s' = true := vx_ot_at hW0 hvm.symm (hgood _ List.mem_cons_self) hk
  have hini' : (Cond.initialized cls).before args s' = true := vx_ot_at hW0 hvm.symm (hgood _ (List.mem_cons_of_mem _ List.mem_cons_self)) hini
  have hU' : vx_Zq Bundle.tN "UNASSIGNED_STACK" Bundle.steD A s' s'.heap := by rw [hhp]; exact vx_Zq.moved hW0.alike (hU.kept hS.2.1)
  have hN' : vx_Zq Bundle.tN "SUPPRESSED_SENTINEL" Bundle.listD A s' s'.heap := by rw [hhp]; exact vx_Zq.moved hW0.alike (hN.kept hS.2.1)
  have h : ∀ w ∈ Bundle.ownAtoms own ic cls names, w.before args s' = true := vx_own hat' (vx_isRefq hU'.1) (vx_isRefq hN'.1) hU'.2.word hN'.2.word
  have hown' : s'.vm.findClass own = some m.cls := by rw [hvm]; exact hown
  have hins : (Cond.instantiable cls 6).before args s' = true := h _ (by simp [Bundle.ownAtoms])
  obtain ⟨vm₁, cX, kX, hfX, hkX, -, -, X₁, st1⟩ := Y.newCold hexec (own := own) (C := cls) (index := ik) (n := 6) hown' hk' hins hini'
    (g := F0 m pc ls rest) rfl (by rw [hb]; exact d0) (Nat.le_refl _) (Nat.le_refl _)
  generalize hT1 : (T.setVm vm₁).pushCell { cls := cX, slots := kX.instanceTypes.map defaultValue, vm := .none } = T1 at X₁ st1
  have hcat : (Value.ref T.heap.size).category = 1 := rfl
  have hcellA : T1.heap[T.heap.size]? = some (freshCell cX kX) := by rw [← hT1]; exact State.heap_pushCell_size _ _
  have d3' : decode c.code (pc + 3) = .ok (.dup, 1) := by rw [hb]; exact d3
  have d4' : decode c.code (pc + 4) = .ok (.ldc_w is, 3) := by rw [hb]; exact d4
  have hstr' : vk_R own is text sa s' := vk_R.warm hW0 hstr
  obtain ⟨U, hsteps, hrun, hend, hW, hsame, ce, hce, hO⟩ := X₁.ctorThrowS hexec htr (own := own) (cls := cls) (names := names) (ic := ic) hown' hcls hnames h (fun x hx => nomatch hx) hfX hkX hcellA (by rw [hhp, hT]; exact Nat.le_refl _) (msg := .ref sa) rfl
    (g := { method := m, pc := pc + 7, locals := ls, stack := .ref sa :: .ref T.heap.size :: .ref T.heap.size :: rest, locked := none }) rfl hsize rfl rfl (rest := rest) rfl
    (by rw [hb]; exact d7) (by rw [hb]; exact d10) hout hRframes (by simp only [List.map_cons, List.sum_cons, hcat]; omega) hlocks
  obtain ⟨f1, f2⟩ := vx_frame hsame
  rw [hhp] at f1 f2
  have hWs : s.WarmedH U.vm := State.WarmedH.trans hW0 hW
  have hcl : s.vm.findClass cls = some ce.cls := by
    have h9 := hO.cls
    rw [hvm] at h9
    exact h9
  have hall : s.sameButNew ({ U with vm := s.vm } : State) locs mc ms := by
    subst hA
    obtain ⟨e1, e2⟩ := hsame
    rw [State.setFrames_setFrames] at e1
    have h2 : (T.setVm s.vm).sameButNew ({ U with vm := s.vm } : State) [] (0 + 1) (0 + 6) := ⟨e1, e2⟩
    have h3 := X.same.trans h2
    rw [List.append_nil] at h3
    exact h3.mono hc hs
  refine ⟨U, ?_, .threw T.heap.size, hrun, hend, Or.inr ⟨T.heap.size, rfl, cls, ce, locs, hx U hWs.alike f1 (fun q hq => f2 q hq (fun z hz => nomatch hz)), hce, hO.vm, hcl, hWs, hall, hf⟩⟩
  refine st1 _ ?_
  show Steps p.tables e below (T1.setTop { method := m, pc := pc + 3, locals := ls, stack := .ref T.heap.size :: rest, locked := none }) _
  jvm_step X₁.here [X₁.here.top, hexec, d3', Value.category]
  exact X₁.ldcStringW hexec (own := own) (text := text) (index := is) (a := sa) hown' hstr'.1 hstr'.2
    (g := { method := m, pc := pc + 4, locals := ls, stack := .ref T.heap.size :: .ref T.heap.size :: rest, locked := none }) rfl d4' _ hsteps
end Ends
section Bodies
variable {l : Launch}
theorem vx_ofW {y : MethodName} {ws ws' : List Cond} {rm : Room} {Pc : Array Value → State → Prop} {Qc : Array Value → State → Outcome → State → Prop} {XC : String → State → State → Prop} {mc ms : Nat} {free : Addr → Prop} {cc : ByteArray} {maxL : Nat} {ret : Option FieldType}
    (hy : plainName y.cls = true) (hw : ws = Cond.code y cc maxL ret :: ws')
    (body : ∀ p e s m args below meth c s₁, BodyLoose p l y (headSpec ws rm) cc maxL ret e s m args below meth c s₁ → c.maxLocals = maxL → (∀ x ∈ c.exceptionTable.toList, False) → Pc args s →
      W p l e (headSpec ws rm).room s m args below meth c s.heap [] 0 0 (vx_MQ below Qc XC args s mc ms free) (entryFrame m args maxL)) : vx_Met l y ws rm Pc Qc XC mc ms free := by
  refine MetFree.of_bodyS (code := cc) (maxLocals := maxL) (ret := ret) hy ?_ ?_
  · intro args s m h hn
    obtain ⟨meth, c, h1, h2, h3, h4, h5, h6, -, -⟩ := Cond.code_spec hn (atoms_spec (ws := ws) h _ (by rw [hw]; exact List.mem_cons_self))
    exact ⟨meth, c, h1, h2, h3, h4, h5, h6⟩
  · intro p e s m args below meth c s₁ B hml hP _
    have hh0 : s₁.heap = s.heap := by rw [B.state]; rfl
    have ht : ∀ x ∈ c.exceptionTable.toList, False := by
      obtain ⟨meth9, c9, h1, h2, -, -, -, -, h7, -⟩ := Cond.code_spec B.named (atoms_spec (ws := ws) B.pre _ (by rw [hw]; exact List.mem_cons_self))
      cases Option.some.inj (h1.symm.trans B.method)
      cases Option.some.inj (h2.symm.trans (Stand.of_body B).code)
      intro x hx
      rw [Array.isEmpty_iff.mp h7] at hx
      cases hx
    obtain ⟨t, a1, o, b1, b2, b3⟩ := body p e s m args below meth c s₁ B hml ht hP s₁ hh0 (Stand.of_body B)
    exact ⟨t, o, a1, b1, b2, b3⟩
/-- the table of a body with handlers -/
theorem vx_table {p : Program} {x y : MethodName} {S : Spec} {cc bytes : ByteArray} {maxL maxL' : Nat} {ret ret' : Option FieldType} {e : Env} {s s₁ : State} {m : MethodId} {args : Array Value} {below : List Frame} {meth : Method} {c : Code} {hh : List (Nat × Nat × Nat × Nat)}
    (B : BodyLoose p l y S cc maxL ret e s m args below meth c s₁) (h : (Cond.codeWith y bytes maxL' ret' hh).before args s = true) : c.exceptionTable.toList = tableOf hh := by
  obtain ⟨m9, meth9, c9, hn9, h1, h2, -, -, h6, -⟩ := Cond.codeWith_spec h
  cases Option.some.inj (hn9.symm.trans B.named)
  cases Option.some.inj (h1.symm.trans B.method)
  cases Option.some.inj (h2.symm.trans (Stand.of_body B).code)
  rw [← h6, table_eq]
end Bodies
end VXA
/-! ===== END ===== -/
/-! ===== BEGIN a static call of a method with an exception table ===== -/
section VXS
variable {p : Program} {l : Launch} {e : Env} {R : Room} {s : State} {m : MethodId} {args : Array Value} {below : List Frame} {meth : Method} {c : Code} {T : State} {H : Heap} {locs : List Loc} {cells slots : Nat}
abbrev vx_CSW (R : Room) (s : State) (args : Array Value) (own : String) (index : Nat) (y : MethodName) (bytes : ByteArray) (maxL : Nat) (ret : Option FieldType) (hh : List (Nat × Nat × Nat × Nat)) (ws : List Cond) (rm : Room) (mc ms n : Nat) : Prop :=
  (rm.cells = mc ∧ rm.slots = ms ∧ rm.frames + 1 ≤ R.frames ∧ 8 + (maxL + 11) + rm.locals ≤ R.locals ∧ (∀ w ∈ ws, ∀ (a' : Array Value) (U : State), s.WarmedH U.vm → w.before a' U = true) ∧ Cond.codeWith y bytes maxL ret hh ∈ ws) ∧
  (Cond.codeWith y bytes maxL ret hh).before args s = true ∧ (Cond.initialized y.cls).before args s = true ∧ (y.cls ≠ "java/lang/invoke/MethodHandle" ∧ y.cls ≠ "java/lang/invoke/VarHandle") ∧
  (∀ sig, parseMethodDescriptor y.desc = some sig → n = sig.parameters.length) ∧ (Cond.methodLink own index y).before args s = true ∧ (Cond.static y).before args s = true
theorem vx_cwSW {own : String} {index maxL mc ms : Nat} {y : MethodName} {bytes : ByteArray} {ret : Option FieldType} {hh : List (Nat × Nat × Nat × Nat)} {Ts ws ws' : List Cond} {rm : Room} (n : Nat) (ht : ∀ w ∈ Ts, w.before args s = true) (hT : GoodIn Ts (va_wsS own index y ws)) (hw : ws = Cond.codeWith y bytes maxL ret hh :: ws') (hrc : rm.cells = mc) (hrs : rm.slots = ms)
    (hd : y.cls ≠ "java/lang/invoke/MethodHandle" ∧ y.cls ≠ "java/lang/invoke/VarHandle" ∧ (parseMethodDescriptor y.desc).map (fun d => d.parameters.length) = some n) (hR : rm.frames + 1 ≤ R.frames ∧ 8 + (maxL + 11) + rm.locals ≤ R.locals) :
    vx_CSW R s args own index y bytes maxL ret hh ws rm mc ms n := by
  have ok : ∀ w ∈ va_wsS own index y ws, w.before args s = true := fun w h => ht w (hT w h).1
  have hG : GoodIn Ts ws := fun w h => hT w (by unfold va_wsS; exact List.mem_append_right _ h)
  have hc : Cond.codeWith y bytes maxL ret hh ∈ ws := by rw [hw]; exact List.mem_cons_self
  refine ⟨⟨hrc, hrs, hR.1, hR.2, pay_in ht hG, hc⟩, ht _ (hG _ hc).1, ok _ (by simp [va_wsS]), ⟨hd.1, hd.2.1⟩, fun sig h => ?_, ok _ (by simp [va_wsS]), ok _ (by simp [va_wsS])⟩
  have h2 := hd.2.2
  rw [h] at h2
  exact (Option.some.inj h2).symm
theorem vx_callSW (X : Stand p l e R s m args below meth c T locs cells slots) (hexec : p.tables.exec = Jvm.exec) {own : String} {index : Nat} {y : MethodName} {bytes : ByteArray} {maxL : Nat} {ret : Option FieldType} {hh : List (Nat × Nat × Nat × Nat)}
    (hown : s.vm.findClass own = some m.cls) (hlink : (Cond.methodLink own index y).before args s = true) (hstat : (Cond.static y).before args s = true) (hinit : (Cond.initialized y.cls).before args s = true)
    (hcode : (Cond.codeWith y bytes maxL ret hh).before args s = true) (hy : y.cls ≠ "java/lang/invoke/MethodHandle" ∧ y.cls ≠ "java/lang/invoke/VarHandle")
    {W9 : Nat} {Pre : Pt → Array Value → Prop} {Post : Pt → Array Value → Option Value → Pt → Prop} (hK : Back l R p e below s args y 3 W9 Pre Post)
    {g : JFrame} (hg : g.method = m) (hsize : g.locals.size = c.maxLocals) {argsL rest : List Value} (hlen : ∀ sig, parseMethodDescriptor y.desc = some sig → argsL.length = sig.parameters.length)
    (hstack : g.stack = argsL.reverse ++ rest) (hW : 2 * g.monitorRoom + (rest.map fun v => v.category).sum ≤ W9) (hdg : decode c.code g.pc = .ok (.invokestatic index, 3))
    (hpre : ∀ vm₁, s.WarmedH vm₁ → Pre ⟨T.setVm vm₁, locs, cells, slots⟩ argsL.toArray) :
    ∃ (v : Option Value) (vm₁ : Vm) (B : Pt), s.WarmedH vm₁ ∧ Stand p l e R s m args below meth c B.U B.locs B.cells B.slots ∧ Post ⟨T.setVm vm₁, locs, cells, slots⟩ argsL.toArray v B ∧
      ∀ target, Steps p.tables e below (B.U.setTop { g with pc := g.pc + 3, stack := v.toList ++ rest }) target → Steps p.tables e below (T.setTop g) target := by
  obtain ⟨mk, methM, cM, hnamed, hmethM, -, -, -, -, -, -, hsigM⟩ := Cond.codeWith_spec hcode
  have hstatic : methM.isStatic = true := Cond.static_spec hnamed hmethM hstat
  obtain ⟨kP, hkP, -⟩ := className_of_methodNamed hnamed
  have hinitP : kP.init = .initialized := Cond.initialized_spec (findClass_of_methodNamed hnamed) hkP hinit
  obtain ⟨vm₁, X₁, hstep₁⟩ := X.invokestatic hexec hown hlink hnamed hmethM hstatic hkP hinitP hy (g := g) hg (argsL := argsL) (rest := rest) (hlen _ hsigM) hstack hdg
  obtain ⟨v, B, X', hpost, hsteps⟩ := hK m meth c ⟨T.setVm vm₁, locs, cells, slots⟩ { g with stack := rest } (.invokestatic index) mk argsL.toArray X₁ hg hsize hdg hW (X₁.named hnamed) (hpre vm₁ X₁.warmed)
  exact ⟨v, vm₁, B, X₁.warmed, X', hpost, fun target h => hstep₁ _ fun acts => by rw [doInvoke_state]; exact hsteps.trans h⟩
theorem vx_runSW {y : MethodName} {bytes cc : ByteArray} {maxL nL mc ms n index : Nat} {ret : Option FieldType} {hh : List (Nat × Nat × Nat × Nat)} {ws : List Cond} {rm : Room} {Pc : Array Value → State → Prop} {Qc : Array Value → State → Outcome → State → Prop} {free : Addr → Prop} {Ts : List Cond} {own : String} {As rest : List Value} {g : JFrame}
    (S : CallFix p m c cc nL s args Ts own) (hM : Met l y ws rm Pc Qc mc ms free) (cw : vx_CSW R s args own index y bytes maxL ret hh ws rm mc ms n) (hp : PreS s H Pc As)
    (hg : g.method = m) (hn : As.length = n) (hsize : g.locals.size = nL) (hstack : g.stack = As.reverse ++ rest) (hW : 2 * g.monitorRoom + (rest.map fun v => v.category).sum ≤ 8) (hdg : decode cc g.pc = .ok (.invokestatic index, 3)) (hf : cells + mc ≤ R.cells ∧ slots + ms ≤ R.slots) :
    va_Run p l e R s m args below meth c H locs cells slots mc ms g rest (Qc As.toArray) (free) := by
  obtain ⟨⟨hrc, hrs, hfr, hlo, hws, hcw⟩, hcode, hini, hy, hlen, hl, hstt⟩ := cw
  have hK : Back l R p e below s args y 3 8 (PreOf R mc ms Pc) (PostOf Qc mc ms free) := va_backW (hh := hh) (bytes := bytes) (maxL := maxL) (ret := ret) hM hp.1 hrc hrs hfr hlo hws hcw (fun a' U hW => word_at hW (Or.inl (by first | rfl | simp [Cond.onTables, Cond.keeps, Cond.steady])) hini)
  obtain ⟨hx, hb, hml, ho, -⟩ := S
  intro T hT X
  obtain ⟨v, vm₁, ⟨U', l2, c2, s2⟩, hW₁, X', ⟨g', mk, t, L, e1, e2, hq, h1, hL, h2, h3⟩, st⟩ := vx_callSW X hx (hh := hh) (bytes := bytes) (maxL := maxL) (ret := ret) ho hl hstt hini hcode hy hK hg (hsize.trans hml.symm) (argsL := As) (rest := rest) (fun sig h => hn.trans (hlen sig h)) hstack hW (by rw [hb]; exact hdg)
    (fun vm₁ hW₁ => ⟨hf.1, hf.2, hp.2 (T.setVm vm₁) hT hW₁⟩)
  dsimp only [Pt.U, Pt.locs, Pt.cells, Pt.slots] at X' e1 e2 h1 h2 h3 st
  subst h1; subst h2; subst h3
  exact ⟨v, (T.setVm vm₁).calling g' mk As.toArray, t, U', L, hT, X', hL, e1, e2, hq, st⟩
/-- not caught here, past rows that name other classes: it goes on to the caller -/
theorem vx_outP {p : Program} {l : Launch} {e : Env} {R : Room} {s : State} {m : MethodId} {args : Array Value} {below : List Frame} {meth : Method} {c : Code} {H : Heap} {locs : List Loc} {cells slots : Nat} {free : Addr → Prop} {ls : Array Slot} {rest : List Value} {Qc : Array Value → State → Outcome → State → Prop} {XC : String → State → State → Prop}
    {pc : Nat} {own E : String} {ce : Cell} {q : Addr} {mc ms : Nat} (hown : s.vm.findClass own = some m.cls) (hlocks : meth.locks = false)
    (hpass : ∀ z ∈ c.exceptionTable.toList, covers z pc = false ∨ (z.catchType ≠ 0 ∧ ∃ nm : String, (Cond.classLink own z.catchType nm).before args s = true ∧ va_Nc E nm s)) (hcell : H[q]? = some ce) (hv : ce.vm = .none) (hcl : s.vm.findClass E = some ce.cls)
    (hx : ∀ t : State, t.heap = H → s.vm.Alike t.vm → XC E s t) (hf : ∀ z ∈ locs, free z.base) (hc : cells ≤ mc) (hs : slots ≤ ms) :
    vx_W p l e R s m args below meth c H locs cells slots (vx_MQ below Qc XC args s mc ms free) (F0 m pc ls rest) q := by
  intro T hT X
  have hpl : e.platform.magicAccessors = ({} : Platform).magicAccessors := by rw [X.admits.platform]
  obtain ⟨vm', hW', X', st⟩ := X.outThrough hlocks q (g := F0 m pc ls rest) rfl rfl rfl (cell := ce) (by rw [hT]; exact hcell) (by rw [hv]; rfl)
    (by obtain ⟨k9, h9, -⟩ := Vm.findClass_spec hcl; exact ⟨k9, h9⟩) (fun z hz => by
      rcases hpass z hz with h | ⟨hz0, nm, hl1, hn1⟩
      · exact Or.inl h
      · obtain ⟨c6, hc6, hcl6⟩ := Cond.classLink_spec hown hl1 e.platform hpl
        obtain ⟨a8, b8, h1, h2, h3⟩ := hn1
        cases Option.some.inj (h1.symm.trans hcl)
        cases Option.some.inj (h2.symm.trans hc6)
        exact Or.inr ⟨hz0, _, hcl6, h3⟩)
  obtain ⟨g₀, hfr⟩ := X'.frames_eq
  have hcell9 : ((T.setVm vm').setFrames (.throwing q :: below)).heap[q]? = some ce := by
    show T.heap[q]? = some ce
    rw [hT]; exact hcell
  have hend : Ended ((T.setVm vm').setFrames (.throwing q :: below)) below (.threw q) := State.frames_setFrames _ (State.cur_lt_of_frames hfr)
  refine ⟨(T.setVm vm').setFrames (.throwing q :: below), ?_, .threw q, X'.here.running, hend, Or.inr ⟨q, rfl, E, ce, locs, hx _ hT (X'.ends _).1.alike, hcell9, hv, hcl, (X'.ends _).1, (X'.ends _).2.mono hc hs, hf⟩⟩
  rw [X.pushThrowing_eq]
  exact st
/-- a thing of a world lies in the heap -/
theorem vx_lt {D : va_G} {cl : List vw_C} {ws : va_W} {H1 : Heap} (h : va_P D cl ws H1) {k : Nat} {q : Nat × va_E} (hk : ws[k]? = some q) : q.1 < H1.size := (h k q hk).lt
end VXS
/-! ===== END ===== -/
/-! ===== BEGIN methods with a table of their own: called by a name, returning or throwing ===== -/
section VXH
/-! vx_backW, vx_callVX, vx_callSX, vx_callVW, vx_runVW, vx_runVX, vx_runSX, vx_ofWH follow the same proofs as their sisters above (Free/Laws.lean, Shelf42/LK1.lean); vx_outP calls Shelf42/NT130.lean (outThrough). -/
section
variable {l : Launch} {R : Room} {p : Program} {e : Env} {below : List Frame} {s : State} {sargs : Array Value} {y : MethodName} {len W9 : Nat}
theorem vx_backW {ws : List Cond} {rm : Room} {Pc : Array Value → State → Prop} {Qc : Array Value → State → Outcome → State → Prop} {XC : String → State → State → Prop} {mc ms : Nat} {free : Addr → Prop} {bytes : ByteArray} {maxL : Nat} {ret : Option FieldType} {hh : List (Nat × Nat × Nat × Nat)}
    (hM : vx_Met l y ws rm Pc Qc XC mc ms free) (hblind : FrameBlind Pc) (hrc : rm.cells = mc) (hrs : rm.slots = ms)
    (hframes : rm.frames + 1 ≤ R.frames) (hlocals : W9 + (maxL + 11) + rm.locals ≤ R.locals)
    (hws : ∀ w ∈ ws, ∀ a' U, s.WarmedH U.vm → w.before a' U = true) (hcode : Cond.codeWith y bytes maxL ret hh ∈ ws) (hinit : ∀ a' U, s.WarmedH U.vm → (Cond.initialized y.cls).before a' U = true) :
    vx_Back l R p e below s sargs y len W9 (PreOf R mc ms Pc) (PostOf Qc mc ms free) (vx_Post XC mc ms free) := by
  intro m meth c A g ig mk a X hg hsize hdg hW hn hp
  have h1 : (headSpec ws rm).pre.before a A.U = true := atoms_intro fun w hw => hws w hw _ _ X.warmed
  have h2 : (Cond.codeWith y bytes maxL ret hh).before a A.U = true := hws _ hcode _ _ X.warmed
  have h3 : (Cond.initialized y.cls).before a A.U = true := hinit _ _ X.warmed
  have h4 : A.cells + (headSpec ws rm).room.cells ≤ R.cells := by rw [show (headSpec ws rm).room.cells = mc from hrc]; exact hp.1
  have h5 : A.slots + (headSpec ws rm).room.slots ≤ R.slots := by rw [show (headSpec ws rm).room.slots = ms from hrs]; exact hp.2.1
  have hPc : Pc a (A.U.calling g mk a) := hblind _ _ _ _ hp.2.2
  obtain ⟨U, Ls, c0, s0⟩ := A
  dsimp only [Pt.U, Pt.locs, Pt.cells, Pt.slots] at h1 h2 h3 h4 h5 X hn hPc ⊢
  obtain ⟨m9, methY, cY, hn9, hmY, hcY, -, hlY, -⟩ := Cond.codeWith_spec h2
  cases Option.some.inj (hn9.symm.trans hn)
  obtain ⟨kY, hkY, -⟩ := className_of_methodNamed hn
  have hinitY : kY.init = .initialized := Cond.initialized_spec (findClass_of_methodNamed hn) hkY h3
  have h : At U g.method c below := by rw [hg]; exact X.here
  have hlocals9 : W9 + (maxL + 11) + (headSpec ws rm).room.locals ≤ R.locals := hlocals
  have happ : (headSpec ws rm).appliesLoose y e.platform (U.calling g mk a) = true :=
    Spec.appliesLoose_calling (g := g) h hdg hn hkY hinitY
      (X.room_calling (g := g) (R' := (headSpec ws rm).room) hsize hmY hcY hframes (by rw [hlY]; omega) h4 h5) h1
  obtain ⟨mid, hmid⟩ := h.above
  have hfr : (U.setTop g).frames = (.java g :: mid) ++ below := by rw [State.frames_setTop' g h.top, hmid]; rfl
  obtain ⟨o, s₂, hsteps, -, hend, hq⟩ := Steps.callFree hM p X.admits X.cas X.clock (acts := []) hfr happ hPc trivial
  have hq' : vx_Q Qc XC mc ms free a (U.calling g mk a) o s₂ := hq
  rw [State.frames_setTop' g h.top] at hend
  obtain ⟨g₀, hg0⟩ := Option.isSome_iff_exists.mp h.top
  obtain ⟨r, hr⟩ := State.topJava?_eq_some.mp hg0
  have hr' : (({ U with heap := s₂.heap, slotsUsed := s₂.slotsUsed } : State).setVm s₂.vm).frames = .java g₀ :: r := hr
  rcases hq' with ⟨hqc, L, hfe, hL⟩ | ⟨q, rfl, E, ce, L, hx, hce, hcv, hcl, hW₂, hsm, hL⟩
  · obtain ⟨⟨v, rfl⟩, hW₂, e2, q2, q3, q4, q5, q6⟩ := id hfe
    have e3 : s₂ = ({ (U.calling g mk a).setFrames s₂.frames with heap := s₂.heap, slotsUsed := s₂.slotsUsed } : State).setVm s₂.vm := by
      have : s₂ = ({ s₂ with vm := (U.calling g mk a).vm } : State).setVm s₂.vm := rfl
      rw [e2] at this
      exact this
    obtain ⟨c₂, i₂, len₂, hc₂, hd₂, hf₂⟩ := hend
    have hW' : U.WarmedH s₂.vm := hW₂
    have hcc : c₂ = c := by
      have h1 : s₂.code? g.method = U.code? g.method := by
        rw [State.code?_eq, State.code?_eq, hW'.alike.method?]
      exact Option.some.inj (hc₂.symm.trans (h1.trans h.code))
    subst hcc
    have hlen : len₂ = len := by rw [hdg] at hd₂; cases hd₂; rfl
    subst hlen
    have hs₂ : s₂ = (({ U with heap := s₂.heap, slotsUsed := s₂.slotsUsed } : State).setVm s₂.vm).setTop { g with pc := g.pc + len₂, stack := v.toList ++ g.stack } := by
      refine e3.trans ?_
      rw [hf₂, State.calling_eq h.top, State.setFrames_setFrames, State.setTop_of_frames _ hr', hr]
      rfl
    have hsame : U.sameButNew ({ U with heap := s₂.heap, slotsUsed := s₂.slotsUsed } : State) L mc ms := by
      refine ⟨?_, q2, q3, q4, q5, q6⟩
      obtain ⟨t, ht, -⟩ := State.frames_cons hr
      show ({ U with heap := s₂.heap, slotsUsed := s₂.slotsUsed } : State) = { U.setFrames U.frames with heap := s₂.heap, slotsUsed := s₂.slotsUsed }
      rw [State.setFrames_self ht]
    subst hg
    refine Or.inl ⟨v, ⟨(({ U with heap := s₂.heap, slotsUsed := s₂.slotsUsed } : State).setVm s₂.vm), Ls ++ L, c0 + mc, s0 + ms⟩,
      ⟨X.admits, X.cas, X.clock, X.frames, X.room, X.hears, X.method, X.code, (X.here.setHeapUsed s₂.heap s₂.slotsUsed).setVm hW'.alike, X.tail, State.WarmedH.trans X.warmed hW', X.limits, X.bytes, X.same.trans (hsame.setVm s.vm)⟩,
      ⟨g, mk, s₂, L, rfl, rfl, hqc, rfl, hL, rfl, rfl⟩, ?_⟩
    show Steps p.tables e below _ ((({ U with heap := s₂.heap, slotsUsed := s₂.slotsUsed } : State).setVm s₂.vm).setTop { g with pc := g.pc + len₂, stack := v.toList ++ g.stack })
    rw [← hs₂]
    exact hsteps
  · obtain ⟨e2, q2, q3, q4, q5, q6⟩ := id hsm
    have e3 : s₂ = ({ (U.calling g mk a).setFrames s₂.frames with heap := s₂.heap, slotsUsed := s₂.slotsUsed } : State).setVm s₂.vm := by
      have : s₂ = ({ s₂ with vm := (U.calling g mk a).vm } : State).setVm s₂.vm := rfl
      rw [e2] at this
      exact this
    have hf₂ : s₂.frames = .throwing q :: .java g :: U.frames.tail := hend
    have hW' : U.WarmedH s₂.vm := hW₂
    have hs₂ : s₂ = ((({ U with heap := s₂.heap, slotsUsed := s₂.slotsUsed } : State).setVm s₂.vm).setTop g).pushFrame (.throwing q) := by
      refine e3.trans ?_
      rw [hf₂, State.calling_eq h.top, State.setFrames_setFrames, State.pushFrame, State.frames_setTop _ hr', State.setTop_of_frames _ hr', State.setFrames_setFrames, hr]
      rfl
    have hsame : U.sameButNew ({ U with heap := s₂.heap, slotsUsed := s₂.slotsUsed } : State) L mc ms := by
      refine ⟨?_, q2, q3, q4, q5, q6⟩
      obtain ⟨t, ht, -⟩ := State.frames_cons hr
      show ({ U with heap := s₂.heap, slotsUsed := s₂.slotsUsed } : State) = { U.setFrames U.frames with heap := s₂.heap, slotsUsed := s₂.slotsUsed }
      rw [State.setFrames_self ht]
    subst hg
    refine Or.inr ⟨q, ⟨(({ U with heap := s₂.heap, slotsUsed := s₂.slotsUsed } : State).setVm s₂.vm), Ls ++ L, c0 + mc, s0 + ms⟩,
      ⟨X.admits, X.cas, X.clock, X.frames, X.room, X.hears, X.method, X.code, (X.here.setHeapUsed s₂.heap s₂.slotsUsed).setVm hW'.alike, X.tail, State.WarmedH.trans X.warmed hW', X.limits, X.bytes, X.same.trans (hsame.setVm s.vm)⟩,
      ⟨g, mk, s₂, L, E, ce, rfl, rfl, hx, hce, hcv, hcl, rfl, hL, rfl, rfl⟩, ?_⟩
    show Steps p.tables e below _ (((({ U with heap := s₂.heap, slotsUsed := s₂.slotsUsed } : State).setVm s₂.vm).setTop g).pushFrame (.throwing q))
    rw [← hs₂]
    exact hsteps
end
variable {p : Program} {l : Launch} {e : Env} {R : Room} {s : State} {m : MethodId} {args : Array Value} {below : List Frame} {meth : Method} {c : Code} {T : State} {H : Heap} {locs : List Loc} {cells slots : Nat}
theorem vx_callVX (X : Stand p l e R s m args below meth c T locs cells slots) (hexec : p.tables.exec = Jvm.exec) {own C : String} {index : Nat} {y : MethodName} {bytes : ByteArray} {maxL : Nat} {ret : Option FieldType} {hh : List (Nat × Nat × Nat × Nat)}
    (hown : s.vm.findClass own = some m.cls) (hlink : (Cond.methodLink own index y).before args s = true) (hinst : (Cond.instanceMethod y).before args s = true) (hsel : (Cond.selects C y y).before args s = true)
    (hcode : (Cond.codeWith y bytes maxL ret hh).before args s = true) (hy : y.cls ≠ "java/lang/invoke/MethodHandle" ∧ y.cls ≠ "java/lang/invoke/VarHandle")
    {W9 : Nat} {Pre : Pt → Array Value → Prop} {Post : Pt → Array Value → Option Value → Pt → Prop} {PostX : Pt → Array Value → Addr → Pt → Prop} (hK : vx_Back l R p e below s args y 3 W9 Pre Post PostX)
    {b : Addr} {cellB : Cell} (hcell : T.heap[b]? = some cellB) (hobj : cellB.vm.isStatics = false) (hcls : s.vm.findClass C = some cellB.cls)
    {g : JFrame} (hg : g.method = m) (hsize : g.locals.size = c.maxLocals) {argsL rest : List Value} (hlen : ∀ sig, parseMethodDescriptor y.desc = some sig → argsL.length = sig.parameters.length)
    (hstack : g.stack = argsL.reverse ++ .ref b :: rest) (hW : 2 * g.monitorRoom + (rest.map fun v => v.category).sum ≤ W9) (hdg : decode c.code g.pc = .ok (.invokevirtual index, 3))
    (hpre : ∀ vm₁, s.WarmedH vm₁ → Pre ⟨T.setVm vm₁, locs, cells, slots⟩ (Value.ref b :: argsL).toArray) :
    (∃ (v : Option Value) (vm₁ : Vm) (B : Pt), s.WarmedH vm₁ ∧ Stand p l e R s m args below meth c B.U B.locs B.cells B.slots ∧ Post ⟨T.setVm vm₁, locs, cells, slots⟩ (Value.ref b :: argsL).toArray v B ∧
      ∀ target, Steps p.tables e below (B.U.setTop { g with pc := g.pc + 3, stack := v.toList ++ rest }) target → Steps p.tables e below (T.setTop g) target) ∨
    (∃ (q : Addr) (vm₁ : Vm) (B : Pt), s.WarmedH vm₁ ∧ Stand p l e R s m args below meth c B.U B.locs B.cells B.slots ∧ PostX ⟨T.setVm vm₁, locs, cells, slots⟩ (Value.ref b :: argsL).toArray q B ∧
      Steps p.tables e below (T.setTop g) ((B.U.setTop { g with stack := rest }).pushFrame (.throwing q))) := by
  obtain ⟨mk, methM, hnamed, hmethM, hstM, habM⟩ := Cond.instanceMethod_spec hinst
  obtain ⟨m8, methM', cM, hn8, hmethM', -, -, -, -, -, -, hsigM⟩ := Cond.codeWith_spec hcode
  cases Option.some.inj (hn8.symm.trans hnamed)
  cases hmethM.symm.trans hmethM'
  obtain ⟨c2, r2, m2, q1, q2, q3, q4, kP, hkP, hkPi⟩ := Cond.selects_spec hsel
  cases hcls.symm.trans q1
  cases (State.methodFound?_of_named hnamed hy).symm.trans q2
  cases hnamed.symm.trans q3
  have hselP : selectMethod e.platform s.vm cellB.cls mk = .method mk := by rw [Launch.admits_selectMethod X.admits]; exact q4
  obtain ⟨vm₁, X₁, hstep₁⟩ := X.invokevirtual hexec hown hlink hnamed hmethM hstM hkP hkPi hy (a := b) (cell := cellB) hcell
    (fun z h => by rw [h] at hobj; cases hobj) hselP hmethM habM hkP hkPi (g := g) hg (argsL := argsL) (rest := rest) (hlen _ hsigM) hstack hdg
  rcases hK m meth c ⟨T.setVm vm₁, locs, cells, slots⟩ { g with stack := rest } (.invokevirtual index) mk (Value.ref b :: argsL).toArray X₁ hg hsize hdg hW (X₁.named hnamed) (hpre vm₁ X₁.warmed) with ⟨v, B, X', hpost, hsteps⟩ | ⟨q, B, X', hpost, hsteps⟩
  · exact Or.inl ⟨v, vm₁, B, X₁.warmed, X', hpost, fun target h => hstep₁ _ fun acts => by rw [doInvoke_state]; exact hsteps.trans h⟩
  · exact Or.inr ⟨q, vm₁, B, X₁.warmed, X', hpost, hstep₁ _ fun acts => by rw [doInvoke_state]; exact hsteps⟩
theorem vx_callSX (X : Stand p l e R s m args below meth c T locs cells slots) (hexec : p.tables.exec = Jvm.exec) {own : String} {index : Nat} {y : MethodName} {bytes : ByteArray} {maxL : Nat} {ret : Option FieldType} {hh : List (Nat × Nat × Nat × Nat)}
    (hown : s.vm.findClass own = some m.cls) (hlink : (Cond.methodLink own index y).before args s = true) (hstat : (Cond.static y).before args s = true) (hinit : (Cond.initialized y.cls).before args s = true)
    (hcode : (Cond.codeWith y bytes maxL ret hh).before args s = true) (hy : y.cls ≠ "java/lang/invoke/MethodHandle" ∧ y.cls ≠ "java/lang/invoke/VarHandle")
    {W9 : Nat} {Pre : Pt → Array Value → Prop} {Post : Pt → Array Value → Option Value → Pt → Prop} {PostX : Pt → Array Value → Addr → Pt → Prop} (hK : vx_Back l R p e below s args y 3 W9 Pre Post PostX)
    {g : JFrame} (hg : g.method = m) (hsize : g.locals.size = c.maxLocals) {argsL rest : List Value} (hlen : ∀ sig, parseMethodDescriptor y.desc = some sig → argsL.length = sig.parameters.length)
    (hstack : g.stack = argsL.reverse ++ rest) (hW : 2 * g.monitorRoom + (rest.map fun v => v.category).sum ≤ W9) (hdg : decode c.code g.pc = .ok (.invokestatic index, 3))
    (hpre : ∀ vm₁, s.WarmedH vm₁ → Pre ⟨T.setVm vm₁, locs, cells, slots⟩ argsL.toArray) :
    (∃ (v : Option Value) (vm₁ : Vm) (B : Pt), s.WarmedH vm₁ ∧ Stand p l e R s m args below meth c B.U B.locs B.cells B.slots ∧ Post ⟨T.setVm vm₁, locs, cells, slots⟩ argsL.toArray v B ∧
      ∀ target, Steps p.tables e below (B.U.setTop { g with pc := g.pc + 3, stack := v.toList ++ rest }) target → Steps p.tables e below (T.setTop g) target) ∨
    (∃ (q : Addr) (vm₁ : Vm) (B : Pt), s.WarmedH vm₁ ∧ Stand p l e R s m args below meth c B.U B.locs B.cells B.slots ∧ PostX ⟨T.setVm vm₁, locs, cells, slots⟩ argsL.toArray q B ∧
      Steps p.tables e below (T.setTop g) ((B.U.setTop { g with stack := rest }).pushFrame (.throwing q))) := by
  obtain ⟨mk, methM, cM, hnamed, hmethM, -, -, -, -, -, -, hsigM⟩ := Cond.codeWith_spec hcode
  have hstatic : methM.isStatic = true := Cond.static_spec hnamed hmethM hstat
  obtain ⟨kP, hkP, -⟩ := className_of_methodNamed hnamed
  have hinitP : kP.init = .initialized := Cond.initialized_spec (findClass_of_methodNamed hnamed) hkP hinit
  obtain ⟨vm₁, X₁, hstep₁⟩ := X.invokestatic hexec hown hlink hnamed hmethM hstatic hkP hinitP hy (g := g) hg (argsL := argsL) (rest := rest) (hlen _ hsigM) hstack hdg
  rcases hK m meth c ⟨T.setVm vm₁, locs, cells, slots⟩ { g with stack := rest } (.invokestatic index) mk argsL.toArray X₁ hg hsize hdg hW (X₁.named hnamed) (hpre vm₁ X₁.warmed) with ⟨v, B, X', hpost, hsteps⟩ | ⟨q, B, X', hpost, hsteps⟩
  · exact Or.inl ⟨v, vm₁, B, X₁.warmed, X', hpost, fun target h => hstep₁ _ fun acts => by rw [doInvoke_state]; exact hsteps.trans h⟩
  · exact Or.inr ⟨q, vm₁, B, X₁.warmed, X', hpost, hstep₁ _ fun acts => by rw [doInvoke_state]; exact hsteps⟩
theorem vx_callVW (X : Stand p l e R s m args below meth c T locs cells slots) (hexec : p.tables.exec = Jvm.exec) {own C : String} {index : Nat} {y : MethodName} {bytes : ByteArray} {maxL : Nat} {ret : Option FieldType} {hh : List (Nat × Nat × Nat × Nat)}
    (hown : s.vm.findClass own = some m.cls) (hlink : (Cond.methodLink own index y).before args s = true) (hinst : (Cond.instanceMethod y).before args s = true) (hsel : (Cond.selects C y y).before args s = true)
    (hcode : (Cond.codeWith y bytes maxL ret hh).before args s = true) (hy : y.cls ≠ "java/lang/invoke/MethodHandle" ∧ y.cls ≠ "java/lang/invoke/VarHandle")
    {W9 : Nat} {Pre : Pt → Array Value → Prop} {Post : Pt → Array Value → Option Value → Pt → Prop} (hK : Back l R p e below s args y 3 W9 Pre Post)
    {b : Addr} {cellB : Cell} (hcell : T.heap[b]? = some cellB) (hobj : cellB.vm.isStatics = false) (hcls : s.vm.findClass C = some cellB.cls)
    {g : JFrame} (hg : g.method = m) (hsize : g.locals.size = c.maxLocals) {argsL rest : List Value} (hlen : ∀ sig, parseMethodDescriptor y.desc = some sig → argsL.length = sig.parameters.length)
    (hstack : g.stack = argsL.reverse ++ .ref b :: rest) (hW : 2 * g.monitorRoom + (rest.map fun v => v.category).sum ≤ W9) (hdg : decode c.code g.pc = .ok (.invokevirtual index, 3))
    (hpre : ∀ vm₁, s.WarmedH vm₁ → Pre ⟨T.setVm vm₁, locs, cells, slots⟩ (Value.ref b :: argsL).toArray) :
    ∃ (v : Option Value) (vm₁ : Vm) (B : Pt), s.WarmedH vm₁ ∧ Stand p l e R s m args below meth c B.U B.locs B.cells B.slots ∧ Post ⟨T.setVm vm₁, locs, cells, slots⟩ (Value.ref b :: argsL).toArray v B ∧
      ∀ target, Steps p.tables e below (B.U.setTop { g with pc := g.pc + 3, stack := v.toList ++ rest }) target → Steps p.tables e below (T.setTop g) target := by
  obtain ⟨mk, methM, hnamed, hmethM, hstM, habM⟩ := Cond.instanceMethod_spec hinst
  obtain ⟨m8, methM', cM, hn8, hmethM', -, -, -, -, -, -, hsigM⟩ := Cond.codeWith_spec hcode
  cases Option.some.inj (hn8.symm.trans hnamed)
  cases hmethM.symm.trans hmethM'
  obtain ⟨c2, r2, m2, q1, q2, q3, q4, kP, hkP, hkPi⟩ := Cond.selects_spec hsel
  cases hcls.symm.trans q1
  cases (State.methodFound?_of_named hnamed hy).symm.trans q2
  cases hnamed.symm.trans q3
  have hselP : selectMethod e.platform s.vm cellB.cls mk = .method mk := by rw [Launch.admits_selectMethod X.admits]; exact q4
  obtain ⟨vm₁, X₁, hstep₁⟩ := X.invokevirtual hexec hown hlink hnamed hmethM hstM hkP hkPi hy (a := b) (cell := cellB) hcell
    (fun z h => by rw [h] at hobj; cases hobj) hselP hmethM habM hkP hkPi (g := g) hg (argsL := argsL) (rest := rest) (hlen _ hsigM) hstack hdg
  obtain ⟨v, B, X', hpost, hsteps⟩ := hK m meth c ⟨T.setVm vm₁, locs, cells, slots⟩ { g with stack := rest } (.invokevirtual index) mk (Value.ref b :: argsL).toArray X₁ hg hsize hdg hW (X₁.named hnamed) (hpre vm₁ X₁.warmed)
  exact ⟨v, vm₁, B, X₁.warmed, X', hpost, fun target h => hstep₁ _ fun acts => by rw [doInvoke_state]; exact hsteps.trans h⟩
abbrev vx_CVW (R : Room) (s : State) (args : Array Value) (own C : String) (index : Nat) (y : MethodName) (bytes : ByteArray) (maxL : Nat) (ret : Option FieldType) (hh : List (Nat × Nat × Nat × Nat)) (ws : List Cond) (rm : Room) (mc ms n : Nat) : Prop :=
  (rm.cells = mc ∧ rm.slots = ms ∧ rm.frames + 1 ≤ R.frames ∧ 8 + (maxL + 11) + rm.locals ≤ R.locals ∧ (∀ w ∈ ws, ∀ (a' : Array Value) (U : State), s.WarmedH U.vm → w.before a' U = true) ∧ Cond.codeWith y bytes maxL ret hh ∈ ws) ∧
  (Cond.codeWith y bytes maxL ret hh).before args s = true ∧ (Cond.initialized y.cls).before args s = true ∧ (y.cls ≠ "java/lang/invoke/MethodHandle" ∧ y.cls ≠ "java/lang/invoke/VarHandle") ∧
  (∀ sig, parseMethodDescriptor y.desc = some sig → n = sig.parameters.length) ∧ (Cond.methodLink own index y).before args s = true ∧ (Cond.instanceMethod y).before args s = true ∧ (Cond.selects C y y).before args s = true
theorem vx_cwVW {own C : String} {index maxL mc ms : Nat} {y : MethodName} {bytes : ByteArray} {ret : Option FieldType} {hh : List (Nat × Nat × Nat × Nat)} {Ts ws ws' : List Cond} {rm : Room} (n : Nat) (ht : ∀ w ∈ Ts, w.before args s = true) (hT : GoodIn Ts (wsV own index C y ws)) (hw : ws = Cond.codeWith y bytes maxL ret hh :: ws') (hrc : rm.cells = mc) (hrs : rm.slots = ms)
    (hd : y.cls = C ∧ y.cls ≠ "java/lang/invoke/MethodHandle" ∧ y.cls ≠ "java/lang/invoke/VarHandle" ∧ (parseMethodDescriptor y.desc).map (fun d => d.parameters.length) = some n) (hR : rm.frames + 1 ≤ R.frames ∧ 8 + (maxL + 11) + rm.locals ≤ R.locals) :
    vx_CVW R s args own C index y bytes maxL ret hh ws rm mc ms n := by
  obtain ⟨hC, hd⟩ := hd
  subst hC
  have ok : ∀ w ∈ wsV own index y.cls y ws, w.before args s = true := fun w h => ht w (hT w h).1
  have hG : GoodIn Ts ws := fun w h => hT w (by unfold wsV; exact List.mem_append_right _ h)
  have hc : Cond.codeWith y bytes maxL ret hh ∈ ws := by rw [hw]; exact List.mem_cons_self
  refine ⟨⟨hrc, hrs, hR.1, hR.2, pay_in ht hG, hc⟩, ht _ (hG _ hc).1, ok _ (by simp [wsV]), ⟨hd.1, hd.2.1⟩, fun sig h => ?_, ok _ (by simp [wsV]), ok _ (by simp [wsV]), ok _ (by simp [wsV])⟩
  have h2 := hd.2.2
  rw [h] at h2
  exact (Option.some.inj h2).symm
theorem vx_runVW {y : MethodName} {bytes cc : ByteArray} {maxL nL mc ms n index : Nat} {ret : Option FieldType} {hh : List (Nat × Nat × Nat × Nat)} {ws : List Cond} {rm : Room} {Pc : Array Value → State → Prop} {Qc : Array Value → State → Outcome → State → Prop} {free : Addr → Prop} {Ts : List Cond} {own C : String} {b : Addr} {As rest : List Value} {g : JFrame}
    (S : CallFix p m c cc nL s args Ts own) (hM : Met l y ws rm Pc Qc mc ms free) (cw : vx_CVW R s args own C index y bytes maxL ret hh ws rm mc ms n) (hp : PreV s H C b Pc As)
    (hg : g.method = m) (hn : As.length = n) (hsize : g.locals.size = nL) (hstack : g.stack = As.reverse ++ .ref b :: rest) (hW : 2 * g.monitorRoom + (rest.map fun v => v.category).sum ≤ 8) (hdg : decode cc g.pc = .ok (.invokevirtual index, 3)) (hf : cells + mc ≤ R.cells ∧ slots + ms ≤ R.slots) :
    va_Run p l e R s m args below meth c H locs cells slots mc ms g rest (Qc (Value.ref b :: As).toArray) free := by
  obtain ⟨⟨hrc, hrs, hfr, hlo, hws, hcw⟩, hcode, hini, hy, hlen, hl, hin, hse⟩ := cw
  have hK : Back l R p e below s args y 3 8 (PreOf R mc ms Pc) (PostOf Qc mc ms free) := va_backW (hh := hh) (bytes := bytes) (maxL := maxL) (ret := ret) hM hp.1 hrc hrs hfr hlo hws hcw (fun a' U hW => word_at hW (Or.inl (by first | rfl | simp [Cond.onTables, Cond.keeps, Cond.steady])) hini)
  obtain ⟨hx, hb, hml, ho, -⟩ := S
  obtain ⟨-, ⟨cellB, hcB, hoB, hclB⟩, hPc⟩ := hp
  intro T hT X
  obtain ⟨v, vm₁, ⟨U', l2, c2, s2⟩, hW₁, X', ⟨g', mk, t, L, e1, e2, hq, h1, hL, h2, h3⟩, st⟩ := vx_callVW X hx (C := C) (hh := hh) (bytes := bytes) (maxL := maxL) (ret := ret) ho hl hin hse hcode hy hK (by rw [hT]; exact hcB) hoB hclB hg (hsize.trans hml.symm) (argsL := As) (rest := rest) (fun sig h => hn.trans (hlen sig h)) hstack hW (by rw [hb]; exact hdg)
    (fun vm₁ hW₁ => ⟨hf.1, hf.2, hPc (T.setVm vm₁) hT hW₁⟩)
  dsimp only [Pt.U, Pt.locs, Pt.cells, Pt.slots] at X' e1 e2 h1 h2 h3 st
  subst h1; subst h2; subst h3
  exact ⟨v, (T.setVm vm₁).calling g' mk (Value.ref b :: As).toArray, t, U', L, hT, X', hL, e1, e2, hq, st⟩
section
variable {y : MethodName} {bytes cc : ByteArray} {maxL nL mc ms n index : Nat} {ret : Option FieldType} {ws : List Cond} {rm : Room} {Pc : Array Value → State → Prop} {Qc : Array Value → State → Outcome → State → Prop} {XC : String → State → State → Prop} {free : Addr → Prop} {Ts : List Cond} {own C : String} {b : Addr} {As rest : List Value} {g : JFrame}
theorem vx_runVX {hh : List (Nat × Nat × Nat × Nat)} (S : CallFix p m c cc nL s args Ts own) (hM : vx_Met l y ws rm Pc Qc XC mc ms free) (cw : vx_CVW R s args own C index y bytes maxL ret hh ws rm mc ms n) (hp : PreV s H C b Pc As)
    (hg : g.method = m) (hn : As.length = n) (hsize : g.locals.size = nL) (hstack : g.stack = As.reverse ++ .ref b :: rest) (hW : 2 * g.monitorRoom + (rest.map fun v => v.category).sum ≤ 8) (hdg : decode cc g.pc = .ok (.invokevirtual index, 3)) (hf : cells + mc ≤ R.cells ∧ slots + ms ≤ R.slots) :
    vx_Run p l e R s m args below meth c H locs cells slots mc ms g rest (Qc (Value.ref b :: As).toArray) XC free := by
  obtain ⟨⟨hrc, hrs, hfr, hlo, hws, hcw⟩, hcode, hini, hy, hlen, hl, hin, hse⟩ := cw
  have hK : vx_Back l R p e below s args y 3 8 (PreOf R mc ms Pc) (PostOf Qc mc ms free) (vx_Post XC mc ms free) := vx_backW (hh := hh) (bytes := bytes) (maxL := maxL) (ret := ret) hM hp.1 hrc hrs hfr hlo hws hcw (fun a' U hW => word_at hW (Or.inl (by first | rfl | simp [Cond.onTables, Cond.keeps, Cond.steady])) hini)
  obtain ⟨hx, hb, hml, ho, -⟩ := S
  obtain ⟨-, ⟨cellB, hcB, hoB, hclB⟩, hPc⟩ := hp
  intro T hT X
  rcases vx_callVX X hx (C := C) (hh := hh) (bytes := bytes) (maxL := maxL) (ret := ret) ho hl hin hse hcode hy hK (by rw [hT]; exact hcB) hoB hclB hg (hsize.trans hml.symm) (argsL := As) (rest := rest) (fun sig h => hn.trans (hlen sig h)) hstack hW (by rw [hb]; exact hdg)
    (fun vm₁ hW₁ => ⟨hf.1, hf.2, hPc (T.setVm vm₁) hT hW₁⟩) with ⟨v, vm₁, ⟨U', l2, c2, s2⟩, hW₁, X', ⟨g', mk, t, L, e1, e2, hq, h1, hL, h2, h3⟩, st⟩ | ⟨q, vm₁, ⟨U', l2, c2, s2⟩, hW₁, X', ⟨g', mk, t, L, E, ce, e1, e2, hq, hce, hcv, hcl, h1, hL, h2, h3⟩, st⟩
  · dsimp only [Pt.U, Pt.locs, Pt.cells, Pt.slots] at X' e1 e2 h1 h2 h3 st
    subst h1; subst h2; subst h3
    exact Or.inl ⟨v, (T.setVm vm₁).calling g' mk (Value.ref b :: As).toArray, t, U', L, hT, X', hL, e1, e2, hq, st⟩
  · dsimp only [Pt.U, Pt.locs, Pt.cells, Pt.slots] at X' e1 e2 h1 h2 h3 st hcl
    subst h1; subst h2; subst h3
    exact Or.inr ⟨q, (T.setVm vm₁).calling g' mk (Value.ref b :: As).toArray, t, U', L, E, ce, hT, X', hL, e1, e2, hq, hce, hcv, vx_cls hW₁ hcl, st⟩
theorem vx_runSX {hh : List (Nat × Nat × Nat × Nat)} (S : CallFix p m c cc nL s args Ts own) (hM : vx_Met l y ws rm Pc Qc XC mc ms free) (cw : vx_CSW R s args own index y bytes maxL ret hh ws rm mc ms n) (hp : PreS s H Pc As)
    (hg : g.method = m) (hn : As.length = n) (hsize : g.locals.size = nL) (hstack : g.stack = As.reverse ++ rest) (hW : 2 * g.monitorRoom + (rest.map fun v => v.category).sum ≤ 8) (hdg : decode cc g.pc = .ok (.invokestatic index, 3)) (hf : cells + mc ≤ R.cells ∧ slots + ms ≤ R.slots) :
    vx_Run p l e R s m args below meth c H locs cells slots mc ms g rest (Qc As.toArray) XC free := by
  obtain ⟨⟨hrc, hrs, hfr, hlo, hws, hcw⟩, hcode, hini, hy, hlen, hl, hstt⟩ := cw
  have hK : vx_Back l R p e below s args y 3 8 (PreOf R mc ms Pc) (PostOf Qc mc ms free) (vx_Post XC mc ms free) := vx_backW (hh := hh) (bytes := bytes) (maxL := maxL) (ret := ret) hM hp.1 hrc hrs hfr hlo hws hcw (fun a' U hW => word_at hW (Or.inl (by first | rfl | simp [Cond.onTables, Cond.keeps, Cond.steady])) hini)
  obtain ⟨hx, hb, hml, ho, -⟩ := S
  intro T hT X
  rcases vx_callSX X hx (hh := hh) (bytes := bytes) (maxL := maxL) (ret := ret) ho hl hstt hini hcode hy hK hg (hsize.trans hml.symm) (argsL := As) (rest := rest) (fun sig h => hn.trans (hlen sig h)) hstack hW (by rw [hb]; exact hdg)
    (fun vm₁ hW₁ => ⟨hf.1, hf.2, hp.2 (T.setVm vm₁) hT hW₁⟩) with ⟨v, vm₁, ⟨U', l2, c2, s2⟩, hW₁, X', ⟨g', mk, t, L, e1, e2, hq, h1, hL, h2, h3⟩, st⟩ | ⟨q, vm₁, ⟨U', l2, c2, s2⟩, hW₁, X', ⟨g', mk, t, L, E, ce, e1, e2, hq, hce, hcv, hcl, h1, hL, h2, h3⟩, st⟩
  · dsimp only [Pt.U, Pt.locs, Pt.cells, Pt.slots] at X' e1 e2 h1 h2 h3 st
    subst h1; subst h2; subst h3
    exact Or.inl ⟨v, (T.setVm vm₁).calling g' mk As.toArray, t, U', L, hT, X', hL, e1, e2, hq, st⟩
  · dsimp only [Pt.U, Pt.locs, Pt.cells, Pt.slots] at X' e1 e2 h1 h2 h3 st hcl
    subst h1; subst h2; subst h3
    exact Or.inr ⟨q, (T.setVm vm₁).calling g' mk As.toArray, t, U', L, E, ce, hT, X', hL, e1, e2, hq, hce, hcv, vx_cls hW₁ hcl, st⟩
end
end VXH
theorem vx_ofWH {l : Launch} {y : MethodName} {ws ws' : List Cond} {rm : Room} {Pc : Array Value → State → Prop} {Qc : Array Value → State → Outcome → State → Prop} {XC : String → State → State → Prop} {mc ms : Nat} {free : Addr → Prop} {cc : ByteArray} {maxL : Nat} {ret : Option FieldType} {hh : List (Nat × Nat × Nat × Nat)}
    (hy : plainName y.cls = true) (hw : ws = Cond.codeWith y cc maxL ret hh :: ws')
    (body : ∀ p e s m args below meth c s₁, BodyLoose p l y (headSpec ws rm) cc maxL ret e s m args below meth c s₁ → c.maxLocals = maxL → Pc args s →
      W p l e (headSpec ws rm).room s m args below meth c s.heap [] 0 0 (vx_MQ below Qc XC args s mc ms free) (entryFrame m args maxL)) : vx_Met l y ws rm Pc Qc XC mc ms free := by
  refine MetFree.of_bodyS (code := cc) (maxLocals := maxL) (ret := ret) hy ?_ ?_
  · intro args s m h hn
    obtain ⟨m9, meth, c, hn9, h1, h2, h3, h4, -, h5, h6, -⟩ := Cond.codeWith_spec (atoms_spec (ws := ws) h _ (by rw [hw]; exact List.mem_cons_self))
    cases hn.symm.trans hn9
    exact ⟨meth, c, h1, h2, h3, h4, h5, h6⟩
  · intro p e s m args below meth c s₁ B hml hP _
    have hh0 : s₁.heap = s.heap := by rw [B.state]; rfl
    obtain ⟨t, a1, o, b1, b2, b3⟩ := body p e s m args below meth c s₁ B hml hP s₁ hh0 (Stand.of_body B)
    exact ⟨t, o, a1, b1, b2, b3⟩
/-! ===== END ===== -/
end
section
def RX0 : String := "NetMerge$History"
def TX0 : u_T := fun k => match k with
  | 0 => ("NetMerge$History", "states", "[LNetMerge$Nets;", true)
  | 1 => ("NetMerge$History", "newest", "I", false)
  | _ => ("NetMerge$History", "count", "I", false)
def tyX0 : Nat → FieldType := fun k => match k with
  | 0 => .array (.object "NetMerge$Nets")
  | 1 => .int
  | _ => .int
abbrev wsX00 : List Cond := u_ws RX0 TX0 3
theorem nmX0 : ∀ a, a < 3 → ∀ b, b < 3 → a ≠ b → (TX0 a).2.1 ≠ (TX0 b).2.1 := by decide +kernel
theorem tyX0_ok : ∀ k, k < 3 → parseFieldDescriptor (TX0 k).2.2.1 = some (tyX0 k) := by decide +kernel
abbrev cX0_init : ByteArray := prog_2_method_1_code
def yX0_init : MethodName := ⟨RX0, "<init>", "()V"⟩
abbrev cX0_clear : ByteArray := prog_2_method_2_code
def yX0_clear : MethodName := ⟨RX0, "clear", "()V"⟩
abbrev cX0_add : ByteArray := prog_2_method_3_code
def yX0_add : MethodName := ⟨RX0, "add", "(LNetMerge$Nets;)V"⟩
abbrev cX0_takeNewest : ByteArray := prog_2_method_4_code
def yX0_takeNewest : MethodName := ⟨RX0, "takeNewest", "(LNetMerge$Nets;)V"⟩
def RX1 : String := "NetMerge$Line"
def TX1 : u_T := fun k => match k with
  | 0 => ("NetMerge$Line", "bytes", "[B", true)
  | _ => ("NetMerge$Line", "length", "I", false)
def tyX1 : Nat → FieldType := fun k => match k with
  | 0 => .array .byte
  | _ => .int
abbrev wsX10 : List Cond := u_ws RX1 TX1 2
theorem nmX1 : ∀ a, a < 2 → ∀ b, b < 2 → a ≠ b → (TX1 a).2.1 ≠ (TX1 b).2.1 := by decide +kernel
theorem tyX1_ok : ∀ k, k < 2 → parseFieldDescriptor (TX1 k).2.2.1 = some (tyX1 k) := by decide +kernel
abbrev cX1_init : ByteArray := prog_3_method_1_code
def yX1_init : MethodName := ⟨RX1, "<init>", "()V"⟩
def RX2 : String := "NetMerge$Loader"
def TX2 : u_T := fun k => match k with
  | 0 => ("NetMerge$Loader", "text", "LNetMerge$Text;", true)
  | 1 => ("NetMerge$Loader", "nets", "LNetMerge$Nets;", true)
  | 2 => ("NetMerge$Loader", "error", "I", false)
  | _ => ("NetMerge$Loader", "taken", "I", false)
def tyX2 : Nat → FieldType := fun k => match k with
  | 0 => .object "NetMerge$Text"
  | 1 => .object "NetMerge$Nets"
  | 2 => .int
  | _ => .int
abbrev wsX20 : List Cond := u_ws RX2 TX2 4
theorem nmX2 : ∀ a, a < 4 → ∀ b, b < 4 → a ≠ b → (TX2 a).2.1 ≠ (TX2 b).2.1 := by decide +kernel
theorem tyX2_ok : ∀ k, k < 4 → parseFieldDescriptor (TX2 k).2.2.1 = some (tyX2 k) := by decide +kernel
abbrev cX2_init : ByteArray := prog_4_method_1_code
def yX2_init : MethodName := ⟨RX2, "<init>", "(LNetMerge$Text;LNetMerge$Nets;)V"⟩
abbrev cX2_readText : ByteArray := prog_4_method_2_code
def yX2_readText : MethodName := ⟨RX2, "readText", "()I"⟩
abbrev cX2_readHead : ByteArray := prog_4_method_3_code
def yX2_readHead : MethodName := ⟨RX2, "readHead", "()Z"⟩
abbrev cX2_readKeep : ByteArray := prog_4_method_4_code
def yX2_readKeep : MethodName := ⟨RX2, "readKeep", "()Z"⟩
abbrev cX2_readPer : ByteArray := prog_4_method_5_code
def yX2_readPer : MethodName := ⟨RX2, "readPer", "()Z"⟩
abbrev cX2_readPool : ByteArray := prog_4_method_6_code
def yX2_readPool : MethodName := ⟨RX2, "readPool", "()Z"⟩
abbrev cX2_readHost : ByteArray := prog_4_method_7_code
def yX2_readHost : MethodName := ⟨RX2, "readHost", "()Z"⟩
abbrev cX2_readRule : ByteArray := prog_4_method_8_code
def yX2_readRule : MethodName := ⟨RX2, "readRule", "()Z"⟩
abbrev cX2_takeSide : ByteArray := prog_4_method_9_code
def yX2_takeSide : MethodName := ⟨RX2, "takeSide", "()Z"⟩
abbrev cX2_readMove : ByteArray := prog_4_method_10_code
def yX2_readMove : MethodName := ⟨RX2, "readMove", "()Z"⟩
abbrev cX2_takeWord : ByteArray := prog_4_method_11_code
def yX2_takeWord : MethodName := ⟨RX2, "takeWord", "(Ljava/lang/String;)Z"⟩
abbrev cX2_takeSemicolon : ByteArray := prog_4_method_12_code
def yX2_takeSemicolon : MethodName := ⟨RX2, "takeSemicolon", "()Z"⟩
abbrev cX2_takeNumber : ByteArray := prog_4_method_13_code
def yX2_takeNumber : MethodName := ⟨RX2, "takeNumber", "(II)Z"⟩
abbrev cX2_isNumber : ByteArray := prog_4_method_14_code
def yX2_isNumber : MethodName := ⟨RX2, "isNumber", "(II)Z"⟩
abbrev cX2_fail : ByteArray := prog_4_method_15_code
def yX2_fail : MethodName := ⟨RX2, "fail", "(I)Z"⟩
def RX3 : String := "NetMerge$Nets"
def TX3 : u_T := fun k => match k with
  | 0 => ("NetMerge$Nets", "hostCount", "I", false)
  | 1 => ("NetMerge$Nets", "ruleCount", "I", false)
  | 2 => ("NetMerge$Nets", "waveCount", "I", false)
  | 3 => ("NetMerge$Nets", "keep", "I", false)
  | 4 => ("NetMerge$Nets", "per", "I", false)
  | 5 => ("NetMerge$Nets", "poolFirst", "I", false)
  | 6 => ("NetMerge$Nets", "poolLast", "I", false)
  | 7 => ("NetMerge$Nets", "bridged", "Z", false)
  | 8 => ("NetMerge$Nets", "name", "[J", true)
  | 9 => ("NetMerge$Nets", "office", "[I", true)
  | 10 => ("NetMerge$Nets", "number", "[I", true)
  | 11 => ("NetMerge$Nets", "pinned", "[I", true)
  | 12 => ("NetMerge$Nets", "planNumber", "[I", true)
  | 13 => ("NetMerge$Nets", "planWave", "[I", true)
  | 14 => ("NetMerge$Nets", "latestMove", "[I", true)
  | 15 => ("NetMerge$Nets", "movedFrom", "[I", true)
  | 16 => ("NetMerge$Nets", "ruleOffice", "[I", true)
  | 17 => ("NetMerge$Nets", "ruleAllows", "[I", true)
  | 18 => ("NetMerge$Nets", "ruleFirst", "[I", true)
  | _ => ("NetMerge$Nets", "ruleSecond", "[I", true)
def tyX3 : Nat → FieldType := fun k => match k with
  | 0 => .int
  | 1 => .int
  | 2 => .int
  | 3 => .int
  | 4 => .int
  | 5 => .int
  | 6 => .int
  | 7 => .boolean
  | 8 => .array .long
  | 9 => .array .int
  | 10 => .array .int
  | 11 => .array .int
  | 12 => .array .int
  | 13 => .array .int
  | 14 => .array .int
  | 15 => .array .int
  | 16 => .array .int
  | 17 => .array .int
  | 18 => .array .int
  | _ => .array .int
abbrev wsX30 : List Cond := u_ws RX3 TX3 20
theorem nmX3 : ∀ a, a < 20 → ∀ b, b < 20 → a ≠ b → (TX3 a).2.1 ≠ (TX3 b).2.1 := by decide +kernel
theorem tyX3_ok : ∀ k, k < 20 → parseFieldDescriptor (TX3 k).2.2.1 = some (tyX3 k) := by decide +kernel
abbrev cX3_init : ByteArray := prog_5_method_1_code
def yX3_init : MethodName := ⟨RX3, "<init>", "()V"⟩
abbrev cX3_clear : ByteArray := prog_5_method_2_code
def yX3_clear : MethodName := ⟨RX3, "clear", "()V"⟩
abbrev cX3_copyFrom : ByteArray := prog_5_method_3_code
def yX3_copyFrom : MethodName := ⟨RX3, "copyFrom", "(LNetMerge$Nets;)V"⟩
abbrev cX3_appendHost : ByteArray := prog_5_method_4_code
def yX3_appendHost : MethodName := ⟨RX3, "appendHost", "(JII)I"⟩
abbrev cX3_dropHost : ByteArray := prog_5_method_5_code
def yX3_dropHost : MethodName := ⟨RX3, "dropHost", "(I)V"⟩
abbrev cX3_appendRule : ByteArray := prog_5_method_6_code
def yX3_appendRule : MethodName := ⟨RX3, "appendRule", "(IZII)I"⟩
abbrev cX3_dropRule : ByteArray := prog_5_method_7_code
def yX3_dropRule : MethodName := ⟨RX3, "dropRule", "(I)V"⟩
abbrev cX3_setPlan : ByteArray := prog_5_method_8_code
def yX3_setPlan : MethodName := ⟨RX3, "setPlan", "(III)V"⟩
abbrev cX3_planCount : ByteArray := prog_5_method_9_code
def yX3_planCount : MethodName := ⟨RX3, "planCount", "()I"⟩
abbrev cX3_plansIn : ByteArray := prog_5_method_10_code
def yX3_plansIn : MethodName := ⟨RX3, "plansIn", "(I)I"⟩
abbrev cX3_keeperCount : ByteArray := prog_5_method_11_code
def yX3_keeperCount : MethodName := ⟨RX3, "keeperCount", "()I"⟩
abbrev cX3_hostsOfOffice : ByteArray := prog_5_method_13_code
def yX3_hostsOfOffice : MethodName := ⟨RX3, "hostsOfOffice", "(I)I"⟩
abbrev cX3_firstWaveWithRoom : ByteArray := prog_5_method_14_code
def yX3_firstWaveWithRoom : MethodName := ⟨RX3, "firstWaveWithRoom", "()I"⟩
abbrev cX3_keptBy : ByteArray := prog_5_method_15_code
def yX3_keptBy : MethodName := ⟨RX3, "keptBy", "(I)I"⟩
abbrev cX3_numberAhead : ByteArray := prog_5_method_16_code
def yX3_numberAhead : MethodName := ⟨RX3, "numberAhead", "(II)I"⟩
abbrev cX3_keepsAt : ByteArray := prog_5_method_17_code
def yX3_keepsAt : MethodName := ⟨RX3, "keepsAt", "(II)Z"⟩
abbrev cX3_hostNamed : ByteArray := prog_5_method_18_code
def yX3_hostNamed : MethodName := ⟨RX3, "hostNamed", "(J)I"⟩
abbrev cX3_holderInOffice : ByteArray := prog_5_method_19_code
def yX3_holderInOffice : MethodName := ⟨RX3, "holderInOffice", "(II)I"⟩
abbrev cX3_holderInNet : ByteArray := prog_5_method_20_code
def yX3_holderInNet : MethodName := ⟨RX3, "holderInNet", "(II)I"⟩
abbrev cX3_numberedInNet : ByteArray := prog_5_method_21_code
def yX3_numberedInNet : MethodName := ⟨RX3, "numberedInNet", "(II)I"⟩
abbrev cX3_inNet : ByteArray := prog_5_method_22_code
def yX3_inNet : MethodName := ⟨RX3, "inNet", "(II)Z"⟩
abbrev cX3_chosenToMove : ByteArray := prog_5_method_23_code
def yX3_chosenToMove : MethodName := ⟨RX3, "chosenToMove", "(I)I"⟩
abbrev cX3_movableWith : ByteArray := prog_5_method_24_code
def yX3_movableWith : MethodName := ⟨RX3, "movableWith", "(II)I"⟩
abbrev cX3_keeperWouldMove : ByteArray := prog_5_method_31_code
def yX3_keeperWouldMove : MethodName := ⟨RX3, "keeperWouldMove", "()Z"⟩
abbrev cX3_doWave : ByteArray := prog_5_method_32_code
def yX3_doWave : MethodName := ⟨RX3, "doWave", "()I"⟩
abbrev cX3_sideBehindWave : ByteArray := prog_5_method_33_code
def yX3_sideBehindWave : MethodName := ⟨RX3, "sideBehindWave", "(II)I"⟩
abbrev cX3_undoWave : ByteArray := prog_5_method_34_code
def yX3_undoWave : MethodName := ⟨RX3, "undoWave", "()V"⟩
abbrev cX3_sideAheadOfWave : ByteArray := prog_5_method_35_code
def yX3_sideAheadOfWave : MethodName := ⟨RX3, "sideAheadOfWave", "(II)I"⟩
abbrev cX3_undoMove : ByteArray := prog_5_method_36_code
def yX3_undoMove : MethodName := ⟨RX3, "undoMove", "(I)V"⟩
def RX4 : String := "NetMerge$Query"
def TX4 : u_T := fun k => match k with
  | 0 => ("NetMerge$Query", "text", "LNetMerge$Text;", true)
  | 1 => ("NetMerge$Query", "steps", "[I", true)
  | 2 => ("NetMerge$Query", "stepCount", "I", false)
  | 3 => ("NetMerge$Query", "many", "Z", false)
  | 4 => ("NetMerge$Query", "error", "I", false)
  | 5 => ("NetMerge$Query", "sets", "[J", true)
  | 6 => ("NetMerge$Query", "setCount", "I", false)
  | 7 => ("NetMerge$Query", "reaches", "[I", true)
  | _ => ("NetMerge$Query", "reachesKnown", "Z", false)
def tyX4 : Nat → FieldType := fun k => match k with
  | 0 => .object "NetMerge$Text"
  | 1 => .array .int
  | 2 => .int
  | 3 => .boolean
  | 4 => .int
  | 5 => .array .long
  | 6 => .int
  | 7 => .array .int
  | _ => .boolean
abbrev wsX40 : List Cond := u_ws RX4 TX4 9
theorem nmX4 : ∀ a, a < 9 → ∀ b, b < 9 → a ≠ b → (TX4 a).2.1 ≠ (TX4 b).2.1 := by decide +kernel
theorem tyX4_ok : ∀ k, k < 9 → parseFieldDescriptor (TX4 k).2.2.1 = some (tyX4 k) := by decide +kernel
abbrev cX4_init : ByteArray := prog_6_method_1_code
def yX4_init : MethodName := ⟨RX4, "<init>", "(LNetMerge$Text;)V"⟩
def RX5 : String := "NetMerge$Tally"
def TX5 : u_T := fun k => match k with
  | 0 => ("NetMerge$Tally", "heldIn0", "[I", true)
  | 1 => ("NetMerge$Tally", "heldIn1", "[I", true)
  | _ => ("NetMerge$Tally", "planned", "[I", true)
def tyX5 : Nat → FieldType := fun k => match k with
  | 0 => .array .int
  | 1 => .array .int
  | _ => .array .int
abbrev wsX50 : List Cond := u_ws RX5 TX5 3
theorem nmX5 : ∀ a, a < 3 → ∀ b, b < 3 → a ≠ b → (TX5 a).2.1 ≠ (TX5 b).2.1 := by decide +kernel
theorem tyX5_ok : ∀ k, k < 3 → parseFieldDescriptor (TX5 k).2.2.1 = some (tyX5 k) := by decide +kernel
abbrev cX5_init : ByteArray := prog_7_method_1_code
def yX5_init : MethodName := ⟨RX5, "<init>", "()V"⟩
abbrev cX5_count : ByteArray := prog_7_method_2_code
def yX5_count : MethodName := ⟨RX5, "count", "(LNetMerge$Nets;)V"⟩
abbrev cX5_countPlan : ByteArray := prog_7_method_3_code
def yX5_countPlan : MethodName := ⟨RX5, "countPlan", "(I)V"⟩
abbrev cX5_addOne : ByteArray := prog_7_method_4_code
def yX5_addOne : MethodName := ⟨RX5, "addOne", "([II)V"⟩
abbrev cX5_isClash : ByteArray := prog_7_method_5_code
def yX5_isClash : MethodName := ⟨RX5, "isClash", "(I)Z"⟩
abbrev cX5_clashes : ByteArray := prog_7_method_6_code
def yX5_clashes : MethodName := ⟨RX5, "clashes", "()I"⟩
abbrev cX5_clashAt : ByteArray := prog_7_method_7_code
def yX5_clashAt : MethodName := ⟨RX5, "clashAt", "(I)I"⟩
abbrev cX5_smallestTwice : ByteArray := prog_7_method_8_code
def yX5_smallestTwice : MethodName := ⟨RX5, "smallestTwice", "(Z)I"⟩
abbrev cX5_smallestFree : ByteArray := prog_7_method_9_code
def yX5_smallestFree : MethodName := ⟨RX5, "smallestFree", "(II)I"⟩
def RX6 : String := "NetMerge$Text"
def TX6 : u_T := fun k => match k with
  | 0 => ("NetMerge$Text", "bytes", "[B", true)
  | 1 => ("NetMerge$Text", "filled", "I", false)
  | 2 => ("NetMerge$Text", "length", "I", false)
  | 3 => ("NetMerge$Text", "at", "I", false)
  | 4 => ("NetMerge$Text", "kind", "I", false)
  | 5 => ("NetMerge$Text", "start", "I", false)
  | _ => ("NetMerge$Text", "number", "I", false)
def tyX6 : Nat → FieldType := fun k => match k with
  | 0 => .array .byte
  | 1 => .int
  | 2 => .int
  | 3 => .int
  | 4 => .int
  | 5 => .int
  | _ => .int
abbrev wsX60 : List Cond := u_ws RX6 TX6 7
theorem nmX6 : ∀ a, a < 7 → ∀ b, b < 7 → a ≠ b → (TX6 a).2.1 ≠ (TX6 b).2.1 := by decide +kernel
theorem tyX6_ok : ∀ k, k < 7 → parseFieldDescriptor (TX6 k).2.2.1 = some (tyX6 k) := by decide +kernel
abbrev cX6_init : ByteArray := prog_8_method_1_code
def yX6_init : MethodName := ⟨RX6, "<init>", "()V"⟩
abbrev cX6_append : ByteArray := prog_8_method_2_code
def yX6_append : MethodName := ⟨RX6, "append", "(I)V"⟩
abbrev cX6_begin : ByteArray := prog_8_method_3_code
def yX6_begin : MethodName := ⟨RX6, "begin", "(I)V"⟩
abbrev cX6_advance : ByteArray := prog_8_method_4_code
def yX6_advance : MethodName := ⟨RX6, "advance", "()V"⟩
abbrev cX6_isLetter : ByteArray := prog_8_method_5_code
def yX6_isLetter : MethodName := ⟨RX6, "isLetter", "(I)Z"⟩
abbrev cX6_isDigit : ByteArray := prog_8_method_6_code
def yX6_isDigit : MethodName := ⟨RX6, "isDigit", "(I)Z"⟩
abbrev cX6_isSign : ByteArray := prog_8_method_7_code
def yX6_isSign : MethodName := ⟨RX6, "isSign", "(I)Z"⟩
abbrev cX6_isWord : ByteArray := prog_8_method_8_code
def yX6_isWord : MethodName := ⟨RX6, "isWord", "(Ljava/lang/String;)Z"⟩
abbrev cX6_letters : ByteArray := prog_8_method_9_code
def yX6_letters : MethodName := ⟨RX6, "letters", "()I"⟩
abbrev cX6_asName : ByteArray := prog_8_method_10_code
def yX6_asName : MethodName := ⟨RX6, "asName", "()J"⟩
def RX7 : String := "NetMerge"
def TX7 : u_T := fun k => match k with
  | 0 => ("NetMerge", "now", "LNetMerge$Nets;", true)
  | 1 => ("NetMerge", "trial", "LNetMerge$Nets;", true)
  | 2 => ("NetMerge", "saved", "LNetMerge$Nets;", true)
  | 3 => ("NetMerge", "hasSaved", "Z", false)
  | 4 => ("NetMerge", "history", "LNetMerge$History;", true)
  | 5 => ("NetMerge", "tally", "LNetMerge$Tally;", true)
  | 6 => ("NetMerge", "text", "LNetMerge$Text;", true)
  | 7 => ("NetMerge", "loader", "LNetMerge$Loader;", true)
  | 8 => ("NetMerge", "asked", "LNetMerge$Query;", true)
  | 9 => ("NetMerge", "line", "LNetMerge$Line;", true)
  | _ => ("NetMerge", "errorAt", "I", false)
def tyX7 : Nat → FieldType := fun k => match k with
  | 0 => .object "NetMerge$Nets"
  | 1 => .object "NetMerge$Nets"
  | 2 => .object "NetMerge$Nets"
  | 3 => .boolean
  | 4 => .object "NetMerge$History"
  | 5 => .object "NetMerge$Tally"
  | 6 => .object "NetMerge$Text"
  | 7 => .object "NetMerge$Loader"
  | 8 => .object "NetMerge$Query"
  | 9 => .object "NetMerge$Line"
  | _ => .int
abbrev wsX70 : List Cond := u_ws RX7 TX7 11
theorem nmX7 : ∀ a, a < 11 → ∀ b, b < 11 → a ≠ b → (TX7 a).2.1 ≠ (TX7 b).2.1 := by decide +kernel
theorem tyX7_ok : ∀ k, k < 11 → parseFieldDescriptor (TX7 k).2.2.1 = some (tyX7 k) := by decide +kernel
abbrev cX7_init : ByteArray := prog_1_method_1_code
def yX7_init : MethodName := ⟨RX7, "<init>", "()V"⟩
abbrev cX7_feed : ByteArray := prog_1_method_2_code
def yX7_feed : MethodName := ⟨RX7, "feed", "(IIIII)I"⟩
abbrev cX7_load : ByteArray := prog_1_method_3_code
def yX7_load : MethodName := ⟨RX7, "load", "(I)I"⟩
abbrev cX7_errorPosition : ByteArray := prog_1_method_4_code
def yX7_errorPosition : MethodName := ⟨RX7, "errorPosition", "()I"⟩
abbrev cX7_size : ByteArray := prog_1_method_5_code
def yX7_size : MethodName := ⟨RX7, "size", "(I)I"⟩
abbrev cX7_host : ByteArray := prog_1_method_6_code
def yX7_host : MethodName := ⟨RX7, "host", "(II)I"⟩
abbrev cX7_holder : ByteArray := prog_1_method_8_code
def yX7_holder : MethodName := ⟨RX7, "holder", "(II)I"⟩
abbrev cX7_clash : ByteArray := prog_1_method_9_code
def yX7_clash : MethodName := ⟨RX7, "clash", "(I)I"⟩
abbrev cX7_plans : ByteArray := prog_1_method_10_code
def yX7_plans : MethodName := ⟨RX7, "plans", "(I)I"⟩
abbrev cX7_whyNot : ByteArray := prog_1_method_16_code
def yX7_whyNot : MethodName := ⟨RX7, "whyNot", "()I"⟩
abbrev cX7_addHost : ByteArray := prog_1_method_23_code
def yX7_addHost : MethodName := ⟨RX7, "addHost", "(II)I"⟩
abbrev cX7_removeHost : ByteArray := prog_1_method_24_code
def yX7_removeHost : MethodName := ⟨RX7, "removeHost", "(I)I"⟩
abbrev cX7_plan : ByteArray := prog_1_method_25_code
def yX7_plan : MethodName := ⟨RX7, "plan", "(III)I"⟩
abbrev cX7_unplan : ByteArray := prog_1_method_26_code
def yX7_unplan : MethodName := ⟨RX7, "unplan", "(I)I"⟩
abbrev cX7_settle : ByteArray := prog_1_method_27_code
def yX7_settle : MethodName := ⟨RX7, "settle", "()I"⟩
abbrev cX7_wave : ByteArray := prog_1_method_28_code
def yX7_wave : MethodName := ⟨RX7, "wave", "()I"⟩
abbrev cX7_back : ByteArray := prog_1_method_29_code
def yX7_back : MethodName := ⟨RX7, "back", "()I"⟩
abbrev cX7_open : ByteArray := prog_1_method_30_code
def yX7_open : MethodName := ⟨RX7, "open", "()I"⟩
abbrev cX7_close : ByteArray := prog_1_method_31_code
def yX7_close : MethodName := ⟨RX7, "close", "()I"⟩
abbrev cX7_addRule : ByteArray := prog_1_method_32_code
def yX7_addRule : MethodName := ⟨RX7, "addRule", "(IZII)I"⟩
abbrev cX7_removeRule : ByteArray := prog_1_method_33_code
def yX7_removeRule : MethodName := ⟨RX7, "removeRule", "(I)I"⟩
abbrev cX7_setKeep : ByteArray := prog_1_method_34_code
def yX7_setKeep : MethodName := ⟨RX7, "setKeep", "(I)I"⟩
abbrev cX7_setPinned : ByteArray := prog_1_method_35_code
def yX7_setPinned : MethodName := ⟨RX7, "setPinned", "(IZ)I"⟩
abbrev cX7_undo : ByteArray := prog_1_method_39_code
def yX7_undo : MethodName := ⟨RX7, "undo", "()I"⟩
abbrev cX7_needHost : ByteArray := prog_1_method_43_code
def yX7_needHost : MethodName := ⟨RX7, "needHost", "(I)V"⟩
abbrev cX7_needRule : ByteArray := prog_1_method_44_code
def yX7_needRule : MethodName := ⟨RX7, "needRule", "(I)V"⟩
abbrev cX7_needOffice : ByteArray := prog_1_method_45_code
def yX7_needOffice : MethodName := ⟨RX7, "needOffice", "(I)V"⟩
abbrev cX7_needNumber : ByteArray := prog_1_method_46_code
def yX7_needNumber : MethodName := ⟨RX7, "needNumber", "(I)V"⟩
abbrev cX7_needSide : ByteArray := prog_1_method_47_code
def yX7_needSide : MethodName := ⟨RX7, "needSide", "(I)V"⟩
abbrev cX7_needWave : ByteArray := prog_1_method_48_code
def yX7_needWave : MethodName := ⟨RX7, "needWave", "(I)V"⟩
abbrev cX7_clashCount : ByteArray := prog_1_method_51_code
def yX7_clashCount : MethodName := ⟨RX7, "clashCount", "(LNetMerge$Nets;)I"⟩
abbrev cX7_heldTwice : ByteArray := prog_1_method_52_code
def yX7_heldTwice : MethodName := ⟨RX7, "heldTwice", "(LNetMerge$Nets;)I"⟩
abbrev cX7_tryWave : ByteArray := prog_1_method_53_code
def yX7_tryWave : MethodName := ⟨RX7, "tryWave", "()I"⟩
abbrev cX7_adoptTrial : ByteArray := prog_1_method_54_code
def yX7_adoptTrial : MethodName := ⟨RX7, "adoptTrial", "()V"⟩
def RX8 : String := "NetMergeModel"
def TX8 : u_T := fun k => match k with
  | _ => ("", "", "", false)
def tyX8 : Nat → FieldType := fun k => match k with
  | _ => .int
abbrev wsX80 : List Cond := u_ws RX8 TX8 0
theorem nmX8 : ∀ a, a < 0 → ∀ b, b < 0 → a ≠ b → (TX8 a).2.1 ≠ (TX8 b).2.1 := by decide +kernel
theorem tyX8_ok : ∀ k, k < 0 → parseFieldDescriptor (TX8 k).2.2.1 = some (tyX8 k) := by decide +kernel
def RJx145de : String := "java/io/Serializable"
def TJx145de : u_T := fun k => match k with
  | _ => ("", "", "", false)
def tyJx145de : Nat → FieldType := fun k => match k with
  | _ => .int
theorem nmJx145de : ∀ a, a < 0 → ∀ b, b < 0 → a ≠ b → (TJx145de a).2.1 ≠ (TJx145de b).2.1 := by decide +kernel
theorem tyJx145de_ok : ∀ k, k < 0 → parseFieldDescriptor (TJx145de k).2.2.1 = some (tyJx145de k) := by decide +kernel
def RJx9f9b0 : String := "java/lang/CharSequence"
def TJx9f9b0 : u_T := fun k => match k with
  | _ => ("", "", "", false)
def tyJx9f9b0 : Nat → FieldType := fun k => match k with
  | _ => .int
theorem nmJx9f9b0 : ∀ a, a < 0 → ∀ b, b < 0 → a ≠ b → (TJx9f9b0 a).2.1 ≠ (TJx9f9b0 b).2.1 := by decide +kernel
theorem tyJx9f9b0_ok : ∀ k, k < 0 → parseFieldDescriptor (TJx9f9b0 k).2.2.1 = some (tyJx9f9b0 k) := by decide +kernel
def RJxb160c : String := "java/lang/Comparable"
def TJxb160c : u_T := fun k => match k with
  | _ => ("", "", "", false)
def tyJxb160c : Nat → FieldType := fun k => match k with
  | _ => .int
theorem nmJxb160c : ∀ a, a < 0 → ∀ b, b < 0 → a ≠ b → (TJxb160c a).2.1 ≠ (TJxb160c b).2.1 := by decide +kernel
theorem tyJxb160c_ok : ∀ k, k < 0 → parseFieldDescriptor (TJxb160c k).2.2.1 = some (tyJxb160c k) := by decide +kernel
def RJ9 : String := "java/lang/Math"
def TJ9 : u_T := fun k => match k with
  | _ => ("", "", "", false)
def tyJ9 : Nat → FieldType := fun k => match k with
  | _ => .int
theorem nmJ9 : ∀ a, a < 0 → ∀ b, b < 0 → a ≠ b → (TJ9 a).2.1 ≠ (TJ9 b).2.1 := by decide +kernel
theorem tyJ9_ok : ∀ k, k < 0 → parseFieldDescriptor (TJ9 k).2.2.1 = some (tyJ9 k) := by decide +kernel
abbrev cJ9_max_7cf53 : ByteArray := prog_16_method_65_code
def yJ9_max_7cf53 : MethodName := ⟨RJ9, "max", "(II)I"⟩
abbrev cJ9_min_7cf53 : ByteArray := prog_16_method_69_code
def yJ9_min_7cf53 : MethodName := ⟨RJ9, "min", "(II)I"⟩
def RJ0 : String := "java/lang/String"
def TJ0 : u_T := fun k => match k with
  | _ => ("", "", "", false)
def tyJ0 : Nat → FieldType := fun k => match k with
  | _ => .int
theorem nmJ0 : ∀ a, a < 0 → ∀ b, b < 0 → a ≠ b → (TJ0 a).2.1 ≠ (TJ0 b).2.1 := by decide +kernel
theorem tyJ0_ok : ∀ k, k < 0 → parseFieldDescriptor (TJ0 k).2.2.1 = some (tyJ0 k) := by decide +kernel
abbrev cJ0_length_8abf5 : ByteArray := prog_18_method_54_code
def yJ0_length_8abf5 : MethodName := ⟨RJ0, "length", "()I"⟩
abbrev cJ0_charAt_5068e : ByteArray := prog_18_method_56_code
def yJ0_charAt_5068e : MethodName := ⟨RJ0, "charAt", "(I)C"⟩
abbrev cJ0_coder_7d493 : ByteArray := prog_18_method_152_code
def yJ0_coder_7d493 : MethodName := ⟨RJ0, "coder", "()B"⟩
abbrev cJ0_isLatin1_aae02 : ByteArray := prog_18_method_154_code
def yJ0_isLatin1_aae02 : MethodName := ⟨RJ0, "isLatin1", "()Z"⟩
abbrev cJ0_checkIndex_df160 : ByteArray := prog_18_method_155_code
def yJ0_checkIndex_df160 : MethodName := ⟨RJ0, "checkIndex", "(II)V"⟩
def RJ1 : String := "java/lang/StringLatin1"
def TJ1 : u_T := fun k => match k with
  | _ => ("", "", "", false)
def tyJ1 : Nat → FieldType := fun k => match k with
  | _ => .int
theorem nmJ1 : ∀ a, a < 0 → ∀ b, b < 0 → a ≠ b → (TJ1 a).2.1 ≠ (TJ1 b).2.1 := by decide +kernel
theorem tyJ1_ok : ∀ k, k < 0 → parseFieldDescriptor (TJ1 k).2.2.1 = some (tyJ1 k) := by decide +kernel
abbrev cJ1_charAt_3b067 : ByteArray := prog_19_method_2_code
def yJ1_charAt_3b067 : MethodName := ⟨RJ1, "charAt", "([BI)C"⟩
def RJ2 : String := "java/lang/StringUTF16"
def TJ2 : u_T := fun k => match k with
  | _ => ("", "", "", false)
def tyJ2 : Nat → FieldType := fun k => match k with
  | _ => .int
theorem nmJ2 : ∀ a, a < 0 → ∀ b, b < 0 → a ≠ b → (TJ2 a).2.1 ≠ (TJ2 b).2.1 := by decide +kernel
theorem tyJ2_ok : ∀ k, k < 0 → parseFieldDescriptor (TJ2 k).2.2.1 = some (tyJ2 k) := by decide +kernel
abbrev cJ2_getChar_3b067 : ByteArray := prog_20_method_5_code
def yJ2_getChar_3b067 : MethodName := ⟨RJ2, "getChar", "([BI)C"⟩
abbrev cJ2_length_9d52b : ByteArray := prog_20_method_6_code
def yJ2_length_9d52b : MethodName := ⟨RJ2, "length", "([B)I"⟩
abbrev cJ2_charAt_3b067 : ByteArray := prog_20_method_83_code
def yJ2_charAt_3b067 : MethodName := ⟨RJ2, "charAt", "([BI)C"⟩
abbrev cJ2_checkIndex_2214a : ByteArray := prog_20_method_91_code
def yJ2_checkIndex_2214a : MethodName := ⟨RJ2, "checkIndex", "(I[B)V"⟩
def RJ10 : String := "java/lang/System"
def TJ10 : u_T := fun k => match k with
  | _ => ("", "", "", false)
def tyJ10 : Nat → FieldType := fun k => match k with
  | _ => .int
theorem nmJ10 : ∀ a, a < 0 → ∀ b, b < 0 → a ≠ b → (TJ10 a).2.1 ≠ (TJ10 b).2.1 := by decide +kernel
theorem tyJ10_ok : ∀ k, k < 0 → parseFieldDescriptor (TJ10 k).2.2.1 = some (tyJ10 k) := by decide +kernel
def RJxfd54e : String := "java/lang/constant/Constable"
def TJxfd54e : u_T := fun k => match k with
  | _ => ("", "", "", false)
def tyJxfd54e : Nat → FieldType := fun k => match k with
  | _ => .int
theorem nmJxfd54e : ∀ a, a < 0 → ∀ b, b < 0 → a ≠ b → (TJxfd54e a).2.1 ≠ (TJxfd54e b).2.1 := by decide +kernel
theorem tyJxfd54e_ok : ∀ k, k < 0 → parseFieldDescriptor (TJxfd54e k).2.2.1 = some (tyJxfd54e k) := by decide +kernel
def RJx3cf43 : String := "java/lang/constant/ConstantDesc"
def TJx3cf43 : u_T := fun k => match k with
  | _ => ("", "", "", false)
def tyJx3cf43 : Nat → FieldType := fun k => match k with
  | _ => .int
theorem nmJx3cf43 : ∀ a, a < 0 → ∀ b, b < 0 → a ≠ b → (TJx3cf43 a).2.1 ≠ (TJx3cf43 b).2.1 := by decide +kernel
theorem tyJx3cf43_ok : ∀ k, k < 0 → parseFieldDescriptor (TJx3cf43 k).2.2.1 = some (tyJx3cf43 k) := by decide +kernel
def RJ7 : String := "java/util/Arrays"
def TJ7 : u_T := fun k => match k with
  | _ => ("", "", "", false)
def tyJ7 : Nat → FieldType := fun k => match k with
  | _ => .int
theorem nmJ7 : ∀ a, a < 0 → ∀ b, b < 0 → a ≠ b → (TJ7 a).2.1 ≠ (TJ7 b).2.1 := by decide +kernel
theorem tyJ7_ok : ∀ k, k < 0 → parseFieldDescriptor (TJ7 k).2.2.1 = some (tyJ7 k) := by decide +kernel
abbrev cJ7_fill_53178 : ByteArray := prog_25_method_103_code
def yJ7_fill_53178 : MethodName := ⟨RJ7, "fill", "([II)V"⟩
def RJ3 : String := "jdk/internal/util/Preconditions"
def TJ3 : u_T := fun k => match k with
  | _ => ("", "", "", false)
def tyJ3 : Nat → FieldType := fun k => match k with
  | _ => .int
theorem nmJ3 : ∀ a, a < 0 → ∀ b, b < 0 → a ≠ b → (TJ3 a).2.1 ≠ (TJ3 b).2.1 := by decide +kernel
theorem tyJ3_ok : ∀ k, k < 0 → parseFieldDescriptor (TJ3 k).2.2.1 = some (tyJ3 k) := by decide +kernel
abbrev cJ3_checkIndex_8e157 : ByteArray := prog_27_method_11_code
def yJ3_checkIndex_8e157 : MethodName := ⟨RJ3, "checkIndex", "(IILjava/util/function/BiFunction;)I"⟩
def RL : String := "NetMergeLaw"
def TL : u_T := fun k => match k with
  | 0 => ("NetMergeLaw", "text", "[I", true)
  | _ => ("NetMergeLaw", "size", "I", false)
def tyL : Nat → FieldType := fun k => match k with
  | 0 => .array .int
  | _ => .int
theorem nmL : ∀ a, a < 2 → ∀ b, b < 2 → a ≠ b → (TL a).2.1 ≠ (TL b).2.1 := by decide +kernel
theorem tyL_ok : ∀ k, k < 2 → parseFieldDescriptor (TL k).2.2.1 = some (tyL k) := by decide +kernel
abbrev cL_init : ByteArray := method_1_code
def yL_init : MethodName := ⟨RL, "<init>", "()V"⟩
abbrev cL_writes : ByteArray := method_2_code
def yL_writes : MethodName := ⟨RL, "writes", "(Ljava/lang/String;)V"⟩
abbrev cL_spaced : ByteArray := method_3_code
def yL_spaced : MethodName := ⟨RL, "spaced", "(I)V"⟩
abbrev cL_cell : ByteArray := method_4_code
def yL_cell : MethodName := ⟨RL, "cell", "([II)I"⟩
abbrev cL_feeds : ByteArray := method_5_code
def yL_feeds : MethodName := ⟨RL, "feeds", "(LNetMerge;)I"⟩
abbrev cL_letter : ByteArray := method_6_code
def yL_letter : MethodName := ⟨RL, "letter", "(I)V"⟩
abbrev cL_loads : ByteArray := method_7_code
def yL_loads : MethodName := ⟨RL, "loads", "(LNetMerge;[I)Z"⟩
abbrev cL_acts : ByteArray := method_8_code
def yL_acts : MethodName := ⟨RL, "acts", "(LNetMerge;I)I"⟩
abbrev cL_holds : ByteArray := method_9_code
def yL_holds : MethodName := ⟨RL, "holds", "(LNetMerge;II)Z"⟩
abbrev cL_areOfNet : ByteArray := method_10_code
def yL_areOfNet : MethodName := ⟨RL, "areOfNet", "(LNetMerge;II)Z"⟩
abbrev cL_law : ByteArray := code
def yL_law : MethodName := ⟨RL, "law", "([I)Z"⟩
abbrev cL_holds_ : ByteArray := method_12_code
def yL_holds_ : MethodName := ⟨RL, "holds", "(LNetMerge;[I)Z"⟩
abbrev cL_isRight : ByteArray := method_13_code
def yL_isRight : MethodName := ⟨RL, "isRight", "(LNetMerge;)Z"⟩
abbrev cL_isClashes : ByteArray := method_14_code
def yL_isClashes : MethodName := ⟨RL, "isClashes", "(LNetMerge;)Z"⟩
abbrev cL_isWave : ByteArray := method_15_code
def yL_isWave : MethodName := ⟨RL, "isWave", "(LNetMerge;)Z"⟩
abbrev vwCl : List vw_C := [(RX0, TX0, 3), (RX1, TX1, 2), (RX2, TX2, 4), (RX3, TX3, 20), (RX4, TX4, 9), (RX5, TX5, 3), (RX6, TX6, 7), (RX7, TX7, 11), (RL, TL, 2)]
end
section
theorem dX0_init_0 : decode cX0_init 0 = .ok (.aload_n 0, 1) := by decide +kernel
theorem dX0_init_1 : decode cX0_init 1 = .ok (.invokespecial 3, 3) := by decide +kernel
theorem dX0_init_4 : decode cX0_init 4 = .ok (.aload_n 0, 1) := by decide +kernel
theorem dX0_init_5 : decode cX0_init 5 = .ok (.bipush 10, 2) := by decide +kernel
theorem dX0_init_7 : decode cX0_init 7 = .ok (.anewarray 9, 3) := by decide +kernel
theorem dX0_init_10 : decode cX0_init 10 = .ok (.putfield 11, 3) := by decide +kernel
theorem dX0_init_13 : decode cX0_init 13 = .ok (.iconst 0, 1) := by decide +kernel
theorem dX0_init_14 : decode cX0_init 14 = .ok (.istore_n 1, 1) := by decide +kernel
theorem dX0_init_15 : decode cX0_init 15 = .ok (.iload_n 1, 1) := by decide +kernel
theorem dX0_init_16 : decode cX0_init 16 = .ok (.bipush 10, 2) := by decide +kernel
theorem dX0_init_18 : decode cX0_init 18 = .ok (.if_icmp .ge 22, 3) := by decide +kernel
theorem dX0_init_21 : decode cX0_init 21 = .ok (.aload_n 0, 1) := by decide +kernel
theorem dX0_init_22 : decode cX0_init 22 = .ok (.getfield 11, 3) := by decide +kernel
theorem dX0_init_25 : decode cX0_init 25 = .ok (.iload_n 1, 1) := by decide +kernel
theorem dX0_init_26 : decode cX0_init 26 = .ok (.new 9, 3) := by decide +kernel
theorem dX0_init_29 : decode cX0_init 29 = .ok (.dup, 1) := by decide +kernel
theorem dX0_init_30 : decode cX0_init 30 = .ok (.invokespecial 17, 3) := by decide +kernel
theorem dX0_init_33 : decode cX0_init 33 = .ok (.aastore, 1) := by decide +kernel
theorem dX0_init_34 : decode cX0_init 34 = .ok (.iinc 1 1, 3) := by decide +kernel
theorem dX0_init_37 : decode cX0_init 37 = .ok (.goto (-22), 3) := by decide +kernel
theorem dX0_init_40 : decode cX0_init 40 = .ok (.return_, 1) := by decide +kernel
theorem dX0_clear_0 : decode cX0_clear 0 = .ok (.aload_n 0, 1) := by decide +kernel
theorem dX0_clear_1 : decode cX0_clear 1 = .ok (.iconst 0, 1) := by decide +kernel
theorem dX0_clear_2 : decode cX0_clear 2 = .ok (.putfield 18, 3) := by decide +kernel
theorem dX0_clear_5 : decode cX0_clear 5 = .ok (.return_, 1) := by decide +kernel
theorem dX0_add_0 : decode cX0_add 0 = .ok (.aload_n 0, 1) := by decide +kernel
theorem dX0_add_1 : decode cX0_add 1 = .ok (.aload_n 0, 1) := by decide +kernel
theorem dX0_add_2 : decode cX0_add 2 = .ok (.getfield 22, 3) := by decide +kernel
theorem dX0_add_5 : decode cX0_add 5 = .ok (.iconst 1, 1) := by decide +kernel
theorem dX0_add_6 : decode cX0_add 6 = .ok (.iadd, 1) := by decide +kernel
theorem dX0_add_7 : decode cX0_add 7 = .ok (.bipush 10, 2) := by decide +kernel
theorem dX0_add_9 : decode cX0_add 9 = .ok (.if_icmp .ge 12, 3) := by decide +kernel
theorem dX0_add_12 : decode cX0_add 12 = .ok (.aload_n 0, 1) := by decide +kernel
theorem dX0_add_13 : decode cX0_add 13 = .ok (.getfield 22, 3) := by decide +kernel
theorem dX0_add_16 : decode cX0_add 16 = .ok (.iconst 1, 1) := by decide +kernel
theorem dX0_add_17 : decode cX0_add 17 = .ok (.iadd, 1) := by decide +kernel
theorem dX0_add_18 : decode cX0_add 18 = .ok (.goto 4, 3) := by decide +kernel
theorem dX0_add_21 : decode cX0_add 21 = .ok (.iconst 0, 1) := by decide +kernel
theorem dX0_add_22 : decode cX0_add 22 = .ok (.putfield 22, 3) := by decide +kernel
theorem dX0_add_25 : decode cX0_add 25 = .ok (.aload_n 0, 1) := by decide +kernel
theorem dX0_add_26 : decode cX0_add 26 = .ok (.getfield 11, 3) := by decide +kernel
theorem dX0_add_29 : decode cX0_add 29 = .ok (.aload_n 0, 1) := by decide +kernel
theorem dX0_add_30 : decode cX0_add 30 = .ok (.getfield 22, 3) := by decide +kernel
theorem dX0_add_33 : decode cX0_add 33 = .ok (.aaload, 1) := by decide +kernel
theorem dX0_add_34 : decode cX0_add 34 = .ok (.astore_n 2, 1) := by decide +kernel
theorem dX0_add_35 : decode cX0_add 35 = .ok (.aload_n 2, 1) := by decide +kernel
theorem dX0_add_36 : decode cX0_add 36 = .ok (.ifnull 23, 3) := by decide +kernel
theorem dX0_add_39 : decode cX0_add 39 = .ok (.aload_n 2, 1) := by decide +kernel
theorem dX0_add_40 : decode cX0_add 40 = .ok (.aload_n 1, 1) := by decide +kernel
theorem dX0_add_41 : decode cX0_add 41 = .ok (.invokevirtual 25, 3) := by decide +kernel
theorem dX0_add_44 : decode cX0_add 44 = .ok (.aload_n 0, 1) := by decide +kernel
theorem dX0_add_45 : decode cX0_add 45 = .ok (.bipush 10, 2) := by decide +kernel
theorem dX0_add_47 : decode cX0_add 47 = .ok (.aload_n 0, 1) := by decide +kernel
theorem dX0_add_48 : decode cX0_add 48 = .ok (.getfield 18, 3) := by decide +kernel
theorem dX0_add_51 : decode cX0_add 51 = .ok (.iconst 1, 1) := by decide +kernel
theorem dX0_add_52 : decode cX0_add 52 = .ok (.iadd, 1) := by decide +kernel
theorem dX0_add_53 : decode cX0_add 53 = .ok (.invokestatic 29, 3) := by decide +kernel
theorem dX0_add_56 : decode cX0_add 56 = .ok (.putfield 18, 3) := by decide +kernel
theorem dX0_add_59 : decode cX0_add 59 = .ok (.return_, 1) := by decide +kernel
theorem dX0_takeNewest_0 : decode cX0_takeNewest 0 = .ok (.aload_n 0, 1) := by decide +kernel
theorem dX0_takeNewest_1 : decode cX0_takeNewest 1 = .ok (.getfield 11, 3) := by decide +kernel
theorem dX0_takeNewest_4 : decode cX0_takeNewest 4 = .ok (.aload_n 0, 1) := by decide +kernel
theorem dX0_takeNewest_5 : decode cX0_takeNewest 5 = .ok (.getfield 22, 3) := by decide +kernel
theorem dX0_takeNewest_8 : decode cX0_takeNewest 8 = .ok (.aaload, 1) := by decide +kernel
theorem dX0_takeNewest_9 : decode cX0_takeNewest 9 = .ok (.astore_n 2, 1) := by decide +kernel
theorem dX0_takeNewest_10 : decode cX0_takeNewest 10 = .ok (.aload_n 0, 1) := by decide +kernel
theorem dX0_takeNewest_11 : decode cX0_takeNewest 11 = .ok (.getfield 18, 3) := by decide +kernel
theorem dX0_takeNewest_14 : decode cX0_takeNewest 14 = .ok (.ifCond .le 44, 3) := by decide +kernel
theorem dX0_takeNewest_17 : decode cX0_takeNewest 17 = .ok (.aload_n 2, 1) := by decide +kernel
theorem dX0_takeNewest_18 : decode cX0_takeNewest 18 = .ok (.ifnull 40, 3) := by decide +kernel
theorem dX0_takeNewest_21 : decode cX0_takeNewest 21 = .ok (.aload_n 1, 1) := by decide +kernel
theorem dX0_takeNewest_22 : decode cX0_takeNewest 22 = .ok (.aload_n 2, 1) := by decide +kernel
theorem dX0_takeNewest_23 : decode cX0_takeNewest 23 = .ok (.invokevirtual 25, 3) := by decide +kernel
theorem dX0_takeNewest_26 : decode cX0_takeNewest 26 = .ok (.aload_n 0, 1) := by decide +kernel
theorem dX0_takeNewest_27 : decode cX0_takeNewest 27 = .ok (.dup, 1) := by decide +kernel
theorem dX0_takeNewest_28 : decode cX0_takeNewest 28 = .ok (.getfield 18, 3) := by decide +kernel
theorem dX0_takeNewest_31 : decode cX0_takeNewest 31 = .ok (.iconst 1, 1) := by decide +kernel
theorem dX0_takeNewest_32 : decode cX0_takeNewest 32 = .ok (.isub, 1) := by decide +kernel
theorem dX0_takeNewest_33 : decode cX0_takeNewest 33 = .ok (.putfield 18, 3) := by decide +kernel
theorem dX0_takeNewest_36 : decode cX0_takeNewest 36 = .ok (.aload_n 0, 1) := by decide +kernel
theorem dX0_takeNewest_37 : decode cX0_takeNewest 37 = .ok (.aload_n 0, 1) := by decide +kernel
theorem dX0_takeNewest_38 : decode cX0_takeNewest 38 = .ok (.getfield 22, 3) := by decide +kernel
theorem dX0_takeNewest_41 : decode cX0_takeNewest 41 = .ok (.ifCond .le 12, 3) := by decide +kernel
theorem dX0_takeNewest_44 : decode cX0_takeNewest 44 = .ok (.aload_n 0, 1) := by decide +kernel
theorem dX0_takeNewest_45 : decode cX0_takeNewest 45 = .ok (.getfield 22, 3) := by decide +kernel
theorem dX0_takeNewest_48 : decode cX0_takeNewest 48 = .ok (.iconst 1, 1) := by decide +kernel
theorem dX0_takeNewest_49 : decode cX0_takeNewest 49 = .ok (.isub, 1) := by decide +kernel
theorem dX0_takeNewest_50 : decode cX0_takeNewest 50 = .ok (.goto 5, 3) := by decide +kernel
theorem dX0_takeNewest_53 : decode cX0_takeNewest 53 = .ok (.bipush 9, 2) := by decide +kernel
theorem dX0_takeNewest_55 : decode cX0_takeNewest 55 = .ok (.putfield 22, 3) := by decide +kernel
theorem dX0_takeNewest_58 : decode cX0_takeNewest 58 = .ok (.return_, 1) := by decide +kernel
theorem dX1_init_0 : decode cX1_init 0 = .ok (.aload_n 0, 1) := by decide +kernel
theorem dX1_init_1 : decode cX1_init 1 = .ok (.invokespecial 3, 3) := by decide +kernel
theorem dX1_init_4 : decode cX1_init 4 = .ok (.aload_n 0, 1) := by decide +kernel
theorem dX1_init_5 : decode cX1_init 5 = .ok (.bipush 32, 2) := by decide +kernel
theorem dX1_init_7 : decode cX1_init 7 = .ok (.newarray .byte, 2) := by decide +kernel
theorem dX1_init_9 : decode cX1_init 9 = .ok (.putfield 11, 3) := by decide +kernel
theorem dX1_init_12 : decode cX1_init 12 = .ok (.return_, 1) := by decide +kernel
theorem dX2_init_0 : decode cX2_init 0 = .ok (.aload_n 0, 1) := by decide +kernel
theorem dX2_init_1 : decode cX2_init 1 = .ok (.invokespecial 3, 3) := by decide +kernel
theorem dX2_init_4 : decode cX2_init 4 = .ok (.aload_n 0, 1) := by decide +kernel
theorem dX2_init_5 : decode cX2_init 5 = .ok (.aload_n 1, 1) := by decide +kernel
theorem dX2_init_6 : decode cX2_init 6 = .ok (.putfield 9, 3) := by decide +kernel
theorem dX2_init_9 : decode cX2_init 9 = .ok (.aload_n 0, 1) := by decide +kernel
theorem dX2_init_10 : decode cX2_init 10 = .ok (.aload_n 2, 1) := by decide +kernel
theorem dX2_init_11 : decode cX2_init 11 = .ok (.putfield 15, 3) := by decide +kernel
theorem dX2_init_14 : decode cX2_init 14 = .ok (.return_, 1) := by decide +kernel
theorem dX2_readText_0 : decode cX2_readText 0 = .ok (.aload_n 0, 1) := by decide +kernel
theorem dX2_readText_1 : decode cX2_readText 1 = .ok (.iconst 0, 1) := by decide +kernel
theorem dX2_readText_2 : decode cX2_readText 2 = .ok (.putfield 19, 3) := by decide +kernel
theorem dX2_readText_5 : decode cX2_readText 5 = .ok (.aload_n 0, 1) := by decide +kernel
theorem dX2_readText_6 : decode cX2_readText 6 = .ok (.getfield 15, 3) := by decide +kernel
theorem dX2_readText_9 : decode cX2_readText 9 = .ok (.invokevirtual 23, 3) := by decide +kernel
theorem dX2_readText_12 : decode cX2_readText 12 = .ok (.aload_n 0, 1) := by decide +kernel
theorem dX2_readText_13 : decode cX2_readText 13 = .ok (.invokevirtual 28, 3) := by decide +kernel
theorem dX2_readText_16 : decode cX2_readText 16 = .ok (.istore_n 1, 1) := by decide +kernel
theorem dX2_readText_17 : decode cX2_readText 17 = .ok (.iconst 0, 1) := by decide +kernel
theorem dX2_readText_18 : decode cX2_readText 18 = .ok (.istore_n 2, 1) := by decide +kernel
theorem dX2_readText_19 : decode cX2_readText 19 = .ok (.iload_n 1, 1) := by decide +kernel
theorem dX2_readText_20 : decode cX2_readText 20 = .ok (.ifCond .eq 106, 3) := by decide +kernel
theorem dX2_readText_23 : decode cX2_readText 23 = .ok (.iload_n 2, 1) := by decide +kernel
theorem dX2_readText_24 : decode cX2_readText 24 = .ok (.sipush 900, 3) := by decide +kernel
theorem dX2_readText_27 : decode cX2_readText 27 = .ok (.if_icmp .ge 99, 3) := by decide +kernel
theorem dX2_readText_30 : decode cX2_readText 30 = .ok (.aload_n 0, 1) := by decide +kernel
theorem dX2_readText_31 : decode cX2_readText 31 = .ok (.getfield 9, 3) := by decide +kernel
theorem dX2_readText_34 : decode cX2_readText 34 = .ok (.getfield 32, 3) := by decide +kernel
theorem dX2_readText_37 : decode cX2_readText 37 = .ok (.ifCond .eq 89, 3) := by decide +kernel
theorem dX2_readText_40 : decode cX2_readText 40 = .ok (.aload_n 0, 1) := by decide +kernel
theorem dX2_readText_41 : decode cX2_readText 41 = .ok (.getfield 9, 3) := by decide +kernel
theorem dX2_readText_44 : decode cX2_readText 44 = .ok (.ldc 37, 2) := by decide +kernel
theorem dX2_readText_46 : decode cX2_readText 46 = .ok (.invokevirtual 39, 3) := by decide +kernel
theorem dX2_readText_49 : decode cX2_readText 49 = .ok (.ifCond .eq 10, 3) := by decide +kernel
theorem dX2_readText_52 : decode cX2_readText 52 = .ok (.aload_n 0, 1) := by decide +kernel
theorem dX2_readText_53 : decode cX2_readText 53 = .ok (.invokevirtual 43, 3) := by decide +kernel
theorem dX2_readText_56 : decode cX2_readText 56 = .ok (.goto 46, 3) := by decide +kernel
theorem dX2_readText_59 : decode cX2_readText 59 = .ok (.aload_n 0, 1) := by decide +kernel
theorem dX2_readText_60 : decode cX2_readText 60 = .ok (.getfield 9, 3) := by decide +kernel
theorem dX2_readText_63 : decode cX2_readText 63 = .ok (.ldc 46, 2) := by decide +kernel
theorem dX2_readText_65 : decode cX2_readText 65 = .ok (.invokevirtual 39, 3) := by decide +kernel
theorem dX2_readText_68 : decode cX2_readText 68 = .ok (.ifCond .eq 10, 3) := by decide +kernel
theorem dX2_readText_71 : decode cX2_readText 71 = .ok (.aload_n 0, 1) := by decide +kernel
theorem dX2_readText_72 : decode cX2_readText 72 = .ok (.invokevirtual 48, 3) := by decide +kernel
theorem dX2_readText_75 : decode cX2_readText 75 = .ok (.goto 27, 3) := by decide +kernel
theorem dX2_readText_78 : decode cX2_readText 78 = .ok (.aload_n 0, 1) := by decide +kernel
theorem dX2_readText_79 : decode cX2_readText 79 = .ok (.getfield 9, 3) := by decide +kernel
theorem dX2_readText_82 : decode cX2_readText 82 = .ok (.ldc 51, 2) := by decide +kernel
theorem dX2_readText_84 : decode cX2_readText 84 = .ok (.invokevirtual 39, 3) := by decide +kernel
theorem dX2_readText_87 : decode cX2_readText 87 = .ok (.ifCond .eq 10, 3) := by decide +kernel
theorem dX2_readText_90 : decode cX2_readText 90 = .ok (.aload_n 0, 1) := by decide +kernel
theorem dX2_readText_91 : decode cX2_readText 91 = .ok (.invokevirtual 53, 3) := by decide +kernel
theorem dX2_readText_94 : decode cX2_readText 94 = .ok (.goto 8, 3) := by decide +kernel
theorem dX2_readText_97 : decode cX2_readText 97 = .ok (.aload_n 0, 1) := by decide +kernel
theorem dX2_readText_98 : decode cX2_readText 98 = .ok (.iconst 1, 1) := by decide +kernel
theorem dX2_readText_99 : decode cX2_readText 99 = .ok (.invokevirtual 56, 3) := by decide +kernel
theorem dX2_readText_102 : decode cX2_readText 102 = .ok (.istore_n 1, 1) := by decide +kernel
theorem dX2_readText_103 : decode cX2_readText 103 = .ok (.iload_n 1, 1) := by decide +kernel
theorem dX2_readText_104 : decode cX2_readText 104 = .ok (.ifCond .eq 14, 3) := by decide +kernel
theorem dX2_readText_107 : decode cX2_readText 107 = .ok (.aload_n 0, 1) := by decide +kernel
theorem dX2_readText_108 : decode cX2_readText 108 = .ok (.invokevirtual 60, 3) := by decide +kernel
theorem dX2_readText_111 : decode cX2_readText 111 = .ok (.ifCond .eq 7, 3) := by decide +kernel
theorem dX2_readText_114 : decode cX2_readText 114 = .ok (.iconst 1, 1) := by decide +kernel
theorem dX2_readText_115 : decode cX2_readText 115 = .ok (.goto 4, 3) := by decide +kernel
theorem dX2_readText_118 : decode cX2_readText 118 = .ok (.iconst 0, 1) := by decide +kernel
theorem dX2_readText_119 : decode cX2_readText 119 = .ok (.istore_n 1, 1) := by decide +kernel
theorem dX2_readText_120 : decode cX2_readText 120 = .ok (.iinc 2 1, 3) := by decide +kernel
theorem dX2_readText_123 : decode cX2_readText 123 = .ok (.goto (-104), 3) := by decide +kernel
theorem dX2_readText_126 : decode cX2_readText 126 = .ok (.aload_n 0, 1) := by decide +kernel
theorem dX2_readText_127 : decode cX2_readText 127 = .ok (.getfield 19, 3) := by decide +kernel
theorem dX2_readText_130 : decode cX2_readText 130 = .ok (.ireturn, 1) := by decide +kernel
theorem dX2_readHead_0 : decode cX2_readHead 0 = .ok (.aload_n 0, 1) := by decide +kernel
theorem dX2_readHead_1 : decode cX2_readHead 1 = .ok (.ldc 63, 2) := by decide +kernel
theorem dX2_readHead_3 : decode cX2_readHead 3 = .ok (.invokevirtual 64, 3) := by decide +kernel
theorem dX2_readHead_6 : decode cX2_readHead 6 = .ok (.ifCond .eq 35, 3) := by decide +kernel
theorem dX2_readHead_9 : decode cX2_readHead 9 = .ok (.aload_n 0, 1) := by decide +kernel
theorem dX2_readHead_10 : decode cX2_readHead 10 = .ok (.invokevirtual 67, 3) := by decide +kernel
theorem dX2_readHead_13 : decode cX2_readHead 13 = .ok (.ifCond .eq 28, 3) := by decide +kernel
theorem dX2_readHead_16 : decode cX2_readHead 16 = .ok (.aload_n 0, 1) := by decide +kernel
theorem dX2_readHead_17 : decode cX2_readHead 17 = .ok (.invokevirtual 70, 3) := by decide +kernel
theorem dX2_readHead_20 : decode cX2_readHead 20 = .ok (.ifCond .eq 21, 3) := by decide +kernel
theorem dX2_readHead_23 : decode cX2_readHead 23 = .ok (.aload_n 0, 1) := by decide +kernel
theorem dX2_readHead_24 : decode cX2_readHead 24 = .ok (.invokevirtual 73, 3) := by decide +kernel
theorem dX2_readHead_27 : decode cX2_readHead 27 = .ok (.ifCond .eq 14, 3) := by decide +kernel
theorem dX2_readHead_30 : decode cX2_readHead 30 = .ok (.aload_n 0, 1) := by decide +kernel
theorem dX2_readHead_31 : decode cX2_readHead 31 = .ok (.invokevirtual 60, 3) := by decide +kernel
theorem dX2_readHead_34 : decode cX2_readHead 34 = .ok (.ifCond .eq 7, 3) := by decide +kernel
theorem dX2_readHead_37 : decode cX2_readHead 37 = .ok (.iconst 1, 1) := by decide +kernel
theorem dX2_readHead_38 : decode cX2_readHead 38 = .ok (.goto 4, 3) := by decide +kernel
theorem dX2_readHead_41 : decode cX2_readHead 41 = .ok (.iconst 0, 1) := by decide +kernel
theorem dX2_readHead_42 : decode cX2_readHead 42 = .ok (.ireturn, 1) := by decide +kernel
theorem dX2_readKeep_0 : decode cX2_readKeep 0 = .ok (.aload_n 0, 1) := by decide +kernel
theorem dX2_readKeep_1 : decode cX2_readKeep 1 = .ok (.getfield 9, 3) := by decide +kernel
theorem dX2_readKeep_4 : decode cX2_readKeep 4 = .ok (.ldc 76, 2) := by decide +kernel
theorem dX2_readKeep_6 : decode cX2_readKeep 6 = .ok (.invokevirtual 39, 3) := by decide +kernel
theorem dX2_readKeep_9 : decode cX2_readKeep 9 = .ok (.ifCond .ne 5, 3) := by decide +kernel
theorem dX2_readKeep_12 : decode cX2_readKeep 12 = .ok (.iconst 1, 1) := by decide +kernel
theorem dX2_readKeep_13 : decode cX2_readKeep 13 = .ok (.ireturn, 1) := by decide +kernel
theorem dX2_readKeep_14 : decode cX2_readKeep 14 = .ok (.aload_n 0, 1) := by decide +kernel
theorem dX2_readKeep_15 : decode cX2_readKeep 15 = .ok (.getfield 9, 3) := by decide +kernel
theorem dX2_readKeep_18 : decode cX2_readKeep 18 = .ok (.invokevirtual 78, 3) := by decide +kernel
theorem dX2_readKeep_21 : decode cX2_readKeep 21 = .ok (.aload_n 0, 1) := by decide +kernel
theorem dX2_readKeep_22 : decode cX2_readKeep 22 = .ok (.iconst 0, 1) := by decide +kernel
theorem dX2_readKeep_23 : decode cX2_readKeep 23 = .ok (.iconst 3, 1) := by decide +kernel
theorem dX2_readKeep_24 : decode cX2_readKeep 24 = .ok (.invokevirtual 81, 3) := by decide +kernel
theorem dX2_readKeep_27 : decode cX2_readKeep 27 = .ok (.ifCond .ne 5, 3) := by decide +kernel
theorem dX2_readKeep_30 : decode cX2_readKeep 30 = .ok (.iconst 0, 1) := by decide +kernel
theorem dX2_readKeep_31 : decode cX2_readKeep 31 = .ok (.ireturn, 1) := by decide +kernel
theorem dX2_readKeep_32 : decode cX2_readKeep 32 = .ok (.aload_n 0, 1) := by decide +kernel
theorem dX2_readKeep_33 : decode cX2_readKeep 33 = .ok (.getfield 15, 3) := by decide +kernel
theorem dX2_readKeep_36 : decode cX2_readKeep 36 = .ok (.aload_n 0, 1) := by decide +kernel
theorem dX2_readKeep_37 : decode cX2_readKeep 37 = .ok (.getfield 85, 3) := by decide +kernel
theorem dX2_readKeep_40 : decode cX2_readKeep 40 = .ok (.putfield 88, 3) := by decide +kernel
theorem dX2_readKeep_43 : decode cX2_readKeep 43 = .ok (.iconst 1, 1) := by decide +kernel
theorem dX2_readKeep_44 : decode cX2_readKeep 44 = .ok (.ireturn, 1) := by decide +kernel
theorem dX2_readPer_0 : decode cX2_readPer 0 = .ok (.aload_n 0, 1) := by decide +kernel
theorem dX2_readPer_1 : decode cX2_readPer 1 = .ok (.getfield 9, 3) := by decide +kernel
theorem dX2_readPer_4 : decode cX2_readPer 4 = .ok (.ldc 90, 2) := by decide +kernel
theorem dX2_readPer_6 : decode cX2_readPer 6 = .ok (.invokevirtual 39, 3) := by decide +kernel
theorem dX2_readPer_9 : decode cX2_readPer 9 = .ok (.ifCond .ne 5, 3) := by decide +kernel
theorem dX2_readPer_12 : decode cX2_readPer 12 = .ok (.iconst 1, 1) := by decide +kernel
theorem dX2_readPer_13 : decode cX2_readPer 13 = .ok (.ireturn, 1) := by decide +kernel
theorem dX2_readPer_14 : decode cX2_readPer 14 = .ok (.aload_n 0, 1) := by decide +kernel
theorem dX2_readPer_15 : decode cX2_readPer 15 = .ok (.getfield 9, 3) := by decide +kernel
theorem dX2_readPer_18 : decode cX2_readPer 18 = .ok (.invokevirtual 78, 3) := by decide +kernel
theorem dX2_readPer_21 : decode cX2_readPer 21 = .ok (.aload_n 0, 1) := by decide +kernel
theorem dX2_readPer_22 : decode cX2_readPer 22 = .ok (.iconst 1, 1) := by decide +kernel
theorem dX2_readPer_23 : decode cX2_readPer 23 = .ok (.bipush 9, 2) := by decide +kernel
theorem dX2_readPer_25 : decode cX2_readPer 25 = .ok (.invokevirtual 81, 3) := by decide +kernel
theorem dX2_readPer_28 : decode cX2_readPer 28 = .ok (.ifCond .ne 5, 3) := by decide +kernel
theorem dX2_readPer_31 : decode cX2_readPer 31 = .ok (.iconst 0, 1) := by decide +kernel
theorem dX2_readPer_32 : decode cX2_readPer 32 = .ok (.ireturn, 1) := by decide +kernel
theorem dX2_readPer_33 : decode cX2_readPer 33 = .ok (.aload_n 0, 1) := by decide +kernel
theorem dX2_readPer_34 : decode cX2_readPer 34 = .ok (.getfield 15, 3) := by decide +kernel
theorem dX2_readPer_37 : decode cX2_readPer 37 = .ok (.aload_n 0, 1) := by decide +kernel
theorem dX2_readPer_38 : decode cX2_readPer 38 = .ok (.getfield 85, 3) := by decide +kernel
theorem dX2_readPer_41 : decode cX2_readPer 41 = .ok (.putfield 92, 3) := by decide +kernel
theorem dX2_readPer_44 : decode cX2_readPer 44 = .ok (.iconst 1, 1) := by decide +kernel
theorem dX2_readPer_45 : decode cX2_readPer 45 = .ok (.ireturn, 1) := by decide +kernel
theorem dX2_readPool_0 : decode cX2_readPool 0 = .ok (.aload_n 0, 1) := by decide +kernel
theorem dX2_readPool_1 : decode cX2_readPool 1 = .ok (.getfield 9, 3) := by decide +kernel
theorem dX2_readPool_4 : decode cX2_readPool 4 = .ok (.ldc 94, 2) := by decide +kernel
theorem dX2_readPool_6 : decode cX2_readPool 6 = .ok (.invokevirtual 39, 3) := by decide +kernel
theorem dX2_readPool_9 : decode cX2_readPool 9 = .ok (.ifCond .ne 5, 3) := by decide +kernel
theorem dX2_readPool_12 : decode cX2_readPool 12 = .ok (.iconst 1, 1) := by decide +kernel
theorem dX2_readPool_13 : decode cX2_readPool 13 = .ok (.ireturn, 1) := by decide +kernel
theorem dX2_readPool_14 : decode cX2_readPool 14 = .ok (.aload_n 0, 1) := by decide +kernel
theorem dX2_readPool_15 : decode cX2_readPool 15 = .ok (.getfield 9, 3) := by decide +kernel
theorem dX2_readPool_18 : decode cX2_readPool 18 = .ok (.invokevirtual 78, 3) := by decide +kernel
theorem dX2_readPool_21 : decode cX2_readPool 21 = .ok (.aload_n 0, 1) := by decide +kernel
theorem dX2_readPool_22 : decode cX2_readPool 22 = .ok (.iconst 1, 1) := by decide +kernel
theorem dX2_readPool_23 : decode cX2_readPool 23 = .ok (.sipush 250, 3) := by decide +kernel
theorem dX2_readPool_26 : decode cX2_readPool 26 = .ok (.invokevirtual 81, 3) := by decide +kernel
theorem dX2_readPool_29 : decode cX2_readPool 29 = .ok (.ifCond .ne 5, 3) := by decide +kernel
theorem dX2_readPool_32 : decode cX2_readPool 32 = .ok (.iconst 0, 1) := by decide +kernel
theorem dX2_readPool_33 : decode cX2_readPool 33 = .ok (.ireturn, 1) := by decide +kernel
theorem dX2_readPool_34 : decode cX2_readPool 34 = .ok (.aload_n 0, 1) := by decide +kernel
theorem dX2_readPool_35 : decode cX2_readPool 35 = .ok (.getfield 15, 3) := by decide +kernel
theorem dX2_readPool_38 : decode cX2_readPool 38 = .ok (.aload_n 0, 1) := by decide +kernel
theorem dX2_readPool_39 : decode cX2_readPool 39 = .ok (.getfield 85, 3) := by decide +kernel
theorem dX2_readPool_42 : decode cX2_readPool 42 = .ok (.putfield 96, 3) := by decide +kernel
theorem dX2_readPool_45 : decode cX2_readPool 45 = .ok (.aload_n 0, 1) := by decide +kernel
theorem dX2_readPool_46 : decode cX2_readPool 46 = .ok (.aload_n 0, 1) := by decide +kernel
theorem dX2_readPool_47 : decode cX2_readPool 47 = .ok (.getfield 15, 3) := by decide +kernel
theorem dX2_readPool_50 : decode cX2_readPool 50 = .ok (.getfield 96, 3) := by decide +kernel
theorem dX2_readPool_53 : decode cX2_readPool 53 = .ok (.sipush 250, 3) := by decide +kernel
theorem dX2_readPool_56 : decode cX2_readPool 56 = .ok (.invokevirtual 81, 3) := by decide +kernel
theorem dX2_readPool_59 : decode cX2_readPool 59 = .ok (.ifCond .ne 5, 3) := by decide +kernel
theorem dX2_readPool_62 : decode cX2_readPool 62 = .ok (.iconst 0, 1) := by decide +kernel
theorem dX2_readPool_63 : decode cX2_readPool 63 = .ok (.ireturn, 1) := by decide +kernel
theorem dX2_readPool_64 : decode cX2_readPool 64 = .ok (.aload_n 0, 1) := by decide +kernel
theorem dX2_readPool_65 : decode cX2_readPool 65 = .ok (.getfield 15, 3) := by decide +kernel
theorem dX2_readPool_68 : decode cX2_readPool 68 = .ok (.aload_n 0, 1) := by decide +kernel
theorem dX2_readPool_69 : decode cX2_readPool 69 = .ok (.getfield 85, 3) := by decide +kernel
theorem dX2_readPool_72 : decode cX2_readPool 72 = .ok (.putfield 99, 3) := by decide +kernel
theorem dX2_readPool_75 : decode cX2_readPool 75 = .ok (.iconst 1, 1) := by decide +kernel
theorem dX2_readPool_76 : decode cX2_readPool 76 = .ok (.ireturn, 1) := by decide +kernel
theorem dX2_readHost_0 : decode cX2_readHost 0 = .ok (.aload_n 0, 1) := by decide +kernel
theorem dX2_readHost_1 : decode cX2_readHost 1 = .ok (.getfield 15, 3) := by decide +kernel
theorem dX2_readHost_4 : decode cX2_readHost 4 = .ok (.getfield 102, 3) := by decide +kernel
theorem dX2_readHost_7 : decode cX2_readHost 7 = .ok (.bipush 40, 2) := by decide +kernel
theorem dX2_readHost_9 : decode cX2_readHost 9 = .ok (.if_icmp .lt 9, 3) := by decide +kernel
theorem dX2_readHost_12 : decode cX2_readHost 12 = .ok (.aload_n 0, 1) := by decide +kernel
theorem dX2_readHost_13 : decode cX2_readHost 13 = .ok (.iconst 3, 1) := by decide +kernel
theorem dX2_readHost_14 : decode cX2_readHost 14 = .ok (.invokevirtual 56, 3) := by decide +kernel
theorem dX2_readHost_17 : decode cX2_readHost 17 = .ok (.ireturn, 1) := by decide +kernel
theorem dX2_readHost_18 : decode cX2_readHost 18 = .ok (.aload_n 0, 1) := by decide +kernel
theorem dX2_readHost_19 : decode cX2_readHost 19 = .ok (.getfield 9, 3) := by decide +kernel
theorem dX2_readHost_22 : decode cX2_readHost 22 = .ok (.invokevirtual 78, 3) := by decide +kernel
theorem dX2_readHost_25 : decode cX2_readHost 25 = .ok (.aload_n 0, 1) := by decide +kernel
theorem dX2_readHost_26 : decode cX2_readHost 26 = .ok (.getfield 9, 3) := by decide +kernel
theorem dX2_readHost_29 : decode cX2_readHost 29 = .ok (.getfield 32, 3) := by decide +kernel
theorem dX2_readHost_32 : decode cX2_readHost 32 = .ok (.iconst 1, 1) := by decide +kernel
theorem dX2_readHost_33 : decode cX2_readHost 33 = .ok (.if_icmp .eq 9, 3) := by decide +kernel
theorem dX2_readHost_36 : decode cX2_readHost 36 = .ok (.aload_n 0, 1) := by decide +kernel
theorem dX2_readHost_37 : decode cX2_readHost 37 = .ok (.iconst 1, 1) := by decide +kernel
theorem dX2_readHost_38 : decode cX2_readHost 38 = .ok (.invokevirtual 56, 3) := by decide +kernel
theorem dX2_readHost_41 : decode cX2_readHost 41 = .ok (.ireturn, 1) := by decide +kernel
theorem dX2_readHost_42 : decode cX2_readHost 42 = .ok (.aload_n 0, 1) := by decide +kernel
theorem dX2_readHost_43 : decode cX2_readHost 43 = .ok (.getfield 9, 3) := by decide +kernel
theorem dX2_readHost_46 : decode cX2_readHost 46 = .ok (.invokevirtual 105, 3) := by decide +kernel
theorem dX2_readHost_49 : decode cX2_readHost 49 = .ok (.bipush 8, 2) := by decide +kernel
theorem dX2_readHost_51 : decode cX2_readHost 51 = .ok (.if_icmp .le 9, 3) := by decide +kernel
theorem dX2_readHost_54 : decode cX2_readHost 54 = .ok (.aload_n 0, 1) := by decide +kernel
theorem dX2_readHost_55 : decode cX2_readHost 55 = .ok (.iconst 2, 1) := by decide +kernel
theorem dX2_readHost_56 : decode cX2_readHost 56 = .ok (.invokevirtual 56, 3) := by decide +kernel
theorem dX2_readHost_59 : decode cX2_readHost 59 = .ok (.ireturn, 1) := by decide +kernel
theorem dX2_readHost_60 : decode cX2_readHost 60 = .ok (.aload_n 0, 1) := by decide +kernel
theorem dX2_readHost_61 : decode cX2_readHost 61 = .ok (.getfield 9, 3) := by decide +kernel
theorem dX2_readHost_64 : decode cX2_readHost 64 = .ok (.invokevirtual 109, 3) := by decide +kernel
theorem dX2_readHost_67 : decode cX2_readHost 67 = .ok (.lstore_n 1, 1) := by decide +kernel
theorem dX2_readHost_68 : decode cX2_readHost 68 = .ok (.aload_n 0, 1) := by decide +kernel
theorem dX2_readHost_69 : decode cX2_readHost 69 = .ok (.getfield 15, 3) := by decide +kernel
theorem dX2_readHost_72 : decode cX2_readHost 72 = .ok (.lload_n 1, 1) := by decide +kernel
theorem dX2_readHost_73 : decode cX2_readHost 73 = .ok (.invokevirtual 113, 3) := by decide +kernel
theorem dX2_readHost_76 : decode cX2_readHost 76 = .ok (.iconst (-1), 1) := by decide +kernel
theorem dX2_readHost_77 : decode cX2_readHost 77 = .ok (.if_icmp .eq 9, 3) := by decide +kernel
theorem dX2_readHost_80 : decode cX2_readHost 80 = .ok (.aload_n 0, 1) := by decide +kernel
theorem dX2_readHost_81 : decode cX2_readHost 81 = .ok (.iconst 3, 1) := by decide +kernel
theorem dX2_readHost_82 : decode cX2_readHost 82 = .ok (.invokevirtual 56, 3) := by decide +kernel
theorem dX2_readHost_85 : decode cX2_readHost 85 = .ok (.ireturn, 1) := by decide +kernel
theorem dX2_readHost_86 : decode cX2_readHost 86 = .ok (.aload_n 0, 1) := by decide +kernel
theorem dX2_readHost_87 : decode cX2_readHost 87 = .ok (.getfield 9, 3) := by decide +kernel
theorem dX2_readHost_90 : decode cX2_readHost 90 = .ok (.invokevirtual 78, 3) := by decide +kernel
theorem dX2_readHost_93 : decode cX2_readHost 93 = .ok (.aload_n 0, 1) := by decide +kernel
theorem dX2_readHost_94 : decode cX2_readHost 94 = .ok (.iconst 0, 1) := by decide +kernel
theorem dX2_readHost_95 : decode cX2_readHost 95 = .ok (.iconst 1, 1) := by decide +kernel
theorem dX2_readHost_96 : decode cX2_readHost 96 = .ok (.invokevirtual 81, 3) := by decide +kernel
theorem dX2_readHost_99 : decode cX2_readHost 99 = .ok (.ifCond .ne 5, 3) := by decide +kernel
theorem dX2_readHost_102 : decode cX2_readHost 102 = .ok (.iconst 0, 1) := by decide +kernel
theorem dX2_readHost_103 : decode cX2_readHost 103 = .ok (.ireturn, 1) := by decide +kernel
theorem dX2_readHost_104 : decode cX2_readHost 104 = .ok (.aload_n 0, 1) := by decide +kernel
theorem dX2_readHost_105 : decode cX2_readHost 105 = .ok (.getfield 85, 3) := by decide +kernel
theorem dX2_readHost_108 : decode cX2_readHost 108 = .ok (.istore_n 3, 1) := by decide +kernel
theorem dX2_readHost_109 : decode cX2_readHost 109 = .ok (.aload_n 0, 1) := by decide +kernel
theorem dX2_readHost_110 : decode cX2_readHost 110 = .ok (.iconst 1, 1) := by decide +kernel
theorem dX2_readHost_111 : decode cX2_readHost 111 = .ok (.sipush 250, 3) := by decide +kernel
theorem dX2_readHost_114 : decode cX2_readHost 114 = .ok (.invokevirtual 117, 3) := by decide +kernel
theorem dX2_readHost_117 : decode cX2_readHost 117 = .ok (.ifCond .ne 5, 3) := by decide +kernel
theorem dX2_readHost_120 : decode cX2_readHost 120 = .ok (.iconst 0, 1) := by decide +kernel
theorem dX2_readHost_121 : decode cX2_readHost 121 = .ok (.ireturn, 1) := by decide +kernel
theorem dX2_readHost_122 : decode cX2_readHost 122 = .ok (.aload_n 0, 1) := by decide +kernel
theorem dX2_readHost_123 : decode cX2_readHost 123 = .ok (.getfield 15, 3) := by decide +kernel
theorem dX2_readHost_126 : decode cX2_readHost 126 = .ok (.iload_n 3, 1) := by decide +kernel
theorem dX2_readHost_127 : decode cX2_readHost 127 = .ok (.aload_n 0, 1) := by decide +kernel
theorem dX2_readHost_128 : decode cX2_readHost 128 = .ok (.getfield 9, 3) := by decide +kernel
theorem dX2_readHost_131 : decode cX2_readHost 131 = .ok (.getfield 120, 3) := by decide +kernel
theorem dX2_readHost_134 : decode cX2_readHost 134 = .ok (.invokevirtual 123, 3) := by decide +kernel
theorem dX2_readHost_137 : decode cX2_readHost 137 = .ok (.iconst (-1), 1) := by decide +kernel
theorem dX2_readHost_138 : decode cX2_readHost 138 = .ok (.if_icmp .eq 9, 3) := by decide +kernel
theorem dX2_readHost_141 : decode cX2_readHost 141 = .ok (.aload_n 0, 1) := by decide +kernel
theorem dX2_readHost_142 : decode cX2_readHost 142 = .ok (.iconst 3, 1) := by decide +kernel
theorem dX2_readHost_143 : decode cX2_readHost 143 = .ok (.invokevirtual 56, 3) := by decide +kernel
theorem dX2_readHost_146 : decode cX2_readHost 146 = .ok (.ireturn, 1) := by decide +kernel
theorem dX2_readHost_147 : decode cX2_readHost 147 = .ok (.aload_n 0, 1) := by decide +kernel
theorem dX2_readHost_148 : decode cX2_readHost 148 = .ok (.getfield 15, 3) := by decide +kernel
theorem dX2_readHost_151 : decode cX2_readHost 151 = .ok (.lload_n 1, 1) := by decide +kernel
theorem dX2_readHost_152 : decode cX2_readHost 152 = .ok (.iload_n 3, 1) := by decide +kernel
theorem dX2_readHost_153 : decode cX2_readHost 153 = .ok (.aload_n 0, 1) := by decide +kernel
theorem dX2_readHost_154 : decode cX2_readHost 154 = .ok (.getfield 9, 3) := by decide +kernel
theorem dX2_readHost_157 : decode cX2_readHost 157 = .ok (.getfield 120, 3) := by decide +kernel
theorem dX2_readHost_160 : decode cX2_readHost 160 = .ok (.invokevirtual 127, 3) := by decide +kernel
theorem dX2_readHost_163 : decode cX2_readHost 163 = .ok (.istore 4, 2) := by decide +kernel
theorem dX2_readHost_165 : decode cX2_readHost 165 = .ok (.aload_n 0, 1) := by decide +kernel
theorem dX2_readHost_166 : decode cX2_readHost 166 = .ok (.getfield 9, 3) := by decide +kernel
theorem dX2_readHost_169 : decode cX2_readHost 169 = .ok (.invokevirtual 78, 3) := by decide +kernel
theorem dX2_readHost_172 : decode cX2_readHost 172 = .ok (.iload 4, 2) := by decide +kernel
theorem dX2_readHost_174 : decode cX2_readHost 174 = .ok (.iconst (-1), 1) := by decide +kernel
theorem dX2_readHost_175 : decode cX2_readHost 175 = .ok (.if_icmp .eq 33, 3) := by decide +kernel
theorem dX2_readHost_178 : decode cX2_readHost 178 = .ok (.aload_n 0, 1) := by decide +kernel
theorem dX2_readHost_179 : decode cX2_readHost 179 = .ok (.getfield 9, 3) := by decide +kernel
theorem dX2_readHost_182 : decode cX2_readHost 182 = .ok (.ldc 131, 2) := by decide +kernel
theorem dX2_readHost_184 : decode cX2_readHost 184 = .ok (.invokevirtual 39, 3) := by decide +kernel
theorem dX2_readHost_187 : decode cX2_readHost 187 = .ok (.ifCond .eq 21, 3) := by decide +kernel
theorem dX2_readHost_190 : decode cX2_readHost 190 = .ok (.aload_n 0, 1) := by decide +kernel
theorem dX2_readHost_191 : decode cX2_readHost 191 = .ok (.getfield 15, 3) := by decide +kernel
theorem dX2_readHost_194 : decode cX2_readHost 194 = .ok (.getfield 133, 3) := by decide +kernel
theorem dX2_readHost_197 : decode cX2_readHost 197 = .ok (.iload 4, 2) := by decide +kernel
theorem dX2_readHost_199 : decode cX2_readHost 199 = .ok (.iconst 1, 1) := by decide +kernel
theorem dX2_readHost_200 : decode cX2_readHost 200 = .ok (.iastore, 1) := by decide +kernel
theorem dX2_readHost_201 : decode cX2_readHost 201 = .ok (.aload_n 0, 1) := by decide +kernel
theorem dX2_readHost_202 : decode cX2_readHost 202 = .ok (.getfield 9, 3) := by decide +kernel
theorem dX2_readHost_205 : decode cX2_readHost 205 = .ok (.invokevirtual 78, 3) := by decide +kernel
theorem dX2_readHost_208 : decode cX2_readHost 208 = .ok (.iconst 1, 1) := by decide +kernel
theorem dX2_readHost_209 : decode cX2_readHost 209 = .ok (.ireturn, 1) := by decide +kernel
theorem dX2_readRule_0 : decode cX2_readRule 0 = .ok (.aload_n 0, 1) := by decide +kernel
theorem dX2_readRule_1 : decode cX2_readRule 1 = .ok (.getfield 15, 3) := by decide +kernel
theorem dX2_readRule_4 : decode cX2_readRule 4 = .ok (.getfield 136, 3) := by decide +kernel
theorem dX2_readRule_7 : decode cX2_readRule 7 = .ok (.bipush 30, 2) := by decide +kernel
theorem dX2_readRule_9 : decode cX2_readRule 9 = .ok (.if_icmp .lt 9, 3) := by decide +kernel
theorem dX2_readRule_12 : decode cX2_readRule 12 = .ok (.aload_n 0, 1) := by decide +kernel
theorem dX2_readRule_13 : decode cX2_readRule 13 = .ok (.iconst 3, 1) := by decide +kernel
theorem dX2_readRule_14 : decode cX2_readRule 14 = .ok (.invokevirtual 56, 3) := by decide +kernel
theorem dX2_readRule_17 : decode cX2_readRule 17 = .ok (.ireturn, 1) := by decide +kernel
theorem dX2_readRule_18 : decode cX2_readRule 18 = .ok (.aload_n 0, 1) := by decide +kernel
theorem dX2_readRule_19 : decode cX2_readRule 19 = .ok (.getfield 9, 3) := by decide +kernel
theorem dX2_readRule_22 : decode cX2_readRule 22 = .ok (.invokevirtual 78, 3) := by decide +kernel
theorem dX2_readRule_25 : decode cX2_readRule 25 = .ok (.aload_n 0, 1) := by decide +kernel
theorem dX2_readRule_26 : decode cX2_readRule 26 = .ok (.iconst 0, 1) := by decide +kernel
theorem dX2_readRule_27 : decode cX2_readRule 27 = .ok (.iconst 1, 1) := by decide +kernel
theorem dX2_readRule_28 : decode cX2_readRule 28 = .ok (.invokevirtual 81, 3) := by decide +kernel
theorem dX2_readRule_31 : decode cX2_readRule 31 = .ok (.ifCond .ne 5, 3) := by decide +kernel
theorem dX2_readRule_34 : decode cX2_readRule 34 = .ok (.iconst 0, 1) := by decide +kernel
theorem dX2_readRule_35 : decode cX2_readRule 35 = .ok (.ireturn, 1) := by decide +kernel
theorem dX2_readRule_36 : decode cX2_readRule 36 = .ok (.aload_n 0, 1) := by decide +kernel
theorem dX2_readRule_37 : decode cX2_readRule 37 = .ok (.getfield 85, 3) := by decide +kernel
theorem dX2_readRule_40 : decode cX2_readRule 40 = .ok (.istore_n 1, 1) := by decide +kernel
theorem dX2_readRule_41 : decode cX2_readRule 41 = .ok (.aload_n 0, 1) := by decide +kernel
theorem dX2_readRule_42 : decode cX2_readRule 42 = .ok (.getfield 9, 3) := by decide +kernel
theorem dX2_readRule_45 : decode cX2_readRule 45 = .ok (.ldc 139, 2) := by decide +kernel
theorem dX2_readRule_47 : decode cX2_readRule 47 = .ok (.invokevirtual 39, 3) := by decide +kernel
theorem dX2_readRule_50 : decode cX2_readRule 50 = .ok (.istore_n 2, 1) := by decide +kernel
theorem dX2_readRule_51 : decode cX2_readRule 51 = .ok (.iload_n 2, 1) := by decide +kernel
theorem dX2_readRule_52 : decode cX2_readRule 52 = .ok (.ifCond .ne 21, 3) := by decide +kernel
theorem dX2_readRule_55 : decode cX2_readRule 55 = .ok (.aload_n 0, 1) := by decide +kernel
theorem dX2_readRule_56 : decode cX2_readRule 56 = .ok (.getfield 9, 3) := by decide +kernel
theorem dX2_readRule_59 : decode cX2_readRule 59 = .ok (.ldc 141, 2) := by decide +kernel
theorem dX2_readRule_61 : decode cX2_readRule 61 = .ok (.invokevirtual 39, 3) := by decide +kernel
theorem dX2_readRule_64 : decode cX2_readRule 64 = .ok (.ifCond .ne 9, 3) := by decide +kernel
theorem dX2_readRule_67 : decode cX2_readRule 67 = .ok (.aload_n 0, 1) := by decide +kernel
theorem dX2_readRule_68 : decode cX2_readRule 68 = .ok (.iconst 1, 1) := by decide +kernel
theorem dX2_readRule_69 : decode cX2_readRule 69 = .ok (.invokevirtual 56, 3) := by decide +kernel
theorem dX2_readRule_72 : decode cX2_readRule 72 = .ok (.ireturn, 1) := by decide +kernel
theorem dX2_readRule_73 : decode cX2_readRule 73 = .ok (.aload_n 0, 1) := by decide +kernel
theorem dX2_readRule_74 : decode cX2_readRule 74 = .ok (.getfield 9, 3) := by decide +kernel
theorem dX2_readRule_77 : decode cX2_readRule 77 = .ok (.invokevirtual 78, 3) := by decide +kernel
theorem dX2_readRule_80 : decode cX2_readRule 80 = .ok (.aload_n 0, 1) := by decide +kernel
theorem dX2_readRule_81 : decode cX2_readRule 81 = .ok (.invokevirtual 143, 3) := by decide +kernel
theorem dX2_readRule_84 : decode cX2_readRule 84 = .ok (.ifCond .ne 5, 3) := by decide +kernel
theorem dX2_readRule_87 : decode cX2_readRule 87 = .ok (.iconst 0, 1) := by decide +kernel
theorem dX2_readRule_88 : decode cX2_readRule 88 = .ok (.ireturn, 1) := by decide +kernel
theorem dX2_readRule_89 : decode cX2_readRule 89 = .ok (.aload_n 0, 1) := by decide +kernel
theorem dX2_readRule_90 : decode cX2_readRule 90 = .ok (.getfield 85, 3) := by decide +kernel
theorem dX2_readRule_93 : decode cX2_readRule 93 = .ok (.istore_n 3, 1) := by decide +kernel
theorem dX2_readRule_94 : decode cX2_readRule 94 = .ok (.aload_n 0, 1) := by decide +kernel
theorem dX2_readRule_95 : decode cX2_readRule 95 = .ok (.invokevirtual 143, 3) := by decide +kernel
theorem dX2_readRule_98 : decode cX2_readRule 98 = .ok (.ifCond .ne 5, 3) := by decide +kernel
theorem dX2_readRule_101 : decode cX2_readRule 101 = .ok (.iconst 0, 1) := by decide +kernel
theorem dX2_readRule_102 : decode cX2_readRule 102 = .ok (.ireturn, 1) := by decide +kernel
theorem dX2_readRule_103 : decode cX2_readRule 103 = .ok (.aload_n 0, 1) := by decide +kernel
theorem dX2_readRule_104 : decode cX2_readRule 104 = .ok (.getfield 15, 3) := by decide +kernel
theorem dX2_readRule_107 : decode cX2_readRule 107 = .ok (.iload_n 1, 1) := by decide +kernel
theorem dX2_readRule_108 : decode cX2_readRule 108 = .ok (.iload_n 2, 1) := by decide +kernel
theorem dX2_readRule_109 : decode cX2_readRule 109 = .ok (.iload_n 3, 1) := by decide +kernel
theorem dX2_readRule_110 : decode cX2_readRule 110 = .ok (.aload_n 0, 1) := by decide +kernel
theorem dX2_readRule_111 : decode cX2_readRule 111 = .ok (.getfield 85, 3) := by decide +kernel
theorem dX2_readRule_114 : decode cX2_readRule 114 = .ok (.invokevirtual 146, 3) := by decide +kernel
theorem dX2_readRule_117 : decode cX2_readRule 117 = .ok (.pop, 1) := by decide +kernel
theorem dX2_readRule_118 : decode cX2_readRule 118 = .ok (.iconst 1, 1) := by decide +kernel
theorem dX2_readRule_119 : decode cX2_readRule 119 = .ok (.ireturn, 1) := by decide +kernel
theorem dX2_takeSide_0 : decode cX2_takeSide 0 = .ok (.aload_n 0, 1) := by decide +kernel
theorem dX2_takeSide_1 : decode cX2_takeSide 1 = .ok (.getfield 9, 3) := by decide +kernel
theorem dX2_takeSide_4 : decode cX2_takeSide 4 = .ok (.ldc 150, 2) := by decide +kernel
theorem dX2_takeSide_6 : decode cX2_takeSide 6 = .ok (.invokevirtual 39, 3) := by decide +kernel
theorem dX2_takeSide_9 : decode cX2_takeSide 9 = .ok (.ifCond .eq 17, 3) := by decide +kernel
theorem dX2_takeSide_12 : decode cX2_takeSide 12 = .ok (.aload_n 0, 1) := by decide +kernel
theorem dX2_takeSide_13 : decode cX2_takeSide 13 = .ok (.iconst 0, 1) := by decide +kernel
theorem dX2_takeSide_14 : decode cX2_takeSide 14 = .ok (.putfield 85, 3) := by decide +kernel
theorem dX2_takeSide_17 : decode cX2_takeSide 17 = .ok (.aload_n 0, 1) := by decide +kernel
theorem dX2_takeSide_18 : decode cX2_takeSide 18 = .ok (.getfield 9, 3) := by decide +kernel
theorem dX2_takeSide_21 : decode cX2_takeSide 21 = .ok (.invokevirtual 78, 3) := by decide +kernel
theorem dX2_takeSide_24 : decode cX2_takeSide 24 = .ok (.iconst 1, 1) := by decide +kernel
theorem dX2_takeSide_25 : decode cX2_takeSide 25 = .ok (.ireturn, 1) := by decide +kernel
theorem dX2_takeSide_26 : decode cX2_takeSide 26 = .ok (.aload_n 0, 1) := by decide +kernel
theorem dX2_takeSide_27 : decode cX2_takeSide 27 = .ok (.iconst 1, 1) := by decide +kernel
theorem dX2_takeSide_28 : decode cX2_takeSide 28 = .ok (.sipush 250, 3) := by decide +kernel
theorem dX2_takeSide_31 : decode cX2_takeSide 31 = .ok (.invokevirtual 81, 3) := by decide +kernel
theorem dX2_takeSide_34 : decode cX2_takeSide 34 = .ok (.ireturn, 1) := by decide +kernel
theorem dX2_readMove_0 : decode cX2_readMove 0 = .ok (.aload_n 0, 1) := by decide +kernel
theorem dX2_readMove_1 : decode cX2_readMove 1 = .ok (.getfield 9, 3) := by decide +kernel
theorem dX2_readMove_4 : decode cX2_readMove 4 = .ok (.invokevirtual 78, 3) := by decide +kernel
theorem dX2_readMove_7 : decode cX2_readMove 7 = .ok (.aload_n 0, 1) := by decide +kernel
theorem dX2_readMove_8 : decode cX2_readMove 8 = .ok (.getfield 9, 3) := by decide +kernel
theorem dX2_readMove_11 : decode cX2_readMove 11 = .ok (.getfield 32, 3) := by decide +kernel
theorem dX2_readMove_14 : decode cX2_readMove 14 = .ok (.iconst 1, 1) := by decide +kernel
theorem dX2_readMove_15 : decode cX2_readMove 15 = .ok (.if_icmp .eq 9, 3) := by decide +kernel
theorem dX2_readMove_18 : decode cX2_readMove 18 = .ok (.aload_n 0, 1) := by decide +kernel
theorem dX2_readMove_19 : decode cX2_readMove 19 = .ok (.iconst 1, 1) := by decide +kernel
theorem dX2_readMove_20 : decode cX2_readMove 20 = .ok (.invokevirtual 56, 3) := by decide +kernel
theorem dX2_readMove_23 : decode cX2_readMove 23 = .ok (.ireturn, 1) := by decide +kernel
theorem dX2_readMove_24 : decode cX2_readMove 24 = .ok (.aload_n 0, 1) := by decide +kernel
theorem dX2_readMove_25 : decode cX2_readMove 25 = .ok (.getfield 15, 3) := by decide +kernel
theorem dX2_readMove_28 : decode cX2_readMove 28 = .ok (.aload_n 0, 1) := by decide +kernel
theorem dX2_readMove_29 : decode cX2_readMove 29 = .ok (.getfield 9, 3) := by decide +kernel
theorem dX2_readMove_32 : decode cX2_readMove 32 = .ok (.invokevirtual 109, 3) := by decide +kernel
theorem dX2_readMove_35 : decode cX2_readMove 35 = .ok (.invokevirtual 113, 3) := by decide +kernel
theorem dX2_readMove_38 : decode cX2_readMove 38 = .ok (.istore_n 1, 1) := by decide +kernel
theorem dX2_readMove_39 : decode cX2_readMove 39 = .ok (.iload_n 1, 1) := by decide +kernel
theorem dX2_readMove_40 : decode cX2_readMove 40 = .ok (.iconst (-1), 1) := by decide +kernel
theorem dX2_readMove_41 : decode cX2_readMove 41 = .ok (.if_icmp .eq 28, 3) := by decide +kernel
theorem dX2_readMove_44 : decode cX2_readMove 44 = .ok (.aload_n 0, 1) := by decide +kernel
theorem dX2_readMove_45 : decode cX2_readMove 45 = .ok (.getfield 15, 3) := by decide +kernel
theorem dX2_readMove_48 : decode cX2_readMove 48 = .ok (.getfield 133, 3) := by decide +kernel
theorem dX2_readMove_51 : decode cX2_readMove 51 = .ok (.iload_n 1, 1) := by decide +kernel
theorem dX2_readMove_52 : decode cX2_readMove 52 = .ok (.iaload, 1) := by decide +kernel
theorem dX2_readMove_53 : decode cX2_readMove 53 = .ok (.iconst 1, 1) := by decide +kernel
theorem dX2_readMove_54 : decode cX2_readMove 54 = .ok (.if_icmp .eq 15, 3) := by decide +kernel
theorem dX2_readMove_57 : decode cX2_readMove 57 = .ok (.aload_n 0, 1) := by decide +kernel
theorem dX2_readMove_58 : decode cX2_readMove 58 = .ok (.getfield 15, 3) := by decide +kernel
theorem dX2_readMove_61 : decode cX2_readMove 61 = .ok (.getfield 152, 3) := by decide +kernel
theorem dX2_readMove_64 : decode cX2_readMove 64 = .ok (.iload_n 1, 1) := by decide +kernel
theorem dX2_readMove_65 : decode cX2_readMove 65 = .ok (.iaload, 1) := by decide +kernel
theorem dX2_readMove_66 : decode cX2_readMove 66 = .ok (.ifCond .eq 9, 3) := by decide +kernel
theorem dX2_readMove_69 : decode cX2_readMove 69 = .ok (.aload_n 0, 1) := by decide +kernel
theorem dX2_readMove_70 : decode cX2_readMove 70 = .ok (.iconst 4, 1) := by decide +kernel
theorem dX2_readMove_71 : decode cX2_readMove 71 = .ok (.invokevirtual 56, 3) := by decide +kernel
theorem dX2_readMove_74 : decode cX2_readMove 74 = .ok (.ireturn, 1) := by decide +kernel
theorem dX2_readMove_75 : decode cX2_readMove 75 = .ok (.aload_n 0, 1) := by decide +kernel
theorem dX2_readMove_76 : decode cX2_readMove 76 = .ok (.getfield 9, 3) := by decide +kernel
theorem dX2_readMove_79 : decode cX2_readMove 79 = .ok (.invokevirtual 78, 3) := by decide +kernel
theorem dX2_readMove_82 : decode cX2_readMove 82 = .ok (.aload_n 0, 1) := by decide +kernel
theorem dX2_readMove_83 : decode cX2_readMove 83 = .ok (.iconst 1, 1) := by decide +kernel
theorem dX2_readMove_84 : decode cX2_readMove 84 = .ok (.sipush 250, 3) := by decide +kernel
theorem dX2_readMove_87 : decode cX2_readMove 87 = .ok (.invokevirtual 81, 3) := by decide +kernel
theorem dX2_readMove_90 : decode cX2_readMove 90 = .ok (.ifCond .ne 5, 3) := by decide +kernel
theorem dX2_readMove_93 : decode cX2_readMove 93 = .ok (.iconst 0, 1) := by decide +kernel
theorem dX2_readMove_94 : decode cX2_readMove 94 = .ok (.ireturn, 1) := by decide +kernel
theorem dX2_readMove_95 : decode cX2_readMove 95 = .ok (.aload_n 0, 1) := by decide +kernel
theorem dX2_readMove_96 : decode cX2_readMove 96 = .ok (.getfield 85, 3) := by decide +kernel
theorem dX2_readMove_99 : decode cX2_readMove 99 = .ok (.istore_n 2, 1) := by decide +kernel
theorem dX2_readMove_100 : decode cX2_readMove 100 = .ok (.aload_n 0, 1) := by decide +kernel
theorem dX2_readMove_101 : decode cX2_readMove 101 = .ok (.iconst 1, 1) := by decide +kernel
theorem dX2_readMove_102 : decode cX2_readMove 102 = .ok (.bipush 9, 2) := by decide +kernel
theorem dX2_readMove_104 : decode cX2_readMove 104 = .ok (.invokevirtual 117, 3) := by decide +kernel
theorem dX2_readMove_107 : decode cX2_readMove 107 = .ok (.ifCond .ne 5, 3) := by decide +kernel
theorem dX2_readMove_110 : decode cX2_readMove 110 = .ok (.iconst 0, 1) := by decide +kernel
theorem dX2_readMove_111 : decode cX2_readMove 111 = .ok (.ireturn, 1) := by decide +kernel
theorem dX2_readMove_112 : decode cX2_readMove 112 = .ok (.aload_n 0, 1) := by decide +kernel
theorem dX2_readMove_113 : decode cX2_readMove 113 = .ok (.getfield 15, 3) := by decide +kernel
theorem dX2_readMove_116 : decode cX2_readMove 116 = .ok (.aload_n 0, 1) := by decide +kernel
theorem dX2_readMove_117 : decode cX2_readMove 117 = .ok (.getfield 9, 3) := by decide +kernel
theorem dX2_readMove_120 : decode cX2_readMove 120 = .ok (.getfield 120, 3) := by decide +kernel
theorem dX2_readMove_123 : decode cX2_readMove 123 = .ok (.invokevirtual 155, 3) := by decide +kernel
theorem dX2_readMove_126 : decode cX2_readMove 126 = .ok (.aload_n 0, 1) := by decide +kernel
theorem dX2_readMove_127 : decode cX2_readMove 127 = .ok (.getfield 15, 3) := by decide +kernel
theorem dX2_readMove_130 : decode cX2_readMove 130 = .ok (.getfield 92, 3) := by decide +kernel
theorem dX2_readMove_133 : decode cX2_readMove 133 = .ok (.if_icmp .lt 9, 3) := by decide +kernel
theorem dX2_readMove_136 : decode cX2_readMove 136 = .ok (.aload_n 0, 1) := by decide +kernel
theorem dX2_readMove_137 : decode cX2_readMove 137 = .ok (.iconst 4, 1) := by decide +kernel
theorem dX2_readMove_138 : decode cX2_readMove 138 = .ok (.invokevirtual 56, 3) := by decide +kernel
theorem dX2_readMove_141 : decode cX2_readMove 141 = .ok (.ireturn, 1) := by decide +kernel
theorem dX2_readMove_142 : decode cX2_readMove 142 = .ok (.aload_n 0, 1) := by decide +kernel
theorem dX2_readMove_143 : decode cX2_readMove 143 = .ok (.getfield 15, 3) := by decide +kernel
theorem dX2_readMove_146 : decode cX2_readMove 146 = .ok (.iload_n 1, 1) := by decide +kernel
theorem dX2_readMove_147 : decode cX2_readMove 147 = .ok (.iload_n 2, 1) := by decide +kernel
theorem dX2_readMove_148 : decode cX2_readMove 148 = .ok (.aload_n 0, 1) := by decide +kernel
theorem dX2_readMove_149 : decode cX2_readMove 149 = .ok (.getfield 9, 3) := by decide +kernel
theorem dX2_readMove_152 : decode cX2_readMove 152 = .ok (.getfield 120, 3) := by decide +kernel
theorem dX2_readMove_155 : decode cX2_readMove 155 = .ok (.invokevirtual 159, 3) := by decide +kernel
theorem dX2_readMove_158 : decode cX2_readMove 158 = .ok (.aload_n 0, 1) := by decide +kernel
theorem dX2_readMove_159 : decode cX2_readMove 159 = .ok (.getfield 9, 3) := by decide +kernel
theorem dX2_readMove_162 : decode cX2_readMove 162 = .ok (.invokevirtual 78, 3) := by decide +kernel
theorem dX2_readMove_165 : decode cX2_readMove 165 = .ok (.iconst 1, 1) := by decide +kernel
theorem dX2_readMove_166 : decode cX2_readMove 166 = .ok (.ireturn, 1) := by decide +kernel
theorem dX2_takeWord_0 : decode cX2_takeWord 0 = .ok (.aload_n 0, 1) := by decide +kernel
theorem dX2_takeWord_1 : decode cX2_takeWord 1 = .ok (.getfield 9, 3) := by decide +kernel
theorem dX2_takeWord_4 : decode cX2_takeWord 4 = .ok (.aload_n 1, 1) := by decide +kernel
theorem dX2_takeWord_5 : decode cX2_takeWord 5 = .ok (.invokevirtual 39, 3) := by decide +kernel
theorem dX2_takeWord_8 : decode cX2_takeWord 8 = .ok (.ifCond .ne 9, 3) := by decide +kernel
theorem dX2_takeWord_11 : decode cX2_takeWord 11 = .ok (.aload_n 0, 1) := by decide +kernel
theorem dX2_takeWord_12 : decode cX2_takeWord 12 = .ok (.iconst 1, 1) := by decide +kernel
theorem dX2_takeWord_13 : decode cX2_takeWord 13 = .ok (.invokevirtual 56, 3) := by decide +kernel
theorem dX2_takeWord_16 : decode cX2_takeWord 16 = .ok (.ireturn, 1) := by decide +kernel
theorem dX2_takeWord_17 : decode cX2_takeWord 17 = .ok (.aload_n 0, 1) := by decide +kernel
theorem dX2_takeWord_18 : decode cX2_takeWord 18 = .ok (.getfield 9, 3) := by decide +kernel
theorem dX2_takeWord_21 : decode cX2_takeWord 21 = .ok (.invokevirtual 78, 3) := by decide +kernel
theorem dX2_takeWord_24 : decode cX2_takeWord 24 = .ok (.iconst 1, 1) := by decide +kernel
theorem dX2_takeWord_25 : decode cX2_takeWord 25 = .ok (.ireturn, 1) := by decide +kernel
theorem dX2_takeSemicolon_0 : decode cX2_takeSemicolon 0 = .ok (.aload_n 0, 1) := by decide +kernel
theorem dX2_takeSemicolon_1 : decode cX2_takeSemicolon 1 = .ok (.getfield 9, 3) := by decide +kernel
theorem dX2_takeSemicolon_4 : decode cX2_takeSemicolon 4 = .ok (.bipush 59, 2) := by decide +kernel
theorem dX2_takeSemicolon_6 : decode cX2_takeSemicolon 6 = .ok (.invokevirtual 163, 3) := by decide +kernel
theorem dX2_takeSemicolon_9 : decode cX2_takeSemicolon 9 = .ok (.ifCond .ne 9, 3) := by decide +kernel
theorem dX2_takeSemicolon_12 : decode cX2_takeSemicolon 12 = .ok (.aload_n 0, 1) := by decide +kernel
theorem dX2_takeSemicolon_13 : decode cX2_takeSemicolon 13 = .ok (.iconst 1, 1) := by decide +kernel
theorem dX2_takeSemicolon_14 : decode cX2_takeSemicolon 14 = .ok (.invokevirtual 56, 3) := by decide +kernel
theorem dX2_takeSemicolon_17 : decode cX2_takeSemicolon 17 = .ok (.ireturn, 1) := by decide +kernel
theorem dX2_takeSemicolon_18 : decode cX2_takeSemicolon 18 = .ok (.aload_n 0, 1) := by decide +kernel
theorem dX2_takeSemicolon_19 : decode cX2_takeSemicolon 19 = .ok (.getfield 9, 3) := by decide +kernel
theorem dX2_takeSemicolon_22 : decode cX2_takeSemicolon 22 = .ok (.invokevirtual 78, 3) := by decide +kernel
theorem dX2_takeSemicolon_25 : decode cX2_takeSemicolon 25 = .ok (.iconst 1, 1) := by decide +kernel
theorem dX2_takeSemicolon_26 : decode cX2_takeSemicolon 26 = .ok (.ireturn, 1) := by decide +kernel
theorem dX2_takeNumber_0 : decode cX2_takeNumber 0 = .ok (.aload_n 0, 1) := by decide +kernel
theorem dX2_takeNumber_1 : decode cX2_takeNumber 1 = .ok (.iload_n 1, 1) := by decide +kernel
theorem dX2_takeNumber_2 : decode cX2_takeNumber 2 = .ok (.iload_n 2, 1) := by decide +kernel
theorem dX2_takeNumber_3 : decode cX2_takeNumber 3 = .ok (.invokevirtual 117, 3) := by decide +kernel
theorem dX2_takeNumber_6 : decode cX2_takeNumber 6 = .ok (.ifCond .ne 5, 3) := by decide +kernel
theorem dX2_takeNumber_9 : decode cX2_takeNumber 9 = .ok (.iconst 0, 1) := by decide +kernel
theorem dX2_takeNumber_10 : decode cX2_takeNumber 10 = .ok (.ireturn, 1) := by decide +kernel
theorem dX2_takeNumber_11 : decode cX2_takeNumber 11 = .ok (.aload_n 0, 1) := by decide +kernel
theorem dX2_takeNumber_12 : decode cX2_takeNumber 12 = .ok (.aload_n 0, 1) := by decide +kernel
theorem dX2_takeNumber_13 : decode cX2_takeNumber 13 = .ok (.getfield 9, 3) := by decide +kernel
theorem dX2_takeNumber_16 : decode cX2_takeNumber 16 = .ok (.getfield 120, 3) := by decide +kernel
theorem dX2_takeNumber_19 : decode cX2_takeNumber 19 = .ok (.putfield 85, 3) := by decide +kernel
theorem dX2_takeNumber_22 : decode cX2_takeNumber 22 = .ok (.aload_n 0, 1) := by decide +kernel
theorem dX2_takeNumber_23 : decode cX2_takeNumber 23 = .ok (.getfield 9, 3) := by decide +kernel
theorem dX2_takeNumber_26 : decode cX2_takeNumber 26 = .ok (.invokevirtual 78, 3) := by decide +kernel
theorem dX2_takeNumber_29 : decode cX2_takeNumber 29 = .ok (.iconst 1, 1) := by decide +kernel
theorem dX2_takeNumber_30 : decode cX2_takeNumber 30 = .ok (.ireturn, 1) := by decide +kernel
theorem dX2_isNumber_0 : decode cX2_isNumber 0 = .ok (.aload_n 0, 1) := by decide +kernel
theorem dX2_isNumber_1 : decode cX2_isNumber 1 = .ok (.getfield 9, 3) := by decide +kernel
theorem dX2_isNumber_4 : decode cX2_isNumber 4 = .ok (.getfield 120, 3) := by decide +kernel
theorem dX2_isNumber_7 : decode cX2_isNumber 7 = .ok (.iload_n 1, 1) := by decide +kernel
theorem dX2_isNumber_8 : decode cX2_isNumber 8 = .ok (.if_icmp .lt 18, 3) := by decide +kernel
theorem dX2_isNumber_11 : decode cX2_isNumber 11 = .ok (.aload_n 0, 1) := by decide +kernel
theorem dX2_isNumber_12 : decode cX2_isNumber 12 = .ok (.getfield 9, 3) := by decide +kernel
theorem dX2_isNumber_15 : decode cX2_isNumber 15 = .ok (.getfield 120, 3) := by decide +kernel
theorem dX2_isNumber_18 : decode cX2_isNumber 18 = .ok (.iload_n 2, 1) := by decide +kernel
theorem dX2_isNumber_19 : decode cX2_isNumber 19 = .ok (.if_icmp .gt 7, 3) := by decide +kernel
theorem dX2_isNumber_22 : decode cX2_isNumber 22 = .ok (.iconst 1, 1) := by decide +kernel
theorem dX2_isNumber_23 : decode cX2_isNumber 23 = .ok (.goto 4, 3) := by decide +kernel
theorem dX2_isNumber_26 : decode cX2_isNumber 26 = .ok (.iconst 0, 1) := by decide +kernel
theorem dX2_isNumber_27 : decode cX2_isNumber 27 = .ok (.istore_n 3, 1) := by decide +kernel
theorem dX2_isNumber_28 : decode cX2_isNumber 28 = .ok (.aload_n 0, 1) := by decide +kernel
theorem dX2_isNumber_29 : decode cX2_isNumber 29 = .ok (.aload_n 0, 1) := by decide +kernel
theorem dX2_isNumber_30 : decode cX2_isNumber 30 = .ok (.getfield 9, 3) := by decide +kernel
theorem dX2_isNumber_33 : decode cX2_isNumber 33 = .ok (.getfield 32, 3) := by decide +kernel
theorem dX2_isNumber_36 : decode cX2_isNumber 36 = .ok (.iconst 2, 1) := by decide +kernel
theorem dX2_isNumber_37 : decode cX2_isNumber 37 = .ok (.if_icmp .eq 7, 3) := by decide +kernel
theorem dX2_isNumber_40 : decode cX2_isNumber 40 = .ok (.iconst 1, 1) := by decide +kernel
theorem dX2_isNumber_41 : decode cX2_isNumber 41 = .ok (.goto 12, 3) := by decide +kernel
theorem dX2_isNumber_44 : decode cX2_isNumber 44 = .ok (.iload_n 3, 1) := by decide +kernel
theorem dX2_isNumber_45 : decode cX2_isNumber 45 = .ok (.ifCond .eq 7, 3) := by decide +kernel
theorem dX2_isNumber_48 : decode cX2_isNumber 48 = .ok (.iconst 0, 1) := by decide +kernel
theorem dX2_isNumber_49 : decode cX2_isNumber 49 = .ok (.goto 4, 3) := by decide +kernel
theorem dX2_isNumber_52 : decode cX2_isNumber 52 = .ok (.iconst 2, 1) := by decide +kernel
theorem dX2_isNumber_53 : decode cX2_isNumber 53 = .ok (.putfield 19, 3) := by decide +kernel
theorem dX2_isNumber_56 : decode cX2_isNumber 56 = .ok (.aload_n 0, 1) := by decide +kernel
theorem dX2_isNumber_57 : decode cX2_isNumber 57 = .ok (.getfield 19, 3) := by decide +kernel
theorem dX2_isNumber_60 : decode cX2_isNumber 60 = .ok (.ifCond .ne 7, 3) := by decide +kernel
theorem dX2_isNumber_63 : decode cX2_isNumber 63 = .ok (.iconst 1, 1) := by decide +kernel
theorem dX2_isNumber_64 : decode cX2_isNumber 64 = .ok (.goto 4, 3) := by decide +kernel
theorem dX2_isNumber_67 : decode cX2_isNumber 67 = .ok (.iconst 0, 1) := by decide +kernel
theorem dX2_isNumber_68 : decode cX2_isNumber 68 = .ok (.ireturn, 1) := by decide +kernel
theorem dX2_fail_0 : decode cX2_fail 0 = .ok (.aload_n 0, 1) := by decide +kernel
theorem dX2_fail_1 : decode cX2_fail 1 = .ok (.iload_n 1, 1) := by decide +kernel
theorem dX2_fail_2 : decode cX2_fail 2 = .ok (.putfield 19, 3) := by decide +kernel
theorem dX2_fail_5 : decode cX2_fail 5 = .ok (.iconst 0, 1) := by decide +kernel
theorem dX2_fail_6 : decode cX2_fail 6 = .ok (.ireturn, 1) := by decide +kernel
theorem dX3_init_0 : decode cX3_init 0 = .ok (.aload_n 0, 1) := by decide +kernel
theorem dX3_init_1 : decode cX3_init 1 = .ok (.invokespecial 3, 3) := by decide +kernel
theorem dX3_init_4 : decode cX3_init 4 = .ok (.aload_n 0, 1) := by decide +kernel
theorem dX3_init_5 : decode cX3_init 5 = .ok (.bipush 40, 2) := by decide +kernel
theorem dX3_init_7 : decode cX3_init 7 = .ok (.newarray .long, 2) := by decide +kernel
theorem dX3_init_9 : decode cX3_init 9 = .ok (.putfield 9, 3) := by decide +kernel
theorem dX3_init_12 : decode cX3_init 12 = .ok (.aload_n 0, 1) := by decide +kernel
theorem dX3_init_13 : decode cX3_init 13 = .ok (.bipush 40, 2) := by decide +kernel
theorem dX3_init_15 : decode cX3_init 15 = .ok (.newarray .int, 2) := by decide +kernel
theorem dX3_init_17 : decode cX3_init 17 = .ok (.putfield 15, 3) := by decide +kernel
theorem dX3_init_20 : decode cX3_init 20 = .ok (.aload_n 0, 1) := by decide +kernel
theorem dX3_init_21 : decode cX3_init 21 = .ok (.bipush 40, 2) := by decide +kernel
theorem dX3_init_23 : decode cX3_init 23 = .ok (.newarray .int, 2) := by decide +kernel
theorem dX3_init_25 : decode cX3_init 25 = .ok (.putfield 19, 3) := by decide +kernel
theorem dX3_init_28 : decode cX3_init 28 = .ok (.aload_n 0, 1) := by decide +kernel
theorem dX3_init_29 : decode cX3_init 29 = .ok (.bipush 40, 2) := by decide +kernel
theorem dX3_init_31 : decode cX3_init 31 = .ok (.newarray .int, 2) := by decide +kernel
theorem dX3_init_33 : decode cX3_init 33 = .ok (.putfield 22, 3) := by decide +kernel
theorem dX3_init_36 : decode cX3_init 36 = .ok (.aload_n 0, 1) := by decide +kernel
theorem dX3_init_37 : decode cX3_init 37 = .ok (.bipush 40, 2) := by decide +kernel
theorem dX3_init_39 : decode cX3_init 39 = .ok (.newarray .int, 2) := by decide +kernel
theorem dX3_init_41 : decode cX3_init 41 = .ok (.putfield 25, 3) := by decide +kernel
theorem dX3_init_44 : decode cX3_init 44 = .ok (.aload_n 0, 1) := by decide +kernel
theorem dX3_init_45 : decode cX3_init 45 = .ok (.bipush 40, 2) := by decide +kernel
theorem dX3_init_47 : decode cX3_init 47 = .ok (.newarray .int, 2) := by decide +kernel
theorem dX3_init_49 : decode cX3_init 49 = .ok (.putfield 28, 3) := by decide +kernel
theorem dX3_init_52 : decode cX3_init 52 = .ok (.aload_n 0, 1) := by decide +kernel
theorem dX3_init_53 : decode cX3_init 53 = .ok (.bipush 40, 2) := by decide +kernel
theorem dX3_init_55 : decode cX3_init 55 = .ok (.newarray .int, 2) := by decide +kernel
theorem dX3_init_57 : decode cX3_init 57 = .ok (.putfield 31, 3) := by decide +kernel
theorem dX3_init_60 : decode cX3_init 60 = .ok (.aload_n 0, 1) := by decide +kernel
theorem dX3_init_61 : decode cX3_init 61 = .ok (.sipush 400, 3) := by decide +kernel
theorem dX3_init_64 : decode cX3_init 64 = .ok (.newarray .int, 2) := by decide +kernel
theorem dX3_init_66 : decode cX3_init 66 = .ok (.putfield 34, 3) := by decide +kernel
theorem dX3_init_69 : decode cX3_init 69 = .ok (.aload_n 0, 1) := by decide +kernel
theorem dX3_init_70 : decode cX3_init 70 = .ok (.bipush 30, 2) := by decide +kernel
theorem dX3_init_72 : decode cX3_init 72 = .ok (.newarray .int, 2) := by decide +kernel
theorem dX3_init_74 : decode cX3_init 74 = .ok (.putfield 37, 3) := by decide +kernel
theorem dX3_init_77 : decode cX3_init 77 = .ok (.aload_n 0, 1) := by decide +kernel
theorem dX3_init_78 : decode cX3_init 78 = .ok (.bipush 30, 2) := by decide +kernel
theorem dX3_init_80 : decode cX3_init 80 = .ok (.newarray .int, 2) := by decide +kernel
theorem dX3_init_82 : decode cX3_init 82 = .ok (.putfield 40, 3) := by decide +kernel
theorem dX3_init_85 : decode cX3_init 85 = .ok (.aload_n 0, 1) := by decide +kernel
theorem dX3_init_86 : decode cX3_init 86 = .ok (.bipush 30, 2) := by decide +kernel
theorem dX3_init_88 : decode cX3_init 88 = .ok (.newarray .int, 2) := by decide +kernel
theorem dX3_init_90 : decode cX3_init 90 = .ok (.putfield 43, 3) := by decide +kernel
theorem dX3_init_93 : decode cX3_init 93 = .ok (.aload_n 0, 1) := by decide +kernel
theorem dX3_init_94 : decode cX3_init 94 = .ok (.bipush 30, 2) := by decide +kernel
theorem dX3_init_96 : decode cX3_init 96 = .ok (.newarray .int, 2) := by decide +kernel
theorem dX3_init_98 : decode cX3_init 98 = .ok (.putfield 46, 3) := by decide +kernel
theorem dX3_init_101 : decode cX3_init 101 = .ok (.return_, 1) := by decide +kernel
theorem dX3_clear_0 : decode cX3_clear 0 = .ok (.aload_n 0, 1) := by decide +kernel
theorem dX3_clear_1 : decode cX3_clear 1 = .ok (.iconst 0, 1) := by decide +kernel
theorem dX3_clear_2 : decode cX3_clear 2 = .ok (.putfield 49, 3) := by decide +kernel
theorem dX3_clear_5 : decode cX3_clear 5 = .ok (.aload_n 0, 1) := by decide +kernel
theorem dX3_clear_6 : decode cX3_clear 6 = .ok (.iconst 0, 1) := by decide +kernel
theorem dX3_clear_7 : decode cX3_clear 7 = .ok (.putfield 53, 3) := by decide +kernel
theorem dX3_clear_10 : decode cX3_clear 10 = .ok (.aload_n 0, 1) := by decide +kernel
theorem dX3_clear_11 : decode cX3_clear 11 = .ok (.iconst 0, 1) := by decide +kernel
theorem dX3_clear_12 : decode cX3_clear 12 = .ok (.putfield 56, 3) := by decide +kernel
theorem dX3_clear_15 : decode cX3_clear 15 = .ok (.aload_n 0, 1) := by decide +kernel
theorem dX3_clear_16 : decode cX3_clear 16 = .ok (.iconst 1, 1) := by decide +kernel
theorem dX3_clear_17 : decode cX3_clear 17 = .ok (.putfield 59, 3) := by decide +kernel
theorem dX3_clear_20 : decode cX3_clear 20 = .ok (.aload_n 0, 1) := by decide +kernel
theorem dX3_clear_21 : decode cX3_clear 21 = .ok (.iconst 3, 1) := by decide +kernel
theorem dX3_clear_22 : decode cX3_clear 22 = .ok (.putfield 62, 3) := by decide +kernel
theorem dX3_clear_25 : decode cX3_clear 25 = .ok (.aload_n 0, 1) := by decide +kernel
theorem dX3_clear_26 : decode cX3_clear 26 = .ok (.sipush 200, 3) := by decide +kernel
theorem dX3_clear_29 : decode cX3_clear 29 = .ok (.putfield 65, 3) := by decide +kernel
theorem dX3_clear_32 : decode cX3_clear 32 = .ok (.aload_n 0, 1) := by decide +kernel
theorem dX3_clear_33 : decode cX3_clear 33 = .ok (.sipush 250, 3) := by decide +kernel
theorem dX3_clear_36 : decode cX3_clear 36 = .ok (.putfield 68, 3) := by decide +kernel
theorem dX3_clear_39 : decode cX3_clear 39 = .ok (.aload_n 0, 1) := by decide +kernel
theorem dX3_clear_40 : decode cX3_clear 40 = .ok (.iconst 0, 1) := by decide +kernel
theorem dX3_clear_41 : decode cX3_clear 41 = .ok (.putfield 71, 3) := by decide +kernel
theorem dX3_clear_44 : decode cX3_clear 44 = .ok (.return_, 1) := by decide +kernel
theorem dX3_copyFrom_0 : decode cX3_copyFrom 0 = .ok (.aload_n 0, 1) := by decide +kernel
theorem dX3_copyFrom_1 : decode cX3_copyFrom 1 = .ok (.aload_n 1, 1) := by decide +kernel
theorem dX3_copyFrom_2 : decode cX3_copyFrom 2 = .ok (.getfield 49, 3) := by decide +kernel
theorem dX3_copyFrom_5 : decode cX3_copyFrom 5 = .ok (.putfield 49, 3) := by decide +kernel
theorem dX3_copyFrom_8 : decode cX3_copyFrom 8 = .ok (.aload_n 0, 1) := by decide +kernel
theorem dX3_copyFrom_9 : decode cX3_copyFrom 9 = .ok (.aload_n 1, 1) := by decide +kernel
theorem dX3_copyFrom_10 : decode cX3_copyFrom 10 = .ok (.getfield 53, 3) := by decide +kernel
theorem dX3_copyFrom_13 : decode cX3_copyFrom 13 = .ok (.putfield 53, 3) := by decide +kernel
theorem dX3_copyFrom_16 : decode cX3_copyFrom 16 = .ok (.aload_n 0, 1) := by decide +kernel
theorem dX3_copyFrom_17 : decode cX3_copyFrom 17 = .ok (.aload_n 1, 1) := by decide +kernel
theorem dX3_copyFrom_18 : decode cX3_copyFrom 18 = .ok (.getfield 56, 3) := by decide +kernel
theorem dX3_copyFrom_21 : decode cX3_copyFrom 21 = .ok (.putfield 56, 3) := by decide +kernel
theorem dX3_copyFrom_24 : decode cX3_copyFrom 24 = .ok (.aload_n 0, 1) := by decide +kernel
theorem dX3_copyFrom_25 : decode cX3_copyFrom 25 = .ok (.aload_n 1, 1) := by decide +kernel
theorem dX3_copyFrom_26 : decode cX3_copyFrom 26 = .ok (.getfield 59, 3) := by decide +kernel
theorem dX3_copyFrom_29 : decode cX3_copyFrom 29 = .ok (.putfield 59, 3) := by decide +kernel
theorem dX3_copyFrom_32 : decode cX3_copyFrom 32 = .ok (.aload_n 0, 1) := by decide +kernel
theorem dX3_copyFrom_33 : decode cX3_copyFrom 33 = .ok (.aload_n 1, 1) := by decide +kernel
theorem dX3_copyFrom_34 : decode cX3_copyFrom 34 = .ok (.getfield 62, 3) := by decide +kernel
theorem dX3_copyFrom_37 : decode cX3_copyFrom 37 = .ok (.putfield 62, 3) := by decide +kernel
theorem dX3_copyFrom_40 : decode cX3_copyFrom 40 = .ok (.aload_n 0, 1) := by decide +kernel
theorem dX3_copyFrom_41 : decode cX3_copyFrom 41 = .ok (.aload_n 1, 1) := by decide +kernel
theorem dX3_copyFrom_42 : decode cX3_copyFrom 42 = .ok (.getfield 65, 3) := by decide +kernel
theorem dX3_copyFrom_45 : decode cX3_copyFrom 45 = .ok (.putfield 65, 3) := by decide +kernel
theorem dX3_copyFrom_48 : decode cX3_copyFrom 48 = .ok (.aload_n 0, 1) := by decide +kernel
theorem dX3_copyFrom_49 : decode cX3_copyFrom 49 = .ok (.aload_n 1, 1) := by decide +kernel
theorem dX3_copyFrom_50 : decode cX3_copyFrom 50 = .ok (.getfield 68, 3) := by decide +kernel
theorem dX3_copyFrom_53 : decode cX3_copyFrom 53 = .ok (.putfield 68, 3) := by decide +kernel
theorem dX3_copyFrom_56 : decode cX3_copyFrom 56 = .ok (.aload_n 0, 1) := by decide +kernel
theorem dX3_copyFrom_57 : decode cX3_copyFrom 57 = .ok (.aload_n 1, 1) := by decide +kernel
theorem dX3_copyFrom_58 : decode cX3_copyFrom 58 = .ok (.getfield 71, 3) := by decide +kernel
theorem dX3_copyFrom_61 : decode cX3_copyFrom 61 = .ok (.putfield 71, 3) := by decide +kernel
theorem dX3_copyFrom_64 : decode cX3_copyFrom 64 = .ok (.aload_n 1, 1) := by decide +kernel
theorem dX3_copyFrom_65 : decode cX3_copyFrom 65 = .ok (.getfield 9, 3) := by decide +kernel
theorem dX3_copyFrom_68 : decode cX3_copyFrom 68 = .ok (.iconst 0, 1) := by decide +kernel
theorem dX3_copyFrom_69 : decode cX3_copyFrom 69 = .ok (.aload_n 0, 1) := by decide +kernel
theorem dX3_copyFrom_70 : decode cX3_copyFrom 70 = .ok (.getfield 9, 3) := by decide +kernel
theorem dX3_copyFrom_73 : decode cX3_copyFrom 73 = .ok (.iconst 0, 1) := by decide +kernel
theorem dX3_copyFrom_74 : decode cX3_copyFrom 74 = .ok (.bipush 40, 2) := by decide +kernel
theorem dX3_copyFrom_76 : decode cX3_copyFrom 76 = .ok (.invokestatic 75, 3) := by decide +kernel
theorem dX3_copyFrom_79 : decode cX3_copyFrom 79 = .ok (.aload_n 1, 1) := by decide +kernel
theorem dX3_copyFrom_80 : decode cX3_copyFrom 80 = .ok (.getfield 15, 3) := by decide +kernel
theorem dX3_copyFrom_83 : decode cX3_copyFrom 83 = .ok (.iconst 0, 1) := by decide +kernel
theorem dX3_copyFrom_84 : decode cX3_copyFrom 84 = .ok (.aload_n 0, 1) := by decide +kernel
theorem dX3_copyFrom_85 : decode cX3_copyFrom 85 = .ok (.getfield 15, 3) := by decide +kernel
theorem dX3_copyFrom_88 : decode cX3_copyFrom 88 = .ok (.iconst 0, 1) := by decide +kernel
theorem dX3_copyFrom_89 : decode cX3_copyFrom 89 = .ok (.bipush 40, 2) := by decide +kernel
theorem dX3_copyFrom_91 : decode cX3_copyFrom 91 = .ok (.invokestatic 75, 3) := by decide +kernel
theorem dX3_copyFrom_94 : decode cX3_copyFrom 94 = .ok (.aload_n 1, 1) := by decide +kernel
theorem dX3_copyFrom_95 : decode cX3_copyFrom 95 = .ok (.getfield 19, 3) := by decide +kernel
theorem dX3_copyFrom_98 : decode cX3_copyFrom 98 = .ok (.iconst 0, 1) := by decide +kernel
theorem dX3_copyFrom_99 : decode cX3_copyFrom 99 = .ok (.aload_n 0, 1) := by decide +kernel
theorem dX3_copyFrom_100 : decode cX3_copyFrom 100 = .ok (.getfield 19, 3) := by decide +kernel
theorem dX3_copyFrom_103 : decode cX3_copyFrom 103 = .ok (.iconst 0, 1) := by decide +kernel
theorem dX3_copyFrom_104 : decode cX3_copyFrom 104 = .ok (.bipush 40, 2) := by decide +kernel
theorem dX3_copyFrom_106 : decode cX3_copyFrom 106 = .ok (.invokestatic 75, 3) := by decide +kernel
theorem dX3_copyFrom_109 : decode cX3_copyFrom 109 = .ok (.aload_n 1, 1) := by decide +kernel
theorem dX3_copyFrom_110 : decode cX3_copyFrom 110 = .ok (.getfield 22, 3) := by decide +kernel
theorem dX3_copyFrom_113 : decode cX3_copyFrom 113 = .ok (.iconst 0, 1) := by decide +kernel
theorem dX3_copyFrom_114 : decode cX3_copyFrom 114 = .ok (.aload_n 0, 1) := by decide +kernel
theorem dX3_copyFrom_115 : decode cX3_copyFrom 115 = .ok (.getfield 22, 3) := by decide +kernel
theorem dX3_copyFrom_118 : decode cX3_copyFrom 118 = .ok (.iconst 0, 1) := by decide +kernel
theorem dX3_copyFrom_119 : decode cX3_copyFrom 119 = .ok (.bipush 40, 2) := by decide +kernel
theorem dX3_copyFrom_121 : decode cX3_copyFrom 121 = .ok (.invokestatic 75, 3) := by decide +kernel
theorem dX3_copyFrom_124 : decode cX3_copyFrom 124 = .ok (.aload_n 1, 1) := by decide +kernel
theorem dX3_copyFrom_125 : decode cX3_copyFrom 125 = .ok (.getfield 25, 3) := by decide +kernel
theorem dX3_copyFrom_128 : decode cX3_copyFrom 128 = .ok (.iconst 0, 1) := by decide +kernel
theorem dX3_copyFrom_129 : decode cX3_copyFrom 129 = .ok (.aload_n 0, 1) := by decide +kernel
theorem dX3_copyFrom_130 : decode cX3_copyFrom 130 = .ok (.getfield 25, 3) := by decide +kernel
theorem dX3_copyFrom_133 : decode cX3_copyFrom 133 = .ok (.iconst 0, 1) := by decide +kernel
theorem dX3_copyFrom_134 : decode cX3_copyFrom 134 = .ok (.bipush 40, 2) := by decide +kernel
theorem dX3_copyFrom_136 : decode cX3_copyFrom 136 = .ok (.invokestatic 75, 3) := by decide +kernel
theorem dX3_copyFrom_139 : decode cX3_copyFrom 139 = .ok (.aload_n 1, 1) := by decide +kernel
theorem dX3_copyFrom_140 : decode cX3_copyFrom 140 = .ok (.getfield 28, 3) := by decide +kernel
theorem dX3_copyFrom_143 : decode cX3_copyFrom 143 = .ok (.iconst 0, 1) := by decide +kernel
theorem dX3_copyFrom_144 : decode cX3_copyFrom 144 = .ok (.aload_n 0, 1) := by decide +kernel
theorem dX3_copyFrom_145 : decode cX3_copyFrom 145 = .ok (.getfield 28, 3) := by decide +kernel
theorem dX3_copyFrom_148 : decode cX3_copyFrom 148 = .ok (.iconst 0, 1) := by decide +kernel
theorem dX3_copyFrom_149 : decode cX3_copyFrom 149 = .ok (.bipush 40, 2) := by decide +kernel
theorem dX3_copyFrom_151 : decode cX3_copyFrom 151 = .ok (.invokestatic 75, 3) := by decide +kernel
theorem dX3_copyFrom_154 : decode cX3_copyFrom 154 = .ok (.aload_n 1, 1) := by decide +kernel
theorem dX3_copyFrom_155 : decode cX3_copyFrom 155 = .ok (.getfield 31, 3) := by decide +kernel
theorem dX3_copyFrom_158 : decode cX3_copyFrom 158 = .ok (.iconst 0, 1) := by decide +kernel
theorem dX3_copyFrom_159 : decode cX3_copyFrom 159 = .ok (.aload_n 0, 1) := by decide +kernel
theorem dX3_copyFrom_160 : decode cX3_copyFrom 160 = .ok (.getfield 31, 3) := by decide +kernel
theorem dX3_copyFrom_163 : decode cX3_copyFrom 163 = .ok (.iconst 0, 1) := by decide +kernel
theorem dX3_copyFrom_164 : decode cX3_copyFrom 164 = .ok (.bipush 40, 2) := by decide +kernel
theorem dX3_copyFrom_166 : decode cX3_copyFrom 166 = .ok (.invokestatic 75, 3) := by decide +kernel
theorem dX3_copyFrom_169 : decode cX3_copyFrom 169 = .ok (.aload_n 1, 1) := by decide +kernel
theorem dX3_copyFrom_170 : decode cX3_copyFrom 170 = .ok (.getfield 34, 3) := by decide +kernel
theorem dX3_copyFrom_173 : decode cX3_copyFrom 173 = .ok (.iconst 0, 1) := by decide +kernel
theorem dX3_copyFrom_174 : decode cX3_copyFrom 174 = .ok (.aload_n 0, 1) := by decide +kernel
theorem dX3_copyFrom_175 : decode cX3_copyFrom 175 = .ok (.getfield 34, 3) := by decide +kernel
theorem dX3_copyFrom_178 : decode cX3_copyFrom 178 = .ok (.iconst 0, 1) := by decide +kernel
theorem dX3_copyFrom_179 : decode cX3_copyFrom 179 = .ok (.sipush 400, 3) := by decide +kernel
theorem dX3_copyFrom_182 : decode cX3_copyFrom 182 = .ok (.invokestatic 75, 3) := by decide +kernel
theorem dX3_copyFrom_185 : decode cX3_copyFrom 185 = .ok (.aload_n 1, 1) := by decide +kernel
theorem dX3_copyFrom_186 : decode cX3_copyFrom 186 = .ok (.getfield 37, 3) := by decide +kernel
theorem dX3_copyFrom_189 : decode cX3_copyFrom 189 = .ok (.iconst 0, 1) := by decide +kernel
theorem dX3_copyFrom_190 : decode cX3_copyFrom 190 = .ok (.aload_n 0, 1) := by decide +kernel
theorem dX3_copyFrom_191 : decode cX3_copyFrom 191 = .ok (.getfield 37, 3) := by decide +kernel
theorem dX3_copyFrom_194 : decode cX3_copyFrom 194 = .ok (.iconst 0, 1) := by decide +kernel
theorem dX3_copyFrom_195 : decode cX3_copyFrom 195 = .ok (.bipush 30, 2) := by decide +kernel
theorem dX3_copyFrom_197 : decode cX3_copyFrom 197 = .ok (.invokestatic 75, 3) := by decide +kernel
theorem dX3_copyFrom_200 : decode cX3_copyFrom 200 = .ok (.aload_n 1, 1) := by decide +kernel
theorem dX3_copyFrom_201 : decode cX3_copyFrom 201 = .ok (.getfield 40, 3) := by decide +kernel
theorem dX3_copyFrom_204 : decode cX3_copyFrom 204 = .ok (.iconst 0, 1) := by decide +kernel
theorem dX3_copyFrom_205 : decode cX3_copyFrom 205 = .ok (.aload_n 0, 1) := by decide +kernel
theorem dX3_copyFrom_206 : decode cX3_copyFrom 206 = .ok (.getfield 40, 3) := by decide +kernel
theorem dX3_copyFrom_209 : decode cX3_copyFrom 209 = .ok (.iconst 0, 1) := by decide +kernel
theorem dX3_copyFrom_210 : decode cX3_copyFrom 210 = .ok (.bipush 30, 2) := by decide +kernel
theorem dX3_copyFrom_212 : decode cX3_copyFrom 212 = .ok (.invokestatic 75, 3) := by decide +kernel
theorem dX3_copyFrom_215 : decode cX3_copyFrom 215 = .ok (.aload_n 1, 1) := by decide +kernel
theorem dX3_copyFrom_216 : decode cX3_copyFrom 216 = .ok (.getfield 43, 3) := by decide +kernel
theorem dX3_copyFrom_219 : decode cX3_copyFrom 219 = .ok (.iconst 0, 1) := by decide +kernel
theorem dX3_copyFrom_220 : decode cX3_copyFrom 220 = .ok (.aload_n 0, 1) := by decide +kernel
theorem dX3_copyFrom_221 : decode cX3_copyFrom 221 = .ok (.getfield 43, 3) := by decide +kernel
theorem dX3_copyFrom_224 : decode cX3_copyFrom 224 = .ok (.iconst 0, 1) := by decide +kernel
theorem dX3_copyFrom_225 : decode cX3_copyFrom 225 = .ok (.bipush 30, 2) := by decide +kernel
theorem dX3_copyFrom_227 : decode cX3_copyFrom 227 = .ok (.invokestatic 75, 3) := by decide +kernel
theorem dX3_copyFrom_230 : decode cX3_copyFrom 230 = .ok (.aload_n 1, 1) := by decide +kernel
theorem dX3_copyFrom_231 : decode cX3_copyFrom 231 = .ok (.getfield 46, 3) := by decide +kernel
theorem dX3_copyFrom_234 : decode cX3_copyFrom 234 = .ok (.iconst 0, 1) := by decide +kernel
theorem dX3_copyFrom_235 : decode cX3_copyFrom 235 = .ok (.aload_n 0, 1) := by decide +kernel
theorem dX3_copyFrom_236 : decode cX3_copyFrom 236 = .ok (.getfield 46, 3) := by decide +kernel
theorem dX3_copyFrom_239 : decode cX3_copyFrom 239 = .ok (.iconst 0, 1) := by decide +kernel
theorem dX3_copyFrom_240 : decode cX3_copyFrom 240 = .ok (.bipush 30, 2) := by decide +kernel
theorem dX3_copyFrom_242 : decode cX3_copyFrom 242 = .ok (.invokestatic 75, 3) := by decide +kernel
theorem dX3_copyFrom_245 : decode cX3_copyFrom 245 = .ok (.return_, 1) := by decide +kernel
theorem dX3_appendHost_0 : decode cX3_appendHost 0 = .ok (.aload_n 0, 1) := by decide +kernel
theorem dX3_appendHost_1 : decode cX3_appendHost 1 = .ok (.getfield 49, 3) := by decide +kernel
theorem dX3_appendHost_4 : decode cX3_appendHost 4 = .ok (.bipush 40, 2) := by decide +kernel
theorem dX3_appendHost_6 : decode cX3_appendHost 6 = .ok (.if_icmp .lt 5, 3) := by decide +kernel
theorem dX3_appendHost_9 : decode cX3_appendHost 9 = .ok (.iconst (-1), 1) := by decide +kernel
theorem dX3_appendHost_10 : decode cX3_appendHost 10 = .ok (.ireturn, 1) := by decide +kernel
theorem dX3_appendHost_11 : decode cX3_appendHost 11 = .ok (.aload_n 0, 1) := by decide +kernel
theorem dX3_appendHost_12 : decode cX3_appendHost 12 = .ok (.getfield 49, 3) := by decide +kernel
theorem dX3_appendHost_15 : decode cX3_appendHost 15 = .ok (.istore 5, 2) := by decide +kernel
theorem dX3_appendHost_17 : decode cX3_appendHost 17 = .ok (.aload_n 0, 1) := by decide +kernel
theorem dX3_appendHost_18 : decode cX3_appendHost 18 = .ok (.dup, 1) := by decide +kernel
theorem dX3_appendHost_19 : decode cX3_appendHost 19 = .ok (.getfield 49, 3) := by decide +kernel
theorem dX3_appendHost_22 : decode cX3_appendHost 22 = .ok (.iconst 1, 1) := by decide +kernel
theorem dX3_appendHost_23 : decode cX3_appendHost 23 = .ok (.iadd, 1) := by decide +kernel
theorem dX3_appendHost_24 : decode cX3_appendHost 24 = .ok (.putfield 49, 3) := by decide +kernel
theorem dX3_appendHost_27 : decode cX3_appendHost 27 = .ok (.aload_n 0, 1) := by decide +kernel
theorem dX3_appendHost_28 : decode cX3_appendHost 28 = .ok (.getfield 9, 3) := by decide +kernel
theorem dX3_appendHost_31 : decode cX3_appendHost 31 = .ok (.iload 5, 2) := by decide +kernel
theorem dX3_appendHost_33 : decode cX3_appendHost 33 = .ok (.lload_n 1, 1) := by decide +kernel
theorem dX3_appendHost_34 : decode cX3_appendHost 34 = .ok (.lastore, 1) := by decide +kernel
theorem dX3_appendHost_35 : decode cX3_appendHost 35 = .ok (.aload_n 0, 1) := by decide +kernel
theorem dX3_appendHost_36 : decode cX3_appendHost 36 = .ok (.getfield 15, 3) := by decide +kernel
theorem dX3_appendHost_39 : decode cX3_appendHost 39 = .ok (.iload 5, 2) := by decide +kernel
theorem dX3_appendHost_41 : decode cX3_appendHost 41 = .ok (.iload_n 3, 1) := by decide +kernel
theorem dX3_appendHost_42 : decode cX3_appendHost 42 = .ok (.iastore, 1) := by decide +kernel
theorem dX3_appendHost_43 : decode cX3_appendHost 43 = .ok (.aload_n 0, 1) := by decide +kernel
theorem dX3_appendHost_44 : decode cX3_appendHost 44 = .ok (.getfield 19, 3) := by decide +kernel
theorem dX3_appendHost_47 : decode cX3_appendHost 47 = .ok (.iload 5, 2) := by decide +kernel
theorem dX3_appendHost_49 : decode cX3_appendHost 49 = .ok (.iload 4, 2) := by decide +kernel
theorem dX3_appendHost_51 : decode cX3_appendHost 51 = .ok (.iastore, 1) := by decide +kernel
theorem dX3_appendHost_52 : decode cX3_appendHost 52 = .ok (.aload_n 0, 1) := by decide +kernel
theorem dX3_appendHost_53 : decode cX3_appendHost 53 = .ok (.getfield 22, 3) := by decide +kernel
theorem dX3_appendHost_56 : decode cX3_appendHost 56 = .ok (.iload 5, 2) := by decide +kernel
theorem dX3_appendHost_58 : decode cX3_appendHost 58 = .ok (.iconst 0, 1) := by decide +kernel
theorem dX3_appendHost_59 : decode cX3_appendHost 59 = .ok (.iastore, 1) := by decide +kernel
theorem dX3_appendHost_60 : decode cX3_appendHost 60 = .ok (.aload_n 0, 1) := by decide +kernel
theorem dX3_appendHost_61 : decode cX3_appendHost 61 = .ok (.getfield 25, 3) := by decide +kernel
theorem dX3_appendHost_64 : decode cX3_appendHost 64 = .ok (.iload 5, 2) := by decide +kernel
theorem dX3_appendHost_66 : decode cX3_appendHost 66 = .ok (.iconst 0, 1) := by decide +kernel
theorem dX3_appendHost_67 : decode cX3_appendHost 67 = .ok (.iastore, 1) := by decide +kernel
theorem dX3_appendHost_68 : decode cX3_appendHost 68 = .ok (.aload_n 0, 1) := by decide +kernel
theorem dX3_appendHost_69 : decode cX3_appendHost 69 = .ok (.getfield 28, 3) := by decide +kernel
theorem dX3_appendHost_72 : decode cX3_appendHost 72 = .ok (.iload 5, 2) := by decide +kernel
theorem dX3_appendHost_74 : decode cX3_appendHost 74 = .ok (.iconst 0, 1) := by decide +kernel
theorem dX3_appendHost_75 : decode cX3_appendHost 75 = .ok (.iastore, 1) := by decide +kernel
theorem dX3_appendHost_76 : decode cX3_appendHost 76 = .ok (.aload_n 0, 1) := by decide +kernel
theorem dX3_appendHost_77 : decode cX3_appendHost 77 = .ok (.getfield 31, 3) := by decide +kernel
theorem dX3_appendHost_80 : decode cX3_appendHost 80 = .ok (.iload 5, 2) := by decide +kernel
theorem dX3_appendHost_82 : decode cX3_appendHost 82 = .ok (.iconst 0, 1) := by decide +kernel
theorem dX3_appendHost_83 : decode cX3_appendHost 83 = .ok (.iastore, 1) := by decide +kernel
theorem dX3_appendHost_84 : decode cX3_appendHost 84 = .ok (.iconst 0, 1) := by decide +kernel
theorem dX3_appendHost_85 : decode cX3_appendHost 85 = .ok (.istore 6, 2) := by decide +kernel
theorem dX3_appendHost_87 : decode cX3_appendHost 87 = .ok (.iload 6, 2) := by decide +kernel
theorem dX3_appendHost_89 : decode cX3_appendHost 89 = .ok (.bipush 10, 2) := by decide +kernel
theorem dX3_appendHost_91 : decode cX3_appendHost 91 = .ok (.if_icmp .ge 23, 3) := by decide +kernel
theorem dX3_appendHost_94 : decode cX3_appendHost 94 = .ok (.aload_n 0, 1) := by decide +kernel
theorem dX3_appendHost_95 : decode cX3_appendHost 95 = .ok (.getfield 34, 3) := by decide +kernel
theorem dX3_appendHost_98 : decode cX3_appendHost 98 = .ok (.iload 5, 2) := by decide +kernel
theorem dX3_appendHost_100 : decode cX3_appendHost 100 = .ok (.bipush 10, 2) := by decide +kernel
theorem dX3_appendHost_102 : decode cX3_appendHost 102 = .ok (.imul, 1) := by decide +kernel
theorem dX3_appendHost_103 : decode cX3_appendHost 103 = .ok (.iload 6, 2) := by decide +kernel
theorem dX3_appendHost_105 : decode cX3_appendHost 105 = .ok (.iadd, 1) := by decide +kernel
theorem dX3_appendHost_106 : decode cX3_appendHost 106 = .ok (.iconst 0, 1) := by decide +kernel
theorem dX3_appendHost_107 : decode cX3_appendHost 107 = .ok (.iastore, 1) := by decide +kernel
theorem dX3_appendHost_108 : decode cX3_appendHost 108 = .ok (.iinc 6 1, 3) := by decide +kernel
theorem dX3_appendHost_111 : decode cX3_appendHost 111 = .ok (.goto (-24), 3) := by decide +kernel
theorem dX3_appendHost_114 : decode cX3_appendHost 114 = .ok (.iload 5, 2) := by decide +kernel
theorem dX3_appendHost_116 : decode cX3_appendHost 116 = .ok (.ireturn, 1) := by decide +kernel
theorem dX3_dropHost_0 : decode cX3_dropHost 0 = .ok (.aload_n 0, 1) := by decide +kernel
theorem dX3_dropHost_1 : decode cX3_dropHost 1 = .ok (.getfield 49, 3) := by decide +kernel
theorem dX3_dropHost_4 : decode cX3_dropHost 4 = .ok (.iload_n 1, 1) := by decide +kernel
theorem dX3_dropHost_5 : decode cX3_dropHost 5 = .ok (.isub, 1) := by decide +kernel
theorem dX3_dropHost_6 : decode cX3_dropHost 6 = .ok (.iconst 1, 1) := by decide +kernel
theorem dX3_dropHost_7 : decode cX3_dropHost 7 = .ok (.isub, 1) := by decide +kernel
theorem dX3_dropHost_8 : decode cX3_dropHost 8 = .ok (.istore_n 2, 1) := by decide +kernel
theorem dX3_dropHost_9 : decode cX3_dropHost 9 = .ok (.iload_n 1, 1) := by decide +kernel
theorem dX3_dropHost_10 : decode cX3_dropHost 10 = .ok (.ifCond .lt 7, 3) := by decide +kernel
theorem dX3_dropHost_13 : decode cX3_dropHost 13 = .ok (.iload_n 2, 1) := by decide +kernel
theorem dX3_dropHost_14 : decode cX3_dropHost 14 = .ok (.ifCond .ge 4, 3) := by decide +kernel
theorem dX3_dropHost_17 : decode cX3_dropHost 17 = .ok (.return_, 1) := by decide +kernel
theorem dX3_dropHost_18 : decode cX3_dropHost 18 = .ok (.aload_n 0, 1) := by decide +kernel
theorem dX3_dropHost_19 : decode cX3_dropHost 19 = .ok (.getfield 9, 3) := by decide +kernel
theorem dX3_dropHost_22 : decode cX3_dropHost 22 = .ok (.iload_n 1, 1) := by decide +kernel
theorem dX3_dropHost_23 : decode cX3_dropHost 23 = .ok (.iconst 1, 1) := by decide +kernel
theorem dX3_dropHost_24 : decode cX3_dropHost 24 = .ok (.iadd, 1) := by decide +kernel
theorem dX3_dropHost_25 : decode cX3_dropHost 25 = .ok (.aload_n 0, 1) := by decide +kernel
theorem dX3_dropHost_26 : decode cX3_dropHost 26 = .ok (.getfield 9, 3) := by decide +kernel
theorem dX3_dropHost_29 : decode cX3_dropHost 29 = .ok (.iload_n 1, 1) := by decide +kernel
theorem dX3_dropHost_30 : decode cX3_dropHost 30 = .ok (.iload_n 2, 1) := by decide +kernel
theorem dX3_dropHost_31 : decode cX3_dropHost 31 = .ok (.invokestatic 75, 3) := by decide +kernel
theorem dX3_dropHost_34 : decode cX3_dropHost 34 = .ok (.aload_n 0, 1) := by decide +kernel
theorem dX3_dropHost_35 : decode cX3_dropHost 35 = .ok (.getfield 15, 3) := by decide +kernel
theorem dX3_dropHost_38 : decode cX3_dropHost 38 = .ok (.iload_n 1, 1) := by decide +kernel
theorem dX3_dropHost_39 : decode cX3_dropHost 39 = .ok (.iconst 1, 1) := by decide +kernel
theorem dX3_dropHost_40 : decode cX3_dropHost 40 = .ok (.iadd, 1) := by decide +kernel
theorem dX3_dropHost_41 : decode cX3_dropHost 41 = .ok (.aload_n 0, 1) := by decide +kernel
theorem dX3_dropHost_42 : decode cX3_dropHost 42 = .ok (.getfield 15, 3) := by decide +kernel
theorem dX3_dropHost_45 : decode cX3_dropHost 45 = .ok (.iload_n 1, 1) := by decide +kernel
theorem dX3_dropHost_46 : decode cX3_dropHost 46 = .ok (.iload_n 2, 1) := by decide +kernel
theorem dX3_dropHost_47 : decode cX3_dropHost 47 = .ok (.invokestatic 75, 3) := by decide +kernel
theorem dX3_dropHost_50 : decode cX3_dropHost 50 = .ok (.aload_n 0, 1) := by decide +kernel
theorem dX3_dropHost_51 : decode cX3_dropHost 51 = .ok (.getfield 19, 3) := by decide +kernel
theorem dX3_dropHost_54 : decode cX3_dropHost 54 = .ok (.iload_n 1, 1) := by decide +kernel
theorem dX3_dropHost_55 : decode cX3_dropHost 55 = .ok (.iconst 1, 1) := by decide +kernel
theorem dX3_dropHost_56 : decode cX3_dropHost 56 = .ok (.iadd, 1) := by decide +kernel
theorem dX3_dropHost_57 : decode cX3_dropHost 57 = .ok (.aload_n 0, 1) := by decide +kernel
theorem dX3_dropHost_58 : decode cX3_dropHost 58 = .ok (.getfield 19, 3) := by decide +kernel
theorem dX3_dropHost_61 : decode cX3_dropHost 61 = .ok (.iload_n 1, 1) := by decide +kernel
theorem dX3_dropHost_62 : decode cX3_dropHost 62 = .ok (.iload_n 2, 1) := by decide +kernel
theorem dX3_dropHost_63 : decode cX3_dropHost 63 = .ok (.invokestatic 75, 3) := by decide +kernel
theorem dX3_dropHost_66 : decode cX3_dropHost 66 = .ok (.aload_n 0, 1) := by decide +kernel
theorem dX3_dropHost_67 : decode cX3_dropHost 67 = .ok (.getfield 22, 3) := by decide +kernel
theorem dX3_dropHost_70 : decode cX3_dropHost 70 = .ok (.iload_n 1, 1) := by decide +kernel
theorem dX3_dropHost_71 : decode cX3_dropHost 71 = .ok (.iconst 1, 1) := by decide +kernel
theorem dX3_dropHost_72 : decode cX3_dropHost 72 = .ok (.iadd, 1) := by decide +kernel
theorem dX3_dropHost_73 : decode cX3_dropHost 73 = .ok (.aload_n 0, 1) := by decide +kernel
theorem dX3_dropHost_74 : decode cX3_dropHost 74 = .ok (.getfield 22, 3) := by decide +kernel
theorem dX3_dropHost_77 : decode cX3_dropHost 77 = .ok (.iload_n 1, 1) := by decide +kernel
theorem dX3_dropHost_78 : decode cX3_dropHost 78 = .ok (.iload_n 2, 1) := by decide +kernel
theorem dX3_dropHost_79 : decode cX3_dropHost 79 = .ok (.invokestatic 75, 3) := by decide +kernel
theorem dX3_dropHost_82 : decode cX3_dropHost 82 = .ok (.aload_n 0, 1) := by decide +kernel
theorem dX3_dropHost_83 : decode cX3_dropHost 83 = .ok (.getfield 25, 3) := by decide +kernel
theorem dX3_dropHost_86 : decode cX3_dropHost 86 = .ok (.iload_n 1, 1) := by decide +kernel
theorem dX3_dropHost_87 : decode cX3_dropHost 87 = .ok (.iconst 1, 1) := by decide +kernel
theorem dX3_dropHost_88 : decode cX3_dropHost 88 = .ok (.iadd, 1) := by decide +kernel
theorem dX3_dropHost_89 : decode cX3_dropHost 89 = .ok (.aload_n 0, 1) := by decide +kernel
theorem dX3_dropHost_90 : decode cX3_dropHost 90 = .ok (.getfield 25, 3) := by decide +kernel
theorem dX3_dropHost_93 : decode cX3_dropHost 93 = .ok (.iload_n 1, 1) := by decide +kernel
theorem dX3_dropHost_94 : decode cX3_dropHost 94 = .ok (.iload_n 2, 1) := by decide +kernel
theorem dX3_dropHost_95 : decode cX3_dropHost 95 = .ok (.invokestatic 75, 3) := by decide +kernel
theorem dX3_dropHost_98 : decode cX3_dropHost 98 = .ok (.aload_n 0, 1) := by decide +kernel
theorem dX3_dropHost_99 : decode cX3_dropHost 99 = .ok (.getfield 28, 3) := by decide +kernel
theorem dX3_dropHost_102 : decode cX3_dropHost 102 = .ok (.iload_n 1, 1) := by decide +kernel
theorem dX3_dropHost_103 : decode cX3_dropHost 103 = .ok (.iconst 1, 1) := by decide +kernel
theorem dX3_dropHost_104 : decode cX3_dropHost 104 = .ok (.iadd, 1) := by decide +kernel
theorem dX3_dropHost_105 : decode cX3_dropHost 105 = .ok (.aload_n 0, 1) := by decide +kernel
theorem dX3_dropHost_106 : decode cX3_dropHost 106 = .ok (.getfield 28, 3) := by decide +kernel
theorem dX3_dropHost_109 : decode cX3_dropHost 109 = .ok (.iload_n 1, 1) := by decide +kernel
theorem dX3_dropHost_110 : decode cX3_dropHost 110 = .ok (.iload_n 2, 1) := by decide +kernel
theorem dX3_dropHost_111 : decode cX3_dropHost 111 = .ok (.invokestatic 75, 3) := by decide +kernel
theorem dX3_dropHost_114 : decode cX3_dropHost 114 = .ok (.aload_n 0, 1) := by decide +kernel
theorem dX3_dropHost_115 : decode cX3_dropHost 115 = .ok (.getfield 31, 3) := by decide +kernel
theorem dX3_dropHost_118 : decode cX3_dropHost 118 = .ok (.iload_n 1, 1) := by decide +kernel
theorem dX3_dropHost_119 : decode cX3_dropHost 119 = .ok (.iconst 1, 1) := by decide +kernel
theorem dX3_dropHost_120 : decode cX3_dropHost 120 = .ok (.iadd, 1) := by decide +kernel
theorem dX3_dropHost_121 : decode cX3_dropHost 121 = .ok (.aload_n 0, 1) := by decide +kernel
theorem dX3_dropHost_122 : decode cX3_dropHost 122 = .ok (.getfield 31, 3) := by decide +kernel
theorem dX3_dropHost_125 : decode cX3_dropHost 125 = .ok (.iload_n 1, 1) := by decide +kernel
theorem dX3_dropHost_126 : decode cX3_dropHost 126 = .ok (.iload_n 2, 1) := by decide +kernel
theorem dX3_dropHost_127 : decode cX3_dropHost 127 = .ok (.invokestatic 75, 3) := by decide +kernel
theorem dX3_dropHost_130 : decode cX3_dropHost 130 = .ok (.aload_n 0, 1) := by decide +kernel
theorem dX3_dropHost_131 : decode cX3_dropHost 131 = .ok (.getfield 34, 3) := by decide +kernel
theorem dX3_dropHost_134 : decode cX3_dropHost 134 = .ok (.iload_n 1, 1) := by decide +kernel
theorem dX3_dropHost_135 : decode cX3_dropHost 135 = .ok (.iconst 1, 1) := by decide +kernel
theorem dX3_dropHost_136 : decode cX3_dropHost 136 = .ok (.iadd, 1) := by decide +kernel
theorem dX3_dropHost_137 : decode cX3_dropHost 137 = .ok (.bipush 10, 2) := by decide +kernel
theorem dX3_dropHost_139 : decode cX3_dropHost 139 = .ok (.imul, 1) := by decide +kernel
theorem dX3_dropHost_140 : decode cX3_dropHost 140 = .ok (.aload_n 0, 1) := by decide +kernel
theorem dX3_dropHost_141 : decode cX3_dropHost 141 = .ok (.getfield 34, 3) := by decide +kernel
theorem dX3_dropHost_144 : decode cX3_dropHost 144 = .ok (.iload_n 1, 1) := by decide +kernel
theorem dX3_dropHost_145 : decode cX3_dropHost 145 = .ok (.bipush 10, 2) := by decide +kernel
theorem dX3_dropHost_147 : decode cX3_dropHost 147 = .ok (.imul, 1) := by decide +kernel
theorem dX3_dropHost_148 : decode cX3_dropHost 148 = .ok (.iload_n 2, 1) := by decide +kernel
theorem dX3_dropHost_149 : decode cX3_dropHost 149 = .ok (.bipush 10, 2) := by decide +kernel
theorem dX3_dropHost_151 : decode cX3_dropHost 151 = .ok (.imul, 1) := by decide +kernel
theorem dX3_dropHost_152 : decode cX3_dropHost 152 = .ok (.invokestatic 75, 3) := by decide +kernel
theorem dX3_dropHost_155 : decode cX3_dropHost 155 = .ok (.aload_n 0, 1) := by decide +kernel
theorem dX3_dropHost_156 : decode cX3_dropHost 156 = .ok (.dup, 1) := by decide +kernel
theorem dX3_dropHost_157 : decode cX3_dropHost 157 = .ok (.getfield 49, 3) := by decide +kernel
theorem dX3_dropHost_160 : decode cX3_dropHost 160 = .ok (.iconst 1, 1) := by decide +kernel
theorem dX3_dropHost_161 : decode cX3_dropHost 161 = .ok (.isub, 1) := by decide +kernel
theorem dX3_dropHost_162 : decode cX3_dropHost 162 = .ok (.putfield 49, 3) := by decide +kernel
theorem dX3_dropHost_165 : decode cX3_dropHost 165 = .ok (.return_, 1) := by decide +kernel
theorem dX3_appendRule_0 : decode cX3_appendRule 0 = .ok (.aload_n 0, 1) := by decide +kernel
theorem dX3_appendRule_1 : decode cX3_appendRule 1 = .ok (.getfield 53, 3) := by decide +kernel
theorem dX3_appendRule_4 : decode cX3_appendRule 4 = .ok (.bipush 30, 2) := by decide +kernel
theorem dX3_appendRule_6 : decode cX3_appendRule 6 = .ok (.if_icmp .lt 5, 3) := by decide +kernel
theorem dX3_appendRule_9 : decode cX3_appendRule 9 = .ok (.iconst (-1), 1) := by decide +kernel
theorem dX3_appendRule_10 : decode cX3_appendRule 10 = .ok (.ireturn, 1) := by decide +kernel
theorem dX3_appendRule_11 : decode cX3_appendRule 11 = .ok (.aload_n 0, 1) := by decide +kernel
theorem dX3_appendRule_12 : decode cX3_appendRule 12 = .ok (.getfield 53, 3) := by decide +kernel
theorem dX3_appendRule_15 : decode cX3_appendRule 15 = .ok (.istore 5, 2) := by decide +kernel
theorem dX3_appendRule_17 : decode cX3_appendRule 17 = .ok (.aload_n 0, 1) := by decide +kernel
theorem dX3_appendRule_18 : decode cX3_appendRule 18 = .ok (.dup, 1) := by decide +kernel
theorem dX3_appendRule_19 : decode cX3_appendRule 19 = .ok (.getfield 53, 3) := by decide +kernel
theorem dX3_appendRule_22 : decode cX3_appendRule 22 = .ok (.iconst 1, 1) := by decide +kernel
theorem dX3_appendRule_23 : decode cX3_appendRule 23 = .ok (.iadd, 1) := by decide +kernel
theorem dX3_appendRule_24 : decode cX3_appendRule 24 = .ok (.putfield 53, 3) := by decide +kernel
theorem dX3_appendRule_27 : decode cX3_appendRule 27 = .ok (.aload_n 0, 1) := by decide +kernel
theorem dX3_appendRule_28 : decode cX3_appendRule 28 = .ok (.getfield 37, 3) := by decide +kernel
theorem dX3_appendRule_31 : decode cX3_appendRule 31 = .ok (.iload 5, 2) := by decide +kernel
theorem dX3_appendRule_33 : decode cX3_appendRule 33 = .ok (.iload_n 1, 1) := by decide +kernel
theorem dX3_appendRule_34 : decode cX3_appendRule 34 = .ok (.iastore, 1) := by decide +kernel
theorem dX3_appendRule_35 : decode cX3_appendRule 35 = .ok (.aload_n 0, 1) := by decide +kernel
theorem dX3_appendRule_36 : decode cX3_appendRule 36 = .ok (.getfield 40, 3) := by decide +kernel
theorem dX3_appendRule_39 : decode cX3_appendRule 39 = .ok (.iload 5, 2) := by decide +kernel
theorem dX3_appendRule_41 : decode cX3_appendRule 41 = .ok (.iload_n 2, 1) := by decide +kernel
theorem dX3_appendRule_42 : decode cX3_appendRule 42 = .ok (.ifCond .eq 7, 3) := by decide +kernel
theorem dX3_appendRule_45 : decode cX3_appendRule 45 = .ok (.iconst 1, 1) := by decide +kernel
theorem dX3_appendRule_46 : decode cX3_appendRule 46 = .ok (.goto 4, 3) := by decide +kernel
theorem dX3_appendRule_49 : decode cX3_appendRule 49 = .ok (.iconst 0, 1) := by decide +kernel
theorem dX3_appendRule_50 : decode cX3_appendRule 50 = .ok (.iastore, 1) := by decide +kernel
theorem dX3_appendRule_51 : decode cX3_appendRule 51 = .ok (.aload_n 0, 1) := by decide +kernel
theorem dX3_appendRule_52 : decode cX3_appendRule 52 = .ok (.getfield 43, 3) := by decide +kernel
theorem dX3_appendRule_55 : decode cX3_appendRule 55 = .ok (.iload 5, 2) := by decide +kernel
theorem dX3_appendRule_57 : decode cX3_appendRule 57 = .ok (.iload_n 3, 1) := by decide +kernel
theorem dX3_appendRule_58 : decode cX3_appendRule 58 = .ok (.iastore, 1) := by decide +kernel
theorem dX3_appendRule_59 : decode cX3_appendRule 59 = .ok (.aload_n 0, 1) := by decide +kernel
theorem dX3_appendRule_60 : decode cX3_appendRule 60 = .ok (.getfield 46, 3) := by decide +kernel
theorem dX3_appendRule_63 : decode cX3_appendRule 63 = .ok (.iload 5, 2) := by decide +kernel
theorem dX3_appendRule_65 : decode cX3_appendRule 65 = .ok (.iload 4, 2) := by decide +kernel
theorem dX3_appendRule_67 : decode cX3_appendRule 67 = .ok (.iastore, 1) := by decide +kernel
theorem dX3_appendRule_68 : decode cX3_appendRule 68 = .ok (.iload 5, 2) := by decide +kernel
theorem dX3_appendRule_70 : decode cX3_appendRule 70 = .ok (.ireturn, 1) := by decide +kernel
theorem dX3_dropRule_0 : decode cX3_dropRule 0 = .ok (.aload_n 0, 1) := by decide +kernel
theorem dX3_dropRule_1 : decode cX3_dropRule 1 = .ok (.getfield 53, 3) := by decide +kernel
theorem dX3_dropRule_4 : decode cX3_dropRule 4 = .ok (.iload_n 1, 1) := by decide +kernel
theorem dX3_dropRule_5 : decode cX3_dropRule 5 = .ok (.isub, 1) := by decide +kernel
theorem dX3_dropRule_6 : decode cX3_dropRule 6 = .ok (.iconst 1, 1) := by decide +kernel
theorem dX3_dropRule_7 : decode cX3_dropRule 7 = .ok (.isub, 1) := by decide +kernel
theorem dX3_dropRule_8 : decode cX3_dropRule 8 = .ok (.istore_n 2, 1) := by decide +kernel
theorem dX3_dropRule_9 : decode cX3_dropRule 9 = .ok (.iload_n 1, 1) := by decide +kernel
theorem dX3_dropRule_10 : decode cX3_dropRule 10 = .ok (.ifCond .lt 7, 3) := by decide +kernel
theorem dX3_dropRule_13 : decode cX3_dropRule 13 = .ok (.iload_n 2, 1) := by decide +kernel
theorem dX3_dropRule_14 : decode cX3_dropRule 14 = .ok (.ifCond .ge 4, 3) := by decide +kernel
theorem dX3_dropRule_17 : decode cX3_dropRule 17 = .ok (.return_, 1) := by decide +kernel
theorem dX3_dropRule_18 : decode cX3_dropRule 18 = .ok (.aload_n 0, 1) := by decide +kernel
theorem dX3_dropRule_19 : decode cX3_dropRule 19 = .ok (.getfield 37, 3) := by decide +kernel
theorem dX3_dropRule_22 : decode cX3_dropRule 22 = .ok (.iload_n 1, 1) := by decide +kernel
theorem dX3_dropRule_23 : decode cX3_dropRule 23 = .ok (.iconst 1, 1) := by decide +kernel
theorem dX3_dropRule_24 : decode cX3_dropRule 24 = .ok (.iadd, 1) := by decide +kernel
theorem dX3_dropRule_25 : decode cX3_dropRule 25 = .ok (.aload_n 0, 1) := by decide +kernel
theorem dX3_dropRule_26 : decode cX3_dropRule 26 = .ok (.getfield 37, 3) := by decide +kernel
theorem dX3_dropRule_29 : decode cX3_dropRule 29 = .ok (.iload_n 1, 1) := by decide +kernel
theorem dX3_dropRule_30 : decode cX3_dropRule 30 = .ok (.iload_n 2, 1) := by decide +kernel
theorem dX3_dropRule_31 : decode cX3_dropRule 31 = .ok (.invokestatic 75, 3) := by decide +kernel
theorem dX3_dropRule_34 : decode cX3_dropRule 34 = .ok (.aload_n 0, 1) := by decide +kernel
theorem dX3_dropRule_35 : decode cX3_dropRule 35 = .ok (.getfield 40, 3) := by decide +kernel
theorem dX3_dropRule_38 : decode cX3_dropRule 38 = .ok (.iload_n 1, 1) := by decide +kernel
theorem dX3_dropRule_39 : decode cX3_dropRule 39 = .ok (.iconst 1, 1) := by decide +kernel
theorem dX3_dropRule_40 : decode cX3_dropRule 40 = .ok (.iadd, 1) := by decide +kernel
theorem dX3_dropRule_41 : decode cX3_dropRule 41 = .ok (.aload_n 0, 1) := by decide +kernel
theorem dX3_dropRule_42 : decode cX3_dropRule 42 = .ok (.getfield 40, 3) := by decide +kernel
theorem dX3_dropRule_45 : decode cX3_dropRule 45 = .ok (.iload_n 1, 1) := by decide +kernel
theorem dX3_dropRule_46 : decode cX3_dropRule 46 = .ok (.iload_n 2, 1) := by decide +kernel
theorem dX3_dropRule_47 : decode cX3_dropRule 47 = .ok (.invokestatic 75, 3) := by decide +kernel
theorem dX3_dropRule_50 : decode cX3_dropRule 50 = .ok (.aload_n 0, 1) := by decide +kernel
theorem dX3_dropRule_51 : decode cX3_dropRule 51 = .ok (.getfield 43, 3) := by decide +kernel
theorem dX3_dropRule_54 : decode cX3_dropRule 54 = .ok (.iload_n 1, 1) := by decide +kernel
theorem dX3_dropRule_55 : decode cX3_dropRule 55 = .ok (.iconst 1, 1) := by decide +kernel
theorem dX3_dropRule_56 : decode cX3_dropRule 56 = .ok (.iadd, 1) := by decide +kernel
theorem dX3_dropRule_57 : decode cX3_dropRule 57 = .ok (.aload_n 0, 1) := by decide +kernel
theorem dX3_dropRule_58 : decode cX3_dropRule 58 = .ok (.getfield 43, 3) := by decide +kernel
theorem dX3_dropRule_61 : decode cX3_dropRule 61 = .ok (.iload_n 1, 1) := by decide +kernel
theorem dX3_dropRule_62 : decode cX3_dropRule 62 = .ok (.iload_n 2, 1) := by decide +kernel
theorem dX3_dropRule_63 : decode cX3_dropRule 63 = .ok (.invokestatic 75, 3) := by decide +kernel
theorem dX3_dropRule_66 : decode cX3_dropRule 66 = .ok (.aload_n 0, 1) := by decide +kernel
theorem dX3_dropRule_67 : decode cX3_dropRule 67 = .ok (.getfield 46, 3) := by decide +kernel
theorem dX3_dropRule_70 : decode cX3_dropRule 70 = .ok (.iload_n 1, 1) := by decide +kernel
theorem dX3_dropRule_71 : decode cX3_dropRule 71 = .ok (.iconst 1, 1) := by decide +kernel
theorem dX3_dropRule_72 : decode cX3_dropRule 72 = .ok (.iadd, 1) := by decide +kernel
theorem dX3_dropRule_73 : decode cX3_dropRule 73 = .ok (.aload_n 0, 1) := by decide +kernel
theorem dX3_dropRule_74 : decode cX3_dropRule 74 = .ok (.getfield 46, 3) := by decide +kernel
theorem dX3_dropRule_77 : decode cX3_dropRule 77 = .ok (.iload_n 1, 1) := by decide +kernel
theorem dX3_dropRule_78 : decode cX3_dropRule 78 = .ok (.iload_n 2, 1) := by decide +kernel
theorem dX3_dropRule_79 : decode cX3_dropRule 79 = .ok (.invokestatic 75, 3) := by decide +kernel
theorem dX3_dropRule_82 : decode cX3_dropRule 82 = .ok (.aload_n 0, 1) := by decide +kernel
theorem dX3_dropRule_83 : decode cX3_dropRule 83 = .ok (.dup, 1) := by decide +kernel
theorem dX3_dropRule_84 : decode cX3_dropRule 84 = .ok (.getfield 53, 3) := by decide +kernel
theorem dX3_dropRule_87 : decode cX3_dropRule 87 = .ok (.iconst 1, 1) := by decide +kernel
theorem dX3_dropRule_88 : decode cX3_dropRule 88 = .ok (.isub, 1) := by decide +kernel
theorem dX3_dropRule_89 : decode cX3_dropRule 89 = .ok (.putfield 53, 3) := by decide +kernel
theorem dX3_dropRule_92 : decode cX3_dropRule 92 = .ok (.return_, 1) := by decide +kernel
theorem dX3_setPlan_0 : decode cX3_setPlan 0 = .ok (.aload_n 0, 1) := by decide +kernel
theorem dX3_setPlan_1 : decode cX3_setPlan 1 = .ok (.getfield 25, 3) := by decide +kernel
theorem dX3_setPlan_4 : decode cX3_setPlan 4 = .ok (.iload_n 1, 1) := by decide +kernel
theorem dX3_setPlan_5 : decode cX3_setPlan 5 = .ok (.iload_n 2, 1) := by decide +kernel
theorem dX3_setPlan_6 : decode cX3_setPlan 6 = .ok (.iastore, 1) := by decide +kernel
theorem dX3_setPlan_7 : decode cX3_setPlan 7 = .ok (.aload_n 0, 1) := by decide +kernel
theorem dX3_setPlan_8 : decode cX3_setPlan 8 = .ok (.getfield 28, 3) := by decide +kernel
theorem dX3_setPlan_11 : decode cX3_setPlan 11 = .ok (.iload_n 1, 1) := by decide +kernel
theorem dX3_setPlan_12 : decode cX3_setPlan 12 = .ok (.iload_n 3, 1) := by decide +kernel
theorem dX3_setPlan_13 : decode cX3_setPlan 13 = .ok (.iastore, 1) := by decide +kernel
theorem dX3_setPlan_14 : decode cX3_setPlan 14 = .ok (.return_, 1) := by decide +kernel
theorem dX3_planCount_0 : decode cX3_planCount 0 = .ok (.iconst 0, 1) := by decide +kernel
theorem dX3_planCount_1 : decode cX3_planCount 1 = .ok (.istore_n 1, 1) := by decide +kernel
theorem dX3_planCount_2 : decode cX3_planCount 2 = .ok (.iconst 0, 1) := by decide +kernel
theorem dX3_planCount_3 : decode cX3_planCount 3 = .ok (.istore_n 2, 1) := by decide +kernel
theorem dX3_planCount_4 : decode cX3_planCount 4 = .ok (.iload_n 2, 1) := by decide +kernel
theorem dX3_planCount_5 : decode cX3_planCount 5 = .ok (.aload_n 0, 1) := by decide +kernel
theorem dX3_planCount_6 : decode cX3_planCount 6 = .ok (.getfield 49, 3) := by decide +kernel
theorem dX3_planCount_9 : decode cX3_planCount 9 = .ok (.if_icmp .ge 26, 3) := by decide +kernel
theorem dX3_planCount_12 : decode cX3_planCount 12 = .ok (.iload_n 1, 1) := by decide +kernel
theorem dX3_planCount_13 : decode cX3_planCount 13 = .ok (.aload_n 0, 1) := by decide +kernel
theorem dX3_planCount_14 : decode cX3_planCount 14 = .ok (.getfield 28, 3) := by decide +kernel
theorem dX3_planCount_17 : decode cX3_planCount 17 = .ok (.iload_n 2, 1) := by decide +kernel
theorem dX3_planCount_18 : decode cX3_planCount 18 = .ok (.iaload, 1) := by decide +kernel
theorem dX3_planCount_19 : decode cX3_planCount 19 = .ok (.ifCond .eq 7, 3) := by decide +kernel
theorem dX3_planCount_22 : decode cX3_planCount 22 = .ok (.iconst 1, 1) := by decide +kernel
theorem dX3_planCount_23 : decode cX3_planCount 23 = .ok (.goto 4, 3) := by decide +kernel
theorem dX3_planCount_26 : decode cX3_planCount 26 = .ok (.iconst 0, 1) := by decide +kernel
theorem dX3_planCount_27 : decode cX3_planCount 27 = .ok (.iadd, 1) := by decide +kernel
theorem dX3_planCount_28 : decode cX3_planCount 28 = .ok (.istore_n 1, 1) := by decide +kernel
theorem dX3_planCount_29 : decode cX3_planCount 29 = .ok (.iinc 2 1, 3) := by decide +kernel
theorem dX3_planCount_32 : decode cX3_planCount 32 = .ok (.goto (-28), 3) := by decide +kernel
theorem dX3_planCount_35 : decode cX3_planCount 35 = .ok (.iload_n 1, 1) := by decide +kernel
theorem dX3_planCount_36 : decode cX3_planCount 36 = .ok (.ireturn, 1) := by decide +kernel
theorem dX3_plansIn_0 : decode cX3_plansIn 0 = .ok (.iconst 0, 1) := by decide +kernel
theorem dX3_plansIn_1 : decode cX3_plansIn 1 = .ok (.istore_n 2, 1) := by decide +kernel
theorem dX3_plansIn_2 : decode cX3_plansIn 2 = .ok (.iconst 0, 1) := by decide +kernel
theorem dX3_plansIn_3 : decode cX3_plansIn 3 = .ok (.istore_n 3, 1) := by decide +kernel
theorem dX3_plansIn_4 : decode cX3_plansIn 4 = .ok (.iload_n 3, 1) := by decide +kernel
theorem dX3_plansIn_5 : decode cX3_plansIn 5 = .ok (.aload_n 0, 1) := by decide +kernel
theorem dX3_plansIn_6 : decode cX3_plansIn 6 = .ok (.getfield 49, 3) := by decide +kernel
theorem dX3_plansIn_9 : decode cX3_plansIn 9 = .ok (.if_icmp .ge 27, 3) := by decide +kernel
theorem dX3_plansIn_12 : decode cX3_plansIn 12 = .ok (.iload_n 2, 1) := by decide +kernel
theorem dX3_plansIn_13 : decode cX3_plansIn 13 = .ok (.aload_n 0, 1) := by decide +kernel
theorem dX3_plansIn_14 : decode cX3_plansIn 14 = .ok (.getfield 28, 3) := by decide +kernel
theorem dX3_plansIn_17 : decode cX3_plansIn 17 = .ok (.iload_n 3, 1) := by decide +kernel
theorem dX3_plansIn_18 : decode cX3_plansIn 18 = .ok (.iaload, 1) := by decide +kernel
theorem dX3_plansIn_19 : decode cX3_plansIn 19 = .ok (.iload_n 1, 1) := by decide +kernel
theorem dX3_plansIn_20 : decode cX3_plansIn 20 = .ok (.if_icmp .ne 7, 3) := by decide +kernel
theorem dX3_plansIn_23 : decode cX3_plansIn 23 = .ok (.iconst 1, 1) := by decide +kernel
theorem dX3_plansIn_24 : decode cX3_plansIn 24 = .ok (.goto 4, 3) := by decide +kernel
theorem dX3_plansIn_27 : decode cX3_plansIn 27 = .ok (.iconst 0, 1) := by decide +kernel
theorem dX3_plansIn_28 : decode cX3_plansIn 28 = .ok (.iadd, 1) := by decide +kernel
theorem dX3_plansIn_29 : decode cX3_plansIn 29 = .ok (.istore_n 2, 1) := by decide +kernel
theorem dX3_plansIn_30 : decode cX3_plansIn 30 = .ok (.iinc 3 1, 3) := by decide +kernel
theorem dX3_plansIn_33 : decode cX3_plansIn 33 = .ok (.goto (-29), 3) := by decide +kernel
theorem dX3_plansIn_36 : decode cX3_plansIn 36 = .ok (.iload_n 2, 1) := by decide +kernel
theorem dX3_plansIn_37 : decode cX3_plansIn 37 = .ok (.ireturn, 1) := by decide +kernel
theorem dX3_keeperCount_0 : decode cX3_keeperCount 0 = .ok (.iconst 0, 1) := by decide +kernel
theorem dX3_keeperCount_1 : decode cX3_keeperCount 1 = .ok (.istore_n 1, 1) := by decide +kernel
theorem dX3_keeperCount_2 : decode cX3_keeperCount 2 = .ok (.iconst 0, 1) := by decide +kernel
theorem dX3_keeperCount_3 : decode cX3_keeperCount 3 = .ok (.istore_n 2, 1) := by decide +kernel
theorem dX3_keeperCount_4 : decode cX3_keeperCount 4 = .ok (.iload_n 2, 1) := by decide +kernel
theorem dX3_keeperCount_5 : decode cX3_keeperCount 5 = .ok (.aload_n 0, 1) := by decide +kernel
theorem dX3_keeperCount_6 : decode cX3_keeperCount 6 = .ok (.getfield 49, 3) := by decide +kernel
theorem dX3_keeperCount_9 : decode cX3_keeperCount 9 = .ok (.if_icmp .ge 25, 3) := by decide +kernel
theorem dX3_keeperCount_12 : decode cX3_keeperCount 12 = .ok (.iload_n 1, 1) := by decide +kernel
theorem dX3_keeperCount_13 : decode cX3_keeperCount 13 = .ok (.aload_n 0, 1) := by decide +kernel
theorem dX3_keeperCount_14 : decode cX3_keeperCount 14 = .ok (.iload_n 2, 1) := by decide +kernel
theorem dX3_keeperCount_15 : decode cX3_keeperCount 15 = .ok (.invokevirtual 81, 3) := by decide +kernel
theorem dX3_keeperCount_18 : decode cX3_keeperCount 18 = .ok (.ifCond .eq 7, 3) := by decide +kernel
theorem dX3_keeperCount_21 : decode cX3_keeperCount 21 = .ok (.iconst 1, 1) := by decide +kernel
theorem dX3_keeperCount_22 : decode cX3_keeperCount 22 = .ok (.goto 4, 3) := by decide +kernel
theorem dX3_keeperCount_25 : decode cX3_keeperCount 25 = .ok (.iconst 0, 1) := by decide +kernel
theorem dX3_keeperCount_26 : decode cX3_keeperCount 26 = .ok (.iadd, 1) := by decide +kernel
theorem dX3_keeperCount_27 : decode cX3_keeperCount 27 = .ok (.istore_n 1, 1) := by decide +kernel
theorem dX3_keeperCount_28 : decode cX3_keeperCount 28 = .ok (.iinc 2 1, 3) := by decide +kernel
theorem dX3_keeperCount_31 : decode cX3_keeperCount 31 = .ok (.goto (-27), 3) := by decide +kernel
theorem dX3_keeperCount_34 : decode cX3_keeperCount 34 = .ok (.iload_n 1, 1) := by decide +kernel
theorem dX3_keeperCount_35 : decode cX3_keeperCount 35 = .ok (.ireturn, 1) := by decide +kernel
theorem dX3_hostsOfOffice_0 : decode cX3_hostsOfOffice 0 = .ok (.iconst 0, 1) := by decide +kernel
theorem dX3_hostsOfOffice_1 : decode cX3_hostsOfOffice 1 = .ok (.istore_n 2, 1) := by decide +kernel
theorem dX3_hostsOfOffice_2 : decode cX3_hostsOfOffice 2 = .ok (.iconst 0, 1) := by decide +kernel
theorem dX3_hostsOfOffice_3 : decode cX3_hostsOfOffice 3 = .ok (.istore_n 3, 1) := by decide +kernel
theorem dX3_hostsOfOffice_4 : decode cX3_hostsOfOffice 4 = .ok (.iload_n 3, 1) := by decide +kernel
theorem dX3_hostsOfOffice_5 : decode cX3_hostsOfOffice 5 = .ok (.aload_n 0, 1) := by decide +kernel
theorem dX3_hostsOfOffice_6 : decode cX3_hostsOfOffice 6 = .ok (.getfield 49, 3) := by decide +kernel
theorem dX3_hostsOfOffice_9 : decode cX3_hostsOfOffice 9 = .ok (.if_icmp .ge 27, 3) := by decide +kernel
theorem dX3_hostsOfOffice_12 : decode cX3_hostsOfOffice 12 = .ok (.iload_n 2, 1) := by decide +kernel
theorem dX3_hostsOfOffice_13 : decode cX3_hostsOfOffice 13 = .ok (.aload_n 0, 1) := by decide +kernel
theorem dX3_hostsOfOffice_14 : decode cX3_hostsOfOffice 14 = .ok (.getfield 15, 3) := by decide +kernel
theorem dX3_hostsOfOffice_17 : decode cX3_hostsOfOffice 17 = .ok (.iload_n 3, 1) := by decide +kernel
theorem dX3_hostsOfOffice_18 : decode cX3_hostsOfOffice 18 = .ok (.iaload, 1) := by decide +kernel
theorem dX3_hostsOfOffice_19 : decode cX3_hostsOfOffice 19 = .ok (.iload_n 1, 1) := by decide +kernel
theorem dX3_hostsOfOffice_20 : decode cX3_hostsOfOffice 20 = .ok (.if_icmp .ne 7, 3) := by decide +kernel
theorem dX3_hostsOfOffice_23 : decode cX3_hostsOfOffice 23 = .ok (.iconst 1, 1) := by decide +kernel
theorem dX3_hostsOfOffice_24 : decode cX3_hostsOfOffice 24 = .ok (.goto 4, 3) := by decide +kernel
theorem dX3_hostsOfOffice_27 : decode cX3_hostsOfOffice 27 = .ok (.iconst 0, 1) := by decide +kernel
theorem dX3_hostsOfOffice_28 : decode cX3_hostsOfOffice 28 = .ok (.iadd, 1) := by decide +kernel
theorem dX3_hostsOfOffice_29 : decode cX3_hostsOfOffice 29 = .ok (.istore_n 2, 1) := by decide +kernel
theorem dX3_hostsOfOffice_30 : decode cX3_hostsOfOffice 30 = .ok (.iinc 3 1, 3) := by decide +kernel
theorem dX3_hostsOfOffice_33 : decode cX3_hostsOfOffice 33 = .ok (.goto (-29), 3) := by decide +kernel
theorem dX3_hostsOfOffice_36 : decode cX3_hostsOfOffice 36 = .ok (.iload_n 2, 1) := by decide +kernel
theorem dX3_hostsOfOffice_37 : decode cX3_hostsOfOffice 37 = .ok (.ireturn, 1) := by decide +kernel
theorem dX3_firstWaveWithRoom_0 : decode cX3_firstWaveWithRoom 0 = .ok (.aload_n 0, 1) := by decide +kernel
theorem dX3_firstWaveWithRoom_1 : decode cX3_firstWaveWithRoom 1 = .ok (.getfield 56, 3) := by decide +kernel
theorem dX3_firstWaveWithRoom_4 : decode cX3_firstWaveWithRoom 4 = .ok (.iconst 1, 1) := by decide +kernel
theorem dX3_firstWaveWithRoom_5 : decode cX3_firstWaveWithRoom 5 = .ok (.iadd, 1) := by decide +kernel
theorem dX3_firstWaveWithRoom_6 : decode cX3_firstWaveWithRoom 6 = .ok (.istore_n 1, 1) := by decide +kernel
theorem dX3_firstWaveWithRoom_7 : decode cX3_firstWaveWithRoom 7 = .ok (.iload_n 1, 1) := by decide +kernel
theorem dX3_firstWaveWithRoom_8 : decode cX3_firstWaveWithRoom 8 = .ok (.bipush 9, 2) := by decide +kernel
theorem dX3_firstWaveWithRoom_10 : decode cX3_firstWaveWithRoom 10 = .ok (.if_icmp .gt 23, 3) := by decide +kernel
theorem dX3_firstWaveWithRoom_13 : decode cX3_firstWaveWithRoom 13 = .ok (.aload_n 0, 1) := by decide +kernel
theorem dX3_firstWaveWithRoom_14 : decode cX3_firstWaveWithRoom 14 = .ok (.iload_n 1, 1) := by decide +kernel
theorem dX3_firstWaveWithRoom_15 : decode cX3_firstWaveWithRoom 15 = .ok (.invokevirtual 85, 3) := by decide +kernel
theorem dX3_firstWaveWithRoom_18 : decode cX3_firstWaveWithRoom 18 = .ok (.aload_n 0, 1) := by decide +kernel
theorem dX3_firstWaveWithRoom_19 : decode cX3_firstWaveWithRoom 19 = .ok (.getfield 62, 3) := by decide +kernel
theorem dX3_firstWaveWithRoom_22 : decode cX3_firstWaveWithRoom 22 = .ok (.if_icmp .ge 5, 3) := by decide +kernel
theorem dX3_firstWaveWithRoom_25 : decode cX3_firstWaveWithRoom 25 = .ok (.iload_n 1, 1) := by decide +kernel
theorem dX3_firstWaveWithRoom_26 : decode cX3_firstWaveWithRoom 26 = .ok (.ireturn, 1) := by decide +kernel
theorem dX3_firstWaveWithRoom_27 : decode cX3_firstWaveWithRoom 27 = .ok (.iinc 1 1, 3) := by decide +kernel
theorem dX3_firstWaveWithRoom_30 : decode cX3_firstWaveWithRoom 30 = .ok (.goto (-23), 3) := by decide +kernel
theorem dX3_firstWaveWithRoom_33 : decode cX3_firstWaveWithRoom 33 = .ok (.iconst 0, 1) := by decide +kernel
theorem dX3_firstWaveWithRoom_34 : decode cX3_firstWaveWithRoom 34 = .ok (.ireturn, 1) := by decide +kernel
theorem dX3_keptBy_0 : decode cX3_keptBy 0 = .ok (.aload_n 0, 1) := by decide +kernel
theorem dX3_keptBy_1 : decode cX3_keptBy 1 = .ok (.iload_n 1, 1) := by decide +kernel
theorem dX3_keptBy_2 : decode cX3_keptBy 2 = .ok (.aload_n 0, 1) := by decide +kernel
theorem dX3_keptBy_3 : decode cX3_keptBy 3 = .ok (.getfield 56, 3) := by decide +kernel
theorem dX3_keptBy_6 : decode cX3_keptBy 6 = .ok (.invokevirtual 88, 3) := by decide +kernel
theorem dX3_keptBy_9 : decode cX3_keptBy 9 = .ok (.ifCond .eq 17, 3) := by decide +kernel
theorem dX3_keptBy_12 : decode cX3_keptBy 12 = .ok (.aload_n 0, 1) := by decide +kernel
theorem dX3_keptBy_13 : decode cX3_keptBy 13 = .ok (.iload_n 1, 1) := by decide +kernel
theorem dX3_keptBy_14 : decode cX3_keptBy 14 = .ok (.aload_n 0, 1) := by decide +kernel
theorem dX3_keptBy_15 : decode cX3_keptBy 15 = .ok (.getfield 31, 3) := by decide +kernel
theorem dX3_keptBy_18 : decode cX3_keptBy 18 = .ok (.iload_n 1, 1) := by decide +kernel
theorem dX3_keptBy_19 : decode cX3_keptBy 19 = .ok (.iaload, 1) := by decide +kernel
theorem dX3_keptBy_20 : decode cX3_keptBy 20 = .ok (.invokevirtual 92, 3) := by decide +kernel
theorem dX3_keptBy_23 : decode cX3_keptBy 23 = .ok (.goto 4, 3) := by decide +kernel
theorem dX3_keptBy_26 : decode cX3_keptBy 26 = .ok (.iconst 0, 1) := by decide +kernel
theorem dX3_keptBy_27 : decode cX3_keptBy 27 = .ok (.ireturn, 1) := by decide +kernel
theorem dX3_numberAhead_0 : decode cX3_numberAhead 0 = .ok (.iload_n 1, 1) := by decide +kernel
theorem dX3_numberAhead_1 : decode cX3_numberAhead 1 = .ok (.ifCond .lt 35, 3) := by decide +kernel
theorem dX3_numberAhead_4 : decode cX3_numberAhead 4 = .ok (.iload_n 1, 1) := by decide +kernel
theorem dX3_numberAhead_5 : decode cX3_numberAhead 5 = .ok (.aload_n 0, 1) := by decide +kernel
theorem dX3_numberAhead_6 : decode cX3_numberAhead 6 = .ok (.getfield 49, 3) := by decide +kernel
theorem dX3_numberAhead_9 : decode cX3_numberAhead 9 = .ok (.if_icmp .ge 27, 3) := by decide +kernel
theorem dX3_numberAhead_12 : decode cX3_numberAhead 12 = .ok (.iload_n 2, 1) := by decide +kernel
theorem dX3_numberAhead_13 : decode cX3_numberAhead 13 = .ok (.ifCond .lt 23, 3) := by decide +kernel
theorem dX3_numberAhead_16 : decode cX3_numberAhead 16 = .ok (.iload_n 2, 1) := by decide +kernel
theorem dX3_numberAhead_17 : decode cX3_numberAhead 17 = .ok (.bipush 10, 2) := by decide +kernel
theorem dX3_numberAhead_19 : decode cX3_numberAhead 19 = .ok (.if_icmp .ge 17, 3) := by decide +kernel
theorem dX3_numberAhead_22 : decode cX3_numberAhead 22 = .ok (.aload_n 0, 1) := by decide +kernel
theorem dX3_numberAhead_23 : decode cX3_numberAhead 23 = .ok (.getfield 34, 3) := by decide +kernel
theorem dX3_numberAhead_26 : decode cX3_numberAhead 26 = .ok (.iload_n 1, 1) := by decide +kernel
theorem dX3_numberAhead_27 : decode cX3_numberAhead 27 = .ok (.bipush 10, 2) := by decide +kernel
theorem dX3_numberAhead_29 : decode cX3_numberAhead 29 = .ok (.imul, 1) := by decide +kernel
theorem dX3_numberAhead_30 : decode cX3_numberAhead 30 = .ok (.iload_n 2, 1) := by decide +kernel
theorem dX3_numberAhead_31 : decode cX3_numberAhead 31 = .ok (.iadd, 1) := by decide +kernel
theorem dX3_numberAhead_32 : decode cX3_numberAhead 32 = .ok (.iaload, 1) := by decide +kernel
theorem dX3_numberAhead_33 : decode cX3_numberAhead 33 = .ok (.goto 4, 3) := by decide +kernel
theorem dX3_numberAhead_36 : decode cX3_numberAhead 36 = .ok (.iconst 0, 1) := by decide +kernel
theorem dX3_numberAhead_37 : decode cX3_numberAhead 37 = .ok (.ireturn, 1) := by decide +kernel
theorem dX3_keepsAt_0 : decode cX3_keepsAt 0 = .ok (.aload_n 0, 1) := by decide +kernel
theorem dX3_keepsAt_1 : decode cX3_keepsAt 1 = .ok (.getfield 31, 3) := by decide +kernel
theorem dX3_keepsAt_4 : decode cX3_keepsAt 4 = .ok (.iload_n 1, 1) := by decide +kernel
theorem dX3_keepsAt_5 : decode cX3_keepsAt 5 = .ok (.iaload, 1) := by decide +kernel
theorem dX3_keepsAt_6 : decode cX3_keepsAt 6 = .ok (.istore_n 3, 1) := by decide +kernel
theorem dX3_keepsAt_7 : decode cX3_keepsAt 7 = .ok (.iload_n 3, 1) := by decide +kernel
theorem dX3_keepsAt_8 : decode cX3_keepsAt 8 = .ok (.ifCond .le 17, 3) := by decide +kernel
theorem dX3_keepsAt_11 : decode cX3_keepsAt 11 = .ok (.iload_n 2, 1) := by decide +kernel
theorem dX3_keepsAt_12 : decode cX3_keepsAt 12 = .ok (.iload_n 3, 1) := by decide +kernel
theorem dX3_keepsAt_13 : decode cX3_keepsAt 13 = .ok (.aload_n 0, 1) := by decide +kernel
theorem dX3_keepsAt_14 : decode cX3_keepsAt 14 = .ok (.getfield 59, 3) := by decide +kernel
theorem dX3_keepsAt_17 : decode cX3_keepsAt 17 = .ok (.iadd, 1) := by decide +kernel
theorem dX3_keepsAt_18 : decode cX3_keepsAt 18 = .ok (.if_icmp .ge 7, 3) := by decide +kernel
theorem dX3_keepsAt_21 : decode cX3_keepsAt 21 = .ok (.iconst 1, 1) := by decide +kernel
theorem dX3_keepsAt_22 : decode cX3_keepsAt 22 = .ok (.goto 4, 3) := by decide +kernel
theorem dX3_keepsAt_25 : decode cX3_keepsAt 25 = .ok (.iconst 0, 1) := by decide +kernel
theorem dX3_keepsAt_26 : decode cX3_keepsAt 26 = .ok (.ireturn, 1) := by decide +kernel
theorem dX3_hostNamed_0 : decode cX3_hostNamed 0 = .ok (.iconst 0, 1) := by decide +kernel
theorem dX3_hostNamed_1 : decode cX3_hostNamed 1 = .ok (.istore_n 3, 1) := by decide +kernel
theorem dX3_hostNamed_2 : decode cX3_hostNamed 2 = .ok (.iload_n 3, 1) := by decide +kernel
theorem dX3_hostNamed_3 : decode cX3_hostNamed 3 = .ok (.aload_n 0, 1) := by decide +kernel
theorem dX3_hostNamed_4 : decode cX3_hostNamed 4 = .ok (.getfield 49, 3) := by decide +kernel
theorem dX3_hostNamed_7 : decode cX3_hostNamed 7 = .ok (.if_icmp .ge 22, 3) := by decide +kernel
theorem dX3_hostNamed_10 : decode cX3_hostNamed 10 = .ok (.aload_n 0, 1) := by decide +kernel
theorem dX3_hostNamed_11 : decode cX3_hostNamed 11 = .ok (.getfield 9, 3) := by decide +kernel
theorem dX3_hostNamed_14 : decode cX3_hostNamed 14 = .ok (.iload_n 3, 1) := by decide +kernel
theorem dX3_hostNamed_15 : decode cX3_hostNamed 15 = .ok (.laload, 1) := by decide +kernel
theorem dX3_hostNamed_16 : decode cX3_hostNamed 16 = .ok (.lload_n 1, 1) := by decide +kernel
theorem dX3_hostNamed_17 : decode cX3_hostNamed 17 = .ok (.lcmp, 1) := by decide +kernel
theorem dX3_hostNamed_18 : decode cX3_hostNamed 18 = .ok (.ifCond .ne 5, 3) := by decide +kernel
theorem dX3_hostNamed_21 : decode cX3_hostNamed 21 = .ok (.iload_n 3, 1) := by decide +kernel
theorem dX3_hostNamed_22 : decode cX3_hostNamed 22 = .ok (.ireturn, 1) := by decide +kernel
theorem dX3_hostNamed_23 : decode cX3_hostNamed 23 = .ok (.iinc 3 1, 3) := by decide +kernel
theorem dX3_hostNamed_26 : decode cX3_hostNamed 26 = .ok (.goto (-24), 3) := by decide +kernel
theorem dX3_hostNamed_29 : decode cX3_hostNamed 29 = .ok (.iconst (-1), 1) := by decide +kernel
theorem dX3_hostNamed_30 : decode cX3_hostNamed 30 = .ok (.ireturn, 1) := by decide +kernel
theorem dX3_holderInOffice_0 : decode cX3_holderInOffice 0 = .ok (.iconst 0, 1) := by decide +kernel
theorem dX3_holderInOffice_1 : decode cX3_holderInOffice 1 = .ok (.istore_n 3, 1) := by decide +kernel
theorem dX3_holderInOffice_2 : decode cX3_holderInOffice 2 = .ok (.iload_n 3, 1) := by decide +kernel
theorem dX3_holderInOffice_3 : decode cX3_holderInOffice 3 = .ok (.aload_n 0, 1) := by decide +kernel
theorem dX3_holderInOffice_4 : decode cX3_holderInOffice 4 = .ok (.getfield 49, 3) := by decide +kernel
theorem dX3_holderInOffice_7 : decode cX3_holderInOffice 7 = .ok (.if_icmp .ge 40, 3) := by decide +kernel
theorem dX3_holderInOffice_10 : decode cX3_holderInOffice 10 = .ok (.aload_n 0, 1) := by decide +kernel
theorem dX3_holderInOffice_11 : decode cX3_holderInOffice 11 = .ok (.getfield 15, 3) := by decide +kernel
theorem dX3_holderInOffice_14 : decode cX3_holderInOffice 14 = .ok (.iload_n 3, 1) := by decide +kernel
theorem dX3_holderInOffice_15 : decode cX3_holderInOffice 15 = .ok (.iaload, 1) := by decide +kernel
theorem dX3_holderInOffice_16 : decode cX3_holderInOffice 16 = .ok (.iload_n 1, 1) := by decide +kernel
theorem dX3_holderInOffice_17 : decode cX3_holderInOffice 17 = .ok (.if_icmp .ne 24, 3) := by decide +kernel
theorem dX3_holderInOffice_20 : decode cX3_holderInOffice 20 = .ok (.aload_n 0, 1) := by decide +kernel
theorem dX3_holderInOffice_21 : decode cX3_holderInOffice 21 = .ok (.getfield 19, 3) := by decide +kernel
theorem dX3_holderInOffice_24 : decode cX3_holderInOffice 24 = .ok (.iload_n 3, 1) := by decide +kernel
theorem dX3_holderInOffice_25 : decode cX3_holderInOffice 25 = .ok (.iaload, 1) := by decide +kernel
theorem dX3_holderInOffice_26 : decode cX3_holderInOffice 26 = .ok (.iload_n 2, 1) := by decide +kernel
theorem dX3_holderInOffice_27 : decode cX3_holderInOffice 27 = .ok (.if_icmp .eq 12, 3) := by decide +kernel
theorem dX3_holderInOffice_30 : decode cX3_holderInOffice 30 = .ok (.aload_n 0, 1) := by decide +kernel
theorem dX3_holderInOffice_31 : decode cX3_holderInOffice 31 = .ok (.iload_n 3, 1) := by decide +kernel
theorem dX3_holderInOffice_32 : decode cX3_holderInOffice 32 = .ok (.invokevirtual 81, 3) := by decide +kernel
theorem dX3_holderInOffice_35 : decode cX3_holderInOffice 35 = .ok (.iload_n 2, 1) := by decide +kernel
theorem dX3_holderInOffice_36 : decode cX3_holderInOffice 36 = .ok (.if_icmp .ne 5, 3) := by decide +kernel
theorem dX3_holderInOffice_39 : decode cX3_holderInOffice 39 = .ok (.iload_n 3, 1) := by decide +kernel
theorem dX3_holderInOffice_40 : decode cX3_holderInOffice 40 = .ok (.ireturn, 1) := by decide +kernel
theorem dX3_holderInOffice_41 : decode cX3_holderInOffice 41 = .ok (.iinc 3 1, 3) := by decide +kernel
theorem dX3_holderInOffice_44 : decode cX3_holderInOffice 44 = .ok (.goto (-42), 3) := by decide +kernel
theorem dX3_holderInOffice_47 : decode cX3_holderInOffice 47 = .ok (.iconst (-1), 1) := by decide +kernel
theorem dX3_holderInOffice_48 : decode cX3_holderInOffice 48 = .ok (.ireturn, 1) := by decide +kernel
theorem dX3_holderInNet_0 : decode cX3_holderInNet 0 = .ok (.iconst 0, 1) := by decide +kernel
theorem dX3_holderInNet_1 : decode cX3_holderInNet 1 = .ok (.istore_n 3, 1) := by decide +kernel
theorem dX3_holderInNet_2 : decode cX3_holderInNet 2 = .ok (.iload_n 3, 1) := by decide +kernel
theorem dX3_holderInNet_3 : decode cX3_holderInNet 3 = .ok (.aload_n 0, 1) := by decide +kernel
theorem dX3_holderInNet_4 : decode cX3_holderInNet 4 = .ok (.getfield 49, 3) := by decide +kernel
theorem dX3_holderInNet_7 : decode cX3_holderInNet 7 = .ok (.if_icmp .ge 44, 3) := by decide +kernel
theorem dX3_holderInNet_10 : decode cX3_holderInNet 10 = .ok (.aload_n 0, 1) := by decide +kernel
theorem dX3_holderInNet_11 : decode cX3_holderInNet 11 = .ok (.aload_n 0, 1) := by decide +kernel
theorem dX3_holderInNet_12 : decode cX3_holderInNet 12 = .ok (.getfield 15, 3) := by decide +kernel
theorem dX3_holderInNet_15 : decode cX3_holderInNet 15 = .ok (.iload_n 3, 1) := by decide +kernel
theorem dX3_holderInNet_16 : decode cX3_holderInNet 16 = .ok (.iaload, 1) := by decide +kernel
theorem dX3_holderInNet_17 : decode cX3_holderInNet 17 = .ok (.iload_n 1, 1) := by decide +kernel
theorem dX3_holderInNet_18 : decode cX3_holderInNet 18 = .ok (.invokevirtual 96, 3) := by decide +kernel
theorem dX3_holderInNet_21 : decode cX3_holderInNet 21 = .ok (.ifCond .eq 24, 3) := by decide +kernel
theorem dX3_holderInNet_24 : decode cX3_holderInNet 24 = .ok (.aload_n 0, 1) := by decide +kernel
theorem dX3_holderInNet_25 : decode cX3_holderInNet 25 = .ok (.getfield 19, 3) := by decide +kernel
theorem dX3_holderInNet_28 : decode cX3_holderInNet 28 = .ok (.iload_n 3, 1) := by decide +kernel
theorem dX3_holderInNet_29 : decode cX3_holderInNet 29 = .ok (.iaload, 1) := by decide +kernel
theorem dX3_holderInNet_30 : decode cX3_holderInNet 30 = .ok (.iload_n 2, 1) := by decide +kernel
theorem dX3_holderInNet_31 : decode cX3_holderInNet 31 = .ok (.if_icmp .eq 12, 3) := by decide +kernel
theorem dX3_holderInNet_34 : decode cX3_holderInNet 34 = .ok (.aload_n 0, 1) := by decide +kernel
theorem dX3_holderInNet_35 : decode cX3_holderInNet 35 = .ok (.iload_n 3, 1) := by decide +kernel
theorem dX3_holderInNet_36 : decode cX3_holderInNet 36 = .ok (.invokevirtual 81, 3) := by decide +kernel
theorem dX3_holderInNet_39 : decode cX3_holderInNet 39 = .ok (.iload_n 2, 1) := by decide +kernel
theorem dX3_holderInNet_40 : decode cX3_holderInNet 40 = .ok (.if_icmp .ne 5, 3) := by decide +kernel
theorem dX3_holderInNet_43 : decode cX3_holderInNet 43 = .ok (.iload_n 3, 1) := by decide +kernel
theorem dX3_holderInNet_44 : decode cX3_holderInNet 44 = .ok (.ireturn, 1) := by decide +kernel
theorem dX3_holderInNet_45 : decode cX3_holderInNet 45 = .ok (.iinc 3 1, 3) := by decide +kernel
theorem dX3_holderInNet_48 : decode cX3_holderInNet 48 = .ok (.goto (-46), 3) := by decide +kernel
theorem dX3_holderInNet_51 : decode cX3_holderInNet 51 = .ok (.iconst (-1), 1) := by decide +kernel
theorem dX3_holderInNet_52 : decode cX3_holderInNet 52 = .ok (.ireturn, 1) := by decide +kernel
theorem dX3_numberedInNet_0 : decode cX3_numberedInNet 0 = .ok (.iconst 0, 1) := by decide +kernel
theorem dX3_numberedInNet_1 : decode cX3_numberedInNet 1 = .ok (.istore_n 3, 1) := by decide +kernel
theorem dX3_numberedInNet_2 : decode cX3_numberedInNet 2 = .ok (.iload_n 3, 1) := by decide +kernel
theorem dX3_numberedInNet_3 : decode cX3_numberedInNet 3 = .ok (.aload_n 0, 1) := by decide +kernel
theorem dX3_numberedInNet_4 : decode cX3_numberedInNet 4 = .ok (.getfield 49, 3) := by decide +kernel
theorem dX3_numberedInNet_7 : decode cX3_numberedInNet 7 = .ok (.if_icmp .ge 35, 3) := by decide +kernel
theorem dX3_numberedInNet_10 : decode cX3_numberedInNet 10 = .ok (.aload_n 0, 1) := by decide +kernel
theorem dX3_numberedInNet_11 : decode cX3_numberedInNet 11 = .ok (.aload_n 0, 1) := by decide +kernel
theorem dX3_numberedInNet_12 : decode cX3_numberedInNet 12 = .ok (.getfield 15, 3) := by decide +kernel
theorem dX3_numberedInNet_15 : decode cX3_numberedInNet 15 = .ok (.iload_n 3, 1) := by decide +kernel
theorem dX3_numberedInNet_16 : decode cX3_numberedInNet 16 = .ok (.iaload, 1) := by decide +kernel
theorem dX3_numberedInNet_17 : decode cX3_numberedInNet 17 = .ok (.iload_n 1, 1) := by decide +kernel
theorem dX3_numberedInNet_18 : decode cX3_numberedInNet 18 = .ok (.invokevirtual 96, 3) := by decide +kernel
theorem dX3_numberedInNet_21 : decode cX3_numberedInNet 21 = .ok (.ifCond .eq 15, 3) := by decide +kernel
theorem dX3_numberedInNet_24 : decode cX3_numberedInNet 24 = .ok (.aload_n 0, 1) := by decide +kernel
theorem dX3_numberedInNet_25 : decode cX3_numberedInNet 25 = .ok (.getfield 19, 3) := by decide +kernel
theorem dX3_numberedInNet_28 : decode cX3_numberedInNet 28 = .ok (.iload_n 3, 1) := by decide +kernel
theorem dX3_numberedInNet_29 : decode cX3_numberedInNet 29 = .ok (.iaload, 1) := by decide +kernel
theorem dX3_numberedInNet_30 : decode cX3_numberedInNet 30 = .ok (.iload_n 2, 1) := by decide +kernel
theorem dX3_numberedInNet_31 : decode cX3_numberedInNet 31 = .ok (.if_icmp .ne 5, 3) := by decide +kernel
theorem dX3_numberedInNet_34 : decode cX3_numberedInNet 34 = .ok (.iload_n 3, 1) := by decide +kernel
theorem dX3_numberedInNet_35 : decode cX3_numberedInNet 35 = .ok (.ireturn, 1) := by decide +kernel
theorem dX3_numberedInNet_36 : decode cX3_numberedInNet 36 = .ok (.iinc 3 1, 3) := by decide +kernel
theorem dX3_numberedInNet_39 : decode cX3_numberedInNet 39 = .ok (.goto (-37), 3) := by decide +kernel
theorem dX3_numberedInNet_42 : decode cX3_numberedInNet 42 = .ok (.iconst (-1), 1) := by decide +kernel
theorem dX3_numberedInNet_43 : decode cX3_numberedInNet 43 = .ok (.ireturn, 1) := by decide +kernel
theorem dX3_inNet_0 : decode cX3_inNet 0 = .ok (.aload_n 0, 1) := by decide +kernel
theorem dX3_inNet_1 : decode cX3_inNet 1 = .ok (.getfield 71, 3) := by decide +kernel
theorem dX3_inNet_4 : decode cX3_inNet 4 = .ok (.ifCond .ne 8, 3) := by decide +kernel
theorem dX3_inNet_7 : decode cX3_inNet 7 = .ok (.iload_n 1, 1) := by decide +kernel
theorem dX3_inNet_8 : decode cX3_inNet 8 = .ok (.iload_n 2, 1) := by decide +kernel
theorem dX3_inNet_9 : decode cX3_inNet 9 = .ok (.if_icmp .ne 7, 3) := by decide +kernel
theorem dX3_inNet_12 : decode cX3_inNet 12 = .ok (.iconst 1, 1) := by decide +kernel
theorem dX3_inNet_13 : decode cX3_inNet 13 = .ok (.goto 4, 3) := by decide +kernel
theorem dX3_inNet_16 : decode cX3_inNet 16 = .ok (.iconst 0, 1) := by decide +kernel
theorem dX3_inNet_17 : decode cX3_inNet 17 = .ok (.ireturn, 1) := by decide +kernel
theorem dX3_chosenToMove_0 : decode cX3_chosenToMove 0 = .ok (.aload_n 0, 1) := by decide +kernel
theorem dX3_chosenToMove_1 : decode cX3_chosenToMove 1 = .ok (.iconst 1, 1) := by decide +kernel
theorem dX3_chosenToMove_2 : decode cX3_chosenToMove 2 = .ok (.iload_n 1, 1) := by decide +kernel
theorem dX3_chosenToMove_3 : decode cX3_chosenToMove 3 = .ok (.invokevirtual 99, 3) := by decide +kernel
theorem dX3_chosenToMove_6 : decode cX3_chosenToMove 6 = .ok (.istore_n 2, 1) := by decide +kernel
theorem dX3_chosenToMove_7 : decode cX3_chosenToMove 7 = .ok (.iload_n 2, 1) := by decide +kernel
theorem dX3_chosenToMove_8 : decode cX3_chosenToMove 8 = .ok (.iconst (-1), 1) := by decide +kernel
theorem dX3_chosenToMove_9 : decode cX3_chosenToMove 9 = .ok (.if_icmp .eq 7, 3) := by decide +kernel
theorem dX3_chosenToMove_12 : decode cX3_chosenToMove 12 = .ok (.iload_n 2, 1) := by decide +kernel
theorem dX3_chosenToMove_13 : decode cX3_chosenToMove 13 = .ok (.goto 9, 3) := by decide +kernel
theorem dX3_chosenToMove_16 : decode cX3_chosenToMove 16 = .ok (.aload_n 0, 1) := by decide +kernel
theorem dX3_chosenToMove_17 : decode cX3_chosenToMove 17 = .ok (.iconst 0, 1) := by decide +kernel
theorem dX3_chosenToMove_18 : decode cX3_chosenToMove 18 = .ok (.iload_n 1, 1) := by decide +kernel
theorem dX3_chosenToMove_19 : decode cX3_chosenToMove 19 = .ok (.invokevirtual 99, 3) := by decide +kernel
theorem dX3_chosenToMove_22 : decode cX3_chosenToMove 22 = .ok (.ireturn, 1) := by decide +kernel
theorem dX3_movableWith_0 : decode cX3_movableWith 0 = .ok (.iconst 0, 1) := by decide +kernel
theorem dX3_movableWith_1 : decode cX3_movableWith 1 = .ok (.istore_n 3, 1) := by decide +kernel
theorem dX3_movableWith_2 : decode cX3_movableWith 2 = .ok (.iload_n 3, 1) := by decide +kernel
theorem dX3_movableWith_3 : decode cX3_movableWith 3 = .ok (.aload_n 0, 1) := by decide +kernel
theorem dX3_movableWith_4 : decode cX3_movableWith 4 = .ok (.getfield 49, 3) := by decide +kernel
theorem dX3_movableWith_7 : decode cX3_movableWith 7 = .ok (.if_icmp .ge 40, 3) := by decide +kernel
theorem dX3_movableWith_10 : decode cX3_movableWith 10 = .ok (.aload_n 0, 1) := by decide +kernel
theorem dX3_movableWith_11 : decode cX3_movableWith 11 = .ok (.getfield 15, 3) := by decide +kernel
theorem dX3_movableWith_14 : decode cX3_movableWith 14 = .ok (.iload_n 3, 1) := by decide +kernel
theorem dX3_movableWith_15 : decode cX3_movableWith 15 = .ok (.iaload, 1) := by decide +kernel
theorem dX3_movableWith_16 : decode cX3_movableWith 16 = .ok (.iload_n 1, 1) := by decide +kernel
theorem dX3_movableWith_17 : decode cX3_movableWith 17 = .ok (.if_icmp .ne 24, 3) := by decide +kernel
theorem dX3_movableWith_20 : decode cX3_movableWith 20 = .ok (.aload_n 0, 1) := by decide +kernel
theorem dX3_movableWith_21 : decode cX3_movableWith 21 = .ok (.getfield 19, 3) := by decide +kernel
theorem dX3_movableWith_24 : decode cX3_movableWith 24 = .ok (.iload_n 3, 1) := by decide +kernel
theorem dX3_movableWith_25 : decode cX3_movableWith 25 = .ok (.iaload, 1) := by decide +kernel
theorem dX3_movableWith_26 : decode cX3_movableWith 26 = .ok (.iload_n 2, 1) := by decide +kernel
theorem dX3_movableWith_27 : decode cX3_movableWith 27 = .ok (.if_icmp .ne 14, 3) := by decide +kernel
theorem dX3_movableWith_30 : decode cX3_movableWith 30 = .ok (.aload_n 0, 1) := by decide +kernel
theorem dX3_movableWith_31 : decode cX3_movableWith 31 = .ok (.getfield 22, 3) := by decide +kernel
theorem dX3_movableWith_34 : decode cX3_movableWith 34 = .ok (.iload_n 3, 1) := by decide +kernel
theorem dX3_movableWith_35 : decode cX3_movableWith 35 = .ok (.iaload, 1) := by decide +kernel
theorem dX3_movableWith_36 : decode cX3_movableWith 36 = .ok (.ifCond .ne 5, 3) := by decide +kernel
theorem dX3_movableWith_39 : decode cX3_movableWith 39 = .ok (.iload_n 3, 1) := by decide +kernel
theorem dX3_movableWith_40 : decode cX3_movableWith 40 = .ok (.ireturn, 1) := by decide +kernel
theorem dX3_movableWith_41 : decode cX3_movableWith 41 = .ok (.iinc 3 1, 3) := by decide +kernel
theorem dX3_movableWith_44 : decode cX3_movableWith 44 = .ok (.goto (-42), 3) := by decide +kernel
theorem dX3_movableWith_47 : decode cX3_movableWith 47 = .ok (.iconst (-1), 1) := by decide +kernel
theorem dX3_movableWith_48 : decode cX3_movableWith 48 = .ok (.ireturn, 1) := by decide +kernel
theorem dX3_keeperWouldMove_0 : decode cX3_keeperWouldMove 0 = .ok (.iconst 0, 1) := by decide +kernel
theorem dX3_keeperWouldMove_1 : decode cX3_keeperWouldMove 1 = .ok (.istore_n 1, 1) := by decide +kernel
theorem dX3_keeperWouldMove_2 : decode cX3_keeperWouldMove 2 = .ok (.iload_n 1, 1) := by decide +kernel
theorem dX3_keeperWouldMove_3 : decode cX3_keeperWouldMove 3 = .ok (.aload_n 0, 1) := by decide +kernel
theorem dX3_keeperWouldMove_4 : decode cX3_keeperWouldMove 4 = .ok (.getfield 49, 3) := by decide +kernel
theorem dX3_keeperWouldMove_7 : decode cX3_keeperWouldMove 7 = .ok (.if_icmp .ge 40, 3) := by decide +kernel
theorem dX3_keeperWouldMove_10 : decode cX3_keeperWouldMove 10 = .ok (.aload_n 0, 1) := by decide +kernel
theorem dX3_keeperWouldMove_11 : decode cX3_keeperWouldMove 11 = .ok (.getfield 28, 3) := by decide +kernel
theorem dX3_keeperWouldMove_14 : decode cX3_keeperWouldMove 14 = .ok (.iload_n 1, 1) := by decide +kernel
theorem dX3_keeperWouldMove_15 : decode cX3_keeperWouldMove 15 = .ok (.iaload, 1) := by decide +kernel
theorem dX3_keeperWouldMove_16 : decode cX3_keeperWouldMove 16 = .ok (.aload_n 0, 1) := by decide +kernel
theorem dX3_keeperWouldMove_17 : decode cX3_keeperWouldMove 17 = .ok (.getfield 56, 3) := by decide +kernel
theorem dX3_keeperWouldMove_20 : decode cX3_keeperWouldMove 20 = .ok (.iconst 1, 1) := by decide +kernel
theorem dX3_keeperWouldMove_21 : decode cX3_keeperWouldMove 21 = .ok (.iadd, 1) := by decide +kernel
theorem dX3_keeperWouldMove_22 : decode cX3_keeperWouldMove 22 = .ok (.if_icmp .ne 19, 3) := by decide +kernel
theorem dX3_keeperWouldMove_25 : decode cX3_keeperWouldMove 25 = .ok (.aload_n 0, 1) := by decide +kernel
theorem dX3_keeperWouldMove_26 : decode cX3_keeperWouldMove 26 = .ok (.iload_n 1, 1) := by decide +kernel
theorem dX3_keeperWouldMove_27 : decode cX3_keeperWouldMove 27 = .ok (.aload_n 0, 1) := by decide +kernel
theorem dX3_keeperWouldMove_28 : decode cX3_keeperWouldMove 28 = .ok (.getfield 56, 3) := by decide +kernel
theorem dX3_keeperWouldMove_31 : decode cX3_keeperWouldMove 31 = .ok (.iconst 1, 1) := by decide +kernel
theorem dX3_keeperWouldMove_32 : decode cX3_keeperWouldMove 32 = .ok (.iadd, 1) := by decide +kernel
theorem dX3_keeperWouldMove_33 : decode cX3_keeperWouldMove 33 = .ok (.invokevirtual 88, 3) := by decide +kernel
theorem dX3_keeperWouldMove_36 : decode cX3_keeperWouldMove 36 = .ok (.ifCond .eq 5, 3) := by decide +kernel
theorem dX3_keeperWouldMove_39 : decode cX3_keeperWouldMove 39 = .ok (.iconst 1, 1) := by decide +kernel
theorem dX3_keeperWouldMove_40 : decode cX3_keeperWouldMove 40 = .ok (.ireturn, 1) := by decide +kernel
theorem dX3_keeperWouldMove_41 : decode cX3_keeperWouldMove 41 = .ok (.iinc 1 1, 3) := by decide +kernel
theorem dX3_keeperWouldMove_44 : decode cX3_keeperWouldMove 44 = .ok (.goto (-42), 3) := by decide +kernel
theorem dX3_keeperWouldMove_47 : decode cX3_keeperWouldMove 47 = .ok (.iconst 0, 1) := by decide +kernel
theorem dX3_keeperWouldMove_48 : decode cX3_keeperWouldMove 48 = .ok (.ireturn, 1) := by decide +kernel
theorem dX3_doWave_0 : decode cX3_doWave 0 = .ok (.aload_n 0, 1) := by decide +kernel
theorem dX3_doWave_1 : decode cX3_doWave 1 = .ok (.getfield 56, 3) := by decide +kernel
theorem dX3_doWave_4 : decode cX3_doWave 4 = .ok (.bipush 9, 2) := by decide +kernel
theorem dX3_doWave_6 : decode cX3_doWave 6 = .ok (.if_icmp .lt 5, 3) := by decide +kernel
theorem dX3_doWave_9 : decode cX3_doWave 9 = .ok (.iconst 0, 1) := by decide +kernel
theorem dX3_doWave_10 : decode cX3_doWave 10 = .ok (.ireturn, 1) := by decide +kernel
theorem dX3_doWave_11 : decode cX3_doWave 11 = .ok (.aload_n 0, 1) := by decide +kernel
theorem dX3_doWave_12 : decode cX3_doWave 12 = .ok (.dup, 1) := by decide +kernel
theorem dX3_doWave_13 : decode cX3_doWave 13 = .ok (.getfield 56, 3) := by decide +kernel
theorem dX3_doWave_16 : decode cX3_doWave 16 = .ok (.iconst 1, 1) := by decide +kernel
theorem dX3_doWave_17 : decode cX3_doWave 17 = .ok (.iadd, 1) := by decide +kernel
theorem dX3_doWave_18 : decode cX3_doWave 18 = .ok (.putfield 56, 3) := by decide +kernel
theorem dX3_doWave_21 : decode cX3_doWave 21 = .ok (.iconst 0, 1) := by decide +kernel
theorem dX3_doWave_22 : decode cX3_doWave 22 = .ok (.istore_n 1, 1) := by decide +kernel
theorem dX3_doWave_23 : decode cX3_doWave 23 = .ok (.iload_n 1, 1) := by decide +kernel
theorem dX3_doWave_24 : decode cX3_doWave 24 = .ok (.aload_n 0, 1) := by decide +kernel
theorem dX3_doWave_25 : decode cX3_doWave 25 = .ok (.getfield 53, 3) := by decide +kernel
theorem dX3_doWave_28 : decode cX3_doWave 28 = .ok (.if_icmp .ge 53, 3) := by decide +kernel
theorem dX3_doWave_31 : decode cX3_doWave 31 = .ok (.aload_n 0, 1) := by decide +kernel
theorem dX3_doWave_32 : decode cX3_doWave 32 = .ok (.getfield 43, 3) := by decide +kernel
theorem dX3_doWave_35 : decode cX3_doWave 35 = .ok (.iload_n 1, 1) := by decide +kernel
theorem dX3_doWave_36 : decode cX3_doWave 36 = .ok (.aload_n 0, 1) := by decide +kernel
theorem dX3_doWave_37 : decode cX3_doWave 37 = .ok (.aload_n 0, 1) := by decide +kernel
theorem dX3_doWave_38 : decode cX3_doWave 38 = .ok (.getfield 37, 3) := by decide +kernel
theorem dX3_doWave_41 : decode cX3_doWave 41 = .ok (.iload_n 1, 1) := by decide +kernel
theorem dX3_doWave_42 : decode cX3_doWave 42 = .ok (.iaload, 1) := by decide +kernel
theorem dX3_doWave_43 : decode cX3_doWave 43 = .ok (.aload_n 0, 1) := by decide +kernel
theorem dX3_doWave_44 : decode cX3_doWave 44 = .ok (.getfield 43, 3) := by decide +kernel
theorem dX3_doWave_47 : decode cX3_doWave 47 = .ok (.iload_n 1, 1) := by decide +kernel
theorem dX3_doWave_48 : decode cX3_doWave 48 = .ok (.iaload, 1) := by decide +kernel
theorem dX3_doWave_49 : decode cX3_doWave 49 = .ok (.invokevirtual 120, 3) := by decide +kernel
theorem dX3_doWave_52 : decode cX3_doWave 52 = .ok (.iastore, 1) := by decide +kernel
theorem dX3_doWave_53 : decode cX3_doWave 53 = .ok (.aload_n 0, 1) := by decide +kernel
theorem dX3_doWave_54 : decode cX3_doWave 54 = .ok (.getfield 46, 3) := by decide +kernel
theorem dX3_doWave_57 : decode cX3_doWave 57 = .ok (.iload_n 1, 1) := by decide +kernel
theorem dX3_doWave_58 : decode cX3_doWave 58 = .ok (.aload_n 0, 1) := by decide +kernel
theorem dX3_doWave_59 : decode cX3_doWave 59 = .ok (.aload_n 0, 1) := by decide +kernel
theorem dX3_doWave_60 : decode cX3_doWave 60 = .ok (.getfield 37, 3) := by decide +kernel
theorem dX3_doWave_63 : decode cX3_doWave 63 = .ok (.iload_n 1, 1) := by decide +kernel
theorem dX3_doWave_64 : decode cX3_doWave 64 = .ok (.iaload, 1) := by decide +kernel
theorem dX3_doWave_65 : decode cX3_doWave 65 = .ok (.aload_n 0, 1) := by decide +kernel
theorem dX3_doWave_66 : decode cX3_doWave 66 = .ok (.getfield 46, 3) := by decide +kernel
theorem dX3_doWave_69 : decode cX3_doWave 69 = .ok (.iload_n 1, 1) := by decide +kernel
theorem dX3_doWave_70 : decode cX3_doWave 70 = .ok (.iaload, 1) := by decide +kernel
theorem dX3_doWave_71 : decode cX3_doWave 71 = .ok (.invokevirtual 120, 3) := by decide +kernel
theorem dX3_doWave_74 : decode cX3_doWave 74 = .ok (.iastore, 1) := by decide +kernel
theorem dX3_doWave_75 : decode cX3_doWave 75 = .ok (.iinc 1 1, 3) := by decide +kernel
theorem dX3_doWave_78 : decode cX3_doWave 78 = .ok (.goto (-55), 3) := by decide +kernel
theorem dX3_doWave_81 : decode cX3_doWave 81 = .ok (.iconst 0, 1) := by decide +kernel
theorem dX3_doWave_82 : decode cX3_doWave 82 = .ok (.istore_n 1, 1) := by decide +kernel
theorem dX3_doWave_83 : decode cX3_doWave 83 = .ok (.iconst 0, 1) := by decide +kernel
theorem dX3_doWave_84 : decode cX3_doWave 84 = .ok (.istore_n 2, 1) := by decide +kernel
theorem dX3_doWave_85 : decode cX3_doWave 85 = .ok (.iload_n 2, 1) := by decide +kernel
theorem dX3_doWave_86 : decode cX3_doWave 86 = .ok (.aload_n 0, 1) := by decide +kernel
theorem dX3_doWave_87 : decode cX3_doWave 87 = .ok (.getfield 49, 3) := by decide +kernel
theorem dX3_doWave_90 : decode cX3_doWave 90 = .ok (.if_icmp .ge 74, 3) := by decide +kernel
theorem dX3_doWave_93 : decode cX3_doWave 93 = .ok (.aload_n 0, 1) := by decide +kernel
theorem dX3_doWave_94 : decode cX3_doWave 94 = .ok (.getfield 28, 3) := by decide +kernel
theorem dX3_doWave_97 : decode cX3_doWave 97 = .ok (.iload_n 2, 1) := by decide +kernel
theorem dX3_doWave_98 : decode cX3_doWave 98 = .ok (.iaload, 1) := by decide +kernel
theorem dX3_doWave_99 : decode cX3_doWave 99 = .ok (.aload_n 0, 1) := by decide +kernel
theorem dX3_doWave_100 : decode cX3_doWave 100 = .ok (.getfield 56, 3) := by decide +kernel
theorem dX3_doWave_103 : decode cX3_doWave 103 = .ok (.if_icmp .ne 55, 3) := by decide +kernel
theorem dX3_doWave_106 : decode cX3_doWave 106 = .ok (.aload_n 0, 1) := by decide +kernel
theorem dX3_doWave_107 : decode cX3_doWave 107 = .ok (.getfield 34, 3) := by decide +kernel
theorem dX3_doWave_110 : decode cX3_doWave 110 = .ok (.iload_n 2, 1) := by decide +kernel
theorem dX3_doWave_111 : decode cX3_doWave 111 = .ok (.bipush 10, 2) := by decide +kernel
theorem dX3_doWave_113 : decode cX3_doWave 113 = .ok (.imul, 1) := by decide +kernel
theorem dX3_doWave_114 : decode cX3_doWave 114 = .ok (.aload_n 0, 1) := by decide +kernel
theorem dX3_doWave_115 : decode cX3_doWave 115 = .ok (.getfield 56, 3) := by decide +kernel
theorem dX3_doWave_118 : decode cX3_doWave 118 = .ok (.iadd, 1) := by decide +kernel
theorem dX3_doWave_119 : decode cX3_doWave 119 = .ok (.aload_n 0, 1) := by decide +kernel
theorem dX3_doWave_120 : decode cX3_doWave 120 = .ok (.getfield 19, 3) := by decide +kernel
theorem dX3_doWave_123 : decode cX3_doWave 123 = .ok (.iload_n 2, 1) := by decide +kernel
theorem dX3_doWave_124 : decode cX3_doWave 124 = .ok (.iaload, 1) := by decide +kernel
theorem dX3_doWave_125 : decode cX3_doWave 125 = .ok (.iastore, 1) := by decide +kernel
theorem dX3_doWave_126 : decode cX3_doWave 126 = .ok (.aload_n 0, 1) := by decide +kernel
theorem dX3_doWave_127 : decode cX3_doWave 127 = .ok (.getfield 31, 3) := by decide +kernel
theorem dX3_doWave_130 : decode cX3_doWave 130 = .ok (.iload_n 2, 1) := by decide +kernel
theorem dX3_doWave_131 : decode cX3_doWave 131 = .ok (.aload_n 0, 1) := by decide +kernel
theorem dX3_doWave_132 : decode cX3_doWave 132 = .ok (.getfield 56, 3) := by decide +kernel
theorem dX3_doWave_135 : decode cX3_doWave 135 = .ok (.iastore, 1) := by decide +kernel
theorem dX3_doWave_136 : decode cX3_doWave 136 = .ok (.aload_n 0, 1) := by decide +kernel
theorem dX3_doWave_137 : decode cX3_doWave 137 = .ok (.getfield 19, 3) := by decide +kernel
theorem dX3_doWave_140 : decode cX3_doWave 140 = .ok (.iload_n 2, 1) := by decide +kernel
theorem dX3_doWave_141 : decode cX3_doWave 141 = .ok (.aload_n 0, 1) := by decide +kernel
theorem dX3_doWave_142 : decode cX3_doWave 142 = .ok (.getfield 25, 3) := by decide +kernel
theorem dX3_doWave_145 : decode cX3_doWave 145 = .ok (.iload_n 2, 1) := by decide +kernel
theorem dX3_doWave_146 : decode cX3_doWave 146 = .ok (.iaload, 1) := by decide +kernel
theorem dX3_doWave_147 : decode cX3_doWave 147 = .ok (.iastore, 1) := by decide +kernel
theorem dX3_doWave_148 : decode cX3_doWave 148 = .ok (.aload_n 0, 1) := by decide +kernel
theorem dX3_doWave_149 : decode cX3_doWave 149 = .ok (.iload_n 2, 1) := by decide +kernel
theorem dX3_doWave_150 : decode cX3_doWave 150 = .ok (.iconst 0, 1) := by decide +kernel
theorem dX3_doWave_151 : decode cX3_doWave 151 = .ok (.iconst 0, 1) := by decide +kernel
theorem dX3_doWave_152 : decode cX3_doWave 152 = .ok (.invokevirtual 123, 3) := by decide +kernel
theorem dX3_doWave_155 : decode cX3_doWave 155 = .ok (.iinc 1 1, 3) := by decide +kernel
theorem dX3_doWave_158 : decode cX3_doWave 158 = .ok (.iinc 2 1, 3) := by decide +kernel
theorem dX3_doWave_161 : decode cX3_doWave 161 = .ok (.goto (-76), 3) := by decide +kernel
theorem dX3_doWave_164 : decode cX3_doWave 164 = .ok (.iload_n 1, 1) := by decide +kernel
theorem dX3_doWave_165 : decode cX3_doWave 165 = .ok (.ireturn, 1) := by decide +kernel
theorem dX3_sideBehindWave_0 : decode cX3_sideBehindWave 0 = .ok (.aload_n 0, 1) := by decide +kernel
theorem dX3_sideBehindWave_1 : decode cX3_sideBehindWave 1 = .ok (.iload_n 1, 1) := by decide +kernel
theorem dX3_sideBehindWave_2 : decode cX3_sideBehindWave 2 = .ok (.iload_n 2, 1) := by decide +kernel
theorem dX3_sideBehindWave_3 : decode cX3_sideBehindWave 3 = .ok (.invokevirtual 127, 3) := by decide +kernel
theorem dX3_sideBehindWave_6 : decode cX3_sideBehindWave 6 = .ok (.istore_n 3, 1) := by decide +kernel
theorem dX3_sideBehindWave_7 : decode cX3_sideBehindWave 7 = .ok (.iload_n 3, 1) := by decide +kernel
theorem dX3_sideBehindWave_8 : decode cX3_sideBehindWave 8 = .ok (.iconst (-1), 1) := by decide +kernel
theorem dX3_sideBehindWave_9 : decode cX3_sideBehindWave 9 = .ok (.if_icmp .eq 25, 3) := by decide +kernel
theorem dX3_sideBehindWave_12 : decode cX3_sideBehindWave 12 = .ok (.aload_n 0, 1) := by decide +kernel
theorem dX3_sideBehindWave_13 : decode cX3_sideBehindWave 13 = .ok (.getfield 28, 3) := by decide +kernel
theorem dX3_sideBehindWave_16 : decode cX3_sideBehindWave 16 = .ok (.iload_n 3, 1) := by decide +kernel
theorem dX3_sideBehindWave_17 : decode cX3_sideBehindWave 17 = .ok (.iaload, 1) := by decide +kernel
theorem dX3_sideBehindWave_18 : decode cX3_sideBehindWave 18 = .ok (.aload_n 0, 1) := by decide +kernel
theorem dX3_sideBehindWave_19 : decode cX3_sideBehindWave 19 = .ok (.getfield 56, 3) := by decide +kernel
theorem dX3_sideBehindWave_22 : decode cX3_sideBehindWave 22 = .ok (.if_icmp .ne 12, 3) := by decide +kernel
theorem dX3_sideBehindWave_25 : decode cX3_sideBehindWave 25 = .ok (.aload_n 0, 1) := by decide +kernel
theorem dX3_sideBehindWave_26 : decode cX3_sideBehindWave 26 = .ok (.getfield 25, 3) := by decide +kernel
theorem dX3_sideBehindWave_29 : decode cX3_sideBehindWave 29 = .ok (.iload_n 3, 1) := by decide +kernel
theorem dX3_sideBehindWave_30 : decode cX3_sideBehindWave 30 = .ok (.iaload, 1) := by decide +kernel
theorem dX3_sideBehindWave_31 : decode cX3_sideBehindWave 31 = .ok (.goto 4, 3) := by decide +kernel
theorem dX3_sideBehindWave_34 : decode cX3_sideBehindWave 34 = .ok (.iload_n 2, 1) := by decide +kernel
theorem dX3_sideBehindWave_35 : decode cX3_sideBehindWave 35 = .ok (.ireturn, 1) := by decide +kernel
theorem dX3_undoWave_0 : decode cX3_undoWave 0 = .ok (.aload_n 0, 1) := by decide +kernel
theorem dX3_undoWave_1 : decode cX3_undoWave 1 = .ok (.getfield 56, 3) := by decide +kernel
theorem dX3_undoWave_4 : decode cX3_undoWave 4 = .ok (.iconst 1, 1) := by decide +kernel
theorem dX3_undoWave_5 : decode cX3_undoWave 5 = .ok (.if_icmp .ge 4, 3) := by decide +kernel
theorem dX3_undoWave_8 : decode cX3_undoWave 8 = .ok (.return_, 1) := by decide +kernel
theorem dX3_undoWave_9 : decode cX3_undoWave 9 = .ok (.iconst 0, 1) := by decide +kernel
theorem dX3_undoWave_10 : decode cX3_undoWave 10 = .ok (.istore_n 1, 1) := by decide +kernel
theorem dX3_undoWave_11 : decode cX3_undoWave 11 = .ok (.iload_n 1, 1) := by decide +kernel
theorem dX3_undoWave_12 : decode cX3_undoWave 12 = .ok (.aload_n 0, 1) := by decide +kernel
theorem dX3_undoWave_13 : decode cX3_undoWave 13 = .ok (.getfield 53, 3) := by decide +kernel
theorem dX3_undoWave_16 : decode cX3_undoWave 16 = .ok (.if_icmp .ge 53, 3) := by decide +kernel
theorem dX3_undoWave_19 : decode cX3_undoWave 19 = .ok (.aload_n 0, 1) := by decide +kernel
theorem dX3_undoWave_20 : decode cX3_undoWave 20 = .ok (.getfield 43, 3) := by decide +kernel
theorem dX3_undoWave_23 : decode cX3_undoWave 23 = .ok (.iload_n 1, 1) := by decide +kernel
theorem dX3_undoWave_24 : decode cX3_undoWave 24 = .ok (.aload_n 0, 1) := by decide +kernel
theorem dX3_undoWave_25 : decode cX3_undoWave 25 = .ok (.aload_n 0, 1) := by decide +kernel
theorem dX3_undoWave_26 : decode cX3_undoWave 26 = .ok (.getfield 37, 3) := by decide +kernel
theorem dX3_undoWave_29 : decode cX3_undoWave 29 = .ok (.iload_n 1, 1) := by decide +kernel
theorem dX3_undoWave_30 : decode cX3_undoWave 30 = .ok (.iaload, 1) := by decide +kernel
theorem dX3_undoWave_31 : decode cX3_undoWave 31 = .ok (.aload_n 0, 1) := by decide +kernel
theorem dX3_undoWave_32 : decode cX3_undoWave 32 = .ok (.getfield 43, 3) := by decide +kernel
theorem dX3_undoWave_35 : decode cX3_undoWave 35 = .ok (.iload_n 1, 1) := by decide +kernel
theorem dX3_undoWave_36 : decode cX3_undoWave 36 = .ok (.iaload, 1) := by decide +kernel
theorem dX3_undoWave_37 : decode cX3_undoWave 37 = .ok (.invokevirtual 130, 3) := by decide +kernel
theorem dX3_undoWave_40 : decode cX3_undoWave 40 = .ok (.iastore, 1) := by decide +kernel
theorem dX3_undoWave_41 : decode cX3_undoWave 41 = .ok (.aload_n 0, 1) := by decide +kernel
theorem dX3_undoWave_42 : decode cX3_undoWave 42 = .ok (.getfield 46, 3) := by decide +kernel
theorem dX3_undoWave_45 : decode cX3_undoWave 45 = .ok (.iload_n 1, 1) := by decide +kernel
theorem dX3_undoWave_46 : decode cX3_undoWave 46 = .ok (.aload_n 0, 1) := by decide +kernel
theorem dX3_undoWave_47 : decode cX3_undoWave 47 = .ok (.aload_n 0, 1) := by decide +kernel
theorem dX3_undoWave_48 : decode cX3_undoWave 48 = .ok (.getfield 37, 3) := by decide +kernel
theorem dX3_undoWave_51 : decode cX3_undoWave 51 = .ok (.iload_n 1, 1) := by decide +kernel
theorem dX3_undoWave_52 : decode cX3_undoWave 52 = .ok (.iaload, 1) := by decide +kernel
theorem dX3_undoWave_53 : decode cX3_undoWave 53 = .ok (.aload_n 0, 1) := by decide +kernel
theorem dX3_undoWave_54 : decode cX3_undoWave 54 = .ok (.getfield 46, 3) := by decide +kernel
theorem dX3_undoWave_57 : decode cX3_undoWave 57 = .ok (.iload_n 1, 1) := by decide +kernel
theorem dX3_undoWave_58 : decode cX3_undoWave 58 = .ok (.iaload, 1) := by decide +kernel
theorem dX3_undoWave_59 : decode cX3_undoWave 59 = .ok (.invokevirtual 130, 3) := by decide +kernel
theorem dX3_undoWave_62 : decode cX3_undoWave 62 = .ok (.iastore, 1) := by decide +kernel
theorem dX3_undoWave_63 : decode cX3_undoWave 63 = .ok (.iinc 1 1, 3) := by decide +kernel
theorem dX3_undoWave_66 : decode cX3_undoWave 66 = .ok (.goto (-55), 3) := by decide +kernel
theorem dX3_undoWave_69 : decode cX3_undoWave 69 = .ok (.iconst 0, 1) := by decide +kernel
theorem dX3_undoWave_70 : decode cX3_undoWave 70 = .ok (.istore_n 1, 1) := by decide +kernel
theorem dX3_undoWave_71 : decode cX3_undoWave 71 = .ok (.iload_n 1, 1) := by decide +kernel
theorem dX3_undoWave_72 : decode cX3_undoWave 72 = .ok (.aload_n 0, 1) := by decide +kernel
theorem dX3_undoWave_73 : decode cX3_undoWave 73 = .ok (.getfield 49, 3) := by decide +kernel
theorem dX3_undoWave_76 : decode cX3_undoWave 76 = .ok (.if_icmp .ge 27, 3) := by decide +kernel
theorem dX3_undoWave_79 : decode cX3_undoWave 79 = .ok (.aload_n 0, 1) := by decide +kernel
theorem dX3_undoWave_80 : decode cX3_undoWave 80 = .ok (.getfield 31, 3) := by decide +kernel
theorem dX3_undoWave_83 : decode cX3_undoWave 83 = .ok (.iload_n 1, 1) := by decide +kernel
theorem dX3_undoWave_84 : decode cX3_undoWave 84 = .ok (.iaload, 1) := by decide +kernel
theorem dX3_undoWave_85 : decode cX3_undoWave 85 = .ok (.aload_n 0, 1) := by decide +kernel
theorem dX3_undoWave_86 : decode cX3_undoWave 86 = .ok (.getfield 56, 3) := by decide +kernel
theorem dX3_undoWave_89 : decode cX3_undoWave 89 = .ok (.if_icmp .ne 8, 3) := by decide +kernel
theorem dX3_undoWave_92 : decode cX3_undoWave 92 = .ok (.aload_n 0, 1) := by decide +kernel
theorem dX3_undoWave_93 : decode cX3_undoWave 93 = .ok (.iload_n 1, 1) := by decide +kernel
theorem dX3_undoWave_94 : decode cX3_undoWave 94 = .ok (.invokevirtual 133, 3) := by decide +kernel
theorem dX3_undoWave_97 : decode cX3_undoWave 97 = .ok (.iinc 1 1, 3) := by decide +kernel
theorem dX3_undoWave_100 : decode cX3_undoWave 100 = .ok (.goto (-29), 3) := by decide +kernel
theorem dX3_undoWave_103 : decode cX3_undoWave 103 = .ok (.aload_n 0, 1) := by decide +kernel
theorem dX3_undoWave_104 : decode cX3_undoWave 104 = .ok (.dup, 1) := by decide +kernel
theorem dX3_undoWave_105 : decode cX3_undoWave 105 = .ok (.getfield 56, 3) := by decide +kernel
theorem dX3_undoWave_108 : decode cX3_undoWave 108 = .ok (.iconst 1, 1) := by decide +kernel
theorem dX3_undoWave_109 : decode cX3_undoWave 109 = .ok (.isub, 1) := by decide +kernel
theorem dX3_undoWave_110 : decode cX3_undoWave 110 = .ok (.putfield 56, 3) := by decide +kernel
theorem dX3_undoWave_113 : decode cX3_undoWave 113 = .ok (.return_, 1) := by decide +kernel
theorem dX3_sideAheadOfWave_0 : decode cX3_sideAheadOfWave 0 = .ok (.aload_n 0, 1) := by decide +kernel
theorem dX3_sideAheadOfWave_1 : decode cX3_sideAheadOfWave 1 = .ok (.iload_n 1, 1) := by decide +kernel
theorem dX3_sideAheadOfWave_2 : decode cX3_sideAheadOfWave 2 = .ok (.iload_n 2, 1) := by decide +kernel
theorem dX3_sideAheadOfWave_3 : decode cX3_sideAheadOfWave 3 = .ok (.invokevirtual 127, 3) := by decide +kernel
theorem dX3_sideAheadOfWave_6 : decode cX3_sideAheadOfWave 6 = .ok (.istore_n 3, 1) := by decide +kernel
theorem dX3_sideAheadOfWave_7 : decode cX3_sideAheadOfWave 7 = .ok (.iload_n 3, 1) := by decide +kernel
theorem dX3_sideAheadOfWave_8 : decode cX3_sideAheadOfWave 8 = .ok (.iconst (-1), 1) := by decide +kernel
theorem dX3_sideAheadOfWave_9 : decode cX3_sideAheadOfWave 9 = .ok (.if_icmp .eq 28, 3) := by decide +kernel
theorem dX3_sideAheadOfWave_12 : decode cX3_sideAheadOfWave 12 = .ok (.aload_n 0, 1) := by decide +kernel
theorem dX3_sideAheadOfWave_13 : decode cX3_sideAheadOfWave 13 = .ok (.getfield 31, 3) := by decide +kernel
theorem dX3_sideAheadOfWave_16 : decode cX3_sideAheadOfWave 16 = .ok (.iload_n 3, 1) := by decide +kernel
theorem dX3_sideAheadOfWave_17 : decode cX3_sideAheadOfWave 17 = .ok (.iaload, 1) := by decide +kernel
theorem dX3_sideAheadOfWave_18 : decode cX3_sideAheadOfWave 18 = .ok (.aload_n 0, 1) := by decide +kernel
theorem dX3_sideAheadOfWave_19 : decode cX3_sideAheadOfWave 19 = .ok (.getfield 56, 3) := by decide +kernel
theorem dX3_sideAheadOfWave_22 : decode cX3_sideAheadOfWave 22 = .ok (.if_icmp .ne 15, 3) := by decide +kernel
theorem dX3_sideAheadOfWave_25 : decode cX3_sideAheadOfWave 25 = .ok (.aload_n 0, 1) := by decide +kernel
theorem dX3_sideAheadOfWave_26 : decode cX3_sideAheadOfWave 26 = .ok (.iload_n 3, 1) := by decide +kernel
theorem dX3_sideAheadOfWave_27 : decode cX3_sideAheadOfWave 27 = .ok (.aload_n 0, 1) := by decide +kernel
theorem dX3_sideAheadOfWave_28 : decode cX3_sideAheadOfWave 28 = .ok (.getfield 56, 3) := by decide +kernel
theorem dX3_sideAheadOfWave_31 : decode cX3_sideAheadOfWave 31 = .ok (.invokevirtual 92, 3) := by decide +kernel
theorem dX3_sideAheadOfWave_34 : decode cX3_sideAheadOfWave 34 = .ok (.goto 4, 3) := by decide +kernel
theorem dX3_sideAheadOfWave_37 : decode cX3_sideAheadOfWave 37 = .ok (.iload_n 2, 1) := by decide +kernel
theorem dX3_sideAheadOfWave_38 : decode cX3_sideAheadOfWave 38 = .ok (.ireturn, 1) := by decide +kernel
theorem dX3_undoMove_0 : decode cX3_undoMove 0 = .ok (.aload_n 0, 1) := by decide +kernel
theorem dX3_undoMove_1 : decode cX3_undoMove 1 = .ok (.getfield 28, 3) := by decide +kernel
theorem dX3_undoMove_4 : decode cX3_undoMove 4 = .ok (.iload_n 1, 1) := by decide +kernel
theorem dX3_undoMove_5 : decode cX3_undoMove 5 = .ok (.iaload, 1) := by decide +kernel
theorem dX3_undoMove_6 : decode cX3_undoMove 6 = .ok (.ifCond .ne 27, 3) := by decide +kernel
theorem dX3_undoMove_9 : decode cX3_undoMove 9 = .ok (.aload_n 0, 1) := by decide +kernel
theorem dX3_undoMove_10 : decode cX3_undoMove 10 = .ok (.getfield 22, 3) := by decide +kernel
theorem dX3_undoMove_13 : decode cX3_undoMove 13 = .ok (.iload_n 1, 1) := by decide +kernel
theorem dX3_undoMove_14 : decode cX3_undoMove 14 = .ok (.iaload, 1) := by decide +kernel
theorem dX3_undoMove_15 : decode cX3_undoMove 15 = .ok (.ifCond .ne 18, 3) := by decide +kernel
theorem dX3_undoMove_18 : decode cX3_undoMove 18 = .ok (.aload_n 0, 1) := by decide +kernel
theorem dX3_undoMove_19 : decode cX3_undoMove 19 = .ok (.iload_n 1, 1) := by decide +kernel
theorem dX3_undoMove_20 : decode cX3_undoMove 20 = .ok (.aload_n 0, 1) := by decide +kernel
theorem dX3_undoMove_21 : decode cX3_undoMove 21 = .ok (.getfield 19, 3) := by decide +kernel
theorem dX3_undoMove_24 : decode cX3_undoMove 24 = .ok (.iload_n 1, 1) := by decide +kernel
theorem dX3_undoMove_25 : decode cX3_undoMove 25 = .ok (.iaload, 1) := by decide +kernel
theorem dX3_undoMove_26 : decode cX3_undoMove 26 = .ok (.aload_n 0, 1) := by decide +kernel
theorem dX3_undoMove_27 : decode cX3_undoMove 27 = .ok (.getfield 56, 3) := by decide +kernel
theorem dX3_undoMove_30 : decode cX3_undoMove 30 = .ok (.invokevirtual 123, 3) := by decide +kernel
theorem dX3_undoMove_33 : decode cX3_undoMove 33 = .ok (.aload_n 0, 1) := by decide +kernel
theorem dX3_undoMove_34 : decode cX3_undoMove 34 = .ok (.getfield 19, 3) := by decide +kernel
theorem dX3_undoMove_37 : decode cX3_undoMove 37 = .ok (.iload_n 1, 1) := by decide +kernel
theorem dX3_undoMove_38 : decode cX3_undoMove 38 = .ok (.aload_n 0, 1) := by decide +kernel
theorem dX3_undoMove_39 : decode cX3_undoMove 39 = .ok (.iload_n 1, 1) := by decide +kernel
theorem dX3_undoMove_40 : decode cX3_undoMove 40 = .ok (.aload_n 0, 1) := by decide +kernel
theorem dX3_undoMove_41 : decode cX3_undoMove 41 = .ok (.getfield 56, 3) := by decide +kernel
theorem dX3_undoMove_44 : decode cX3_undoMove 44 = .ok (.invokevirtual 92, 3) := by decide +kernel
theorem dX3_undoMove_47 : decode cX3_undoMove 47 = .ok (.iastore, 1) := by decide +kernel
theorem dX3_undoMove_48 : decode cX3_undoMove 48 = .ok (.aload_n 0, 1) := by decide +kernel
theorem dX3_undoMove_49 : decode cX3_undoMove 49 = .ok (.getfield 34, 3) := by decide +kernel
theorem dX3_undoMove_52 : decode cX3_undoMove 52 = .ok (.iload_n 1, 1) := by decide +kernel
theorem dX3_undoMove_53 : decode cX3_undoMove 53 = .ok (.bipush 10, 2) := by decide +kernel
theorem dX3_undoMove_55 : decode cX3_undoMove 55 = .ok (.imul, 1) := by decide +kernel
theorem dX3_undoMove_56 : decode cX3_undoMove 56 = .ok (.aload_n 0, 1) := by decide +kernel
theorem dX3_undoMove_57 : decode cX3_undoMove 57 = .ok (.getfield 56, 3) := by decide +kernel
theorem dX3_undoMove_60 : decode cX3_undoMove 60 = .ok (.iadd, 1) := by decide +kernel
theorem dX3_undoMove_61 : decode cX3_undoMove 61 = .ok (.iconst 0, 1) := by decide +kernel
theorem dX3_undoMove_62 : decode cX3_undoMove 62 = .ok (.iastore, 1) := by decide +kernel
theorem dX3_undoMove_63 : decode cX3_undoMove 63 = .ok (.aload_n 0, 1) := by decide +kernel
theorem dX3_undoMove_64 : decode cX3_undoMove 64 = .ok (.getfield 56, 3) := by decide +kernel
theorem dX3_undoMove_67 : decode cX3_undoMove 67 = .ok (.iconst 1, 1) := by decide +kernel
theorem dX3_undoMove_68 : decode cX3_undoMove 68 = .ok (.isub, 1) := by decide +kernel
theorem dX3_undoMove_69 : decode cX3_undoMove 69 = .ok (.istore_n 2, 1) := by decide +kernel
theorem dX3_undoMove_70 : decode cX3_undoMove 70 = .ok (.iload_n 2, 1) := by decide +kernel
theorem dX3_undoMove_71 : decode cX3_undoMove 71 = .ok (.ifCond .le 18, 3) := by decide +kernel
theorem dX3_undoMove_74 : decode cX3_undoMove 74 = .ok (.aload_n 0, 1) := by decide +kernel
theorem dX3_undoMove_75 : decode cX3_undoMove 75 = .ok (.iload_n 1, 1) := by decide +kernel
theorem dX3_undoMove_76 : decode cX3_undoMove 76 = .ok (.iload_n 2, 1) := by decide +kernel
theorem dX3_undoMove_77 : decode cX3_undoMove 77 = .ok (.invokevirtual 92, 3) := by decide +kernel
theorem dX3_undoMove_80 : decode cX3_undoMove 80 = .ok (.ifCond .ne 9, 3) := by decide +kernel
theorem dX3_undoMove_83 : decode cX3_undoMove 83 = .ok (.iinc 2 (-1), 3) := by decide +kernel
theorem dX3_undoMove_86 : decode cX3_undoMove 86 = .ok (.goto (-16), 3) := by decide +kernel
theorem dX3_undoMove_89 : decode cX3_undoMove 89 = .ok (.aload_n 0, 1) := by decide +kernel
theorem dX3_undoMove_90 : decode cX3_undoMove 90 = .ok (.getfield 31, 3) := by decide +kernel
theorem dX3_undoMove_93 : decode cX3_undoMove 93 = .ok (.iload_n 1, 1) := by decide +kernel
theorem dX3_undoMove_94 : decode cX3_undoMove 94 = .ok (.iload_n 2, 1) := by decide +kernel
theorem dX3_undoMove_95 : decode cX3_undoMove 95 = .ok (.iastore, 1) := by decide +kernel
theorem dX3_undoMove_96 : decode cX3_undoMove 96 = .ok (.return_, 1) := by decide +kernel
theorem dX4_init_0 : decode cX4_init 0 = .ok (.aload_n 0, 1) := by decide +kernel
theorem dX4_init_1 : decode cX4_init 1 = .ok (.invokespecial 3, 3) := by decide +kernel
theorem dX4_init_4 : decode cX4_init 4 = .ok (.aload_n 0, 1) := by decide +kernel
theorem dX4_init_5 : decode cX4_init 5 = .ok (.sipush 203, 3) := by decide +kernel
theorem dX4_init_8 : decode cX4_init 8 = .ok (.newarray .int, 2) := by decide +kernel
theorem dX4_init_10 : decode cX4_init 10 = .ok (.putfield 11, 3) := by decide +kernel
theorem dX4_init_13 : decode cX4_init 13 = .ok (.aload_n 0, 1) := by decide +kernel
theorem dX4_init_14 : decode cX4_init 14 = .ok (.sipush 203, 3) := by decide +kernel
theorem dX4_init_17 : decode cX4_init 17 = .ok (.newarray .long, 2) := by decide +kernel
theorem dX4_init_19 : decode cX4_init 19 = .ok (.putfield 15, 3) := by decide +kernel
theorem dX4_init_22 : decode cX4_init 22 = .ok (.aload_n 0, 1) := by decide +kernel
theorem dX4_init_23 : decode cX4_init 23 = .ok (.bipush 40, 2) := by decide +kernel
theorem dX4_init_25 : decode cX4_init 25 = .ok (.newarray .int, 2) := by decide +kernel
theorem dX4_init_27 : decode cX4_init 27 = .ok (.putfield 19, 3) := by decide +kernel
theorem dX4_init_30 : decode cX4_init 30 = .ok (.aload_n 0, 1) := by decide +kernel
theorem dX4_init_31 : decode cX4_init 31 = .ok (.aload_n 1, 1) := by decide +kernel
theorem dX4_init_32 : decode cX4_init 32 = .ok (.putfield 22, 3) := by decide +kernel
theorem dX4_init_35 : decode cX4_init 35 = .ok (.return_, 1) := by decide +kernel
theorem dX5_init_0 : decode cX5_init 0 = .ok (.aload_n 0, 1) := by decide +kernel
theorem dX5_init_1 : decode cX5_init 1 = .ok (.invokespecial 3, 3) := by decide +kernel
theorem dX5_init_4 : decode cX5_init 4 = .ok (.aload_n 0, 1) := by decide +kernel
theorem dX5_init_5 : decode cX5_init 5 = .ok (.sipush 251, 3) := by decide +kernel
theorem dX5_init_8 : decode cX5_init 8 = .ok (.newarray .int, 2) := by decide +kernel
theorem dX5_init_10 : decode cX5_init 10 = .ok (.putfield 9, 3) := by decide +kernel
theorem dX5_init_13 : decode cX5_init 13 = .ok (.aload_n 0, 1) := by decide +kernel
theorem dX5_init_14 : decode cX5_init 14 = .ok (.sipush 251, 3) := by decide +kernel
theorem dX5_init_17 : decode cX5_init 17 = .ok (.newarray .int, 2) := by decide +kernel
theorem dX5_init_19 : decode cX5_init 19 = .ok (.putfield 15, 3) := by decide +kernel
theorem dX5_init_22 : decode cX5_init 22 = .ok (.aload_n 0, 1) := by decide +kernel
theorem dX5_init_23 : decode cX5_init 23 = .ok (.sipush 251, 3) := by decide +kernel
theorem dX5_init_26 : decode cX5_init 26 = .ok (.newarray .int, 2) := by decide +kernel
theorem dX5_init_28 : decode cX5_init 28 = .ok (.putfield 18, 3) := by decide +kernel
theorem dX5_init_31 : decode cX5_init 31 = .ok (.return_, 1) := by decide +kernel
theorem dX5_count_0 : decode cX5_count 0 = .ok (.aload_n 0, 1) := by decide +kernel
theorem dX5_count_1 : decode cX5_count 1 = .ok (.getfield 9, 3) := by decide +kernel
theorem dX5_count_4 : decode cX5_count 4 = .ok (.iconst 0, 1) := by decide +kernel
theorem dX5_count_5 : decode cX5_count 5 = .ok (.invokestatic 21, 3) := by decide +kernel
theorem dX5_count_8 : decode cX5_count 8 = .ok (.aload_n 0, 1) := by decide +kernel
theorem dX5_count_9 : decode cX5_count 9 = .ok (.getfield 15, 3) := by decide +kernel
theorem dX5_count_12 : decode cX5_count 12 = .ok (.iconst 0, 1) := by decide +kernel
theorem dX5_count_13 : decode cX5_count 13 = .ok (.invokestatic 21, 3) := by decide +kernel
theorem dX5_count_16 : decode cX5_count 16 = .ok (.aload_n 0, 1) := by decide +kernel
theorem dX5_count_17 : decode cX5_count 17 = .ok (.getfield 18, 3) := by decide +kernel
theorem dX5_count_20 : decode cX5_count 20 = .ok (.iconst 0, 1) := by decide +kernel
theorem dX5_count_21 : decode cX5_count 21 = .ok (.invokestatic 21, 3) := by decide +kernel
theorem dX5_count_24 : decode cX5_count 24 = .ok (.iconst 0, 1) := by decide +kernel
theorem dX5_count_25 : decode cX5_count 25 = .ok (.istore_n 2, 1) := by decide +kernel
theorem dX5_count_26 : decode cX5_count 26 = .ok (.iload_n 2, 1) := by decide +kernel
theorem dX5_count_27 : decode cX5_count 27 = .ok (.aload_n 1, 1) := by decide +kernel
theorem dX5_count_28 : decode cX5_count 28 = .ok (.getfield 27, 3) := by decide +kernel
theorem dX5_count_31 : decode cX5_count 31 = .ok (.if_icmp .ge 77, 3) := by decide +kernel
theorem dX5_count_34 : decode cX5_count 34 = .ok (.aload_n 1, 1) := by decide +kernel
theorem dX5_count_35 : decode cX5_count 35 = .ok (.getfield 33, 3) := by decide +kernel
theorem dX5_count_38 : decode cX5_count 38 = .ok (.iload_n 2, 1) := by decide +kernel
theorem dX5_count_39 : decode cX5_count 39 = .ok (.iaload, 1) := by decide +kernel
theorem dX5_count_40 : decode cX5_count 40 = .ok (.ifCond .ne 10, 3) := by decide +kernel
theorem dX5_count_43 : decode cX5_count 43 = .ok (.aload_n 0, 1) := by decide +kernel
theorem dX5_count_44 : decode cX5_count 44 = .ok (.getfield 9, 3) := by decide +kernel
theorem dX5_count_47 : decode cX5_count 47 = .ok (.goto 7, 3) := by decide +kernel
theorem dX5_count_50 : decode cX5_count 50 = .ok (.aload_n 0, 1) := by decide +kernel
theorem dX5_count_51 : decode cX5_count 51 = .ok (.getfield 15, 3) := by decide +kernel
theorem dX5_count_54 : decode cX5_count 54 = .ok (.astore_n 3, 1) := by decide +kernel
theorem dX5_count_55 : decode cX5_count 55 = .ok (.aload_n 1, 1) := by decide +kernel
theorem dX5_count_56 : decode cX5_count 56 = .ok (.iload_n 2, 1) := by decide +kernel
theorem dX5_count_57 : decode cX5_count 57 = .ok (.invokevirtual 36, 3) := by decide +kernel
theorem dX5_count_60 : decode cX5_count 60 = .ok (.istore 4, 2) := by decide +kernel
theorem dX5_count_62 : decode cX5_count 62 = .ok (.aload_n 3, 1) := by decide +kernel
theorem dX5_count_63 : decode cX5_count 63 = .ok (.aload_n 1, 1) := by decide +kernel
theorem dX5_count_64 : decode cX5_count 64 = .ok (.getfield 40, 3) := by decide +kernel
theorem dX5_count_67 : decode cX5_count 67 = .ok (.iload_n 2, 1) := by decide +kernel
theorem dX5_count_68 : decode cX5_count 68 = .ok (.iaload, 1) := by decide +kernel
theorem dX5_count_69 : decode cX5_count 69 = .ok (.invokestatic 43, 3) := by decide +kernel
theorem dX5_count_72 : decode cX5_count 72 = .ok (.iload 4, 2) := by decide +kernel
theorem dX5_count_74 : decode cX5_count 74 = .ok (.aload_n 1, 1) := by decide +kernel
theorem dX5_count_75 : decode cX5_count 75 = .ok (.getfield 40, 3) := by decide +kernel
theorem dX5_count_78 : decode cX5_count 78 = .ok (.iload_n 2, 1) := by decide +kernel
theorem dX5_count_79 : decode cX5_count 79 = .ok (.iaload, 1) := by decide +kernel
theorem dX5_count_80 : decode cX5_count 80 = .ok (.if_icmp .eq 9, 3) := by decide +kernel
theorem dX5_count_83 : decode cX5_count 83 = .ok (.aload_n 3, 1) := by decide +kernel
theorem dX5_count_84 : decode cX5_count 84 = .ok (.iload 4, 2) := by decide +kernel
theorem dX5_count_86 : decode cX5_count 86 = .ok (.invokestatic 43, 3) := by decide +kernel
theorem dX5_count_89 : decode cX5_count 89 = .ok (.aload_n 0, 1) := by decide +kernel
theorem dX5_count_90 : decode cX5_count 90 = .ok (.getfield 18, 3) := by decide +kernel
theorem dX5_count_93 : decode cX5_count 93 = .ok (.aload_n 1, 1) := by decide +kernel
theorem dX5_count_94 : decode cX5_count 94 = .ok (.getfield 46, 3) := by decide +kernel
theorem dX5_count_97 : decode cX5_count 97 = .ok (.iload_n 2, 1) := by decide +kernel
theorem dX5_count_98 : decode cX5_count 98 = .ok (.iaload, 1) := by decide +kernel
theorem dX5_count_99 : decode cX5_count 99 = .ok (.invokestatic 43, 3) := by decide +kernel
theorem dX5_count_102 : decode cX5_count 102 = .ok (.iinc 2 1, 3) := by decide +kernel
theorem dX5_count_105 : decode cX5_count 105 = .ok (.goto (-79), 3) := by decide +kernel
theorem dX5_count_108 : decode cX5_count 108 = .ok (.return_, 1) := by decide +kernel
theorem dX5_countPlan_0 : decode cX5_countPlan 0 = .ok (.aload_n 0, 1) := by decide +kernel
theorem dX5_countPlan_1 : decode cX5_countPlan 1 = .ok (.getfield 18, 3) := by decide +kernel
theorem dX5_countPlan_4 : decode cX5_countPlan 4 = .ok (.iload_n 1, 1) := by decide +kernel
theorem dX5_countPlan_5 : decode cX5_countPlan 5 = .ok (.invokestatic 43, 3) := by decide +kernel
theorem dX5_countPlan_8 : decode cX5_countPlan 8 = .ok (.return_, 1) := by decide +kernel
theorem dX5_addOne_0 : decode cX5_addOne 0 = .ok (.iload_n 1, 1) := by decide +kernel
theorem dX5_addOne_1 : decode cX5_addOne 1 = .ok (.ifCond .lt 16, 3) := by decide +kernel
theorem dX5_addOne_4 : decode cX5_addOne 4 = .ok (.iload_n 1, 1) := by decide +kernel
theorem dX5_addOne_5 : decode cX5_addOne 5 = .ok (.aload_n 0, 1) := by decide +kernel
theorem dX5_addOne_6 : decode cX5_addOne 6 = .ok (.arraylength, 1) := by decide +kernel
theorem dX5_addOne_7 : decode cX5_addOne 7 = .ok (.if_icmp .ge 10, 3) := by decide +kernel
theorem dX5_addOne_10 : decode cX5_addOne 10 = .ok (.aload_n 0, 1) := by decide +kernel
theorem dX5_addOne_11 : decode cX5_addOne 11 = .ok (.iload_n 1, 1) := by decide +kernel
theorem dX5_addOne_12 : decode cX5_addOne 12 = .ok (.dup2, 1) := by decide +kernel
theorem dX5_addOne_13 : decode cX5_addOne 13 = .ok (.iaload, 1) := by decide +kernel
theorem dX5_addOne_14 : decode cX5_addOne 14 = .ok (.iconst 1, 1) := by decide +kernel
theorem dX5_addOne_15 : decode cX5_addOne 15 = .ok (.iadd, 1) := by decide +kernel
theorem dX5_addOne_16 : decode cX5_addOne 16 = .ok (.iastore, 1) := by decide +kernel
theorem dX5_addOne_17 : decode cX5_addOne 17 = .ok (.return_, 1) := by decide +kernel
theorem dX5_isClash_0 : decode cX5_isClash 0 = .ok (.iload_n 1, 1) := by decide +kernel
theorem dX5_isClash_1 : decode cX5_isClash 1 = .ok (.iconst 1, 1) := by decide +kernel
theorem dX5_isClash_2 : decode cX5_isClash 2 = .ok (.if_icmp .lt 32, 3) := by decide +kernel
theorem dX5_isClash_5 : decode cX5_isClash 5 = .ok (.iload_n 1, 1) := by decide +kernel
theorem dX5_isClash_6 : decode cX5_isClash 6 = .ok (.sipush 250, 3) := by decide +kernel
theorem dX5_isClash_9 : decode cX5_isClash 9 = .ok (.if_icmp .gt 25, 3) := by decide +kernel
theorem dX5_isClash_12 : decode cX5_isClash 12 = .ok (.aload_n 0, 1) := by decide +kernel
theorem dX5_isClash_13 : decode cX5_isClash 13 = .ok (.getfield 9, 3) := by decide +kernel
theorem dX5_isClash_16 : decode cX5_isClash 16 = .ok (.iload_n 1, 1) := by decide +kernel
theorem dX5_isClash_17 : decode cX5_isClash 17 = .ok (.iaload, 1) := by decide +kernel
theorem dX5_isClash_18 : decode cX5_isClash 18 = .ok (.ifCond .le 16, 3) := by decide +kernel
theorem dX5_isClash_21 : decode cX5_isClash 21 = .ok (.aload_n 0, 1) := by decide +kernel
theorem dX5_isClash_22 : decode cX5_isClash 22 = .ok (.getfield 15, 3) := by decide +kernel
theorem dX5_isClash_25 : decode cX5_isClash 25 = .ok (.iload_n 1, 1) := by decide +kernel
theorem dX5_isClash_26 : decode cX5_isClash 26 = .ok (.iaload, 1) := by decide +kernel
theorem dX5_isClash_27 : decode cX5_isClash 27 = .ok (.ifCond .le 7, 3) := by decide +kernel
theorem dX5_isClash_30 : decode cX5_isClash 30 = .ok (.iconst 1, 1) := by decide +kernel
theorem dX5_isClash_31 : decode cX5_isClash 31 = .ok (.goto 4, 3) := by decide +kernel
theorem dX5_isClash_34 : decode cX5_isClash 34 = .ok (.iconst 0, 1) := by decide +kernel
theorem dX5_isClash_35 : decode cX5_isClash 35 = .ok (.ireturn, 1) := by decide +kernel
theorem dX5_clashes_0 : decode cX5_clashes 0 = .ok (.iconst 0, 1) := by decide +kernel
theorem dX5_clashes_1 : decode cX5_clashes 1 = .ok (.istore_n 1, 1) := by decide +kernel
theorem dX5_clashes_2 : decode cX5_clashes 2 = .ok (.iconst 1, 1) := by decide +kernel
theorem dX5_clashes_3 : decode cX5_clashes 3 = .ok (.istore_n 2, 1) := by decide +kernel
theorem dX5_clashes_4 : decode cX5_clashes 4 = .ok (.iload_n 2, 1) := by decide +kernel
theorem dX5_clashes_5 : decode cX5_clashes 5 = .ok (.sipush 250, 3) := by decide +kernel
theorem dX5_clashes_8 : decode cX5_clashes 8 = .ok (.if_icmp .gt 25, 3) := by decide +kernel
theorem dX5_clashes_11 : decode cX5_clashes 11 = .ok (.iload_n 1, 1) := by decide +kernel
theorem dX5_clashes_12 : decode cX5_clashes 12 = .ok (.aload_n 0, 1) := by decide +kernel
theorem dX5_clashes_13 : decode cX5_clashes 13 = .ok (.iload_n 2, 1) := by decide +kernel
theorem dX5_clashes_14 : decode cX5_clashes 14 = .ok (.invokevirtual 49, 3) := by decide +kernel
theorem dX5_clashes_17 : decode cX5_clashes 17 = .ok (.ifCond .eq 7, 3) := by decide +kernel
theorem dX5_clashes_20 : decode cX5_clashes 20 = .ok (.iconst 1, 1) := by decide +kernel
theorem dX5_clashes_21 : decode cX5_clashes 21 = .ok (.goto 4, 3) := by decide +kernel
theorem dX5_clashes_24 : decode cX5_clashes 24 = .ok (.iconst 0, 1) := by decide +kernel
theorem dX5_clashes_25 : decode cX5_clashes 25 = .ok (.iadd, 1) := by decide +kernel
theorem dX5_clashes_26 : decode cX5_clashes 26 = .ok (.istore_n 1, 1) := by decide +kernel
theorem dX5_clashes_27 : decode cX5_clashes 27 = .ok (.iinc 2 1, 3) := by decide +kernel
theorem dX5_clashes_30 : decode cX5_clashes 30 = .ok (.goto (-26), 3) := by decide +kernel
theorem dX5_clashes_33 : decode cX5_clashes 33 = .ok (.iload_n 1, 1) := by decide +kernel
theorem dX5_clashes_34 : decode cX5_clashes 34 = .ok (.ireturn, 1) := by decide +kernel
theorem dX5_clashAt_0 : decode cX5_clashAt 0 = .ok (.iconst 0, 1) := by decide +kernel
theorem dX5_clashAt_1 : decode cX5_clashAt 1 = .ok (.istore_n 2, 1) := by decide +kernel
theorem dX5_clashAt_2 : decode cX5_clashAt 2 = .ok (.iconst 1, 1) := by decide +kernel
theorem dX5_clashAt_3 : decode cX5_clashAt 3 = .ok (.istore_n 3, 1) := by decide +kernel
theorem dX5_clashAt_4 : decode cX5_clashAt 4 = .ok (.iload_n 3, 1) := by decide +kernel
theorem dX5_clashAt_5 : decode cX5_clashAt 5 = .ok (.sipush 250, 3) := by decide +kernel
theorem dX5_clashAt_8 : decode cX5_clashAt 8 = .ok (.if_icmp .gt 27, 3) := by decide +kernel
theorem dX5_clashAt_11 : decode cX5_clashAt 11 = .ok (.aload_n 0, 1) := by decide +kernel
theorem dX5_clashAt_12 : decode cX5_clashAt 12 = .ok (.iload_n 3, 1) := by decide +kernel
theorem dX5_clashAt_13 : decode cX5_clashAt 13 = .ok (.invokevirtual 49, 3) := by decide +kernel
theorem dX5_clashAt_16 : decode cX5_clashAt 16 = .ok (.ifCond .eq 13, 3) := by decide +kernel
theorem dX5_clashAt_19 : decode cX5_clashAt 19 = .ok (.iload_n 2, 1) := by decide +kernel
theorem dX5_clashAt_20 : decode cX5_clashAt 20 = .ok (.iload_n 1, 1) := by decide +kernel
theorem dX5_clashAt_21 : decode cX5_clashAt 21 = .ok (.if_icmp .ne 5, 3) := by decide +kernel
theorem dX5_clashAt_24 : decode cX5_clashAt 24 = .ok (.iload_n 3, 1) := by decide +kernel
theorem dX5_clashAt_25 : decode cX5_clashAt 25 = .ok (.ireturn, 1) := by decide +kernel
theorem dX5_clashAt_26 : decode cX5_clashAt 26 = .ok (.iinc 2 1, 3) := by decide +kernel
theorem dX5_clashAt_29 : decode cX5_clashAt 29 = .ok (.iinc 3 1, 3) := by decide +kernel
theorem dX5_clashAt_32 : decode cX5_clashAt 32 = .ok (.goto (-28), 3) := by decide +kernel
theorem dX5_clashAt_35 : decode cX5_clashAt 35 = .ok (.iconst 0, 1) := by decide +kernel
theorem dX5_clashAt_36 : decode cX5_clashAt 36 = .ok (.ireturn, 1) := by decide +kernel
theorem dX5_smallestTwice_0 : decode cX5_smallestTwice 0 = .ok (.iconst 1, 1) := by decide +kernel
theorem dX5_smallestTwice_1 : decode cX5_smallestTwice 1 = .ok (.istore_n 2, 1) := by decide +kernel
theorem dX5_smallestTwice_2 : decode cX5_smallestTwice 2 = .ok (.iload_n 2, 1) := by decide +kernel
theorem dX5_smallestTwice_3 : decode cX5_smallestTwice 3 = .ok (.sipush 250, 3) := by decide +kernel
theorem dX5_smallestTwice_6 : decode cX5_smallestTwice 6 = .ok (.if_icmp .gt 43, 3) := by decide +kernel
theorem dX5_smallestTwice_9 : decode cX5_smallestTwice 9 = .ok (.aload_n 0, 1) := by decide +kernel
theorem dX5_smallestTwice_10 : decode cX5_smallestTwice 10 = .ok (.getfield 9, 3) := by decide +kernel
theorem dX5_smallestTwice_13 : decode cX5_smallestTwice 13 = .ok (.iload_n 2, 1) := by decide +kernel
theorem dX5_smallestTwice_14 : decode cX5_smallestTwice 14 = .ok (.iaload, 1) := by decide +kernel
theorem dX5_smallestTwice_15 : decode cX5_smallestTwice 15 = .ok (.iconst 1, 1) := by decide +kernel
theorem dX5_smallestTwice_16 : decode cX5_smallestTwice 16 = .ok (.if_icmp .gt 25, 3) := by decide +kernel
theorem dX5_smallestTwice_19 : decode cX5_smallestTwice 19 = .ok (.aload_n 0, 1) := by decide +kernel
theorem dX5_smallestTwice_20 : decode cX5_smallestTwice 20 = .ok (.getfield 15, 3) := by decide +kernel
theorem dX5_smallestTwice_23 : decode cX5_smallestTwice 23 = .ok (.iload_n 2, 1) := by decide +kernel
theorem dX5_smallestTwice_24 : decode cX5_smallestTwice 24 = .ok (.iaload, 1) := by decide +kernel
theorem dX5_smallestTwice_25 : decode cX5_smallestTwice 25 = .ok (.iconst 1, 1) := by decide +kernel
theorem dX5_smallestTwice_26 : decode cX5_smallestTwice 26 = .ok (.if_icmp .gt 15, 3) := by decide +kernel
theorem dX5_smallestTwice_29 : decode cX5_smallestTwice 29 = .ok (.iload_n 1, 1) := by decide +kernel
theorem dX5_smallestTwice_30 : decode cX5_smallestTwice 30 = .ok (.ifCond .eq 13, 3) := by decide +kernel
theorem dX5_smallestTwice_33 : decode cX5_smallestTwice 33 = .ok (.aload_n 0, 1) := by decide +kernel
theorem dX5_smallestTwice_34 : decode cX5_smallestTwice 34 = .ok (.iload_n 2, 1) := by decide +kernel
theorem dX5_smallestTwice_35 : decode cX5_smallestTwice 35 = .ok (.invokevirtual 49, 3) := by decide +kernel
theorem dX5_smallestTwice_38 : decode cX5_smallestTwice 38 = .ok (.ifCond .eq 5, 3) := by decide +kernel
theorem dX5_smallestTwice_41 : decode cX5_smallestTwice 41 = .ok (.iload_n 2, 1) := by decide +kernel
theorem dX5_smallestTwice_42 : decode cX5_smallestTwice 42 = .ok (.ireturn, 1) := by decide +kernel
theorem dX5_smallestTwice_43 : decode cX5_smallestTwice 43 = .ok (.iinc 2 1, 3) := by decide +kernel
theorem dX5_smallestTwice_46 : decode cX5_smallestTwice 46 = .ok (.goto (-44), 3) := by decide +kernel
theorem dX5_smallestTwice_49 : decode cX5_smallestTwice 49 = .ok (.iconst 0, 1) := by decide +kernel
theorem dX5_smallestTwice_50 : decode cX5_smallestTwice 50 = .ok (.ireturn, 1) := by decide +kernel
theorem dX5_smallestFree_0 : decode cX5_smallestFree 0 = .ok (.iconst 1, 1) := by decide +kernel
theorem dX5_smallestFree_1 : decode cX5_smallestFree 1 = .ok (.iload_n 1, 1) := by decide +kernel
theorem dX5_smallestFree_2 : decode cX5_smallestFree 2 = .ok (.invokestatic 53, 3) := by decide +kernel
theorem dX5_smallestFree_5 : decode cX5_smallestFree 5 = .ok (.istore_n 3, 1) := by decide +kernel
theorem dX5_smallestFree_6 : decode cX5_smallestFree 6 = .ok (.iload_n 3, 1) := by decide +kernel
theorem dX5_smallestFree_7 : decode cX5_smallestFree 7 = .ok (.iload_n 2, 1) := by decide +kernel
theorem dX5_smallestFree_8 : decode cX5_smallestFree 8 = .ok (.if_icmp .gt 45, 3) := by decide +kernel
theorem dX5_smallestFree_11 : decode cX5_smallestFree 11 = .ok (.iload_n 3, 1) := by decide +kernel
theorem dX5_smallestFree_12 : decode cX5_smallestFree 12 = .ok (.sipush 250, 3) := by decide +kernel
theorem dX5_smallestFree_15 : decode cX5_smallestFree 15 = .ok (.if_icmp .gt 38, 3) := by decide +kernel
theorem dX5_smallestFree_18 : decode cX5_smallestFree 18 = .ok (.aload_n 0, 1) := by decide +kernel
theorem dX5_smallestFree_19 : decode cX5_smallestFree 19 = .ok (.getfield 9, 3) := by decide +kernel
theorem dX5_smallestFree_22 : decode cX5_smallestFree 22 = .ok (.iload_n 3, 1) := by decide +kernel
theorem dX5_smallestFree_23 : decode cX5_smallestFree 23 = .ok (.iaload, 1) := by decide +kernel
theorem dX5_smallestFree_24 : decode cX5_smallestFree 24 = .ok (.ifCond .ne 23, 3) := by decide +kernel
theorem dX5_smallestFree_27 : decode cX5_smallestFree 27 = .ok (.aload_n 0, 1) := by decide +kernel
theorem dX5_smallestFree_28 : decode cX5_smallestFree 28 = .ok (.getfield 15, 3) := by decide +kernel
theorem dX5_smallestFree_31 : decode cX5_smallestFree 31 = .ok (.iload_n 3, 1) := by decide +kernel
theorem dX5_smallestFree_32 : decode cX5_smallestFree 32 = .ok (.iaload, 1) := by decide +kernel
theorem dX5_smallestFree_33 : decode cX5_smallestFree 33 = .ok (.ifCond .ne 14, 3) := by decide +kernel
theorem dX5_smallestFree_36 : decode cX5_smallestFree 36 = .ok (.aload_n 0, 1) := by decide +kernel
theorem dX5_smallestFree_37 : decode cX5_smallestFree 37 = .ok (.getfield 18, 3) := by decide +kernel
theorem dX5_smallestFree_40 : decode cX5_smallestFree 40 = .ok (.iload_n 3, 1) := by decide +kernel
theorem dX5_smallestFree_41 : decode cX5_smallestFree 41 = .ok (.iaload, 1) := by decide +kernel
theorem dX5_smallestFree_42 : decode cX5_smallestFree 42 = .ok (.ifCond .ne 5, 3) := by decide +kernel
theorem dX5_smallestFree_45 : decode cX5_smallestFree 45 = .ok (.iload_n 3, 1) := by decide +kernel
theorem dX5_smallestFree_46 : decode cX5_smallestFree 46 = .ok (.ireturn, 1) := by decide +kernel
theorem dX5_smallestFree_47 : decode cX5_smallestFree 47 = .ok (.iinc 3 1, 3) := by decide +kernel
theorem dX5_smallestFree_50 : decode cX5_smallestFree 50 = .ok (.goto (-44), 3) := by decide +kernel
theorem dX5_smallestFree_53 : decode cX5_smallestFree 53 = .ok (.iconst 0, 1) := by decide +kernel
theorem dX5_smallestFree_54 : decode cX5_smallestFree 54 = .ok (.ireturn, 1) := by decide +kernel
theorem dX6_init_0 : decode cX6_init 0 = .ok (.aload_n 0, 1) := by decide +kernel
theorem dX6_init_1 : decode cX6_init 1 = .ok (.invokespecial 3, 3) := by decide +kernel
theorem dX6_init_4 : decode cX6_init 4 = .ok (.aload_n 0, 1) := by decide +kernel
theorem dX6_init_5 : decode cX6_init 5 = .ok (.sipush 900, 3) := by decide +kernel
theorem dX6_init_8 : decode cX6_init 8 = .ok (.newarray .byte, 2) := by decide +kernel
theorem dX6_init_10 : decode cX6_init 10 = .ok (.putfield 9, 3) := by decide +kernel
theorem dX6_init_13 : decode cX6_init 13 = .ok (.return_, 1) := by decide +kernel
theorem dX6_append_0 : decode cX6_append 0 = .ok (.bipush 24, 2) := by decide +kernel
theorem dX6_append_2 : decode cX6_append 2 = .ok (.istore_n 2, 1) := by decide +kernel
theorem dX6_append_3 : decode cX6_append 3 = .ok (.iload_n 2, 1) := by decide +kernel
theorem dX6_append_4 : decode cX6_append 4 = .ok (.ifCond .lt 42, 3) := by decide +kernel
theorem dX6_append_7 : decode cX6_append 7 = .ok (.aload_n 0, 1) := by decide +kernel
theorem dX6_append_8 : decode cX6_append 8 = .ok (.getfield 15, 3) := by decide +kernel
theorem dX6_append_11 : decode cX6_append 11 = .ok (.sipush 900, 3) := by decide +kernel
theorem dX6_append_14 : decode cX6_append 14 = .ok (.if_icmp .ge 32, 3) := by decide +kernel
theorem dX6_append_17 : decode cX6_append 17 = .ok (.aload_n 0, 1) := by decide +kernel
theorem dX6_append_18 : decode cX6_append 18 = .ok (.getfield 9, 3) := by decide +kernel
theorem dX6_append_21 : decode cX6_append 21 = .ok (.aload_n 0, 1) := by decide +kernel
theorem dX6_append_22 : decode cX6_append 22 = .ok (.getfield 15, 3) := by decide +kernel
theorem dX6_append_25 : decode cX6_append 25 = .ok (.iload_n 1, 1) := by decide +kernel
theorem dX6_append_26 : decode cX6_append 26 = .ok (.iload_n 2, 1) := by decide +kernel
theorem dX6_append_27 : decode cX6_append 27 = .ok (.iushr, 1) := by decide +kernel
theorem dX6_append_28 : decode cX6_append 28 = .ok (.i2b, 1) := by decide +kernel
theorem dX6_append_29 : decode cX6_append 29 = .ok (.bastore, 1) := by decide +kernel
theorem dX6_append_30 : decode cX6_append 30 = .ok (.aload_n 0, 1) := by decide +kernel
theorem dX6_append_31 : decode cX6_append 31 = .ok (.dup, 1) := by decide +kernel
theorem dX6_append_32 : decode cX6_append 32 = .ok (.getfield 15, 3) := by decide +kernel
theorem dX6_append_35 : decode cX6_append 35 = .ok (.iconst 1, 1) := by decide +kernel
theorem dX6_append_36 : decode cX6_append 36 = .ok (.iadd, 1) := by decide +kernel
theorem dX6_append_37 : decode cX6_append 37 = .ok (.putfield 15, 3) := by decide +kernel
theorem dX6_append_40 : decode cX6_append 40 = .ok (.iinc 2 (-8), 3) := by decide +kernel
theorem dX6_append_43 : decode cX6_append 43 = .ok (.goto (-40), 3) := by decide +kernel
theorem dX6_append_46 : decode cX6_append 46 = .ok (.return_, 1) := by decide +kernel
theorem dX6_begin_0 : decode cX6_begin 0 = .ok (.aload_n 0, 1) := by decide +kernel
theorem dX6_begin_1 : decode cX6_begin 1 = .ok (.iload_n 1, 1) := by decide +kernel
theorem dX6_begin_2 : decode cX6_begin 2 = .ok (.sipush 900, 3) := by decide +kernel
theorem dX6_begin_5 : decode cX6_begin 5 = .ok (.invokestatic 19, 3) := by decide +kernel
theorem dX6_begin_8 : decode cX6_begin 8 = .ok (.putfield 25, 3) := by decide +kernel
theorem dX6_begin_11 : decode cX6_begin 11 = .ok (.aload_n 0, 1) := by decide +kernel
theorem dX6_begin_12 : decode cX6_begin 12 = .ok (.iconst 0, 1) := by decide +kernel
theorem dX6_begin_13 : decode cX6_begin 13 = .ok (.putfield 15, 3) := by decide +kernel
theorem dX6_begin_16 : decode cX6_begin 16 = .ok (.aload_n 0, 1) := by decide +kernel
theorem dX6_begin_17 : decode cX6_begin 17 = .ok (.iconst 0, 1) := by decide +kernel
theorem dX6_begin_18 : decode cX6_begin 18 = .ok (.putfield 28, 3) := by decide +kernel
theorem dX6_begin_21 : decode cX6_begin 21 = .ok (.aload_n 0, 1) := by decide +kernel
theorem dX6_begin_22 : decode cX6_begin 22 = .ok (.invokevirtual 31, 3) := by decide +kernel
theorem dX6_begin_25 : decode cX6_begin 25 = .ok (.return_, 1) := by decide +kernel
theorem dX6_advance_0 : decode cX6_advance 0 = .ok (.aload_n 0, 1) := by decide +kernel
theorem dX6_advance_1 : decode cX6_advance 1 = .ok (.getfield 28, 3) := by decide +kernel
theorem dX6_advance_4 : decode cX6_advance 4 = .ok (.aload_n 0, 1) := by decide +kernel
theorem dX6_advance_5 : decode cX6_advance 5 = .ok (.getfield 25, 3) := by decide +kernel
theorem dX6_advance_8 : decode cX6_advance 8 = .ok (.if_icmp .ge 44, 3) := by decide +kernel
theorem dX6_advance_11 : decode cX6_advance 11 = .ok (.aload_n 0, 1) := by decide +kernel
theorem dX6_advance_12 : decode cX6_advance 12 = .ok (.getfield 9, 3) := by decide +kernel
theorem dX6_advance_15 : decode cX6_advance 15 = .ok (.aload_n 0, 1) := by decide +kernel
theorem dX6_advance_16 : decode cX6_advance 16 = .ok (.getfield 28, 3) := by decide +kernel
theorem dX6_advance_19 : decode cX6_advance 19 = .ok (.baload, 1) := by decide +kernel
theorem dX6_advance_20 : decode cX6_advance 20 = .ok (.bipush 32, 2) := by decide +kernel
theorem dX6_advance_22 : decode cX6_advance 22 = .ok (.if_icmp .eq 17, 3) := by decide +kernel
theorem dX6_advance_25 : decode cX6_advance 25 = .ok (.aload_n 0, 1) := by decide +kernel
theorem dX6_advance_26 : decode cX6_advance 26 = .ok (.getfield 9, 3) := by decide +kernel
theorem dX6_advance_29 : decode cX6_advance 29 = .ok (.aload_n 0, 1) := by decide +kernel
theorem dX6_advance_30 : decode cX6_advance 30 = .ok (.getfield 28, 3) := by decide +kernel
theorem dX6_advance_33 : decode cX6_advance 33 = .ok (.baload, 1) := by decide +kernel
theorem dX6_advance_34 : decode cX6_advance 34 = .ok (.bipush 10, 2) := by decide +kernel
theorem dX6_advance_36 : decode cX6_advance 36 = .ok (.if_icmp .ne 16, 3) := by decide +kernel
theorem dX6_advance_39 : decode cX6_advance 39 = .ok (.aload_n 0, 1) := by decide +kernel
theorem dX6_advance_40 : decode cX6_advance 40 = .ok (.dup, 1) := by decide +kernel
theorem dX6_advance_41 : decode cX6_advance 41 = .ok (.getfield 28, 3) := by decide +kernel
theorem dX6_advance_44 : decode cX6_advance 44 = .ok (.iconst 1, 1) := by decide +kernel
theorem dX6_advance_45 : decode cX6_advance 45 = .ok (.iadd, 1) := by decide +kernel
theorem dX6_advance_46 : decode cX6_advance 46 = .ok (.putfield 28, 3) := by decide +kernel
theorem dX6_advance_49 : decode cX6_advance 49 = .ok (.goto (-49), 3) := by decide +kernel
theorem dX6_advance_52 : decode cX6_advance 52 = .ok (.aload_n 0, 1) := by decide +kernel
theorem dX6_advance_53 : decode cX6_advance 53 = .ok (.aload_n 0, 1) := by decide +kernel
theorem dX6_advance_54 : decode cX6_advance 54 = .ok (.getfield 28, 3) := by decide +kernel
theorem dX6_advance_57 : decode cX6_advance 57 = .ok (.putfield 34, 3) := by decide +kernel
theorem dX6_advance_60 : decode cX6_advance 60 = .ok (.aload_n 0, 1) := by decide +kernel
theorem dX6_advance_61 : decode cX6_advance 61 = .ok (.iconst 0, 1) := by decide +kernel
theorem dX6_advance_62 : decode cX6_advance 62 = .ok (.putfield 37, 3) := by decide +kernel
theorem dX6_advance_65 : decode cX6_advance 65 = .ok (.aload_n 0, 1) := by decide +kernel
theorem dX6_advance_66 : decode cX6_advance 66 = .ok (.getfield 28, 3) := by decide +kernel
theorem dX6_advance_69 : decode cX6_advance 69 = .ok (.aload_n 0, 1) := by decide +kernel
theorem dX6_advance_70 : decode cX6_advance 70 = .ok (.getfield 25, 3) := by decide +kernel
theorem dX6_advance_73 : decode cX6_advance 73 = .ok (.if_icmp .lt 11, 3) := by decide +kernel
theorem dX6_advance_76 : decode cX6_advance 76 = .ok (.aload_n 0, 1) := by decide +kernel
theorem dX6_advance_77 : decode cX6_advance 77 = .ok (.iconst 0, 1) := by decide +kernel
theorem dX6_advance_78 : decode cX6_advance 78 = .ok (.putfield 40, 3) := by decide +kernel
theorem dX6_advance_81 : decode cX6_advance 81 = .ok (.goto 166, 3) := by decide +kernel
theorem dX6_advance_84 : decode cX6_advance 84 = .ok (.aload_n 0, 1) := by decide +kernel
theorem dX6_advance_85 : decode cX6_advance 85 = .ok (.getfield 9, 3) := by decide +kernel
theorem dX6_advance_88 : decode cX6_advance 88 = .ok (.aload_n 0, 1) := by decide +kernel
theorem dX6_advance_89 : decode cX6_advance 89 = .ok (.getfield 28, 3) := by decide +kernel
theorem dX6_advance_92 : decode cX6_advance 92 = .ok (.baload, 1) := by decide +kernel
theorem dX6_advance_93 : decode cX6_advance 93 = .ok (.invokestatic 43, 3) := by decide +kernel
theorem dX6_advance_96 : decode cX6_advance 96 = .ok (.ifCond .eq 47, 3) := by decide +kernel
theorem dX6_advance_99 : decode cX6_advance 99 = .ok (.aload_n 0, 1) := by decide +kernel
theorem dX6_advance_100 : decode cX6_advance 100 = .ok (.iconst 1, 1) := by decide +kernel
theorem dX6_advance_101 : decode cX6_advance 101 = .ok (.putfield 40, 3) := by decide +kernel
theorem dX6_advance_104 : decode cX6_advance 104 = .ok (.aload_n 0, 1) := by decide +kernel
theorem dX6_advance_105 : decode cX6_advance 105 = .ok (.getfield 28, 3) := by decide +kernel
theorem dX6_advance_108 : decode cX6_advance 108 = .ok (.aload_n 0, 1) := by decide +kernel
theorem dX6_advance_109 : decode cX6_advance 109 = .ok (.getfield 25, 3) := by decide +kernel
theorem dX6_advance_112 : decode cX6_advance 112 = .ok (.if_icmp .ge 135, 3) := by decide +kernel
theorem dX6_advance_115 : decode cX6_advance 115 = .ok (.aload_n 0, 1) := by decide +kernel
theorem dX6_advance_116 : decode cX6_advance 116 = .ok (.getfield 9, 3) := by decide +kernel
theorem dX6_advance_119 : decode cX6_advance 119 = .ok (.aload_n 0, 1) := by decide +kernel
theorem dX6_advance_120 : decode cX6_advance 120 = .ok (.getfield 28, 3) := by decide +kernel
theorem dX6_advance_123 : decode cX6_advance 123 = .ok (.baload, 1) := by decide +kernel
theorem dX6_advance_124 : decode cX6_advance 124 = .ok (.invokestatic 43, 3) := by decide +kernel
theorem dX6_advance_127 : decode cX6_advance 127 = .ok (.ifCond .eq 120, 3) := by decide +kernel
theorem dX6_advance_130 : decode cX6_advance 130 = .ok (.aload_n 0, 1) := by decide +kernel
theorem dX6_advance_131 : decode cX6_advance 131 = .ok (.dup, 1) := by decide +kernel
theorem dX6_advance_132 : decode cX6_advance 132 = .ok (.getfield 28, 3) := by decide +kernel
theorem dX6_advance_135 : decode cX6_advance 135 = .ok (.iconst 1, 1) := by decide +kernel
theorem dX6_advance_136 : decode cX6_advance 136 = .ok (.iadd, 1) := by decide +kernel
theorem dX6_advance_137 : decode cX6_advance 137 = .ok (.putfield 28, 3) := by decide +kernel
theorem dX6_advance_140 : decode cX6_advance 140 = .ok (.goto (-36), 3) := by decide +kernel
theorem dX6_advance_143 : decode cX6_advance 143 = .ok (.aload_n 0, 1) := by decide +kernel
theorem dX6_advance_144 : decode cX6_advance 144 = .ok (.getfield 9, 3) := by decide +kernel
theorem dX6_advance_147 : decode cX6_advance 147 = .ok (.aload_n 0, 1) := by decide +kernel
theorem dX6_advance_148 : decode cX6_advance 148 = .ok (.getfield 28, 3) := by decide +kernel
theorem dX6_advance_151 : decode cX6_advance 151 = .ok (.baload, 1) := by decide +kernel
theorem dX6_advance_152 : decode cX6_advance 152 = .ok (.invokestatic 47, 3) := by decide +kernel
theorem dX6_advance_155 : decode cX6_advance 155 = .ok (.ifCond .eq 77, 3) := by decide +kernel
theorem dX6_advance_158 : decode cX6_advance 158 = .ok (.aload_n 0, 1) := by decide +kernel
theorem dX6_advance_159 : decode cX6_advance 159 = .ok (.iconst 2, 1) := by decide +kernel
theorem dX6_advance_160 : decode cX6_advance 160 = .ok (.putfield 40, 3) := by decide +kernel
theorem dX6_advance_163 : decode cX6_advance 163 = .ok (.aload_n 0, 1) := by decide +kernel
theorem dX6_advance_164 : decode cX6_advance 164 = .ok (.getfield 28, 3) := by decide +kernel
theorem dX6_advance_167 : decode cX6_advance 167 = .ok (.aload_n 0, 1) := by decide +kernel
theorem dX6_advance_168 : decode cX6_advance 168 = .ok (.getfield 25, 3) := by decide +kernel
theorem dX6_advance_171 : decode cX6_advance 171 = .ok (.if_icmp .ge 76, 3) := by decide +kernel
theorem dX6_advance_174 : decode cX6_advance 174 = .ok (.aload_n 0, 1) := by decide +kernel
theorem dX6_advance_175 : decode cX6_advance 175 = .ok (.getfield 9, 3) := by decide +kernel
theorem dX6_advance_178 : decode cX6_advance 178 = .ok (.aload_n 0, 1) := by decide +kernel
theorem dX6_advance_179 : decode cX6_advance 179 = .ok (.getfield 28, 3) := by decide +kernel
theorem dX6_advance_182 : decode cX6_advance 182 = .ok (.baload, 1) := by decide +kernel
theorem dX6_advance_183 : decode cX6_advance 183 = .ok (.invokestatic 47, 3) := by decide +kernel
theorem dX6_advance_186 : decode cX6_advance 186 = .ok (.ifCond .eq 61, 3) := by decide +kernel
theorem dX6_advance_189 : decode cX6_advance 189 = .ok (.aload_n 0, 1) := by decide +kernel
theorem dX6_advance_190 : decode cX6_advance 190 = .ok (.sipush 10000, 3) := by decide +kernel
theorem dX6_advance_193 : decode cX6_advance 193 = .ok (.aload_n 0, 1) := by decide +kernel
theorem dX6_advance_194 : decode cX6_advance 194 = .ok (.getfield 37, 3) := by decide +kernel
theorem dX6_advance_197 : decode cX6_advance 197 = .ok (.bipush 10, 2) := by decide +kernel
theorem dX6_advance_199 : decode cX6_advance 199 = .ok (.imul, 1) := by decide +kernel
theorem dX6_advance_200 : decode cX6_advance 200 = .ok (.aload_n 0, 1) := by decide +kernel
theorem dX6_advance_201 : decode cX6_advance 201 = .ok (.getfield 9, 3) := by decide +kernel
theorem dX6_advance_204 : decode cX6_advance 204 = .ok (.aload_n 0, 1) := by decide +kernel
theorem dX6_advance_205 : decode cX6_advance 205 = .ok (.getfield 28, 3) := by decide +kernel
theorem dX6_advance_208 : decode cX6_advance 208 = .ok (.baload, 1) := by decide +kernel
theorem dX6_advance_209 : decode cX6_advance 209 = .ok (.iadd, 1) := by decide +kernel
theorem dX6_advance_210 : decode cX6_advance 210 = .ok (.bipush 48, 2) := by decide +kernel
theorem dX6_advance_212 : decode cX6_advance 212 = .ok (.isub, 1) := by decide +kernel
theorem dX6_advance_213 : decode cX6_advance 213 = .ok (.invokestatic 19, 3) := by decide +kernel
theorem dX6_advance_216 : decode cX6_advance 216 = .ok (.putfield 37, 3) := by decide +kernel
theorem dX6_advance_219 : decode cX6_advance 219 = .ok (.aload_n 0, 1) := by decide +kernel
theorem dX6_advance_220 : decode cX6_advance 220 = .ok (.dup, 1) := by decide +kernel
theorem dX6_advance_221 : decode cX6_advance 221 = .ok (.getfield 28, 3) := by decide +kernel
theorem dX6_advance_224 : decode cX6_advance 224 = .ok (.iconst 1, 1) := by decide +kernel
theorem dX6_advance_225 : decode cX6_advance 225 = .ok (.iadd, 1) := by decide +kernel
theorem dX6_advance_226 : decode cX6_advance 226 = .ok (.putfield 28, 3) := by decide +kernel
theorem dX6_advance_229 : decode cX6_advance 229 = .ok (.goto (-66), 3) := by decide +kernel
theorem dX6_advance_232 : decode cX6_advance 232 = .ok (.aload_n 0, 1) := by decide +kernel
theorem dX6_advance_233 : decode cX6_advance 233 = .ok (.iconst 3, 1) := by decide +kernel
theorem dX6_advance_234 : decode cX6_advance 234 = .ok (.putfield 40, 3) := by decide +kernel
theorem dX6_advance_237 : decode cX6_advance 237 = .ok (.aload_n 0, 1) := by decide +kernel
theorem dX6_advance_238 : decode cX6_advance 238 = .ok (.dup, 1) := by decide +kernel
theorem dX6_advance_239 : decode cX6_advance 239 = .ok (.getfield 28, 3) := by decide +kernel
theorem dX6_advance_242 : decode cX6_advance 242 = .ok (.iconst 1, 1) := by decide +kernel
theorem dX6_advance_243 : decode cX6_advance 243 = .ok (.iadd, 1) := by decide +kernel
theorem dX6_advance_244 : decode cX6_advance 244 = .ok (.putfield 28, 3) := by decide +kernel
theorem dX6_advance_247 : decode cX6_advance 247 = .ok (.return_, 1) := by decide +kernel
theorem dX6_isLetter_0 : decode cX6_isLetter 0 = .ok (.iload_n 0, 1) := by decide +kernel
theorem dX6_isLetter_1 : decode cX6_isLetter 1 = .ok (.bipush 97, 2) := by decide +kernel
theorem dX6_isLetter_3 : decode cX6_isLetter 3 = .ok (.if_icmp .lt 13, 3) := by decide +kernel
theorem dX6_isLetter_6 : decode cX6_isLetter 6 = .ok (.iload_n 0, 1) := by decide +kernel
theorem dX6_isLetter_7 : decode cX6_isLetter 7 = .ok (.bipush 122, 2) := by decide +kernel
theorem dX6_isLetter_9 : decode cX6_isLetter 9 = .ok (.if_icmp .gt 7, 3) := by decide +kernel
theorem dX6_isLetter_12 : decode cX6_isLetter 12 = .ok (.iconst 1, 1) := by decide +kernel
theorem dX6_isLetter_13 : decode cX6_isLetter 13 = .ok (.goto 4, 3) := by decide +kernel
theorem dX6_isLetter_16 : decode cX6_isLetter 16 = .ok (.iconst 0, 1) := by decide +kernel
theorem dX6_isLetter_17 : decode cX6_isLetter 17 = .ok (.ireturn, 1) := by decide +kernel
theorem dX6_isDigit_0 : decode cX6_isDigit 0 = .ok (.iload_n 0, 1) := by decide +kernel
theorem dX6_isDigit_1 : decode cX6_isDigit 1 = .ok (.bipush 48, 2) := by decide +kernel
theorem dX6_isDigit_3 : decode cX6_isDigit 3 = .ok (.if_icmp .lt 13, 3) := by decide +kernel
theorem dX6_isDigit_6 : decode cX6_isDigit 6 = .ok (.iload_n 0, 1) := by decide +kernel
theorem dX6_isDigit_7 : decode cX6_isDigit 7 = .ok (.bipush 57, 2) := by decide +kernel
theorem dX6_isDigit_9 : decode cX6_isDigit 9 = .ok (.if_icmp .gt 7, 3) := by decide +kernel
theorem dX6_isDigit_12 : decode cX6_isDigit 12 = .ok (.iconst 1, 1) := by decide +kernel
theorem dX6_isDigit_13 : decode cX6_isDigit 13 = .ok (.goto 4, 3) := by decide +kernel
theorem dX6_isDigit_16 : decode cX6_isDigit 16 = .ok (.iconst 0, 1) := by decide +kernel
theorem dX6_isDigit_17 : decode cX6_isDigit 17 = .ok (.ireturn, 1) := by decide +kernel
theorem dX6_isSign_0 : decode cX6_isSign 0 = .ok (.aload_n 0, 1) := by decide +kernel
theorem dX6_isSign_1 : decode cX6_isSign 1 = .ok (.getfield 40, 3) := by decide +kernel
theorem dX6_isSign_4 : decode cX6_isSign 4 = .ok (.iconst 3, 1) := by decide +kernel
theorem dX6_isSign_5 : decode cX6_isSign 5 = .ok (.if_icmp .ne 31, 3) := by decide +kernel
theorem dX6_isSign_8 : decode cX6_isSign 8 = .ok (.aload_n 0, 1) := by decide +kernel
theorem dX6_isSign_9 : decode cX6_isSign 9 = .ok (.getfield 34, 3) := by decide +kernel
theorem dX6_isSign_12 : decode cX6_isSign 12 = .ok (.aload_n 0, 1) := by decide +kernel
theorem dX6_isSign_13 : decode cX6_isSign 13 = .ok (.getfield 25, 3) := by decide +kernel
theorem dX6_isSign_16 : decode cX6_isSign 16 = .ok (.if_icmp .ge 20, 3) := by decide +kernel
theorem dX6_isSign_19 : decode cX6_isSign 19 = .ok (.aload_n 0, 1) := by decide +kernel
theorem dX6_isSign_20 : decode cX6_isSign 20 = .ok (.getfield 9, 3) := by decide +kernel
theorem dX6_isSign_23 : decode cX6_isSign 23 = .ok (.aload_n 0, 1) := by decide +kernel
theorem dX6_isSign_24 : decode cX6_isSign 24 = .ok (.getfield 34, 3) := by decide +kernel
theorem dX6_isSign_27 : decode cX6_isSign 27 = .ok (.baload, 1) := by decide +kernel
theorem dX6_isSign_28 : decode cX6_isSign 28 = .ok (.iload_n 1, 1) := by decide +kernel
theorem dX6_isSign_29 : decode cX6_isSign 29 = .ok (.if_icmp .ne 7, 3) := by decide +kernel
theorem dX6_isSign_32 : decode cX6_isSign 32 = .ok (.iconst 1, 1) := by decide +kernel
theorem dX6_isSign_33 : decode cX6_isSign 33 = .ok (.goto 4, 3) := by decide +kernel
theorem dX6_isSign_36 : decode cX6_isSign 36 = .ok (.iconst 0, 1) := by decide +kernel
theorem dX6_isSign_37 : decode cX6_isSign 37 = .ok (.ireturn, 1) := by decide +kernel
theorem dX6_isWord_0 : decode cX6_isWord 0 = .ok (.aload_n 0, 1) := by decide +kernel
theorem dX6_isWord_1 : decode cX6_isWord 1 = .ok (.getfield 40, 3) := by decide +kernel
theorem dX6_isWord_4 : decode cX6_isWord 4 = .ok (.iconst 1, 1) := by decide +kernel
theorem dX6_isWord_5 : decode cX6_isWord 5 = .ok (.if_icmp .ne 19, 3) := by decide +kernel
theorem dX6_isWord_8 : decode cX6_isWord 8 = .ok (.aload_n 0, 1) := by decide +kernel
theorem dX6_isWord_9 : decode cX6_isWord 9 = .ok (.getfield 28, 3) := by decide +kernel
theorem dX6_isWord_12 : decode cX6_isWord 12 = .ok (.aload_n 0, 1) := by decide +kernel
theorem dX6_isWord_13 : decode cX6_isWord 13 = .ok (.getfield 34, 3) := by decide +kernel
theorem dX6_isWord_16 : decode cX6_isWord 16 = .ok (.isub, 1) := by decide +kernel
theorem dX6_isWord_17 : decode cX6_isWord 17 = .ok (.aload_n 1, 1) := by decide +kernel
theorem dX6_isWord_18 : decode cX6_isWord 18 = .ok (.invokevirtual 50, 3) := by decide +kernel
theorem dX6_isWord_21 : decode cX6_isWord 21 = .ok (.if_icmp .eq 5, 3) := by decide +kernel
theorem dX6_isWord_24 : decode cX6_isWord 24 = .ok (.iconst 0, 1) := by decide +kernel
theorem dX6_isWord_25 : decode cX6_isWord 25 = .ok (.ireturn, 1) := by decide +kernel
theorem dX6_isWord_26 : decode cX6_isWord 26 = .ok (.iconst 0, 1) := by decide +kernel
theorem dX6_isWord_27 : decode cX6_isWord 27 = .ok (.istore_n 2, 1) := by decide +kernel
theorem dX6_isWord_28 : decode cX6_isWord 28 = .ok (.iload_n 2, 1) := by decide +kernel
theorem dX6_isWord_29 : decode cX6_isWord 29 = .ok (.aload_n 1, 1) := by decide +kernel
theorem dX6_isWord_30 : decode cX6_isWord 30 = .ok (.invokevirtual 50, 3) := by decide +kernel
theorem dX6_isWord_33 : decode cX6_isWord 33 = .ok (.if_icmp .ge 30, 3) := by decide +kernel
theorem dX6_isWord_36 : decode cX6_isWord 36 = .ok (.aload_n 0, 1) := by decide +kernel
theorem dX6_isWord_37 : decode cX6_isWord 37 = .ok (.getfield 9, 3) := by decide +kernel
theorem dX6_isWord_40 : decode cX6_isWord 40 = .ok (.aload_n 0, 1) := by decide +kernel
theorem dX6_isWord_41 : decode cX6_isWord 41 = .ok (.getfield 34, 3) := by decide +kernel
theorem dX6_isWord_44 : decode cX6_isWord 44 = .ok (.iload_n 2, 1) := by decide +kernel
theorem dX6_isWord_45 : decode cX6_isWord 45 = .ok (.iadd, 1) := by decide +kernel
theorem dX6_isWord_46 : decode cX6_isWord 46 = .ok (.baload, 1) := by decide +kernel
theorem dX6_isWord_47 : decode cX6_isWord 47 = .ok (.aload_n 1, 1) := by decide +kernel
theorem dX6_isWord_48 : decode cX6_isWord 48 = .ok (.iload_n 2, 1) := by decide +kernel
theorem dX6_isWord_49 : decode cX6_isWord 49 = .ok (.invokevirtual 55, 3) := by decide +kernel
theorem dX6_isWord_52 : decode cX6_isWord 52 = .ok (.if_icmp .eq 5, 3) := by decide +kernel
theorem dX6_isWord_55 : decode cX6_isWord 55 = .ok (.iconst 0, 1) := by decide +kernel
theorem dX6_isWord_56 : decode cX6_isWord 56 = .ok (.ireturn, 1) := by decide +kernel
theorem dX6_isWord_57 : decode cX6_isWord 57 = .ok (.iinc 2 1, 3) := by decide +kernel
theorem dX6_isWord_60 : decode cX6_isWord 60 = .ok (.goto (-32), 3) := by decide +kernel
theorem dX6_isWord_63 : decode cX6_isWord 63 = .ok (.iconst 1, 1) := by decide +kernel
theorem dX6_isWord_64 : decode cX6_isWord 64 = .ok (.ireturn, 1) := by decide +kernel
theorem dX6_letters_0 : decode cX6_letters 0 = .ok (.aload_n 0, 1) := by decide +kernel
theorem dX6_letters_1 : decode cX6_letters 1 = .ok (.getfield 40, 3) := by decide +kernel
theorem dX6_letters_4 : decode cX6_letters 4 = .ok (.iconst 1, 1) := by decide +kernel
theorem dX6_letters_5 : decode cX6_letters 5 = .ok (.if_icmp .ne 15, 3) := by decide +kernel
theorem dX6_letters_8 : decode cX6_letters 8 = .ok (.aload_n 0, 1) := by decide +kernel
theorem dX6_letters_9 : decode cX6_letters 9 = .ok (.getfield 28, 3) := by decide +kernel
theorem dX6_letters_12 : decode cX6_letters 12 = .ok (.aload_n 0, 1) := by decide +kernel
theorem dX6_letters_13 : decode cX6_letters 13 = .ok (.getfield 34, 3) := by decide +kernel
theorem dX6_letters_16 : decode cX6_letters 16 = .ok (.isub, 1) := by decide +kernel
theorem dX6_letters_17 : decode cX6_letters 17 = .ok (.goto 4, 3) := by decide +kernel
theorem dX6_letters_20 : decode cX6_letters 20 = .ok (.iconst 0, 1) := by decide +kernel
theorem dX6_letters_21 : decode cX6_letters 21 = .ok (.ireturn, 1) := by decide +kernel
theorem dX6_asName_0 : decode cX6_asName 0 = .ok (.aload_n 0, 1) := by decide +kernel
theorem dX6_asName_1 : decode cX6_asName 1 = .ok (.invokevirtual 59, 3) := by decide +kernel
theorem dX6_asName_4 : decode cX6_asName 4 = .ok (.bipush 8, 2) := by decide +kernel
theorem dX6_asName_6 : decode cX6_asName 6 = .ok (.if_icmp .le 5, 3) := by decide +kernel
theorem dX6_asName_9 : decode cX6_asName 9 = .ok (.lconst 0, 1) := by decide +kernel
theorem dX6_asName_10 : decode cX6_asName 10 = .ok (.lreturn, 1) := by decide +kernel
theorem dX6_asName_11 : decode cX6_asName 11 = .ok (.lconst 0, 1) := by decide +kernel
theorem dX6_asName_12 : decode cX6_asName 12 = .ok (.lstore_n 1, 1) := by decide +kernel
theorem dX6_asName_13 : decode cX6_asName 13 = .ok (.aload_n 0, 1) := by decide +kernel
theorem dX6_asName_14 : decode cX6_asName 14 = .ok (.invokevirtual 59, 3) := by decide +kernel
theorem dX6_asName_17 : decode cX6_asName 17 = .ok (.iconst 1, 1) := by decide +kernel
theorem dX6_asName_18 : decode cX6_asName 18 = .ok (.isub, 1) := by decide +kernel
theorem dX6_asName_19 : decode cX6_asName 19 = .ok (.istore_n 3, 1) := by decide +kernel
theorem dX6_asName_20 : decode cX6_asName 20 = .ok (.iload_n 3, 1) := by decide +kernel
theorem dX6_asName_21 : decode cX6_asName 21 = .ok (.ifCond .lt 27, 3) := by decide +kernel
theorem dX6_asName_24 : decode cX6_asName 24 = .ok (.lload_n 1, 1) := by decide +kernel
theorem dX6_asName_25 : decode cX6_asName 25 = .ok (.bipush 8, 2) := by decide +kernel
theorem dX6_asName_27 : decode cX6_asName 27 = .ok (.lshl, 1) := by decide +kernel
theorem dX6_asName_28 : decode cX6_asName 28 = .ok (.aload_n 0, 1) := by decide +kernel
theorem dX6_asName_29 : decode cX6_asName 29 = .ok (.getfield 9, 3) := by decide +kernel
theorem dX6_asName_32 : decode cX6_asName 32 = .ok (.aload_n 0, 1) := by decide +kernel
theorem dX6_asName_33 : decode cX6_asName 33 = .ok (.getfield 34, 3) := by decide +kernel
theorem dX6_asName_36 : decode cX6_asName 36 = .ok (.iload_n 3, 1) := by decide +kernel
theorem dX6_asName_37 : decode cX6_asName 37 = .ok (.iadd, 1) := by decide +kernel
theorem dX6_asName_38 : decode cX6_asName 38 = .ok (.baload, 1) := by decide +kernel
theorem dX6_asName_39 : decode cX6_asName 39 = .ok (.i2l, 1) := by decide +kernel
theorem dX6_asName_40 : decode cX6_asName 40 = .ok (.lor, 1) := by decide +kernel
theorem dX6_asName_41 : decode cX6_asName 41 = .ok (.lstore_n 1, 1) := by decide +kernel
theorem dX6_asName_42 : decode cX6_asName 42 = .ok (.iinc 3 (-1), 3) := by decide +kernel
theorem dX6_asName_45 : decode cX6_asName 45 = .ok (.goto (-25), 3) := by decide +kernel
theorem dX6_asName_48 : decode cX6_asName 48 = .ok (.lload_n 1, 1) := by decide +kernel
theorem dX6_asName_49 : decode cX6_asName 49 = .ok (.lreturn, 1) := by decide +kernel
theorem dX7_init_0 : decode cX7_init 0 = .ok (.aload_n 0, 1) := by decide +kernel
theorem dX7_init_1 : decode cX7_init 1 = .ok (.invokespecial 1, 3) := by decide +kernel
theorem dX7_init_4 : decode cX7_init 4 = .ok (.aload_n 0, 1) := by decide +kernel
theorem dX7_init_5 : decode cX7_init 5 = .ok (.new 7, 3) := by decide +kernel
theorem dX7_init_8 : decode cX7_init 8 = .ok (.dup, 1) := by decide +kernel
theorem dX7_init_9 : decode cX7_init 9 = .ok (.invokespecial 9, 3) := by decide +kernel
theorem dX7_init_12 : decode cX7_init 12 = .ok (.putfield 10, 3) := by decide +kernel
theorem dX7_init_15 : decode cX7_init 15 = .ok (.aload_n 0, 1) := by decide +kernel
theorem dX7_init_16 : decode cX7_init 16 = .ok (.new 7, 3) := by decide +kernel
theorem dX7_init_19 : decode cX7_init 19 = .ok (.dup, 1) := by decide +kernel
theorem dX7_init_20 : decode cX7_init 20 = .ok (.invokespecial 9, 3) := by decide +kernel
theorem dX7_init_23 : decode cX7_init 23 = .ok (.putfield 16, 3) := by decide +kernel
theorem dX7_init_26 : decode cX7_init 26 = .ok (.aload_n 0, 1) := by decide +kernel
theorem dX7_init_27 : decode cX7_init 27 = .ok (.new 7, 3) := by decide +kernel
theorem dX7_init_30 : decode cX7_init 30 = .ok (.dup, 1) := by decide +kernel
theorem dX7_init_31 : decode cX7_init 31 = .ok (.invokespecial 9, 3) := by decide +kernel
theorem dX7_init_34 : decode cX7_init 34 = .ok (.putfield 19, 3) := by decide +kernel
theorem dX7_init_37 : decode cX7_init 37 = .ok (.aload_n 0, 1) := by decide +kernel
theorem dX7_init_38 : decode cX7_init 38 = .ok (.new 22, 3) := by decide +kernel
theorem dX7_init_41 : decode cX7_init 41 = .ok (.dup, 1) := by decide +kernel
theorem dX7_init_42 : decode cX7_init 42 = .ok (.invokespecial 24, 3) := by decide +kernel
theorem dX7_init_45 : decode cX7_init 45 = .ok (.putfield 25, 3) := by decide +kernel
theorem dX7_init_48 : decode cX7_init 48 = .ok (.aload_n 0, 1) := by decide +kernel
theorem dX7_init_49 : decode cX7_init 49 = .ok (.new 29, 3) := by decide +kernel
theorem dX7_init_52 : decode cX7_init 52 = .ok (.dup, 1) := by decide +kernel
theorem dX7_init_53 : decode cX7_init 53 = .ok (.invokespecial 31, 3) := by decide +kernel
theorem dX7_init_56 : decode cX7_init 56 = .ok (.putfield 32, 3) := by decide +kernel
theorem dX7_init_59 : decode cX7_init 59 = .ok (.aload_n 0, 1) := by decide +kernel
theorem dX7_init_60 : decode cX7_init 60 = .ok (.new 36, 3) := by decide +kernel
theorem dX7_init_63 : decode cX7_init 63 = .ok (.dup, 1) := by decide +kernel
theorem dX7_init_64 : decode cX7_init 64 = .ok (.invokespecial 38, 3) := by decide +kernel
theorem dX7_init_67 : decode cX7_init 67 = .ok (.putfield 39, 3) := by decide +kernel
theorem dX7_init_70 : decode cX7_init 70 = .ok (.aload_n 0, 1) := by decide +kernel
theorem dX7_init_71 : decode cX7_init 71 = .ok (.new 43, 3) := by decide +kernel
theorem dX7_init_74 : decode cX7_init 74 = .ok (.dup, 1) := by decide +kernel
theorem dX7_init_75 : decode cX7_init 75 = .ok (.aload_n 0, 1) := by decide +kernel
theorem dX7_init_76 : decode cX7_init 76 = .ok (.getfield 39, 3) := by decide +kernel
theorem dX7_init_79 : decode cX7_init 79 = .ok (.aload_n 0, 1) := by decide +kernel
theorem dX7_init_80 : decode cX7_init 80 = .ok (.getfield 16, 3) := by decide +kernel
theorem dX7_init_83 : decode cX7_init 83 = .ok (.invokespecial 45, 3) := by decide +kernel
theorem dX7_init_86 : decode cX7_init 86 = .ok (.putfield 48, 3) := by decide +kernel
theorem dX7_init_89 : decode cX7_init 89 = .ok (.aload_n 0, 1) := by decide +kernel
theorem dX7_init_90 : decode cX7_init 90 = .ok (.new 52, 3) := by decide +kernel
theorem dX7_init_93 : decode cX7_init 93 = .ok (.dup, 1) := by decide +kernel
theorem dX7_init_94 : decode cX7_init 94 = .ok (.aload_n 0, 1) := by decide +kernel
theorem dX7_init_95 : decode cX7_init 95 = .ok (.getfield 39, 3) := by decide +kernel
theorem dX7_init_98 : decode cX7_init 98 = .ok (.invokespecial 54, 3) := by decide +kernel
theorem dX7_init_101 : decode cX7_init 101 = .ok (.putfield 57, 3) := by decide +kernel
theorem dX7_init_104 : decode cX7_init 104 = .ok (.aload_n 0, 1) := by decide +kernel
theorem dX7_init_105 : decode cX7_init 105 = .ok (.new 61, 3) := by decide +kernel
theorem dX7_init_108 : decode cX7_init 108 = .ok (.dup, 1) := by decide +kernel
theorem dX7_init_109 : decode cX7_init 109 = .ok (.invokespecial 63, 3) := by decide +kernel
theorem dX7_init_112 : decode cX7_init 112 = .ok (.putfield 64, 3) := by decide +kernel
theorem dX7_init_115 : decode cX7_init 115 = .ok (.aload_n 0, 1) := by decide +kernel
theorem dX7_init_116 : decode cX7_init 116 = .ok (.iconst (-1), 1) := by decide +kernel
theorem dX7_init_117 : decode cX7_init 117 = .ok (.putfield 68, 3) := by decide +kernel
theorem dX7_init_120 : decode cX7_init 120 = .ok (.aload_n 0, 1) := by decide +kernel
theorem dX7_init_121 : decode cX7_init 121 = .ok (.getfield 10, 3) := by decide +kernel
theorem dX7_init_124 : decode cX7_init 124 = .ok (.invokevirtual 72, 3) := by decide +kernel
theorem dX7_init_127 : decode cX7_init 127 = .ok (.return_, 1) := by decide +kernel
theorem dX7_feed_0 : decode cX7_feed 0 = .ok (.aload_n 0, 1) := by decide +kernel
theorem dX7_feed_1 : decode cX7_feed 1 = .ok (.getfield 39, 3) := by decide +kernel
theorem dX7_feed_4 : decode cX7_feed 4 = .ok (.getfield 75, 3) := by decide +kernel
theorem dX7_feed_7 : decode cX7_feed 7 = .ok (.bipush 20, 2) := by decide +kernel
theorem dX7_feed_9 : decode cX7_feed 9 = .ok (.iadd, 1) := by decide +kernel
theorem dX7_feed_10 : decode cX7_feed 10 = .ok (.sipush 900, 3) := by decide +kernel
theorem dX7_feed_13 : decode cX7_feed 13 = .ok (.if_icmp .le 5, 3) := by decide +kernel
theorem dX7_feed_16 : decode cX7_feed 16 = .ok (.iconst (-1), 1) := by decide +kernel
theorem dX7_feed_17 : decode cX7_feed 17 = .ok (.ireturn, 1) := by decide +kernel
theorem dX7_feed_18 : decode cX7_feed 18 = .ok (.aload_n 0, 1) := by decide +kernel
theorem dX7_feed_19 : decode cX7_feed 19 = .ok (.getfield 39, 3) := by decide +kernel
theorem dX7_feed_22 : decode cX7_feed 22 = .ok (.iload_n 1, 1) := by decide +kernel
theorem dX7_feed_23 : decode cX7_feed 23 = .ok (.invokevirtual 78, 3) := by decide +kernel
theorem dX7_feed_26 : decode cX7_feed 26 = .ok (.aload_n 0, 1) := by decide +kernel
theorem dX7_feed_27 : decode cX7_feed 27 = .ok (.getfield 39, 3) := by decide +kernel
theorem dX7_feed_30 : decode cX7_feed 30 = .ok (.iload_n 2, 1) := by decide +kernel
theorem dX7_feed_31 : decode cX7_feed 31 = .ok (.invokevirtual 78, 3) := by decide +kernel
theorem dX7_feed_34 : decode cX7_feed 34 = .ok (.aload_n 0, 1) := by decide +kernel
theorem dX7_feed_35 : decode cX7_feed 35 = .ok (.getfield 39, 3) := by decide +kernel
theorem dX7_feed_38 : decode cX7_feed 38 = .ok (.iload_n 3, 1) := by decide +kernel
theorem dX7_feed_39 : decode cX7_feed 39 = .ok (.invokevirtual 78, 3) := by decide +kernel
theorem dX7_feed_42 : decode cX7_feed 42 = .ok (.aload_n 0, 1) := by decide +kernel
theorem dX7_feed_43 : decode cX7_feed 43 = .ok (.getfield 39, 3) := by decide +kernel
theorem dX7_feed_46 : decode cX7_feed 46 = .ok (.iload 4, 2) := by decide +kernel
theorem dX7_feed_48 : decode cX7_feed 48 = .ok (.invokevirtual 78, 3) := by decide +kernel
theorem dX7_feed_51 : decode cX7_feed 51 = .ok (.aload_n 0, 1) := by decide +kernel
theorem dX7_feed_52 : decode cX7_feed 52 = .ok (.getfield 39, 3) := by decide +kernel
theorem dX7_feed_55 : decode cX7_feed 55 = .ok (.iload 5, 2) := by decide +kernel
theorem dX7_feed_57 : decode cX7_feed 57 = .ok (.invokevirtual 78, 3) := by decide +kernel
theorem dX7_feed_60 : decode cX7_feed 60 = .ok (.aload_n 0, 1) := by decide +kernel
theorem dX7_feed_61 : decode cX7_feed 61 = .ok (.getfield 39, 3) := by decide +kernel
theorem dX7_feed_64 : decode cX7_feed 64 = .ok (.getfield 75, 3) := by decide +kernel
theorem dX7_feed_67 : decode cX7_feed 67 = .ok (.ireturn, 1) := by decide +kernel
theorem dX7_load_0 : decode cX7_load 0 = .ok (.iload_n 1, 1) := by decide +kernel
theorem dX7_load_1 : decode cX7_load 1 = .ok (.ifCond .lt 14, 3) := by decide +kernel
theorem dX7_load_4 : decode cX7_load 4 = .ok (.iload_n 1, 1) := by decide +kernel
theorem dX7_load_5 : decode cX7_load 5 = .ok (.aload_n 0, 1) := by decide +kernel
theorem dX7_load_6 : decode cX7_load 6 = .ok (.getfield 39, 3) := by decide +kernel
theorem dX7_load_9 : decode cX7_load 9 = .ok (.getfield 75, 3) := by decide +kernel
theorem dX7_load_12 : decode cX7_load 12 = .ok (.if_icmp .le 11, 3) := by decide +kernel
theorem dX7_load_15 : decode cX7_load 15 = .ok (.new 82, 3) := by decide +kernel
theorem dX7_load_18 : decode cX7_load 18 = .ok (.dup, 1) := by decide +kernel
theorem dX7_load_19 : decode cX7_load 19 = .ok (.invokespecial 84, 3) := by decide +kernel
theorem dX7_load_22 : decode cX7_load 22 = .ok (.athrow, 1) := by decide +kernel
theorem dX7_load_23 : decode cX7_load 23 = .ok (.aload_n 0, 1) := by decide +kernel
theorem dX7_load_24 : decode cX7_load 24 = .ok (.getfield 39, 3) := by decide +kernel
theorem dX7_load_27 : decode cX7_load 27 = .ok (.iload_n 1, 1) := by decide +kernel
theorem dX7_load_28 : decode cX7_load 28 = .ok (.invokevirtual 85, 3) := by decide +kernel
theorem dX7_load_31 : decode cX7_load 31 = .ok (.aload_n 0, 1) := by decide +kernel
theorem dX7_load_32 : decode cX7_load 32 = .ok (.getfield 48, 3) := by decide +kernel
theorem dX7_load_35 : decode cX7_load 35 = .ok (.invokevirtual 88, 3) := by decide +kernel
theorem dX7_load_38 : decode cX7_load 38 = .ok (.istore_n 2, 1) := by decide +kernel
theorem dX7_load_39 : decode cX7_load 39 = .ok (.iload_n 2, 1) := by decide +kernel
theorem dX7_load_40 : decode cX7_load 40 = .ok (.ifCond .eq 19, 3) := by decide +kernel
theorem dX7_load_43 : decode cX7_load 43 = .ok (.aload_n 0, 1) := by decide +kernel
theorem dX7_load_44 : decode cX7_load 44 = .ok (.aload_n 0, 1) := by decide +kernel
theorem dX7_load_45 : decode cX7_load 45 = .ok (.getfield 39, 3) := by decide +kernel
theorem dX7_load_48 : decode cX7_load 48 = .ok (.getfield 92, 3) := by decide +kernel
theorem dX7_load_51 : decode cX7_load 51 = .ok (.putfield 68, 3) := by decide +kernel
theorem dX7_load_54 : decode cX7_load 54 = .ok (.bipush (-10), 2) := by decide +kernel
theorem dX7_load_56 : decode cX7_load 56 = .ok (.iload_n 2, 1) := by decide +kernel
theorem dX7_load_57 : decode cX7_load 57 = .ok (.isub, 1) := by decide +kernel
theorem dX7_load_58 : decode cX7_load 58 = .ok (.ireturn, 1) := by decide +kernel
theorem dX7_load_59 : decode cX7_load 59 = .ok (.aload_n 0, 1) := by decide +kernel
theorem dX7_load_60 : decode cX7_load 60 = .ok (.iconst (-1), 1) := by decide +kernel
theorem dX7_load_61 : decode cX7_load 61 = .ok (.putfield 68, 3) := by decide +kernel
theorem dX7_load_64 : decode cX7_load 64 = .ok (.aload_n 0, 1) := by decide +kernel
theorem dX7_load_65 : decode cX7_load 65 = .ok (.getfield 10, 3) := by decide +kernel
theorem dX7_load_68 : decode cX7_load 68 = .ok (.aload_n 0, 1) := by decide +kernel
theorem dX7_load_69 : decode cX7_load 69 = .ok (.getfield 16, 3) := by decide +kernel
theorem dX7_load_72 : decode cX7_load 72 = .ok (.invokevirtual 95, 3) := by decide +kernel
theorem dX7_load_75 : decode cX7_load 75 = .ok (.aload_n 0, 1) := by decide +kernel
theorem dX7_load_76 : decode cX7_load 76 = .ok (.getfield 25, 3) := by decide +kernel
theorem dX7_load_79 : decode cX7_load 79 = .ok (.invokevirtual 99, 3) := by decide +kernel
theorem dX7_load_82 : decode cX7_load 82 = .ok (.aload_n 0, 1) := by decide +kernel
theorem dX7_load_83 : decode cX7_load 83 = .ok (.iconst 0, 1) := by decide +kernel
theorem dX7_load_84 : decode cX7_load 84 = .ok (.putfield 100, 3) := by decide +kernel
theorem dX7_load_87 : decode cX7_load 87 = .ok (.aload_n 0, 1) := by decide +kernel
theorem dX7_load_88 : decode cX7_load 88 = .ok (.getfield 10, 3) := by decide +kernel
theorem dX7_load_91 : decode cX7_load 91 = .ok (.getfield 104, 3) := by decide +kernel
theorem dX7_load_94 : decode cX7_load 94 = .ok (.ireturn, 1) := by decide +kernel
theorem dX7_errorPosition_0 : decode cX7_errorPosition 0 = .ok (.aload_n 0, 1) := by decide +kernel
theorem dX7_errorPosition_1 : decode cX7_errorPosition 1 = .ok (.getfield 68, 3) := by decide +kernel
theorem dX7_errorPosition_4 : decode cX7_errorPosition 4 = .ok (.ireturn, 1) := by decide +kernel
theorem dX7_size_0 : decode cX7_size 0 = .ok (.iload_n 1, 1) := by decide +kernel
theorem dX7_size_1 : decode cX7_size 1 = .ok (.tableswitch 156 0 10 #[59, 67, 75, 83, 91, 99, 107, 115, 123, 139, 148], 59) := by decide +kernel
theorem dX7_size_60 : decode cX7_size 60 = .ok (.aload_n 0, 1) := by decide +kernel
theorem dX7_size_61 : decode cX7_size 61 = .ok (.getfield 10, 3) := by decide +kernel
theorem dX7_size_64 : decode cX7_size 64 = .ok (.getfield 104, 3) := by decide +kernel
theorem dX7_size_67 : decode cX7_size 67 = .ok (.ireturn, 1) := by decide +kernel
theorem dX7_size_68 : decode cX7_size 68 = .ok (.aload_n 0, 1) := by decide +kernel
theorem dX7_size_69 : decode cX7_size 69 = .ok (.getfield 10, 3) := by decide +kernel
theorem dX7_size_72 : decode cX7_size 72 = .ok (.getfield 107, 3) := by decide +kernel
theorem dX7_size_75 : decode cX7_size 75 = .ok (.ireturn, 1) := by decide +kernel
theorem dX7_size_76 : decode cX7_size 76 = .ok (.aload_n 0, 1) := by decide +kernel
theorem dX7_size_77 : decode cX7_size 77 = .ok (.getfield 10, 3) := by decide +kernel
theorem dX7_size_80 : decode cX7_size 80 = .ok (.invokevirtual 110, 3) := by decide +kernel
theorem dX7_size_83 : decode cX7_size 83 = .ok (.ireturn, 1) := by decide +kernel
theorem dX7_size_84 : decode cX7_size 84 = .ok (.aload_n 0, 1) := by decide +kernel
theorem dX7_size_85 : decode cX7_size 85 = .ok (.getfield 10, 3) := by decide +kernel
theorem dX7_size_88 : decode cX7_size 88 = .ok (.getfield 113, 3) := by decide +kernel
theorem dX7_size_91 : decode cX7_size 91 = .ok (.ireturn, 1) := by decide +kernel
theorem dX7_size_92 : decode cX7_size 92 = .ok (.aload_n 0, 1) := by decide +kernel
theorem dX7_size_93 : decode cX7_size 93 = .ok (.getfield 10, 3) := by decide +kernel
theorem dX7_size_96 : decode cX7_size 96 = .ok (.getfield 116, 3) := by decide +kernel
theorem dX7_size_99 : decode cX7_size 99 = .ok (.ireturn, 1) := by decide +kernel
theorem dX7_size_100 : decode cX7_size 100 = .ok (.aload_n 0, 1) := by decide +kernel
theorem dX7_size_101 : decode cX7_size 101 = .ok (.getfield 10, 3) := by decide +kernel
theorem dX7_size_104 : decode cX7_size 104 = .ok (.getfield 119, 3) := by decide +kernel
theorem dX7_size_107 : decode cX7_size 107 = .ok (.ireturn, 1) := by decide +kernel
theorem dX7_size_108 : decode cX7_size 108 = .ok (.aload_n 0, 1) := by decide +kernel
theorem dX7_size_109 : decode cX7_size 109 = .ok (.getfield 10, 3) := by decide +kernel
theorem dX7_size_112 : decode cX7_size 112 = .ok (.getfield 122, 3) := by decide +kernel
theorem dX7_size_115 : decode cX7_size 115 = .ok (.ireturn, 1) := by decide +kernel
theorem dX7_size_116 : decode cX7_size 116 = .ok (.aload_n 0, 1) := by decide +kernel
theorem dX7_size_117 : decode cX7_size 117 = .ok (.getfield 10, 3) := by decide +kernel
theorem dX7_size_120 : decode cX7_size 120 = .ok (.getfield 125, 3) := by decide +kernel
theorem dX7_size_123 : decode cX7_size 123 = .ok (.ireturn, 1) := by decide +kernel
theorem dX7_size_124 : decode cX7_size 124 = .ok (.aload_n 0, 1) := by decide +kernel
theorem dX7_size_125 : decode cX7_size 125 = .ok (.getfield 10, 3) := by decide +kernel
theorem dX7_size_128 : decode cX7_size 128 = .ok (.getfield 128, 3) := by decide +kernel
theorem dX7_size_131 : decode cX7_size 131 = .ok (.ifCond .eq 7, 3) := by decide +kernel
theorem dX7_size_134 : decode cX7_size 134 = .ok (.iconst 1, 1) := by decide +kernel
theorem dX7_size_135 : decode cX7_size 135 = .ok (.goto 4, 3) := by decide +kernel
theorem dX7_size_138 : decode cX7_size 138 = .ok (.iconst 0, 1) := by decide +kernel
theorem dX7_size_139 : decode cX7_size 139 = .ok (.ireturn, 1) := by decide +kernel
theorem dX7_size_140 : decode cX7_size 140 = .ok (.aload_n 0, 1) := by decide +kernel
theorem dX7_size_141 : decode cX7_size 141 = .ok (.aload_n 0, 1) := by decide +kernel
theorem dX7_size_142 : decode cX7_size 142 = .ok (.getfield 10, 3) := by decide +kernel
theorem dX7_size_145 : decode cX7_size 145 = .ok (.invokevirtual 131, 3) := by decide +kernel
theorem dX7_size_148 : decode cX7_size 148 = .ok (.ireturn, 1) := by decide +kernel
theorem dX7_size_149 : decode cX7_size 149 = .ok (.aload_n 0, 1) := by decide +kernel
theorem dX7_size_150 : decode cX7_size 150 = .ok (.getfield 10, 3) := by decide +kernel
theorem dX7_size_153 : decode cX7_size 153 = .ok (.invokevirtual 135, 3) := by decide +kernel
theorem dX7_size_156 : decode cX7_size 156 = .ok (.ireturn, 1) := by decide +kernel
theorem dX7_size_157 : decode cX7_size 157 = .ok (.new 138, 3) := by decide +kernel
theorem dX7_size_160 : decode cX7_size 160 = .ok (.dup, 1) := by decide +kernel
theorem dX7_size_161 : decode cX7_size 161 = .ok (.invokespecial 140, 3) := by decide +kernel
theorem dX7_size_164 : decode cX7_size 164 = .ok (.athrow, 1) := by decide +kernel
theorem dX7_host_0 : decode cX7_host 0 = .ok (.aload_n 0, 1) := by decide +kernel
theorem dX7_host_1 : decode cX7_host 1 = .ok (.iload_n 1, 1) := by decide +kernel
theorem dX7_host_2 : decode cX7_host 2 = .ok (.invokevirtual 141, 3) := by decide +kernel
theorem dX7_host_5 : decode cX7_host 5 = .ok (.iload_n 2, 1) := by decide +kernel
theorem dX7_host_6 : decode cX7_host 6 = .ok (.tableswitch 111 0 6 #[42, 52, 62, 71, 81, 91, 101], 42) := by decide +kernel
theorem dX7_host_48 : decode cX7_host 48 = .ok (.aload_n 0, 1) := by decide +kernel
theorem dX7_host_49 : decode cX7_host 49 = .ok (.getfield 10, 3) := by decide +kernel
theorem dX7_host_52 : decode cX7_host 52 = .ok (.getfield 144, 3) := by decide +kernel
theorem dX7_host_55 : decode cX7_host 55 = .ok (.iload_n 1, 1) := by decide +kernel
theorem dX7_host_56 : decode cX7_host 56 = .ok (.iaload, 1) := by decide +kernel
theorem dX7_host_57 : decode cX7_host 57 = .ok (.ireturn, 1) := by decide +kernel
theorem dX7_host_58 : decode cX7_host 58 = .ok (.aload_n 0, 1) := by decide +kernel
theorem dX7_host_59 : decode cX7_host 59 = .ok (.getfield 10, 3) := by decide +kernel
theorem dX7_host_62 : decode cX7_host 62 = .ok (.getfield 148, 3) := by decide +kernel
theorem dX7_host_65 : decode cX7_host 65 = .ok (.iload_n 1, 1) := by decide +kernel
theorem dX7_host_66 : decode cX7_host 66 = .ok (.iaload, 1) := by decide +kernel
theorem dX7_host_67 : decode cX7_host 67 = .ok (.ireturn, 1) := by decide +kernel
theorem dX7_host_68 : decode cX7_host 68 = .ok (.aload_n 0, 1) := by decide +kernel
theorem dX7_host_69 : decode cX7_host 69 = .ok (.getfield 10, 3) := by decide +kernel
theorem dX7_host_72 : decode cX7_host 72 = .ok (.iload_n 1, 1) := by decide +kernel
theorem dX7_host_73 : decode cX7_host 73 = .ok (.invokevirtual 151, 3) := by decide +kernel
theorem dX7_host_76 : decode cX7_host 76 = .ok (.ireturn, 1) := by decide +kernel
theorem dX7_host_77 : decode cX7_host 77 = .ok (.aload_n 0, 1) := by decide +kernel
theorem dX7_host_78 : decode cX7_host 78 = .ok (.getfield 10, 3) := by decide +kernel
theorem dX7_host_81 : decode cX7_host 81 = .ok (.getfield 155, 3) := by decide +kernel
theorem dX7_host_84 : decode cX7_host 84 = .ok (.iload_n 1, 1) := by decide +kernel
theorem dX7_host_85 : decode cX7_host 85 = .ok (.iaload, 1) := by decide +kernel
theorem dX7_host_86 : decode cX7_host 86 = .ok (.ireturn, 1) := by decide +kernel
theorem dX7_host_87 : decode cX7_host 87 = .ok (.aload_n 0, 1) := by decide +kernel
theorem dX7_host_88 : decode cX7_host 88 = .ok (.getfield 10, 3) := by decide +kernel
theorem dX7_host_91 : decode cX7_host 91 = .ok (.getfield 158, 3) := by decide +kernel
theorem dX7_host_94 : decode cX7_host 94 = .ok (.iload_n 1, 1) := by decide +kernel
theorem dX7_host_95 : decode cX7_host 95 = .ok (.iaload, 1) := by decide +kernel
theorem dX7_host_96 : decode cX7_host 96 = .ok (.ireturn, 1) := by decide +kernel
theorem dX7_host_97 : decode cX7_host 97 = .ok (.aload_n 0, 1) := by decide +kernel
theorem dX7_host_98 : decode cX7_host 98 = .ok (.getfield 10, 3) := by decide +kernel
theorem dX7_host_101 : decode cX7_host 101 = .ok (.getfield 161, 3) := by decide +kernel
theorem dX7_host_104 : decode cX7_host 104 = .ok (.iload_n 1, 1) := by decide +kernel
theorem dX7_host_105 : decode cX7_host 105 = .ok (.iaload, 1) := by decide +kernel
theorem dX7_host_106 : decode cX7_host 106 = .ok (.ireturn, 1) := by decide +kernel
theorem dX7_host_107 : decode cX7_host 107 = .ok (.aload_n 0, 1) := by decide +kernel
theorem dX7_host_108 : decode cX7_host 108 = .ok (.getfield 10, 3) := by decide +kernel
theorem dX7_host_111 : decode cX7_host 111 = .ok (.getfield 164, 3) := by decide +kernel
theorem dX7_host_114 : decode cX7_host 114 = .ok (.iload_n 1, 1) := by decide +kernel
theorem dX7_host_115 : decode cX7_host 115 = .ok (.iaload, 1) := by decide +kernel
theorem dX7_host_116 : decode cX7_host 116 = .ok (.ireturn, 1) := by decide +kernel
theorem dX7_host_117 : decode cX7_host 117 = .ok (.new 138, 3) := by decide +kernel
theorem dX7_host_120 : decode cX7_host 120 = .ok (.dup, 1) := by decide +kernel
theorem dX7_host_121 : decode cX7_host 121 = .ok (.invokespecial 140, 3) := by decide +kernel
theorem dX7_host_124 : decode cX7_host 124 = .ok (.athrow, 1) := by decide +kernel
theorem dX7_holder_0 : decode cX7_holder 0 = .ok (.iload_n 1, 1) := by decide +kernel
theorem dX7_holder_1 : decode cX7_holder 1 = .ok (.invokestatic 175, 3) := by decide +kernel
theorem dX7_holder_4 : decode cX7_holder 4 = .ok (.iload_n 2, 1) := by decide +kernel
theorem dX7_holder_5 : decode cX7_holder 5 = .ok (.invokestatic 178, 3) := by decide +kernel
theorem dX7_holder_8 : decode cX7_holder 8 = .ok (.aload_n 0, 1) := by decide +kernel
theorem dX7_holder_9 : decode cX7_holder 9 = .ok (.getfield 10, 3) := by decide +kernel
theorem dX7_holder_12 : decode cX7_holder 12 = .ok (.iload_n 1, 1) := by decide +kernel
theorem dX7_holder_13 : decode cX7_holder 13 = .ok (.iload_n 2, 1) := by decide +kernel
theorem dX7_holder_14 : decode cX7_holder 14 = .ok (.invokevirtual 181, 3) := by decide +kernel
theorem dX7_holder_17 : decode cX7_holder 17 = .ok (.ireturn, 1) := by decide +kernel
theorem dX7_clash_0 : decode cX7_clash 0 = .ok (.aload_n 0, 1) := by decide +kernel
theorem dX7_clash_1 : decode cX7_clash 1 = .ok (.getfield 32, 3) := by decide +kernel
theorem dX7_clash_4 : decode cX7_clash 4 = .ok (.aload_n 0, 1) := by decide +kernel
theorem dX7_clash_5 : decode cX7_clash 5 = .ok (.getfield 10, 3) := by decide +kernel
theorem dX7_clash_8 : decode cX7_clash 8 = .ok (.invokevirtual 185, 3) := by decide +kernel
theorem dX7_clash_11 : decode cX7_clash 11 = .ok (.aload_n 0, 1) := by decide +kernel
theorem dX7_clash_12 : decode cX7_clash 12 = .ok (.getfield 32, 3) := by decide +kernel
theorem dX7_clash_15 : decode cX7_clash 15 = .ok (.iload_n 1, 1) := by decide +kernel
theorem dX7_clash_16 : decode cX7_clash 16 = .ok (.invokevirtual 188, 3) := by decide +kernel
theorem dX7_clash_19 : decode cX7_clash 19 = .ok (.istore_n 2, 1) := by decide +kernel
theorem dX7_clash_20 : decode cX7_clash 20 = .ok (.iload_n 2, 1) := by decide +kernel
theorem dX7_clash_21 : decode cX7_clash 21 = .ok (.ifCond .ne 11, 3) := by decide +kernel
theorem dX7_clash_24 : decode cX7_clash 24 = .ok (.new 138, 3) := by decide +kernel
theorem dX7_clash_27 : decode cX7_clash 27 = .ok (.dup, 1) := by decide +kernel
theorem dX7_clash_28 : decode cX7_clash 28 = .ok (.invokespecial 140, 3) := by decide +kernel
theorem dX7_clash_31 : decode cX7_clash 31 = .ok (.athrow, 1) := by decide +kernel
theorem dX7_clash_32 : decode cX7_clash 32 = .ok (.iload_n 2, 1) := by decide +kernel
theorem dX7_clash_33 : decode cX7_clash 33 = .ok (.ireturn, 1) := by decide +kernel
theorem dX7_plans_0 : decode cX7_plans 0 = .ok (.iload_n 1, 1) := by decide +kernel
theorem dX7_plans_1 : decode cX7_plans 1 = .ok (.invokestatic 191, 3) := by decide +kernel
theorem dX7_plans_4 : decode cX7_plans 4 = .ok (.aload_n 0, 1) := by decide +kernel
theorem dX7_plans_5 : decode cX7_plans 5 = .ok (.getfield 10, 3) := by decide +kernel
theorem dX7_plans_8 : decode cX7_plans 8 = .ok (.iload_n 1, 1) := by decide +kernel
theorem dX7_plans_9 : decode cX7_plans 9 = .ok (.invokevirtual 194, 3) := by decide +kernel
theorem dX7_plans_12 : decode cX7_plans 12 = .ok (.ireturn, 1) := by decide +kernel
theorem dX7_whyNot_0 : decode cX7_whyNot 0 = .ok (.aload_n 0, 1) := by decide +kernel
theorem dX7_whyNot_1 : decode cX7_whyNot 1 = .ok (.getfield 16, 3) := by decide +kernel
theorem dX7_whyNot_4 : decode cX7_whyNot 4 = .ok (.aload_n 0, 1) := by decide +kernel
theorem dX7_whyNot_5 : decode cX7_whyNot 5 = .ok (.getfield 10, 3) := by decide +kernel
theorem dX7_whyNot_8 : decode cX7_whyNot 8 = .ok (.invokevirtual 95, 3) := by decide +kernel
theorem dX7_whyNot_11 : decode cX7_whyNot 11 = .ok (.iconst 0, 1) := by decide +kernel
theorem dX7_whyNot_12 : decode cX7_whyNot 12 = .ok (.aload_n 0, 1) := by decide +kernel
theorem dX7_whyNot_13 : decode cX7_whyNot 13 = .ok (.invokevirtual 226, 3) := by decide +kernel
theorem dX7_whyNot_16 : decode cX7_whyNot 16 = .ok (.invokestatic 229, 3) := by decide +kernel
theorem dX7_whyNot_19 : decode cX7_whyNot 19 = .ok (.ireturn, 1) := by decide +kernel
theorem dX7_addHost_0 : decode cX7_addHost 0 = .ok (.iload_n 1, 1) := by decide +kernel
theorem dX7_addHost_1 : decode cX7_addHost 1 = .ok (.invokestatic 175, 3) := by decide +kernel
theorem dX7_addHost_4 : decode cX7_addHost 4 = .ok (.iload_n 2, 1) := by decide +kernel
theorem dX7_addHost_5 : decode cX7_addHost 5 = .ok (.invokestatic 178, 3) := by decide +kernel
theorem dX7_addHost_8 : decode cX7_addHost 8 = .ok (.aload_n 0, 1) := by decide +kernel
theorem dX7_addHost_9 : decode cX7_addHost 9 = .ok (.getfield 10, 3) := by decide +kernel
theorem dX7_addHost_12 : decode cX7_addHost 12 = .ok (.getfield 104, 3) := by decide +kernel
theorem dX7_addHost_15 : decode cX7_addHost 15 = .ok (.bipush 40, 2) := by decide +kernel
theorem dX7_addHost_17 : decode cX7_addHost 17 = .ok (.if_icmp .lt 6, 3) := by decide +kernel
theorem dX7_addHost_20 : decode cX7_addHost 20 = .ok (.bipush (-2), 2) := by decide +kernel
theorem dX7_addHost_22 : decode cX7_addHost 22 = .ok (.ireturn, 1) := by decide +kernel
theorem dX7_addHost_23 : decode cX7_addHost 23 = .ok (.aload_n 0, 1) := by decide +kernel
theorem dX7_addHost_24 : decode cX7_addHost 24 = .ok (.getfield 10, 3) := by decide +kernel
theorem dX7_addHost_27 : decode cX7_addHost 27 = .ok (.iload_n 1, 1) := by decide +kernel
theorem dX7_addHost_28 : decode cX7_addHost 28 = .ok (.iload_n 2, 1) := by decide +kernel
theorem dX7_addHost_29 : decode cX7_addHost 29 = .ok (.invokevirtual 246, 3) := by decide +kernel
theorem dX7_addHost_32 : decode cX7_addHost 32 = .ok (.iconst (-1), 1) := by decide +kernel
theorem dX7_addHost_33 : decode cX7_addHost 33 = .ok (.if_icmp .eq 6, 3) := by decide +kernel
theorem dX7_addHost_36 : decode cX7_addHost 36 = .ok (.bipush (-3), 2) := by decide +kernel
theorem dX7_addHost_38 : decode cX7_addHost 38 = .ok (.ireturn, 1) := by decide +kernel
theorem dX7_addHost_39 : decode cX7_addHost 39 = .ok (.aload_n 0, 1) := by decide +kernel
theorem dX7_addHost_40 : decode cX7_addHost 40 = .ok (.getfield 25, 3) := by decide +kernel
theorem dX7_addHost_43 : decode cX7_addHost 43 = .ok (.aload_n 0, 1) := by decide +kernel
theorem dX7_addHost_44 : decode cX7_addHost 44 = .ok (.getfield 10, 3) := by decide +kernel
theorem dX7_addHost_47 : decode cX7_addHost 47 = .ok (.invokevirtual 249, 3) := by decide +kernel
theorem dX7_addHost_50 : decode cX7_addHost 50 = .ok (.aload_n 0, 1) := by decide +kernel
theorem dX7_addHost_51 : decode cX7_addHost 51 = .ok (.getfield 10, 3) := by decide +kernel
theorem dX7_addHost_54 : decode cX7_addHost 54 = .ok (.lconst 0, 1) := by decide +kernel
theorem dX7_addHost_55 : decode cX7_addHost 55 = .ok (.iload_n 1, 1) := by decide +kernel
theorem dX7_addHost_56 : decode cX7_addHost 56 = .ok (.iload_n 2, 1) := by decide +kernel
theorem dX7_addHost_57 : decode cX7_addHost 57 = .ok (.invokevirtual 252, 3) := by decide +kernel
theorem dX7_addHost_60 : decode cX7_addHost 60 = .ok (.ireturn, 1) := by decide +kernel
theorem dX7_removeHost_0 : decode cX7_removeHost 0 = .ok (.aload_n 0, 1) := by decide +kernel
theorem dX7_removeHost_1 : decode cX7_removeHost 1 = .ok (.iload_n 1, 1) := by decide +kernel
theorem dX7_removeHost_2 : decode cX7_removeHost 2 = .ok (.invokevirtual 141, 3) := by decide +kernel
theorem dX7_removeHost_5 : decode cX7_removeHost 5 = .ok (.aload_n 0, 1) := by decide +kernel
theorem dX7_removeHost_6 : decode cX7_removeHost 6 = .ok (.getfield 25, 3) := by decide +kernel
theorem dX7_removeHost_9 : decode cX7_removeHost 9 = .ok (.aload_n 0, 1) := by decide +kernel
theorem dX7_removeHost_10 : decode cX7_removeHost 10 = .ok (.getfield 10, 3) := by decide +kernel
theorem dX7_removeHost_13 : decode cX7_removeHost 13 = .ok (.invokevirtual 249, 3) := by decide +kernel
theorem dX7_removeHost_16 : decode cX7_removeHost 16 = .ok (.aload_n 0, 1) := by decide +kernel
theorem dX7_removeHost_17 : decode cX7_removeHost 17 = .ok (.getfield 10, 3) := by decide +kernel
theorem dX7_removeHost_20 : decode cX7_removeHost 20 = .ok (.iload_n 1, 1) := by decide +kernel
theorem dX7_removeHost_21 : decode cX7_removeHost 21 = .ok (.invokevirtual 256, 3) := by decide +kernel
theorem dX7_removeHost_24 : decode cX7_removeHost 24 = .ok (.aload_n 0, 1) := by decide +kernel
theorem dX7_removeHost_25 : decode cX7_removeHost 25 = .ok (.getfield 10, 3) := by decide +kernel
theorem dX7_removeHost_28 : decode cX7_removeHost 28 = .ok (.getfield 104, 3) := by decide +kernel
theorem dX7_removeHost_31 : decode cX7_removeHost 31 = .ok (.ireturn, 1) := by decide +kernel
theorem dX7_plan_0 : decode cX7_plan 0 = .ok (.aload_n 0, 1) := by decide +kernel
theorem dX7_plan_1 : decode cX7_plan 1 = .ok (.iload_n 1, 1) := by decide +kernel
theorem dX7_plan_2 : decode cX7_plan 2 = .ok (.invokevirtual 141, 3) := by decide +kernel
theorem dX7_plan_5 : decode cX7_plan 5 = .ok (.iload_n 2, 1) := by decide +kernel
theorem dX7_plan_6 : decode cX7_plan 6 = .ok (.invokestatic 178, 3) := by decide +kernel
theorem dX7_plan_9 : decode cX7_plan 9 = .ok (.iload_n 3, 1) := by decide +kernel
theorem dX7_plan_10 : decode cX7_plan 10 = .ok (.invokestatic 191, 3) := by decide +kernel
theorem dX7_plan_13 : decode cX7_plan 13 = .ok (.aload_n 0, 1) := by decide +kernel
theorem dX7_plan_14 : decode cX7_plan 14 = .ok (.getfield 10, 3) := by decide +kernel
theorem dX7_plan_17 : decode cX7_plan 17 = .ok (.getfield 155, 3) := by decide +kernel
theorem dX7_plan_20 : decode cX7_plan 20 = .ok (.iload_n 1, 1) := by decide +kernel
theorem dX7_plan_21 : decode cX7_plan 21 = .ok (.iaload, 1) := by decide +kernel
theorem dX7_plan_22 : decode cX7_plan 22 = .ok (.iconst 1, 1) := by decide +kernel
theorem dX7_plan_23 : decode cX7_plan 23 = .ok (.if_icmp .ne 6, 3) := by decide +kernel
theorem dX7_plan_26 : decode cX7_plan 26 = .ok (.bipush (-2), 2) := by decide +kernel
theorem dX7_plan_28 : decode cX7_plan 28 = .ok (.ireturn, 1) := by decide +kernel
theorem dX7_plan_29 : decode cX7_plan 29 = .ok (.iload_n 3, 1) := by decide +kernel
theorem dX7_plan_30 : decode cX7_plan 30 = .ok (.aload_n 0, 1) := by decide +kernel
theorem dX7_plan_31 : decode cX7_plan 31 = .ok (.getfield 10, 3) := by decide +kernel
theorem dX7_plan_34 : decode cX7_plan 34 = .ok (.getfield 113, 3) := by decide +kernel
theorem dX7_plan_37 : decode cX7_plan 37 = .ok (.if_icmp .gt 6, 3) := by decide +kernel
theorem dX7_plan_40 : decode cX7_plan 40 = .ok (.bipush (-3), 2) := by decide +kernel
theorem dX7_plan_42 : decode cX7_plan 42 = .ok (.ireturn, 1) := by decide +kernel
theorem dX7_plan_43 : decode cX7_plan 43 = .ok (.aload_n 0, 1) := by decide +kernel
theorem dX7_plan_44 : decode cX7_plan 44 = .ok (.getfield 10, 3) := by decide +kernel
theorem dX7_plan_47 : decode cX7_plan 47 = .ok (.iload_n 3, 1) := by decide +kernel
theorem dX7_plan_48 : decode cX7_plan 48 = .ok (.invokevirtual 194, 3) := by decide +kernel
theorem dX7_plan_51 : decode cX7_plan 51 = .ok (.aload_n 0, 1) := by decide +kernel
theorem dX7_plan_52 : decode cX7_plan 52 = .ok (.getfield 10, 3) := by decide +kernel
theorem dX7_plan_55 : decode cX7_plan 55 = .ok (.getfield 161, 3) := by decide +kernel
theorem dX7_plan_58 : decode cX7_plan 58 = .ok (.iload_n 1, 1) := by decide +kernel
theorem dX7_plan_59 : decode cX7_plan 59 = .ok (.iaload, 1) := by decide +kernel
theorem dX7_plan_60 : decode cX7_plan 60 = .ok (.iload_n 3, 1) := by decide +kernel
theorem dX7_plan_61 : decode cX7_plan 61 = .ok (.if_icmp .ne 7, 3) := by decide +kernel
theorem dX7_plan_64 : decode cX7_plan 64 = .ok (.iconst 1, 1) := by decide +kernel
theorem dX7_plan_65 : decode cX7_plan 65 = .ok (.goto 4, 3) := by decide +kernel
theorem dX7_plan_68 : decode cX7_plan 68 = .ok (.iconst 0, 1) := by decide +kernel
theorem dX7_plan_69 : decode cX7_plan 69 = .ok (.isub, 1) := by decide +kernel
theorem dX7_plan_70 : decode cX7_plan 70 = .ok (.istore 4, 2) := by decide +kernel
theorem dX7_plan_72 : decode cX7_plan 72 = .ok (.iload 4, 2) := by decide +kernel
theorem dX7_plan_74 : decode cX7_plan 74 = .ok (.aload_n 0, 1) := by decide +kernel
theorem dX7_plan_75 : decode cX7_plan 75 = .ok (.getfield 10, 3) := by decide +kernel
theorem dX7_plan_78 : decode cX7_plan 78 = .ok (.getfield 119, 3) := by decide +kernel
theorem dX7_plan_81 : decode cX7_plan 81 = .ok (.if_icmp .lt 6, 3) := by decide +kernel
theorem dX7_plan_84 : decode cX7_plan 84 = .ok (.bipush (-4), 2) := by decide +kernel
theorem dX7_plan_86 : decode cX7_plan 86 = .ok (.ireturn, 1) := by decide +kernel
theorem dX7_plan_87 : decode cX7_plan 87 = .ok (.aload_n 0, 1) := by decide +kernel
theorem dX7_plan_88 : decode cX7_plan 88 = .ok (.getfield 25, 3) := by decide +kernel
theorem dX7_plan_91 : decode cX7_plan 91 = .ok (.aload_n 0, 1) := by decide +kernel
theorem dX7_plan_92 : decode cX7_plan 92 = .ok (.getfield 10, 3) := by decide +kernel
theorem dX7_plan_95 : decode cX7_plan 95 = .ok (.invokevirtual 249, 3) := by decide +kernel
theorem dX7_plan_98 : decode cX7_plan 98 = .ok (.aload_n 0, 1) := by decide +kernel
theorem dX7_plan_99 : decode cX7_plan 99 = .ok (.getfield 10, 3) := by decide +kernel
theorem dX7_plan_102 : decode cX7_plan 102 = .ok (.iload_n 1, 1) := by decide +kernel
theorem dX7_plan_103 : decode cX7_plan 103 = .ok (.iload_n 2, 1) := by decide +kernel
theorem dX7_plan_104 : decode cX7_plan 104 = .ok (.iload_n 3, 1) := by decide +kernel
theorem dX7_plan_105 : decode cX7_plan 105 = .ok (.invokevirtual 259, 3) := by decide +kernel
theorem dX7_plan_108 : decode cX7_plan 108 = .ok (.iload 4, 2) := by decide +kernel
theorem dX7_plan_110 : decode cX7_plan 110 = .ok (.iconst 1, 1) := by decide +kernel
theorem dX7_plan_111 : decode cX7_plan 111 = .ok (.iadd, 1) := by decide +kernel
theorem dX7_plan_112 : decode cX7_plan 112 = .ok (.ireturn, 1) := by decide +kernel
theorem dX7_unplan_0 : decode cX7_unplan 0 = .ok (.aload_n 0, 1) := by decide +kernel
theorem dX7_unplan_1 : decode cX7_unplan 1 = .ok (.iload_n 1, 1) := by decide +kernel
theorem dX7_unplan_2 : decode cX7_unplan 2 = .ok (.invokevirtual 141, 3) := by decide +kernel
theorem dX7_unplan_5 : decode cX7_unplan 5 = .ok (.aload_n 0, 1) := by decide +kernel
theorem dX7_unplan_6 : decode cX7_unplan 6 = .ok (.getfield 25, 3) := by decide +kernel
theorem dX7_unplan_9 : decode cX7_unplan 9 = .ok (.aload_n 0, 1) := by decide +kernel
theorem dX7_unplan_10 : decode cX7_unplan 10 = .ok (.getfield 10, 3) := by decide +kernel
theorem dX7_unplan_13 : decode cX7_unplan 13 = .ok (.invokevirtual 249, 3) := by decide +kernel
theorem dX7_unplan_16 : decode cX7_unplan 16 = .ok (.aload_n 0, 1) := by decide +kernel
theorem dX7_unplan_17 : decode cX7_unplan 17 = .ok (.getfield 10, 3) := by decide +kernel
theorem dX7_unplan_20 : decode cX7_unplan 20 = .ok (.getfield 161, 3) := by decide +kernel
theorem dX7_unplan_23 : decode cX7_unplan 23 = .ok (.iload_n 1, 1) := by decide +kernel
theorem dX7_unplan_24 : decode cX7_unplan 24 = .ok (.iaload, 1) := by decide +kernel
theorem dX7_unplan_25 : decode cX7_unplan 25 = .ok (.istore_n 2, 1) := by decide +kernel
theorem dX7_unplan_26 : decode cX7_unplan 26 = .ok (.aload_n 0, 1) := by decide +kernel
theorem dX7_unplan_27 : decode cX7_unplan 27 = .ok (.getfield 10, 3) := by decide +kernel
theorem dX7_unplan_30 : decode cX7_unplan 30 = .ok (.iload_n 1, 1) := by decide +kernel
theorem dX7_unplan_31 : decode cX7_unplan 31 = .ok (.iconst 0, 1) := by decide +kernel
theorem dX7_unplan_32 : decode cX7_unplan 32 = .ok (.iconst 0, 1) := by decide +kernel
theorem dX7_unplan_33 : decode cX7_unplan 33 = .ok (.invokevirtual 259, 3) := by decide +kernel
theorem dX7_unplan_36 : decode cX7_unplan 36 = .ok (.iload_n 2, 1) := by decide +kernel
theorem dX7_unplan_37 : decode cX7_unplan 37 = .ok (.ireturn, 1) := by decide +kernel
theorem dX7_settle_0 : decode cX7_settle 0 = .ok (.aload_n 0, 1) := by decide +kernel
theorem dX7_settle_1 : decode cX7_settle 1 = .ok (.getfield 25, 3) := by decide +kernel
theorem dX7_settle_4 : decode cX7_settle 4 = .ok (.aload_n 0, 1) := by decide +kernel
theorem dX7_settle_5 : decode cX7_settle 5 = .ok (.getfield 10, 3) := by decide +kernel
theorem dX7_settle_8 : decode cX7_settle 8 = .ok (.invokevirtual 249, 3) := by decide +kernel
theorem dX7_settle_11 : decode cX7_settle 11 = .ok (.aload_n 0, 1) := by decide +kernel
theorem dX7_settle_12 : decode cX7_settle 12 = .ok (.getfield 32, 3) := by decide +kernel
theorem dX7_settle_15 : decode cX7_settle 15 = .ok (.aload_n 0, 1) := by decide +kernel
theorem dX7_settle_16 : decode cX7_settle 16 = .ok (.getfield 10, 3) := by decide +kernel
theorem dX7_settle_19 : decode cX7_settle 19 = .ok (.invokevirtual 185, 3) := by decide +kernel
theorem dX7_settle_22 : decode cX7_settle 22 = .ok (.iconst 0, 1) := by decide +kernel
theorem dX7_settle_23 : decode cX7_settle 23 = .ok (.istore_n 1, 1) := by decide +kernel
theorem dX7_settle_24 : decode cX7_settle 24 = .ok (.iconst 1, 1) := by decide +kernel
theorem dX7_settle_25 : decode cX7_settle 25 = .ok (.istore_n 2, 1) := by decide +kernel
theorem dX7_settle_26 : decode cX7_settle 26 = .ok (.iload_n 2, 1) := by decide +kernel
theorem dX7_settle_27 : decode cX7_settle 27 = .ok (.sipush 250, 3) := by decide +kernel
theorem dX7_settle_30 : decode cX7_settle 30 = .ok (.if_icmp .gt 118, 3) := by decide +kernel
theorem dX7_settle_33 : decode cX7_settle 33 = .ok (.aload_n 0, 1) := by decide +kernel
theorem dX7_settle_34 : decode cX7_settle 34 = .ok (.getfield 32, 3) := by decide +kernel
theorem dX7_settle_37 : decode cX7_settle 37 = .ok (.iload_n 2, 1) := by decide +kernel
theorem dX7_settle_38 : decode cX7_settle 38 = .ok (.invokevirtual 263, 3) := by decide +kernel
theorem dX7_settle_41 : decode cX7_settle 41 = .ok (.ifCond .eq 14, 3) := by decide +kernel
theorem dX7_settle_44 : decode cX7_settle 44 = .ok (.aload_n 0, 1) := by decide +kernel
theorem dX7_settle_45 : decode cX7_settle 45 = .ok (.getfield 10, 3) := by decide +kernel
theorem dX7_settle_48 : decode cX7_settle 48 = .ok (.iload_n 2, 1) := by decide +kernel
theorem dX7_settle_49 : decode cX7_settle 49 = .ok (.invokevirtual 266, 3) := by decide +kernel
theorem dX7_settle_52 : decode cX7_settle 52 = .ok (.goto 4, 3) := by decide +kernel
theorem dX7_settle_55 : decode cX7_settle 55 = .ok (.iconst (-1), 1) := by decide +kernel
theorem dX7_settle_56 : decode cX7_settle 56 = .ok (.istore_n 3, 1) := by decide +kernel
theorem dX7_settle_57 : decode cX7_settle 57 = .ok (.iload_n 3, 1) := by decide +kernel
theorem dX7_settle_58 : decode cX7_settle 58 = .ok (.iconst (-1), 1) := by decide +kernel
theorem dX7_settle_59 : decode cX7_settle 59 = .ok (.if_icmp .eq 83, 3) := by decide +kernel
theorem dX7_settle_62 : decode cX7_settle 62 = .ok (.aload_n 0, 1) := by decide +kernel
theorem dX7_settle_63 : decode cX7_settle 63 = .ok (.getfield 10, 3) := by decide +kernel
theorem dX7_settle_66 : decode cX7_settle 66 = .ok (.getfield 161, 3) := by decide +kernel
theorem dX7_settle_69 : decode cX7_settle 69 = .ok (.iload_n 3, 1) := by decide +kernel
theorem dX7_settle_70 : decode cX7_settle 70 = .ok (.iaload, 1) := by decide +kernel
theorem dX7_settle_71 : decode cX7_settle 71 = .ok (.ifCond .ne 71, 3) := by decide +kernel
theorem dX7_settle_74 : decode cX7_settle 74 = .ok (.aload_n 0, 1) := by decide +kernel
theorem dX7_settle_75 : decode cX7_settle 75 = .ok (.getfield 32, 3) := by decide +kernel
theorem dX7_settle_78 : decode cX7_settle 78 = .ok (.aload_n 0, 1) := by decide +kernel
theorem dX7_settle_79 : decode cX7_settle 79 = .ok (.getfield 10, 3) := by decide +kernel
theorem dX7_settle_82 : decode cX7_settle 82 = .ok (.getfield 122, 3) := by decide +kernel
theorem dX7_settle_85 : decode cX7_settle 85 = .ok (.aload_n 0, 1) := by decide +kernel
theorem dX7_settle_86 : decode cX7_settle 86 = .ok (.getfield 10, 3) := by decide +kernel
theorem dX7_settle_89 : decode cX7_settle 89 = .ok (.getfield 125, 3) := by decide +kernel
theorem dX7_settle_92 : decode cX7_settle 92 = .ok (.invokevirtual 223, 3) := by decide +kernel
theorem dX7_settle_95 : decode cX7_settle 95 = .ok (.istore 4, 2) := by decide +kernel
theorem dX7_settle_97 : decode cX7_settle 97 = .ok (.aload_n 0, 1) := by decide +kernel
theorem dX7_settle_98 : decode cX7_settle 98 = .ok (.getfield 10, 3) := by decide +kernel
theorem dX7_settle_101 : decode cX7_settle 101 = .ok (.invokevirtual 269, 3) := by decide +kernel
theorem dX7_settle_104 : decode cX7_settle 104 = .ok (.istore 5, 2) := by decide +kernel
theorem dX7_settle_106 : decode cX7_settle 106 = .ok (.iload 4, 2) := by decide +kernel
theorem dX7_settle_108 : decode cX7_settle 108 = .ok (.ifCond .eq 8, 3) := by decide +kernel
theorem dX7_settle_111 : decode cX7_settle 111 = .ok (.iload 5, 2) := by decide +kernel
theorem dX7_settle_113 : decode cX7_settle 113 = .ok (.ifCond .ne 5, 3) := by decide +kernel
theorem dX7_settle_116 : decode cX7_settle 116 = .ok (.iload_n 1, 1) := by decide +kernel
theorem dX7_settle_117 : decode cX7_settle 117 = .ok (.ireturn, 1) := by decide +kernel
theorem dX7_settle_118 : decode cX7_settle 118 = .ok (.aload_n 0, 1) := by decide +kernel
theorem dX7_settle_119 : decode cX7_settle 119 = .ok (.getfield 10, 3) := by decide +kernel
theorem dX7_settle_122 : decode cX7_settle 122 = .ok (.iload_n 3, 1) := by decide +kernel
theorem dX7_settle_123 : decode cX7_settle 123 = .ok (.iload 4, 2) := by decide +kernel
theorem dX7_settle_125 : decode cX7_settle 125 = .ok (.iload 5, 2) := by decide +kernel
theorem dX7_settle_127 : decode cX7_settle 127 = .ok (.invokevirtual 259, 3) := by decide +kernel
theorem dX7_settle_130 : decode cX7_settle 130 = .ok (.aload_n 0, 1) := by decide +kernel
theorem dX7_settle_131 : decode cX7_settle 131 = .ok (.getfield 32, 3) := by decide +kernel
theorem dX7_settle_134 : decode cX7_settle 134 = .ok (.iload 4, 2) := by decide +kernel
theorem dX7_settle_136 : decode cX7_settle 136 = .ok (.invokevirtual 272, 3) := by decide +kernel
theorem dX7_settle_139 : decode cX7_settle 139 = .ok (.iinc 1 1, 3) := by decide +kernel
theorem dX7_settle_142 : decode cX7_settle 142 = .ok (.iinc 2 1, 3) := by decide +kernel
theorem dX7_settle_145 : decode cX7_settle 145 = .ok (.goto (-119), 3) := by decide +kernel
theorem dX7_settle_148 : decode cX7_settle 148 = .ok (.iload_n 1, 1) := by decide +kernel
theorem dX7_settle_149 : decode cX7_settle 149 = .ok (.ireturn, 1) := by decide +kernel
theorem dX7_wave_0 : decode cX7_wave 0 = .ok (.aload_n 0, 1) := by decide +kernel
theorem dX7_wave_1 : decode cX7_wave 1 = .ok (.getfield 16, 3) := by decide +kernel
theorem dX7_wave_4 : decode cX7_wave 4 = .ok (.aload_n 0, 1) := by decide +kernel
theorem dX7_wave_5 : decode cX7_wave 5 = .ok (.getfield 10, 3) := by decide +kernel
theorem dX7_wave_8 : decode cX7_wave 8 = .ok (.invokevirtual 95, 3) := by decide +kernel
theorem dX7_wave_11 : decode cX7_wave 11 = .ok (.aload_n 0, 1) := by decide +kernel
theorem dX7_wave_12 : decode cX7_wave 12 = .ok (.invokevirtual 226, 3) := by decide +kernel
theorem dX7_wave_15 : decode cX7_wave 15 = .ok (.istore_n 1, 1) := by decide +kernel
theorem dX7_wave_16 : decode cX7_wave 16 = .ok (.iload_n 1, 1) := by decide +kernel
theorem dX7_wave_17 : decode cX7_wave 17 = .ok (.ifCond .lt 7, 3) := by decide +kernel
theorem dX7_wave_20 : decode cX7_wave 20 = .ok (.aload_n 0, 1) := by decide +kernel
theorem dX7_wave_21 : decode cX7_wave 21 = .ok (.invokevirtual 275, 3) := by decide +kernel
theorem dX7_wave_24 : decode cX7_wave 24 = .ok (.iload_n 1, 1) := by decide +kernel
theorem dX7_wave_25 : decode cX7_wave 25 = .ok (.ireturn, 1) := by decide +kernel
theorem dX7_back_0 : decode cX7_back 0 = .ok (.aload_n 0, 1) := by decide +kernel
theorem dX7_back_1 : decode cX7_back 1 = .ok (.getfield 10, 3) := by decide +kernel
theorem dX7_back_4 : decode cX7_back 4 = .ok (.getfield 113, 3) := by decide +kernel
theorem dX7_back_7 : decode cX7_back 7 = .ok (.ifCond .ne 6, 3) := by decide +kernel
theorem dX7_back_10 : decode cX7_back 10 = .ok (.bipush (-2), 2) := by decide +kernel
theorem dX7_back_12 : decode cX7_back 12 = .ok (.ireturn, 1) := by decide +kernel
theorem dX7_back_13 : decode cX7_back 13 = .ok (.aload_n 0, 1) := by decide +kernel
theorem dX7_back_14 : decode cX7_back 14 = .ok (.getfield 16, 3) := by decide +kernel
theorem dX7_back_17 : decode cX7_back 17 = .ok (.aload_n 0, 1) := by decide +kernel
theorem dX7_back_18 : decode cX7_back 18 = .ok (.getfield 10, 3) := by decide +kernel
theorem dX7_back_21 : decode cX7_back 21 = .ok (.invokevirtual 95, 3) := by decide +kernel
theorem dX7_back_24 : decode cX7_back 24 = .ok (.aload_n 0, 1) := by decide +kernel
theorem dX7_back_25 : decode cX7_back 25 = .ok (.getfield 16, 3) := by decide +kernel
theorem dX7_back_28 : decode cX7_back 28 = .ok (.invokevirtual 278, 3) := by decide +kernel
theorem dX7_back_31 : decode cX7_back 31 = .ok (.aload_n 0, 1) := by decide +kernel
theorem dX7_back_32 : decode cX7_back 32 = .ok (.aload_n 0, 1) := by decide +kernel
theorem dX7_back_33 : decode cX7_back 33 = .ok (.getfield 16, 3) := by decide +kernel
theorem dX7_back_36 : decode cX7_back 36 = .ok (.invokevirtual 237, 3) := by decide +kernel
theorem dX7_back_39 : decode cX7_back 39 = .ok (.ifCond .eq 6, 3) := by decide +kernel
theorem dX7_back_42 : decode cX7_back 42 = .ok (.bipush (-3), 2) := by decide +kernel
theorem dX7_back_44 : decode cX7_back 44 = .ok (.ireturn, 1) := by decide +kernel
theorem dX7_back_45 : decode cX7_back 45 = .ok (.aload_n 0, 1) := by decide +kernel
theorem dX7_back_46 : decode cX7_back 46 = .ok (.invokevirtual 275, 3) := by decide +kernel
theorem dX7_back_49 : decode cX7_back 49 = .ok (.aload_n 0, 1) := by decide +kernel
theorem dX7_back_50 : decode cX7_back 50 = .ok (.getfield 10, 3) := by decide +kernel
theorem dX7_back_53 : decode cX7_back 53 = .ok (.getfield 113, 3) := by decide +kernel
theorem dX7_back_56 : decode cX7_back 56 = .ok (.ireturn, 1) := by decide +kernel
theorem dX7_open_0 : decode cX7_open 0 = .ok (.aload_n 0, 1) := by decide +kernel
theorem dX7_open_1 : decode cX7_open 1 = .ok (.getfield 10, 3) := by decide +kernel
theorem dX7_open_4 : decode cX7_open 4 = .ok (.getfield 128, 3) := by decide +kernel
theorem dX7_open_7 : decode cX7_open 7 = .ok (.ifCond .eq 6, 3) := by decide +kernel
theorem dX7_open_10 : decode cX7_open 10 = .ok (.bipush (-2), 2) := by decide +kernel
theorem dX7_open_12 : decode cX7_open 12 = .ok (.ireturn, 1) := by decide +kernel
theorem dX7_open_13 : decode cX7_open 13 = .ok (.aload_n 0, 1) := by decide +kernel
theorem dX7_open_14 : decode cX7_open 14 = .ok (.aload_n 0, 1) := by decide +kernel
theorem dX7_open_15 : decode cX7_open 15 = .ok (.getfield 10, 3) := by decide +kernel
theorem dX7_open_18 : decode cX7_open 18 = .ok (.invokevirtual 131, 3) := by decide +kernel
theorem dX7_open_21 : decode cX7_open 21 = .ok (.ifCond .le 6, 3) := by decide +kernel
theorem dX7_open_24 : decode cX7_open 24 = .ok (.bipush (-3), 2) := by decide +kernel
theorem dX7_open_26 : decode cX7_open 26 = .ok (.ireturn, 1) := by decide +kernel
theorem dX7_open_27 : decode cX7_open 27 = .ok (.aload_n 0, 1) := by decide +kernel
theorem dX7_open_28 : decode cX7_open 28 = .ok (.getfield 25, 3) := by decide +kernel
theorem dX7_open_31 : decode cX7_open 31 = .ok (.aload_n 0, 1) := by decide +kernel
theorem dX7_open_32 : decode cX7_open 32 = .ok (.getfield 10, 3) := by decide +kernel
theorem dX7_open_35 : decode cX7_open 35 = .ok (.invokevirtual 249, 3) := by decide +kernel
theorem dX7_open_38 : decode cX7_open 38 = .ok (.aload_n 0, 1) := by decide +kernel
theorem dX7_open_39 : decode cX7_open 39 = .ok (.getfield 10, 3) := by decide +kernel
theorem dX7_open_42 : decode cX7_open 42 = .ok (.iconst 1, 1) := by decide +kernel
theorem dX7_open_43 : decode cX7_open 43 = .ok (.putfield 128, 3) := by decide +kernel
theorem dX7_open_46 : decode cX7_open 46 = .ok (.aload_n 0, 1) := by decide +kernel
theorem dX7_open_47 : decode cX7_open 47 = .ok (.getfield 10, 3) := by decide +kernel
theorem dX7_open_50 : decode cX7_open 50 = .ok (.getfield 104, 3) := by decide +kernel
theorem dX7_open_53 : decode cX7_open 53 = .ok (.ireturn, 1) := by decide +kernel
theorem dX7_close_0 : decode cX7_close 0 = .ok (.aload_n 0, 1) := by decide +kernel
theorem dX7_close_1 : decode cX7_close 1 = .ok (.getfield 10, 3) := by decide +kernel
theorem dX7_close_4 : decode cX7_close 4 = .ok (.getfield 128, 3) := by decide +kernel
theorem dX7_close_7 : decode cX7_close 7 = .ok (.ifCond .ne 6, 3) := by decide +kernel
theorem dX7_close_10 : decode cX7_close 10 = .ok (.bipush (-2), 2) := by decide +kernel
theorem dX7_close_12 : decode cX7_close 12 = .ok (.ireturn, 1) := by decide +kernel
theorem dX7_close_13 : decode cX7_close 13 = .ok (.aload_n 0, 1) := by decide +kernel
theorem dX7_close_14 : decode cX7_close 14 = .ok (.getfield 25, 3) := by decide +kernel
theorem dX7_close_17 : decode cX7_close 17 = .ok (.aload_n 0, 1) := by decide +kernel
theorem dX7_close_18 : decode cX7_close 18 = .ok (.getfield 10, 3) := by decide +kernel
theorem dX7_close_21 : decode cX7_close 21 = .ok (.invokevirtual 249, 3) := by decide +kernel
theorem dX7_close_24 : decode cX7_close 24 = .ok (.aload_n 0, 1) := by decide +kernel
theorem dX7_close_25 : decode cX7_close 25 = .ok (.getfield 10, 3) := by decide +kernel
theorem dX7_close_28 : decode cX7_close 28 = .ok (.iconst 0, 1) := by decide +kernel
theorem dX7_close_29 : decode cX7_close 29 = .ok (.putfield 128, 3) := by decide +kernel
theorem dX7_close_32 : decode cX7_close 32 = .ok (.aload_n 0, 1) := by decide +kernel
theorem dX7_close_33 : decode cX7_close 33 = .ok (.getfield 10, 3) := by decide +kernel
theorem dX7_close_36 : decode cX7_close 36 = .ok (.iconst 0, 1) := by decide +kernel
theorem dX7_close_37 : decode cX7_close 37 = .ok (.invokevirtual 281, 3) := by decide +kernel
theorem dX7_close_40 : decode cX7_close 40 = .ok (.ireturn, 1) := by decide +kernel
theorem dX7_addRule_0 : decode cX7_addRule 0 = .ok (.iload_n 1, 1) := by decide +kernel
theorem dX7_addRule_1 : decode cX7_addRule 1 = .ok (.invokestatic 175, 3) := by decide +kernel
theorem dX7_addRule_4 : decode cX7_addRule 4 = .ok (.iload_n 3, 1) := by decide +kernel
theorem dX7_addRule_5 : decode cX7_addRule 5 = .ok (.invokestatic 284, 3) := by decide +kernel
theorem dX7_addRule_8 : decode cX7_addRule 8 = .ok (.iload 4, 2) := by decide +kernel
theorem dX7_addRule_10 : decode cX7_addRule 10 = .ok (.invokestatic 284, 3) := by decide +kernel
theorem dX7_addRule_13 : decode cX7_addRule 13 = .ok (.aload_n 0, 1) := by decide +kernel
theorem dX7_addRule_14 : decode cX7_addRule 14 = .ok (.getfield 10, 3) := by decide +kernel
theorem dX7_addRule_17 : decode cX7_addRule 17 = .ok (.getfield 107, 3) := by decide +kernel
theorem dX7_addRule_20 : decode cX7_addRule 20 = .ok (.bipush 30, 2) := by decide +kernel
theorem dX7_addRule_22 : decode cX7_addRule 22 = .ok (.if_icmp .lt 6, 3) := by decide +kernel
theorem dX7_addRule_25 : decode cX7_addRule 25 = .ok (.bipush (-2), 2) := by decide +kernel
theorem dX7_addRule_27 : decode cX7_addRule 27 = .ok (.ireturn, 1) := by decide +kernel
theorem dX7_addRule_28 : decode cX7_addRule 28 = .ok (.aload_n 0, 1) := by decide +kernel
theorem dX7_addRule_29 : decode cX7_addRule 29 = .ok (.getfield 25, 3) := by decide +kernel
theorem dX7_addRule_32 : decode cX7_addRule 32 = .ok (.aload_n 0, 1) := by decide +kernel
theorem dX7_addRule_33 : decode cX7_addRule 33 = .ok (.getfield 10, 3) := by decide +kernel
theorem dX7_addRule_36 : decode cX7_addRule 36 = .ok (.invokevirtual 249, 3) := by decide +kernel
theorem dX7_addRule_39 : decode cX7_addRule 39 = .ok (.aload_n 0, 1) := by decide +kernel
theorem dX7_addRule_40 : decode cX7_addRule 40 = .ok (.getfield 10, 3) := by decide +kernel
theorem dX7_addRule_43 : decode cX7_addRule 43 = .ok (.iload_n 1, 1) := by decide +kernel
theorem dX7_addRule_44 : decode cX7_addRule 44 = .ok (.iload_n 2, 1) := by decide +kernel
theorem dX7_addRule_45 : decode cX7_addRule 45 = .ok (.iload_n 3, 1) := by decide +kernel
theorem dX7_addRule_46 : decode cX7_addRule 46 = .ok (.iload 4, 2) := by decide +kernel
theorem dX7_addRule_48 : decode cX7_addRule 48 = .ok (.invokevirtual 287, 3) := by decide +kernel
theorem dX7_addRule_51 : decode cX7_addRule 51 = .ok (.ireturn, 1) := by decide +kernel
theorem dX7_removeRule_0 : decode cX7_removeRule 0 = .ok (.aload_n 0, 1) := by decide +kernel
theorem dX7_removeRule_1 : decode cX7_removeRule 1 = .ok (.iload_n 1, 1) := by decide +kernel
theorem dX7_removeRule_2 : decode cX7_removeRule 2 = .ok (.invokevirtual 197, 3) := by decide +kernel
theorem dX7_removeRule_5 : decode cX7_removeRule 5 = .ok (.aload_n 0, 1) := by decide +kernel
theorem dX7_removeRule_6 : decode cX7_removeRule 6 = .ok (.getfield 25, 3) := by decide +kernel
theorem dX7_removeRule_9 : decode cX7_removeRule 9 = .ok (.aload_n 0, 1) := by decide +kernel
theorem dX7_removeRule_10 : decode cX7_removeRule 10 = .ok (.getfield 10, 3) := by decide +kernel
theorem dX7_removeRule_13 : decode cX7_removeRule 13 = .ok (.invokevirtual 249, 3) := by decide +kernel
theorem dX7_removeRule_16 : decode cX7_removeRule 16 = .ok (.aload_n 0, 1) := by decide +kernel
theorem dX7_removeRule_17 : decode cX7_removeRule 17 = .ok (.getfield 10, 3) := by decide +kernel
theorem dX7_removeRule_20 : decode cX7_removeRule 20 = .ok (.iload_n 1, 1) := by decide +kernel
theorem dX7_removeRule_21 : decode cX7_removeRule 21 = .ok (.invokevirtual 291, 3) := by decide +kernel
theorem dX7_removeRule_24 : decode cX7_removeRule 24 = .ok (.aload_n 0, 1) := by decide +kernel
theorem dX7_removeRule_25 : decode cX7_removeRule 25 = .ok (.getfield 10, 3) := by decide +kernel
theorem dX7_removeRule_28 : decode cX7_removeRule 28 = .ok (.getfield 107, 3) := by decide +kernel
theorem dX7_removeRule_31 : decode cX7_removeRule 31 = .ok (.ireturn, 1) := by decide +kernel
theorem dX7_setKeep_0 : decode cX7_setKeep 0 = .ok (.iload_n 1, 1) := by decide +kernel
theorem dX7_setKeep_1 : decode cX7_setKeep 1 = .ok (.ifCond .lt 8, 3) := by decide +kernel
theorem dX7_setKeep_4 : decode cX7_setKeep 4 = .ok (.iload_n 1, 1) := by decide +kernel
theorem dX7_setKeep_5 : decode cX7_setKeep 5 = .ok (.iconst 3, 1) := by decide +kernel
theorem dX7_setKeep_6 : decode cX7_setKeep 6 = .ok (.if_icmp .le 11, 3) := by decide +kernel
theorem dX7_setKeep_9 : decode cX7_setKeep 9 = .ok (.new 82, 3) := by decide +kernel
theorem dX7_setKeep_12 : decode cX7_setKeep 12 = .ok (.dup, 1) := by decide +kernel
theorem dX7_setKeep_13 : decode cX7_setKeep 13 = .ok (.invokespecial 84, 3) := by decide +kernel
theorem dX7_setKeep_16 : decode cX7_setKeep 16 = .ok (.athrow, 1) := by decide +kernel
theorem dX7_setKeep_17 : decode cX7_setKeep 17 = .ok (.aload_n 0, 1) := by decide +kernel
theorem dX7_setKeep_18 : decode cX7_setKeep 18 = .ok (.getfield 10, 3) := by decide +kernel
theorem dX7_setKeep_21 : decode cX7_setKeep 21 = .ok (.getfield 116, 3) := by decide +kernel
theorem dX7_setKeep_24 : decode cX7_setKeep 24 = .ok (.istore_n 2, 1) := by decide +kernel
theorem dX7_setKeep_25 : decode cX7_setKeep 25 = .ok (.aload_n 0, 1) := by decide +kernel
theorem dX7_setKeep_26 : decode cX7_setKeep 26 = .ok (.getfield 16, 3) := by decide +kernel
theorem dX7_setKeep_29 : decode cX7_setKeep 29 = .ok (.aload_n 0, 1) := by decide +kernel
theorem dX7_setKeep_30 : decode cX7_setKeep 30 = .ok (.getfield 10, 3) := by decide +kernel
theorem dX7_setKeep_33 : decode cX7_setKeep 33 = .ok (.invokevirtual 95, 3) := by decide +kernel
theorem dX7_setKeep_36 : decode cX7_setKeep 36 = .ok (.aload_n 0, 1) := by decide +kernel
theorem dX7_setKeep_37 : decode cX7_setKeep 37 = .ok (.getfield 16, 3) := by decide +kernel
theorem dX7_setKeep_40 : decode cX7_setKeep 40 = .ok (.iload_n 1, 1) := by decide +kernel
theorem dX7_setKeep_41 : decode cX7_setKeep 41 = .ok (.putfield 116, 3) := by decide +kernel
theorem dX7_setKeep_44 : decode cX7_setKeep 44 = .ok (.aload_n 0, 1) := by decide +kernel
theorem dX7_setKeep_45 : decode cX7_setKeep 45 = .ok (.aload_n 0, 1) := by decide +kernel
theorem dX7_setKeep_46 : decode cX7_setKeep 46 = .ok (.getfield 16, 3) := by decide +kernel
theorem dX7_setKeep_49 : decode cX7_setKeep 49 = .ok (.invokevirtual 237, 3) := by decide +kernel
theorem dX7_setKeep_52 : decode cX7_setKeep 52 = .ok (.ifCond .eq 6, 3) := by decide +kernel
theorem dX7_setKeep_55 : decode cX7_setKeep 55 = .ok (.bipush (-2), 2) := by decide +kernel
theorem dX7_setKeep_57 : decode cX7_setKeep 57 = .ok (.ireturn, 1) := by decide +kernel
theorem dX7_setKeep_58 : decode cX7_setKeep 58 = .ok (.aload_n 0, 1) := by decide +kernel
theorem dX7_setKeep_59 : decode cX7_setKeep 59 = .ok (.invokevirtual 275, 3) := by decide +kernel
theorem dX7_setKeep_62 : decode cX7_setKeep 62 = .ok (.iload_n 2, 1) := by decide +kernel
theorem dX7_setKeep_63 : decode cX7_setKeep 63 = .ok (.ireturn, 1) := by decide +kernel
theorem dX7_setPinned_0 : decode cX7_setPinned 0 = .ok (.aload_n 0, 1) := by decide +kernel
theorem dX7_setPinned_1 : decode cX7_setPinned 1 = .ok (.iload_n 1, 1) := by decide +kernel
theorem dX7_setPinned_2 : decode cX7_setPinned 2 = .ok (.invokevirtual 141, 3) := by decide +kernel
theorem dX7_setPinned_5 : decode cX7_setPinned 5 = .ok (.aload_n 0, 1) := by decide +kernel
theorem dX7_setPinned_6 : decode cX7_setPinned 6 = .ok (.getfield 25, 3) := by decide +kernel
theorem dX7_setPinned_9 : decode cX7_setPinned 9 = .ok (.aload_n 0, 1) := by decide +kernel
theorem dX7_setPinned_10 : decode cX7_setPinned 10 = .ok (.getfield 10, 3) := by decide +kernel
theorem dX7_setPinned_13 : decode cX7_setPinned 13 = .ok (.invokevirtual 249, 3) := by decide +kernel
theorem dX7_setPinned_16 : decode cX7_setPinned 16 = .ok (.aload_n 0, 1) := by decide +kernel
theorem dX7_setPinned_17 : decode cX7_setPinned 17 = .ok (.getfield 10, 3) := by decide +kernel
theorem dX7_setPinned_20 : decode cX7_setPinned 20 = .ok (.getfield 155, 3) := by decide +kernel
theorem dX7_setPinned_23 : decode cX7_setPinned 23 = .ok (.iload_n 1, 1) := by decide +kernel
theorem dX7_setPinned_24 : decode cX7_setPinned 24 = .ok (.iaload, 1) := by decide +kernel
theorem dX7_setPinned_25 : decode cX7_setPinned 25 = .ok (.istore_n 3, 1) := by decide +kernel
theorem dX7_setPinned_26 : decode cX7_setPinned 26 = .ok (.aload_n 0, 1) := by decide +kernel
theorem dX7_setPinned_27 : decode cX7_setPinned 27 = .ok (.getfield 10, 3) := by decide +kernel
theorem dX7_setPinned_30 : decode cX7_setPinned 30 = .ok (.getfield 155, 3) := by decide +kernel
theorem dX7_setPinned_33 : decode cX7_setPinned 33 = .ok (.iload_n 1, 1) := by decide +kernel
theorem dX7_setPinned_34 : decode cX7_setPinned 34 = .ok (.iload_n 2, 1) := by decide +kernel
theorem dX7_setPinned_35 : decode cX7_setPinned 35 = .ok (.ifCond .eq 7, 3) := by decide +kernel
theorem dX7_setPinned_38 : decode cX7_setPinned 38 = .ok (.iconst 1, 1) := by decide +kernel
theorem dX7_setPinned_39 : decode cX7_setPinned 39 = .ok (.goto 4, 3) := by decide +kernel
theorem dX7_setPinned_42 : decode cX7_setPinned 42 = .ok (.iconst 0, 1) := by decide +kernel
theorem dX7_setPinned_43 : decode cX7_setPinned 43 = .ok (.iastore, 1) := by decide +kernel
theorem dX7_setPinned_44 : decode cX7_setPinned 44 = .ok (.iload_n 2, 1) := by decide +kernel
theorem dX7_setPinned_45 : decode cX7_setPinned 45 = .ok (.ifCond .eq 13, 3) := by decide +kernel
theorem dX7_setPinned_48 : decode cX7_setPinned 48 = .ok (.aload_n 0, 1) := by decide +kernel
theorem dX7_setPinned_49 : decode cX7_setPinned 49 = .ok (.getfield 10, 3) := by decide +kernel
theorem dX7_setPinned_52 : decode cX7_setPinned 52 = .ok (.iload_n 1, 1) := by decide +kernel
theorem dX7_setPinned_53 : decode cX7_setPinned 53 = .ok (.iconst 0, 1) := by decide +kernel
theorem dX7_setPinned_54 : decode cX7_setPinned 54 = .ok (.iconst 0, 1) := by decide +kernel
theorem dX7_setPinned_55 : decode cX7_setPinned 55 = .ok (.invokevirtual 259, 3) := by decide +kernel
theorem dX7_setPinned_58 : decode cX7_setPinned 58 = .ok (.iload_n 3, 1) := by decide +kernel
theorem dX7_setPinned_59 : decode cX7_setPinned 59 = .ok (.ireturn, 1) := by decide +kernel
theorem dX7_undo_0 : decode cX7_undo 0 = .ok (.aload_n 0, 1) := by decide +kernel
theorem dX7_undo_1 : decode cX7_undo 1 = .ok (.getfield 25, 3) := by decide +kernel
theorem dX7_undo_4 : decode cX7_undo 4 = .ok (.getfield 311, 3) := by decide +kernel
theorem dX7_undo_7 : decode cX7_undo 7 = .ok (.ifCond .ne 5, 3) := by decide +kernel
theorem dX7_undo_10 : decode cX7_undo 10 = .ok (.iconst (-1), 1) := by decide +kernel
theorem dX7_undo_11 : decode cX7_undo 11 = .ok (.ireturn, 1) := by decide +kernel
theorem dX7_undo_12 : decode cX7_undo 12 = .ok (.aload_n 0, 1) := by decide +kernel
theorem dX7_undo_13 : decode cX7_undo 13 = .ok (.getfield 25, 3) := by decide +kernel
theorem dX7_undo_16 : decode cX7_undo 16 = .ok (.aload_n 0, 1) := by decide +kernel
theorem dX7_undo_17 : decode cX7_undo 17 = .ok (.getfield 10, 3) := by decide +kernel
theorem dX7_undo_20 : decode cX7_undo 20 = .ok (.invokevirtual 313, 3) := by decide +kernel
theorem dX7_undo_23 : decode cX7_undo 23 = .ok (.aload_n 0, 1) := by decide +kernel
theorem dX7_undo_24 : decode cX7_undo 24 = .ok (.getfield 25, 3) := by decide +kernel
theorem dX7_undo_27 : decode cX7_undo 27 = .ok (.getfield 311, 3) := by decide +kernel
theorem dX7_undo_30 : decode cX7_undo 30 = .ok (.ireturn, 1) := by decide +kernel
theorem dX7_needHost_0 : decode cX7_needHost 0 = .ok (.iload_n 1, 1) := by decide +kernel
theorem dX7_needHost_1 : decode cX7_needHost 1 = .ok (.ifCond .lt 14, 3) := by decide +kernel
theorem dX7_needHost_4 : decode cX7_needHost 4 = .ok (.iload_n 1, 1) := by decide +kernel
theorem dX7_needHost_5 : decode cX7_needHost 5 = .ok (.aload_n 0, 1) := by decide +kernel
theorem dX7_needHost_6 : decode cX7_needHost 6 = .ok (.getfield 10, 3) := by decide +kernel
theorem dX7_needHost_9 : decode cX7_needHost 9 = .ok (.getfield 104, 3) := by decide +kernel
theorem dX7_needHost_12 : decode cX7_needHost 12 = .ok (.if_icmp .lt 11, 3) := by decide +kernel
theorem dX7_needHost_15 : decode cX7_needHost 15 = .ok (.new 138, 3) := by decide +kernel
theorem dX7_needHost_18 : decode cX7_needHost 18 = .ok (.dup, 1) := by decide +kernel
theorem dX7_needHost_19 : decode cX7_needHost 19 = .ok (.invokespecial 140, 3) := by decide +kernel
theorem dX7_needHost_22 : decode cX7_needHost 22 = .ok (.athrow, 1) := by decide +kernel
theorem dX7_needHost_23 : decode cX7_needHost 23 = .ok (.return_, 1) := by decide +kernel
theorem dX7_needRule_0 : decode cX7_needRule 0 = .ok (.iload_n 1, 1) := by decide +kernel
theorem dX7_needRule_1 : decode cX7_needRule 1 = .ok (.ifCond .lt 14, 3) := by decide +kernel
theorem dX7_needRule_4 : decode cX7_needRule 4 = .ok (.iload_n 1, 1) := by decide +kernel
theorem dX7_needRule_5 : decode cX7_needRule 5 = .ok (.aload_n 0, 1) := by decide +kernel
theorem dX7_needRule_6 : decode cX7_needRule 6 = .ok (.getfield 10, 3) := by decide +kernel
theorem dX7_needRule_9 : decode cX7_needRule 9 = .ok (.getfield 107, 3) := by decide +kernel
theorem dX7_needRule_12 : decode cX7_needRule 12 = .ok (.if_icmp .lt 11, 3) := by decide +kernel
theorem dX7_needRule_15 : decode cX7_needRule 15 = .ok (.new 138, 3) := by decide +kernel
theorem dX7_needRule_18 : decode cX7_needRule 18 = .ok (.dup, 1) := by decide +kernel
theorem dX7_needRule_19 : decode cX7_needRule 19 = .ok (.invokespecial 140, 3) := by decide +kernel
theorem dX7_needRule_22 : decode cX7_needRule 22 = .ok (.athrow, 1) := by decide +kernel
theorem dX7_needRule_23 : decode cX7_needRule 23 = .ok (.return_, 1) := by decide +kernel
theorem dX7_needOffice_0 : decode cX7_needOffice 0 = .ok (.iload_n 0, 1) := by decide +kernel
theorem dX7_needOffice_1 : decode cX7_needOffice 1 = .ok (.ifCond .lt 8, 3) := by decide +kernel
theorem dX7_needOffice_4 : decode cX7_needOffice 4 = .ok (.iload_n 0, 1) := by decide +kernel
theorem dX7_needOffice_5 : decode cX7_needOffice 5 = .ok (.iconst 2, 1) := by decide +kernel
theorem dX7_needOffice_6 : decode cX7_needOffice 6 = .ok (.if_icmp .lt 11, 3) := by decide +kernel
theorem dX7_needOffice_9 : decode cX7_needOffice 9 = .ok (.new 138, 3) := by decide +kernel
theorem dX7_needOffice_12 : decode cX7_needOffice 12 = .ok (.dup, 1) := by decide +kernel
theorem dX7_needOffice_13 : decode cX7_needOffice 13 = .ok (.invokespecial 140, 3) := by decide +kernel
theorem dX7_needOffice_16 : decode cX7_needOffice 16 = .ok (.athrow, 1) := by decide +kernel
theorem dX7_needOffice_17 : decode cX7_needOffice 17 = .ok (.return_, 1) := by decide +kernel
theorem dX7_needNumber_0 : decode cX7_needNumber 0 = .ok (.iload_n 0, 1) := by decide +kernel
theorem dX7_needNumber_1 : decode cX7_needNumber 1 = .ok (.iconst 1, 1) := by decide +kernel
theorem dX7_needNumber_2 : decode cX7_needNumber 2 = .ok (.if_icmp .lt 10, 3) := by decide +kernel
theorem dX7_needNumber_5 : decode cX7_needNumber 5 = .ok (.iload_n 0, 1) := by decide +kernel
theorem dX7_needNumber_6 : decode cX7_needNumber 6 = .ok (.sipush 250, 3) := by decide +kernel
theorem dX7_needNumber_9 : decode cX7_needNumber 9 = .ok (.if_icmp .le 11, 3) := by decide +kernel
theorem dX7_needNumber_12 : decode cX7_needNumber 12 = .ok (.new 82, 3) := by decide +kernel
theorem dX7_needNumber_15 : decode cX7_needNumber 15 = .ok (.dup, 1) := by decide +kernel
theorem dX7_needNumber_16 : decode cX7_needNumber 16 = .ok (.invokespecial 84, 3) := by decide +kernel
theorem dX7_needNumber_19 : decode cX7_needNumber 19 = .ok (.athrow, 1) := by decide +kernel
theorem dX7_needNumber_20 : decode cX7_needNumber 20 = .ok (.return_, 1) := by decide +kernel
theorem dX7_needSide_0 : decode cX7_needSide 0 = .ok (.iload_n 0, 1) := by decide +kernel
theorem dX7_needSide_1 : decode cX7_needSide 1 = .ok (.ifCond .lt 10, 3) := by decide +kernel
theorem dX7_needSide_4 : decode cX7_needSide 4 = .ok (.iload_n 0, 1) := by decide +kernel
theorem dX7_needSide_5 : decode cX7_needSide 5 = .ok (.sipush 250, 3) := by decide +kernel
theorem dX7_needSide_8 : decode cX7_needSide 8 = .ok (.if_icmp .le 11, 3) := by decide +kernel
theorem dX7_needSide_11 : decode cX7_needSide 11 = .ok (.new 82, 3) := by decide +kernel
theorem dX7_needSide_14 : decode cX7_needSide 14 = .ok (.dup, 1) := by decide +kernel
theorem dX7_needSide_15 : decode cX7_needSide 15 = .ok (.invokespecial 84, 3) := by decide +kernel
theorem dX7_needSide_18 : decode cX7_needSide 18 = .ok (.athrow, 1) := by decide +kernel
theorem dX7_needSide_19 : decode cX7_needSide 19 = .ok (.return_, 1) := by decide +kernel
theorem dX7_needWave_0 : decode cX7_needWave 0 = .ok (.iload_n 0, 1) := by decide +kernel
theorem dX7_needWave_1 : decode cX7_needWave 1 = .ok (.iconst 1, 1) := by decide +kernel
theorem dX7_needWave_2 : decode cX7_needWave 2 = .ok (.if_icmp .lt 9, 3) := by decide +kernel
theorem dX7_needWave_5 : decode cX7_needWave 5 = .ok (.iload_n 0, 1) := by decide +kernel
theorem dX7_needWave_6 : decode cX7_needWave 6 = .ok (.bipush 9, 2) := by decide +kernel
theorem dX7_needWave_8 : decode cX7_needWave 8 = .ok (.if_icmp .le 11, 3) := by decide +kernel
theorem dX7_needWave_11 : decode cX7_needWave 11 = .ok (.new 82, 3) := by decide +kernel
theorem dX7_needWave_14 : decode cX7_needWave 14 = .ok (.dup, 1) := by decide +kernel
theorem dX7_needWave_15 : decode cX7_needWave 15 = .ok (.invokespecial 84, 3) := by decide +kernel
theorem dX7_needWave_18 : decode cX7_needWave 18 = .ok (.athrow, 1) := by decide +kernel
theorem dX7_needWave_19 : decode cX7_needWave 19 = .ok (.return_, 1) := by decide +kernel
theorem dX7_clashCount_0 : decode cX7_clashCount 0 = .ok (.aload_n 0, 1) := by decide +kernel
theorem dX7_clashCount_1 : decode cX7_clashCount 1 = .ok (.getfield 32, 3) := by decide +kernel
theorem dX7_clashCount_4 : decode cX7_clashCount 4 = .ok (.aload_n 1, 1) := by decide +kernel
theorem dX7_clashCount_5 : decode cX7_clashCount 5 = .ok (.invokevirtual 185, 3) := by decide +kernel
theorem dX7_clashCount_8 : decode cX7_clashCount 8 = .ok (.aload_n 0, 1) := by decide +kernel
theorem dX7_clashCount_9 : decode cX7_clashCount 9 = .ok (.getfield 32, 3) := by decide +kernel
theorem dX7_clashCount_12 : decode cX7_clashCount 12 = .ok (.invokevirtual 336, 3) := by decide +kernel
theorem dX7_clashCount_15 : decode cX7_clashCount 15 = .ok (.ireturn, 1) := by decide +kernel
theorem dX7_heldTwice_0 : decode cX7_heldTwice 0 = .ok (.aload_n 0, 1) := by decide +kernel
theorem dX7_heldTwice_1 : decode cX7_heldTwice 1 = .ok (.getfield 32, 3) := by decide +kernel
theorem dX7_heldTwice_4 : decode cX7_heldTwice 4 = .ok (.aload_n 1, 1) := by decide +kernel
theorem dX7_heldTwice_5 : decode cX7_heldTwice 5 = .ok (.invokevirtual 185, 3) := by decide +kernel
theorem dX7_heldTwice_8 : decode cX7_heldTwice 8 = .ok (.aload_n 0, 1) := by decide +kernel
theorem dX7_heldTwice_9 : decode cX7_heldTwice 9 = .ok (.getfield 32, 3) := by decide +kernel
theorem dX7_heldTwice_12 : decode cX7_heldTwice 12 = .ok (.aload_n 1, 1) := by decide +kernel
theorem dX7_heldTwice_13 : decode cX7_heldTwice 13 = .ok (.getfield 128, 3) := by decide +kernel
theorem dX7_heldTwice_16 : decode cX7_heldTwice 16 = .ok (.invokevirtual 339, 3) := by decide +kernel
theorem dX7_heldTwice_19 : decode cX7_heldTwice 19 = .ok (.ireturn, 1) := by decide +kernel
theorem dX7_tryWave_0 : decode cX7_tryWave 0 = .ok (.aload_n 0, 1) := by decide +kernel
theorem dX7_tryWave_1 : decode cX7_tryWave 1 = .ok (.getfield 16, 3) := by decide +kernel
theorem dX7_tryWave_4 : decode cX7_tryWave 4 = .ok (.getfield 113, 3) := by decide +kernel
theorem dX7_tryWave_7 : decode cX7_tryWave 7 = .ok (.bipush 9, 2) := by decide +kernel
theorem dX7_tryWave_9 : decode cX7_tryWave 9 = .ok (.if_icmp .lt 6, 3) := by decide +kernel
theorem dX7_tryWave_12 : decode cX7_tryWave 12 = .ok (.bipush (-2), 2) := by decide +kernel
theorem dX7_tryWave_14 : decode cX7_tryWave 14 = .ok (.ireturn, 1) := by decide +kernel
theorem dX7_tryWave_15 : decode cX7_tryWave 15 = .ok (.aload_n 0, 1) := by decide +kernel
theorem dX7_tryWave_16 : decode cX7_tryWave 16 = .ok (.getfield 16, 3) := by decide +kernel
theorem dX7_tryWave_19 : decode cX7_tryWave 19 = .ok (.invokevirtual 343, 3) := by decide +kernel
theorem dX7_tryWave_22 : decode cX7_tryWave 22 = .ok (.ifCond .eq 6, 3) := by decide +kernel
theorem dX7_tryWave_25 : decode cX7_tryWave 25 = .ok (.bipush (-3), 2) := by decide +kernel
theorem dX7_tryWave_27 : decode cX7_tryWave 27 = .ok (.ireturn, 1) := by decide +kernel
theorem dX7_tryWave_28 : decode cX7_tryWave 28 = .ok (.aload_n 0, 1) := by decide +kernel
theorem dX7_tryWave_29 : decode cX7_tryWave 29 = .ok (.getfield 16, 3) := by decide +kernel
theorem dX7_tryWave_32 : decode cX7_tryWave 32 = .ok (.invokevirtual 234, 3) := by decide +kernel
theorem dX7_tryWave_35 : decode cX7_tryWave 35 = .ok (.istore_n 1, 1) := by decide +kernel
theorem dX7_tryWave_36 : decode cX7_tryWave 36 = .ok (.aload_n 0, 1) := by decide +kernel
theorem dX7_tryWave_37 : decode cX7_tryWave 37 = .ok (.aload_n 0, 1) := by decide +kernel
theorem dX7_tryWave_38 : decode cX7_tryWave 38 = .ok (.getfield 16, 3) := by decide +kernel
theorem dX7_tryWave_41 : decode cX7_tryWave 41 = .ok (.invokevirtual 237, 3) := by decide +kernel
theorem dX7_tryWave_44 : decode cX7_tryWave 44 = .ok (.ifCond .eq 8, 3) := by decide +kernel
theorem dX7_tryWave_47 : decode cX7_tryWave 47 = .ok (.bipush (-4), 2) := by decide +kernel
theorem dX7_tryWave_49 : decode cX7_tryWave 49 = .ok (.goto 4, 3) := by decide +kernel
theorem dX7_tryWave_52 : decode cX7_tryWave 52 = .ok (.iload_n 1, 1) := by decide +kernel
theorem dX7_tryWave_53 : decode cX7_tryWave 53 = .ok (.ireturn, 1) := by decide +kernel
theorem dX7_adoptTrial_0 : decode cX7_adoptTrial 0 = .ok (.aload_n 0, 1) := by decide +kernel
theorem dX7_adoptTrial_1 : decode cX7_adoptTrial 1 = .ok (.getfield 25, 3) := by decide +kernel
theorem dX7_adoptTrial_4 : decode cX7_adoptTrial 4 = .ok (.aload_n 0, 1) := by decide +kernel
theorem dX7_adoptTrial_5 : decode cX7_adoptTrial 5 = .ok (.getfield 10, 3) := by decide +kernel
theorem dX7_adoptTrial_8 : decode cX7_adoptTrial 8 = .ok (.invokevirtual 249, 3) := by decide +kernel
theorem dX7_adoptTrial_11 : decode cX7_adoptTrial 11 = .ok (.aload_n 0, 1) := by decide +kernel
theorem dX7_adoptTrial_12 : decode cX7_adoptTrial 12 = .ok (.getfield 10, 3) := by decide +kernel
theorem dX7_adoptTrial_15 : decode cX7_adoptTrial 15 = .ok (.aload_n 0, 1) := by decide +kernel
theorem dX7_adoptTrial_16 : decode cX7_adoptTrial 16 = .ok (.getfield 16, 3) := by decide +kernel
theorem dX7_adoptTrial_19 : decode cX7_adoptTrial 19 = .ok (.invokevirtual 95, 3) := by decide +kernel
theorem dX7_adoptTrial_22 : decode cX7_adoptTrial 22 = .ok (.return_, 1) := by decide +kernel
theorem dJ9_max_7cf53_0 : decode cJ9_max_7cf53 0 = .ok (.iload_n 0, 1) := by decide +kernel
theorem dJ9_max_7cf53_1 : decode cJ9_max_7cf53 1 = .ok (.iload_n 1, 1) := by decide +kernel
theorem dJ9_max_7cf53_2 : decode cJ9_max_7cf53 2 = .ok (.if_icmp .lt 7, 3) := by decide +kernel
theorem dJ9_max_7cf53_5 : decode cJ9_max_7cf53 5 = .ok (.iload_n 0, 1) := by decide +kernel
theorem dJ9_max_7cf53_6 : decode cJ9_max_7cf53 6 = .ok (.goto 4, 3) := by decide +kernel
theorem dJ9_max_7cf53_9 : decode cJ9_max_7cf53 9 = .ok (.iload_n 1, 1) := by decide +kernel
theorem dJ9_max_7cf53_10 : decode cJ9_max_7cf53 10 = .ok (.ireturn, 1) := by decide +kernel
theorem dJ9_min_7cf53_0 : decode cJ9_min_7cf53 0 = .ok (.iload_n 0, 1) := by decide +kernel
theorem dJ9_min_7cf53_1 : decode cJ9_min_7cf53 1 = .ok (.iload_n 1, 1) := by decide +kernel
theorem dJ9_min_7cf53_2 : decode cJ9_min_7cf53 2 = .ok (.if_icmp .gt 7, 3) := by decide +kernel
theorem dJ9_min_7cf53_5 : decode cJ9_min_7cf53 5 = .ok (.iload_n 0, 1) := by decide +kernel
theorem dJ9_min_7cf53_6 : decode cJ9_min_7cf53 6 = .ok (.goto 4, 3) := by decide +kernel
theorem dJ9_min_7cf53_9 : decode cJ9_min_7cf53 9 = .ok (.iload_n 1, 1) := by decide +kernel
theorem dJ9_min_7cf53_10 : decode cJ9_min_7cf53 10 = .ok (.ireturn, 1) := by decide +kernel
theorem dJ0_length_8abf5_0 : decode cJ0_length_8abf5 0 = .ok (.aload_n 0, 1) := by decide +kernel
theorem dJ0_length_8abf5_1 : decode cJ0_length_8abf5 1 = .ok (.getfield 9, 3) := by decide +kernel
theorem dJ0_length_8abf5_4 : decode cJ0_length_8abf5 4 = .ok (.arraylength, 1) := by decide +kernel
theorem dJ0_length_8abf5_5 : decode cJ0_length_8abf5 5 = .ok (.aload_n 0, 1) := by decide +kernel
theorem dJ0_length_8abf5_6 : decode cJ0_length_8abf5 6 = .ok (.invokevirtual 335, 3) := by decide +kernel
theorem dJ0_length_8abf5_9 : decode cJ0_length_8abf5 9 = .ok (.ishr, 1) := by decide +kernel
theorem dJ0_length_8abf5_10 : decode cJ0_length_8abf5 10 = .ok (.ireturn, 1) := by decide +kernel
theorem dJ0_charAt_5068e_0 : decode cJ0_charAt_5068e 0 = .ok (.aload_n 0, 1) := by decide +kernel
theorem dJ0_charAt_5068e_1 : decode cJ0_charAt_5068e 1 = .ok (.invokevirtual 492, 3) := by decide +kernel
theorem dJ0_charAt_5068e_4 : decode cJ0_charAt_5068e 4 = .ok (.ifCond .eq 12, 3) := by decide +kernel
theorem dJ0_charAt_5068e_7 : decode cJ0_charAt_5068e 7 = .ok (.aload_n 0, 1) := by decide +kernel
theorem dJ0_charAt_5068e_8 : decode cJ0_charAt_5068e 8 = .ok (.getfield 9, 3) := by decide +kernel
theorem dJ0_charAt_5068e_11 : decode cJ0_charAt_5068e 11 = .ok (.iload_n 1, 1) := by decide +kernel
theorem dJ0_charAt_5068e_12 : decode cJ0_charAt_5068e 12 = .ok (.invokestatic 495, 3) := by decide +kernel
theorem dJ0_charAt_5068e_15 : decode cJ0_charAt_5068e 15 = .ok (.ireturn, 1) := by decide +kernel
theorem dJ0_charAt_5068e_16 : decode cJ0_charAt_5068e 16 = .ok (.aload_n 0, 1) := by decide +kernel
theorem dJ0_charAt_5068e_17 : decode cJ0_charAt_5068e 17 = .ok (.getfield 9, 3) := by decide +kernel
theorem dJ0_charAt_5068e_20 : decode cJ0_charAt_5068e 20 = .ok (.iload_n 1, 1) := by decide +kernel
theorem dJ0_charAt_5068e_21 : decode cJ0_charAt_5068e 21 = .ok (.invokestatic 498, 3) := by decide +kernel
theorem dJ0_charAt_5068e_24 : decode cJ0_charAt_5068e 24 = .ok (.ireturn, 1) := by decide +kernel
theorem dJ0_coder_7d493_0 : decode cJ0_coder_7d493 0 = .ok (.getstatic 38, 3) := by decide +kernel
theorem dJ0_coder_7d493_3 : decode cJ0_coder_7d493 3 = .ok (.ifCond .eq 10, 3) := by decide +kernel
theorem dJ0_coder_7d493_6 : decode cJ0_coder_7d493 6 = .ok (.aload_n 0, 1) := by decide +kernel
theorem dJ0_coder_7d493_7 : decode cJ0_coder_7d493 7 = .ok (.getfield 15, 3) := by decide +kernel
theorem dJ0_coder_7d493_10 : decode cJ0_coder_7d493 10 = .ok (.goto 4, 3) := by decide +kernel
theorem dJ0_coder_7d493_13 : decode cJ0_coder_7d493 13 = .ok (.iconst 1, 1) := by decide +kernel
theorem dJ0_coder_7d493_14 : decode cJ0_coder_7d493 14 = .ok (.ireturn, 1) := by decide +kernel
theorem dJ0_isLatin1_aae02_0 : decode cJ0_isLatin1_aae02 0 = .ok (.getstatic 38, 3) := by decide +kernel
theorem dJ0_isLatin1_aae02_3 : decode cJ0_isLatin1_aae02 3 = .ok (.ifCond .eq 14, 3) := by decide +kernel
theorem dJ0_isLatin1_aae02_6 : decode cJ0_isLatin1_aae02 6 = .ok (.aload_n 0, 1) := by decide +kernel
theorem dJ0_isLatin1_aae02_7 : decode cJ0_isLatin1_aae02 7 = .ok (.getfield 15, 3) := by decide +kernel
theorem dJ0_isLatin1_aae02_10 : decode cJ0_isLatin1_aae02 10 = .ok (.ifCond .ne 7, 3) := by decide +kernel
theorem dJ0_isLatin1_aae02_13 : decode cJ0_isLatin1_aae02 13 = .ok (.iconst 1, 1) := by decide +kernel
theorem dJ0_isLatin1_aae02_14 : decode cJ0_isLatin1_aae02 14 = .ok (.goto 4, 3) := by decide +kernel
theorem dJ0_isLatin1_aae02_17 : decode cJ0_isLatin1_aae02 17 = .ok (.iconst 0, 1) := by decide +kernel
theorem dJ0_isLatin1_aae02_18 : decode cJ0_isLatin1_aae02 18 = .ok (.ireturn, 1) := by decide +kernel
theorem dJ0_checkIndex_df160_0 : decode cJ0_checkIndex_df160 0 = .ok (.iload_n 0, 1) := by decide +kernel
theorem dJ0_checkIndex_df160_1 : decode cJ0_checkIndex_df160 1 = .ok (.iload_n 1, 1) := by decide +kernel
theorem dJ0_checkIndex_df160_2 : decode cJ0_checkIndex_df160 2 = .ok (.getstatic 1053, 3) := by decide +kernel
theorem dJ0_checkIndex_df160_5 : decode cJ0_checkIndex_df160 5 = .ok (.invokestatic 1059, 3) := by decide +kernel
theorem dJ0_checkIndex_df160_8 : decode cJ0_checkIndex_df160 8 = .ok (.pop, 1) := by decide +kernel
theorem dJ0_checkIndex_df160_9 : decode cJ0_checkIndex_df160 9 = .ok (.return_, 1) := by decide +kernel
theorem dJ1_charAt_3b067_0 : decode cJ1_charAt_3b067 0 = .ok (.iload_n 1, 1) := by decide +kernel
theorem dJ1_charAt_3b067_1 : decode cJ1_charAt_3b067 1 = .ok (.aload_n 0, 1) := by decide +kernel
theorem dJ1_charAt_3b067_2 : decode cJ1_charAt_3b067 2 = .ok (.arraylength, 1) := by decide +kernel
theorem dJ1_charAt_3b067_3 : decode cJ1_charAt_3b067 3 = .ok (.invokestatic 9, 3) := by decide +kernel
theorem dJ1_charAt_3b067_6 : decode cJ1_charAt_3b067 6 = .ok (.aload_n 0, 1) := by decide +kernel
theorem dJ1_charAt_3b067_7 : decode cJ1_charAt_3b067 7 = .ok (.iload_n 1, 1) := by decide +kernel
theorem dJ1_charAt_3b067_8 : decode cJ1_charAt_3b067 8 = .ok (.baload, 1) := by decide +kernel
theorem dJ1_charAt_3b067_9 : decode cJ1_charAt_3b067 9 = .ok (.sipush 255, 3) := by decide +kernel
theorem dJ1_charAt_3b067_12 : decode cJ1_charAt_3b067 12 = .ok (.iand, 1) := by decide +kernel
theorem dJ1_charAt_3b067_13 : decode cJ1_charAt_3b067 13 = .ok (.i2c, 1) := by decide +kernel
theorem dJ1_charAt_3b067_14 : decode cJ1_charAt_3b067 14 = .ok (.ireturn, 1) := by decide +kernel
theorem dJ2_getChar_3b067_0 : decode cJ2_getChar_3b067 0 = .ok (.getstatic 44, 3) := by decide +kernel
theorem dJ2_getChar_3b067_3 : decode cJ2_getChar_3b067 3 = .ok (.ifCond .ne 25, 3) := by decide +kernel
theorem dJ2_getChar_3b067_6 : decode cJ2_getChar_3b067 6 = .ok (.iload_n 1, 1) := by decide +kernel
theorem dJ2_getChar_3b067_7 : decode cJ2_getChar_3b067 7 = .ok (.ifCond .lt 11, 3) := by decide +kernel
theorem dJ2_getChar_3b067_10 : decode cJ2_getChar_3b067 10 = .ok (.iload_n 1, 1) := by decide +kernel
theorem dJ2_getChar_3b067_11 : decode cJ2_getChar_3b067 11 = .ok (.aload_n 0, 1) := by decide +kernel
theorem dJ2_getChar_3b067_12 : decode cJ2_getChar_3b067 12 = .ok (.invokestatic 48, 3) := by decide +kernel
theorem dJ2_getChar_3b067_15 : decode cJ2_getChar_3b067 15 = .ok (.if_icmp .lt 13, 3) := by decide +kernel
theorem dJ2_getChar_3b067_18 : decode cJ2_getChar_3b067 18 = .ok (.new 52, 3) := by decide +kernel
theorem dJ2_getChar_3b067_21 : decode cJ2_getChar_3b067 21 = .ok (.dup, 1) := by decide +kernel
theorem dJ2_getChar_3b067_22 : decode cJ2_getChar_3b067 22 = .ok (.ldc 54, 2) := by decide +kernel
theorem dJ2_getChar_3b067_24 : decode cJ2_getChar_3b067 24 = .ok (.invokespecial 56, 3) := by decide +kernel
theorem dJ2_getChar_3b067_27 : decode cJ2_getChar_3b067 27 = .ok (.athrow, 1) := by decide +kernel
theorem dJ2_getChar_3b067_28 : decode cJ2_getChar_3b067 28 = .ok (.iload_n 1, 1) := by decide +kernel
theorem dJ2_getChar_3b067_29 : decode cJ2_getChar_3b067 29 = .ok (.iconst 1, 1) := by decide +kernel
theorem dJ2_getChar_3b067_30 : decode cJ2_getChar_3b067 30 = .ok (.ishl, 1) := by decide +kernel
theorem dJ2_getChar_3b067_31 : decode cJ2_getChar_3b067 31 = .ok (.istore_n 1, 1) := by decide +kernel
theorem dJ2_getChar_3b067_32 : decode cJ2_getChar_3b067 32 = .ok (.aload_n 0, 1) := by decide +kernel
theorem dJ2_getChar_3b067_33 : decode cJ2_getChar_3b067 33 = .ok (.iload_n 1, 1) := by decide +kernel
theorem dJ2_getChar_3b067_34 : decode cJ2_getChar_3b067 34 = .ok (.iinc 1 1, 3) := by decide +kernel
theorem dJ2_getChar_3b067_37 : decode cJ2_getChar_3b067 37 = .ok (.baload, 1) := by decide +kernel
theorem dJ2_getChar_3b067_38 : decode cJ2_getChar_3b067 38 = .ok (.sipush 255, 3) := by decide +kernel
theorem dJ2_getChar_3b067_41 : decode cJ2_getChar_3b067 41 = .ok (.iand, 1) := by decide +kernel
theorem dJ2_getChar_3b067_42 : decode cJ2_getChar_3b067 42 = .ok (.getstatic 59, 3) := by decide +kernel
theorem dJ2_getChar_3b067_45 : decode cJ2_getChar_3b067 45 = .ok (.ishl, 1) := by decide +kernel
theorem dJ2_getChar_3b067_46 : decode cJ2_getChar_3b067 46 = .ok (.aload_n 0, 1) := by decide +kernel
theorem dJ2_getChar_3b067_47 : decode cJ2_getChar_3b067 47 = .ok (.iload_n 1, 1) := by decide +kernel
theorem dJ2_getChar_3b067_48 : decode cJ2_getChar_3b067 48 = .ok (.baload, 1) := by decide +kernel
theorem dJ2_getChar_3b067_49 : decode cJ2_getChar_3b067 49 = .ok (.sipush 255, 3) := by decide +kernel
theorem dJ2_getChar_3b067_52 : decode cJ2_getChar_3b067 52 = .ok (.iand, 1) := by decide +kernel
theorem dJ2_getChar_3b067_53 : decode cJ2_getChar_3b067 53 = .ok (.getstatic 63, 3) := by decide +kernel
theorem dJ2_getChar_3b067_56 : decode cJ2_getChar_3b067 56 = .ok (.ishl, 1) := by decide +kernel
theorem dJ2_getChar_3b067_57 : decode cJ2_getChar_3b067 57 = .ok (.ior, 1) := by decide +kernel
theorem dJ2_getChar_3b067_58 : decode cJ2_getChar_3b067 58 = .ok (.i2c, 1) := by decide +kernel
theorem dJ2_getChar_3b067_59 : decode cJ2_getChar_3b067 59 = .ok (.ireturn, 1) := by decide +kernel
theorem dJ2_length_9d52b_0 : decode cJ2_length_9d52b 0 = .ok (.aload_n 0, 1) := by decide +kernel
theorem dJ2_length_9d52b_1 : decode cJ2_length_9d52b 1 = .ok (.arraylength, 1) := by decide +kernel
theorem dJ2_length_9d52b_2 : decode cJ2_length_9d52b 2 = .ok (.iconst 1, 1) := by decide +kernel
theorem dJ2_length_9d52b_3 : decode cJ2_length_9d52b 3 = .ok (.ishr, 1) := by decide +kernel
theorem dJ2_length_9d52b_4 : decode cJ2_length_9d52b 4 = .ok (.ireturn, 1) := by decide +kernel
theorem dJ2_charAt_3b067_0 : decode cJ2_charAt_3b067 0 = .ok (.iload_n 1, 1) := by decide +kernel
theorem dJ2_charAt_3b067_1 : decode cJ2_charAt_3b067 1 = .ok (.aload_n 0, 1) := by decide +kernel
theorem dJ2_charAt_3b067_2 : decode cJ2_charAt_3b067 2 = .ok (.invokestatic 67, 3) := by decide +kernel
theorem dJ2_charAt_3b067_5 : decode cJ2_charAt_3b067 5 = .ok (.aload_n 0, 1) := by decide +kernel
theorem dJ2_charAt_3b067_6 : decode cJ2_charAt_3b067 6 = .ok (.iload_n 1, 1) := by decide +kernel
theorem dJ2_charAt_3b067_7 : decode cJ2_charAt_3b067 7 = .ok (.invokestatic 71, 3) := by decide +kernel
theorem dJ2_charAt_3b067_10 : decode cJ2_charAt_3b067 10 = .ok (.ireturn, 1) := by decide +kernel
theorem dJ2_checkIndex_2214a_0 : decode cJ2_checkIndex_2214a 0 = .ok (.iload_n 0, 1) := by decide +kernel
theorem dJ2_checkIndex_2214a_1 : decode cJ2_checkIndex_2214a 1 = .ok (.aload_n 1, 1) := by decide +kernel
theorem dJ2_checkIndex_2214a_2 : decode cJ2_checkIndex_2214a 2 = .ok (.invokestatic 48, 3) := by decide +kernel
theorem dJ2_checkIndex_2214a_5 : decode cJ2_checkIndex_2214a 5 = .ok (.invokestatic 414, 3) := by decide +kernel
theorem dJ2_checkIndex_2214a_8 : decode cJ2_checkIndex_2214a 8 = .ok (.return_, 1) := by decide +kernel
theorem dJ7_fill_53178_0 : decode cJ7_fill_53178 0 = .ok (.iconst 0, 1) := by decide +kernel
theorem dJ7_fill_53178_1 : decode cJ7_fill_53178 1 = .ok (.istore_n 2, 1) := by decide +kernel
theorem dJ7_fill_53178_2 : decode cJ7_fill_53178 2 = .ok (.aload_n 0, 1) := by decide +kernel
theorem dJ7_fill_53178_3 : decode cJ7_fill_53178 3 = .ok (.arraylength, 1) := by decide +kernel
theorem dJ7_fill_53178_4 : decode cJ7_fill_53178 4 = .ok (.istore_n 3, 1) := by decide +kernel
theorem dJ7_fill_53178_5 : decode cJ7_fill_53178 5 = .ok (.iload_n 2, 1) := by decide +kernel
theorem dJ7_fill_53178_6 : decode cJ7_fill_53178 6 = .ok (.iload_n 3, 1) := by decide +kernel
theorem dJ7_fill_53178_7 : decode cJ7_fill_53178 7 = .ok (.if_icmp .ge 13, 3) := by decide +kernel
theorem dJ7_fill_53178_10 : decode cJ7_fill_53178 10 = .ok (.aload_n 0, 1) := by decide +kernel
theorem dJ7_fill_53178_11 : decode cJ7_fill_53178 11 = .ok (.iload_n 2, 1) := by decide +kernel
theorem dJ7_fill_53178_12 : decode cJ7_fill_53178 12 = .ok (.iload_n 1, 1) := by decide +kernel
theorem dJ7_fill_53178_13 : decode cJ7_fill_53178 13 = .ok (.iastore, 1) := by decide +kernel
theorem dJ7_fill_53178_14 : decode cJ7_fill_53178 14 = .ok (.iinc 2 1, 3) := by decide +kernel
theorem dJ7_fill_53178_17 : decode cJ7_fill_53178 17 = .ok (.goto (-12), 3) := by decide +kernel
theorem dJ7_fill_53178_20 : decode cJ7_fill_53178 20 = .ok (.return_, 1) := by decide +kernel
theorem dJ3_checkIndex_8e157_0 : decode cJ3_checkIndex_8e157 0 = .ok (.iload_n 0, 1) := by decide +kernel
theorem dJ3_checkIndex_8e157_1 : decode cJ3_checkIndex_8e157 1 = .ok (.ifCond .lt 8, 3) := by decide +kernel
theorem dJ3_checkIndex_8e157_4 : decode cJ3_checkIndex_8e157 4 = .ok (.iload_n 0, 1) := by decide +kernel
theorem dJ3_checkIndex_8e157_5 : decode cJ3_checkIndex_8e157 5 = .ok (.iload_n 1, 1) := by decide +kernel
theorem dJ3_checkIndex_8e157_6 : decode cJ3_checkIndex_8e157 6 = .ok (.if_icmp .lt 10, 3) := by decide +kernel
theorem dJ3_checkIndex_8e157_9 : decode cJ3_checkIndex_8e157 9 = .ok (.aload_n 2, 1) := by decide +kernel
theorem dJ3_checkIndex_8e157_10 : decode cJ3_checkIndex_8e157 10 = .ok (.iload_n 0, 1) := by decide +kernel
theorem dJ3_checkIndex_8e157_11 : decode cJ3_checkIndex_8e157 11 = .ok (.iload_n 1, 1) := by decide +kernel
theorem dJ3_checkIndex_8e157_12 : decode cJ3_checkIndex_8e157 12 = .ok (.invokestatic 95, 3) := by decide +kernel
theorem dJ3_checkIndex_8e157_15 : decode cJ3_checkIndex_8e157 15 = .ok (.athrow, 1) := by decide +kernel
theorem dJ3_checkIndex_8e157_16 : decode cJ3_checkIndex_8e157 16 = .ok (.iload_n 0, 1) := by decide +kernel
theorem dJ3_checkIndex_8e157_17 : decode cJ3_checkIndex_8e157 17 = .ok (.ireturn, 1) := by decide +kernel
end
section
theorem dL_init_0 : decode cL_init 0 = .ok (.aload_n 0, 1) := by decide +kernel
theorem dL_init_1 : decode cL_init 1 = .ok (.invokespecial 1, 3) := by decide +kernel
theorem dL_init_4 : decode cL_init 4 = .ok (.aload_n 0, 1) := by decide +kernel
theorem dL_init_5 : decode cL_init 5 = .ok (.sipush 1000, 3) := by decide +kernel
theorem dL_init_8 : decode cL_init 8 = .ok (.newarray .int, 2) := by decide +kernel
theorem dL_init_10 : decode cL_init 10 = .ok (.putfield 7, 3) := by decide +kernel
theorem dL_init_13 : decode cL_init 13 = .ok (.return_, 1) := by decide +kernel
theorem dL_writes_0 : decode cL_writes 0 = .ok (.iconst 0, 1) := by decide +kernel
theorem dL_writes_1 : decode cL_writes 1 = .ok (.istore_n 2, 1) := by decide +kernel
theorem dL_writes_2 : decode cL_writes 2 = .ok (.iload_n 2, 1) := by decide +kernel
theorem dL_writes_3 : decode cL_writes 3 = .ok (.aload_n 1, 1) := by decide +kernel
theorem dL_writes_4 : decode cL_writes 4 = .ok (.invokevirtual 13, 3) := by decide +kernel
theorem dL_writes_7 : decode cL_writes 7 = .ok (.if_icmp .ge 33, 3) := by decide +kernel
theorem dL_writes_10 : decode cL_writes 10 = .ok (.aload_n 0, 1) := by decide +kernel
theorem dL_writes_11 : decode cL_writes 11 = .ok (.getfield 7, 3) := by decide +kernel
theorem dL_writes_14 : decode cL_writes 14 = .ok (.aload_n 0, 1) := by decide +kernel
theorem dL_writes_15 : decode cL_writes 15 = .ok (.getfield 19, 3) := by decide +kernel
theorem dL_writes_18 : decode cL_writes 18 = .ok (.aload_n 1, 1) := by decide +kernel
theorem dL_writes_19 : decode cL_writes 19 = .ok (.iload_n 2, 1) := by decide +kernel
theorem dL_writes_20 : decode cL_writes 20 = .ok (.invokevirtual 23, 3) := by decide +kernel
theorem dL_writes_23 : decode cL_writes 23 = .ok (.iastore, 1) := by decide +kernel
theorem dL_writes_24 : decode cL_writes 24 = .ok (.aload_n 0, 1) := by decide +kernel
theorem dL_writes_25 : decode cL_writes 25 = .ok (.dup, 1) := by decide +kernel
theorem dL_writes_26 : decode cL_writes 26 = .ok (.getfield 19, 3) := by decide +kernel
theorem dL_writes_29 : decode cL_writes 29 = .ok (.iconst 1, 1) := by decide +kernel
theorem dL_writes_30 : decode cL_writes 30 = .ok (.iadd, 1) := by decide +kernel
theorem dL_writes_31 : decode cL_writes 31 = .ok (.putfield 19, 3) := by decide +kernel
theorem dL_writes_34 : decode cL_writes 34 = .ok (.iinc 2 1, 3) := by decide +kernel
theorem dL_writes_37 : decode cL_writes 37 = .ok (.goto (-35), 3) := by decide +kernel
theorem dL_writes_40 : decode cL_writes 40 = .ok (.return_, 1) := by decide +kernel
theorem dL_spaced_0 : decode cL_spaced 0 = .ok (.aload_n 0, 1) := by decide +kernel
theorem dL_spaced_1 : decode cL_spaced 1 = .ok (.ldc 27, 2) := by decide +kernel
theorem dL_spaced_3 : decode cL_spaced 3 = .ok (.invokevirtual 29, 3) := by decide +kernel
theorem dL_spaced_6 : decode cL_spaced 6 = .ok (.iconst 1, 1) := by decide +kernel
theorem dL_spaced_7 : decode cL_spaced 7 = .ok (.istore_n 2, 1) := by decide +kernel
theorem dL_spaced_8 : decode cL_spaced 8 = .ok (.iload_n 1, 1) := by decide +kernel
theorem dL_spaced_9 : decode cL_spaced 9 = .ok (.iload_n 2, 1) := by decide +kernel
theorem dL_spaced_10 : decode cL_spaced 10 = .ok (.idiv, 1) := by decide +kernel
theorem dL_spaced_11 : decode cL_spaced 11 = .ok (.bipush 9, 2) := by decide +kernel
theorem dL_spaced_13 : decode cL_spaced 13 = .ok (.if_icmp .le 11, 3) := by decide +kernel
theorem dL_spaced_16 : decode cL_spaced 16 = .ok (.iload_n 2, 1) := by decide +kernel
theorem dL_spaced_17 : decode cL_spaced 17 = .ok (.bipush 10, 2) := by decide +kernel
theorem dL_spaced_19 : decode cL_spaced 19 = .ok (.imul, 1) := by decide +kernel
theorem dL_spaced_20 : decode cL_spaced 20 = .ok (.istore_n 2, 1) := by decide +kernel
theorem dL_spaced_21 : decode cL_spaced 21 = .ok (.goto (-13), 3) := by decide +kernel
theorem dL_spaced_24 : decode cL_spaced 24 = .ok (.iload_n 2, 1) := by decide +kernel
theorem dL_spaced_25 : decode cL_spaced 25 = .ok (.ifCond .le 39, 3) := by decide +kernel
theorem dL_spaced_28 : decode cL_spaced 28 = .ok (.aload_n 0, 1) := by decide +kernel
theorem dL_spaced_29 : decode cL_spaced 29 = .ok (.getfield 7, 3) := by decide +kernel
theorem dL_spaced_32 : decode cL_spaced 32 = .ok (.aload_n 0, 1) := by decide +kernel
theorem dL_spaced_33 : decode cL_spaced 33 = .ok (.getfield 19, 3) := by decide +kernel
theorem dL_spaced_36 : decode cL_spaced 36 = .ok (.bipush 48, 2) := by decide +kernel
theorem dL_spaced_38 : decode cL_spaced 38 = .ok (.iload_n 1, 1) := by decide +kernel
theorem dL_spaced_39 : decode cL_spaced 39 = .ok (.iload_n 2, 1) := by decide +kernel
theorem dL_spaced_40 : decode cL_spaced 40 = .ok (.idiv, 1) := by decide +kernel
theorem dL_spaced_41 : decode cL_spaced 41 = .ok (.bipush 10, 2) := by decide +kernel
theorem dL_spaced_43 : decode cL_spaced 43 = .ok (.irem, 1) := by decide +kernel
theorem dL_spaced_44 : decode cL_spaced 44 = .ok (.iadd, 1) := by decide +kernel
theorem dL_spaced_45 : decode cL_spaced 45 = .ok (.iastore, 1) := by decide +kernel
theorem dL_spaced_46 : decode cL_spaced 46 = .ok (.aload_n 0, 1) := by decide +kernel
theorem dL_spaced_47 : decode cL_spaced 47 = .ok (.dup, 1) := by decide +kernel
theorem dL_spaced_48 : decode cL_spaced 48 = .ok (.getfield 19, 3) := by decide +kernel
theorem dL_spaced_51 : decode cL_spaced 51 = .ok (.iconst 1, 1) := by decide +kernel
theorem dL_spaced_52 : decode cL_spaced 52 = .ok (.iadd, 1) := by decide +kernel
theorem dL_spaced_53 : decode cL_spaced 53 = .ok (.putfield 19, 3) := by decide +kernel
theorem dL_spaced_56 : decode cL_spaced 56 = .ok (.iload_n 2, 1) := by decide +kernel
theorem dL_spaced_57 : decode cL_spaced 57 = .ok (.bipush 10, 2) := by decide +kernel
theorem dL_spaced_59 : decode cL_spaced 59 = .ok (.idiv, 1) := by decide +kernel
theorem dL_spaced_60 : decode cL_spaced 60 = .ok (.istore_n 2, 1) := by decide +kernel
theorem dL_spaced_61 : decode cL_spaced 61 = .ok (.goto (-37), 3) := by decide +kernel
theorem dL_spaced_64 : decode cL_spaced 64 = .ok (.return_, 1) := by decide +kernel
theorem dL_cell_0 : decode cL_cell 0 = .ok (.iload_n 1, 1) := by decide +kernel
theorem dL_cell_1 : decode cL_cell 1 = .ok (.aload_n 0, 1) := by decide +kernel
theorem dL_cell_2 : decode cL_cell 2 = .ok (.arraylength, 1) := by decide +kernel
theorem dL_cell_3 : decode cL_cell 3 = .ok (.if_icmp .ge 12, 3) := by decide +kernel
theorem dL_cell_6 : decode cL_cell 6 = .ok (.aload_n 0, 1) := by decide +kernel
theorem dL_cell_7 : decode cL_cell 7 = .ok (.iload_n 1, 1) := by decide +kernel
theorem dL_cell_8 : decode cL_cell 8 = .ok (.iaload, 1) := by decide +kernel
theorem dL_cell_9 : decode cL_cell 9 = .ok (.ldc 33, 2) := by decide +kernel
theorem dL_cell_11 : decode cL_cell 11 = .ok (.iand, 1) := by decide +kernel
theorem dL_cell_12 : decode cL_cell 12 = .ok (.goto 4, 3) := by decide +kernel
theorem dL_cell_15 : decode cL_cell 15 = .ok (.iconst 0, 1) := by decide +kernel
theorem dL_cell_16 : decode cL_cell 16 = .ok (.ireturn, 1) := by decide +kernel
theorem dL_feeds_0 : decode cL_feeds 0 = .ok (.iconst 0, 1) := by decide +kernel
theorem dL_feeds_1 : decode cL_feeds 1 = .ok (.istore_n 2, 1) := by decide +kernel
theorem dL_feeds_2 : decode cL_feeds 2 = .ok (.iload_n 2, 1) := by decide +kernel
theorem dL_feeds_3 : decode cL_feeds 3 = .ok (.aload_n 0, 1) := by decide +kernel
theorem dL_feeds_4 : decode cL_feeds 4 = .ok (.getfield 19, 3) := by decide +kernel
theorem dL_feeds_7 : decode cL_feeds 7 = .ok (.if_icmp .ge 90, 3) := by decide +kernel
theorem dL_feeds_10 : decode cL_feeds 10 = .ok (.iconst 5, 1) := by decide +kernel
theorem dL_feeds_11 : decode cL_feeds 11 = .ok (.newarray .int, 2) := by decide +kernel
theorem dL_feeds_13 : decode cL_feeds 13 = .ok (.astore_n 3, 1) := by decide +kernel
theorem dL_feeds_14 : decode cL_feeds 14 = .ok (.iconst 0, 1) := by decide +kernel
theorem dL_feeds_15 : decode cL_feeds 15 = .ok (.istore 4, 2) := by decide +kernel
theorem dL_feeds_17 : decode cL_feeds 17 = .ok (.iload 4, 2) := by decide +kernel
theorem dL_feeds_19 : decode cL_feeds 19 = .ok (.bipush 20, 2) := by decide +kernel
theorem dL_feeds_21 : decode cL_feeds 21 = .ok (.if_icmp .ge 50, 3) := by decide +kernel
theorem dL_feeds_24 : decode cL_feeds 24 = .ok (.aload_n 3, 1) := by decide +kernel
theorem dL_feeds_25 : decode cL_feeds 25 = .ok (.iload 4, 2) := by decide +kernel
theorem dL_feeds_27 : decode cL_feeds 27 = .ok (.iconst 4, 1) := by decide +kernel
theorem dL_feeds_28 : decode cL_feeds 28 = .ok (.idiv, 1) := by decide +kernel
theorem dL_feeds_29 : decode cL_feeds 29 = .ok (.aload_n 3, 1) := by decide +kernel
theorem dL_feeds_30 : decode cL_feeds 30 = .ok (.iload 4, 2) := by decide +kernel
theorem dL_feeds_32 : decode cL_feeds 32 = .ok (.iconst 4, 1) := by decide +kernel
theorem dL_feeds_33 : decode cL_feeds 33 = .ok (.idiv, 1) := by decide +kernel
theorem dL_feeds_34 : decode cL_feeds 34 = .ok (.iaload, 1) := by decide +kernel
theorem dL_feeds_35 : decode cL_feeds 35 = .ok (.bipush 8, 2) := by decide +kernel
theorem dL_feeds_37 : decode cL_feeds 37 = .ok (.ishl, 1) := by decide +kernel
theorem dL_feeds_38 : decode cL_feeds 38 = .ok (.iload_n 2, 1) := by decide +kernel
theorem dL_feeds_39 : decode cL_feeds 39 = .ok (.iload 4, 2) := by decide +kernel
theorem dL_feeds_41 : decode cL_feeds 41 = .ok (.iadd, 1) := by decide +kernel
theorem dL_feeds_42 : decode cL_feeds 42 = .ok (.aload_n 0, 1) := by decide +kernel
theorem dL_feeds_43 : decode cL_feeds 43 = .ok (.getfield 19, 3) := by decide +kernel
theorem dL_feeds_46 : decode cL_feeds 46 = .ok (.if_icmp .ge 15, 3) := by decide +kernel
theorem dL_feeds_49 : decode cL_feeds 49 = .ok (.aload_n 0, 1) := by decide +kernel
theorem dL_feeds_50 : decode cL_feeds 50 = .ok (.getfield 7, 3) := by decide +kernel
theorem dL_feeds_53 : decode cL_feeds 53 = .ok (.iload_n 2, 1) := by decide +kernel
theorem dL_feeds_54 : decode cL_feeds 54 = .ok (.iload 4, 2) := by decide +kernel
theorem dL_feeds_56 : decode cL_feeds 56 = .ok (.iadd, 1) := by decide +kernel
theorem dL_feeds_57 : decode cL_feeds 57 = .ok (.iaload, 1) := by decide +kernel
theorem dL_feeds_58 : decode cL_feeds 58 = .ok (.goto 5, 3) := by decide +kernel
theorem dL_feeds_61 : decode cL_feeds 61 = .ok (.bipush 32, 2) := by decide +kernel
theorem dL_feeds_63 : decode cL_feeds 63 = .ok (.ior, 1) := by decide +kernel
theorem dL_feeds_64 : decode cL_feeds 64 = .ok (.iastore, 1) := by decide +kernel
theorem dL_feeds_65 : decode cL_feeds 65 = .ok (.iinc 4 1, 3) := by decide +kernel
theorem dL_feeds_68 : decode cL_feeds 68 = .ok (.goto (-51), 3) := by decide +kernel
theorem dL_feeds_71 : decode cL_feeds 71 = .ok (.aload_n 1, 1) := by decide +kernel
theorem dL_feeds_72 : decode cL_feeds 72 = .ok (.aload_n 3, 1) := by decide +kernel
theorem dL_feeds_73 : decode cL_feeds 73 = .ok (.iconst 0, 1) := by decide +kernel
theorem dL_feeds_74 : decode cL_feeds 74 = .ok (.iaload, 1) := by decide +kernel
theorem dL_feeds_75 : decode cL_feeds 75 = .ok (.aload_n 3, 1) := by decide +kernel
theorem dL_feeds_76 : decode cL_feeds 76 = .ok (.iconst 1, 1) := by decide +kernel
theorem dL_feeds_77 : decode cL_feeds 77 = .ok (.iaload, 1) := by decide +kernel
theorem dL_feeds_78 : decode cL_feeds 78 = .ok (.aload_n 3, 1) := by decide +kernel
theorem dL_feeds_79 : decode cL_feeds 79 = .ok (.iconst 2, 1) := by decide +kernel
theorem dL_feeds_80 : decode cL_feeds 80 = .ok (.iaload, 1) := by decide +kernel
theorem dL_feeds_81 : decode cL_feeds 81 = .ok (.aload_n 3, 1) := by decide +kernel
theorem dL_feeds_82 : decode cL_feeds 82 = .ok (.iconst 3, 1) := by decide +kernel
theorem dL_feeds_83 : decode cL_feeds 83 = .ok (.iaload, 1) := by decide +kernel
theorem dL_feeds_84 : decode cL_feeds 84 = .ok (.aload_n 3, 1) := by decide +kernel
theorem dL_feeds_85 : decode cL_feeds 85 = .ok (.iconst 4, 1) := by decide +kernel
theorem dL_feeds_86 : decode cL_feeds 86 = .ok (.iaload, 1) := by decide +kernel
theorem dL_feeds_87 : decode cL_feeds 87 = .ok (.invokevirtual 34, 3) := by decide +kernel
theorem dL_feeds_90 : decode cL_feeds 90 = .ok (.pop, 1) := by decide +kernel
theorem dL_feeds_91 : decode cL_feeds 91 = .ok (.iinc 2 20, 3) := by decide +kernel
theorem dL_feeds_94 : decode cL_feeds 94 = .ok (.goto (-92), 3) := by decide +kernel
theorem dL_feeds_97 : decode cL_feeds 97 = .ok (.aload_n 0, 1) := by decide +kernel
theorem dL_feeds_98 : decode cL_feeds 98 = .ok (.getfield 19, 3) := by decide +kernel
theorem dL_feeds_101 : decode cL_feeds 101 = .ok (.istore_n 2, 1) := by decide +kernel
theorem dL_feeds_102 : decode cL_feeds 102 = .ok (.aload_n 0, 1) := by decide +kernel
theorem dL_feeds_103 : decode cL_feeds 103 = .ok (.iconst 0, 1) := by decide +kernel
theorem dL_feeds_104 : decode cL_feeds 104 = .ok (.putfield 19, 3) := by decide +kernel
theorem dL_feeds_107 : decode cL_feeds 107 = .ok (.iload_n 2, 1) := by decide +kernel
theorem dL_feeds_108 : decode cL_feeds 108 = .ok (.ireturn, 1) := by decide +kernel
theorem dL_letter_0 : decode cL_letter 0 = .ok (.aload_n 0, 1) := by decide +kernel
theorem dL_letter_1 : decode cL_letter 1 = .ok (.getfield 7, 3) := by decide +kernel
theorem dL_letter_4 : decode cL_letter 4 = .ok (.aload_n 0, 1) := by decide +kernel
theorem dL_letter_5 : decode cL_letter 5 = .ok (.getfield 19, 3) := by decide +kernel
theorem dL_letter_8 : decode cL_letter 8 = .ok (.bipush 97, 2) := by decide +kernel
theorem dL_letter_10 : decode cL_letter 10 = .ok (.iload_n 1, 1) := by decide +kernel
theorem dL_letter_11 : decode cL_letter 11 = .ok (.iadd, 1) := by decide +kernel
theorem dL_letter_12 : decode cL_letter 12 = .ok (.iastore, 1) := by decide +kernel
theorem dL_letter_13 : decode cL_letter 13 = .ok (.aload_n 0, 1) := by decide +kernel
theorem dL_letter_14 : decode cL_letter 14 = .ok (.dup, 1) := by decide +kernel
theorem dL_letter_15 : decode cL_letter 15 = .ok (.getfield 19, 3) := by decide +kernel
theorem dL_letter_18 : decode cL_letter 18 = .ok (.iconst 1, 1) := by decide +kernel
theorem dL_letter_19 : decode cL_letter 19 = .ok (.iadd, 1) := by decide +kernel
theorem dL_letter_20 : decode cL_letter 20 = .ok (.putfield 19, 3) := by decide +kernel
theorem dL_letter_23 : decode cL_letter 23 = .ok (.return_, 1) := by decide +kernel
theorem dL_loads_0 : decode cL_loads 0 = .ok (.aload_n 2, 1) := by decide +kernel
theorem dL_loads_1 : decode cL_loads 1 = .ok (.iconst 0, 1) := by decide +kernel
theorem dL_loads_2 : decode cL_loads 2 = .ok (.invokestatic 40, 3) := by decide +kernel
theorem dL_loads_5 : decode cL_loads 5 = .ok (.istore_n 3, 1) := by decide +kernel
theorem dL_loads_6 : decode cL_loads 6 = .ok (.aload_n 0, 1) := by decide +kernel
theorem dL_loads_7 : decode cL_loads 7 = .ok (.ldc 44, 2) := by decide +kernel
theorem dL_loads_9 : decode cL_loads 9 = .ok (.invokevirtual 29, 3) := by decide +kernel
theorem dL_loads_12 : decode cL_loads 12 = .ok (.aload_n 0, 1) := by decide +kernel
theorem dL_loads_13 : decode cL_loads 13 = .ok (.iload_n 3, 1) := by decide +kernel
theorem dL_loads_14 : decode cL_loads 14 = .ok (.iconst 4, 1) := by decide +kernel
theorem dL_loads_15 : decode cL_loads 15 = .ok (.irem, 1) := by decide +kernel
theorem dL_loads_16 : decode cL_loads 16 = .ok (.invokevirtual 46, 3) := by decide +kernel
theorem dL_loads_19 : decode cL_loads 19 = .ok (.aload_n 0, 1) := by decide +kernel
theorem dL_loads_20 : decode cL_loads 20 = .ok (.ldc 50, 2) := by decide +kernel
theorem dL_loads_22 : decode cL_loads 22 = .ok (.invokevirtual 29, 3) := by decide +kernel
theorem dL_loads_25 : decode cL_loads 25 = .ok (.aload_n 0, 1) := by decide +kernel
theorem dL_loads_26 : decode cL_loads 26 = .ok (.iconst 1, 1) := by decide +kernel
theorem dL_loads_27 : decode cL_loads 27 = .ok (.iload_n 3, 1) := by decide +kernel
theorem dL_loads_28 : decode cL_loads 28 = .ok (.iconst 4, 1) := by decide +kernel
theorem dL_loads_29 : decode cL_loads 29 = .ok (.idiv, 1) := by decide +kernel
theorem dL_loads_30 : decode cL_loads 30 = .ok (.iconst 4, 1) := by decide +kernel
theorem dL_loads_31 : decode cL_loads 31 = .ok (.irem, 1) := by decide +kernel
theorem dL_loads_32 : decode cL_loads 32 = .ok (.iadd, 1) := by decide +kernel
theorem dL_loads_33 : decode cL_loads 33 = .ok (.invokevirtual 46, 3) := by decide +kernel
theorem dL_loads_36 : decode cL_loads 36 = .ok (.aload_n 0, 1) := by decide +kernel
theorem dL_loads_37 : decode cL_loads 37 = .ok (.ldc 52, 2) := by decide +kernel
theorem dL_loads_39 : decode cL_loads 39 = .ok (.invokevirtual 29, 3) := by decide +kernel
theorem dL_loads_42 : decode cL_loads 42 = .ok (.aload_n 0, 1) := by decide +kernel
theorem dL_loads_43 : decode cL_loads 43 = .ok (.bipush 8, 2) := by decide +kernel
theorem dL_loads_45 : decode cL_loads 45 = .ok (.iload_n 3, 1) := by decide +kernel
theorem dL_loads_46 : decode cL_loads 46 = .ok (.bipush 16, 2) := by decide +kernel
theorem dL_loads_48 : decode cL_loads 48 = .ok (.idiv, 1) := by decide +kernel
theorem dL_loads_49 : decode cL_loads 49 = .ok (.bipush 8, 2) := by decide +kernel
theorem dL_loads_51 : decode cL_loads 51 = .ok (.irem, 1) := by decide +kernel
theorem dL_loads_52 : decode cL_loads 52 = .ok (.iadd, 1) := by decide +kernel
theorem dL_loads_53 : decode cL_loads 53 = .ok (.invokevirtual 46, 3) := by decide +kernel
theorem dL_loads_56 : decode cL_loads 56 = .ok (.aload_n 0, 1) := by decide +kernel
theorem dL_loads_57 : decode cL_loads 57 = .ok (.bipush 16, 2) := by decide +kernel
theorem dL_loads_59 : decode cL_loads 59 = .ok (.iload_n 3, 1) := by decide +kernel
theorem dL_loads_60 : decode cL_loads 60 = .ok (.sipush 128, 3) := by decide +kernel
theorem dL_loads_63 : decode cL_loads 63 = .ok (.idiv, 1) := by decide +kernel
theorem dL_loads_64 : decode cL_loads 64 = .ok (.bipush 10, 2) := by decide +kernel
theorem dL_loads_66 : decode cL_loads 66 = .ok (.irem, 1) := by decide +kernel
theorem dL_loads_67 : decode cL_loads 67 = .ok (.iadd, 1) := by decide +kernel
theorem dL_loads_68 : decode cL_loads 68 = .ok (.invokevirtual 46, 3) := by decide +kernel
theorem dL_loads_71 : decode cL_loads 71 = .ok (.aload_n 0, 1) := by decide +kernel
theorem dL_loads_72 : decode cL_loads 72 = .ok (.ldc 54, 2) := by decide +kernel
theorem dL_loads_74 : decode cL_loads 74 = .ok (.invokevirtual 29, 3) := by decide +kernel
theorem dL_loads_77 : decode cL_loads 77 = .ok (.iconst 2, 1) := by decide +kernel
theorem dL_loads_78 : decode cL_loads 78 = .ok (.iload_n 3, 1) := by decide +kernel
theorem dL_loads_79 : decode cL_loads 79 = .ok (.sipush 1280, 3) := by decide +kernel
theorem dL_loads_82 : decode cL_loads 82 = .ok (.idiv, 1) := by decide +kernel
theorem dL_loads_83 : decode cL_loads 83 = .ok (.bipush 9, 2) := by decide +kernel
theorem dL_loads_85 : decode cL_loads 85 = .ok (.irem, 1) := by decide +kernel
theorem dL_loads_86 : decode cL_loads 86 = .ok (.iadd, 1) := by decide +kernel
theorem dL_loads_87 : decode cL_loads 87 = .ok (.istore 4, 2) := by decide +kernel
theorem dL_loads_89 : decode cL_loads 89 = .ok (.bipush 60, 2) := by decide +kernel
theorem dL_loads_91 : decode cL_loads 91 = .ok (.newarray .boolean, 2) := by decide +kernel
theorem dL_loads_93 : decode cL_loads 93 = .ok (.astore 5, 2) := by decide +kernel
theorem dL_loads_95 : decode cL_loads 95 = .ok (.iconst 0, 1) := by decide +kernel
theorem dL_loads_96 : decode cL_loads 96 = .ok (.istore 6, 2) := by decide +kernel
theorem dL_loads_98 : decode cL_loads 98 = .ok (.iload 6, 2) := by decide +kernel
theorem dL_loads_100 : decode cL_loads 100 = .ok (.iload 4, 2) := by decide +kernel
theorem dL_loads_102 : decode cL_loads 102 = .ok (.if_icmp .ge 111, 3) := by decide +kernel
theorem dL_loads_105 : decode cL_loads 105 = .ok (.aload_n 2, 1) := by decide +kernel
theorem dL_loads_106 : decode cL_loads 106 = .ok (.iconst 1, 1) := by decide +kernel
theorem dL_loads_107 : decode cL_loads 107 = .ok (.iload 6, 2) := by decide +kernel
theorem dL_loads_109 : decode cL_loads 109 = .ok (.iadd, 1) := by decide +kernel
theorem dL_loads_110 : decode cL_loads 110 = .ok (.invokestatic 40, 3) := by decide +kernel
theorem dL_loads_113 : decode cL_loads 113 = .ok (.istore 7, 2) := by decide +kernel
theorem dL_loads_115 : decode cL_loads 115 = .ok (.iload 7, 2) := by decide +kernel
theorem dL_loads_117 : decode cL_loads 117 = .ok (.iconst 2, 1) := by decide +kernel
theorem dL_loads_118 : decode cL_loads 118 = .ok (.irem, 1) := by decide +kernel
theorem dL_loads_119 : decode cL_loads 119 = .ok (.istore 8, 2) := by decide +kernel
theorem dL_loads_121 : decode cL_loads 121 = .ok (.iload 7, 2) := by decide +kernel
theorem dL_loads_123 : decode cL_loads 123 = .ok (.iconst 2, 1) := by decide +kernel
theorem dL_loads_124 : decode cL_loads 124 = .ok (.idiv, 1) := by decide +kernel
theorem dL_loads_125 : decode cL_loads 125 = .ok (.bipush 15, 2) := by decide +kernel
theorem dL_loads_127 : decode cL_loads 127 = .ok (.irem, 1) := by decide +kernel
theorem dL_loads_128 : decode cL_loads 128 = .ok (.istore 9, 2) := by decide +kernel
theorem dL_loads_130 : decode cL_loads 130 = .ok (.aload 5, 2) := by decide +kernel
theorem dL_loads_132 : decode cL_loads 132 = .ok (.iconst 2, 1) := by decide +kernel
theorem dL_loads_133 : decode cL_loads 133 = .ok (.iload 9, 2) := by decide +kernel
theorem dL_loads_135 : decode cL_loads 135 = .ok (.imul, 1) := by decide +kernel
theorem dL_loads_136 : decode cL_loads 136 = .ok (.iload 8, 2) := by decide +kernel
theorem dL_loads_138 : decode cL_loads 138 = .ok (.iadd, 1) := by decide +kernel
theorem dL_loads_139 : decode cL_loads 139 = .ok (.baload, 1) := by decide +kernel
theorem dL_loads_140 : decode cL_loads 140 = .ok (.ifCond .eq 9, 3) := by decide +kernel
theorem dL_loads_143 : decode cL_loads 143 = .ok (.iinc 9 1, 3) := by decide +kernel
theorem dL_loads_146 : decode cL_loads 146 = .ok (.goto (-16), 3) := by decide +kernel
theorem dL_loads_149 : decode cL_loads 149 = .ok (.aload 5, 2) := by decide +kernel
theorem dL_loads_151 : decode cL_loads 151 = .ok (.iconst 2, 1) := by decide +kernel
theorem dL_loads_152 : decode cL_loads 152 = .ok (.iload 9, 2) := by decide +kernel
theorem dL_loads_154 : decode cL_loads 154 = .ok (.imul, 1) := by decide +kernel
theorem dL_loads_155 : decode cL_loads 155 = .ok (.iload 8, 2) := by decide +kernel
theorem dL_loads_157 : decode cL_loads 157 = .ok (.iadd, 1) := by decide +kernel
theorem dL_loads_158 : decode cL_loads 158 = .ok (.iconst 1, 1) := by decide +kernel
theorem dL_loads_159 : decode cL_loads 159 = .ok (.bastore, 1) := by decide +kernel
theorem dL_loads_160 : decode cL_loads 160 = .ok (.aload_n 0, 1) := by decide +kernel
theorem dL_loads_161 : decode cL_loads 161 = .ok (.ldc 56, 2) := by decide +kernel
theorem dL_loads_163 : decode cL_loads 163 = .ok (.invokevirtual 29, 3) := by decide +kernel
theorem dL_loads_166 : decode cL_loads 166 = .ok (.aload_n 0, 1) := by decide +kernel
theorem dL_loads_167 : decode cL_loads 167 = .ok (.iload 6, 2) := by decide +kernel
theorem dL_loads_169 : decode cL_loads 169 = .ok (.invokevirtual 58, 3) := by decide +kernel
theorem dL_loads_172 : decode cL_loads 172 = .ok (.aload_n 0, 1) := by decide +kernel
theorem dL_loads_173 : decode cL_loads 173 = .ok (.iload 8, 2) := by decide +kernel
theorem dL_loads_175 : decode cL_loads 175 = .ok (.invokevirtual 46, 3) := by decide +kernel
theorem dL_loads_178 : decode cL_loads 178 = .ok (.aload_n 0, 1) := by decide +kernel
theorem dL_loads_179 : decode cL_loads 179 = .ok (.iload 9, 2) := by decide +kernel
theorem dL_loads_181 : decode cL_loads 181 = .ok (.iconst 1, 1) := by decide +kernel
theorem dL_loads_182 : decode cL_loads 182 = .ok (.iadd, 1) := by decide +kernel
theorem dL_loads_183 : decode cL_loads 183 = .ok (.invokevirtual 46, 3) := by decide +kernel
theorem dL_loads_186 : decode cL_loads 186 = .ok (.aload_n 0, 1) := by decide +kernel
theorem dL_loads_187 : decode cL_loads 187 = .ok (.iload 7, 2) := by decide +kernel
theorem dL_loads_189 : decode cL_loads 189 = .ok (.bipush 64, 2) := by decide +kernel
theorem dL_loads_191 : decode cL_loads 191 = .ok (.idiv, 1) := by decide +kernel
theorem dL_loads_192 : decode cL_loads 192 = .ok (.iconst 5, 1) := by decide +kernel
theorem dL_loads_193 : decode cL_loads 193 = .ok (.irem, 1) := by decide +kernel
theorem dL_loads_194 : decode cL_loads 194 = .ok (.ifCond .ne 8, 3) := by decide +kernel
theorem dL_loads_197 : decode cL_loads 197 = .ok (.ldc 61, 2) := by decide +kernel
theorem dL_loads_199 : decode cL_loads 199 = .ok (.goto 5, 3) := by decide +kernel
theorem dL_loads_202 : decode cL_loads 202 = .ok (.ldc 54, 2) := by decide +kernel
theorem dL_loads_204 : decode cL_loads 204 = .ok (.invokevirtual 29, 3) := by decide +kernel
theorem dL_loads_207 : decode cL_loads 207 = .ok (.iinc 6 1, 3) := by decide +kernel
theorem dL_loads_210 : decode cL_loads 210 = .ok (.goto (-112), 3) := by decide +kernel
theorem dL_loads_213 : decode cL_loads 213 = .ok (.iload_n 3, 1) := by decide +kernel
theorem dL_loads_214 : decode cL_loads 214 = .ok (.sipush 20000, 3) := by decide +kernel
theorem dL_loads_217 : decode cL_loads 217 = .ok (.idiv, 1) := by decide +kernel
theorem dL_loads_218 : decode cL_loads 218 = .ok (.bipush 7, 2) := by decide +kernel
theorem dL_loads_220 : decode cL_loads 220 = .ok (.irem, 1) := by decide +kernel
theorem dL_loads_221 : decode cL_loads 221 = .ok (.istore 6, 2) := by decide +kernel
theorem dL_loads_223 : decode cL_loads 223 = .ok (.iconst 0, 1) := by decide +kernel
theorem dL_loads_224 : decode cL_loads 224 = .ok (.istore 7, 2) := by decide +kernel
theorem dL_loads_226 : decode cL_loads 226 = .ok (.iload 7, 2) := by decide +kernel
theorem dL_loads_228 : decode cL_loads 228 = .ok (.iload 6, 2) := by decide +kernel
theorem dL_loads_230 : decode cL_loads 230 = .ok (.if_icmp .ge 116, 3) := by decide +kernel
theorem dL_loads_233 : decode cL_loads 233 = .ok (.aload_n 2, 1) := by decide +kernel
theorem dL_loads_234 : decode cL_loads 234 = .ok (.bipush 11, 2) := by decide +kernel
theorem dL_loads_236 : decode cL_loads 236 = .ok (.iload 7, 2) := by decide +kernel
theorem dL_loads_238 : decode cL_loads 238 = .ok (.iadd, 1) := by decide +kernel
theorem dL_loads_239 : decode cL_loads 239 = .ok (.invokestatic 40, 3) := by decide +kernel
theorem dL_loads_242 : decode cL_loads 242 = .ok (.istore 8, 2) := by decide +kernel
theorem dL_loads_244 : decode cL_loads 244 = .ok (.aload_n 0, 1) := by decide +kernel
theorem dL_loads_245 : decode cL_loads 245 = .ok (.ldc 63, 2) := by decide +kernel
theorem dL_loads_247 : decode cL_loads 247 = .ok (.invokevirtual 29, 3) := by decide +kernel
theorem dL_loads_250 : decode cL_loads 250 = .ok (.aload_n 0, 1) := by decide +kernel
theorem dL_loads_251 : decode cL_loads 251 = .ok (.iload 8, 2) := by decide +kernel
theorem dL_loads_253 : decode cL_loads 253 = .ok (.iconst 2, 1) := by decide +kernel
theorem dL_loads_254 : decode cL_loads 254 = .ok (.irem, 1) := by decide +kernel
theorem dL_loads_255 : decode cL_loads 255 = .ok (.invokevirtual 46, 3) := by decide +kernel
theorem dL_loads_258 : decode cL_loads 258 = .ok (.aload_n 0, 1) := by decide +kernel
theorem dL_loads_259 : decode cL_loads 259 = .ok (.iload 8, 2) := by decide +kernel
theorem dL_loads_261 : decode cL_loads 261 = .ok (.iconst 2, 1) := by decide +kernel
theorem dL_loads_262 : decode cL_loads 262 = .ok (.idiv, 1) := by decide +kernel
theorem dL_loads_263 : decode cL_loads 263 = .ok (.iconst 3, 1) := by decide +kernel
theorem dL_loads_264 : decode cL_loads 264 = .ok (.irem, 1) := by decide +kernel
theorem dL_loads_265 : decode cL_loads 265 = .ok (.ifCond .le 8, 3) := by decide +kernel
theorem dL_loads_268 : decode cL_loads 268 = .ok (.ldc 65, 2) := by decide +kernel
theorem dL_loads_270 : decode cL_loads 270 = .ok (.goto 5, 3) := by decide +kernel
theorem dL_loads_273 : decode cL_loads 273 = .ok (.ldc 67, 2) := by decide +kernel
theorem dL_loads_275 : decode cL_loads 275 = .ok (.invokevirtual 29, 3) := by decide +kernel
theorem dL_loads_278 : decode cL_loads 278 = .ok (.iconst 0, 1) := by decide +kernel
theorem dL_loads_279 : decode cL_loads 279 = .ok (.istore 9, 2) := by decide +kernel
theorem dL_loads_281 : decode cL_loads 281 = .ok (.iload 9, 2) := by decide +kernel
theorem dL_loads_283 : decode cL_loads 283 = .ok (.iconst 2, 1) := by decide +kernel
theorem dL_loads_284 : decode cL_loads 284 = .ok (.if_icmp .ge 50, 3) := by decide +kernel
theorem dL_loads_287 : decode cL_loads 287 = .ok (.iload 8, 2) := by decide +kernel
theorem dL_loads_289 : decode cL_loads 289 = .ok (.iload 9, 2) := by decide +kernel
theorem dL_loads_291 : decode cL_loads 291 = .ok (.ifCond .ne 8, 3) := by decide +kernel
theorem dL_loads_294 : decode cL_loads 294 = .ok (.bipush 8, 2) := by decide +kernel
theorem dL_loads_296 : decode cL_loads 296 = .ok (.goto 6, 3) := by decide +kernel
theorem dL_loads_299 : decode cL_loads 299 = .ok (.sipush 256, 3) := by decide +kernel
theorem dL_loads_302 : decode cL_loads 302 = .ok (.idiv, 1) := by decide +kernel
theorem dL_loads_303 : decode cL_loads 303 = .ok (.bipush 17, 2) := by decide +kernel
theorem dL_loads_305 : decode cL_loads 305 = .ok (.irem, 1) := by decide +kernel
theorem dL_loads_306 : decode cL_loads 306 = .ok (.istore 10, 2) := by decide +kernel
theorem dL_loads_308 : decode cL_loads 308 = .ok (.iload 10, 2) := by decide +kernel
theorem dL_loads_310 : decode cL_loads 310 = .ok (.ifCond .ne 12, 3) := by decide +kernel
theorem dL_loads_313 : decode cL_loads 313 = .ok (.aload_n 0, 1) := by decide +kernel
theorem dL_loads_314 : decode cL_loads 314 = .ok (.ldc 69, 2) := by decide +kernel
theorem dL_loads_316 : decode cL_loads 316 = .ok (.invokevirtual 29, 3) := by decide +kernel
theorem dL_loads_319 : decode cL_loads 319 = .ok (.goto 9, 3) := by decide +kernel
theorem dL_loads_322 : decode cL_loads 322 = .ok (.aload_n 0, 1) := by decide +kernel
theorem dL_loads_323 : decode cL_loads 323 = .ok (.iload 10, 2) := by decide +kernel
theorem dL_loads_325 : decode cL_loads 325 = .ok (.invokevirtual 46, 3) := by decide +kernel
theorem dL_loads_328 : decode cL_loads 328 = .ok (.iinc 9 1, 3) := by decide +kernel
theorem dL_loads_331 : decode cL_loads 331 = .ok (.goto (-50), 3) := by decide +kernel
theorem dL_loads_334 : decode cL_loads 334 = .ok (.aload_n 0, 1) := by decide +kernel
theorem dL_loads_335 : decode cL_loads 335 = .ok (.ldc 54, 2) := by decide +kernel
theorem dL_loads_337 : decode cL_loads 337 = .ok (.invokevirtual 29, 3) := by decide +kernel
theorem dL_loads_340 : decode cL_loads 340 = .ok (.iinc 7 1, 3) := by decide +kernel
theorem dL_loads_343 : decode cL_loads 343 = .ok (.goto (-117), 3) := by decide +kernel
theorem dL_loads_346 : decode cL_loads 346 = .ok (.aload_n 1, 1) := by decide +kernel
theorem dL_loads_347 : decode cL_loads 347 = .ok (.aload_n 0, 1) := by decide +kernel
theorem dL_loads_348 : decode cL_loads 348 = .ok (.aload_n 1, 1) := by decide +kernel
theorem dL_loads_349 : decode cL_loads 349 = .ok (.invokevirtual 71, 3) := by decide +kernel
theorem dL_loads_352 : decode cL_loads 352 = .ok (.invokevirtual 75, 3) := by decide +kernel
theorem dL_loads_355 : decode cL_loads 355 = .ok (.iload 4, 2) := by decide +kernel
theorem dL_loads_357 : decode cL_loads 357 = .ok (.if_icmp .ne 60, 3) := by decide +kernel
theorem dL_loads_360 : decode cL_loads 360 = .ok (.aload_n 1, 1) := by decide +kernel
theorem dL_loads_361 : decode cL_loads 361 = .ok (.invokevirtual 79, 3) := by decide +kernel
theorem dL_loads_364 : decode cL_loads 364 = .ok (.iconst (-1), 1) := by decide +kernel
theorem dL_loads_365 : decode cL_loads 365 = .ok (.if_icmp .ne 52, 3) := by decide +kernel
theorem dL_loads_368 : decode cL_loads 368 = .ok (.aload_n 1, 1) := by decide +kernel
theorem dL_loads_369 : decode cL_loads 369 = .ok (.iconst 0, 1) := by decide +kernel
theorem dL_loads_370 : decode cL_loads 370 = .ok (.invokevirtual 82, 3) := by decide +kernel
theorem dL_loads_373 : decode cL_loads 373 = .ok (.iload 4, 2) := by decide +kernel
theorem dL_loads_375 : decode cL_loads 375 = .ok (.if_icmp .ne 42, 3) := by decide +kernel
theorem dL_loads_378 : decode cL_loads 378 = .ok (.aload_n 1, 1) := by decide +kernel
theorem dL_loads_379 : decode cL_loads 379 = .ok (.iconst 1, 1) := by decide +kernel
theorem dL_loads_380 : decode cL_loads 380 = .ok (.invokevirtual 82, 3) := by decide +kernel
theorem dL_loads_383 : decode cL_loads 383 = .ok (.iload 6, 2) := by decide +kernel
theorem dL_loads_385 : decode cL_loads 385 = .ok (.if_icmp .ne 32, 3) := by decide +kernel
theorem dL_loads_388 : decode cL_loads 388 = .ok (.aload_n 1, 1) := by decide +kernel
theorem dL_loads_389 : decode cL_loads 389 = .ok (.iconst 2, 1) := by decide +kernel
theorem dL_loads_390 : decode cL_loads 390 = .ok (.invokevirtual 82, 3) := by decide +kernel
theorem dL_loads_393 : decode cL_loads 393 = .ok (.ifCond .ne 24, 3) := by decide +kernel
theorem dL_loads_396 : decode cL_loads 396 = .ok (.aload_n 1, 1) := by decide +kernel
theorem dL_loads_397 : decode cL_loads 397 = .ok (.iconst 3, 1) := by decide +kernel
theorem dL_loads_398 : decode cL_loads 398 = .ok (.invokevirtual 82, 3) := by decide +kernel
theorem dL_loads_401 : decode cL_loads 401 = .ok (.ifCond .ne 16, 3) := by decide +kernel
theorem dL_loads_404 : decode cL_loads 404 = .ok (.aload_n 1, 1) := by decide +kernel
theorem dL_loads_405 : decode cL_loads 405 = .ok (.bipush 8, 2) := by decide +kernel
theorem dL_loads_407 : decode cL_loads 407 = .ok (.invokevirtual 82, 3) := by decide +kernel
theorem dL_loads_410 : decode cL_loads 410 = .ok (.ifCond .ne 7, 3) := by decide +kernel
theorem dL_loads_413 : decode cL_loads 413 = .ok (.iconst 1, 1) := by decide +kernel
theorem dL_loads_414 : decode cL_loads 414 = .ok (.goto 4, 3) := by decide +kernel
theorem dL_loads_417 : decode cL_loads 417 = .ok (.iconst 0, 1) := by decide +kernel
theorem dL_loads_418 : decode cL_loads 418 = .ok (.ireturn, 1) := by decide +kernel
theorem dL_acts_0 : decode cL_acts 0 = .ok (.iload_n 1, 1) := by decide +kernel
theorem dL_acts_1 : decode cL_acts 1 = .ok (.bipush 14, 2) := by decide +kernel
theorem dL_acts_3 : decode cL_acts 3 = .ok (.idiv, 1) := by decide +kernel
theorem dL_acts_4 : decode cL_acts 4 = .ok (.istore_n 2, 1) := by decide +kernel
theorem dL_acts_5 : decode cL_acts 5 = .ok (.aload_n 0, 1) := by decide +kernel
theorem dL_acts_6 : decode cL_acts 6 = .ok (.iconst 0, 1) := by decide +kernel
theorem dL_acts_7 : decode cL_acts 7 = .ok (.invokevirtual 82, 3) := by decide +kernel
theorem dL_acts_10 : decode cL_acts 10 = .ok (.istore_n 3, 1) := by decide +kernel
theorem dL_acts_11 : decode cL_acts 11 = .ok (.iload_n 1, 1) := by decide +kernel
theorem dL_acts_12 : decode cL_acts 12 = .ok (.bipush 14, 2) := by decide +kernel
theorem dL_acts_14 : decode cL_acts 14 = .ok (.irem, 1) := by decide +kernel
theorem dL_acts_15 : decode cL_acts 15 = .ok (.tableswitch 248 0 12 #[65, 81, 98, 98, 98, 144, 149, 149, 154, 159, 180, 215, 240], 65) := by decide +kernel
theorem dL_acts_80 : decode cL_acts 80 = .ok (.aload_n 0, 1) := by decide +kernel
theorem dL_acts_81 : decode cL_acts 81 = .ok (.iload_n 2, 1) := by decide +kernel
theorem dL_acts_82 : decode cL_acts 82 = .ok (.iconst 2, 1) := by decide +kernel
theorem dL_acts_83 : decode cL_acts 83 = .ok (.irem, 1) := by decide +kernel
theorem dL_acts_84 : decode cL_acts 84 = .ok (.iconst 1, 1) := by decide +kernel
theorem dL_acts_85 : decode cL_acts 85 = .ok (.iload_n 2, 1) := by decide +kernel
theorem dL_acts_86 : decode cL_acts 86 = .ok (.iconst 2, 1) := by decide +kernel
theorem dL_acts_87 : decode cL_acts 87 = .ok (.idiv, 1) := by decide +kernel
theorem dL_acts_88 : decode cL_acts 88 = .ok (.bipush 25, 2) := by decide +kernel
theorem dL_acts_90 : decode cL_acts 90 = .ok (.irem, 1) := by decide +kernel
theorem dL_acts_91 : decode cL_acts 91 = .ok (.iadd, 1) := by decide +kernel
theorem dL_acts_92 : decode cL_acts 92 = .ok (.invokevirtual 84, 3) := by decide +kernel
theorem dL_acts_95 : decode cL_acts 95 = .ok (.ireturn, 1) := by decide +kernel
theorem dL_acts_96 : decode cL_acts 96 = .ok (.iload_n 3, 1) := by decide +kernel
theorem dL_acts_97 : decode cL_acts 97 = .ok (.ifCond .ne 8, 3) := by decide +kernel
theorem dL_acts_100 : decode cL_acts 100 = .ok (.bipush (-9), 2) := by decide +kernel
theorem dL_acts_102 : decode cL_acts 102 = .ok (.goto 10, 3) := by decide +kernel
theorem dL_acts_105 : decode cL_acts 105 = .ok (.aload_n 0, 1) := by decide +kernel
theorem dL_acts_106 : decode cL_acts 106 = .ok (.iload_n 2, 1) := by decide +kernel
theorem dL_acts_107 : decode cL_acts 107 = .ok (.iload_n 3, 1) := by decide +kernel
theorem dL_acts_108 : decode cL_acts 108 = .ok (.irem, 1) := by decide +kernel
theorem dL_acts_109 : decode cL_acts 109 = .ok (.invokevirtual 88, 3) := by decide +kernel
theorem dL_acts_112 : decode cL_acts 112 = .ok (.ireturn, 1) := by decide +kernel
theorem dL_acts_113 : decode cL_acts 113 = .ok (.iload_n 3, 1) := by decide +kernel
theorem dL_acts_114 : decode cL_acts 114 = .ok (.ifCond .ne 8, 3) := by decide +kernel
theorem dL_acts_117 : decode cL_acts 117 = .ok (.bipush (-9), 2) := by decide +kernel
theorem dL_acts_119 : decode cL_acts 119 = .ok (.goto 39, 3) := by decide +kernel
theorem dL_acts_122 : decode cL_acts 122 = .ok (.aload_n 0, 1) := by decide +kernel
theorem dL_acts_123 : decode cL_acts 123 = .ok (.iload_n 2, 1) := by decide +kernel
theorem dL_acts_124 : decode cL_acts 124 = .ok (.iload_n 3, 1) := by decide +kernel
theorem dL_acts_125 : decode cL_acts 125 = .ok (.irem, 1) := by decide +kernel
theorem dL_acts_126 : decode cL_acts 126 = .ok (.iconst 1, 1) := by decide +kernel
theorem dL_acts_127 : decode cL_acts 127 = .ok (.iload_n 2, 1) := by decide +kernel
theorem dL_acts_128 : decode cL_acts 128 = .ok (.bipush 16, 2) := by decide +kernel
theorem dL_acts_130 : decode cL_acts 130 = .ok (.idiv, 1) := by decide +kernel
theorem dL_acts_131 : decode cL_acts 131 = .ok (.bipush 25, 2) := by decide +kernel
theorem dL_acts_133 : decode cL_acts 133 = .ok (.irem, 1) := by decide +kernel
theorem dL_acts_134 : decode cL_acts 134 = .ok (.iadd, 1) := by decide +kernel
theorem dL_acts_135 : decode cL_acts 135 = .ok (.iconst 1, 1) := by decide +kernel
theorem dL_acts_136 : decode cL_acts 136 = .ok (.bipush 8, 2) := by decide +kernel
theorem dL_acts_138 : decode cL_acts 138 = .ok (.aload_n 0, 1) := by decide +kernel
theorem dL_acts_139 : decode cL_acts 139 = .ok (.iconst 3, 1) := by decide +kernel
theorem dL_acts_140 : decode cL_acts 140 = .ok (.invokevirtual 82, 3) := by decide +kernel
theorem dL_acts_143 : decode cL_acts 143 = .ok (.iload_n 2, 1) := by decide +kernel
theorem dL_acts_144 : decode cL_acts 144 = .ok (.sipush 1024, 3) := by decide +kernel
theorem dL_acts_147 : decode cL_acts 147 = .ok (.idiv, 1) := by decide +kernel
theorem dL_acts_148 : decode cL_acts 148 = .ok (.iconst 2, 1) := by decide +kernel
theorem dL_acts_149 : decode cL_acts 149 = .ok (.irem, 1) := by decide +kernel
theorem dL_acts_150 : decode cL_acts 150 = .ok (.iadd, 1) := by decide +kernel
theorem dL_acts_151 : decode cL_acts 151 = .ok (.invokestatic 91, 3) := by decide +kernel
theorem dL_acts_154 : decode cL_acts 154 = .ok (.iadd, 1) := by decide +kernel
theorem dL_acts_155 : decode cL_acts 155 = .ok (.invokevirtual 96, 3) := by decide +kernel
theorem dL_acts_158 : decode cL_acts 158 = .ok (.ireturn, 1) := by decide +kernel
theorem dL_acts_159 : decode cL_acts 159 = .ok (.aload_n 0, 1) := by decide +kernel
theorem dL_acts_160 : decode cL_acts 160 = .ok (.invokevirtual 100, 3) := by decide +kernel
theorem dL_acts_163 : decode cL_acts 163 = .ok (.ireturn, 1) := by decide +kernel
theorem dL_acts_164 : decode cL_acts 164 = .ok (.aload_n 0, 1) := by decide +kernel
theorem dL_acts_165 : decode cL_acts 165 = .ok (.invokevirtual 103, 3) := by decide +kernel
theorem dL_acts_168 : decode cL_acts 168 = .ok (.ireturn, 1) := by decide +kernel
theorem dL_acts_169 : decode cL_acts 169 = .ok (.aload_n 0, 1) := by decide +kernel
theorem dL_acts_170 : decode cL_acts 170 = .ok (.invokevirtual 106, 3) := by decide +kernel
theorem dL_acts_173 : decode cL_acts 173 = .ok (.ireturn, 1) := by decide +kernel
theorem dL_acts_174 : decode cL_acts 174 = .ok (.aload_n 0, 1) := by decide +kernel
theorem dL_acts_175 : decode cL_acts 175 = .ok (.bipush 8, 2) := by decide +kernel
theorem dL_acts_177 : decode cL_acts 177 = .ok (.invokevirtual 82, 3) := by decide +kernel
theorem dL_acts_180 : decode cL_acts 180 = .ok (.ifCond .ne 10, 3) := by decide +kernel
theorem dL_acts_183 : decode cL_acts 183 = .ok (.aload_n 0, 1) := by decide +kernel
theorem dL_acts_184 : decode cL_acts 184 = .ok (.invokevirtual 109, 3) := by decide +kernel
theorem dL_acts_187 : decode cL_acts 187 = .ok (.goto 7, 3) := by decide +kernel
theorem dL_acts_190 : decode cL_acts 190 = .ok (.aload_n 0, 1) := by decide +kernel
theorem dL_acts_191 : decode cL_acts 191 = .ok (.invokevirtual 112, 3) := by decide +kernel
theorem dL_acts_194 : decode cL_acts 194 = .ok (.ireturn, 1) := by decide +kernel
theorem dL_acts_195 : decode cL_acts 195 = .ok (.aload_n 0, 1) := by decide +kernel
theorem dL_acts_196 : decode cL_acts 196 = .ok (.iload_n 2, 1) := by decide +kernel
theorem dL_acts_197 : decode cL_acts 197 = .ok (.iconst 2, 1) := by decide +kernel
theorem dL_acts_198 : decode cL_acts 198 = .ok (.irem, 1) := by decide +kernel
theorem dL_acts_199 : decode cL_acts 199 = .ok (.iload_n 2, 1) := by decide +kernel
theorem dL_acts_200 : decode cL_acts 200 = .ok (.iconst 2, 1) := by decide +kernel
theorem dL_acts_201 : decode cL_acts 201 = .ok (.idiv, 1) := by decide +kernel
theorem dL_acts_202 : decode cL_acts 202 = .ok (.iconst 2, 1) := by decide +kernel
theorem dL_acts_203 : decode cL_acts 203 = .ok (.irem, 1) := by decide +kernel
theorem dL_acts_204 : decode cL_acts 204 = .ok (.ifCond .ne 7, 3) := by decide +kernel
theorem dL_acts_207 : decode cL_acts 207 = .ok (.iconst 1, 1) := by decide +kernel
theorem dL_acts_208 : decode cL_acts 208 = .ok (.goto 4, 3) := by decide +kernel
theorem dL_acts_211 : decode cL_acts 211 = .ok (.iconst 0, 1) := by decide +kernel
theorem dL_acts_212 : decode cL_acts 212 = .ok (.iload_n 2, 1) := by decide +kernel
theorem dL_acts_213 : decode cL_acts 213 = .ok (.iconst 4, 1) := by decide +kernel
theorem dL_acts_214 : decode cL_acts 214 = .ok (.idiv, 1) := by decide +kernel
theorem dL_acts_215 : decode cL_acts 215 = .ok (.bipush 20, 2) := by decide +kernel
theorem dL_acts_217 : decode cL_acts 217 = .ok (.irem, 1) := by decide +kernel
theorem dL_acts_218 : decode cL_acts 218 = .ok (.iload_n 2, 1) := by decide +kernel
theorem dL_acts_219 : decode cL_acts 219 = .ok (.sipush 128, 3) := by decide +kernel
theorem dL_acts_222 : decode cL_acts 222 = .ok (.idiv, 1) := by decide +kernel
theorem dL_acts_223 : decode cL_acts 223 = .ok (.bipush 20, 2) := by decide +kernel
theorem dL_acts_225 : decode cL_acts 225 = .ok (.irem, 1) := by decide +kernel
theorem dL_acts_226 : decode cL_acts 226 = .ok (.invokevirtual 115, 3) := by decide +kernel
theorem dL_acts_229 : decode cL_acts 229 = .ok (.ireturn, 1) := by decide +kernel
theorem dL_acts_230 : decode cL_acts 230 = .ok (.aload_n 0, 1) := by decide +kernel
theorem dL_acts_231 : decode cL_acts 231 = .ok (.iconst 1, 1) := by decide +kernel
theorem dL_acts_232 : decode cL_acts 232 = .ok (.invokevirtual 82, 3) := by decide +kernel
theorem dL_acts_235 : decode cL_acts 235 = .ok (.ifCond .ne 8, 3) := by decide +kernel
theorem dL_acts_238 : decode cL_acts 238 = .ok (.bipush (-9), 2) := by decide +kernel
theorem dL_acts_240 : decode cL_acts 240 = .ok (.goto 14, 3) := by decide +kernel
theorem dL_acts_243 : decode cL_acts 243 = .ok (.aload_n 0, 1) := by decide +kernel
theorem dL_acts_244 : decode cL_acts 244 = .ok (.iload_n 2, 1) := by decide +kernel
theorem dL_acts_245 : decode cL_acts 245 = .ok (.aload_n 0, 1) := by decide +kernel
theorem dL_acts_246 : decode cL_acts 246 = .ok (.iconst 1, 1) := by decide +kernel
theorem dL_acts_247 : decode cL_acts 247 = .ok (.invokevirtual 82, 3) := by decide +kernel
theorem dL_acts_250 : decode cL_acts 250 = .ok (.irem, 1) := by decide +kernel
theorem dL_acts_251 : decode cL_acts 251 = .ok (.invokevirtual 119, 3) := by decide +kernel
theorem dL_acts_254 : decode cL_acts 254 = .ok (.ireturn, 1) := by decide +kernel
theorem dL_acts_255 : decode cL_acts 255 = .ok (.aload_n 0, 1) := by decide +kernel
theorem dL_acts_256 : decode cL_acts 256 = .ok (.iload_n 2, 1) := by decide +kernel
theorem dL_acts_257 : decode cL_acts 257 = .ok (.iconst 4, 1) := by decide +kernel
theorem dL_acts_258 : decode cL_acts 258 = .ok (.irem, 1) := by decide +kernel
theorem dL_acts_259 : decode cL_acts 259 = .ok (.invokevirtual 122, 3) := by decide +kernel
theorem dL_acts_262 : decode cL_acts 262 = .ok (.ireturn, 1) := by decide +kernel
theorem dL_acts_263 : decode cL_acts 263 = .ok (.iload_n 3, 1) := by decide +kernel
theorem dL_acts_264 : decode cL_acts 264 = .ok (.ifCond .ne 8, 3) := by decide +kernel
theorem dL_acts_267 : decode cL_acts 267 = .ok (.bipush (-9), 2) := by decide +kernel
theorem dL_acts_269 : decode cL_acts 269 = .ok (.goto 42, 3) := by decide +kernel
theorem dL_acts_272 : decode cL_acts 272 = .ok (.iload_n 2, 1) := by decide +kernel
theorem dL_acts_273 : decode cL_acts 273 = .ok (.iconst 3, 1) := by decide +kernel
theorem dL_acts_274 : decode cL_acts 274 = .ok (.irem, 1) := by decide +kernel
theorem dL_acts_275 : decode cL_acts 275 = .ok (.ifCond .ne 29, 3) := by decide +kernel
theorem dL_acts_278 : decode cL_acts 278 = .ok (.aload_n 0, 1) := by decide +kernel
theorem dL_acts_279 : decode cL_acts 279 = .ok (.iload_n 2, 1) := by decide +kernel
theorem dL_acts_280 : decode cL_acts 280 = .ok (.iconst 3, 1) := by decide +kernel
theorem dL_acts_281 : decode cL_acts 281 = .ok (.idiv, 1) := by decide +kernel
theorem dL_acts_282 : decode cL_acts 282 = .ok (.iload_n 3, 1) := by decide +kernel
theorem dL_acts_283 : decode cL_acts 283 = .ok (.irem, 1) := by decide +kernel
theorem dL_acts_284 : decode cL_acts 284 = .ok (.iload_n 2, 1) := by decide +kernel
theorem dL_acts_285 : decode cL_acts 285 = .ok (.bipush 64, 2) := by decide +kernel
theorem dL_acts_287 : decode cL_acts 287 = .ok (.idiv, 1) := by decide +kernel
theorem dL_acts_288 : decode cL_acts 288 = .ok (.iconst 2, 1) := by decide +kernel
theorem dL_acts_289 : decode cL_acts 289 = .ok (.irem, 1) := by decide +kernel
theorem dL_acts_290 : decode cL_acts 290 = .ok (.ifCond .ne 7, 3) := by decide +kernel
theorem dL_acts_293 : decode cL_acts 293 = .ok (.iconst 1, 1) := by decide +kernel
theorem dL_acts_294 : decode cL_acts 294 = .ok (.goto 4, 3) := by decide +kernel
theorem dL_acts_297 : decode cL_acts 297 = .ok (.iconst 0, 1) := by decide +kernel
theorem dL_acts_298 : decode cL_acts 298 = .ok (.invokevirtual 125, 3) := by decide +kernel
theorem dL_acts_301 : decode cL_acts 301 = .ok (.goto 10, 3) := by decide +kernel
theorem dL_acts_304 : decode cL_acts 304 = .ok (.aload_n 0, 1) := by decide +kernel
theorem dL_acts_305 : decode cL_acts 305 = .ok (.iload_n 2, 1) := by decide +kernel
theorem dL_acts_306 : decode cL_acts 306 = .ok (.iload_n 3, 1) := by decide +kernel
theorem dL_acts_307 : decode cL_acts 307 = .ok (.irem, 1) := by decide +kernel
theorem dL_acts_308 : decode cL_acts 308 = .ok (.invokevirtual 129, 3) := by decide +kernel
theorem dL_acts_311 : decode cL_acts 311 = .ok (.ireturn, 1) := by decide +kernel
theorem dL_holds_0 : decode cL_holds 0 = .ok (.aload_n 0, 1) := by decide +kernel
theorem dL_holds_1 : decode cL_holds 1 = .ok (.iload_n 1, 1) := by decide +kernel
theorem dL_holds_2 : decode cL_holds 2 = .ok (.iconst 1, 1) := by decide +kernel
theorem dL_holds_3 : decode cL_holds 3 = .ok (.invokevirtual 132, 3) := by decide +kernel
theorem dL_holds_6 : decode cL_holds 6 = .ok (.iload_n 2, 1) := by decide +kernel
theorem dL_holds_7 : decode cL_holds 7 = .ok (.if_icmp .eq 13, 3) := by decide +kernel
theorem dL_holds_10 : decode cL_holds 10 = .ok (.aload_n 0, 1) := by decide +kernel
theorem dL_holds_11 : decode cL_holds 11 = .ok (.iload_n 1, 1) := by decide +kernel
theorem dL_holds_12 : decode cL_holds 12 = .ok (.iconst 2, 1) := by decide +kernel
theorem dL_holds_13 : decode cL_holds 13 = .ok (.invokevirtual 132, 3) := by decide +kernel
theorem dL_holds_16 : decode cL_holds 16 = .ok (.iload_n 2, 1) := by decide +kernel
theorem dL_holds_17 : decode cL_holds 17 = .ok (.if_icmp .ne 7, 3) := by decide +kernel
theorem dL_holds_20 : decode cL_holds 20 = .ok (.iconst 1, 1) := by decide +kernel
theorem dL_holds_21 : decode cL_holds 21 = .ok (.goto 4, 3) := by decide +kernel
theorem dL_holds_24 : decode cL_holds 24 = .ok (.iconst 0, 1) := by decide +kernel
theorem dL_holds_25 : decode cL_holds 25 = .ok (.ireturn, 1) := by decide +kernel
theorem dL_areOfNet_0 : decode cL_areOfNet 0 = .ok (.aload_n 0, 1) := by decide +kernel
theorem dL_areOfNet_1 : decode cL_areOfNet 1 = .ok (.bipush 8, 2) := by decide +kernel
theorem dL_areOfNet_3 : decode cL_areOfNet 3 = .ok (.invokevirtual 82, 3) := by decide +kernel
theorem dL_areOfNet_6 : decode cL_areOfNet 6 = .ok (.iconst 1, 1) := by decide +kernel
theorem dL_areOfNet_7 : decode cL_areOfNet 7 = .ok (.if_icmp .eq 18, 3) := by decide +kernel
theorem dL_areOfNet_10 : decode cL_areOfNet 10 = .ok (.aload_n 0, 1) := by decide +kernel
theorem dL_areOfNet_11 : decode cL_areOfNet 11 = .ok (.iload_n 1, 1) := by decide +kernel
theorem dL_areOfNet_12 : decode cL_areOfNet 12 = .ok (.iconst 0, 1) := by decide +kernel
theorem dL_areOfNet_13 : decode cL_areOfNet 13 = .ok (.invokevirtual 132, 3) := by decide +kernel
theorem dL_areOfNet_16 : decode cL_areOfNet 16 = .ok (.aload_n 0, 1) := by decide +kernel
theorem dL_areOfNet_17 : decode cL_areOfNet 17 = .ok (.iload_n 2, 1) := by decide +kernel
theorem dL_areOfNet_18 : decode cL_areOfNet 18 = .ok (.iconst 0, 1) := by decide +kernel
theorem dL_areOfNet_19 : decode cL_areOfNet 19 = .ok (.invokevirtual 132, 3) := by decide +kernel
theorem dL_areOfNet_22 : decode cL_areOfNet 22 = .ok (.if_icmp .ne 7, 3) := by decide +kernel
theorem dL_areOfNet_25 : decode cL_areOfNet 25 = .ok (.iconst 1, 1) := by decide +kernel
theorem dL_areOfNet_26 : decode cL_areOfNet 26 = .ok (.goto 4, 3) := by decide +kernel
theorem dL_areOfNet_29 : decode cL_areOfNet 29 = .ok (.iconst 0, 1) := by decide +kernel
theorem dL_areOfNet_30 : decode cL_areOfNet 30 = .ok (.ireturn, 1) := by decide +kernel
theorem dL_law_0 : decode cL_law 0 = .ok (.new 8, 3) := by decide +kernel
theorem dL_law_3 : decode cL_law 3 = .ok (.dup, 1) := by decide +kernel
theorem dL_law_4 : decode cL_law 4 = .ok (.invokespecial 135, 3) := by decide +kernel
theorem dL_law_7 : decode cL_law 7 = .ok (.astore_n 1, 1) := by decide +kernel
theorem dL_law_8 : decode cL_law 8 = .ok (.new 35, 3) := by decide +kernel
theorem dL_law_11 : decode cL_law 11 = .ok (.dup, 1) := by decide +kernel
theorem dL_law_12 : decode cL_law 12 = .ok (.invokespecial 136, 3) := by decide +kernel
theorem dL_law_15 : decode cL_law 15 = .ok (.astore_n 2, 1) := by decide +kernel
theorem dL_law_16 : decode cL_law 16 = .ok (.aload_n 1, 1) := by decide +kernel
theorem dL_law_17 : decode cL_law 17 = .ok (.aload_n 2, 1) := by decide +kernel
theorem dL_law_18 : decode cL_law 18 = .ok (.aload_n 0, 1) := by decide +kernel
theorem dL_law_19 : decode cL_law 19 = .ok (.invokevirtual 137, 3) := by decide +kernel
theorem dL_law_22 : decode cL_law 22 = .ok (.ifCond .eq 15, 3) := by decide +kernel
theorem dL_law_25 : decode cL_law 25 = .ok (.aload_n 2, 1) := by decide +kernel
theorem dL_law_26 : decode cL_law 26 = .ok (.aload_n 0, 1) := by decide +kernel
theorem dL_law_27 : decode cL_law 27 = .ok (.invokestatic 141, 3) := by decide +kernel
theorem dL_law_30 : decode cL_law 30 = .ok (.ifCond .eq 7, 3) := by decide +kernel
theorem dL_law_33 : decode cL_law 33 = .ok (.iconst 1, 1) := by decide +kernel
theorem dL_law_34 : decode cL_law 34 = .ok (.goto 4, 3) := by decide +kernel
theorem dL_law_37 : decode cL_law 37 = .ok (.iconst 0, 1) := by decide +kernel
theorem dL_law_38 : decode cL_law 38 = .ok (.ireturn, 1) := by decide +kernel
theorem dL_holds__0 : decode cL_holds_ 0 = .ok (.bipush 18, 2) := by decide +kernel
theorem dL_holds__2 : decode cL_holds_ 2 = .ok (.istore_n 2, 1) := by decide +kernel
theorem dL_holds__3 : decode cL_holds_ 3 = .ok (.iload_n 2, 1) := by decide +kernel
theorem dL_holds__4 : decode cL_holds_ 4 = .ok (.bipush 32, 2) := by decide +kernel
theorem dL_holds__6 : decode cL_holds_ 6 = .ok (.if_icmp .ge 42, 3) := by decide +kernel
theorem dL_holds__9 : decode cL_holds_ 9 = .ok (.aload_n 0, 1) := by decide +kernel
theorem dL_holds__10 : decode cL_holds_ 10 = .ok (.invokestatic 144, 3) := by decide +kernel
theorem dL_holds__13 : decode cL_holds_ 13 = .ok (.ifCond .eq 17, 3) := by decide +kernel
theorem dL_holds__16 : decode cL_holds_ 16 = .ok (.aload_n 0, 1) := by decide +kernel
theorem dL_holds__17 : decode cL_holds_ 17 = .ok (.invokestatic 148, 3) := by decide +kernel
theorem dL_holds__20 : decode cL_holds_ 20 = .ok (.ifCond .eq 10, 3) := by decide +kernel
theorem dL_holds__23 : decode cL_holds_ 23 = .ok (.aload_n 0, 1) := by decide +kernel
theorem dL_holds__24 : decode cL_holds_ 24 = .ok (.invokestatic 151, 3) := by decide +kernel
theorem dL_holds__27 : decode cL_holds_ 27 = .ok (.ifCond .ne 5, 3) := by decide +kernel
theorem dL_holds__30 : decode cL_holds_ 30 = .ok (.iconst 0, 1) := by decide +kernel
theorem dL_holds__31 : decode cL_holds_ 31 = .ok (.ireturn, 1) := by decide +kernel
theorem dL_holds__32 : decode cL_holds_ 32 = .ok (.aload_n 0, 1) := by decide +kernel
theorem dL_holds__33 : decode cL_holds_ 33 = .ok (.aload_n 1, 1) := by decide +kernel
theorem dL_holds__34 : decode cL_holds_ 34 = .ok (.iload_n 2, 1) := by decide +kernel
theorem dL_holds__35 : decode cL_holds_ 35 = .ok (.invokestatic 40, 3) := by decide +kernel
theorem dL_holds__38 : decode cL_holds_ 38 = .ok (.invokestatic 154, 3) := by decide +kernel
theorem dL_holds__41 : decode cL_holds_ 41 = .ok (.istore_n 3, 1) := by decide +kernel
theorem dL_holds__42 : decode cL_holds_ 42 = .ok (.iinc 2 1, 3) := by decide +kernel
theorem dL_holds__45 : decode cL_holds_ 45 = .ok (.goto (-42), 3) := by decide +kernel
theorem dL_holds__48 : decode cL_holds_ 48 = .ok (.aload_n 0, 1) := by decide +kernel
theorem dL_holds__49 : decode cL_holds_ 49 = .ok (.invokestatic 144, 3) := by decide +kernel
theorem dL_holds__52 : decode cL_holds_ 52 = .ok (.ireturn, 1) := by decide +kernel
theorem dL_isRight_0 : decode cL_isRight 0 = .ok (.iconst 0, 1) := by decide +kernel
theorem dL_isRight_1 : decode cL_isRight 1 = .ok (.istore_n 1, 1) := by decide +kernel
theorem dL_isRight_2 : decode cL_isRight 2 = .ok (.iconst 0, 1) := by decide +kernel
theorem dL_isRight_3 : decode cL_isRight 3 = .ok (.istore_n 2, 1) := by decide +kernel
theorem dL_isRight_4 : decode cL_isRight 4 = .ok (.iconst 0, 1) := by decide +kernel
theorem dL_isRight_5 : decode cL_isRight 5 = .ok (.istore_n 3, 1) := by decide +kernel
theorem dL_isRight_6 : decode cL_isRight 6 = .ok (.iload_n 3, 1) := by decide +kernel
theorem dL_isRight_7 : decode cL_isRight 7 = .ok (.aload_n 0, 1) := by decide +kernel
theorem dL_isRight_8 : decode cL_isRight 8 = .ok (.iconst 0, 1) := by decide +kernel
theorem dL_isRight_9 : decode cL_isRight 9 = .ok (.invokevirtual 82, 3) := by decide +kernel
theorem dL_isRight_12 : decode cL_isRight 12 = .ok (.if_icmp .ge 230, 3) := by decide +kernel
theorem dL_isRight_15 : decode cL_isRight 15 = .ok (.aload_n 0, 1) := by decide +kernel
theorem dL_isRight_16 : decode cL_isRight 16 = .ok (.iload_n 3, 1) := by decide +kernel
theorem dL_isRight_17 : decode cL_isRight 17 = .ok (.iconst 2, 1) := by decide +kernel
theorem dL_isRight_18 : decode cL_isRight 18 = .ok (.invokevirtual 132, 3) := by decide +kernel
theorem dL_isRight_21 : decode cL_isRight 21 = .ok (.istore 4, 2) := by decide +kernel
theorem dL_isRight_23 : decode cL_isRight 23 = .ok (.aload_n 0, 1) := by decide +kernel
theorem dL_isRight_24 : decode cL_isRight 24 = .ok (.iload_n 3, 1) := by decide +kernel
theorem dL_isRight_25 : decode cL_isRight 25 = .ok (.bipush 6, 2) := by decide +kernel
theorem dL_isRight_27 : decode cL_isRight 27 = .ok (.invokevirtual 132, 3) := by decide +kernel
theorem dL_isRight_30 : decode cL_isRight 30 = .ok (.istore 5, 2) := by decide +kernel
theorem dL_isRight_32 : decode cL_isRight 32 = .ok (.iload_n 1, 1) := by decide +kernel
theorem dL_isRight_33 : decode cL_isRight 33 = .ok (.iload 4, 2) := by decide +kernel
theorem dL_isRight_35 : decode cL_isRight 35 = .ok (.ifCond .le 7, 3) := by decide +kernel
theorem dL_isRight_38 : decode cL_isRight 38 = .ok (.iconst 1, 1) := by decide +kernel
theorem dL_isRight_39 : decode cL_isRight 39 = .ok (.goto 4, 3) := by decide +kernel
theorem dL_isRight_42 : decode cL_isRight 42 = .ok (.iconst 0, 1) := by decide +kernel
theorem dL_isRight_43 : decode cL_isRight 43 = .ok (.iadd, 1) := by decide +kernel
theorem dL_isRight_44 : decode cL_isRight 44 = .ok (.istore_n 1, 1) := by decide +kernel
theorem dL_isRight_45 : decode cL_isRight 45 = .ok (.iload_n 2, 1) := by decide +kernel
theorem dL_isRight_46 : decode cL_isRight 46 = .ok (.aload_n 0, 1) := by decide +kernel
theorem dL_isRight_47 : decode cL_isRight 47 = .ok (.iload_n 3, 1) := by decide +kernel
theorem dL_isRight_48 : decode cL_isRight 48 = .ok (.iconst 5, 1) := by decide +kernel
theorem dL_isRight_49 : decode cL_isRight 49 = .ok (.invokevirtual 132, 3) := by decide +kernel
theorem dL_isRight_52 : decode cL_isRight 52 = .ok (.ifCond .le 7, 3) := by decide +kernel
theorem dL_isRight_55 : decode cL_isRight 55 = .ok (.iconst 1, 1) := by decide +kernel
theorem dL_isRight_56 : decode cL_isRight 56 = .ok (.goto 4, 3) := by decide +kernel
theorem dL_isRight_59 : decode cL_isRight 59 = .ok (.iconst 0, 1) := by decide +kernel
theorem dL_isRight_60 : decode cL_isRight 60 = .ok (.iadd, 1) := by decide +kernel
theorem dL_isRight_61 : decode cL_isRight 61 = .ok (.istore_n 2, 1) := by decide +kernel
theorem dL_isRight_62 : decode cL_isRight 62 = .ok (.iload 4, 2) := by decide +kernel
theorem dL_isRight_64 : decode cL_isRight 64 = .ok (.ifCond .le 7, 3) := by decide +kernel
theorem dL_isRight_67 : decode cL_isRight 67 = .ok (.iconst 1, 1) := by decide +kernel
theorem dL_isRight_68 : decode cL_isRight 68 = .ok (.goto 4, 3) := by decide +kernel
theorem dL_isRight_71 : decode cL_isRight 71 = .ok (.iconst 0, 1) := by decide +kernel
theorem dL_isRight_72 : decode cL_isRight 72 = .ok (.iload 5, 2) := by decide +kernel
theorem dL_isRight_74 : decode cL_isRight 74 = .ok (.ifCond .le 23, 3) := by decide +kernel
theorem dL_isRight_77 : decode cL_isRight 77 = .ok (.aload_n 0, 1) := by decide +kernel
theorem dL_isRight_78 : decode cL_isRight 78 = .ok (.iconst 3, 1) := by decide +kernel
theorem dL_isRight_79 : decode cL_isRight 79 = .ok (.invokevirtual 82, 3) := by decide +kernel
theorem dL_isRight_82 : decode cL_isRight 82 = .ok (.iload 5, 2) := by decide +kernel
theorem dL_isRight_84 : decode cL_isRight 84 = .ok (.aload_n 0, 1) := by decide +kernel
theorem dL_isRight_85 : decode cL_isRight 85 = .ok (.iconst 4, 1) := by decide +kernel
theorem dL_isRight_86 : decode cL_isRight 86 = .ok (.invokevirtual 82, 3) := by decide +kernel
theorem dL_isRight_89 : decode cL_isRight 89 = .ok (.iadd, 1) := by decide +kernel
theorem dL_isRight_90 : decode cL_isRight 90 = .ok (.if_icmp .ge 7, 3) := by decide +kernel
theorem dL_isRight_93 : decode cL_isRight 93 = .ok (.iconst 1, 1) := by decide +kernel
theorem dL_isRight_94 : decode cL_isRight 94 = .ok (.goto 4, 3) := by decide +kernel
theorem dL_isRight_97 : decode cL_isRight 97 = .ok (.iconst 0, 1) := by decide +kernel
theorem dL_isRight_98 : decode cL_isRight 98 = .ok (.if_icmp .ne 13, 3) := by decide +kernel
theorem dL_isRight_101 : decode cL_isRight 101 = .ok (.iload 5, 2) := by decide +kernel
theorem dL_isRight_103 : decode cL_isRight 103 = .ok (.aload_n 0, 1) := by decide +kernel
theorem dL_isRight_104 : decode cL_isRight 104 = .ok (.iconst 3, 1) := by decide +kernel
theorem dL_isRight_105 : decode cL_isRight 105 = .ok (.invokevirtual 82, 3) := by decide +kernel
theorem dL_isRight_108 : decode cL_isRight 108 = .ok (.if_icmp .le 5, 3) := by decide +kernel
theorem dL_isRight_111 : decode cL_isRight 111 = .ok (.iconst 0, 1) := by decide +kernel
theorem dL_isRight_112 : decode cL_isRight 112 = .ok (.ireturn, 1) := by decide +kernel
theorem dL_isRight_113 : decode cL_isRight 113 = .ok (.aload_n 0, 1) := by decide +kernel
theorem dL_isRight_114 : decode cL_isRight 114 = .ok (.iload_n 3, 1) := by decide +kernel
theorem dL_isRight_115 : decode cL_isRight 115 = .ok (.iconst 5, 1) := by decide +kernel
theorem dL_isRight_116 : decode cL_isRight 116 = .ok (.invokevirtual 132, 3) := by decide +kernel
theorem dL_isRight_119 : decode cL_isRight 119 = .ok (.ifCond .le 36, 3) := by decide +kernel
theorem dL_isRight_122 : decode cL_isRight 122 = .ok (.aload_n 0, 1) := by decide +kernel
theorem dL_isRight_123 : decode cL_isRight 123 = .ok (.iload_n 3, 1) := by decide +kernel
theorem dL_isRight_124 : decode cL_isRight 124 = .ok (.iconst 3, 1) := by decide +kernel
theorem dL_isRight_125 : decode cL_isRight 125 = .ok (.invokevirtual 132, 3) := by decide +kernel
theorem dL_isRight_128 : decode cL_isRight 128 = .ok (.iconst 1, 1) := by decide +kernel
theorem dL_isRight_129 : decode cL_isRight 129 = .ok (.if_icmp .eq 44, 3) := by decide +kernel
theorem dL_isRight_132 : decode cL_isRight 132 = .ok (.aload_n 0, 1) := by decide +kernel
theorem dL_isRight_133 : decode cL_isRight 133 = .ok (.iload_n 3, 1) := by decide +kernel
theorem dL_isRight_134 : decode cL_isRight 134 = .ok (.iconst 5, 1) := by decide +kernel
theorem dL_isRight_135 : decode cL_isRight 135 = .ok (.invokevirtual 132, 3) := by decide +kernel
theorem dL_isRight_138 : decode cL_isRight 138 = .ok (.aload_n 0, 1) := by decide +kernel
theorem dL_isRight_139 : decode cL_isRight 139 = .ok (.iconst 3, 1) := by decide +kernel
theorem dL_isRight_140 : decode cL_isRight 140 = .ok (.invokevirtual 82, 3) := by decide +kernel
theorem dL_isRight_143 : decode cL_isRight 143 = .ok (.if_icmp .le 30, 3) := by decide +kernel
theorem dL_isRight_146 : decode cL_isRight 146 = .ok (.aload_n 0, 1) := by decide +kernel
theorem dL_isRight_147 : decode cL_isRight 147 = .ok (.iload_n 3, 1) := by decide +kernel
theorem dL_isRight_148 : decode cL_isRight 148 = .ok (.iconst 4, 1) := by decide +kernel
theorem dL_isRight_149 : decode cL_isRight 149 = .ok (.invokevirtual 132, 3) := by decide +kernel
theorem dL_isRight_152 : decode cL_isRight 152 = .ok (.ifCond .eq 21, 3) := by decide +kernel
theorem dL_isRight_155 : decode cL_isRight 155 = .ok (.aload_n 0, 1) := by decide +kernel
theorem dL_isRight_156 : decode cL_isRight 156 = .ok (.iload_n 3, 1) := by decide +kernel
theorem dL_isRight_157 : decode cL_isRight 157 = .ok (.iconst 5, 1) := by decide +kernel
theorem dL_isRight_158 : decode cL_isRight 158 = .ok (.invokevirtual 132, 3) := by decide +kernel
theorem dL_isRight_161 : decode cL_isRight 161 = .ok (.ifCond .ne 14, 3) := by decide +kernel
theorem dL_isRight_164 : decode cL_isRight 164 = .ok (.aload_n 0, 1) := by decide +kernel
theorem dL_isRight_165 : decode cL_isRight 165 = .ok (.iload_n 3, 1) := by decide +kernel
theorem dL_isRight_166 : decode cL_isRight 166 = .ok (.iconst 4, 1) := by decide +kernel
theorem dL_isRight_167 : decode cL_isRight 167 = .ok (.invokevirtual 132, 3) := by decide +kernel
theorem dL_isRight_170 : decode cL_isRight 170 = .ok (.ifCond .eq 5, 3) := by decide +kernel
theorem dL_isRight_173 : decode cL_isRight 173 = .ok (.iconst 0, 1) := by decide +kernel
theorem dL_isRight_174 : decode cL_isRight 174 = .ok (.ireturn, 1) := by decide +kernel
theorem dL_isRight_175 : decode cL_isRight 175 = .ok (.iconst 0, 1) := by decide +kernel
theorem dL_isRight_176 : decode cL_isRight 176 = .ok (.istore 6, 2) := by decide +kernel
theorem dL_isRight_178 : decode cL_isRight 178 = .ok (.iload 6, 2) := by decide +kernel
theorem dL_isRight_180 : decode cL_isRight 180 = .ok (.iload_n 3, 1) := by decide +kernel
theorem dL_isRight_181 : decode cL_isRight 181 = .ok (.if_icmp .ge 55, 3) := by decide +kernel
theorem dL_isRight_184 : decode cL_isRight 184 = .ok (.aload_n 0, 1) := by decide +kernel
theorem dL_isRight_185 : decode cL_isRight 185 = .ok (.iload_n 3, 1) := by decide +kernel
theorem dL_isRight_186 : decode cL_isRight 186 = .ok (.iload 6, 2) := by decide +kernel
theorem dL_isRight_188 : decode cL_isRight 188 = .ok (.invokestatic 158, 3) := by decide +kernel
theorem dL_isRight_191 : decode cL_isRight 191 = .ok (.ifCond .ne 6, 3) := by decide +kernel
theorem dL_isRight_194 : decode cL_isRight 194 = .ok (.goto 36, 3) := by decide +kernel
theorem dL_isRight_197 : decode cL_isRight 197 = .ok (.aload_n 0, 1) := by decide +kernel
theorem dL_isRight_198 : decode cL_isRight 198 = .ok (.iload 6, 2) := by decide +kernel
theorem dL_isRight_200 : decode cL_isRight 200 = .ok (.aload_n 0, 1) := by decide +kernel
theorem dL_isRight_201 : decode cL_isRight 201 = .ok (.iload_n 3, 1) := by decide +kernel
theorem dL_isRight_202 : decode cL_isRight 202 = .ok (.iconst 1, 1) := by decide +kernel
theorem dL_isRight_203 : decode cL_isRight 203 = .ok (.invokevirtual 132, 3) := by decide +kernel
theorem dL_isRight_206 : decode cL_isRight 206 = .ok (.invokestatic 162, 3) := by decide +kernel
theorem dL_isRight_209 : decode cL_isRight 209 = .ok (.ifCond .ne 19, 3) := by decide +kernel
theorem dL_isRight_212 : decode cL_isRight 212 = .ok (.iload 4, 2) := by decide +kernel
theorem dL_isRight_214 : decode cL_isRight 214 = .ok (.ifCond .le 16, 3) := by decide +kernel
theorem dL_isRight_217 : decode cL_isRight 217 = .ok (.aload_n 0, 1) := by decide +kernel
theorem dL_isRight_218 : decode cL_isRight 218 = .ok (.iload 6, 2) := by decide +kernel
theorem dL_isRight_220 : decode cL_isRight 220 = .ok (.iload 4, 2) := by decide +kernel
theorem dL_isRight_222 : decode cL_isRight 222 = .ok (.invokestatic 162, 3) := by decide +kernel
theorem dL_isRight_225 : decode cL_isRight 225 = .ok (.ifCond .eq 5, 3) := by decide +kernel
theorem dL_isRight_228 : decode cL_isRight 228 = .ok (.iconst 0, 1) := by decide +kernel
theorem dL_isRight_229 : decode cL_isRight 229 = .ok (.ireturn, 1) := by decide +kernel
theorem dL_isRight_230 : decode cL_isRight 230 = .ok (.iinc 6 1, 3) := by decide +kernel
theorem dL_isRight_233 : decode cL_isRight 233 = .ok (.goto (-55), 3) := by decide +kernel
theorem dL_isRight_236 : decode cL_isRight 236 = .ok (.iinc 3 1, 3) := by decide +kernel
theorem dL_isRight_239 : decode cL_isRight 239 = .ok (.goto (-233), 3) := by decide +kernel
theorem dL_isRight_242 : decode cL_isRight 242 = .ok (.aload_n 0, 1) := by decide +kernel
theorem dL_isRight_243 : decode cL_isRight 243 = .ok (.bipush 10, 2) := by decide +kernel
theorem dL_isRight_245 : decode cL_isRight 245 = .ok (.invokevirtual 82, 3) := by decide +kernel
theorem dL_isRight_248 : decode cL_isRight 248 = .ok (.iload_n 1, 1) := by decide +kernel
theorem dL_isRight_249 : decode cL_isRight 249 = .ok (.if_icmp .ne 16, 3) := by decide +kernel
theorem dL_isRight_252 : decode cL_isRight 252 = .ok (.aload_n 0, 1) := by decide +kernel
theorem dL_isRight_253 : decode cL_isRight 253 = .ok (.iconst 2, 1) := by decide +kernel
theorem dL_isRight_254 : decode cL_isRight 254 = .ok (.invokevirtual 82, 3) := by decide +kernel
theorem dL_isRight_257 : decode cL_isRight 257 = .ok (.iload_n 2, 1) := by decide +kernel
theorem dL_isRight_258 : decode cL_isRight 258 = .ok (.if_icmp .ne 7, 3) := by decide +kernel
theorem dL_isRight_261 : decode cL_isRight 261 = .ok (.iconst 1, 1) := by decide +kernel
theorem dL_isRight_262 : decode cL_isRight 262 = .ok (.goto 4, 3) := by decide +kernel
theorem dL_isRight_265 : decode cL_isRight 265 = .ok (.iconst 0, 1) := by decide +kernel
theorem dL_isRight_266 : decode cL_isRight 266 = .ok (.ireturn, 1) := by decide +kernel
theorem dL_isClashes_0 : decode cL_isClashes 0 = .ok (.iconst 0, 1) := by decide +kernel
theorem dL_isClashes_1 : decode cL_isClashes 1 = .ok (.istore_n 1, 1) := by decide +kernel
theorem dL_isClashes_2 : decode cL_isClashes 2 = .ok (.iconst 1, 1) := by decide +kernel
theorem dL_isClashes_3 : decode cL_isClashes 3 = .ok (.istore_n 2, 1) := by decide +kernel
theorem dL_isClashes_4 : decode cL_isClashes 4 = .ok (.iload_n 2, 1) := by decide +kernel
theorem dL_isClashes_5 : decode cL_isClashes 5 = .ok (.bipush 60, 2) := by decide +kernel
theorem dL_isClashes_7 : decode cL_isClashes 7 = .ok (.if_icmp .gt 118, 3) := by decide +kernel
theorem dL_isClashes_10 : decode cL_isClashes 10 = .ok (.iconst (-1), 1) := by decide +kernel
theorem dL_isClashes_11 : decode cL_isClashes 11 = .ok (.istore_n 3, 1) := by decide +kernel
theorem dL_isClashes_12 : decode cL_isClashes 12 = .ok (.iconst (-1), 1) := by decide +kernel
theorem dL_isClashes_13 : decode cL_isClashes 13 = .ok (.istore 4, 2) := by decide +kernel
theorem dL_isClashes_15 : decode cL_isClashes 15 = .ok (.aload_n 0, 1) := by decide +kernel
theorem dL_isClashes_16 : decode cL_isClashes 16 = .ok (.iconst 0, 1) := by decide +kernel
theorem dL_isClashes_17 : decode cL_isClashes 17 = .ok (.invokevirtual 82, 3) := by decide +kernel
theorem dL_isClashes_20 : decode cL_isClashes 20 = .ok (.iconst 1, 1) := by decide +kernel
theorem dL_isClashes_21 : decode cL_isClashes 21 = .ok (.isub, 1) := by decide +kernel
theorem dL_isClashes_22 : decode cL_isClashes 22 = .ok (.istore 5, 2) := by decide +kernel
theorem dL_isClashes_24 : decode cL_isClashes 24 = .ok (.iload 5, 2) := by decide +kernel
theorem dL_isClashes_26 : decode cL_isClashes 26 = .ok (.ifCond .lt 42, 3) := by decide +kernel
theorem dL_isClashes_29 : decode cL_isClashes 29 = .ok (.aload_n 0, 1) := by decide +kernel
theorem dL_isClashes_30 : decode cL_isClashes 30 = .ok (.iload 5, 2) := by decide +kernel
theorem dL_isClashes_32 : decode cL_isClashes 32 = .ok (.iload_n 2, 1) := by decide +kernel
theorem dL_isClashes_33 : decode cL_isClashes 33 = .ok (.invokestatic 162, 3) := by decide +kernel
theorem dL_isClashes_36 : decode cL_isClashes 36 = .ok (.ifCond .ne 6, 3) := by decide +kernel
theorem dL_isClashes_39 : decode cL_isClashes 39 = .ok (.goto 23, 3) := by decide +kernel
theorem dL_isClashes_42 : decode cL_isClashes 42 = .ok (.aload_n 0, 1) := by decide +kernel
theorem dL_isClashes_43 : decode cL_isClashes 43 = .ok (.iload 5, 2) := by decide +kernel
theorem dL_isClashes_45 : decode cL_isClashes 45 = .ok (.iconst 0, 1) := by decide +kernel
theorem dL_isClashes_46 : decode cL_isClashes 46 = .ok (.invokevirtual 132, 3) := by decide +kernel
theorem dL_isClashes_49 : decode cL_isClashes 49 = .ok (.ifCond .ne 9, 3) := by decide +kernel
theorem dL_isClashes_52 : decode cL_isClashes 52 = .ok (.iload 5, 2) := by decide +kernel
theorem dL_isClashes_54 : decode cL_isClashes 54 = .ok (.istore_n 3, 1) := by decide +kernel
theorem dL_isClashes_55 : decode cL_isClashes 55 = .ok (.goto 7, 3) := by decide +kernel
theorem dL_isClashes_58 : decode cL_isClashes 58 = .ok (.iload 5, 2) := by decide +kernel
theorem dL_isClashes_60 : decode cL_isClashes 60 = .ok (.istore 4, 2) := by decide +kernel
theorem dL_isClashes_62 : decode cL_isClashes 62 = .ok (.iinc 5 (-1), 3) := by decide +kernel
theorem dL_isClashes_65 : decode cL_isClashes 65 = .ok (.goto (-41), 3) := by decide +kernel
theorem dL_isClashes_68 : decode cL_isClashes 68 = .ok (.aload_n 0, 1) := by decide +kernel
theorem dL_isClashes_69 : decode cL_isClashes 69 = .ok (.iconst 0, 1) := by decide +kernel
theorem dL_isClashes_70 : decode cL_isClashes 70 = .ok (.iload_n 2, 1) := by decide +kernel
theorem dL_isClashes_71 : decode cL_isClashes 71 = .ok (.invokevirtual 164, 3) := by decide +kernel
theorem dL_isClashes_74 : decode cL_isClashes 74 = .ok (.iload_n 3, 1) := by decide +kernel
theorem dL_isClashes_75 : decode cL_isClashes 75 = .ok (.if_icmp .ne 14, 3) := by decide +kernel
theorem dL_isClashes_78 : decode cL_isClashes 78 = .ok (.aload_n 0, 1) := by decide +kernel
theorem dL_isClashes_79 : decode cL_isClashes 79 = .ok (.iconst 1, 1) := by decide +kernel
theorem dL_isClashes_80 : decode cL_isClashes 80 = .ok (.iload_n 2, 1) := by decide +kernel
theorem dL_isClashes_81 : decode cL_isClashes 81 = .ok (.invokevirtual 164, 3) := by decide +kernel
theorem dL_isClashes_84 : decode cL_isClashes 84 = .ok (.iload 4, 2) := by decide +kernel
theorem dL_isClashes_86 : decode cL_isClashes 86 = .ok (.if_icmp .eq 5, 3) := by decide +kernel
theorem dL_isClashes_89 : decode cL_isClashes 89 = .ok (.iconst 0, 1) := by decide +kernel
theorem dL_isClashes_90 : decode cL_isClashes 90 = .ok (.ireturn, 1) := by decide +kernel
theorem dL_isClashes_91 : decode cL_isClashes 91 = .ok (.iload_n 3, 1) := by decide +kernel
theorem dL_isClashes_92 : decode cL_isClashes 92 = .ok (.iconst (-1), 1) := by decide +kernel
theorem dL_isClashes_93 : decode cL_isClashes 93 = .ok (.if_icmp .eq 26, 3) := by decide +kernel
theorem dL_isClashes_96 : decode cL_isClashes 96 = .ok (.iload 4, 2) := by decide +kernel
theorem dL_isClashes_98 : decode cL_isClashes 98 = .ok (.iconst (-1), 1) := by decide +kernel
theorem dL_isClashes_99 : decode cL_isClashes 99 = .ok (.if_icmp .ne 6, 3) := by decide +kernel
theorem dL_isClashes_102 : decode cL_isClashes 102 = .ok (.goto 17, 3) := by decide +kernel
theorem dL_isClashes_105 : decode cL_isClashes 105 = .ok (.aload_n 0, 1) := by decide +kernel
theorem dL_isClashes_106 : decode cL_isClashes 106 = .ok (.iload_n 1, 1) := by decide +kernel
theorem dL_isClashes_107 : decode cL_isClashes 107 = .ok (.invokevirtual 167, 3) := by decide +kernel
theorem dL_isClashes_110 : decode cL_isClashes 110 = .ok (.iload_n 2, 1) := by decide +kernel
theorem dL_isClashes_111 : decode cL_isClashes 111 = .ok (.if_icmp .eq 5, 3) := by decide +kernel
theorem dL_isClashes_114 : decode cL_isClashes 114 = .ok (.iconst 0, 1) := by decide +kernel
theorem dL_isClashes_115 : decode cL_isClashes 115 = .ok (.ireturn, 1) := by decide +kernel
theorem dL_isClashes_116 : decode cL_isClashes 116 = .ok (.iinc 1 1, 3) := by decide +kernel
theorem dL_isClashes_119 : decode cL_isClashes 119 = .ok (.iinc 2 1, 3) := by decide +kernel
theorem dL_isClashes_122 : decode cL_isClashes 122 = .ok (.goto (-118), 3) := by decide +kernel
theorem dL_isClashes_125 : decode cL_isClashes 125 = .ok (.aload_n 0, 1) := by decide +kernel
theorem dL_isClashes_126 : decode cL_isClashes 126 = .ok (.bipush 9, 2) := by decide +kernel
theorem dL_isClashes_128 : decode cL_isClashes 128 = .ok (.invokevirtual 82, 3) := by decide +kernel
theorem dL_isClashes_131 : decode cL_isClashes 131 = .ok (.iload_n 1, 1) := by decide +kernel
theorem dL_isClashes_132 : decode cL_isClashes 132 = .ok (.if_icmp .ne 20, 3) := by decide +kernel
theorem dL_isClashes_135 : decode cL_isClashes 135 = .ok (.aload_n 0, 1) := by decide +kernel
theorem dL_isClashes_136 : decode cL_isClashes 136 = .ok (.bipush 8, 2) := by decide +kernel
theorem dL_isClashes_138 : decode cL_isClashes 138 = .ok (.invokevirtual 82, 3) := by decide +kernel
theorem dL_isClashes_141 : decode cL_isClashes 141 = .ok (.ifCond .eq 7, 3) := by decide +kernel
theorem dL_isClashes_144 : decode cL_isClashes 144 = .ok (.iload_n 1, 1) := by decide +kernel
theorem dL_isClashes_145 : decode cL_isClashes 145 = .ok (.ifCond .ne 7, 3) := by decide +kernel
theorem dL_isClashes_148 : decode cL_isClashes 148 = .ok (.iconst 1, 1) := by decide +kernel
theorem dL_isClashes_149 : decode cL_isClashes 149 = .ok (.goto 4, 3) := by decide +kernel
theorem dL_isClashes_152 : decode cL_isClashes 152 = .ok (.iconst 0, 1) := by decide +kernel
theorem dL_isClashes_153 : decode cL_isClashes 153 = .ok (.ireturn, 1) := by decide +kernel
theorem dL_isWave_0 : decode cL_isWave 0 = .ok (.aload_n 0, 1) := by decide +kernel
theorem dL_isWave_1 : decode cL_isWave 1 = .ok (.iconst 0, 1) := by decide +kernel
theorem dL_isWave_2 : decode cL_isWave 2 = .ok (.invokevirtual 82, 3) := by decide +kernel
theorem dL_isWave_5 : decode cL_isWave 5 = .ok (.istore_n 1, 1) := by decide +kernel
theorem dL_isWave_6 : decode cL_isWave 6 = .ok (.aload_n 0, 1) := by decide +kernel
theorem dL_isWave_7 : decode cL_isWave 7 = .ok (.iconst 3, 1) := by decide +kernel
theorem dL_isWave_8 : decode cL_isWave 8 = .ok (.invokevirtual 82, 3) := by decide +kernel
theorem dL_isWave_11 : decode cL_isWave 11 = .ok (.istore_n 2, 1) := by decide +kernel
theorem dL_isWave_12 : decode cL_isWave 12 = .ok (.iload_n 2, 1) := by decide +kernel
theorem dL_isWave_13 : decode cL_isWave 13 = .ok (.iconst 1, 1) := by decide +kernel
theorem dL_isWave_14 : decode cL_isWave 14 = .ok (.iadd, 1) := by decide +kernel
theorem dL_isWave_15 : decode cL_isWave 15 = .ok (.istore_n 3, 1) := by decide +kernel
theorem dL_isWave_16 : decode cL_isWave 16 = .ok (.iconst 0, 1) := by decide +kernel
theorem dL_isWave_17 : decode cL_isWave 17 = .ok (.istore 4, 2) := by decide +kernel
theorem dL_isWave_19 : decode cL_isWave 19 = .ok (.iconst 0, 1) := by decide +kernel
theorem dL_isWave_20 : decode cL_isWave 20 = .ok (.istore 5, 2) := by decide +kernel
theorem dL_isWave_22 : decode cL_isWave 22 = .ok (.iload_n 1, 1) := by decide +kernel
theorem dL_isWave_23 : decode cL_isWave 23 = .ok (.newarray .int, 2) := by decide +kernel
theorem dL_isWave_25 : decode cL_isWave 25 = .ok (.astore 6, 2) := by decide +kernel
theorem dL_isWave_27 : decode cL_isWave 27 = .ok (.iload_n 1, 1) := by decide +kernel
theorem dL_isWave_28 : decode cL_isWave 28 = .ok (.newarray .int, 2) := by decide +kernel
theorem dL_isWave_30 : decode cL_isWave 30 = .ok (.astore 7, 2) := by decide +kernel
theorem dL_isWave_32 : decode cL_isWave 32 = .ok (.iconst 0, 1) := by decide +kernel
theorem dL_isWave_33 : decode cL_isWave 33 = .ok (.istore 8, 2) := by decide +kernel
theorem dL_isWave_35 : decode cL_isWave 35 = .ok (.iload 8, 2) := by decide +kernel
theorem dL_isWave_37 : decode cL_isWave 37 = .ok (.iload_n 1, 1) := by decide +kernel
theorem dL_isWave_38 : decode cL_isWave 38 = .ok (.if_icmp .ge 173, 3) := by decide +kernel
theorem dL_isWave_41 : decode cL_isWave 41 = .ok (.aload_n 0, 1) := by decide +kernel
theorem dL_isWave_42 : decode cL_isWave 42 = .ok (.iload 8, 2) := by decide +kernel
theorem dL_isWave_44 : decode cL_isWave 44 = .ok (.iconst 5, 1) := by decide +kernel
theorem dL_isWave_45 : decode cL_isWave 45 = .ok (.invokevirtual 132, 3) := by decide +kernel
theorem dL_isWave_48 : decode cL_isWave 48 = .ok (.iload_n 3, 1) := by decide +kernel
theorem dL_isWave_49 : decode cL_isWave 49 = .ok (.if_icmp .ne 7, 3) := by decide +kernel
theorem dL_isWave_52 : decode cL_isWave 52 = .ok (.iconst 1, 1) := by decide +kernel
theorem dL_isWave_53 : decode cL_isWave 53 = .ok (.goto 4, 3) := by decide +kernel
theorem dL_isWave_56 : decode cL_isWave 56 = .ok (.iconst 0, 1) := by decide +kernel
theorem dL_isWave_57 : decode cL_isWave 57 = .ok (.istore 9, 2) := by decide +kernel
theorem dL_isWave_59 : decode cL_isWave 59 = .ok (.aload_n 0, 1) := by decide +kernel
theorem dL_isWave_60 : decode cL_isWave 60 = .ok (.iload 8, 2) := by decide +kernel
theorem dL_isWave_62 : decode cL_isWave 62 = .ok (.bipush 6, 2) := by decide +kernel
theorem dL_isWave_64 : decode cL_isWave 64 = .ok (.invokevirtual 132, 3) := by decide +kernel
theorem dL_isWave_67 : decode cL_isWave 67 = .ok (.istore 10, 2) := by decide +kernel
theorem dL_isWave_69 : decode cL_isWave 69 = .ok (.iload 10, 2) := by decide +kernel
theorem dL_isWave_71 : decode cL_isWave 71 = .ok (.ifCond .le 19, 3) := by decide +kernel
theorem dL_isWave_74 : decode cL_isWave 74 = .ok (.iload_n 3, 1) := by decide +kernel
theorem dL_isWave_75 : decode cL_isWave 75 = .ok (.iload 10, 2) := by decide +kernel
theorem dL_isWave_77 : decode cL_isWave 77 = .ok (.aload_n 0, 1) := by decide +kernel
theorem dL_isWave_78 : decode cL_isWave 78 = .ok (.iconst 4, 1) := by decide +kernel
theorem dL_isWave_79 : decode cL_isWave 79 = .ok (.invokevirtual 82, 3) := by decide +kernel
theorem dL_isWave_82 : decode cL_isWave 82 = .ok (.iadd, 1) := by decide +kernel
theorem dL_isWave_83 : decode cL_isWave 83 = .ok (.if_icmp .ge 7, 3) := by decide +kernel
theorem dL_isWave_86 : decode cL_isWave 86 = .ok (.iconst 1, 1) := by decide +kernel
theorem dL_isWave_87 : decode cL_isWave 87 = .ok (.goto 4, 3) := by decide +kernel
theorem dL_isWave_90 : decode cL_isWave 90 = .ok (.iconst 0, 1) := by decide +kernel
theorem dL_isWave_91 : decode cL_isWave 91 = .ok (.istore 11, 2) := by decide +kernel
theorem dL_isWave_93 : decode cL_isWave 93 = .ok (.iload 4, 2) := by decide +kernel
theorem dL_isWave_95 : decode cL_isWave 95 = .ok (.iload 9, 2) := by decide +kernel
theorem dL_isWave_97 : decode cL_isWave 97 = .ok (.ifCond .eq 7, 3) := by decide +kernel
theorem dL_isWave_100 : decode cL_isWave 100 = .ok (.iconst 1, 1) := by decide +kernel
theorem dL_isWave_101 : decode cL_isWave 101 = .ok (.goto 4, 3) := by decide +kernel
theorem dL_isWave_104 : decode cL_isWave 104 = .ok (.iconst 0, 1) := by decide +kernel
theorem dL_isWave_105 : decode cL_isWave 105 = .ok (.iadd, 1) := by decide +kernel
theorem dL_isWave_106 : decode cL_isWave 106 = .ok (.istore 4, 2) := by decide +kernel
theorem dL_isWave_108 : decode cL_isWave 108 = .ok (.iload 5, 2) := by decide +kernel
theorem dL_isWave_110 : decode cL_isWave 110 = .ok (.ifCond .ne 13, 3) := by decide +kernel
theorem dL_isWave_113 : decode cL_isWave 113 = .ok (.iload 9, 2) := by decide +kernel
theorem dL_isWave_115 : decode cL_isWave 115 = .ok (.ifCond .eq 12, 3) := by decide +kernel
theorem dL_isWave_118 : decode cL_isWave 118 = .ok (.iload 11, 2) := by decide +kernel
theorem dL_isWave_120 : decode cL_isWave 120 = .ok (.ifCond .eq 7, 3) := by decide +kernel
theorem dL_isWave_123 : decode cL_isWave 123 = .ok (.iconst 1, 1) := by decide +kernel
theorem dL_isWave_124 : decode cL_isWave 124 = .ok (.goto 4, 3) := by decide +kernel
theorem dL_isWave_127 : decode cL_isWave 127 = .ok (.iconst 0, 1) := by decide +kernel
theorem dL_isWave_128 : decode cL_isWave 128 = .ok (.istore 5, 2) := by decide +kernel
theorem dL_isWave_130 : decode cL_isWave 130 = .ok (.aload 6, 2) := by decide +kernel
theorem dL_isWave_132 : decode cL_isWave 132 = .ok (.iload 8, 2) := by decide +kernel
theorem dL_isWave_134 : decode cL_isWave 134 = .ok (.iload 9, 2) := by decide +kernel
theorem dL_isWave_136 : decode cL_isWave 136 = .ok (.ifCond .eq 13, 3) := by decide +kernel
theorem dL_isWave_139 : decode cL_isWave 139 = .ok (.aload_n 0, 1) := by decide +kernel
theorem dL_isWave_140 : decode cL_isWave 140 = .ok (.iload 8, 2) := by decide +kernel
theorem dL_isWave_142 : decode cL_isWave 142 = .ok (.iconst 4, 1) := by decide +kernel
theorem dL_isWave_143 : decode cL_isWave 143 = .ok (.invokevirtual 132, 3) := by decide +kernel
theorem dL_isWave_146 : decode cL_isWave 146 = .ok (.goto 10, 3) := by decide +kernel
theorem dL_isWave_149 : decode cL_isWave 149 = .ok (.aload_n 0, 1) := by decide +kernel
theorem dL_isWave_150 : decode cL_isWave 150 = .ok (.iload 8, 2) := by decide +kernel
theorem dL_isWave_152 : decode cL_isWave 152 = .ok (.iconst 1, 1) := by decide +kernel
theorem dL_isWave_153 : decode cL_isWave 153 = .ok (.invokevirtual 132, 3) := by decide +kernel
theorem dL_isWave_156 : decode cL_isWave 156 = .ok (.iastore, 1) := by decide +kernel
theorem dL_isWave_157 : decode cL_isWave 157 = .ok (.aload 7, 2) := by decide +kernel
theorem dL_isWave_159 : decode cL_isWave 159 = .ok (.iload 8, 2) := by decide +kernel
theorem dL_isWave_161 : decode cL_isWave 161 = .ok (.iload 9, 2) := by decide +kernel
theorem dL_isWave_163 : decode cL_isWave 163 = .ok (.ifCond .eq 25, 3) := by decide +kernel
theorem dL_isWave_166 : decode cL_isWave 166 = .ok (.aload_n 0, 1) := by decide +kernel
theorem dL_isWave_167 : decode cL_isWave 167 = .ok (.iconst 4, 1) := by decide +kernel
theorem dL_isWave_168 : decode cL_isWave 168 = .ok (.invokevirtual 82, 3) := by decide +kernel
theorem dL_isWave_171 : decode cL_isWave 171 = .ok (.ifCond .le 13, 3) := by decide +kernel
theorem dL_isWave_174 : decode cL_isWave 174 = .ok (.aload_n 0, 1) := by decide +kernel
theorem dL_isWave_175 : decode cL_isWave 175 = .ok (.iload 8, 2) := by decide +kernel
theorem dL_isWave_177 : decode cL_isWave 177 = .ok (.iconst 1, 1) := by decide +kernel
theorem dL_isWave_178 : decode cL_isWave 178 = .ok (.invokevirtual 132, 3) := by decide +kernel
theorem dL_isWave_181 : decode cL_isWave 181 = .ok (.goto 23, 3) := by decide +kernel
theorem dL_isWave_184 : decode cL_isWave 184 = .ok (.iconst 0, 1) := by decide +kernel
theorem dL_isWave_185 : decode cL_isWave 185 = .ok (.goto 19, 3) := by decide +kernel
theorem dL_isWave_188 : decode cL_isWave 188 = .ok (.iload 11, 2) := by decide +kernel
theorem dL_isWave_190 : decode cL_isWave 190 = .ok (.ifCond .eq 13, 3) := by decide +kernel
theorem dL_isWave_193 : decode cL_isWave 193 = .ok (.aload_n 0, 1) := by decide +kernel
theorem dL_isWave_194 : decode cL_isWave 194 = .ok (.iload 8, 2) := by decide +kernel
theorem dL_isWave_196 : decode cL_isWave 196 = .ok (.iconst 2, 1) := by decide +kernel
theorem dL_isWave_197 : decode cL_isWave 197 = .ok (.invokevirtual 132, 3) := by decide +kernel
theorem dL_isWave_200 : decode cL_isWave 200 = .ok (.goto 4, 3) := by decide +kernel
theorem dL_isWave_203 : decode cL_isWave 203 = .ok (.iconst 0, 1) := by decide +kernel
theorem dL_isWave_204 : decode cL_isWave 204 = .ok (.iastore, 1) := by decide +kernel
theorem dL_isWave_205 : decode cL_isWave 205 = .ok (.iinc 8 1, 3) := by decide +kernel
theorem dL_isWave_208 : decode cL_isWave 208 = .ok (.goto (-173), 3) := by decide +kernel
theorem dL_isWave_211 : decode cL_isWave 211 = .ok (.iconst 0, 1) := by decide +kernel
theorem dL_isWave_212 : decode cL_isWave 212 = .ok (.istore 8, 2) := by decide +kernel
theorem dL_isWave_214 : decode cL_isWave 214 = .ok (.iconst 0, 1) := by decide +kernel
theorem dL_isWave_215 : decode cL_isWave 215 = .ok (.istore 9, 2) := by decide +kernel
theorem dL_isWave_217 : decode cL_isWave 217 = .ok (.iload 9, 2) := by decide +kernel
theorem dL_isWave_219 : decode cL_isWave 219 = .ok (.iload_n 1, 1) := by decide +kernel
theorem dL_isWave_220 : decode cL_isWave 220 = .ok (.if_icmp .ge 108, 3) := by decide +kernel
theorem dL_isWave_223 : decode cL_isWave 223 = .ok (.iconst 0, 1) := by decide +kernel
theorem dL_isWave_224 : decode cL_isWave 224 = .ok (.istore 10, 2) := by decide +kernel
theorem dL_isWave_226 : decode cL_isWave 226 = .ok (.iload 10, 2) := by decide +kernel
theorem dL_isWave_228 : decode cL_isWave 228 = .ok (.iload 9, 2) := by decide +kernel
theorem dL_isWave_230 : decode cL_isWave 230 = .ok (.if_icmp .ge 92, 3) := by decide +kernel
theorem dL_isWave_233 : decode cL_isWave 233 = .ok (.iload 8, 2) := by decide +kernel
theorem dL_isWave_235 : decode cL_isWave 235 = .ok (.ifCond .ne 74, 3) := by decide +kernel
theorem dL_isWave_238 : decode cL_isWave 238 = .ok (.aload_n 0, 1) := by decide +kernel
theorem dL_isWave_239 : decode cL_isWave 239 = .ok (.iload 9, 2) := by decide +kernel
theorem dL_isWave_241 : decode cL_isWave 241 = .ok (.iload 10, 2) := by decide +kernel
theorem dL_isWave_243 : decode cL_isWave 243 = .ok (.invokestatic 158, 3) := by decide +kernel
theorem dL_isWave_246 : decode cL_isWave 246 = .ok (.ifCond .eq 67, 3) := by decide +kernel
theorem dL_isWave_249 : decode cL_isWave 249 = .ok (.aload 6, 2) := by decide +kernel
theorem dL_isWave_251 : decode cL_isWave 251 = .ok (.iload 9, 2) := by decide +kernel
theorem dL_isWave_253 : decode cL_isWave 253 = .ok (.iaload, 1) := by decide +kernel
theorem dL_isWave_254 : decode cL_isWave 254 = .ok (.aload 6, 2) := by decide +kernel
theorem dL_isWave_256 : decode cL_isWave 256 = .ok (.iload 10, 2) := by decide +kernel
theorem dL_isWave_258 : decode cL_isWave 258 = .ok (.iaload, 1) := by decide +kernel
theorem dL_isWave_259 : decode cL_isWave 259 = .ok (.if_icmp .eq 50, 3) := by decide +kernel
theorem dL_isWave_262 : decode cL_isWave 262 = .ok (.aload 6, 2) := by decide +kernel
theorem dL_isWave_264 : decode cL_isWave 264 = .ok (.iload 9, 2) := by decide +kernel
theorem dL_isWave_266 : decode cL_isWave 266 = .ok (.iaload, 1) := by decide +kernel
theorem dL_isWave_267 : decode cL_isWave 267 = .ok (.aload 7, 2) := by decide +kernel
theorem dL_isWave_269 : decode cL_isWave 269 = .ok (.iload 10, 2) := by decide +kernel
theorem dL_isWave_271 : decode cL_isWave 271 = .ok (.iaload, 1) := by decide +kernel
theorem dL_isWave_272 : decode cL_isWave 272 = .ok (.if_icmp .eq 37, 3) := by decide +kernel
theorem dL_isWave_275 : decode cL_isWave 275 = .ok (.aload 7, 2) := by decide +kernel
theorem dL_isWave_277 : decode cL_isWave 277 = .ok (.iload 9, 2) := by decide +kernel
theorem dL_isWave_279 : decode cL_isWave 279 = .ok (.iaload, 1) := by decide +kernel
theorem dL_isWave_280 : decode cL_isWave 280 = .ok (.aload 6, 2) := by decide +kernel
theorem dL_isWave_282 : decode cL_isWave 282 = .ok (.iload 10, 2) := by decide +kernel
theorem dL_isWave_284 : decode cL_isWave 284 = .ok (.iaload, 1) := by decide +kernel
theorem dL_isWave_285 : decode cL_isWave 285 = .ok (.if_icmp .eq 24, 3) := by decide +kernel
theorem dL_isWave_288 : decode cL_isWave 288 = .ok (.aload 7, 2) := by decide +kernel
theorem dL_isWave_290 : decode cL_isWave 290 = .ok (.iload 9, 2) := by decide +kernel
theorem dL_isWave_292 : decode cL_isWave 292 = .ok (.iaload, 1) := by decide +kernel
theorem dL_isWave_293 : decode cL_isWave 293 = .ok (.ifCond .le 20, 3) := by decide +kernel
theorem dL_isWave_296 : decode cL_isWave 296 = .ok (.aload 7, 2) := by decide +kernel
theorem dL_isWave_298 : decode cL_isWave 298 = .ok (.iload 9, 2) := by decide +kernel
theorem dL_isWave_300 : decode cL_isWave 300 = .ok (.iaload, 1) := by decide +kernel
theorem dL_isWave_301 : decode cL_isWave 301 = .ok (.aload 7, 2) := by decide +kernel
theorem dL_isWave_303 : decode cL_isWave 303 = .ok (.iload 10, 2) := by decide +kernel
theorem dL_isWave_305 : decode cL_isWave 305 = .ok (.iaload, 1) := by decide +kernel
theorem dL_isWave_306 : decode cL_isWave 306 = .ok (.if_icmp .ne 7, 3) := by decide +kernel
theorem dL_isWave_309 : decode cL_isWave 309 = .ok (.iconst 1, 1) := by decide +kernel
theorem dL_isWave_310 : decode cL_isWave 310 = .ok (.goto 4, 3) := by decide +kernel
theorem dL_isWave_313 : decode cL_isWave 313 = .ok (.iconst 0, 1) := by decide +kernel
theorem dL_isWave_314 : decode cL_isWave 314 = .ok (.istore 8, 2) := by decide +kernel
theorem dL_isWave_316 : decode cL_isWave 316 = .ok (.iinc 10 1, 3) := by decide +kernel
theorem dL_isWave_319 : decode cL_isWave 319 = .ok (.goto (-93), 3) := by decide +kernel
theorem dL_isWave_322 : decode cL_isWave 322 = .ok (.iinc 9 1, 3) := by decide +kernel
theorem dL_isWave_325 : decode cL_isWave 325 = .ok (.goto (-108), 3) := by decide +kernel
theorem dL_isWave_328 : decode cL_isWave 328 = .ok (.iload_n 2, 1) := by decide +kernel
theorem dL_isWave_329 : decode cL_isWave 329 = .ok (.bipush 9, 2) := by decide +kernel
theorem dL_isWave_331 : decode cL_isWave 331 = .ok (.if_icmp .ne 8, 3) := by decide +kernel
theorem dL_isWave_334 : decode cL_isWave 334 = .ok (.bipush (-2), 2) := by decide +kernel
theorem dL_isWave_336 : decode cL_isWave 336 = .ok (.goto 24, 3) := by decide +kernel
theorem dL_isWave_339 : decode cL_isWave 339 = .ok (.iload 5, 2) := by decide +kernel
theorem dL_isWave_341 : decode cL_isWave 341 = .ok (.ifCond .eq 8, 3) := by decide +kernel
theorem dL_isWave_344 : decode cL_isWave 344 = .ok (.bipush (-3), 2) := by decide +kernel
theorem dL_isWave_346 : decode cL_isWave 346 = .ok (.goto 14, 3) := by decide +kernel
theorem dL_isWave_349 : decode cL_isWave 349 = .ok (.iload 8, 2) := by decide +kernel
theorem dL_isWave_351 : decode cL_isWave 351 = .ok (.ifCond .eq 8, 3) := by decide +kernel
theorem dL_isWave_354 : decode cL_isWave 354 = .ok (.bipush (-4), 2) := by decide +kernel
theorem dL_isWave_356 : decode cL_isWave 356 = .ok (.goto 4, 3) := by decide +kernel
theorem dL_isWave_359 : decode cL_isWave 359 = .ok (.iconst 0, 1) := by decide +kernel
theorem dL_isWave_360 : decode cL_isWave 360 = .ok (.istore 9, 2) := by decide +kernel
theorem dL_isWave_362 : decode cL_isWave 362 = .ok (.iload_n 2, 1) := by decide +kernel
theorem dL_isWave_363 : decode cL_isWave 363 = .ok (.bipush 9, 2) := by decide +kernel
theorem dL_isWave_365 : decode cL_isWave 365 = .ok (.if_icmp .ne 7, 3) := by decide +kernel
theorem dL_isWave_368 : decode cL_isWave 368 = .ok (.iconst 0, 1) := by decide +kernel
theorem dL_isWave_369 : decode cL_isWave 369 = .ok (.goto 8, 3) := by decide +kernel
theorem dL_isWave_372 : decode cL_isWave 372 = .ok (.aload_n 0, 1) := by decide +kernel
theorem dL_isWave_373 : decode cL_isWave 373 = .ok (.iload_n 3, 1) := by decide +kernel
theorem dL_isWave_374 : decode cL_isWave 374 = .ok (.invokevirtual 170, 3) := by decide +kernel
theorem dL_isWave_377 : decode cL_isWave 377 = .ok (.istore 10, 2) := by decide +kernel
theorem dL_isWave_379 : decode cL_isWave 379 = .ok (.aload_n 0, 1) := by decide +kernel
theorem dL_isWave_380 : decode cL_isWave 380 = .ok (.invokevirtual 173, 3) := by decide +kernel
theorem dL_isWave_383 : decode cL_isWave 383 = .ok (.iload 9, 2) := by decide +kernel
theorem dL_isWave_385 : decode cL_isWave 385 = .ok (.if_icmp .ne 20, 3) := by decide +kernel
theorem dL_isWave_388 : decode cL_isWave 388 = .ok (.iload 10, 2) := by decide +kernel
theorem dL_isWave_390 : decode cL_isWave 390 = .ok (.iload_n 2, 1) := by decide +kernel
theorem dL_isWave_391 : decode cL_isWave 391 = .ok (.bipush 9, 2) := by decide +kernel
theorem dL_isWave_393 : decode cL_isWave 393 = .ok (.if_icmp .ne 7, 3) := by decide +kernel
theorem dL_isWave_396 : decode cL_isWave 396 = .ok (.iconst 0, 1) := by decide +kernel
theorem dL_isWave_397 : decode cL_isWave 397 = .ok (.goto 5, 3) := by decide +kernel
theorem dL_isWave_400 : decode cL_isWave 400 = .ok (.iload 4, 2) := by decide +kernel
theorem dL_isWave_402 : decode cL_isWave 402 = .ok (.if_icmp .eq 5, 3) := by decide +kernel
theorem dL_isWave_405 : decode cL_isWave 405 = .ok (.iconst 0, 1) := by decide +kernel
theorem dL_isWave_406 : decode cL_isWave 406 = .ok (.ireturn, 1) := by decide +kernel
theorem dL_isWave_407 : decode cL_isWave 407 = .ok (.aload_n 0, 1) := by decide +kernel
theorem dL_isWave_408 : decode cL_isWave 408 = .ok (.invokevirtual 103, 3) := by decide +kernel
theorem dL_isWave_411 : decode cL_isWave 411 = .ok (.istore 11, 2) := by decide +kernel
theorem dL_isWave_413 : decode cL_isWave 413 = .ok (.iload 9, 2) := by decide +kernel
theorem dL_isWave_415 : decode cL_isWave 415 = .ok (.ifCond .eq 25, 3) := by decide +kernel
theorem dL_isWave_418 : decode cL_isWave 418 = .ok (.iload 11, 2) := by decide +kernel
theorem dL_isWave_420 : decode cL_isWave 420 = .ok (.iload 9, 2) := by decide +kernel
theorem dL_isWave_422 : decode cL_isWave 422 = .ok (.if_icmp .ne 16, 3) := by decide +kernel
theorem dL_isWave_425 : decode cL_isWave 425 = .ok (.aload_n 0, 1) := by decide +kernel
theorem dL_isWave_426 : decode cL_isWave 426 = .ok (.iconst 3, 1) := by decide +kernel
theorem dL_isWave_427 : decode cL_isWave 427 = .ok (.invokevirtual 82, 3) := by decide +kernel
theorem dL_isWave_430 : decode cL_isWave 430 = .ok (.iload_n 2, 1) := by decide +kernel
theorem dL_isWave_431 : decode cL_isWave 431 = .ok (.if_icmp .ne 7, 3) := by decide +kernel
theorem dL_isWave_434 : decode cL_isWave 434 = .ok (.iconst 1, 1) := by decide +kernel
theorem dL_isWave_435 : decode cL_isWave 435 = .ok (.goto 4, 3) := by decide +kernel
theorem dL_isWave_438 : decode cL_isWave 438 = .ok (.iconst 0, 1) := by decide +kernel
theorem dL_isWave_439 : decode cL_isWave 439 = .ok (.ireturn, 1) := by decide +kernel
theorem dL_isWave_440 : decode cL_isWave 440 = .ok (.iload 11, 2) := by decide +kernel
theorem dL_isWave_442 : decode cL_isWave 442 = .ok (.iload 4, 2) := by decide +kernel
theorem dL_isWave_444 : decode cL_isWave 444 = .ok (.if_icmp .ne 20, 3) := by decide +kernel
theorem dL_isWave_447 : decode cL_isWave 447 = .ok (.aload_n 0, 1) := by decide +kernel
theorem dL_isWave_448 : decode cL_isWave 448 = .ok (.iconst 3, 1) := by decide +kernel
theorem dL_isWave_449 : decode cL_isWave 449 = .ok (.invokevirtual 82, 3) := by decide +kernel
theorem dL_isWave_452 : decode cL_isWave 452 = .ok (.iload_n 3, 1) := by decide +kernel
theorem dL_isWave_453 : decode cL_isWave 453 = .ok (.if_icmp .ne 11, 3) := by decide +kernel
theorem dL_isWave_456 : decode cL_isWave 456 = .ok (.aload_n 0, 1) := by decide +kernel
theorem dL_isWave_457 : decode cL_isWave 457 = .ok (.iload_n 3, 1) := by decide +kernel
theorem dL_isWave_458 : decode cL_isWave 458 = .ok (.invokevirtual 170, 3) := by decide +kernel
theorem dL_isWave_461 : decode cL_isWave 461 = .ok (.ifCond .eq 5, 3) := by decide +kernel
theorem dL_isWave_464 : decode cL_isWave 464 = .ok (.iconst 0, 1) := by decide +kernel
theorem dL_isWave_465 : decode cL_isWave 465 = .ok (.ireturn, 1) := by decide +kernel
theorem dL_isWave_466 : decode cL_isWave 466 = .ok (.iconst 0, 1) := by decide +kernel
theorem dL_isWave_467 : decode cL_isWave 467 = .ok (.istore 12, 2) := by decide +kernel
theorem dL_isWave_469 : decode cL_isWave 469 = .ok (.iload 12, 2) := by decide +kernel
theorem dL_isWave_471 : decode cL_isWave 471 = .ok (.iload_n 1, 1) := by decide +kernel
theorem dL_isWave_472 : decode cL_isWave 472 = .ok (.if_icmp .ge 41, 3) := by decide +kernel
theorem dL_isWave_475 : decode cL_isWave 475 = .ok (.aload_n 0, 1) := by decide +kernel
theorem dL_isWave_476 : decode cL_isWave 476 = .ok (.iload 12, 2) := by decide +kernel
theorem dL_isWave_478 : decode cL_isWave 478 = .ok (.iconst 1, 1) := by decide +kernel
theorem dL_isWave_479 : decode cL_isWave 479 = .ok (.invokevirtual 132, 3) := by decide +kernel
theorem dL_isWave_482 : decode cL_isWave 482 = .ok (.aload 6, 2) := by decide +kernel
theorem dL_isWave_484 : decode cL_isWave 484 = .ok (.iload 12, 2) := by decide +kernel
theorem dL_isWave_486 : decode cL_isWave 486 = .ok (.iaload, 1) := by decide +kernel
theorem dL_isWave_487 : decode cL_isWave 487 = .ok (.if_icmp .ne 18, 3) := by decide +kernel
theorem dL_isWave_490 : decode cL_isWave 490 = .ok (.aload_n 0, 1) := by decide +kernel
theorem dL_isWave_491 : decode cL_isWave 491 = .ok (.iload 12, 2) := by decide +kernel
theorem dL_isWave_493 : decode cL_isWave 493 = .ok (.iconst 2, 1) := by decide +kernel
theorem dL_isWave_494 : decode cL_isWave 494 = .ok (.invokevirtual 132, 3) := by decide +kernel
theorem dL_isWave_497 : decode cL_isWave 497 = .ok (.aload 7, 2) := by decide +kernel
theorem dL_isWave_499 : decode cL_isWave 499 = .ok (.iload 12, 2) := by decide +kernel
theorem dL_isWave_501 : decode cL_isWave 501 = .ok (.iaload, 1) := by decide +kernel
theorem dL_isWave_502 : decode cL_isWave 502 = .ok (.if_icmp .eq 5, 3) := by decide +kernel
theorem dL_isWave_505 : decode cL_isWave 505 = .ok (.iconst 0, 1) := by decide +kernel
theorem dL_isWave_506 : decode cL_isWave 506 = .ok (.ireturn, 1) := by decide +kernel
theorem dL_isWave_507 : decode cL_isWave 507 = .ok (.iinc 12 1, 3) := by decide +kernel
theorem dL_isWave_510 : decode cL_isWave 510 = .ok (.goto (-41), 3) := by decide +kernel
theorem dL_isWave_513 : decode cL_isWave 513 = .ok (.aload_n 0, 1) := by decide +kernel
theorem dL_isWave_514 : decode cL_isWave 514 = .ok (.invokevirtual 176, 3) := by decide +kernel
theorem dL_isWave_517 : decode cL_isWave 517 = .ok (.ifCond .lt 16, 3) := by decide +kernel
theorem dL_isWave_520 : decode cL_isWave 520 = .ok (.aload_n 0, 1) := by decide +kernel
theorem dL_isWave_521 : decode cL_isWave 521 = .ok (.iconst 3, 1) := by decide +kernel
theorem dL_isWave_522 : decode cL_isWave 522 = .ok (.invokevirtual 82, 3) := by decide +kernel
theorem dL_isWave_525 : decode cL_isWave 525 = .ok (.iload_n 2, 1) := by decide +kernel
theorem dL_isWave_526 : decode cL_isWave 526 = .ok (.if_icmp .ne 7, 3) := by decide +kernel
theorem dL_isWave_529 : decode cL_isWave 529 = .ok (.iconst 1, 1) := by decide +kernel
theorem dL_isWave_530 : decode cL_isWave 530 = .ok (.goto 4, 3) := by decide +kernel
theorem dL_isWave_533 : decode cL_isWave 533 = .ok (.iconst 0, 1) := by decide +kernel
theorem dL_isWave_534 : decode cL_isWave 534 = .ok (.ireturn, 1) := by decide +kernel
end
section
/-! The light layer: one heap of whole numbers, places for addresses, and a row an instruction that moves between states of it. -/
abbrev Hp : Type := Nat → Nat → Int
abbrev EE : Type := (Nat → Nat) × va_G × (Nat → ClassId) × Nat
abbrev AV : Type := Int ⊕ Int ⊕ Nat ⊕ UInt32 ⊕ UInt64 ⊕ Nat
abbrev TM : Type := (Nat × Nat) ⊕ (Nat × List Nat)
abbrev aI (z : Int) : AV := .inl z
abbrev aL (z : Int) : AV := .inr (.inl z)
abbrev aR (p : Nat) : AV := .inr (.inr (.inl p))
abbrev aF (u : UInt32) : AV := .inr (.inr (.inr (.inl u)))
abbrev aD (u : UInt64) : AV := .inr (.inr (.inr (.inr (.inl u))))
abbrev aA (q : Nat) : AV := .inr (.inr (.inr (.inr (.inr q))))
def cv (E : EE) : AV → Value := fun v => match v with
  | .inl z => .int (Int32.ofInt z)
  | .inr (.inl z) => .long (Int64.ofInt z)
  | .inr (.inr (.inl p)) => .ref (E.1 p)
  | .inr (.inr (.inr (.inl u))) => .float u
  | .inr (.inr (.inr (.inr (.inl u)))) => .double u
  | .inr (.inr (.inr (.inr (.inr 0)))) => .null
  | .inr (.inr (.inr (.inr (.inr (q + 1))))) => .ref q
def zr (z : Int) : Prop := -2147483648 ≤ z ∧ z ≤ 2147483647
def zr6 (z : Int) : Prop := -9223372036854775808 ≤ z ∧ z ≤ 9223372036854775807
def zcan (v : AV) : Prop := match v with
  | .inl z => zr z
  | .inr (.inl z) => zr6 z
  | _ => True
def zwide (v : AV) : Bool := match v with
  | .inr (.inl _) => true
  | .inr (.inr (.inr (.inr (.inl _)))) => true
  | _ => false
theorem zcat (E : EE) (v : AV) : (cv E v).category = if zwide v then 2 else 1 := by
  rcases v with z | z | p | u | u | q
  · rfl
  · rfl
  · rfl
  · rfl
  · rfl
  · cases q <;> rfl
/-- what a place holds: arrays (kind, length): 0 int, 1 byte, 2 long, 3 the saved nets; objects (class, fields): 0 int, 1 long, 2 boolean, q + 3 the place q -/
def zT : List TM := [
  .inr (3, [0, 0, 0, 0, 0, 0, 0, 2, 4, 5, 6, 7, 8, 9, 10, 11, 12, 13, 14, 15]),
  .inl (2, 40),
  .inl (0, 40),
  .inl (0, 40),
  .inl (0, 40),
  .inl (0, 40),
  .inl (0, 40),
  .inl (0, 40),
  .inl (0, 400),
  .inl (0, 30),
  .inl (0, 30),
  .inl (0, 30),
  .inl (0, 30),
  .inr (3, [0, 0, 0, 0, 0, 0, 0, 2, 17, 18, 19, 20, 21, 22, 23, 24, 25, 26, 27, 28]),
  .inl (2, 40),
  .inl (0, 40),
  .inl (0, 40),
  .inl (0, 40),
  .inl (0, 40),
  .inl (0, 40),
  .inl (0, 40),
  .inl (0, 400),
  .inl (0, 30),
  .inl (0, 30),
  .inl (0, 30),
  .inl (0, 30),
  .inr (3, [0, 0, 0, 0, 0, 0, 0, 2, 30, 31, 32, 33, 34, 35, 36, 37, 38, 39, 40, 41]),
  .inl (2, 40),
  .inl (0, 40),
  .inl (0, 40),
  .inl (0, 40),
  .inl (0, 40),
  .inl (0, 40),
  .inl (0, 40),
  .inl (0, 400),
  .inl (0, 30),
  .inl (0, 30),
  .inl (0, 30),
  .inl (0, 30),
  .inr (3, [0, 0, 0, 0, 0, 0, 0, 2, 43, 44, 45, 46, 47, 48, 49, 50, 51, 52, 53, 54]),
  .inl (2, 40),
  .inl (0, 40),
  .inl (0, 40),
  .inl (0, 40),
  .inl (0, 40),
  .inl (0, 40),
  .inl (0, 40),
  .inl (0, 400),
  .inl (0, 30),
  .inl (0, 30),
  .inl (0, 30),
  .inl (0, 30),
  .inr (3, [0, 0, 0, 0, 0, 0, 0, 2, 56, 57, 58, 59, 60, 61, 62, 63, 64, 65, 66, 67]),
  .inl (2, 40),
  .inl (0, 40),
  .inl (0, 40),
  .inl (0, 40),
  .inl (0, 40),
  .inl (0, 40),
  .inl (0, 40),
  .inl (0, 400),
  .inl (0, 30),
  .inl (0, 30),
  .inl (0, 30),
  .inl (0, 30),
  .inr (3, [0, 0, 0, 0, 0, 0, 0, 2, 69, 70, 71, 72, 73, 74, 75, 76, 77, 78, 79, 80]),
  .inl (2, 40),
  .inl (0, 40),
  .inl (0, 40),
  .inl (0, 40),
  .inl (0, 40),
  .inl (0, 40),
  .inl (0, 40),
  .inl (0, 400),
  .inl (0, 30),
  .inl (0, 30),
  .inl (0, 30),
  .inl (0, 30),
  .inr (3, [0, 0, 0, 0, 0, 0, 0, 2, 82, 83, 84, 85, 86, 87, 88, 89, 90, 91, 92, 93]),
  .inl (2, 40),
  .inl (0, 40),
  .inl (0, 40),
  .inl (0, 40),
  .inl (0, 40),
  .inl (0, 40),
  .inl (0, 40),
  .inl (0, 400),
  .inl (0, 30),
  .inl (0, 30),
  .inl (0, 30),
  .inl (0, 30),
  .inr (3, [0, 0, 0, 0, 0, 0, 0, 2, 95, 96, 97, 98, 99, 100, 101, 102, 103, 104, 105, 106]),
  .inl (2, 40),
  .inl (0, 40),
  .inl (0, 40),
  .inl (0, 40),
  .inl (0, 40),
  .inl (0, 40),
  .inl (0, 40),
  .inl (0, 400),
  .inl (0, 30),
  .inl (0, 30),
  .inl (0, 30),
  .inl (0, 30),
  .inr (3, [0, 0, 0, 0, 0, 0, 0, 2, 108, 109, 110, 111, 112, 113, 114, 115, 116, 117, 118, 119]),
  .inl (2, 40),
  .inl (0, 40),
  .inl (0, 40),
  .inl (0, 40),
  .inl (0, 40),
  .inl (0, 40),
  .inl (0, 40),
  .inl (0, 400),
  .inl (0, 30),
  .inl (0, 30),
  .inl (0, 30),
  .inl (0, 30),
  .inr (3, [0, 0, 0, 0, 0, 0, 0, 2, 121, 122, 123, 124, 125, 126, 127, 128, 129, 130, 131, 132]),
  .inl (2, 40),
  .inl (0, 40),
  .inl (0, 40),
  .inl (0, 40),
  .inl (0, 40),
  .inl (0, 40),
  .inl (0, 40),
  .inl (0, 400),
  .inl (0, 30),
  .inl (0, 30),
  .inl (0, 30),
  .inl (0, 30),
  .inr (3, [0, 0, 0, 0, 0, 0, 0, 2, 134, 135, 136, 137, 138, 139, 140, 141, 142, 143, 144, 145]),
  .inl (2, 40),
  .inl (0, 40),
  .inl (0, 40),
  .inl (0, 40),
  .inl (0, 40),
  .inl (0, 40),
  .inl (0, 40),
  .inl (0, 400),
  .inl (0, 30),
  .inl (0, 30),
  .inl (0, 30),
  .inl (0, 30),
  .inr (3, [0, 0, 0, 0, 0, 0, 0, 2, 147, 148, 149, 150, 151, 152, 153, 154, 155, 156, 157, 158]),
  .inl (2, 40),
  .inl (0, 40),
  .inl (0, 40),
  .inl (0, 40),
  .inl (0, 40),
  .inl (0, 40),
  .inl (0, 40),
  .inl (0, 400),
  .inl (0, 30),
  .inl (0, 30),
  .inl (0, 30),
  .inl (0, 30),
  .inr (3, [0, 0, 0, 0, 0, 0, 0, 2, 160, 161, 162, 163, 164, 165, 166, 167, 168, 169, 170, 171]),
  .inl (2, 40),
  .inl (0, 40),
  .inl (0, 40),
  .inl (0, 40),
  .inl (0, 40),
  .inl (0, 40),
  .inl (0, 40),
  .inl (0, 400),
  .inl (0, 30),
  .inl (0, 30),
  .inl (0, 30),
  .inl (0, 30),
  .inr (7, [3, 16, 29, 2, 173, 175, 179, 181, 182, 186, 0]),
  .inr (0, [174, 0, 0]),
  .inl (3, 10),
  .inr (5, [176, 177, 178]),
  .inl (0, 251),
  .inl (0, 251),
  .inl (0, 251),
  .inr (6, [180, 0, 0, 0, 0, 0, 0]),
  .inl (1, 900),
  .inr (2, [179, 16, 0, 0]),
  .inr (4, [179, 183, 0, 2, 0, 184, 0, 185, 2]),
  .inl (0, 203),
  .inl (2, 203),
  .inl (0, 40),
  .inr (1, [187, 0]),
  .inl (1, 32),
  .inr (8, [189, 0]),
  .inl (0, 1000),
  .inl (4, 0),
  .inl (4, 0)]
def hu (h : Hp) (p k : Nat) (z : Int) : Hp := fun p' k' => if p' = p ∧ k' = k then z else h p' k'
theorem hu_same {h : Hp} {p k : Nat} {z : Int} : hu h p k z p k = z := by simp [hu]
theorem hu_ne {h : Hp} {p k p' k' : Nat} {z : Int} (hn : ¬ (p' = p ∧ k' = k)) : hu h p k z p' k' = h p' k' := by simp [hu, hn]
theorem hu_np {h : Hp} {p k p' k' : Nat} {z : Int} (hn : p' ≠ p) : hu h p k z p' k' = h p' k' := by simp [hu, hn]
def zf (E : EE) (h : Hp) (p k t : Nat) : Value := match t with
  | 0 => .int (Int32.ofInt (h p k))
  | 1 => .long (Int64.ofInt (h p k))
  | 2 => .int (Int32.ofInt (h p k))
  | q + 3 => .ref (E.1 q)
def zfs (E : EE) (h : Hp) (p : Nat) : Nat → List Nat → List Value
  | _, [] => []
  | k, t :: r => zf E h p k t :: zfs E h p (k + 1) r
theorem zfs_get (E : EE) (h : Hp) (p : Nat) : ∀ (l : List Nat) (k i : Nat), (zfs E h p k l)[i]? = (l[i]?).map (zf E h p (k + i)) := by
  intro l
  induction l with
  | nil => intro k i; simp [zfs]
  | cons t r ih =>
    intro k i
    cases i with
    | zero => simp [zfs]
    | succ i =>
      simp only [zfs, List.getElem?_cons_succ]
      rw [ih (k + 1) i]
      congr 2
      omega
theorem zfs_len (E : EE) (h : Hp) (p : Nat) : ∀ (l : List Nat) (k : Nat), (zfs E h p k l).length = l.length := by
  intro l
  induction l with
  | nil => intro k; rfl
  | cons t r ih => intro k; simp [zfs, ih]
theorem zf_congr {E : EE} {h h' : Hp} {p k : Nat} (e : h' p k = h p k) (t : Nat) : zf E h' p k t = zf E h p k t := by
  unfold zf
  rw [e]
theorem zfs_congr {E : EE} {h h' : Hp} {p : Nat} (l : List Nat) (k : Nat) (e : ∀ j, h' p j = h p j) : zfs E h' p k l = zfs E h p k l := by
  apply List.ext_getElem?
  intro i
  rw [zfs_get, zfs_get]
  cases l[i]? with
  | none => rfl
  | some t => simp only [Option.map_some]; rw [zf_congr (e _)]
theorem zfs_set {E : EE} {h : Hp} {p : Nat} (l : List Nat) {i t : Nat} {z : Int} (hi : l[i]? = some t) : (zfs E h p 0 l).set i (zf E (hu h p i z) p i t) = zfs E (hu h p i z) p 0 l := by
  apply List.ext_getElem?
  intro j
  rw [zfs_get, List.getElem?_set]
  have hlt : i < l.length := (List.getElem?_eq_some_iff.mp hi).1
  by_cases hj : i = j
  · subst hj
    rw [if_pos rfl, if_pos (by rw [zfs_len]; exact hlt), hi]
    simp
  · rw [if_neg hj, zfs_get]
    cases l[j]? with
    | none => rfl
    | some t' =>
      simp only [Option.map_some]
      rw [zf_congr (h := h) (hu_ne (by omega))]
def zcell (E : EE) (h : Hp) (p : Nat) (t : TM) : va_E := match t with
  | .inl (0, n) => .inl (E.2.2.1 0, n, .inl (fun j => Int32.ofInt (h p j)))
  | .inl (1, n) => .inl (E.2.2.1 1, n, .inl (fun j => Int32.ofInt (h p j)))
  | .inl (2, n) => .inl (E.2.2.1 2, n, .inr (.inl (fun j => Int64.ofInt (h p j))))
  | .inl (3, n) => .inl (E.2.2.1 3, n, .inr (.inr (.inr (.inr (fun j => some (E.1 (39 + 13 * j)))))))
  | .inl (_, _) => .inl (E.2.2.1 (h p 100001).toNat, (h p 100000).toNat, .inl (fun j => Int32.ofInt (h p j)))
  | .inr (ci, l) => .inr (ci, zfs E h p 0 l)
def zat (E : EE) (h : Hp) (p : Nat) : va_E := match zT[p]? with
  | some t => zcell E h p t
  | none => .inr (0, [])
theorem zat_of {E : EE} {h : Hp} {p : Nat} {t : TM} (ht : zT[p]? = some t) : zat E h p = zcell E h p t := by
  unfold zat
  rw [ht]
theorem zcell_congr {E : EE} {h h' : Hp} {p : Nat} (e : ∀ j, h' p j = h p j) (t : TM) : zcell E h' p t = zcell E h p t := by
  have e2 : h' p = h p := funext e
  unfold zcell
  rw [e2]
  split <;> first | rfl | rw [zfs_congr _ _ e]
theorem zat_congr {E : EE} {h h' : Hp} {p : Nat} (e : ∀ j, h' p j = h p j) : zat E h' p = zat E h p := by
  unfold zat
  split
  · exact zcell_congr e _
  · rfl
def zws (E : EE) (N : Nat) (h : Hp) : va_W := (List.range N).map fun p => (E.1 p, zat E h p)
theorem zws_get {E : EE} {N : Nat} {h : Hp} {p : Nat} (hp : p < N) : (zws E N h)[p]? = some (E.1 p, zat E h p) := by
  unfold zws
  rw [List.getElem?_map, List.getElem?_range hp]
  rfl
theorem zws_in {E : EE} {N : Nat} {h : Hp} {p : Nat} {q : Nat × va_E} (hq : (zws E N h)[p]? = some q) : p < N ∧ q = (E.1 p, zat E h p) := by
  unfold zws at hq
  rw [List.getElem?_map] at hq
  by_cases hp : p < N
  · rw [List.getElem?_range hp] at hq
    exact ⟨hp, (Option.some.inj hq).symm⟩
  · rw [List.getElem?_eq_none (by simp; omega)] at hq
    cases hq
theorem zws_set {E : EE} {N : Nat} {h h' : Hp} {p : Nat} {c : va_E} (hc : c = zat E h' p) (ho : ∀ p', p' ≠ p → ∀ j, h' p' j = h p' j) : (zws E N h).set p (E.1 p, c) = zws E N h' := by
  apply List.ext_getElem?
  intro j
  rw [List.getElem?_set]
  by_cases hj : p = j
  · subst hj
    rw [if_pos rfl]
    by_cases hN : p < N
    · rw [if_pos (by simp [zws]; exact hN), zws_get hN, hc]
    · rw [if_neg (by simp [zws]; omega)]
      unfold zws
      rw [List.getElem?_eq_none (by simp; omega)]
  · rw [if_neg hj]
    by_cases hN : j < N
    · rw [zws_get hN, zws_get hN, zat_congr (fun k => ho j (fun q => hj q.symm) k)]
    · unfold zws
      rw [List.getElem?_eq_none (by simp; omega), List.getElem?_eq_none (by simp; omega)]
/-- the kind of a cell's row: 0 int, 1 long, 2 boolean, 3 byte -/
def zty (p k : Nat) : Nat := match zT[p]? with
  | some (.inl (1, _)) => 3
  | some (.inl (2, _)) => 1
  | some (.inl _) => 0
  | some (.inr (_, l)) => match l[k]? with
    | some 1 => 1
    | some 2 => 2
    | _ => 0
  | none => 0
def zin (t : Nat) (z : Int) : Prop := match t with
  | 1 => zr6 z
  | 2 => z = 0 ∨ z = 1
  | 3 => -128 ≤ z ∧ z ≤ 127
  | _ => zr z
def zhok (h : Hp) : Prop := ∀ p k, zin (zty p k) (h p k)
theorem zhok_hu {h : Hp} {p k : Nat} {z : Int} (hh : zhok h) (hz : zin (zty p k) z) : zhok (hu h p k z) := by
  intro p' k'
  by_cases e : p' = p ∧ k' = k
  · obtain ⟨rfl, rfl⟩ := e
    rw [hu_same]
    exact hz
  · rw [hu_ne e]
    exact hh p' k'
def zge (E : EE) : Nat → Prop := fun q => E.2.2.2 ≤ q
def zAD (E : EE) (N : Nat) : Prop := (∀ i j, i < N → j < N → E.1 i = E.1 j → i = j) ∧ ∀ i, i < N → E.2.2.2 ≤ E.1 i
theorem zAD.D {E : EE} {N : Nat} (h : zAD E N) (hp : Hp) : va_D (zge E) (zws E N hp) := by
  refine ⟨fun i j p q hi hj e => ?_, fun k q hk => ?_⟩
  · obtain ⟨h1, rfl⟩ := zws_in hi
    obtain ⟨h2, rfl⟩ := zws_in hj
    exact h.1 i j h1 h2 e
  · obtain ⟨h1, rfl⟩ := zws_in hk
    exact h.2 k h1
def ztys (E : EE) : List (ClassId × FieldType) := [(E.2.2.1 0, .int), (E.2.2.1 1, .byte), (E.2.2.1 2, .long), (E.2.2.1 3, .object "NetMerge$Nets"), (E.2.2.1 4, .boolean)]
def zWd (E : EE) (N : Nat) (h : Hp) (H : Heap) : Prop := va_P E.2.1 vwCl (zws E N h) H
/-- the tables' words that every method may use -/
def zok (w : Cond) : Bool := (w.onTables && goodWord w) || (match w with
  | .fieldLinkNest _ _ _ _ _ _ => true
  | .methodLinkNest _ _ _ _ => true
  | .castable _ _ => true
  | .declares _ => true
  | _ => false)
def zKW (U : State) : Prop := ∀ w ∈ lw_tbl, zok w = true → va_Nw w U
theorem zok_tab {w : Cond} (h : zok w = true) : w.onTables = true := by
  unfold zok at h
  rw [Bool.or_eq_true] at h
  rcases h with h | h
  · rw [Bool.and_eq_true] at h
    exact h.1
  · split at h <;> first | rfl | cases h
theorem zKW_warm {s U : State} (hW : s.WarmedH U.vm) (h : zKW s) : zKW U := by
  intro w hw ho
  have h1 := h w hw ho
  unfold zok at ho
  rw [Bool.or_eq_true] at ho
  rcases ho with hg | hg
  · rw [Bool.and_eq_true] at hg
    exact word_at hW (good_of_word hg.2) h1
  · split at hg
    · exact va_Nw.warmF hW h1
    · exact va_Nw.warmM hW h1
    · exact va_Nw.warmC hW h1
    · exact va_Nw.warmD hW h1
    · cases hg
theorem zKW_use {U : State} {w : Cond} {A : Array Value} (h : zKW U) (hw : w ∈ lw_tbl) (ho : zok w = true) : w.before A U = true := va_Nw.use (zok_tab ho) (h w hw ho)
/-- the texts that the code names: class, entry, text, bytes -/
def zSD : List (String × Nat × String × List Int32) := [
  ("NetMerge$Loader", 63, "nets", [110, 101, 116, 115]),
  ("NetMerge$Loader", 76, "keep", [107, 101, 101, 112]),
  ("NetMerge$Loader", 90, "per", [112, 101, 114]),
  ("NetMerge$Loader", 94, "pool", [112, 111, 111, 108]),
  ("NetMerge$Loader", 37, "host", [104, 111, 115, 116]),
  ("NetMerge$Loader", 131, "pinned", [112, 105, 110, 110, 101, 100]),
  ("NetMerge$Loader", 46, "rule", [114, 117, 108, 101]),
  ("NetMerge$Loader", 139, "allow", [97, 108, 108, 111, 119]),
  ("NetMerge$Loader", 141, "deny", [100, 101, 110, 121]),
  ("NetMerge$Loader", 150, "any", [97, 110, 121]),
  ("NetMerge$Loader", 51, "move", [109, 111, 118, 101]),
  ("NetMergeLaw", 27, " ", [32]),
  ("NetMergeLaw", 44, "nets keep", [110, 101, 116, 115, 32, 107, 101, 101, 112]),
  ("NetMergeLaw", 50, " per", [32, 112, 101, 114]),
  ("NetMergeLaw", 52, " pool", [32, 112, 111, 111, 108]),
  ("NetMergeLaw", 54, ";", [59]),
  ("NetMergeLaw", 56, "host ", [104, 111, 115, 116, 32]),
  ("NetMergeLaw", 61, " pinned;", [32, 112, 105, 110, 110, 101, 100, 59]),
  ("NetMergeLaw", 63, "rule", [114, 117, 108, 101]),
  ("NetMergeLaw", 65, " allow", [32, 97, 108, 108, 111, 119]),
  ("NetMergeLaw", 67, " deny", [32, 100, 101, 110, 121]),
  ("NetMergeLaw", 69, " any", [32, 97, 110, 121])]
def zSN : Nat := 22
def zsd (w : Nat) : String × Nat × String × List Int32 := zSD.getD w ("", 0, "", [])
def zslen (w : Nat) : Int := (zsd w).2.2.2.length
def zsch (w : Nat) (i : Int) : Int := ((zsd w).2.2.2.getD i.toNat 0).toInt
def zST (E : EE) (U : State) (H : Heap) : Prop := va_Z "java/lang/String" "COMPACT_STRINGS" "Z" (.int 1) (zge E) U H ∧ va_Zq "jdk/internal/util/Preconditions" "SIOOBE_FORMATTER" "Ljava/util/function/BiFunction;" (zge E) U H ∧
  (∀ w, w < zSN → vk_R (zsd w).1 (zsd w).2.1 (zsd w).2.2.1 (E.1 (1000 + w)) U ∧ va_O "java/lang/String" (E.1 (1000 + w)) (zge E) U H ∧ va_OF "java/lang/String" "coder" "B" (.int 0) (E.1 (1000 + w)) (zge E) U H ∧
    va_OF "java/lang/String" "value" "[B" (.ref (E.1 (2000 + w))) (E.1 (1000 + w)) (zge E) U H ∧ va_T .byte (E.1 (2000 + w)) (zsd w).2.2.2.length (fun j => .int ((zsd w).2.2.2.getD j 0)) (zge E) U H) ∧
  (∃ xs : Nat → Int32, va_X (E.1 999) (E.1 998) xs U H) ∧ E.1 998 ≤ 260 ∧ E.1 999 < H.size ∧ E.1 999 < E.2.2.2 ∧ (∀ ty : FieldType, ty ∈ [FieldType.int, .boolean] → ∀ A : Array Value, (Cond.arrayClass ty).before A U = true)
theorem zST_same {E : EE} {u U : State} {H : Heap} (hvm : u.vm = U.vm) (h : zST E u H) : zST E U H := by
  have ha : u.vm.Alike U.vm := by rw [hvm]; exact Vm.Alike.refl _
  obtain ⟨h1, h2, h3, ⟨xs, h4⟩, h5, h6, h7, h8⟩ := h
  refine ⟨h1.moved ha, h2.moved ha, fun w hw => ?_, ⟨xs, h4.moved ha⟩, h5, h6, h7, fun ty ht A => word_at (by rw [← hvm]; exact State.WarmedH.refl u) (Or.inr ⟨_, rfl⟩) (h8 ty ht A)⟩
  obtain ⟨a1, a2, a3, a4, a5⟩ := h3 w hw
  exact ⟨vk_R.same hvm.symm a1, a2.moved ha, a3.moved ha, a4.moved ha, a5.moved ha⟩
theorem zST_warm {E : EE} {s U : State} {H H1 : Heap} (hW : s.WarmedH U.vm) (hz : H.size ≤ H1.size) (hq : ∀ a : Nat, a < H.size → ¬ zge E a → H1[a]? = H[a]?) (h : zST E s H) : zST E U H1 := by
  have ha := hW.alike
  obtain ⟨h1, h2, h3, ⟨xs, h4⟩, h5, h6, h7, h8⟩ := h
  refine ⟨(h1.moved ha).kept hq, (h2.moved ha).kept hq, fun w hw => ?_, ⟨xs, (h4.moved ha).kept (hq _ h6 (fun c => absurd h7 (Nat.not_lt.mpr c)))⟩, h5, Nat.lt_of_lt_of_le h6 hz, h7, fun ty ht A => word_at hW (Or.inr ⟨_, rfl⟩) (h8 ty ht A)⟩
  obtain ⟨a1, a2, a3, a4, a5⟩ := h3 w hw
  exact ⟨vk_R.warm hW a1, (a2.moved ha).kept hq, (a3.moved ha).kept hq, (a4.moved ha).kept hq, (a5.moved ha).kept hq⟩
/-- what is known of a state's tables, and of its cells that are older than the system -/
def zKK (l : Launch) (E : EE) (U : State) : Prop := va_K E.2.1 vwCl (ztys E) U ∧ zKW U ∧ l.stackTraces = false ∧ E.2.2.2 ≤ U.heap.size ∧
  vx_Zq Bundle.tN "UNASSIGNED_STACK" Bundle.steD (zge E) U U.heap ∧ vx_Zq Bundle.tN "SUPPRESSED_SENTINEL" Bundle.listD (zge E) U U.heap ∧ va_Nc "java/lang/IllegalArgumentException" "java/util/NoSuchElementException" U ∧ zST E U U.heap
def zQ (E : EE) (N : Nat) (Q : Option AV → Hp → Prop) : Array Value → State → Outcome → State → Prop := fun _ st oc t =>
  (∃ (r : Option AV) (h' : Hp), oc = .returned (r.map (cv E)) ∧ (∀ v, r = some v → zcan v) ∧ zhok h' ∧ Q r h' ∧ zWd E N h' t.heap) ∧ va_F (zge E) st t
def zen (k : Nat) : String := match k with
  | 0 => "java/lang/IllegalArgumentException"
  | _ => "java/util/NoSuchElementException"
def zX (E : EE) (N : Nat) (QX : Nat → Hp → Prop) : String → State → State → Prop := fun nm st t =>
  (∃ (k : Nat) (h' : Hp), nm = zen k ∧ zhok h' ∧ QX k h' ∧ zWd E N h' t.heap) ∧ va_F (zge E) st t
def zlo (d : Nat) : Nat := if d = 13 then 490 else 37 * d
theorem zlo_ge (d : Nat) : 37 * d ≤ zlo d := by
  unfold zlo
  split <;> omega
theorem zlo_up {d d' : Nat} (h : d' + 1 ≤ d) (h2 : d ≤ 13) : zlo d' + 37 ≤ zlo d := by
  have h3 := zlo_ge d
  have h4 : zlo d' = 37 * d' := if_neg (by omega)
  omega
def zrm (d mc ms : Nat) : Room := { frames := d, cells := mc, slots := ms, locals := zlo d }
def zPc (l : Launch) (E : EE) (N : Nat) (as : List AV) (h : Hp) : Array Value → State → Prop := va_Pc (as.map (cv E)) (fun U => zWd E N h U.heap ∧ zKK l E U)
/-- a method's contract: from these arguments and this heap it comes back with Q, or throws with QX; at N places -/
def zSpA (l : Launch) (y : MethodName) (cc : ByteArray) (mL : Nat) (ret : Option FieldType) (d mc ms : Nat) (as : List AV) (h : Hp) (Q : Option AV → Hp → Prop) (QX : Nat → Hp → Prop) (N : Nat) : Prop :=
  (∀ v ∈ as, zcan v) → zhok h → ∀ E : EE, zAD E N → vx_Met l y [Cond.code y cc mL ret] (zrm d mc ms) (zPc l E N as h) (zQ E N Q) (zX E N QX) mc ms (zge E)
def zSp (l : Launch) (y : MethodName) (cc : ByteArray) (mL : Nat) (ret : Option FieldType) (mn d mc ms : Nat) (as : List AV) (h : Hp) (Q : Option AV → Hp → Prop) (QX : Nat → Hp → Prop) : Prop :=
  ∀ N, mn ≤ N → zSpA l y cc mL ret d mc ms as h Q QX N

/-- places that may have been laid anew since the method's entry -/
def zEx (G : EE × Nat) (E : EE) (N : Nat) : Prop := G.2 ≤ N ∧ (∀ p, p < G.2 → E.1 p = G.1.1 p) ∧ (∀ p, p ≠ 187 → p ≠ 188 → E.1 p = G.1.1 p) ∧ E.2 = G.1.2
theorem zEx_rf {E : EE} {N : Nat} : zEx (E, N) E N := ⟨Nat.le_refl _, fun _ _ => rfl, fun _ _ _ => rfl, rfl⟩
theorem zT_ref : (zT.all fun t => match t with | .inr (_, l) => l.all (fun x => decide (x ≠ 190 ∧ x ≠ 191)) | .inl _ => true) = true := by decide +kernel
theorem zfs_E {E E0 : EE} (he : ∀ p, p ≠ 187 → p ≠ 188 → E.1 p = E0.1 p) {h : Hp} {p : Nat} : ∀ (l : List Nat) (k : Nat), (∀ x ∈ l, x ≠ 190 ∧ x ≠ 191) → zfs E h p k l = zfs E0 h p k l := by
  intro l
  induction l with
  | nil => intro k _; rfl
  | cons t r ih =>
    intro k hl
    show zf E h p k t :: zfs E h p (k + 1) r = zf E0 h p k t :: zfs E0 h p (k + 1) r
    rw [ih (k + 1) (fun x hx => hl x (List.mem_cons_of_mem _ hx))]
    congr 1
    have ht := hl t List.mem_cons_self
    rcases t with _ | _ | _ | q
    · rfl
    · rfl
    · rfl
    · show Value.ref (E.1 q) = Value.ref (E0.1 q)
      rw [he q (by omega) (by omega)]
theorem zat_E {E E0 : EE} (he : ∀ p, p ≠ 187 → p ≠ 188 → E.1 p = E0.1 p) (h2 : E.2 = E0.2) {h : Hp} {p : Nat} : zat E h p = zat E0 h p := by
  unfold zat
  cases ht : zT[p]? with
  | none => rfl
  | some t =>
    have hm := List.all_eq_true.mp zT_ref t (List.mem_of_getElem? ht)
    show zcell E h p t = zcell E0 h p t
    rcases t with ⟨c, n⟩ | ⟨ci, l⟩
    · unfold zcell
      rw [h2]
      split
      · rfl
      · rfl
      · rfl
      · exact congrArg (fun f => (Sum.inl (E0.2.2.1 3, _, .inr (.inr (.inr (.inr f)))) : va_E)) (funext fun j => by rw [he _ (by omega) (by omega)])
      · rfl
      · rename_i w; cases w
    · show Sum.inr (ci, zfs E h p 0 l) = Sum.inr (ci, zfs E0 h p 0 l)
      rw [zfs_E he l 0 (fun x hx => of_decide_eq_true (List.all_eq_true.mp hm x hx))]
theorem zWd_sub {E E0 : EE} {N N0 : Nat} {h : Hp} {H : Heap} (hN : N0 ≤ N) (hp : ∀ p, p < N0 → E.1 p = E0.1 p) (he : ∀ p, p ≠ 187 → p ≠ 188 → E.1 p = E0.1 p) (h2 : E.2 = E0.2) (hP : zWd E N h H) : zWd E0 N0 h H := by
  unfold zWd at hP ⊢
  rw [← h2]
  intro k q hk
  obtain ⟨h5, rfl⟩ := zws_in hk
  have := hP k (E.1 k, zat E h k) (zws_get (Nat.lt_of_lt_of_le h5 hN))
  rw [hp k h5, zat_E he h2] at this
  exact this
theorem zEx_wd {G : EE × Nat} {E : EE} {N : Nat} {h : Hp} {H : Heap} (hG : zEx G E N) (hP : zWd E N h H) : zWd G.1 G.2 h H := zWd_sub hG.1 hG.2.1 hG.2.2.1 hG.2.2.2 hP
theorem zEx_ge {G : EE × Nat} {E : EE} {N : Nat} (hG : zEx G E N) : zge G.1 = zge E := by
  unfold zge
  rw [hG.2.2.2]
/-! the state between two instructions -/
abbrev ZA : Type := Program × Launch × Env × State × MethodId × Array Value × List Frame × Method × Code
abbrev ZC : Type := ZA × (EE × Nat) × EE × Nat
/-- the method's own: the depth that it may use, its cells and slots, what it answers, what it throws -/
abbrev ZM : Type := Nat × Nat × Nat × (Option AV → Hp → Prop) × (Nat → Hp → Prop)
def zpr (E : EE) : Nat → List (Option AV) → List (Nat × Value)
  | _, [] => []
  | i, none :: r => zpr E (i + 1) r
  | i, some v :: r => (i, cv E v) :: zpr E (i + 1) r
theorem zpr_mem (E : EE) : ∀ (ls : List (Option AV)) (i : Nat) (q : Nat × Value), q ∈ zpr E i ls ↔ ∃ j v, q = (i + j, cv E v) ∧ ls[j]? = some (some v) := by
  intro ls
  induction ls with
  | nil => intro i q; simp [zpr]
  | cons o r ih =>
    intro i q
    have step : (q ∈ zpr E (i + 1) r) ↔ ∃ j v, q = (i + (j + 1), cv E v) ∧ (o :: r)[j + 1]? = some (some v) := by
      rw [ih (i + 1) q]
      constructor
      · rintro ⟨j, v, h1, h2⟩
        exact ⟨j, v, by rw [h1]; congr 1; omega, by rw [List.getElem?_cons_succ]; exact h2⟩
      · rintro ⟨j, v, h1, h2⟩
        exact ⟨j, v, by rw [h1]; congr 1; omega, by rw [List.getElem?_cons_succ] at h2; exact h2⟩
    cases o with
    | none =>
      simp only [zpr]
      rw [step]
      constructor
      · rintro ⟨j, v, h1, h2⟩
        exact ⟨j + 1, v, h1, h2⟩
      · rintro ⟨j, v, h1, h2⟩
        cases j with
        | zero => rw [List.getElem?_cons_zero] at h2; cases h2
        | succ j => exact ⟨j, v, h1, h2⟩
    | some w =>
      simp only [zpr, List.mem_cons]
      rw [step]
      constructor
      · rintro (h | ⟨j, v, h1, h2⟩)
        · exact ⟨0, w, h, rfl⟩
        · exact ⟨j + 1, v, h1, h2⟩
      · rintro ⟨j, v, h1, h2⟩
        cases j with
        | zero =>
          rw [List.getElem?_cons_zero] at h2
          cases h2
          exact Or.inl h1
        | succ j => exact Or.inr ⟨j, v, h1, h2⟩
def zL (E : EE) (la : Array Slot) (nL : Nat) (ls : List (Option AV)) : Prop := lv_has la nL (zpr E 0 ls)
theorem zL_get {E : EE} {la : Array Slot} {nL i : Nat} {ls : List (Option AV)} {v : AV} (h : zL E la nL ls) (hi : ls[i]? = some (some v)) : la[i]? = some (.val (cv E v)) := by
  refine h.2.2 (i, cv E v) ?_
  rw [zpr_mem]
  exact ⟨i, v, by rw [Nat.zero_add], hi⟩
theorem zL_lt {E : EE} {la : Array Slot} {nL i : Nat} {ls : List (Option AV)} {v : AV} (h : zL E la nL ls) (hi : ls[i]? = some (some v)) : i < nL := by
  have h1 := (Array.getElem?_eq_some_iff.mp (zL_get h hi)).1
  rw [h.1] at h1
  exact h1
theorem lv_less {la : Array Slot} {nL : Nat} {l l' : List (Nat × Value)} (h : lv_has la nL l) (hs : ∀ q ∈ l', q ∈ l) : lv_has la nL l' := ⟨h.1, h.2.1, fun q hq => h.2.2 q (hs q hq)⟩
/-- a store at i doesn't cut a wide value in two -/
def zcut (ls : List (Option AV)) (i : Nat) : Bool := match i with
  | 0 => true
  | j + 1 => match ls[j]? with
    | some (some v) => !zwide v
    | _ => true
theorem zL_set1 {E : EE} {la : Array Slot} {nL i : Nat} {ls : List (Option AV)} {v : AV} (h : lv_has la nL ((i, cv E v) :: (zpr E 0 ls).filter (fun q => !(q.1 == i) && !(q.1 + 1 == i && q.2.category == 2)))) (ho : zcut ls i = true) : zL E la nL (ls.set i (some v)) := by
  refine lv_less h fun q hq => ?_
  rw [zpr_mem] at hq
  obtain ⟨j, w, rfl, h2⟩ := hq
  rw [Nat.zero_add]
  rw [List.getElem?_set] at h2
  by_cases hj : i = j
  · subst hj
    rw [if_pos rfl] at h2
    split at h2
    · cases h2
      exact List.mem_cons_self
    · cases h2
  · rw [if_neg hj] at h2
    refine List.mem_cons_of_mem _ (List.mem_filter.mpr ⟨(zpr_mem E ls 0 _).mpr ⟨j, w, by rw [Nat.zero_add], h2⟩, ?_⟩)
    simp only [Bool.and_eq_true, Bool.not_eq_true', beq_eq_false_iff_ne, ne_eq, Bool.and_eq_false_iff]
    refine ⟨fun q => hj q.symm, ?_⟩
    by_cases hc : j + 1 = i
    · right
      subst hc
      unfold zcut at ho
      simp only [h2, Bool.not_eq_true'] at ho
      rw [zcat, ho]
      decide
    · exact Or.inl hc
theorem zL_set2 {E : EE} {la : Array Slot} {nL i : Nat} {ls : List (Option AV)} {v : AV} (h : lv_has la nL ((i, cv E v) :: (zpr E 0 ls).filter (fun q => !(q.1 == i) && (!(q.1 == i + 1) && !(q.1 + 1 == i && q.2.category == 2))))) (ho : zcut ls i = true) : zL E la nL ((ls.set i (some v)).set (i + 1) none) := by
  refine lv_less h fun q hq => ?_
  rw [zpr_mem] at hq
  obtain ⟨j, w, rfl, h2⟩ := hq
  rw [Nat.zero_add]
  rw [List.getElem?_set] at h2
  by_cases hj1 : i + 1 = j
  · subst hj1
    rw [if_pos rfl] at h2
    split at h2 <;> cases h2
  · rw [if_neg hj1, List.getElem?_set] at h2
    by_cases hj : i = j
    · subst hj
      rw [if_pos rfl] at h2
      split at h2
      · cases h2
        exact List.mem_cons_self
      · cases h2
    · rw [if_neg hj] at h2
      refine List.mem_cons_of_mem _ (List.mem_filter.mpr ⟨(zpr_mem E ls 0 _).mpr ⟨j, w, by rw [Nat.zero_add], h2⟩, ?_⟩)
      simp only [Bool.and_eq_true, Bool.not_eq_true', beq_eq_false_iff_ne, ne_eq, Bool.and_eq_false_iff]
      refine ⟨fun q => hj q.symm, fun q => hj1 q.symm, ?_⟩
      by_cases hc : j + 1 = i
      · right
        subst hc
        unfold zcut at ho
        simp only [h2, Bool.not_eq_true'] at ho
        rw [zcat, ho]
        decide
      · exact Or.inl hc
theorem zset_can {ls : List (Option AV)} {i : Nat} {v : AV} (h : ∀ w, some w ∈ ls → zcan w) (hv : zcan v) : ∀ w, some w ∈ ls.set i (some v) → zcan w := by
  intro w hw
  rcases List.mem_or_eq_of_mem_set hw with h1 | h1
  · exact h w h1
  · cases h1
    exact hv
theorem zset_canN {ls : List (Option AV)} {i : Nat} (h : ∀ w, some w ∈ ls → zcan w) : ∀ w, some w ∈ ls.set i none → zcan w := by
  intro w hw
  rcases List.mem_or_eq_of_mem_set hw with h1 | h1
  · exact h w h1
  · cases h1
def zV (a : ZC) (M : ZM) (k n pc : Nat) (ls : List (Option AV)) (st : List AV) (h : Hp) : Prop := match a with
  | ((p, l, e, s, m, args, below, meth, c), G, E, N) =>
    (∀ v ∈ st, zcan v) → (∀ v, some v ∈ ls → zcan v) → zhok h → ∀ (H : Heap) (locs : List Loc) (la : Array Slot), zWd E N h H → va_S (zge E) s.heap H locs → zL E la c.maxLocals ls →
      W p l e (zrm M.1 M.2.1 M.2.2.1) s m args below meth c H locs k n (vx_MQ below (zQ G.1 G.2 M.2.2.2.1) (zX G.1 G.2 M.2.2.2.2) args s M.2.1 M.2.2.1 (zge E)) (F0 m pc la (st.map (cv E)))
/-- an exception of the kind x is on its way at pc -/
def zU (a : ZC) (M : ZM) (k n pc : Nat) (ls : List (Option AV)) (x : Nat) (h : Hp) : Prop := match a with
  | ((p, l, e, s, m, args, below, meth, c), G, E, N) =>
    (∀ v, some v ∈ ls → zcan v) → zhok h → ∀ (H : Heap) (locs : List Loc) (la : Array Slot) (q : Addr) (ce : Cell) (rest : List Value), zWd E N h H → va_S (zge E) s.heap H locs → zL E la c.maxLocals ls → H[q]? = some ce → ce.vm = .none → s.vm.findClass (zen x) = some ce.cls →
      vx_W p l e (zrm M.1 M.2.1 M.2.2.1) s m args below meth c H locs k n (vx_MQ below (zQ G.1 G.2 M.2.2.2.1) (zX G.1 G.2 M.2.2.2.2) args s M.2.1 M.2.2.1 (zge E)) (F0 m pc la rest) q
def zOk (l0 : Launch) (a : ZC) (cc : ByteArray) (own : String) (mL : Nat) (ret : Option FieldType) (mn : Nat) (tb : List (Nat × Nat × Nat × Nat)) : Prop := match a with
  | ((p, l, e, s, m, args, below, meth, c), G, E, N) =>
    p.tables.exec = Jvm.exec ∧ c.code = cc ∧ c.maxLocals = mL ∧ meth.sig.returnType = ret ∧ s.vm.findClass own = some m.cls ∧ meth.locks = false ∧ zKK l E s ∧ zAD E N ∧ mn ≤ N ∧ c.exceptionTable.toList = tableOf tb ∧ l = l0 ∧ zEx G E N
end
section
/-! a row an instruction, of the light layer -/
theorem zI_toInt {z : Int} (h : zr z) : (Int32.ofInt z).toInt = z := by
  obtain ⟨h1, h2⟩ := h
  rw [Int32.toInt_ofInt]
  exact Int.bmod_eq_of_le (by show (-((4294967296 : Nat) : Int) / 2 ≤ z); omega) (by show (z < (((4294967296 : Nat) : Int) + 1) / 2); omega)
theorem zL_toInt {z : Int} (h : zr6 z) : (Int64.ofInt z).toInt = z := by
  obtain ⟨h1, h2⟩ := h
  rw [Int64.toInt_ofInt]
  exact Int.bmod_eq_of_le (by show (-((18446744073709551616 : Nat) : Int) / 2 ≤ z); omega) (by show (z < (((18446744073709551616 : Nat) : Int) + 1) / 2); omega)
theorem zI_eq {x y : Int} (hx : zr x) (hy : zr y) : Int32.ofInt x = Int32.ofInt y ↔ x = y := by
  rw [← Int32.toInt_inj, zI_toInt hx, zI_toInt hy]
theorem zI_lt {x y : Int} (hx : zr x) (hy : zr y) : Int32.ofInt x < Int32.ofInt y ↔ x < y := by
  rw [Int32.lt_iff_toInt_lt, zI_toInt hx, zI_toInt hy]
theorem zI_le {x y : Int} (hx : zr x) (hy : zr y) : Int32.ofInt x ≤ Int32.ofInt y ↔ x ≤ y := by
  rw [Int32.le_iff_toInt_le, zI_toInt hx, zI_toInt hy]
theorem zI_in {x : Int} {n : Nat} (hx : zr x) (h : 0 ≤ x ∧ x < n) : vp_in (Int32.ofInt x) n := by
  rw [vp_in_iff, zI_toInt hx]
  exact h
theorem zI_cl {x : Int} (hx : zr x) (h0 : 0 ≤ x) : (Int32.ofInt x).toNatClampNeg = x.toNat := by
  rw [Int32.toNatClampNeg, zI_toInt hx]
theorem zr0 : zr 0 := ⟨by omega, by omega⟩
theorem zr_I (x : Int32) : zr x.toInt := ⟨by have := Int32.le_toInt x; omega, by have := Int32.toInt_lt x; omega⟩
theorem zr_L (x : Int64) : zr6 x.toInt := ⟨by have := Int64.le_toInt x; omega, by have := Int64.toInt_lt x; omega⟩
def zand (x y : Int) : Int := (Int32.ofInt x &&& Int32.ofInt y).toInt
def zishr (x y : Int) : Int := (Int32.ofInt x >>> (Int32.ofInt y &&& 31)).toInt
def ziushr (x y : Int) : Int := ((Int32.ofInt x).toUInt32 >>> ((Int32.ofInt y).toUInt32 &&& Int32.toUInt32 31)).toInt32.toInt
def zi2b (x : Int) : Int := (Int32.ofInt x).toInt8.toInt32.toInt
def zl2i (x : Int) : Int := (Int64.ofInt x).toInt32.toInt
def zland (x y : Int) : Int := (Int64.ofInt x &&& Int64.ofInt y).toInt
def zlor (x y : Int) : Int := (Int64.ofInt x ||| Int64.ofInt y).toInt
def zlxor (x y : Int) : Int := (Int64.ofInt x ^^^ Int64.ofInt y).toInt
def zlshl (x y : Int) : Int := (Int64.ofInt x <<< ((Int32.ofInt y).toInt64 &&& 63)).toInt
def zlushr (x y : Int) : Int := ((Int64.ofInt x).toUInt64 >>> ((Int32.ofInt y).toInt64.toUInt64 &&& Int64.toUInt64 63)).toInt64.toInt
def zlcmp (x y : Int) : Int := if y < x then 1 else if x = y then 0 else -1
theorem zlcmp_r (x y : Int) : zr (zlcmp x y) := by
  unfold zlcmp zr
  by_cases q : y < x
  · rw [if_pos q]; omega
  · rw [if_neg q]
    by_cases q2 : x = y
    · rw [if_pos q2]; omega
    · rw [if_neg q2]; omega
section ZR
variable {l0 : Launch} {a : ZC} {M : ZM} {cc : ByteArray} {own : String} {mL : Nat} {ret : Option FieldType} {mn : Nat} {tb : List (Nat × Nat × Nat × Nat)} {k n pc : Nat} {ls : List (Option AV)} {st : List AV} {h : Hp}
theorem zV_iconst (O : zOk l0 a cc own mL ret mn tb) {z : Int} (hz : zr z)
    (hd : decode cc pc = .ok (.iconst z, 1)) (kk : zV a M k n (pc + 1) ls (aI z :: st) h) : zV a M k n pc ls st h := by
  obtain ⟨⟨p, l, e, s, m, args, below, meth, c⟩, G, E, N⟩ := a
  obtain ⟨hx, hb, hml, hr, ho, hlk, hK, hAD, hN, hex, hl0, hG⟩ := O
  intro cs cl hh H locs la hP hS hL
  exact lv_iconst hx hb hd rfl (kk (fun v hv => (List.mem_cons.mp hv).elim (fun e => e ▸ hz) (cs v)) cl hh H locs la hP hS hL)

theorem zV_bipush (O : zOk l0 a cc own mL ret mn tb) {z : Int} (hz : zr z) (he : (Int8.ofInt z).toInt32 = Int32.ofInt z)
    (hd : decode cc pc = .ok (.bipush z, 2)) (kk : zV a M k n (pc + 2) ls (aI z :: st) h) : zV a M k n pc ls st h := by
  obtain ⟨⟨p, l, e, s, m, args, below, meth, c⟩, G, E, N⟩ := a
  obtain ⟨hx, hb, hml, hr, ho, hlk, hK, hAD, hN, hex, hl0, hG⟩ := O
  intro cs cl hh H locs la hP hS hL
  exact lv_bipush hx hb hd he (kk (fun v hv => (List.mem_cons.mp hv).elim (fun e => e ▸ hz) (cs v)) cl hh H locs la hP hS hL)

theorem zV_sipush (O : zOk l0 a cc own mL ret mn tb) {z : Int} (hz : zr z) (he : (Int16.ofInt z).toInt32 = Int32.ofInt z)
    (hd : decode cc pc = .ok (.sipush z, 3)) (kk : zV a M k n (pc + 3) ls (aI z :: st) h) : zV a M k n pc ls st h := by
  obtain ⟨⟨p, l, e, s, m, args, below, meth, c⟩, G, E, N⟩ := a
  obtain ⟨hx, hb, hml, hr, ho, hlk, hK, hAD, hN, hex, hl0, hG⟩ := O
  intro cs cl hh H locs la hP hS hL
  exact lv_sipush hx hb hd he (kk (fun v hv => (List.mem_cons.mp hv).elim (fun e => e ▸ hz) (cs v)) cl hh H locs la hP hS hL)

theorem zV_lconst (O : zOk l0 a cc own mL ret mn tb) {j : Fin 2} {z : Int} (hz : zr6 z) (he : Int64.ofNat (j : Nat) = Int64.ofInt z)
    (hd : decode cc pc = .ok (.lconst j, 1)) (kk : zV a M k n (pc + 1) ls (aL z :: st) h) : zV a M k n pc ls st h := by
  obtain ⟨⟨p, l, e, s, m, args, below, meth, c⟩, G, E, N⟩ := a
  obtain ⟨hx, hb, hml, hr, ho, hlk, hK, hAD, hN, hex, hl0, hG⟩ := O
  intro cs cl hh H locs la hP hS hL
  exact lv_lconst hx hb hd he (kk (fun v hv => (List.mem_cons.mp hv).elim (fun e => e ▸ hz) (cs v)) cl hh H locs la hP hS hL)

theorem zV_ldc (O : zOk l0 a cc own mL ret mn tb) {i : Nat} {z : Int} (hz : zr z) (hw : Cond.constant own i (Int32.ofInt z) ∈ lw_tbl) (hg : zok (Cond.constant own i (Int32.ofInt z)) = true)
    (hd : decode cc pc = .ok (.ldc i, 2)) (kk : zV a M k n (pc + 2) ls (aI z :: st) h) : zV a M k n pc ls st h := by
  obtain ⟨⟨p, l, e, s, m, args, below, meth, c⟩, G, E, N⟩ := a
  obtain ⟨hx, hb, hml, hr, ho, hlk, hK, hAD, hN, hex, hl0, hG⟩ := O
  intro cs cl hh H locs la hP hS hL
  exact lv_ldc hx hb ho (zKW_use hK.2.1 hw hg) hd (kk (fun v hv => (List.mem_cons.mp hv).elim (fun e => e ▸ hz) (cs v)) cl hh H locs la hP hS hL)

theorem zV_ldcw (O : zOk l0 a cc own mL ret mn tb) {i : Nat} {z : Int} (hz : zr z) (hw : Cond.constant own i (Int32.ofInt z) ∈ lw_tbl) (hg : zok (Cond.constant own i (Int32.ofInt z)) = true)
    (hd : decode cc pc = .ok (.ldc_w i, 3)) (kk : zV a M k n (pc + 3) ls (aI z :: st) h) : zV a M k n pc ls st h := by
  obtain ⟨⟨p, l, e, s, m, args, below, meth, c⟩, G, E, N⟩ := a
  obtain ⟨hx, hb, hml, hr, ho, hlk, hK, hAD, hN, hex, hl0, hG⟩ := O
  intro cs cl hh H locs la hP hS hL
  exact lv_ldcw hx hb ho (zKW_use hK.2.1 hw hg) hd (kk (fun v hv => (List.mem_cons.mp hv).elim (fun e => e ▸ hz) (cs v)) cl hh H locs la hP hS hL)

theorem zV_ldc2 (O : zOk l0 a cc own mL ret mn tb) {i : Nat} {z : Int} (hz : zr6 z) (hw : Cond.constantLong own i (Int64.ofInt z) ∈ lw_tbl) (hg : zok (Cond.constantLong own i (Int64.ofInt z)) = true)
    (hd : decode cc pc = .ok (.ldc2_w i, 3)) (kk : zV a M k n (pc + 3) ls (aL z :: st) h) : zV a M k n pc ls st h := by
  obtain ⟨⟨p, l, e, s, m, args, below, meth, c⟩, G, E, N⟩ := a
  obtain ⟨hx, hb, hml, hr, ho, hlk, hK, hAD, hN, hex, hl0, hG⟩ := O
  intro cs cl hh H locs la hP hS hL
  exact lv_ldc2 hx hb ho (zKW_use hK.2.1 hw hg) hd (kk (fun v hv => (List.mem_cons.mp hv).elim (fun e => e ▸ hz) (cs v)) cl hh H locs la hP hS hL)

theorem zV_fconst0 (O : zOk l0 a cc own mL ret mn tb) 
    (hd : decode cc pc = .ok (.fconst 0, 1)) (kk : zV a M k n (pc + 1) ls (aF FP.fconst0 :: st) h) : zV a M k n pc ls st h := by
  obtain ⟨⟨p, l, e, s, m, args, below, meth, c⟩, G, E, N⟩ := a
  obtain ⟨hx, hb, hml, hr, ho, hlk, hK, hAD, hN, hex, hl0, hG⟩ := O
  intro cs cl hh H locs la hP hS hL
  exact lv_fconst0 hx hb hd (kk (fun v hv => (List.mem_cons.mp hv).elim (fun e => e ▸ trivial) (cs v)) cl hh H locs la hP hS hL)

theorem zV_dconst0 (O : zOk l0 a cc own mL ret mn tb) 
    (hd : decode cc pc = .ok (.dconst 0, 1)) (kk : zV a M k n (pc + 1) ls (aD FP.dconst0 :: st) h) : zV a M k n pc ls st h := by
  obtain ⟨⟨p, l, e, s, m, args, below, meth, c⟩, G, E, N⟩ := a
  obtain ⟨hx, hb, hml, hr, ho, hlk, hK, hAD, hN, hex, hl0, hG⟩ := O
  intro cs cl hh H locs la hP hS hL
  exact lv_dconst0 hx hb hd (kk (fun v hv => (List.mem_cons.mp hv).elim (fun e => e ▸ trivial) (cs v)) cl hh H locs la hP hS hL)

theorem zV_iload_n (O : zOk l0 a cc own mL ret mn tb) {j : Fin 4} {i : Nat} {z : Int}
    (hd : decode cc pc = .ok (.iload_n j, 1)) (hi : (j : Nat) = i) (hl : ls[i]? = some (some (aI z))) (kk : zV a M k n (pc + 1) ls (aI z :: st) h) : zV a M k n pc ls st h := by
  obtain ⟨⟨p, l, e, s, m, args, below, meth, c⟩, G, E, N⟩ := a
  obtain ⟨hx, hb, hml, hr, ho, hlk, hK, hAD, hN, hex, hl0, hG⟩ := O
  intro cs cl hh H locs la hP hS hL
  exact lv_iload_n hx hb hd hi (zL_get hL hl) (kk (fun v hv => (List.mem_cons.mp hv).elim (fun e => e ▸ cl _ (List.mem_of_getElem? hl)) (cs v)) cl hh H locs la hP hS hL)

theorem zV_iload (O : zOk l0 a cc own mL ret mn tb) {i : Nat} {z : Int}
    (hd : decode cc pc = .ok (.iload i, 2)) (hl : ls[i]? = some (some (aI z))) (kk : zV a M k n (pc + 2) ls (aI z :: st) h) : zV a M k n pc ls st h := by
  obtain ⟨⟨p, l, e, s, m, args, below, meth, c⟩, G, E, N⟩ := a
  obtain ⟨hx, hb, hml, hr, ho, hlk, hK, hAD, hN, hex, hl0, hG⟩ := O
  intro cs cl hh H locs la hP hS hL
  exact lv_iload hx hb hd (zL_get hL hl) (kk (fun v hv => (List.mem_cons.mp hv).elim (fun e => e ▸ cl _ (List.mem_of_getElem? hl)) (cs v)) cl hh H locs la hP hS hL)

theorem zV_lload_n (O : zOk l0 a cc own mL ret mn tb) {j : Fin 4} {i : Nat} {z : Int}
    (hd : decode cc pc = .ok (.lload_n j, 1)) (hi : (j : Nat) = i) (hl : ls[i]? = some (some (aL z))) (kk : zV a M k n (pc + 1) ls (aL z :: st) h) : zV a M k n pc ls st h := by
  obtain ⟨⟨p, l, e, s, m, args, below, meth, c⟩, G, E, N⟩ := a
  obtain ⟨hx, hb, hml, hr, ho, hlk, hK, hAD, hN, hex, hl0, hG⟩ := O
  intro cs cl hh H locs la hP hS hL
  exact lv_lload_n hx hb hd hi (zL_get hL hl) (kk (fun v hv => (List.mem_cons.mp hv).elim (fun e => e ▸ cl _ (List.mem_of_getElem? hl)) (cs v)) cl hh H locs la hP hS hL)

theorem zV_lload (O : zOk l0 a cc own mL ret mn tb) {i : Nat} {z : Int}
    (hd : decode cc pc = .ok (.lload i, 2)) (hl : ls[i]? = some (some (aL z))) (kk : zV a M k n (pc + 2) ls (aL z :: st) h) : zV a M k n pc ls st h := by
  obtain ⟨⟨p, l, e, s, m, args, below, meth, c⟩, G, E, N⟩ := a
  obtain ⟨hx, hb, hml, hr, ho, hlk, hK, hAD, hN, hex, hl0, hG⟩ := O
  intro cs cl hh H locs la hP hS hL
  exact lv_lload hx hb hd (zL_get hL hl) (kk (fun v hv => (List.mem_cons.mp hv).elim (fun e => e ▸ cl _ (List.mem_of_getElem? hl)) (cs v)) cl hh H locs la hP hS hL)

theorem zV_aload_n (O : zOk l0 a cc own mL ret mn tb) {j : Fin 4} {i : Nat} {z : Nat}
    (hd : decode cc pc = .ok (.aload_n j, 1)) (hi : (j : Nat) = i) (hl : ls[i]? = some (some (aR z))) (kk : zV a M k n (pc + 1) ls (aR z :: st) h) : zV a M k n pc ls st h := by
  obtain ⟨⟨p, l, e, s, m, args, below, meth, c⟩, G, E, N⟩ := a
  obtain ⟨hx, hb, hml, hr, ho, hlk, hK, hAD, hN, hex, hl0, hG⟩ := O
  intro cs cl hh H locs la hP hS hL
  exact lv_aload_n hx hb hd hi (zL_get hL hl) (kk (fun v hv => (List.mem_cons.mp hv).elim (fun e => e ▸ cl _ (List.mem_of_getElem? hl)) (cs v)) cl hh H locs la hP hS hL)

theorem zV_aload (O : zOk l0 a cc own mL ret mn tb) {i : Nat} {z : Nat}
    (hd : decode cc pc = .ok (.aload i, 2)) (hl : ls[i]? = some (some (aR z))) (kk : zV a M k n (pc + 2) ls (aR z :: st) h) : zV a M k n pc ls st h := by
  obtain ⟨⟨p, l, e, s, m, args, below, meth, c⟩, G, E, N⟩ := a
  obtain ⟨hx, hb, hml, hr, ho, hlk, hK, hAD, hN, hex, hl0, hG⟩ := O
  intro cs cl hh H locs la hP hS hL
  exact lv_aload hx hb hd (zL_get hL hl) (kk (fun v hv => (List.mem_cons.mp hv).elim (fun e => e ▸ cl _ (List.mem_of_getElem? hl)) (cs v)) cl hh H locs la hP hS hL)

theorem zV_dload (O : zOk l0 a cc own mL ret mn tb) {i : Nat} {z : UInt64}
    (hd : decode cc pc = .ok (.dload i, 2)) (hl : ls[i]? = some (some (aD z))) (kk : zV a M k n (pc + 2) ls (aD z :: st) h) : zV a M k n pc ls st h := by
  obtain ⟨⟨p, l, e, s, m, args, below, meth, c⟩, G, E, N⟩ := a
  obtain ⟨hx, hb, hml, hr, ho, hlk, hK, hAD, hN, hex, hl0, hG⟩ := O
  intro cs cl hh H locs la hP hS hL
  exact lv_dload hx hb hd (zL_get hL hl) (kk (fun v hv => (List.mem_cons.mp hv).elim (fun e => e ▸ cl _ (List.mem_of_getElem? hl)) (cs v)) cl hh H locs la hP hS hL)

theorem zV_istore_n (O : zOk l0 a cc own mL ret mn tb) {j : Fin 4} {i : Nat} {z : Int}
    (hd : decode cc pc = .ok (.istore_n j, 1)) (hi : (j : Nat) = i) (hlt : i < mL) (hc : zcut ls i = true) (kk : zV a M k n (pc + 1) (ls.set i (some (aI z))) st h) : zV a M k n pc ls (aI z :: st) h := by
  obtain ⟨⟨p, l, e, s, m, args, below, meth, c⟩, G, E, N⟩ := a
  obtain ⟨hx, hb, hml, hr, ho, hlk, hK, hAD, hN, hex, hl0, hG⟩ := O
  intro cs cl hh H locs la hP hS hL
  exact lv_istore_n hx hb hd hi (nL := mL) (lv := zpr E 0 ls) (by rw [← hml]; exact hL) hlt rfl (fun la2 hL2 => kk (fun v hv => cs v (List.mem_cons_of_mem _ hv)) (zset_can cl (cs _ List.mem_cons_self)) hh H locs la2 hP hS (by rw [hml]; exact zL_set1 hL2 hc))

theorem zV_istore (O : zOk l0 a cc own mL ret mn tb) {i : Nat} {z : Int}
    (hd : decode cc pc = .ok (.istore i, 2)) (hlt : i < mL) (hc : zcut ls i = true) (kk : zV a M k n (pc + 2) (ls.set i (some (aI z))) st h) : zV a M k n pc ls (aI z :: st) h := by
  obtain ⟨⟨p, l, e, s, m, args, below, meth, c⟩, G, E, N⟩ := a
  obtain ⟨hx, hb, hml, hr, ho, hlk, hK, hAD, hN, hex, hl0, hG⟩ := O
  intro cs cl hh H locs la hP hS hL
  exact lv_istore hx hb hd (nL := mL) (lv := zpr E 0 ls) (by rw [← hml]; exact hL) hlt rfl (fun la2 hL2 => kk (fun v hv => cs v (List.mem_cons_of_mem _ hv)) (zset_can cl (cs _ List.mem_cons_self)) hh H locs la2 hP hS (by rw [hml]; exact zL_set1 hL2 hc))

theorem zV_lstore_n (O : zOk l0 a cc own mL ret mn tb) {j : Fin 4} {i : Nat} {z : Int}
    (hd : decode cc pc = .ok (.lstore_n j, 1)) (hi : (j : Nat) = i) (hlt : i + 1 < mL) (hc : zcut ls i = true) (kk : zV a M k n (pc + 1) ((ls.set i (some (aL z))).set (i + 1) none) st h) : zV a M k n pc ls (aL z :: st) h := by
  obtain ⟨⟨p, l, e, s, m, args, below, meth, c⟩, G, E, N⟩ := a
  obtain ⟨hx, hb, hml, hr, ho, hlk, hK, hAD, hN, hex, hl0, hG⟩ := O
  intro cs cl hh H locs la hP hS hL
  exact lv_lstore_n hx hb hd hi (nL := mL) (lv := zpr E 0 ls) (by rw [← hml]; exact hL) hlt rfl (fun la2 hL2 => kk (fun v hv => cs v (List.mem_cons_of_mem _ hv)) (zset_canN (zset_can cl (cs _ List.mem_cons_self))) hh H locs la2 hP hS (by rw [hml]; exact zL_set2 hL2 hc))

theorem zV_lstore (O : zOk l0 a cc own mL ret mn tb) {i : Nat} {z : Int}
    (hd : decode cc pc = .ok (.lstore i, 2)) (hlt : i + 1 < mL) (hc : zcut ls i = true) (kk : zV a M k n (pc + 2) ((ls.set i (some (aL z))).set (i + 1) none) st h) : zV a M k n pc ls (aL z :: st) h := by
  obtain ⟨⟨p, l, e, s, m, args, below, meth, c⟩, G, E, N⟩ := a
  obtain ⟨hx, hb, hml, hr, ho, hlk, hK, hAD, hN, hex, hl0, hG⟩ := O
  intro cs cl hh H locs la hP hS hL
  exact lv_lstore hx hb hd (nL := mL) (lv := zpr E 0 ls) (by rw [← hml]; exact hL) hlt rfl (fun la2 hL2 => kk (fun v hv => cs v (List.mem_cons_of_mem _ hv)) (zset_canN (zset_can cl (cs _ List.mem_cons_self))) hh H locs la2 hP hS (by rw [hml]; exact zL_set2 hL2 hc))

theorem zV_dstore (O : zOk l0 a cc own mL ret mn tb) {i : Nat} {z : UInt64}
    (hd : decode cc pc = .ok (.dstore i, 2)) (hlt : i + 1 < mL) (hc : zcut ls i = true) (kk : zV a M k n (pc + 2) ((ls.set i (some (aD z))).set (i + 1) none) st h) : zV a M k n pc ls (aD z :: st) h := by
  obtain ⟨⟨p, l, e, s, m, args, below, meth, c⟩, G, E, N⟩ := a
  obtain ⟨hx, hb, hml, hr, ho, hlk, hK, hAD, hN, hex, hl0, hG⟩ := O
  intro cs cl hh H locs la hP hS hL
  exact lv_dstore hx hb hd (nL := mL) (lv := zpr E 0 ls) (by rw [← hml]; exact hL) hlt rfl (fun la2 hL2 => kk (fun v hv => cs v (List.mem_cons_of_mem _ hv)) (zset_canN (zset_can cl (cs _ List.mem_cons_self))) hh H locs la2 hP hS (by rw [hml]; exact zL_set2 hL2 hc))

theorem zV_astore_n (O : zOk l0 a cc own mL ret mn tb) {j : Fin 4} {i : Nat} {z : Nat}
    (hd : decode cc pc = .ok (.astore_n j, 1)) (hi : (j : Nat) = i) (hlt : i < mL) (hc : zcut ls i = true) (kk : zV a M k n (pc + 1) (ls.set i (some (aR z))) st h) : zV a M k n pc ls (aR z :: st) h := by
  obtain ⟨⟨p, l, e, s, m, args, below, meth, c⟩, G, E, N⟩ := a
  obtain ⟨hx, hb, hml, hr, ho, hlk, hK, hAD, hN, hex, hl0, hG⟩ := O
  intro cs cl hh H locs la hP hS hL
  exact lv_astore_n hx hb hd hi (nL := mL) (lv := zpr E 0 ls) (by rw [← hml]; exact hL) hlt rfl (fun la2 hL2 => kk (fun v hv => cs v (List.mem_cons_of_mem _ hv)) (zset_can cl (cs _ List.mem_cons_self)) hh H locs la2 hP hS (by rw [hml]; exact zL_set1 hL2 hc))

theorem zV_astore (O : zOk l0 a cc own mL ret mn tb) {i : Nat} {z : Nat}
    (hd : decode cc pc = .ok (.astore i, 2)) (hlt : i < mL) (hc : zcut ls i = true) (kk : zV a M k n (pc + 2) (ls.set i (some (aR z))) st h) : zV a M k n pc ls (aR z :: st) h := by
  obtain ⟨⟨p, l, e, s, m, args, below, meth, c⟩, G, E, N⟩ := a
  obtain ⟨hx, hb, hml, hr, ho, hlk, hK, hAD, hN, hex, hl0, hG⟩ := O
  intro cs cl hh H locs la hP hS hL
  exact lv_astore hx hb hd (nL := mL) (lv := zpr E 0 ls) (by rw [← hml]; exact hL) hlt rfl (fun la2 hL2 => kk (fun v hv => cs v (List.mem_cons_of_mem _ hv)) (zset_can cl (cs _ List.mem_cons_self)) hh H locs la2 hP hS (by rw [hml]; exact zL_set1 hL2 hc))

theorem zV_astoreA_n (O : zOk l0 a cc own mL ret mn tb) {j : Fin 4} {i : Nat} {z : Nat}
    (hd : decode cc pc = .ok (.astore_n j, 1)) (hi : (j : Nat) = i) (hlt : i < mL) (hc : zcut ls i = true) (kk : zV a M k n (pc + 1) (ls.set i (some (aA z))) st h) : zV a M k n pc ls (aA z :: st) h := by
  obtain ⟨⟨p, l, e, s, m, args, below, meth, c⟩, G, E, N⟩ := a
  obtain ⟨hx, hb, hml, hr, ho, hlk, hK, hAD, hN, hex, hl0, hG⟩ := O
  intro cs cl hh H locs la hP hS hL
  cases z with
  | zero => exact lv_astore_nN hx hb hd hi (nL := mL) (lv := zpr E 0 ls) (by rw [← hml]; exact hL) hlt rfl (fun la2 hL2 => kk (fun v hv => cs v (List.mem_cons_of_mem _ hv)) (zset_can cl (cs _ List.mem_cons_self)) hh H locs la2 hP hS (by rw [hml]; exact zL_set1 hL2 hc))
  | succ z => exact lv_astore_n hx hb hd hi (nL := mL) (lv := zpr E 0 ls) (by rw [← hml]; exact hL) hlt rfl (fun la2 hL2 => kk (fun v hv => cs v (List.mem_cons_of_mem _ hv)) (zset_can cl (cs _ List.mem_cons_self)) hh H locs la2 hP hS (by rw [hml]; exact zL_set1 hL2 hc))

theorem zV_astoreA (O : zOk l0 a cc own mL ret mn tb) {i : Nat} {z : Nat}
    (hd : decode cc pc = .ok (.astore i, 2)) (hlt : i < mL) (hc : zcut ls i = true) (kk : zV a M k n (pc + 2) (ls.set i (some (aA z))) st h) : zV a M k n pc ls (aA z :: st) h := by
  obtain ⟨⟨p, l, e, s, m, args, below, meth, c⟩, G, E, N⟩ := a
  obtain ⟨hx, hb, hml, hr, ho, hlk, hK, hAD, hN, hex, hl0, hG⟩ := O
  intro cs cl hh H locs la hP hS hL
  cases z with
  | zero => exact lv_astoreN hx hb hd (nL := mL) (lv := zpr E 0 ls) (by rw [← hml]; exact hL) hlt rfl (fun la2 hL2 => kk (fun v hv => cs v (List.mem_cons_of_mem _ hv)) (zset_can cl (cs _ List.mem_cons_self)) hh H locs la2 hP hS (by rw [hml]; exact zL_set1 hL2 hc))
  | succ z => exact lv_astore hx hb hd (nL := mL) (lv := zpr E 0 ls) (by rw [← hml]; exact hL) hlt rfl (fun la2 hL2 => kk (fun v hv => cs v (List.mem_cons_of_mem _ hv)) (zset_can cl (cs _ List.mem_cons_self)) hh H locs la2 hP hS (by rw [hml]; exact zL_set1 hL2 hc))

theorem zV_iinc (O : zOk l0 a cc own mL ret mn tb) {i : Nat} {d x : Int}
    (hd : decode cc pc = .ok (.iinc i d, 3)) (hl : ls[i]? = some (some (aI x))) (hlt : i < mL) (hc : zcut ls i = true) (hz : zr (x + d)) (kk : zV a M k n (pc + 3) (ls.set i (some (aI (x + d)))) st h) : zV a M k n pc ls st h := by
  obtain ⟨⟨p, l, e, s, m, args, below, meth, c⟩, G, E, N⟩ := a
  obtain ⟨hx, hb, hml, hr, ho, hlk, hK, hAD, hN, hex, hl0, hG⟩ := O
  intro cs cl hh H locs la hP hS hL
  obtain ⟨q, hq⟩ := List.getElem?_of_mem ((zpr_mem E ls 0 (i, cv E (aI x))).mpr ⟨i, aI x, by rw [Nat.zero_add], hl⟩)
  exact lv_iinc hx hb hd (nL := mL) (lv := zpr E 0 ls) (by rw [← hml]; exact hL) hq (by rw [← Int32.ofInt_add]) hlt rfl (fun la2 hL2 => kk cs (zset_can cl hz) hh H locs la2 hP hS (by rw [hml]; exact zL_set1 (v := aI (x + d)) hL2 hc))

theorem zV_iadd (O : zOk l0 a cc own mL ret mn tb) {x y : Int}
    (hd : decode cc pc = .ok (.iadd, 1)) (hz : zr (x + y)) (kk : zV a M k n (pc + 1) ls (aI (x + y) :: st) h) : zV a M k n pc ls (aI y :: aI x :: st) h := by
  obtain ⟨⟨p, l, e, s, m, args, below, meth, c⟩, G, E, N⟩ := a
  obtain ⟨hx, hb, hml, hr, ho, hlk, hK, hAD, hN, hex, hl0, hG⟩ := O
  intro cs cl hh H locs la hP hS hL
  refine lv_iadd hx hb hd ?_
  rw [← Int32.ofInt_add]
  exact kk (fun v hv => (List.mem_cons.mp hv).elim (fun e => e ▸ hz) (fun q => cs v (List.mem_cons_of_mem _ (List.mem_cons_of_mem _ q)))) cl hh H locs la hP hS hL

theorem zV_isub (O : zOk l0 a cc own mL ret mn tb) {x y : Int}
    (hd : decode cc pc = .ok (.isub, 1)) (hz : zr (x - y)) (kk : zV a M k n (pc + 1) ls (aI (x - y) :: st) h) : zV a M k n pc ls (aI y :: aI x :: st) h := by
  obtain ⟨⟨p, l, e, s, m, args, below, meth, c⟩, G, E, N⟩ := a
  obtain ⟨hx, hb, hml, hr, ho, hlk, hK, hAD, hN, hex, hl0, hG⟩ := O
  intro cs cl hh H locs la hP hS hL
  refine lv_isub hx hb hd ?_
  rw [← Int32.ofInt_sub]
  exact kk (fun v hv => (List.mem_cons.mp hv).elim (fun e => e ▸ hz) (fun q => cs v (List.mem_cons_of_mem _ (List.mem_cons_of_mem _ q)))) cl hh H locs la hP hS hL

theorem zV_imul (O : zOk l0 a cc own mL ret mn tb) {x y : Int}
    (hd : decode cc pc = .ok (.imul, 1)) (hz : zr (x * y)) (kk : zV a M k n (pc + 1) ls (aI (x * y) :: st) h) : zV a M k n pc ls (aI y :: aI x :: st) h := by
  obtain ⟨⟨p, l, e, s, m, args, below, meth, c⟩, G, E, N⟩ := a
  obtain ⟨hx, hb, hml, hr, ho, hlk, hK, hAD, hN, hex, hl0, hG⟩ := O
  intro cs cl hh H locs la hP hS hL
  refine lv_imul hx hb hd ?_
  rw [← Int32.ofInt_mul]
  exact kk (fun v hv => (List.mem_cons.mp hv).elim (fun e => e ▸ hz) (fun q => cs v (List.mem_cons_of_mem _ (List.mem_cons_of_mem _ q)))) cl hh H locs la hP hS hL

theorem zV_ladd (O : zOk l0 a cc own mL ret mn tb) {x y : Int}
    (hd : decode cc pc = .ok (.ladd, 1)) (hz : zr6 (x + y)) (kk : zV a M k n (pc + 1) ls (aL (x + y) :: st) h) : zV a M k n pc ls (aL y :: aL x :: st) h := by
  obtain ⟨⟨p, l, e, s, m, args, below, meth, c⟩, G, E, N⟩ := a
  obtain ⟨hx, hb, hml, hr, ho, hlk, hK, hAD, hN, hex, hl0, hG⟩ := O
  intro cs cl hh H locs la hP hS hL
  refine lv_ladd hx hb hd ?_
  rw [← Int64.ofInt_add]
  exact kk (fun v hv => (List.mem_cons.mp hv).elim (fun e => e ▸ hz) (fun q => cs v (List.mem_cons_of_mem _ (List.mem_cons_of_mem _ q)))) cl hh H locs la hP hS hL

theorem zV_lsub (O : zOk l0 a cc own mL ret mn tb) {x y : Int}
    (hd : decode cc pc = .ok (.lsub, 1)) (hz : zr6 (x - y)) (kk : zV a M k n (pc + 1) ls (aL (x - y) :: st) h) : zV a M k n pc ls (aL y :: aL x :: st) h := by
  obtain ⟨⟨p, l, e, s, m, args, below, meth, c⟩, G, E, N⟩ := a
  obtain ⟨hx, hb, hml, hr, ho, hlk, hK, hAD, hN, hex, hl0, hG⟩ := O
  intro cs cl hh H locs la hP hS hL
  refine lv_lsub hx hb hd ?_
  rw [← Int64.ofInt_sub]
  exact kk (fun v hv => (List.mem_cons.mp hv).elim (fun e => e ▸ hz) (fun q => cs v (List.mem_cons_of_mem _ (List.mem_cons_of_mem _ q)))) cl hh H locs la hP hS hL

theorem zV_lmul (O : zOk l0 a cc own mL ret mn tb) {x y : Int}
    (hd : decode cc pc = .ok (.lmul, 1)) (hz : zr6 (x * y)) (kk : zV a M k n (pc + 1) ls (aL (x * y) :: st) h) : zV a M k n pc ls (aL y :: aL x :: st) h := by
  obtain ⟨⟨p, l, e, s, m, args, below, meth, c⟩, G, E, N⟩ := a
  obtain ⟨hx, hb, hml, hr, ho, hlk, hK, hAD, hN, hex, hl0, hG⟩ := O
  intro cs cl hh H locs la hP hS hL
  refine lv_lmul hx hb hd ?_
  rw [← Int64.ofInt_mul]
  exact kk (fun v hv => (List.mem_cons.mp hv).elim (fun e => e ▸ hz) (fun q => cs v (List.mem_cons_of_mem _ (List.mem_cons_of_mem _ q)))) cl hh H locs la hP hS hL

def zw (x : Int) : Int := (Int32.ofInt x).toInt
theorem zV_isubW (O : zOk l0 a cc own mL ret mn tb) {x y : Int}
    (hd : decode cc pc = .ok (.isub, 1)) (kk : zV a M k n (pc + 1) ls (aI (zw (x - y)) :: st) h) : zV a M k n pc ls (aI y :: aI x :: st) h := by
  obtain ⟨⟨p, l, e, s, m, args, below, meth, c⟩, G, E, N⟩ := a
  obtain ⟨hx, hb, hml, hr, ho, hlk, hK, hAD, hN, hex, hl0, hG⟩ := O
  intro cs cl hh H locs la hP hS hL
  refine lv_isub hx hb hd ?_
  rw [← Int32.ofInt_sub, show Int32.ofInt (x - y) = Int32.ofInt (zw (x - y)) from (Int32.ofInt_toInt _).symm]
  exact kk (fun v hv => (List.mem_cons.mp hv).elim (fun e => e ▸ zr_I _) (fun q => cs v (List.mem_cons_of_mem _ (List.mem_cons_of_mem _ q)))) cl hh H locs la hP hS hL

theorem zV_iincW (O : zOk l0 a cc own mL ret mn tb) {i : Nat} {d x : Int}
    (hd : decode cc pc = .ok (.iinc i d, 3)) (hl : ls[i]? = some (some (aI x))) (hlt : i < mL) (hc : zcut ls i = true) (kk : zV a M k n (pc + 3) (ls.set i (some (aI (zw (x + d))))) st h) : zV a M k n pc ls st h := by
  obtain ⟨⟨p, l, e, s, m, args, below, meth, c⟩, G, E, N⟩ := a
  obtain ⟨hx, hb, hml, hr, ho, hlk, hK, hAD, hN, hex, hl0, hG⟩ := O
  intro cs cl hh H locs la hP hS hL
  obtain ⟨q, hq⟩ := List.getElem?_of_mem ((zpr_mem E ls 0 (i, cv E (aI x))).mpr ⟨i, aI x, by rw [Nat.zero_add], hl⟩)
  exact lv_iinc hx hb hd (nL := mL) (lv := zpr E 0 ls) (v := Int32.ofInt (zw (x + d))) (by rw [← hml]; exact hL) hq (by rw [← Int32.ofInt_add]; exact (Int32.ofInt_toInt _).symm) hlt rfl (fun la2 hL2 => kk cs (zset_can cl (zr_I _)) hh H locs la2 hP hS (by rw [hml]; exact zL_set1 (v := aI (zw (x + d))) hL2 hc))

theorem zV_idiv (O : zOk l0 a cc own mL ret mn tb) {x y : Int}
    (hd : decode cc pc = .ok (.idiv, 1)) (h0 : 0 ≤ x ∧ 0 < y) (kk : zV a M k n (pc + 1) ls (aI (x / y) :: st) h) : zV a M k n pc ls (aI y :: aI x :: st) h := by
  obtain ⟨⟨p, l, e, s, m, args, below, meth, c⟩, G, E, N⟩ := a
  obtain ⟨hx, hb, hml, hr, ho, hlk, hK, hAD, hN, hex, hl0, hG⟩ := O
  intro cs cl hh H locs la hP hS hL
  have cx : zr x := cs (aI x) (by simp)
  have cy : zr y := cs (aI y) (by simp)
  refine lv_idiv hx hb hd (fun q => ?_) ?_
  · have := (zI_eq cy zr0).mp (q.trans (by rfl))
    omega
  · have e : Int32.ofInt x / Int32.ofInt y = Int32.ofInt (x / y) := by
      apply Int32.toInt_inj.mp
      have hd1 : x / y ≤ x := Int.ediv_le_self _ h0.1
      have hd0 : 0 ≤ x / y := Int.ediv_nonneg h0.1 (by omega)
      obtain ⟨c1, c2⟩ := cx
      rw [lg_idiv_nonneg (by rw [zI_toInt ⟨c1, c2⟩]; exact h0.1) (by rw [zI_toInt cy]; exact h0.2), zI_toInt ⟨c1, c2⟩, zI_toInt cy, zI_toInt ⟨by omega, by omega⟩]
    rw [e]
    have hd1 : x / y ≤ x := Int.ediv_le_self _ h0.1
    have hd0 : 0 ≤ x / y := Int.ediv_nonneg h0.1 (by omega)
    obtain ⟨c1, c2⟩ := cx
    exact kk (fun v hv => (List.mem_cons.mp hv).elim (fun e => e ▸ (⟨by omega, by omega⟩ : zr (x / y))) (fun q => cs v (List.mem_cons_of_mem _ (List.mem_cons_of_mem _ q)))) cl hh H locs la hP hS hL

theorem zV_irem (O : zOk l0 a cc own mL ret mn tb) {x y : Int}
    (hd : decode cc pc = .ok (.irem, 1)) (h0 : 0 ≤ x ∧ 0 < y) (kk : zV a M k n (pc + 1) ls (aI (x % y) :: st) h) : zV a M k n pc ls (aI y :: aI x :: st) h := by
  obtain ⟨⟨p, l, e, s, m, args, below, meth, c⟩, G, E, N⟩ := a
  obtain ⟨hx, hb, hml, hr, ho, hlk, hK, hAD, hN, hex, hl0, hG⟩ := O
  intro cs cl hh H locs la hP hS hL
  have cx : zr x := cs (aI x) (by simp)
  have cy : zr y := cs (aI y) (by simp)
  refine lv_irem hx hb hd (fun q => ?_) ?_
  · have := (zI_eq cy zr0).mp (q.trans (by rfl))
    omega
  · have hm0 : 0 ≤ x % y := Int.emod_nonneg _ (by omega)
    have hm1 : x % y < y := Int.emod_lt_of_pos _ h0.2
    have cz : zr (x % y) := by obtain ⟨c1, c2⟩ := cy; exact ⟨by omega, by omega⟩
    have e : Int32.ofInt x - Int32.ofInt x / Int32.ofInt y * Int32.ofInt y = Int32.ofInt (x % y) := by
      apply Int32.toInt_inj.mp
      rw [rem_toInt, zI_toInt cx, zI_toInt cy, zI_toInt cz, Int.tmod_eq_emod_of_nonneg h0.1]
    rw [e]
    exact kk (fun v hv => (List.mem_cons.mp hv).elim (fun e => e ▸ cz) (fun q => cs v (List.mem_cons_of_mem _ (List.mem_cons_of_mem _ q)))) cl hh H locs la hP hS hL

theorem zV_iand (O : zOk l0 a cc own mL ret mn tb) {x y : Int}
    (hd : decode cc pc = .ok (.iand, 1)) (kk : zV a M k n (pc + 1) ls (aI (zand x y) :: st) h) : zV a M k n pc ls (aI y :: aI x :: st) h := by
  obtain ⟨⟨p, l, e, s, m, args, below, meth, c⟩, G, E, N⟩ := a
  obtain ⟨hx, hb, hml, hr, ho, hlk, hK, hAD, hN, hex, hl0, hG⟩ := O
  intro cs cl hh H locs la hP hS hL
  refine lv_iand hx hb hd ?_
  have k2 := kk (fun v hv => (List.mem_cons.mp hv).elim (fun e => e ▸ zr_I _) (fun q => cs v (List.mem_cons_of_mem _ (List.mem_cons_of_mem _ q)))) cl hh H locs la hP hS hL
  rw [List.map_cons, show cv E (aI (zand x y)) = .int (Int32.ofInt (zand x y)) from rfl, show Int32.ofInt (zand x y) = _ from Int32.ofInt_toInt _] at k2
  exact k2

theorem zV_ishr (O : zOk l0 a cc own mL ret mn tb) {x y : Int}
    (hd : decode cc pc = .ok (.ishr, 1)) (kk : zV a M k n (pc + 1) ls (aI (zishr x y) :: st) h) : zV a M k n pc ls (aI y :: aI x :: st) h := by
  obtain ⟨⟨p, l, e, s, m, args, below, meth, c⟩, G, E, N⟩ := a
  obtain ⟨hx, hb, hml, hr, ho, hlk, hK, hAD, hN, hex, hl0, hG⟩ := O
  intro cs cl hh H locs la hP hS hL
  refine lv_ishr hx hb hd ?_
  have k2 := kk (fun v hv => (List.mem_cons.mp hv).elim (fun e => e ▸ zr_I _) (fun q => cs v (List.mem_cons_of_mem _ (List.mem_cons_of_mem _ q)))) cl hh H locs la hP hS hL
  rw [List.map_cons, show cv E (aI (zishr x y)) = .int (Int32.ofInt (zishr x y)) from rfl, show Int32.ofInt (zishr x y) = _ from Int32.ofInt_toInt _] at k2
  exact k2

theorem zV_iushr (O : zOk l0 a cc own mL ret mn tb) {x y : Int}
    (hd : decode cc pc = .ok (.iushr, 1)) (kk : zV a M k n (pc + 1) ls (aI (ziushr x y) :: st) h) : zV a M k n pc ls (aI y :: aI x :: st) h := by
  obtain ⟨⟨p, l, e, s, m, args, below, meth, c⟩, G, E, N⟩ := a
  obtain ⟨hx, hb, hml, hr, ho, hlk, hK, hAD, hN, hex, hl0, hG⟩ := O
  intro cs cl hh H locs la hP hS hL
  refine lv_iushr hx hb hd rfl ?_
  have k2 := kk (fun v hv => (List.mem_cons.mp hv).elim (fun e => e ▸ zr_I _) (fun q => cs v (List.mem_cons_of_mem _ (List.mem_cons_of_mem _ q)))) cl hh H locs la hP hS hL
  rw [List.map_cons, show cv E (aI (ziushr x y)) = .int (Int32.ofInt (ziushr x y)) from rfl, show Int32.ofInt (ziushr x y) = _ from Int32.ofInt_toInt _] at k2
  exact k2

theorem zV_land (O : zOk l0 a cc own mL ret mn tb) {x y : Int}
    (hd : decode cc pc = .ok (.land, 1)) (kk : zV a M k n (pc + 1) ls (aL (zland x y) :: st) h) : zV a M k n pc ls (aL y :: aL x :: st) h := by
  obtain ⟨⟨p, l, e, s, m, args, below, meth, c⟩, G, E, N⟩ := a
  obtain ⟨hx, hb, hml, hr, ho, hlk, hK, hAD, hN, hex, hl0, hG⟩ := O
  intro cs cl hh H locs la hP hS hL
  refine lv_land hx hb hd ?_
  have k2 := kk (fun v hv => (List.mem_cons.mp hv).elim (fun e => e ▸ zr_L _) (fun q => cs v (List.mem_cons_of_mem _ (List.mem_cons_of_mem _ q)))) cl hh H locs la hP hS hL
  rw [List.map_cons, show cv E (aL (zland x y)) = .long (Int64.ofInt (zland x y)) from rfl, show Int64.ofInt (zland x y) = _ from Int64.ofInt_toInt _] at k2
  exact k2

theorem zV_lor (O : zOk l0 a cc own mL ret mn tb) {x y : Int}
    (hd : decode cc pc = .ok (.lor, 1)) (kk : zV a M k n (pc + 1) ls (aL (zlor x y) :: st) h) : zV a M k n pc ls (aL y :: aL x :: st) h := by
  obtain ⟨⟨p, l, e, s, m, args, below, meth, c⟩, G, E, N⟩ := a
  obtain ⟨hx, hb, hml, hr, ho, hlk, hK, hAD, hN, hex, hl0, hG⟩ := O
  intro cs cl hh H locs la hP hS hL
  refine lv_lor hx hb hd ?_
  have k2 := kk (fun v hv => (List.mem_cons.mp hv).elim (fun e => e ▸ zr_L _) (fun q => cs v (List.mem_cons_of_mem _ (List.mem_cons_of_mem _ q)))) cl hh H locs la hP hS hL
  rw [List.map_cons, show cv E (aL (zlor x y)) = .long (Int64.ofInt (zlor x y)) from rfl, show Int64.ofInt (zlor x y) = _ from Int64.ofInt_toInt _] at k2
  exact k2

theorem zV_lxor (O : zOk l0 a cc own mL ret mn tb) {x y : Int}
    (hd : decode cc pc = .ok (.lxor, 1)) (kk : zV a M k n (pc + 1) ls (aL (zlxor x y) :: st) h) : zV a M k n pc ls (aL y :: aL x :: st) h := by
  obtain ⟨⟨p, l, e, s, m, args, below, meth, c⟩, G, E, N⟩ := a
  obtain ⟨hx, hb, hml, hr, ho, hlk, hK, hAD, hN, hex, hl0, hG⟩ := O
  intro cs cl hh H locs la hP hS hL
  refine lv_lxor hx hb hd ?_
  have k2 := kk (fun v hv => (List.mem_cons.mp hv).elim (fun e => e ▸ zr_L _) (fun q => cs v (List.mem_cons_of_mem _ (List.mem_cons_of_mem _ q)))) cl hh H locs la hP hS hL
  rw [List.map_cons, show cv E (aL (zlxor x y)) = .long (Int64.ofInt (zlxor x y)) from rfl, show Int64.ofInt (zlxor x y) = _ from Int64.ofInt_toInt _] at k2
  exact k2

theorem zV_lshl (O : zOk l0 a cc own mL ret mn tb) {x y : Int}
    (hd : decode cc pc = .ok (.lshl, 1)) (kk : zV a M k n (pc + 1) ls (aL (zlshl x y) :: st) h) : zV a M k n pc ls (aI y :: aL x :: st) h := by
  obtain ⟨⟨p, l, e, s, m, args, below, meth, c⟩, G, E, N⟩ := a
  obtain ⟨hx, hb, hml, hr, ho, hlk, hK, hAD, hN, hex, hl0, hG⟩ := O
  intro cs cl hh H locs la hP hS hL
  refine lv_lshl hx hb hd rfl ?_
  have k2 := kk (fun v hv => (List.mem_cons.mp hv).elim (fun e => e ▸ zr_L _) (fun q => cs v (List.mem_cons_of_mem _ (List.mem_cons_of_mem _ q)))) cl hh H locs la hP hS hL
  rw [List.map_cons, show cv E (aL (zlshl x y)) = .long (Int64.ofInt (zlshl x y)) from rfl, show Int64.ofInt (zlshl x y) = _ from Int64.ofInt_toInt _] at k2
  exact k2

theorem zV_lushr (O : zOk l0 a cc own mL ret mn tb) {x y : Int}
    (hd : decode cc pc = .ok (.lushr, 1)) (kk : zV a M k n (pc + 1) ls (aL (zlushr x y) :: st) h) : zV a M k n pc ls (aI y :: aL x :: st) h := by
  obtain ⟨⟨p, l, e, s, m, args, below, meth, c⟩, G, E, N⟩ := a
  obtain ⟨hx, hb, hml, hr, ho, hlk, hK, hAD, hN, hex, hl0, hG⟩ := O
  intro cs cl hh H locs la hP hS hL
  refine lv_lushr hx hb hd rfl ?_
  have k2 := kk (fun v hv => (List.mem_cons.mp hv).elim (fun e => e ▸ zr_L _) (fun q => cs v (List.mem_cons_of_mem _ (List.mem_cons_of_mem _ q)))) cl hh H locs la hP hS hL
  rw [List.map_cons, show cv E (aL (zlushr x y)) = .long (Int64.ofInt (zlushr x y)) from rfl, show Int64.ofInt (zlushr x y) = _ from Int64.ofInt_toInt _] at k2
  exact k2

theorem zV_i2b (O : zOk l0 a cc own mL ret mn tb) {x : Int}
    (hd : decode cc pc = .ok (.i2b, 1)) (kk : zV a M k n (pc + 1) ls (aI (zi2b x) :: st) h) : zV a M k n pc ls (aI x :: st) h := by
  obtain ⟨⟨p, l, e, s, m, args, below, meth, c⟩, G, E, N⟩ := a
  obtain ⟨hx, hb, hml, hr, ho, hlk, hK, hAD, hN, hex, hl0, hG⟩ := O
  intro cs cl hh H locs la hP hS hL
  refine lv_i2b hx hb hd rfl ?_
  have k2 := kk (fun v hv => (List.mem_cons.mp hv).elim (fun e => e ▸ zr_I _) (fun q => cs v (List.mem_cons_of_mem _ q))) cl hh H locs la hP hS hL
  rw [List.map_cons, show cv E (aI (zi2b x)) = .int (Int32.ofInt (zi2b x)) from rfl, show Int32.ofInt (zi2b x) = _ from Int32.ofInt_toInt _] at k2
  exact k2

theorem zV_l2i (O : zOk l0 a cc own mL ret mn tb) {x : Int}
    (hd : decode cc pc = .ok (.l2i, 1)) (kk : zV a M k n (pc + 1) ls (aI (zl2i x) :: st) h) : zV a M k n pc ls (aL x :: st) h := by
  obtain ⟨⟨p, l, e, s, m, args, below, meth, c⟩, G, E, N⟩ := a
  obtain ⟨hx, hb, hml, hr, ho, hlk, hK, hAD, hN, hex, hl0, hG⟩ := O
  intro cs cl hh H locs la hP hS hL
  refine lv_l2i hx hb hd rfl ?_
  have k2 := kk (fun v hv => (List.mem_cons.mp hv).elim (fun e => e ▸ zr_I _) (fun q => cs v (List.mem_cons_of_mem _ q))) cl hh H locs la hP hS hL
  rw [List.map_cons, show cv E (aI (zl2i x)) = .int (Int32.ofInt (zl2i x)) from rfl, show Int32.ofInt (zl2i x) = _ from Int32.ofInt_toInt _] at k2
  exact k2

theorem zV_i2l (O : zOk l0 a cc own mL ret mn tb) {x : Int}
    (hd : decode cc pc = .ok (.i2l, 1)) (kk : zV a M k n (pc + 1) ls (aL x :: st) h) : zV a M k n pc ls (aI x :: st) h := by
  obtain ⟨⟨p, l, e, s, m, args, below, meth, c⟩, G, E, N⟩ := a
  obtain ⟨hx, hb, hml, hr, ho, hlk, hK, hAD, hN, hex, hl0, hG⟩ := O
  intro cs cl hh H locs la hP hS hL
  have cx : zr x := cs (aI x) (by simp)
  have c6 : zr6 x := by obtain ⟨c1, c2⟩ := cx; exact ⟨by omega, by omega⟩
  refine lv_i2l hx hb hd (v := Int64.ofInt x) ?_ (kk (fun v hv => (List.mem_cons.mp hv).elim (fun e => e ▸ c6) (fun q => cs v (List.mem_cons_of_mem _ q))) cl hh H locs la hP hS hL)
  apply Int64.toInt_inj.mp
  rw [Int32.toInt_toInt64, zI_toInt cx, zL_toInt c6]

theorem zV_lcmp (O : zOk l0 a cc own mL ret mn tb) {x y : Int}
    (hd : decode cc pc = .ok (.lcmp, 1)) (kk : zV a M k n (pc + 1) ls (aI (zlcmp x y) :: st) h) : zV a M k n pc ls (aL y :: aL x :: st) h := by
  obtain ⟨⟨p, l, e, s, m, args, below, meth, c⟩, G, E, N⟩ := a
  obtain ⟨hx, hb, hml, hr, ho, hlk, hK, hAD, hN, hex, hl0, hG⟩ := O
  intro cs cl hh H locs la hP hS hL
  have cx : zr6 x := cs (aL x) (by simp)
  have cy : zr6 y := cs (aL y) (by simp)
  refine W.lcmp hx hb hd ?_
  have e : lg_cmp (Int64.ofInt x) (Int64.ofInt y) = Int32.ofInt (zlcmp x y) := by
    have h1 : Int64.ofInt y < Int64.ofInt x ↔ y < x := by rw [Int64.lt_iff_toInt_lt, zL_toInt cx, zL_toInt cy]
    have h2 : Int64.ofInt x = Int64.ofInt y ↔ x = y := by rw [← Int64.toInt_inj, zL_toInt cx, zL_toInt cy]
    unfold lg_cmp zlcmp
    by_cases q : y < x
    · rw [if_pos q, if_pos (h1.mpr q)]; rfl
    · rw [if_neg q, if_neg (fun w => q (h1.mp w))]
      by_cases q2 : x = y
      · rw [if_pos q2, if_pos (h2.mpr q2)]; rfl
      · rw [if_neg q2, if_neg (fun w => q2 (h2.mp w))]; rfl
  rw [e]
  exact kk (fun v hv => (List.mem_cons.mp hv).elim (fun e => e ▸ (zlcmp_r x y)) (fun q => cs v (List.mem_cons_of_mem _ (List.mem_cons_of_mem _ q)))) cl hh H locs la hP hS hL

theorem zV_i2f (O : zOk l0 a cc own mL ret mn tb) {x : Int}
    (hd : decode cc pc = .ok (.i2f, 1)) (kk : zV a M k n (pc + 1) ls (aF (FP.i2f (Int32.ofInt x)) :: st) h) : zV a M k n pc ls (aI x :: st) h := by
  obtain ⟨⟨p, l, e, s, m, args, below, meth, c⟩, G, E, N⟩ := a
  obtain ⟨hx, hb, hml, hr, ho, hlk, hK, hAD, hN, hex, hl0, hG⟩ := O
  intro cs cl hh H locs la hP hS hL
  exact lv_i2f hx hb hd (kk (fun v hv => (List.mem_cons.mp hv).elim (fun e => e ▸ trivial) (fun q => cs v (List.mem_cons_of_mem _ q))) cl hh H locs la hP hS hL)

theorem zV_i2d (O : zOk l0 a cc own mL ret mn tb) {x : Int}
    (hd : decode cc pc = .ok (.i2d, 1)) (kk : zV a M k n (pc + 1) ls (aD (FP.i2d (Int32.ofInt x)) :: st) h) : zV a M k n pc ls (aI x :: st) h := by
  obtain ⟨⟨p, l, e, s, m, args, below, meth, c⟩, G, E, N⟩ := a
  obtain ⟨hx, hb, hml, hr, ho, hlk, hK, hAD, hN, hex, hl0, hG⟩ := O
  intro cs cl hh H locs la hP hS hL
  exact lv_i2d hx hb hd (kk (fun v hv => (List.mem_cons.mp hv).elim (fun e => e ▸ trivial) (fun q => cs v (List.mem_cons_of_mem _ q))) cl hh H locs la hP hS hL)

theorem zV_fdiv (O : zOk l0 a cc own mL ret mn tb) {x y : UInt32}
    (hd : decode cc pc = .ok (.fdiv, 1)) (hn : vf_n32 (FP.fdiv x y)) (kk : zV a M k n (pc + 1) ls (aF (FP.fdiv x y) :: st) h) : zV a M k n pc ls (aF y :: aF x :: st) h := by
  obtain ⟨⟨p, l, e, s, m, args, below, meth, c⟩, G, E, N⟩ := a
  obtain ⟨hx, hb, hml, hr, ho, hlk, hK, hAD, hN, hex, hl0, hG⟩ := O
  intro cs cl hh H locs la hP hS hL
  exact lv_fdiv hx hb hd hn (kk (fun v hv => (List.mem_cons.mp hv).elim (fun e => e ▸ trivial) (fun q => cs v (List.mem_cons_of_mem _ (List.mem_cons_of_mem _ q)))) cl hh H locs la hP hS hL)

theorem zV_ddiv (O : zOk l0 a cc own mL ret mn tb) {x y : UInt64}
    (hd : decode cc pc = .ok (.ddiv, 1)) (hn : vf_n64 (FP.ddiv x y)) (kk : zV a M k n (pc + 1) ls (aD (FP.ddiv x y) :: st) h) : zV a M k n pc ls (aD y :: aD x :: st) h := by
  obtain ⟨⟨p, l, e, s, m, args, below, meth, c⟩, G, E, N⟩ := a
  obtain ⟨hx, hb, hml, hr, ho, hlk, hK, hAD, hN, hex, hl0, hG⟩ := O
  intro cs cl hh H locs la hP hS hL
  exact lv_ddiv hx hb hd hn (kk (fun v hv => (List.mem_cons.mp hv).elim (fun e => e ▸ trivial) (fun q => cs v (List.mem_cons_of_mem _ (List.mem_cons_of_mem _ q)))) cl hh H locs la hP hS hL)

theorem zV_f2d (O : zOk l0 a cc own mL ret mn tb) {x : UInt32}
    (hd : decode cc pc = .ok (.f2d, 1)) (hn : vf_n64 (FP.f2d x)) (kk : zV a M k n (pc + 1) ls (aD (FP.f2d x) :: st) h) : zV a M k n pc ls (aF x :: st) h := by
  obtain ⟨⟨p, l, e, s, m, args, below, meth, c⟩, G, E, N⟩ := a
  obtain ⟨hx, hb, hml, hr, ho, hlk, hK, hAD, hN, hex, hl0, hG⟩ := O
  intro cs cl hh H locs la hP hS hL
  exact lv_f2d hx hb hd hn (kk (fun v hv => (List.mem_cons.mp hv).elim (fun e => e ▸ trivial) (fun q => cs v (List.mem_cons_of_mem _ q))) cl hh H locs la hP hS hL)

def zdcmp (x y : UInt64) (op : CmpOp) : Int := (Op.cmpValue (FP.dcmp x y) op).toInt
theorem zV_dcmp (O : zOk l0 a cc own mL ret mn tb) {x y : UInt64} {op : CmpOp}
    (hd : decode cc pc = .ok (.dcmp op, 1)) (kk : zV a M k n (pc + 1) ls (aI (zdcmp x y op) :: st) h) : zV a M k n pc ls (aD y :: aD x :: st) h := by
  obtain ⟨⟨p, l, e, s, m, args, below, meth, c⟩, G, E, N⟩ := a
  obtain ⟨hx, hb, hml, hr, ho, hlk, hK, hAD, hN, hex, hl0, hG⟩ := O
  intro cs cl hh H locs la hP hS hL
  refine lv_dcmp hx hb hd ?_
  have k2 := kk (fun v hv => (List.mem_cons.mp hv).elim (fun e => e ▸ zr_I _) (fun q => cs v (List.mem_cons_of_mem _ (List.mem_cons_of_mem _ q)))) cl hh H locs la hP hS hL
  rw [List.map_cons, show cv E (aI (zdcmp x y op)) = .int (Int32.ofInt (zdcmp x y op)) from rfl, show Int32.ofInt (zdcmp x y op) = _ from Int32.ofInt_toInt _] at k2
  exact k2

theorem zV_dup (O : zOk l0 a cc own mL ret mn tb) {v0 : AV} (hw : zwide v0 = false)
    (hd : decode cc pc = .ok (.dup, 1)) (kk : zV a M k n (pc + 1) ls (v0 :: v0 :: st) h) : zV a M k n pc ls (v0 :: st) h := by
  obtain ⟨⟨p, l, e, s, m, args, below, meth, c⟩, G, E, N⟩ := a
  obtain ⟨hx, hb, hml, hr, ho, hlk, hK, hAD, hN, hex, hl0, hG⟩ := O
  intro cs cl hh H locs la hP hS hL
  exact lv_dup hx hb hd (by rw [zcat, hw]; rfl) (kk (fun v hv => (List.mem_cons.mp hv).elim (fun e => e ▸ cs v0 List.mem_cons_self) (cs v)) cl hh H locs la hP hS hL)

theorem zV_pop (O : zOk l0 a cc own mL ret mn tb) {v0 : AV} (hw : zwide v0 = false)
    (hd : decode cc pc = .ok (.pop, 1)) (kk : zV a M k n (pc + 1) ls st h) : zV a M k n pc ls (v0 :: st) h := by
  obtain ⟨⟨p, l, e, s, m, args, below, meth, c⟩, G, E, N⟩ := a
  obtain ⟨hx, hb, hml, hr, ho, hlk, hK, hAD, hN, hex, hl0, hG⟩ := O
  intro cs cl hh H locs la hP hS hL
  exact lv_pop hx hb hd (by rw [zcat, hw]; rfl) (kk (fun v hv => cs v (List.mem_cons_of_mem _ hv)) cl hh H locs la hP hS hL)

theorem zV_dup2 (O : zOk l0 a cc own mL ret mn tb) {v0 v1 : AV} (hw : zwide v0 = false) (hw1 : zwide v1 = false)
    (hd : decode cc pc = .ok (.dup2, 1)) (kk : zV a M k n (pc + 1) ls (v0 :: v1 :: v0 :: v1 :: st) h) : zV a M k n pc ls (v0 :: v1 :: st) h := by
  obtain ⟨⟨p, l, e, s, m, args, below, meth, c⟩, G, E, N⟩ := a
  obtain ⟨hx, hb, hml, hr, ho, hlk, hK, hAD, hN, hex, hl0, hG⟩ := O
  intro cs cl hh H locs la hP hS hL
  exact lv_dup2_11 hx hb hd (by rw [zcat, hw]; rfl) (by rw [zcat, hw1]; rfl) (kk (fun v hv => (List.mem_cons.mp hv).elim (fun e => e ▸ cs v0 (by simp)) (fun hv => (List.mem_cons.mp hv).elim (fun e => e ▸ cs v1 (by simp)) (cs v))) cl hh H locs la hP hS hL)

theorem zV_if_eq (O : zOk l0 a cc own mL ret mn tb) {x off : Int} {tgt : Nat}
    (hd : decode cc pc = .ok (.ifCond .eq off, 3)) (ht : (pc : Int) + off = (tgt : Int)) (kt : x = 0 → zV a M k n tgt ls st h) (kf : ¬ x = 0 → zV a M k n (pc + 3) ls st h) : zV a M k n pc ls (aI x :: st) h := by
  obtain ⟨⟨p, l, e, s, m, args, below, meth, c⟩, G, E, N⟩ := a
  obtain ⟨hx, hb, hml, hr, ho, hlk, hK, hAD, hN, hex, hl0, hG⟩ := O
  intro cs cl hh H locs la hP hS hL
  have cx : zr x := cs (aI x) (by simp)
  exact lv_if_eq hx hb hd ht (fun q => kt ((zI_eq cx zr0).mp q) (fun v hv => cs v (List.mem_cons_of_mem _ hv)) cl hh H locs la hP hS hL) (fun q => kf (fun w => q ((zI_eq cx zr0).mpr w)) (fun v hv => cs v (List.mem_cons_of_mem _ hv)) cl hh H locs la hP hS hL)

theorem zV_icmp_eq (O : zOk l0 a cc own mL ret mn tb) {x y off : Int} {tgt : Nat}
    (hd : decode cc pc = .ok (.if_icmp .eq off, 3)) (ht : (pc : Int) + off = (tgt : Int)) (kt : x = y → zV a M k n tgt ls st h) (kf : ¬ x = y → zV a M k n (pc + 3) ls st h) : zV a M k n pc ls (aI y :: aI x :: st) h := by
  obtain ⟨⟨p, l, e, s, m, args, below, meth, c⟩, G, E, N⟩ := a
  obtain ⟨hx, hb, hml, hr, ho, hlk, hK, hAD, hN, hex, hl0, hG⟩ := O
  intro cs cl hh H locs la hP hS hL
  have cx : zr x := cs (aI x) (by simp)
  have cy : zr y := cs (aI y) (by simp)
  exact lv_icmp_eq hx hb hd ht (fun q => kt ((zI_eq cx cy).mp q) (fun v hv => cs v (List.mem_cons_of_mem _ (List.mem_cons_of_mem _ hv))) cl hh H locs la hP hS hL) (fun q => kf (fun w => q ((zI_eq cx cy).mpr w)) (fun v hv => cs v (List.mem_cons_of_mem _ (List.mem_cons_of_mem _ hv))) cl hh H locs la hP hS hL)

theorem zV_if_ne (O : zOk l0 a cc own mL ret mn tb) {x off : Int} {tgt : Nat}
    (hd : decode cc pc = .ok (.ifCond .ne off, 3)) (ht : (pc : Int) + off = (tgt : Int)) (kt : ¬ x = 0 → zV a M k n tgt ls st h) (kf : x = 0 → zV a M k n (pc + 3) ls st h) : zV a M k n pc ls (aI x :: st) h := by
  obtain ⟨⟨p, l, e, s, m, args, below, meth, c⟩, G, E, N⟩ := a
  obtain ⟨hx, hb, hml, hr, ho, hlk, hK, hAD, hN, hex, hl0, hG⟩ := O
  intro cs cl hh H locs la hP hS hL
  have cx : zr x := cs (aI x) (by simp)
  exact lv_if_ne hx hb hd ht (fun q => kt (fun w => q ((zI_eq cx zr0).mpr w)) (fun v hv => cs v (List.mem_cons_of_mem _ hv)) cl hh H locs la hP hS hL) (fun q => kf ((zI_eq cx zr0).mp q) (fun v hv => cs v (List.mem_cons_of_mem _ hv)) cl hh H locs la hP hS hL)

theorem zV_icmp_ne (O : zOk l0 a cc own mL ret mn tb) {x y off : Int} {tgt : Nat}
    (hd : decode cc pc = .ok (.if_icmp .ne off, 3)) (ht : (pc : Int) + off = (tgt : Int)) (kt : ¬ x = y → zV a M k n tgt ls st h) (kf : x = y → zV a M k n (pc + 3) ls st h) : zV a M k n pc ls (aI y :: aI x :: st) h := by
  obtain ⟨⟨p, l, e, s, m, args, below, meth, c⟩, G, E, N⟩ := a
  obtain ⟨hx, hb, hml, hr, ho, hlk, hK, hAD, hN, hex, hl0, hG⟩ := O
  intro cs cl hh H locs la hP hS hL
  have cx : zr x := cs (aI x) (by simp)
  have cy : zr y := cs (aI y) (by simp)
  exact lv_icmp_ne hx hb hd ht (fun q => kt (fun w => q ((zI_eq cx cy).mpr w)) (fun v hv => cs v (List.mem_cons_of_mem _ (List.mem_cons_of_mem _ hv))) cl hh H locs la hP hS hL) (fun q => kf ((zI_eq cx cy).mp q) (fun v hv => cs v (List.mem_cons_of_mem _ (List.mem_cons_of_mem _ hv))) cl hh H locs la hP hS hL)

theorem zV_if_lt (O : zOk l0 a cc own mL ret mn tb) {x off : Int} {tgt : Nat}
    (hd : decode cc pc = .ok (.ifCond .lt off, 3)) (ht : (pc : Int) + off = (tgt : Int)) (kt : x < 0 → zV a M k n tgt ls st h) (kf : ¬ x < 0 → zV a M k n (pc + 3) ls st h) : zV a M k n pc ls (aI x :: st) h := by
  obtain ⟨⟨p, l, e, s, m, args, below, meth, c⟩, G, E, N⟩ := a
  obtain ⟨hx, hb, hml, hr, ho, hlk, hK, hAD, hN, hex, hl0, hG⟩ := O
  intro cs cl hh H locs la hP hS hL
  have cx : zr x := cs (aI x) (by simp)
  exact lv_if_lt hx hb hd ht (fun q => kt ((zI_lt cx zr0).mp q) (fun v hv => cs v (List.mem_cons_of_mem _ hv)) cl hh H locs la hP hS hL) (fun q => kf (fun w => q ((zI_lt cx zr0).mpr w)) (fun v hv => cs v (List.mem_cons_of_mem _ hv)) cl hh H locs la hP hS hL)

theorem zV_icmp_lt (O : zOk l0 a cc own mL ret mn tb) {x y off : Int} {tgt : Nat}
    (hd : decode cc pc = .ok (.if_icmp .lt off, 3)) (ht : (pc : Int) + off = (tgt : Int)) (kt : x < y → zV a M k n tgt ls st h) (kf : ¬ x < y → zV a M k n (pc + 3) ls st h) : zV a M k n pc ls (aI y :: aI x :: st) h := by
  obtain ⟨⟨p, l, e, s, m, args, below, meth, c⟩, G, E, N⟩ := a
  obtain ⟨hx, hb, hml, hr, ho, hlk, hK, hAD, hN, hex, hl0, hG⟩ := O
  intro cs cl hh H locs la hP hS hL
  have cx : zr x := cs (aI x) (by simp)
  have cy : zr y := cs (aI y) (by simp)
  exact lv_icmp_lt hx hb hd ht (fun q => kt ((zI_lt cx cy).mp q) (fun v hv => cs v (List.mem_cons_of_mem _ (List.mem_cons_of_mem _ hv))) cl hh H locs la hP hS hL) (fun q => kf (fun w => q ((zI_lt cx cy).mpr w)) (fun v hv => cs v (List.mem_cons_of_mem _ (List.mem_cons_of_mem _ hv))) cl hh H locs la hP hS hL)

theorem zV_if_ge (O : zOk l0 a cc own mL ret mn tb) {x off : Int} {tgt : Nat}
    (hd : decode cc pc = .ok (.ifCond .ge off, 3)) (ht : (pc : Int) + off = (tgt : Int)) (kt : 0 ≤ x → zV a M k n tgt ls st h) (kf : ¬ 0 ≤ x → zV a M k n (pc + 3) ls st h) : zV a M k n pc ls (aI x :: st) h := by
  obtain ⟨⟨p, l, e, s, m, args, below, meth, c⟩, G, E, N⟩ := a
  obtain ⟨hx, hb, hml, hr, ho, hlk, hK, hAD, hN, hex, hl0, hG⟩ := O
  intro cs cl hh H locs la hP hS hL
  have cx : zr x := cs (aI x) (by simp)
  exact lv_if_ge hx hb hd ht (fun q => kt ((zI_le zr0 cx).mp q) (fun v hv => cs v (List.mem_cons_of_mem _ hv)) cl hh H locs la hP hS hL) (fun q => kf (fun w => q ((zI_le zr0 cx).mpr w)) (fun v hv => cs v (List.mem_cons_of_mem _ hv)) cl hh H locs la hP hS hL)

theorem zV_icmp_ge (O : zOk l0 a cc own mL ret mn tb) {x y off : Int} {tgt : Nat}
    (hd : decode cc pc = .ok (.if_icmp .ge off, 3)) (ht : (pc : Int) + off = (tgt : Int)) (kt : y ≤ x → zV a M k n tgt ls st h) (kf : ¬ y ≤ x → zV a M k n (pc + 3) ls st h) : zV a M k n pc ls (aI y :: aI x :: st) h := by
  obtain ⟨⟨p, l, e, s, m, args, below, meth, c⟩, G, E, N⟩ := a
  obtain ⟨hx, hb, hml, hr, ho, hlk, hK, hAD, hN, hex, hl0, hG⟩ := O
  intro cs cl hh H locs la hP hS hL
  have cx : zr x := cs (aI x) (by simp)
  have cy : zr y := cs (aI y) (by simp)
  exact lv_icmp_ge hx hb hd ht (fun q => kt ((zI_le cy cx).mp q) (fun v hv => cs v (List.mem_cons_of_mem _ (List.mem_cons_of_mem _ hv))) cl hh H locs la hP hS hL) (fun q => kf (fun w => q ((zI_le cy cx).mpr w)) (fun v hv => cs v (List.mem_cons_of_mem _ (List.mem_cons_of_mem _ hv))) cl hh H locs la hP hS hL)

theorem zV_if_gt (O : zOk l0 a cc own mL ret mn tb) {x off : Int} {tgt : Nat}
    (hd : decode cc pc = .ok (.ifCond .gt off, 3)) (ht : (pc : Int) + off = (tgt : Int)) (kt : 0 < x → zV a M k n tgt ls st h) (kf : ¬ 0 < x → zV a M k n (pc + 3) ls st h) : zV a M k n pc ls (aI x :: st) h := by
  obtain ⟨⟨p, l, e, s, m, args, below, meth, c⟩, G, E, N⟩ := a
  obtain ⟨hx, hb, hml, hr, ho, hlk, hK, hAD, hN, hex, hl0, hG⟩ := O
  intro cs cl hh H locs la hP hS hL
  have cx : zr x := cs (aI x) (by simp)
  exact lv_if_gt hx hb hd ht (fun q => kt ((zI_lt zr0 cx).mp q) (fun v hv => cs v (List.mem_cons_of_mem _ hv)) cl hh H locs la hP hS hL) (fun q => kf (fun w => q ((zI_lt zr0 cx).mpr w)) (fun v hv => cs v (List.mem_cons_of_mem _ hv)) cl hh H locs la hP hS hL)

theorem zV_icmp_gt (O : zOk l0 a cc own mL ret mn tb) {x y off : Int} {tgt : Nat}
    (hd : decode cc pc = .ok (.if_icmp .gt off, 3)) (ht : (pc : Int) + off = (tgt : Int)) (kt : y < x → zV a M k n tgt ls st h) (kf : ¬ y < x → zV a M k n (pc + 3) ls st h) : zV a M k n pc ls (aI y :: aI x :: st) h := by
  obtain ⟨⟨p, l, e, s, m, args, below, meth, c⟩, G, E, N⟩ := a
  obtain ⟨hx, hb, hml, hr, ho, hlk, hK, hAD, hN, hex, hl0, hG⟩ := O
  intro cs cl hh H locs la hP hS hL
  have cx : zr x := cs (aI x) (by simp)
  have cy : zr y := cs (aI y) (by simp)
  exact lv_icmp_gt hx hb hd ht (fun q => kt ((zI_lt cy cx).mp q) (fun v hv => cs v (List.mem_cons_of_mem _ (List.mem_cons_of_mem _ hv))) cl hh H locs la hP hS hL) (fun q => kf (fun w => q ((zI_lt cy cx).mpr w)) (fun v hv => cs v (List.mem_cons_of_mem _ (List.mem_cons_of_mem _ hv))) cl hh H locs la hP hS hL)

theorem zV_if_le (O : zOk l0 a cc own mL ret mn tb) {x off : Int} {tgt : Nat}
    (hd : decode cc pc = .ok (.ifCond .le off, 3)) (ht : (pc : Int) + off = (tgt : Int)) (kt : x ≤ 0 → zV a M k n tgt ls st h) (kf : ¬ x ≤ 0 → zV a M k n (pc + 3) ls st h) : zV a M k n pc ls (aI x :: st) h := by
  obtain ⟨⟨p, l, e, s, m, args, below, meth, c⟩, G, E, N⟩ := a
  obtain ⟨hx, hb, hml, hr, ho, hlk, hK, hAD, hN, hex, hl0, hG⟩ := O
  intro cs cl hh H locs la hP hS hL
  have cx : zr x := cs (aI x) (by simp)
  exact lv_if_le hx hb hd ht (fun q => kt ((zI_le cx zr0).mp q) (fun v hv => cs v (List.mem_cons_of_mem _ hv)) cl hh H locs la hP hS hL) (fun q => kf (fun w => q ((zI_le cx zr0).mpr w)) (fun v hv => cs v (List.mem_cons_of_mem _ hv)) cl hh H locs la hP hS hL)

theorem zV_icmp_le (O : zOk l0 a cc own mL ret mn tb) {x y off : Int} {tgt : Nat}
    (hd : decode cc pc = .ok (.if_icmp .le off, 3)) (ht : (pc : Int) + off = (tgt : Int)) (kt : x ≤ y → zV a M k n tgt ls st h) (kf : ¬ x ≤ y → zV a M k n (pc + 3) ls st h) : zV a M k n pc ls (aI y :: aI x :: st) h := by
  obtain ⟨⟨p, l, e, s, m, args, below, meth, c⟩, G, E, N⟩ := a
  obtain ⟨hx, hb, hml, hr, ho, hlk, hK, hAD, hN, hex, hl0, hG⟩ := O
  intro cs cl hh H locs la hP hS hL
  have cx : zr x := cs (aI x) (by simp)
  have cy : zr y := cs (aI y) (by simp)
  exact lv_icmp_le hx hb hd ht (fun q => kt ((zI_le cx cy).mp q) (fun v hv => cs v (List.mem_cons_of_mem _ (List.mem_cons_of_mem _ hv))) cl hh H locs la hP hS hL) (fun q => kf (fun w => q ((zI_le cx cy).mpr w)) (fun v hv => cs v (List.mem_cons_of_mem _ (List.mem_cons_of_mem _ hv))) cl hh H locs la hP hS hL)

theorem zV_goto (O : zOk l0 a cc own mL ret mn tb) {off : Int} {tgt : Nat}
    (hd : decode cc pc = .ok (.goto off, 3)) (ht : (pc : Int) + off = (tgt : Int)) (kk : zV a M k n tgt ls st h) : zV a M k n pc ls st h := by
  obtain ⟨⟨p, l, e, s, m, args, below, meth, c⟩, G, E, N⟩ := a
  obtain ⟨hx, hb, hml, hr, ho, hlk, hK, hAD, hN, hex, hl0, hG⟩ := O
  intro cs cl hh H locs la hP hS hL
  exact lv_goto hx hb hd ht (kk cs cl hh H locs la hP hS hL)

theorem zV_ifnull (O : zOk l0 a cc own mL ret mn tb) {q : Nat} {off : Int}
    (hd : decode cc pc = .ok (.ifnull off, 3)) (kk : zV a M k n (pc + 3) ls st h) : zV a M k n pc ls (aR q :: st) h := by
  obtain ⟨⟨p, l, e, s, m, args, below, meth, c⟩, G, E, N⟩ := a
  obtain ⟨hx, hb, hml, hr, ho, hlk, hK, hAD, hN, hex, hl0, hG⟩ := O
  intro cs cl hh H locs la hP hS hL
  exact lv_ifnull hx hb hd (kk (fun v hv => cs v (List.mem_cons_of_mem _ hv)) cl hh H locs la hP hS hL)

theorem zV_tableIn (O : zOk l0 a cc own mL ret mn tb) {x dflt lo hi off : Int} {offs : Array Int} {len tgt : Nat}
    (hd : decode cc pc = .ok (.tableswitch dflt lo hi offs, len)) (h1 : lo ≤ x) (h2 : x ≤ hi) (ho2 : offs[(x - lo).toNat]? = some off) (ht : (pc : Int) + off = (tgt : Int)) (kk : zV a M k n tgt ls st h) : zV a M k n pc ls (aI x :: st) h := by
  obtain ⟨⟨p, l, e, s, m, args, below, meth, c⟩, G, E, N⟩ := a
  obtain ⟨hx, hb, hml, hr, ho, hlk, hK, hAD, hN, hex, hl0, hG⟩ := O
  intro cs cl hh H locs la hP hS hL
  have cx : zr x := cs (aI x) (by simp)
  exact lv_tableIn hx hb hd (by rw [zI_toInt cx]; omega) (by rw [zI_toInt cx]; omega) (by rw [zI_toInt cx]; exact ho2) ht (kk (fun v hv => cs v (List.mem_cons_of_mem _ hv)) cl hh H locs la hP hS hL)

theorem zV_tableOut (O : zOk l0 a cc own mL ret mn tb) {x dflt lo hi : Int} {offs : Array Int} {len tgt : Nat}
    (hd : decode cc pc = .ok (.tableswitch dflt lo hi offs, len)) (h1 : x < lo ∨ hi < x) (ht : (pc : Int) + dflt = (tgt : Int)) (kk : zV a M k n tgt ls st h) : zV a M k n pc ls (aI x :: st) h := by
  obtain ⟨⟨p, l, e, s, m, args, below, meth, c⟩, G, E, N⟩ := a
  obtain ⟨hx, hb, hml, hr, ho, hlk, hK, hAD, hN, hex, hl0, hG⟩ := O
  intro cs cl hh H locs la hP hS hL
  have cx : zr x := cs (aI x) (by simp)
  exact lv_tableOut hx hb hd (by rw [zI_toInt cx]; exact h1) ht (kk (fun v hv => cs v (List.mem_cons_of_mem _ hv)) cl hh H locs la hP hS hL)

theorem zV_less {ls2 : List (Option AV)} (hs : ∀ i : Nat, i < ls2.length → ls2[i]? = some none ∨ ls2[i]? = ls[i]?) (kk : zV a M k n pc ls2 st h) : zV a M k n pc ls st h := by
  obtain ⟨⟨p, l, e, s, m, args, below, meth, c⟩, G, E, N⟩ := a
  intro cs cl hh H locs la hP hS hL
  have key : ∀ (i : Nat) (v : AV), ls2[i]? = some (some v) → ls[i]? = some (some v) := fun i v hv => by
    rcases hs i (List.getElem?_eq_some_iff.mp hv).1 with q | q
    · rw [q] at hv; cases hv
    · rw [← q]; exact hv
  refine kk cs (fun v hv => ?_) hh H locs la hP hS (lv_less hL fun q hq => ?_)
  · obtain ⟨i, hi⟩ := List.getElem?_of_mem hv
    exact cl v (List.mem_of_getElem? (key i v hi))
  · rw [zpr_mem] at hq ⊢
    obtain ⟨j, v, h1, h2⟩ := hq
    exact ⟨j, v, h1, key j v h2⟩
theorem zV_widen {k2 n2 : Nat} (h1 : k ≤ k2) (h2 : n ≤ n2) (kk : zV a M k2 n2 pc ls st h) : zV a M k n pc ls st h := by
  obtain ⟨⟨p, l, e, s, m, args, below, meth, c⟩, G, E, N⟩ := a
  intro cs cl hh H locs la hP hS hL
  exact W.widen h1 h2 (kk cs cl hh H locs la hP hS hL)
end ZR
end
section
/-! rows of the light layer that read and write the heap, call and leave -/
def zIn (w : Cond) : Prop := w ∈ lw_tbl ∧ zok w = true
theorem zIn_use {U : State} {w : Cond} {A : Array Value} (h : zKW U) (hw : zIn w) : w.before A U = true := zKW_use h hw.1 hw.2
/-- a field as an instruction names it: class and place of the field, its type, whether it is final -/
def zFl (own : String) (idx ci k : Nat) (ft : FieldType) (fin : Bool) : Prop := ∃ (C : String) (T : u_T) (N : Nat) (ty : Nat → FieldType), vwCl[ci]? = some (C, T, N) ∧ k < N ∧ (∀ w ∈ u_ws C T N, zIn w) ∧
  (∀ j, j < N → parseFieldDescriptor (T j).2.2.1 = some (ty j)) ∧ (∀ a, a < N → ∀ b, b < N → a ≠ b → (T a).2.1 ≠ (T b).2.1) ∧ ty k = ft ∧ (T k).2.2.2 = fin ∧
  (zIn (.fieldLink own idx (T k).1 (T k).2.1 (T k).2.2.1) ∨ ∃ host, zIn (.fieldLinkNest own idx (T k).1 (T k).2.1 (T k).2.2.1 host))
section ZH
variable {l0 : Launch} {a : ZC} {M : ZM} {cc : ByteArray} {own : String} {mL : Nat} {ret : Option FieldType} {mn : Nat} {tb : List (Nat × Nat × Nat × Nat)} {k n pc : Nat} {ls : List (Option AV)} {st : List AV} {h : Hp}
theorem zV_get0 {p l e R s m args below meth c H locs Q} {E : EE} {N idx ci i pl t : Nat} {ft : FieldType} {fin : Bool} {l1 : List Nat} {la : Array Slot} {rest : List Value} (hx : p.tables.exec = Jvm.exec) (hb : c.code = cc) (ho : s.vm.findClass own = some m.cls) (hK : zKK l E s) (F : zFl own idx ci i ft fin) (ht : zT[pl]? = some (.inr (ci, l1))) (hi : l1[i]? = some t) (hp : pl < N) (hP : zWd E N h H)
    (hd : decode cc pc = .ok (.getfield idx, 3)) (kk : W p l e R s m args below meth c H locs k n Q (F0 m (pc + 3) la (zf E h pl i t :: rest))) : W p l e R s m args below meth c H locs k n Q (F0 m pc la (.ref (E.1 pl) :: rest)) := by
  obtain ⟨C, T, N1, ty, hc, hk, hu, hty, hnm, hft, hfin, hl⟩ := F
  have hat := zws_get (E := E) (h := h) hp
  rw [zat_of ht] at hat
  have hv : (zfs E h pl 0 l1)[i]? = some (zf E h pl i t) := by rw [zfs_get, hi, Nat.zero_add]; rfl
  rcases hl with hl | ⟨host, hl⟩
  · exact va_get hx hb (Ts := u_ws C T N1) (fun w hw => zIn_use hK.2.1 (hu w hw)) (fun _ h => h) ho hK.1 hP pl hat hc i hk (zIn_use hK.2.1 hl) (fun _ h => h) hv hd kk
  · exact va_getN hx hb (Ts := u_ws C T N1) (fun w hw => zIn_use hK.2.1 (hu w hw)) (fun _ h => h) ho hK.1 hP pl hat hc i hk (zIn_use hK.2.1 hl) (fun _ h => h) hv hd kk
theorem zty_o {pl ci i t : Nat} {l1 : List Nat} (ht : zT[pl]? = some (.inr (ci, l1))) (hi : l1[i]? = some t) : zty pl i = (match t with | 1 => 1 | 2 => 2 | _ => 0) := by
  unfold zty
  rw [ht]
  simp only [hi]
  rcases t with _ | _ | _ | t <;> rfl
/-- a whole number's field -/
theorem zV_getI (O : zOk l0 a cc own mL ret mn tb) {idx ci i pl : Nat} {ft : FieldType} {fin : Bool} {l1 : List Nat} (F : zFl own idx ci i ft fin) (ht : zT[pl]? = some (.inr (ci, l1))) (hi : l1[i]? = some 0) (hp : pl < mn)
    (hd : decode cc pc = .ok (.getfield idx, 3)) (kk : zV a M k n (pc + 3) ls (aI (h pl i) :: st) h) : zV a M k n pc ls (aR pl :: st) h := by
  obtain ⟨⟨p, l, e, s, m, args, below, meth, c⟩, G, E, N⟩ := a
  obtain ⟨hx, hb, hml, hr, ho, hlk, hK, hAD, hN, hex, hl0, hG⟩ := O
  intro cs cl hh H locs la hP hS hL
  have hz : zr (h pl i) := by have := hh pl i; rw [zty_o ht hi] at this; exact this
  exact zV_get0 hx hb ho hK F ht hi (Nat.lt_of_lt_of_le hp hN) hP hd (kk (fun v hv => (List.mem_cons.mp hv).elim (fun e => e ▸ hz) (fun hv => cs v (List.mem_cons_of_mem _ hv))) cl hh H locs la hP hS hL)
theorem zV_getZ (O : zOk l0 a cc own mL ret mn tb) {idx ci i pl : Nat} {ft : FieldType} {fin : Bool} {l1 : List Nat} (F : zFl own idx ci i ft fin) (ht : zT[pl]? = some (.inr (ci, l1))) (hi : l1[i]? = some 2) (hp : pl < mn)
    (hd : decode cc pc = .ok (.getfield idx, 3)) (kk : (h pl i = 0 ∨ h pl i = 1) → zV a M k n (pc + 3) ls (aI (h pl i) :: st) h) : zV a M k n pc ls (aR pl :: st) h := by
  obtain ⟨⟨p, l, e, s, m, args, below, meth, c⟩, G, E, N⟩ := a
  obtain ⟨hx, hb, hml, hr, ho, hlk, hK, hAD, hN, hex, hl0, hG⟩ := O
  intro cs cl hh H locs la hP hS hL
  have hz : h pl i = 0 ∨ h pl i = 1 := by have := hh pl i; rw [zty_o ht hi] at this; exact this
  have hz2 : zr (h pl i) := by rcases hz with q | q <;> rw [q] <;> exact ⟨by omega, by omega⟩
  exact zV_get0 hx hb ho hK F ht hi (Nat.lt_of_lt_of_le hp hN) hP hd (kk hz (fun v hv => (List.mem_cons.mp hv).elim (fun e => e ▸ hz2) (fun hv => cs v (List.mem_cons_of_mem _ hv))) cl hh H locs la hP hS hL)
theorem zV_getL (O : zOk l0 a cc own mL ret mn tb) {idx ci i pl : Nat} {ft : FieldType} {fin : Bool} {l1 : List Nat} (F : zFl own idx ci i ft fin) (ht : zT[pl]? = some (.inr (ci, l1))) (hi : l1[i]? = some 1) (hp : pl < mn)
    (hd : decode cc pc = .ok (.getfield idx, 3)) (kk : zV a M k n (pc + 3) ls (aL (h pl i) :: st) h) : zV a M k n pc ls (aR pl :: st) h := by
  obtain ⟨⟨p, l, e, s, m, args, below, meth, c⟩, G, E, N⟩ := a
  obtain ⟨hx, hb, hml, hr, ho, hlk, hK, hAD, hN, hex, hl0, hG⟩ := O
  intro cs cl hh H locs la hP hS hL
  have hz : zr6 (h pl i) := by have := hh pl i; rw [zty_o ht hi] at this; exact this
  exact zV_get0 hx hb ho hK F ht hi (Nat.lt_of_lt_of_le hp hN) hP hd (kk (fun v hv => (List.mem_cons.mp hv).elim (fun e => e ▸ hz) (fun hv => cs v (List.mem_cons_of_mem _ hv))) cl hh H locs la hP hS hL)
theorem zV_getR (O : zOk l0 a cc own mL ret mn tb) {idx ci i pl q : Nat} {ft : FieldType} {fin : Bool} {l1 : List Nat} (F : zFl own idx ci i ft fin) (ht : zT[pl]? = some (.inr (ci, l1))) (hi : l1[i]? = some (q + 3)) (hp : pl < mn)
    (hd : decode cc pc = .ok (.getfield idx, 3)) (kk : zV a M k n (pc + 3) ls (aR q :: st) h) : zV a M k n pc ls (aR pl :: st) h := by
  obtain ⟨⟨p, l, e, s, m, args, below, meth, c⟩, G, E, N⟩ := a
  obtain ⟨hx, hb, hml, hr, ho, hlk, hK, hAD, hN, hex, hl0, hG⟩ := O
  intro cs cl hh H locs la hP hS hL
  exact zV_get0 hx hb ho hK F ht hi (Nat.lt_of_lt_of_le hp hN) hP hd (kk (fun v hv => (List.mem_cons.mp hv).elim (fun e => e ▸ trivial) (fun hv => cs v (List.mem_cons_of_mem _ hv))) cl hh H locs la hP hS hL)
theorem zV_put0 {p l e R s m args below meth c H locs Q} {E : EE} {N idx ci i pl t : Nat} {ft : FieldType} {l1 : List Nat} {la : Array Slot} {rest : List Value} {z : Int} (hx : p.tables.exec = Jvm.exec) (hb : c.code = cc) (ho : s.vm.findClass own = some m.cls) (hK : zKK l E s) (hAD : zAD E N) (F : zFl own idx ci i ft false) (ht : zT[pl]? = some (.inr (ci, l1))) (hi : l1[i]? = some t) (hp : pl < N) (hP : zWd E N h H) (hS : va_S (zge E) s.heap H locs)
    (hn : narrow ft (zf E (hu h pl i z) pl i t) = zf E (hu h pl i z) pl i t) (hf : fits ft (zf E (hu h pl i z) pl i t) = true)
    (hd : decode cc pc = .ok (.putfield idx, 3)) (kk : ∀ (H1 : Heap) (locs1 : List Loc), zWd E N (hu h pl i z) H1 → va_S (zge E) s.heap H1 locs1 → W p l e R s m args below meth c H1 locs1 k n Q (F0 m (pc + 3) la rest)) : W p l e R s m args below meth c H locs k n Q (F0 m pc la (zf E (hu h pl i z) pl i t :: .ref (E.1 pl) :: rest)) := by
  obtain ⟨C, T, N1, ty, hc, hk, hu2, hty, hnm, hft, hfin, hl⟩ := F
  have hat := zws_get (E := E) (h := h) hp
  rw [zat_of ht] at hat
  have hlen : i < (zfs E h pl 0 l1).length := by rw [zfs_len]; exact (List.getElem?_eq_some_iff.mp hi).1
  have hset : (zws E N h).set pl (E.1 pl, .inr (ci, (zfs E h pl 0 l1).set i (zf E (hu h pl i z) pl i t))) = zws E N (hu h pl i z) := by
    refine zws_set ?_ (fun p' hp' j => hu_np hp')
    rw [zat_of ht, zfs_set l1 hi]
    rfl
  have hpd : parseFieldDescriptor (T i).2.2.1 = some ft := by rw [hty i hk, hft]
  rcases hl with hl | ⟨host, hl⟩
  · refine va_put hx hb (Ts := u_ws C T N1) (fun w hw => zIn_use hK.2.1 (hu2 w hw)) (fun _ h => h) ty hty hnm ho hK.1 hP (hAD.D h) hS pl hat hc i hk (zIn_use hK.2.1 hl) (fun _ h => h) hfin hpd hn hf hlen hd fun H1 locs1 hP1 hD1 hS1 => ?_
    rw [hset] at hP1
    exact kk H1 locs1 hP1 hS1
  · refine va_putN hx hb (Ts := u_ws C T N1) (fun w hw => zIn_use hK.2.1 (hu2 w hw)) (fun _ h => h) ty hty hnm ho hK.1 hP (hAD.D h) hS pl hat hc i hk (zIn_use hK.2.1 hl) (fun _ h => h) hfin hpd hn hf hlen hd fun H1 locs1 hP1 hD1 hS1 => ?_
    rw [hset] at hP1
    exact kk H1 locs1 hP1 hS1
theorem zV_putI (O : zOk l0 a cc own mL ret mn tb) {idx ci i pl : Nat} {l1 : List Nat} {z : Int} (F : zFl own idx ci i .int false) (ht : zT[pl]? = some (.inr (ci, l1))) (hi : l1[i]? = some 0) (hp : pl < mn)
    (hd : decode cc pc = .ok (.putfield idx, 3)) (kk : zV a M k n (pc + 3) ls st (hu h pl i z)) : zV a M k n pc ls (aI z :: aR pl :: st) h := by
  obtain ⟨⟨p, l, e, s, m, args, below, meth, c⟩, G, E, N⟩ := a
  obtain ⟨hx, hb, hml, hr, ho, hlk, hK, hAD, hN, hex, hl0, hG⟩ := O
  intro cs cl hh H locs la hP hS hL
  have hz : zr z := cs (aI z) (by simp)
  have hv : zf E (hu h pl i z) pl i 0 = cv E (aI z) := by show Value.int _ = Value.int _; rw [hu_same]
  have hh2 : zhok (hu h pl i z) := zhok_hu hh (by rw [zty_o ht hi]; exact hz)
  have := zV_put0 (z := z) (rest := st.map (cv E)) (la := la) hx hb ho hK hAD F ht hi (Nat.lt_of_lt_of_le hp hN) hP hS (by rw [hv]; rfl) (by rw [hv]; rfl) hd (fun H1 locs1 hP1 hS1 => kk (fun v hv => cs v (List.mem_cons_of_mem _ (List.mem_cons_of_mem _ hv))) cl hh2 H1 locs1 la hP1 hS1 hL)
  rw [hv] at this
  exact this
theorem zV_putZ (O : zOk l0 a cc own mL ret mn tb) {idx ci i pl : Nat} {l1 : List Nat} {z : Int} (F : zFl own idx ci i .boolean false) (ht : zT[pl]? = some (.inr (ci, l1))) (hi : l1[i]? = some 2) (hp : pl < mn) (hz : z = 0 ∨ z = 1)
    (hd : decode cc pc = .ok (.putfield idx, 3)) (kk : zV a M k n (pc + 3) ls st (hu h pl i z)) : zV a M k n pc ls (aI z :: aR pl :: st) h := by
  obtain ⟨⟨p, l, e, s, m, args, below, meth, c⟩, G, E, N⟩ := a
  obtain ⟨hx, hb, hml, hr, ho, hlk, hK, hAD, hN, hex, hl0, hG⟩ := O
  intro cs cl hh H locs la hP hS hL
  have hv : zf E (hu h pl i z) pl i 2 = cv E (aI z) := by show Value.int _ = Value.int _; rw [hu_same]
  have hh2 : zhok (hu h pl i z) := zhok_hu hh (by rw [zty_o ht hi]; exact hz)
  have := zV_put0 (z := z) (rest := st.map (cv E)) (la := la) hx hb ho hK hAD F ht hi (Nat.lt_of_lt_of_le hp hN) hP hS (by rw [hv]; rcases hz with rfl | rfl <;> rfl) (by rw [hv]; rcases hz with rfl | rfl <;> rfl) hd (fun H1 locs1 hP1 hS1 => kk (fun v hv => cs v (List.mem_cons_of_mem _ (List.mem_cons_of_mem _ hv))) cl hh2 H1 locs1 la hP1 hS1 hL)
  rw [hv] at this
  exact this
theorem zV_putL (O : zOk l0 a cc own mL ret mn tb) {idx ci i pl : Nat} {l1 : List Nat} {z : Int} (F : zFl own idx ci i .long false) (ht : zT[pl]? = some (.inr (ci, l1))) (hi : l1[i]? = some 1) (hp : pl < mn)
    (hd : decode cc pc = .ok (.putfield idx, 3)) (kk : zV a M k n (pc + 3) ls st (hu h pl i z)) : zV a M k n pc ls (aL z :: aR pl :: st) h := by
  obtain ⟨⟨p, l, e, s, m, args, below, meth, c⟩, G, E, N⟩ := a
  obtain ⟨hx, hb, hml, hr, ho, hlk, hK, hAD, hN, hex, hl0, hG⟩ := O
  intro cs cl hh H locs la hP hS hL
  have hz : zr6 z := cs (aL z) (by simp)
  have hv : zf E (hu h pl i z) pl i 1 = cv E (aL z) := by show Value.long _ = Value.long _; rw [hu_same]
  have hh2 : zhok (hu h pl i z) := zhok_hu hh (by rw [zty_o ht hi]; exact hz)
  have := zV_put0 (z := z) (rest := st.map (cv E)) (la := la) hx hb ho hK hAD F ht hi (Nat.lt_of_lt_of_le hp hN) hP hS (by rw [hv]; rfl) (by rw [hv]; rfl) hd (fun H1 locs1 hP1 hS1 => kk (fun v hv => cs v (List.mem_cons_of_mem _ (List.mem_cons_of_mem _ hv))) cl hh2 H1 locs1 la hP1 hS1 hL)
  rw [hv] at this
  exact this
def ztc (t : Nat) : Nat := match t with | 1 => 3 | 2 => 1 | _ => 0
theorem zty_a {pl t len j : Nat} (ht : zT[pl]? = some (.inl (t, len))) : zty pl j = ztc t := by
  unfold zty
  rw [ht]
  rcases t with _ | _ | _ | t <;> rfl
theorem zV_iald (O : zOk l0 a cc own mL ret mn tb) {pl len : Nat} {i : Int} (ht : zT[pl]? = some (.inl (0, len))) (hp : pl < mn) (hin : 0 ≤ i ∧ i < len)
    (hd : decode cc pc = .ok (.iaload, 1)) (kk : zV a M k n (pc + 1) ls (aI (h pl i.toNat) :: st) h) : zV a M k n pc ls (aI i :: aR pl :: st) h := by
  obtain ⟨⟨p, l, e, s, m, args, below, meth, c⟩, G, E, N⟩ := a
  obtain ⟨hx, hb, hml, hr, ho, hlk, hK, hAD, hN, hex, hl0, hG⟩ := O
  intro cs cl hh H locs la hP hS hL
  have ci : zr i := cs (aI i) (by simp)
  have hat := zws_get (E := E) (h := h) (Nat.lt_of_lt_of_le hp hN)
  rw [zat_of ht] at hat
  have hz : zr (h pl i.toNat) := by have := hh pl i.toNat; rw [zty_a ht] at this; exact this
  refine va_iald hx hb hK.1 hP pl 0 hat rfl (zI_in ci hin) hd ?_
  rw [zI_cl ci hin.1]
  exact kk (fun v hv => (List.mem_cons.mp hv).elim (fun e => e ▸ hz) (fun hv => cs v (List.mem_cons_of_mem _ (List.mem_cons_of_mem _ hv)))) cl hh H locs la hP hS hL
theorem zV_bald (O : zOk l0 a cc own mL ret mn tb) {pl len : Nat} {i : Int} (ht : zT[pl]? = some (.inl (1, len))) (hp : pl < mn) (hin : 0 ≤ i ∧ i < len)
    (hd : decode cc pc = .ok (.baload, 1)) (kk : zV a M k n (pc + 1) ls (aI (h pl i.toNat) :: st) h) : zV a M k n pc ls (aI i :: aR pl :: st) h := by
  obtain ⟨⟨p, l, e, s, m, args, below, meth, c⟩, G, E, N⟩ := a
  obtain ⟨hx, hb, hml, hr, ho, hlk, hK, hAD, hN, hex, hl0, hG⟩ := O
  intro cs cl hh H locs la hP hS hL
  have ci : zr i := cs (aI i) (by simp)
  have hat := zws_get (E := E) (h := h) (Nat.lt_of_lt_of_le hp hN)
  rw [zat_of ht] at hat
  have hz : zr (h pl i.toNat) := by have := hh pl i.toNat; rw [zty_a ht] at this; exact ⟨by have := this.1; omega, by have := this.2; omega⟩
  refine va_bald hx hb hK.1 hP pl 1 hat rfl (zI_in ci hin) hd ?_
  rw [zI_cl ci hin.1]
  exact kk (fun v hv => (List.mem_cons.mp hv).elim (fun e => e ▸ hz) (fun hv => cs v (List.mem_cons_of_mem _ (List.mem_cons_of_mem _ hv)))) cl hh H locs la hP hS hL
theorem zV_lald (O : zOk l0 a cc own mL ret mn tb) {pl len : Nat} {i : Int} (ht : zT[pl]? = some (.inl (2, len))) (hp : pl < mn) (hin : 0 ≤ i ∧ i < len)
    (hd : decode cc pc = .ok (.laload, 1)) (kk : zV a M k n (pc + 1) ls (aL (h pl i.toNat) :: st) h) : zV a M k n pc ls (aI i :: aR pl :: st) h := by
  obtain ⟨⟨p, l, e, s, m, args, below, meth, c⟩, G, E, N⟩ := a
  obtain ⟨hx, hb, hml, hr, ho, hlk, hK, hAD, hN, hex, hl0, hG⟩ := O
  intro cs cl hh H locs la hP hS hL
  have ci : zr i := cs (aI i) (by simp)
  have hat := zws_get (E := E) (h := h) (Nat.lt_of_lt_of_le hp hN)
  rw [zat_of ht] at hat
  have hz : zr6 (h pl i.toNat) := by have := hh pl i.toNat; rw [zty_a ht] at this; exact this
  refine va_lald hx hb hK.1 hP pl 2 hat rfl (zI_in ci hin) hd ?_
  rw [zI_cl ci hin.1]
  exact kk (fun v hv => (List.mem_cons.mp hv).elim (fun e => e ▸ hz) (fun hv => cs v (List.mem_cons_of_mem _ (List.mem_cons_of_mem _ hv)))) cl hh H locs la hP hS hL
theorem zV_aald (O : zOk l0 a cc own mL ret mn tb) {pl len : Nat} {i : Int} (ht : zT[pl]? = some (.inl (3, len))) (hp : pl < mn) (hin : 0 ≤ i ∧ i < len)
    (hd : decode cc pc = .ok (.aaload, 1)) (kk : zV a M k n (pc + 1) ls (aR (39 + 13 * i.toNat) :: st) h) : zV a M k n pc ls (aI i :: aR pl :: st) h := by
  obtain ⟨⟨p, l, e, s, m, args, below, meth, c⟩, G, E, N⟩ := a
  obtain ⟨hx, hb, hml, hr, ho, hlk, hK, hAD, hN, hex, hl0, hG⟩ := O
  intro cs cl hh H locs la hP hS hL
  have ci : zr i := cs (aI i) (by simp)
  have hat := zws_get (E := E) (h := h) (Nat.lt_of_lt_of_le hp hN)
  rw [zat_of ht] at hat
  refine va_aldq hx hb hK.1 hP pl 3 hat rfl (zI_in ci hin) hd ?_
  rw [zI_cl ci hin.1]
  exact kk (fun v hv => (List.mem_cons.mp hv).elim (fun e => e ▸ trivial) (fun hv => cs v (List.mem_cons_of_mem _ (List.mem_cons_of_mem _ hv)))) cl hh H locs la hP hS hL
theorem zV_alen (O : zOk l0 a cc own mL ret mn tb) {pl len t : Nat} (ht : zT[pl]? = some (.inl (t, len))) (ht4 : t < 3) (hlen : zr len) (hp : pl < mn)
    (hd : decode cc pc = .ok (.arraylength, 1)) (kk : zV a M k n (pc + 1) ls (aI len :: st) h) : zV a M k n pc ls (aR pl :: st) h := by
  obtain ⟨⟨p, l, e, s, m, args, below, meth, c⟩, G, E, N⟩ := a
  obtain ⟨hx, hb, hml, hr, ho, hlk, hK, hAD, hN, hex, hl0, hG⟩ := O
  intro cs cl hh H locs la hP hS hL
  have hat := zws_get (E := E) (h := h) (Nat.lt_of_lt_of_le hp hN)
  rw [zat_of ht] at hat
  have hk2 := kk (fun v hv => (List.mem_cons.mp hv).elim (fun e => e ▸ hlen) (fun hv => cs v (List.mem_cons_of_mem _ hv))) cl hh H locs la hP hS hL
  have hl2 : Int32.ofNat len = Int32.ofInt len := rfl
  rcases t with _ | _ | _ | t
  · exact va_alen hx hb hK.1 hP pl 0 hat rfl hl2 hd hk2
  · exact va_alen hx hb hK.1 hP pl 1 hat rfl hl2 hd hk2
  · exact va_alen hx hb hK.1 hP pl 2 hat rfl hl2 hd hk2
  · omega
theorem zV_iast (O : zOk l0 a cc own mL ret mn tb) {pl len : Nat} {i z : Int} (ht : zT[pl]? = some (.inl (0, len))) (hp : pl < mn) (hin : 0 ≤ i ∧ i < len)
    (hd : decode cc pc = .ok (.iastore, 1)) (kk : zV a M k n (pc + 1) ls st (hu h pl i.toNat z)) : zV a M k n pc ls (aI z :: aI i :: aR pl :: st) h := by
  obtain ⟨⟨p, l, e, s, m, args, below, meth, c⟩, G, E, N⟩ := a
  obtain ⟨hx, hb, hml, hr, ho, hlk, hK, hAD, hN, hex, hl0, hG⟩ := O
  intro cs cl hh H locs la hP hS hL
  have ci : zr i := cs (aI i) (by simp)
  have cz : zr z := cs (aI z) (by simp)
  have hat := zws_get (E := E) (h := h) (Nat.lt_of_lt_of_le hp hN)
  rw [zat_of ht] at hat
  refine va_iast hx hb hK.1 hP (hAD.D h) hS pl 0 hat rfl (zI_in ci hin) hd fun H1 locs1 hP1 hD1 hS1 => ?_
  rw [zI_cl ci hin.1, zws_set (h' := hu h pl i.toNat z) (by
    rw [zat_of ht]
    show Sum.inl _ = Sum.inl _
    congr 4
    funext j
    by_cases hj : j = i.toNat
    · subst hj; simp [upd, hu]
    · simp [upd, hu, hj]) (fun p' hp' j => hu_np hp')] at hP1
  exact kk (fun v hv => cs v (List.mem_cons_of_mem _ (List.mem_cons_of_mem _ (List.mem_cons_of_mem _ hv)))) cl (zhok_hu hh (by rw [zty_a ht]; exact cz)) H1 locs1 la hP1 hS1 hL
theorem zV_bast (O : zOk l0 a cc own mL ret mn tb) {pl len : Nat} {i z : Int} (ht : zT[pl]? = some (.inl (1, len))) (hp : pl < mn) (hin : 0 ≤ i ∧ i < len) (hz : -128 ≤ z ∧ z ≤ 127)
    (hd : decode cc pc = .ok (.bastore, 1)) (kk : zV a M k n (pc + 1) ls st (hu h pl i.toNat z)) : zV a M k n pc ls (aI z :: aI i :: aR pl :: st) h := by
  obtain ⟨⟨p, l, e, s, m, args, below, meth, c⟩, G, E, N⟩ := a
  obtain ⟨hx, hb, hml, hr, ho, hlk, hK, hAD, hN, hex, hl0, hG⟩ := O
  intro cs cl hh H locs la hP hS hL
  have ci : zr i := cs (aI i) (by simp)
  have cz : zr z := cs (aI z) (by simp)
  have hat := zws_get (E := E) (h := h) (Nat.lt_of_lt_of_le hp hN)
  rw [zat_of ht] at hat
  have hnar : vp_nar .byte (Int32.ofInt z) = Int32.ofInt z := by
    rw [vp_nar_byte]
    exact lg_i2b_small (by rw [zI_toInt cz]; omega) (by rw [zI_toInt cz]; omega)
  refine va_bast hx hb hK.1 hP (hAD.D h) hS pl 1 hat rfl (zI_in ci hin) hd fun H1 locs1 hP1 hD1 hS1 => ?_
  rw [zI_cl ci hin.1, hnar, zws_set (h' := hu h pl i.toNat z) (by
    rw [zat_of ht]
    show Sum.inl _ = Sum.inl _
    congr 4
    funext j
    by_cases hj : j = i.toNat
    · subst hj; simp [upd, hu]
    · simp [upd, hu, hj]) (fun p' hp' j => hu_np hp')] at hP1
  exact kk (fun v hv => cs v (List.mem_cons_of_mem _ (List.mem_cons_of_mem _ (List.mem_cons_of_mem _ hv)))) cl (zhok_hu hh (by rw [zty_a ht]; exact hz)) H1 locs1 la hP1 hS1 hL
theorem zV_last (O : zOk l0 a cc own mL ret mn tb) {pl len : Nat} {i z : Int} (ht : zT[pl]? = some (.inl (2, len))) (hp : pl < mn) (hin : 0 ≤ i ∧ i < len)
    (hd : decode cc pc = .ok (.lastore, 1)) (kk : zV a M k n (pc + 1) ls st (hu h pl i.toNat z)) : zV a M k n pc ls (aL z :: aI i :: aR pl :: st) h := by
  obtain ⟨⟨p, l, e, s, m, args, below, meth, c⟩, G, E, N⟩ := a
  obtain ⟨hx, hb, hml, hr, ho, hlk, hK, hAD, hN, hex, hl0, hG⟩ := O
  intro cs cl hh H locs la hP hS hL
  have ci : zr i := cs (aI i) (by simp)
  have cz : zr6 z := cs (aL z) (by simp)
  have hat := zws_get (E := E) (h := h) (Nat.lt_of_lt_of_le hp hN)
  rw [zat_of ht] at hat
  refine va_last hx hb hK.1 hP (hAD.D h) hS pl 2 hat rfl (zI_in ci hin) hd fun H1 locs1 hP1 hD1 hS1 => ?_
  rw [zI_cl ci hin.1, zws_set (h' := hu h pl i.toNat z) (by
    rw [zat_of ht]
    show Sum.inl _ = Sum.inl _
    congr 5
    funext j
    by_cases hj : j = i.toNat
    · subst hj; simp [vp_updL, hu]
    · simp [vp_updL, hu, hj]) (fun p' hp' j => hu_np hp')] at hP1
  exact kk (fun v hv => cs v (List.mem_cons_of_mem _ (List.mem_cons_of_mem _ (List.mem_cons_of_mem _ hv)))) cl (zhok_hu hh (by rw [zty_a ht]; exact cz)) H1 locs1 la hP1 hS1 hL
end ZH
end
section
/-! ===== BEGIN a private method of a nest mate that may throw (follows va_callVN, va_callSN, va_runVN, va_runSN) ===== -/
section
variable {p : Program} {l : Launch} {e : Env} {R : Room} {s : State} {m : MethodId} {args : Array Value} {below : List Frame} {meth : Method} {c : Code} {H : Heap} {locs : List Loc} {cells slots : Nat}
variable {T : State}
theorem vx_callVN (X : Stand p l e R s m args below meth c T locs cells slots) (hexec : p.tables.exec = Jvm.exec) {own C : String} {index : Nat} {host : String} {y : MethodName} {bytes : ByteArray} {maxL : Nat} {ret : Option FieldType}
    (hown : s.vm.findClass own = some m.cls) (hlink : (Cond.methodLinkNest own index y host).before args s = true) (hinst : (Cond.instanceMethod y).before args s = true) (hsel : (Cond.selects C y y).before args s = true)
    (hcode : (Cond.code y bytes maxL ret).before args s = true) (hy : y.cls ≠ "java/lang/invoke/MethodHandle" ∧ y.cls ≠ "java/lang/invoke/VarHandle")
    {W : Nat} {Pre : Pt → Array Value → Prop} {Post : Pt → Array Value → Option Value → Pt → Prop} {PostX : Pt → Array Value → Addr → Pt → Prop} (hK : vx_Back l R p e below s args y 3 W Pre Post PostX)
    {b : Addr} {cellB : Cell} (hcell : T.heap[b]? = some cellB) (hobj : cellB.vm.isStatics = false) (hcls : s.vm.findClass C = some cellB.cls)
    {g : JFrame} (hg : g.method = m) (hsize : g.locals.size = c.maxLocals) {argsL rest : List Value} (hlen : ∀ sig, parseMethodDescriptor y.desc = some sig → argsL.length = sig.parameters.length)
    (hstack : g.stack = argsL.reverse ++ .ref b :: rest) (hW : 2 * g.monitorRoom + (rest.map fun v => v.category).sum ≤ W) (hdg : decode c.code g.pc = .ok (.invokevirtual index, 3))
    (hpre : ∀ vm₁, s.WarmedH vm₁ → Pre ⟨T.setVm vm₁, locs, cells, slots⟩ (Value.ref b :: argsL).toArray) :
    (∃ (v : Option Value) (vm₁ : Vm) (B : Pt), s.WarmedH vm₁ ∧ Stand p l e R s m args below meth c B.U B.locs B.cells B.slots ∧ Post ⟨T.setVm vm₁, locs, cells, slots⟩ (Value.ref b :: argsL).toArray v B ∧
      ∀ target, Steps p.tables e below (B.U.setTop { g with pc := g.pc + 3, stack := v.toList ++ rest }) target → Steps p.tables e below (T.setTop g) target) ∨
    (∃ (q : Addr) (vm₁ : Vm) (B : Pt), s.WarmedH vm₁ ∧ Stand p l e R s m args below meth c B.U B.locs B.cells B.slots ∧ PostX ⟨T.setVm vm₁, locs, cells, slots⟩ (Value.ref b :: argsL).toArray q B ∧
      Steps p.tables e below (T.setTop g) ((B.U.setTop { g with stack := rest }).pushFrame (.throwing q))) := by
  obtain ⟨mk, methM, hnamed, hmethM, hstM, habM⟩ := Cond.instanceMethod_spec hinst
  obtain ⟨methM', cM, hmethM', -, -, -, -, -, -, hsigM⟩ := Cond.code_spec hnamed hcode
  cases hmethM.symm.trans hmethM'
  obtain ⟨c2, r2, m2, q1, q2, q3, q4, kP, hkP, hkPi⟩ := Cond.selects_spec hsel
  cases hcls.symm.trans q1
  cases (State.methodFound?_of_named hnamed hy).symm.trans q2
  cases hnamed.symm.trans q3
  have hselP : selectMethod e.platform s.vm cellB.cls mk = .method mk := by rw [Launch.admits_selectMethod X.admits]; exact q4
  obtain ⟨vm₁, X₁, hstep₁⟩ := X.invokevirtualNest hexec hown hlink hnamed hmethM hstM hkP hkPi hy (a := b) (cell := cellB) hcell
    (fun z h => by rw [h] at hobj; cases hobj) hselP hmethM habM hkP hkPi (g := g) hg (argsL := argsL) (rest := rest) (hlen _ hsigM) hstack hdg
  rcases hK m meth c ⟨T.setVm vm₁, locs, cells, slots⟩ { g with stack := rest } (.invokevirtual index) mk (Value.ref b :: argsL).toArray X₁ hg hsize hdg hW (X₁.named hnamed) (hpre vm₁ X₁.warmed) with ⟨v, B, X', hpost, hsteps⟩ | ⟨q, B, X', hpost, hsteps⟩
  · exact Or.inl ⟨v, vm₁, B, X₁.warmed, X', hpost, fun target h => hstep₁ _ fun acts => by rw [doInvoke_state]; exact hsteps.trans h⟩
  · exact Or.inr ⟨q, vm₁, B, X₁.warmed, X', hpost, hstep₁ _ fun acts => by rw [doInvoke_state]; exact hsteps⟩
theorem vx_callSN (X : Stand p l e R s m args below meth c T locs cells slots) (hexec : p.tables.exec = Jvm.exec) {own : String} {index : Nat} {host : String} {y : MethodName} {bytes : ByteArray} {maxL : Nat} {ret : Option FieldType}
    (hown : s.vm.findClass own = some m.cls) (hlink : (Cond.methodLinkNest own index y host).before args s = true) (hstat : (Cond.static y).before args s = true) (hinit : (Cond.initialized y.cls).before args s = true)
    (hcode : (Cond.code y bytes maxL ret).before args s = true) (hy : y.cls ≠ "java/lang/invoke/MethodHandle" ∧ y.cls ≠ "java/lang/invoke/VarHandle")
    {W : Nat} {Pre : Pt → Array Value → Prop} {Post : Pt → Array Value → Option Value → Pt → Prop} {PostX : Pt → Array Value → Addr → Pt → Prop} (hK : vx_Back l R p e below s args y 3 W Pre Post PostX)
    {g : JFrame} (hg : g.method = m) (hsize : g.locals.size = c.maxLocals) {argsL rest : List Value} (hlen : ∀ sig, parseMethodDescriptor y.desc = some sig → argsL.length = sig.parameters.length)
    (hstack : g.stack = argsL.reverse ++ rest) (hW : 2 * g.monitorRoom + (rest.map fun v => v.category).sum ≤ W) (hdg : decode c.code g.pc = .ok (.invokestatic index, 3))
    (hpre : ∀ vm₁, s.WarmedH vm₁ → Pre ⟨T.setVm vm₁, locs, cells, slots⟩ argsL.toArray) :
    (∃ (v : Option Value) (vm₁ : Vm) (B : Pt), s.WarmedH vm₁ ∧ Stand p l e R s m args below meth c B.U B.locs B.cells B.slots ∧ Post ⟨T.setVm vm₁, locs, cells, slots⟩ argsL.toArray v B ∧
      ∀ target, Steps p.tables e below (B.U.setTop { g with pc := g.pc + 3, stack := v.toList ++ rest }) target → Steps p.tables e below (T.setTop g) target) ∨
    (∃ (q : Addr) (vm₁ : Vm) (B : Pt), s.WarmedH vm₁ ∧ Stand p l e R s m args below meth c B.U B.locs B.cells B.slots ∧ PostX ⟨T.setVm vm₁, locs, cells, slots⟩ argsL.toArray q B ∧
      Steps p.tables e below (T.setTop g) ((B.U.setTop { g with stack := rest }).pushFrame (.throwing q))) := by
  obtain ⟨mk, hnamed⟩ := Cond.code_named hcode
  obtain ⟨methM, cM, hmethM, -, -, -, -, -, -, hsigM⟩ := Cond.code_spec hnamed hcode
  have hstatic : methM.isStatic = true := Cond.static_spec hnamed hmethM hstat
  obtain ⟨kP, hkP, -⟩ := className_of_methodNamed hnamed
  have hinitP : kP.init = .initialized := Cond.initialized_spec (findClass_of_methodNamed hnamed) hkP hinit
  obtain ⟨vm₁, X₁, hstep₁⟩ := X.invokestaticNest hexec hown hlink hnamed hmethM hstatic hkP hinitP hy (g := g) hg (argsL := argsL) (rest := rest) (hlen _ hsigM) hstack hdg
  rcases hK m meth c ⟨T.setVm vm₁, locs, cells, slots⟩ { g with stack := rest } (.invokestatic index) mk argsL.toArray X₁ hg hsize hdg hW (X₁.named hnamed) (hpre vm₁ X₁.warmed) with ⟨v, B, X', hpost, hsteps⟩ | ⟨q, B, X', hpost, hsteps⟩
  · exact Or.inl ⟨v, vm₁, B, X₁.warmed, X', hpost, fun target h => hstep₁ _ fun acts => by rw [doInvoke_state]; exact hsteps.trans h⟩
  · exact Or.inr ⟨q, vm₁, B, X₁.warmed, X', hpost, hstep₁ _ fun acts => by rw [doInvoke_state]; exact hsteps⟩
theorem vx_runVN {y : MethodName} {bytes cc : ByteArray} {maxL nL mc ms n index : Nat} {ret : Option FieldType} {ws : List Cond} {rm : Room} {Pc : Array Value → State → Prop} {Qc : Array Value → State → Outcome → State → Prop} {XC : String → State → State → Prop} {free : Addr → Prop} {Ts : List Cond} {own C host : String} {b : Addr} {As rest : List Value} {g : JFrame}
    (S : CallFix p m c cc nL s args Ts own) (hM : vx_Met l y ws rm Pc Qc XC mc ms free) (cw : va_CN R s args own index y host bytes maxL ret ws rm mc ms n ∧ (Cond.instanceMethod y).before args s = true ∧ (Cond.selects C y y).before args s = true) (hp : PreV s H C b Pc As)
    (hg : g.method = m) (hn : As.length = n) (hsize : g.locals.size = nL) (hstack : g.stack = As.reverse ++ .ref b :: rest) (hW : 2 * g.monitorRoom + (rest.map fun v => v.category).sum ≤ 8) (hdg : decode cc g.pc = .ok (.invokevirtual index, 3)) (hf : cells + mc ≤ R.cells ∧ slots + ms ≤ R.slots) :
    vx_Run p l e R s m args below meth c H locs cells slots mc ms g rest (Qc (Value.ref b :: As).toArray) XC free := by
  obtain ⟨⟨⟨hrc, hrs, hfr, hlo, hws, hcw⟩, hcode, hini, hy, hlen, hl⟩, hx1, hx2⟩ := cw
  have hK : vx_Back l R p e below s args y 3 8 (PreOf R mc ms Pc) (PostOf Qc mc ms free) (vx_Post XC mc ms free) := vx_back (bytes := bytes) (maxL := maxL) (ret := ret) hM hp.1 hrc hrs hfr hlo hws hcw (fun a' U hW => word_at hW (Or.inl (by first | rfl | simp [Cond.onTables, Cond.keeps, Cond.steady])) hini)
  obtain ⟨hx, hb, hml, ho, -⟩ := S
  obtain ⟨-, ⟨cellB, hcB, hoB, hclB⟩, hPc⟩ := hp
  intro T hT X
  rcases vx_callVN X hx (C := C) (bytes := bytes) (maxL := maxL) (ret := ret) ho hl hx1 hx2 hcode hy hK (by rw [hT]; exact hcB) hoB hclB hg (hsize.trans hml.symm) (argsL := As) (rest := rest) (fun sig h => hn.trans (hlen sig h)) hstack hW (by rw [hb]; exact hdg)
    (fun vm₁ hW₁ => ⟨hf.1, hf.2, hPc (T.setVm vm₁) hT hW₁⟩) with ⟨v, vm₁, ⟨U', l2, c2, s2⟩, hW₁, X', ⟨g', mk, t, L, e1, e2, hq, h1, hL, h2, h3⟩, st⟩ | ⟨q, vm₁, ⟨U', l2, c2, s2⟩, hW₁, X', ⟨g', mk, t, L, E, ce, e1, e2, hq, hce, hcv, hcl, h1, hL, h2, h3⟩, st⟩
  · dsimp only [Pt.U, Pt.locs, Pt.cells, Pt.slots] at X' e1 e2 h1 h2 h3 st
    subst h1; subst h2; subst h3
    exact Or.inl ⟨v, (T.setVm vm₁).calling g' mk (Value.ref b :: As).toArray, t, U', L, hT, X', hL, e1, e2, hq, st⟩
  · dsimp only [Pt.U, Pt.locs, Pt.cells, Pt.slots] at X' e1 e2 h1 h2 h3 st hcl
    subst h1; subst h2; subst h3
    exact Or.inr ⟨q, (T.setVm vm₁).calling g' mk (Value.ref b :: As).toArray, t, U', L, E, ce, hT, X', hL, e1, e2, hq, hce, hcv, vx_cls hW₁ hcl, st⟩
theorem vx_runSN {y : MethodName} {bytes cc : ByteArray} {maxL nL mc ms n index : Nat} {ret : Option FieldType} {ws : List Cond} {rm : Room} {Pc : Array Value → State → Prop} {Qc : Array Value → State → Outcome → State → Prop} {XC : String → State → State → Prop} {free : Addr → Prop} {Ts : List Cond} {own host : String} {As rest : List Value} {g : JFrame}
    (S : CallFix p m c cc nL s args Ts own) (hM : vx_Met l y ws rm Pc Qc XC mc ms free) (cw : va_CN R s args own index y host bytes maxL ret ws rm mc ms n ∧ (Cond.static y).before args s = true ∧ True) (hp : PreS s H Pc As)
    (hg : g.method = m) (hn : As.length = n) (hsize : g.locals.size = nL) (hstack : g.stack = As.reverse ++ rest) (hW : 2 * g.monitorRoom + (rest.map fun v => v.category).sum ≤ 8) (hdg : decode cc g.pc = .ok (.invokestatic index, 3)) (hf : cells + mc ≤ R.cells ∧ slots + ms ≤ R.slots) :
    vx_Run p l e R s m args below meth c H locs cells slots mc ms g rest (Qc As.toArray) XC free := by
  obtain ⟨⟨⟨hrc, hrs, hfr, hlo, hws, hcw⟩, hcode, hini, hy, hlen, hl⟩, hx1, hx2⟩ := cw
  have hK : vx_Back l R p e below s args y 3 8 (PreOf R mc ms Pc) (PostOf Qc mc ms free) (vx_Post XC mc ms free) := vx_back (bytes := bytes) (maxL := maxL) (ret := ret) hM hp.1 hrc hrs hfr hlo hws hcw (fun a' U hW => word_at hW (Or.inl (by first | rfl | simp [Cond.onTables, Cond.keeps, Cond.steady])) hini)
  obtain ⟨hx, hb, hml, ho, -⟩ := S
  have hPc := hp.2
  intro T hT X
  rcases vx_callSN X hx (bytes := bytes) (maxL := maxL) (ret := ret) ho hl hx1 hini hcode hy hK hg (hsize.trans hml.symm) (argsL := As) (rest := rest) (fun sig h => hn.trans (hlen sig h)) hstack hW (by rw [hb]; exact hdg)
    (fun vm₁ hW₁ => ⟨hf.1, hf.2, hPc (T.setVm vm₁) hT hW₁⟩) with ⟨v, vm₁, ⟨U', l2, c2, s2⟩, hW₁, X', ⟨g', mk, t, L, e1, e2, hq, h1, hL, h2, h3⟩, st⟩ | ⟨q, vm₁, ⟨U', l2, c2, s2⟩, hW₁, X', ⟨g', mk, t, L, E, ce, e1, e2, hq, hce, hcv, hcl, h1, hL, h2, h3⟩, st⟩
  · dsimp only [Pt.U, Pt.locs, Pt.cells, Pt.slots] at X' e1 e2 h1 h2 h3 st
    subst h1; subst h2; subst h3
    exact Or.inl ⟨v, (T.setVm vm₁).calling g' mk As.toArray, t, U', L, hT, X', hL, e1, e2, hq, st⟩
  · dsimp only [Pt.U, Pt.locs, Pt.cells, Pt.slots] at X' e1 e2 h1 h2 h3 st hcl
    subst h1; subst h2; subst h3
    exact Or.inr ⟨q, (T.setVm vm₁).calling g' mk As.toArray, t, U', L, E, ce, hT, X', hL, e1, e2, hq, hce, hcv, vx_cls hW₁ hcl, st⟩
end
/-! ===== END ===== -/
end
section
theorem zOk_N {l0 : Launch} {a : ZC} {cc : ByteArray} {own : String} {mL : Nat} {ret : Option FieldType} {mn : Nat} {tb : List (Nat × Nat × Nat × Nat)} (O : zOk l0 a cc own mL ret mn tb) : mn ≤ a.2.2.2 := by
  obtain ⟨⟨p, l, e, s, m, args, below, meth, c⟩, G, E, N⟩ := a
  exact O.2.2.2.2.2.2.2.2.1
/-! rows of the light layer that leave, call, throw and begin -/
theorem zKK_same {l : Launch} {E : EE} {u U : State} (hvm : u.vm = U.vm) (hh : U.heap = u.heap) (h : zKK l E u) : zKK l E U := by
  obtain ⟨h1, h2, h3, h4, h5, h6, h7, h8⟩ := h
  have ha : u.vm.Alike U.vm := by rw [hvm]; exact Vm.Alike.refl _
  exact ⟨h1.moved ha, fun w hw ho => va_Nw.same (zok_tab ho) hvm (h2 w hw ho), h3, by rw [hh]; exact h4, by rw [hh]; exact vx_Zq.moved ha h5, by rw [hh]; exact vx_Zq.moved ha h6, va_Nc.moved ha h7, by rw [hh]; exact zST_same hvm h8⟩
theorem zKK_warm {l : Launch} {E : EE} {s U : State} {locs : List Loc} (hW : s.WarmedH U.vm) (hS : va_S (zge E) s.heap U.heap locs) (h : zKK l E s) : zKK l E U := by
  obtain ⟨h1, h2, h3, h4, h5, h6, h7, h8⟩ := h
  have hq : ∀ a : Nat, a < s.heap.size → ¬ zge E a → U.heap[a]? = s.heap[a]? := hS.2.1
  exact ⟨h1.moved hW.alike, zKW_warm hW h2, h3, Nat.le_trans h4 hS.1, (vx_Zq.moved hW.alike h5).kept hq, (vx_Zq.moved hW.alike h6).kept hq, va_Nc.moved hW.alike h7, zST_warm hW hS.1 hq h8⟩
theorem zPc_blind {l : Launch} {E : EE} {N : Nat} {as : List AV} {h : Hp} : FrameBlind (zPc l E N as h) := fun a U g mk hp => ⟨hp.1, hp.2.1, zKK_same (u := U) (U := U.calling g mk a) rfl rfl hp.2.2⟩
section ZK
variable {l0 : Launch} {a : ZC} {M : ZM} {cc : ByteArray} {own : String} {mL : Nat} {ret : Option FieldType} {mn : Nat} {tb : List (Nat × Nat × Nat × Nat)} {k n pc : Nat} {ls : List (Option AV)} {st : List AV} {h : Hp}
theorem zV_iret (O : zOk l0 a cc own mL ret mn tb) {z : Int} (hr2 : ret = some .int) (hq : M.2.2.2.1 (some (aI z)) h) (hk : k ≤ M.2.1) (hn : n ≤ M.2.2.1) (hd : decode cc pc = .ok (.ireturn, 1)) : zV a M k n pc ls [aI z] h := by
  obtain ⟨⟨p, l, e, s, m, args, below, meth, c⟩, G, E, N⟩ := a
  obtain ⟨hx, hb, hml, hr, ho, hlk, hK, hAD, hN, hex, hl0, hG⟩ := O
  intro cs cl hh H locs la hP hS hL
  exact W.widen hk hn (vx_ret (W.zret hx hb (hr.trans hr2) rfl (fun t ht hW => ⟨⟨some (aI z), h, rfl, fun v hv => by cases hv; exact cs _ List.mem_cons_self, hh, hq, by rw [ht]; exact zEx_wd hG hP⟩, by rw [zEx_ge hG]; exact hS.F ht⟩) hS.2.2 hd hlk))
theorem zV_zret (O : zOk l0 a cc own mL ret mn tb) {z : Int} (hr2 : ret = some .boolean) (hz : z = 0 ∨ z = 1) (hq : M.2.2.2.1 (some (aI z)) h) (hk : k ≤ M.2.1) (hn : n ≤ M.2.2.1) (hd : decode cc pc = .ok (.ireturn, 1)) : zV a M k n pc ls [aI z] h := by
  obtain ⟨⟨p, l, e, s, m, args, below, meth, c⟩, G, E, N⟩ := a
  obtain ⟨hx, hb, hml, hr, ho, hlk, hK, hAD, hN, hex, hl0, hG⟩ := O
  intro cs cl hh H locs la hP hS hL
  exact W.widen hk hn (vx_ret (W.zret hx hb (hr.trans hr2) (by rcases hz with rfl | rfl <;> rfl) (fun t ht hW => ⟨⟨some (aI z), h, rfl, fun v hv => by cases hv; exact cs _ List.mem_cons_self, hh, hq, by rw [ht]; exact zEx_wd hG hP⟩, by rw [zEx_ge hG]; exact hS.F ht⟩) hS.2.2 hd hlk))
theorem zV_vret (O : zOk l0 a cc own mL ret mn tb) (hr2 : ret = none) (hq : M.2.2.2.1 none h) (hk : k ≤ M.2.1) (hn : n ≤ M.2.2.1) (hd : decode cc pc = .ok (.return_, 1)) : zV a M k n pc ls [] h := by
  obtain ⟨⟨p, l, e, s, m, args, below, meth, c⟩, G, E, N⟩ := a
  obtain ⟨hx, hb, hml, hr, ho, hlk, hK, hAD, hN, hex, hl0, hG⟩ := O
  intro cs cl hh H locs la hP hS hL
  exact W.widen hk hn (vx_ret (W.vret hx hb (hr.trans hr2) (fun t ht hW => ⟨⟨none, h, rfl, (fun v hv => by cases hv), hh, hq, by rw [ht]; exact zEx_wd hG hP⟩, by rw [zEx_ge hG]; exact hS.F ht⟩) hS.2.2 hd hlk))
theorem zV_lret (O : zOk l0 a cc own mL ret mn tb) {z : Int} (hr2 : ret = some .long) (hq : M.2.2.2.1 (some (aL z)) h) (hk : k ≤ M.2.1) (hn : n ≤ M.2.2.1) (hd : decode cc pc = .ok (.lreturn, 1)) : zV a M k n pc ls [aL z] h := by
  obtain ⟨⟨p, l, e, s, m, args, below, meth, c⟩, G, E, N⟩ := a
  obtain ⟨hx, hb, hml, hr, ho, hlk, hK, hAD, hN, hex, hl0, hG⟩ := O
  intro cs cl hh H locs la hP hS hL
  exact W.widen hk hn (vx_ret (W.lret hx hb (hr.trans hr2) (fun t ht hW => ⟨⟨some (aL z), h, rfl, fun v hv => by cases hv; exact cs _ List.mem_cons_self, hh, hq, by rw [ht]; exact zEx_wd hG hP⟩, by rw [zEx_ge hG]; exact hS.F ht⟩) hS.2.2 hd hlk))
theorem zV_fret (O : zOk l0 a cc own mL ret mn tb) {z : UInt32} (hr2 : ret = some .float) (hq : M.2.2.2.1 (some (aF z)) h) (hk : k ≤ M.2.1) (hn : n ≤ M.2.2.1) (hd : decode cc pc = .ok (.freturn, 1)) : zV a M k n pc ls [aF z] h := by
  obtain ⟨⟨p, l, e, s, m, args, below, meth, c⟩, G, E, N⟩ := a
  obtain ⟨hx, hb, hml, hr, ho, hlk, hK, hAD, hN, hex, hl0, hG⟩ := O
  intro cs cl hh H locs la hP hS hL
  exact W.widen hk hn (vx_ret (W.fret hx hb (hr.trans hr2) (fun t ht hW => ⟨⟨some (aF z), h, rfl, fun v hv => by cases hv; exact trivial, hh, hq, by rw [ht]; exact zEx_wd hG hP⟩, by rw [zEx_ge hG]; exact hS.F ht⟩) hS.2.2 hd hlk))
theorem zV_dret (O : zOk l0 a cc own mL ret mn tb) {z : UInt64} (hr2 : ret = some .double) (hq : M.2.2.2.1 (some (aD z)) h) (hk : k ≤ M.2.1) (hn : n ≤ M.2.2.1) (hd : decode cc pc = .ok (.dreturn, 1)) : zV a M k n pc ls [aD z] h := by
  obtain ⟨⟨p, l, e, s, m, args, below, meth, c⟩, G, E, N⟩ := a
  obtain ⟨hx, hb, hml, hr, ho, hlk, hK, hAD, hN, hex, hl0, hG⟩ := O
  intro cs cl hh H locs la hP hS hL
  exact W.widen hk hn (vx_ret (W.dret hx hb (hr.trans hr2) (fun t ht hW => ⟨⟨some (aD z), h, rfl, fun v hv => by cases hv; exact trivial, hh, hq, by rw [ht]; exact zEx_wd hG hP⟩, by rw [zEx_ge hG]; exact hS.F ht⟩) hS.2.2 hd hlk))
/-- a call's run, its answer and its throw -/
theorem zV_run {p : Program} {l : Launch} {e : Env} {R : Room} {s : State} {m : MethodId} {args : Array Value} {below : List Frame} {meth : Method} {c : Code} {H : Heap} {locs : List Loc} {QQ : State → Prop} {E : EE} {N : Nat} {mc' ms' : Nat} {la : Array Slot} {rest st0 : List Value} {Q' : Option AV → Hp → Prop} {QX' : Nat → Hp → Prop} {av : Array Value}
    (hr : vx_Run p l e R s m args below meth c H locs k n mc' ms' (F0 m pc la st0) rest (zQ E N Q' av) (zX E N QX') (zge E)) (hS : va_S (zge E) s.heap H locs)
    (kk : ∀ (r : Option AV) (h' : Hp) (H1 : Heap) (locs1 : List Loc), (∀ v, r = some v → zcan v) → zhok h' → Q' r h' → zWd E N h' H1 → va_S (zge E) s.heap H1 locs1 → W p l e R s m args below meth c H1 locs1 (k + mc') (n + ms') QQ (F0 m (pc + 3) la ((r.map (cv E)).toList ++ rest)))
    (kx : ∀ (x : Nat) (h' : Hp) (H1 : Heap) (locs1 : List Loc) (q : Addr) (ce : Cell), zhok h' → QX' x h' → zWd E N h' H1 → va_S (zge E) s.heap H1 locs1 → H1[q]? = some ce → ce.vm = .none → s.vm.findClass (zen x) = some ce.cls → vx_W p l e R s m args below meth c H1 locs1 (k + mc') (n + ms') QQ (F0 m pc la rest) q) :
    W p l e R s m args below meth c H locs k n QQ (F0 m pc la st0) := by
  intro T hT X
  rcases hr T hT X with ⟨v, st₀, t, T', L, h0, X', hL, e1, e2, ⟨⟨r, h', hv, hc, hh, hq, hw⟩, hF⟩, st⟩ | ⟨q, st₀, t, T', L, En, ce, h0, X', hL, e1, e2, ⟨⟨x, h', he, hh, hq, hw⟩, hF⟩, hce, hcv, hcl, st⟩
  · obtain ⟨k1, k2, k3⟩ := vx_keep h0 e1 hS (fun _ _ q => q) (fun _ q => q) hL hF
    cases hv
    obtain ⟨t2, a1, b1⟩ := kk r h' T'.heap (locs ++ L) hc hh hq (by rw [e1]; exact hw) k3 T' rfl X'
    exact ⟨t2, st t2 a1, b1⟩
  · obtain ⟨k1, k2, k3⟩ := vx_keep h0 e1 hS (fun _ _ q => q) (fun _ q => q) hL hF
    subst he
    obtain ⟨t2, a1, b1⟩ := kx x h' T'.heap (locs ++ L) q ce hh hq (by rw [e1]; exact hw) k3 (by rw [e1]; exact hce) hcv hcl T' rfl X'
    exact ⟨t2, st.trans a1, b1⟩
/-- what the tables say of a callee -/
def zCl (y : MethodName) (cc' : ByteArray) (mL' : Nat) (ret' : Option FieldType) (nn : Nat) : Prop :=
  zIn (.initialized y.cls) ∧ zIn (.code y cc' mL' ret') ∧ (y.cls ≠ "java/lang/invoke/MethodHandle" ∧ y.cls ≠ "java/lang/invoke/VarHandle") ∧ (parseMethodDescriptor y.desc).map (fun d => d.parameters.length) = some nn
theorem zgood {y : MethodName} {cc' : ByteArray} {mL' : Nat} {ret' : Option FieldType} {s : State} (hK : zKW s) (hw : zIn (.code y cc' mL' ret')) : ∀ w ∈ [Cond.code y cc' mL' ret'], ∀ (a' : Array Value) (U : State), s.WarmedH U.vm → w.before a' U = true := by
  intro w hw2 a' U hW
  rw [List.mem_singleton.mp hw2]
  exact zIn_use (zKW_warm hW hK) hw
theorem zlen {y : MethodName} {nn : Nat} (h : (parseMethodDescriptor y.desc).map (fun d => d.parameters.length) = some nn) : ∀ sig, parseMethodDescriptor y.desc = some sig → nn = sig.parameters.length := by
  intro sig hs
  rw [hs] at h
  exact (Option.some.inj h).symm
def zwd (st : List AV) : Nat := (st.map fun v => if zwide v then 2 else 1).sum
theorem zwd_eq (E : EE) (st : List AV) : ((st.map (cv E)).map fun v => v.category).sum = zwd st := by
  unfold zwd
  rw [List.map_map]
  congr 1
  apply List.map_congr_left
  intro v _
  exact zcat E v
theorem zroom {m : MethodId} {pc : Nat} {la : Array Slot} {E : EE} {st st0 : List AV} (h : zwd st ≤ 8) : 2 * (F0 m pc la (st0.map (cv E))).monitorRoom + ((st.map (cv E)).map fun v => v.category).sum ≤ 8 := by
  rw [zwd_eq]
  simp [JFrame.monitorRoom]
  exact h
theorem zV_callV0 (O : zOk l0 a cc own mL ret mn tb) {y : MethodName} {idx nn ci pl : Nat} {cc' : ByteArray} {mL' d' mc' ms' : Nat} {ret' : Option FieldType} {as : List AV} {Q' : Option AV → Hp → Prop} {QX' : Nat → Hp → Prop} {l1 : List Nat} {cq : vw_C} {st0 : List AV}
    (hc : zCl y cc' mL' ret' nn) (hl : zIn (.methodLink own idx y) ∨ ∃ host, zIn (.methodLinkNest own idx y host)) (hi : zIn (.instanceMethod y)) (hs : zIn (.selects y.cls y y))
    (ht : zT[pl]? = some (.inr (ci, l1))) (hcl : vwCl[ci]? = some cq) (hcn : cq.1 = y.cls) (hp : pl < mn) (hst : st0 = as.reverse ++ aR pl :: st) (hnn : as.length = nn) (hw : zwd st ≤ 8)
    (hd1 : d' + 1 ≤ M.1) (hd2 : M.1 ≤ 13) (hmL : mL' ≤ 18) (hk : k + mc' ≤ M.2.1) (hn : n + ms' ≤ M.2.2.1) (hd : decode cc pc = .ok (.invokevirtual idx, 3))
    (sp : zSpA l0 y cc' mL' ret' d' mc' ms' (aR pl :: as) h Q' QX' a.2.2.2)
    (kk : ∀ r h', Q' r h' → zV a M (k + mc') (n + ms') (pc + 3) ls (r.toList ++ st) h') (kx : ∀ x h', QX' x h' → zU a M (k + mc') (n + ms') pc ls x h') : zV a M k n pc ls st0 h := by
  obtain ⟨⟨p, l, e, s, m, args, below, meth, c⟩, G, E, N⟩ := a
  obtain ⟨hx, hb, hml, hr, ho, hlk, hK, hAD, hN, hex, hl0, hG⟩ := O
  intro cs cl hh H locs la hP hS hL
  subst hl0
  subst hst
  have hat := zws_get (E := E) (h := h) (Nat.lt_of_lt_of_le hp hN)
  rw [zat_of ht] at hat
  have hM := sp (fun v hv => by
    rcases List.mem_cons.mp hv with rfl | hv
    · exact trivial
    · exact cs v (List.mem_append_left _ (List.mem_reverse.mpr hv))) hh E hAD
  obtain ⟨c1, c2, c3, c4⟩ := hc
  have hpre : PreV s H y.cls (E.1 pl) (zPc l E N (aR pl :: as) h) (as.map (cv E)) := by
    refine ⟨zPc_blind, ?_, fun U hU hW => ⟨rfl, by rw [hU]; exact hP, zKK_warm hW (by rw [hU]; exact hS) hK⟩⟩
    rw [← hcn]
    exact va_recv hK.1 hP hcl hat
  have hbase : (zrm d' mc' ms').cells = mc' ∧ (zrm d' mc' ms').slots = ms' ∧ (zrm d' mc' ms').frames + 1 ≤ (zrm M.1 M.2.1 M.2.2.1).frames ∧ 8 + (mL' + 11) + (zrm d' mc' ms').locals ≤ (zrm M.1 M.2.1 M.2.2.1).locals := ⟨rfl, rfl, hd1, by show 8 + (mL' + 11) + zlo d' ≤ zlo M.1; have := zlo_up hd1 hd2; omega⟩
  have hstk : (F0 m pc la (((as.reverse ++ aR pl :: st)).map (cv E))).stack = (as.map (cv E)).reverse ++ .ref (E.1 pl) :: st.map (cv E) := by
    show ((as.reverse ++ aR pl :: st)).map (cv E) = _
    rw [List.map_append, List.map_reverse]
    rfl
  have hrun : vx_Run p l e (zrm M.1 M.2.1 M.2.2.1) s m args below meth c H locs k n mc' ms' (F0 m pc la (((as.reverse ++ aR pl :: st)).map (cv E))) (st.map (cv E)) (zQ E N Q' (Value.ref (E.1 pl) :: as.map (cv E)).toArray) (zX E N QX') (zge E) := by
    rcases hl with hl | ⟨host, hl⟩
    · exact vx_runV (own := own) (Ts := []) (nL := c.maxLocals) (C := y.cls) (b := E.1 pl) ⟨hx, hb, rfl, ho, fun w hw => by cases hw⟩ hM ⟨⟨hbase.1, hbase.2.1, hbase.2.2.1, hbase.2.2.2, zgood hK.2.1 c2, List.mem_singleton.mpr rfl, zIn_use hK.2.1 c2, zIn_use hK.2.1 c1, c3, zlen c4, zIn_use hK.2.1 hl⟩, zIn_use hK.2.1 hi, zIn_use hK.2.1 hs⟩ hpre rfl (by rw [List.length_map]; exact hnn) hL.1 hstk (zroom hw) hd ⟨hk, hn⟩
    · exact vx_runVN (own := own) (host := host) (Ts := []) (nL := c.maxLocals) (C := y.cls) (b := E.1 pl) ⟨hx, hb, rfl, ho, fun w hw => by cases hw⟩ hM ⟨⟨⟨hbase.1, hbase.2.1, hbase.2.2.1, hbase.2.2.2, zgood hK.2.1 c2, List.mem_singleton.mpr rfl⟩, zIn_use hK.2.1 c2, zIn_use hK.2.1 c1, c3, zlen c4, zIn_use hK.2.1 hl⟩, zIn_use hK.2.1 hi, zIn_use hK.2.1 hs⟩ hpre rfl (by rw [List.length_map]; exact hnn) hL.1 hstk (zroom hw) hd ⟨hk, hn⟩
  refine zV_run hrun hS (fun r h' H1 locs1 q1 q2 q3 q4 q5 => ?_) (fun x h' H1 locs1 q ce q1 q2 q3 q4 q5 q6 q7 => ?_)
  · have := kk r h' q3 (fun v hv => by
      rcases List.mem_append.mp hv with hv | hv
      · exact q1 v (Option.mem_toList.mp hv)
      · exact cs v (List.mem_append_right _ (List.mem_cons_of_mem _ hv))) cl q2 H1 locs1 la q4 q5 hL
    rw [List.map_append] at this
    cases r <;> exact this
  · exact kx x h' q2 cl q1 H1 locs1 la q ce _ q3 q4 hL q5 q6 q7
theorem zV_callV (O : zOk l0 a cc own mL ret mn tb) {y : MethodName} {idx nn ci pl : Nat} {cc' : ByteArray} {mL' mn' d' mc' ms' : Nat} {ret' : Option FieldType} {as : List AV} {Q' : Option AV → Hp → Prop} {QX' : Nat → Hp → Prop} {l1 : List Nat} {cq : vw_C} {st0 : List AV}
    (hc : zCl y cc' mL' ret' nn) (hl : zIn (.methodLink own idx y) ∨ ∃ host, zIn (.methodLinkNest own idx y host)) (hi : zIn (.instanceMethod y)) (hs : zIn (.selects y.cls y y))
    (ht : zT[pl]? = some (.inr (ci, l1))) (hcl : vwCl[ci]? = some cq) (hcn : cq.1 = y.cls) (hp : pl < mn) (hmn : mn' ≤ mn) (hst : st0 = as.reverse ++ aR pl :: st) (hnn : as.length = nn) (hw : zwd st ≤ 8)
    (hd1 : d' + 1 ≤ M.1) (hd2 : M.1 ≤ 13) (hmL : mL' ≤ 18) (hk : k + mc' ≤ M.2.1) (hn : n + ms' ≤ M.2.2.1) (hd : decode cc pc = .ok (.invokevirtual idx, 3))
    (sp : zSp l0 y cc' mL' ret' mn' d' mc' ms' (aR pl :: as) h Q' QX')
    (kk : ∀ r h', Q' r h' → zV a M (k + mc') (n + ms') (pc + 3) ls (r.toList ++ st) h') (kx : ∀ x h', QX' x h' → zU a M (k + mc') (n + ms') pc ls x h') : zV a M k n pc ls st0 h :=
  zV_callV0 O hc hl hi hs ht hcl hcn hp hst hnn hw hd1 hd2 hmL hk hn hd (sp _ (Nat.le_trans hmn (zOk_N O))) kk kx
theorem zV_callS0 (O : zOk l0 a cc own mL ret mn tb) {y : MethodName} {idx nn : Nat} {cc' : ByteArray} {mL' d' mc' ms' : Nat} {ret' : Option FieldType} {as : List AV} {Q' : Option AV → Hp → Prop} {QX' : Nat → Hp → Prop} {st0 : List AV}
    (hc : zCl y cc' mL' ret' nn) (hl : zIn (.methodLink own idx y) ∨ ∃ host, zIn (.methodLinkNest own idx y host)) (hi : zIn (.static y))
    (hst : st0 = as.reverse ++ st) (hnn : as.length = nn) (hw : zwd st ≤ 8)
    (hd1 : d' + 1 ≤ M.1) (hd2 : M.1 ≤ 13) (hmL : mL' ≤ 18) (hk : k + mc' ≤ M.2.1) (hn : n + ms' ≤ M.2.2.1) (hd : decode cc pc = .ok (.invokestatic idx, 3))
    (sp : zSpA l0 y cc' mL' ret' d' mc' ms' as h Q' QX' a.2.2.2)
    (kk : ∀ r h', Q' r h' → zV a M (k + mc') (n + ms') (pc + 3) ls (r.toList ++ st) h') (kx : ∀ x h', QX' x h' → zU a M (k + mc') (n + ms') pc ls x h') : zV a M k n pc ls st0 h := by
  obtain ⟨⟨p, l, e, s, m, args, below, meth, c⟩, G, E, N⟩ := a
  obtain ⟨hx, hb, hml, hr, ho, hlk, hK, hAD, hN, hex, hl0, hG⟩ := O
  intro cs cl hh H locs la hP hS hL
  subst hl0
  subst hst
  have hM := sp (fun v hv => cs v (List.mem_append_left _ (List.mem_reverse.mpr hv))) hh E hAD
  obtain ⟨c1, c2, c3, c4⟩ := hc
  have hpre : PreS s H (zPc l E N as h) (as.map (cv E)) := ⟨zPc_blind, fun U hU hW => ⟨rfl, by rw [hU]; exact hP, zKK_warm hW (by rw [hU]; exact hS) hK⟩⟩
  have hbase : (zrm d' mc' ms').cells = mc' ∧ (zrm d' mc' ms').slots = ms' ∧ (zrm d' mc' ms').frames + 1 ≤ (zrm M.1 M.2.1 M.2.2.1).frames ∧ 8 + (mL' + 11) + (zrm d' mc' ms').locals ≤ (zrm M.1 M.2.1 M.2.2.1).locals := ⟨rfl, rfl, hd1, by show 8 + (mL' + 11) + zlo d' ≤ zlo M.1; have := zlo_up hd1 hd2; omega⟩
  have hstk : (F0 m pc la ((as.reverse ++ st).map (cv E))).stack = (as.map (cv E)).reverse ++ st.map (cv E) := by
    show (as.reverse ++ st).map (cv E) = _
    rw [List.map_append, List.map_reverse]
  have hrun : vx_Run p l e (zrm M.1 M.2.1 M.2.2.1) s m args below meth c H locs k n mc' ms' (F0 m pc la ((as.reverse ++ st).map (cv E))) (st.map (cv E)) (zQ E N Q' (as.map (cv E)).toArray) (zX E N QX') (zge E) := by
    rcases hl with hl | ⟨host, hl⟩
    · exact vx_runS (own := own) (Ts := []) (nL := c.maxLocals) ⟨hx, hb, rfl, ho, fun w hw => by cases hw⟩ hM ⟨⟨hbase.1, hbase.2.1, hbase.2.2.1, hbase.2.2.2, zgood hK.2.1 c2, List.mem_singleton.mpr rfl, zIn_use hK.2.1 c2, zIn_use hK.2.1 c1, c3, zlen c4, zIn_use hK.2.1 hl⟩, zIn_use hK.2.1 hi⟩ hpre rfl (by rw [List.length_map]; exact hnn) hL.1 hstk (zroom hw) hd ⟨hk, hn⟩
    · exact vx_runSN (own := own) (host := host) (Ts := []) (nL := c.maxLocals) ⟨hx, hb, rfl, ho, fun w hw => by cases hw⟩ hM ⟨⟨⟨hbase.1, hbase.2.1, hbase.2.2.1, hbase.2.2.2, zgood hK.2.1 c2, List.mem_singleton.mpr rfl⟩, zIn_use hK.2.1 c2, zIn_use hK.2.1 c1, c3, zlen c4, zIn_use hK.2.1 hl⟩, zIn_use hK.2.1 hi, trivial⟩ hpre rfl (by rw [List.length_map]; exact hnn) hL.1 hstk (zroom hw) hd ⟨hk, hn⟩
  refine zV_run hrun hS (fun r h' H1 locs1 q1 q2 q3 q4 q5 => ?_) (fun x h' H1 locs1 q ce q1 q2 q3 q4 q5 q6 q7 => ?_)
  · have := kk r h' q3 (fun v hv => by
      rcases List.mem_append.mp hv with hv | hv
      · exact q1 v (Option.mem_toList.mp hv)
      · exact cs v (List.mem_append_right _ hv)) cl q2 H1 locs1 la q4 q5 hL
    rw [List.map_append] at this
    cases r <;> exact this
  · exact kx x h' q2 cl q1 H1 locs1 la q ce _ q3 q4 hL q5 q6 q7
theorem zV_callS (O : zOk l0 a cc own mL ret mn tb) {y : MethodName} {idx nn : Nat} {cc' : ByteArray} {mL' mn' d' mc' ms' : Nat} {ret' : Option FieldType} {as : List AV} {Q' : Option AV → Hp → Prop} {QX' : Nat → Hp → Prop} {st0 : List AV}
    (hc : zCl y cc' mL' ret' nn) (hl : zIn (.methodLink own idx y) ∨ ∃ host, zIn (.methodLinkNest own idx y host)) (hi : zIn (.static y))
    (hmn : mn' ≤ mn) (hst : st0 = as.reverse ++ st) (hnn : as.length = nn) (hw : zwd st ≤ 8)
    (hd1 : d' + 1 ≤ M.1) (hd2 : M.1 ≤ 13) (hmL : mL' ≤ 18) (hk : k + mc' ≤ M.2.1) (hn : n + ms' ≤ M.2.2.1) (hd : decode cc pc = .ok (.invokestatic idx, 3))
    (sp : zSp l0 y cc' mL' ret' mn' d' mc' ms' as h Q' QX')
    (kk : ∀ r h', Q' r h' → zV a M (k + mc') (n + ms') (pc + 3) ls (r.toList ++ st) h') (kx : ∀ x h', QX' x h' → zU a M (k + mc') (n + ms') pc ls x h') : zV a M k n pc ls st0 h :=
  zV_callS0 O hc hl hi hst hnn hw hd1 hd2 hmL hk hn hd (sp _ (Nat.le_trans hmn (zOk_N O))) kk kx
end ZK
end
section
/-! beginnings, copies of rows, the JDK's least and greatest, handlers -/
def zent0 : List AV → List (Option AV)
  | [] => []
  | v :: r => if zwide v then some v :: none :: zent0 r else some v :: zent0 r
def zent (mL : Nat) (as : List AV) : List (Option AV) := zent0 as ++ List.replicate (mL - (zent0 as).length) none
theorem zent_len (E : EE) (as : List AV) : (lg_sl (as.map (cv E))).length = (zent0 as).length := by
  induction as with
  | nil => rfl
  | cons v r ih =>
    show (lg_sl (cv E v :: r.map (cv E))).length = _
    unfold lg_sl at ih ⊢
    rw [List.flatMap_cons, List.length_append, ih]
    simp only [zent0, zcat]
    split <;> simp <;> omega
theorem zent_in (E : EE) : ∀ (as : List AV) (i t : Nat) (q : Nat × Value), q ∈ zpr E i (zent0 as ++ List.replicate t none) → q ∈ lv_args i (as.map (cv E)) := by
  intro as
  induction as with
  | nil =>
    intro i t q hq
    simp only [zent0, List.nil_append] at hq
    rw [zpr_mem] at hq
    obtain ⟨j, v, -, h2⟩ := hq
    rw [List.getElem?_replicate] at h2
    split at h2 <;> cases h2
  | cons v r ih =>
    intro i t q hq
    show q ∈ lv_args i (cv E v :: r.map (cv E))
    simp only [zent0] at hq
    unfold lv_args
    rw [zcat]
    by_cases hw : zwide v = true
    · rw [if_pos hw] at hq ⊢
      rcases List.mem_cons.mp hq with h | h
      · exact h ▸ List.mem_cons_self
      · exact List.mem_cons_of_mem _ (ih (i + 2) t q h)
    · rw [if_neg hw] at hq ⊢
      rcases List.mem_cons.mp hq with h | h
      · exact h ▸ List.mem_cons_self
      · exact List.mem_cons_of_mem _ (ih (i + 1) t q h)
theorem zent_can {as : List AV} {mL : Nat} (h : ∀ v ∈ as, zcan v) : ∀ v, some v ∈ zent mL as → zcan v := by
  have key : ∀ (l : List AV), (∀ v ∈ l, zcan v) → ∀ v, some v ∈ zent0 l → zcan v := by
    intro l
    induction l with
    | nil => intro _ v hv; cases hv
    | cons w r ih =>
      intro hl v hv
      simp only [zent0] at hv
      split at hv
      · rcases List.mem_cons.mp hv with e | hv
        · cases e; exact hl _ List.mem_cons_self
        · rcases List.mem_cons.mp hv with e | hv
          · cases e
          · exact ih (fun v hv => hl v (List.mem_cons_of_mem _ hv)) v hv
      · rcases List.mem_cons.mp hv with e | hv
        · cases e; exact hl _ List.mem_cons_self
        · exact ih (fun v hv => hl v (List.mem_cons_of_mem _ hv)) v hv
  intro v hv
  unfold zent at hv
  rcases List.mem_append.mp hv with hv | hv
  · exact key as h v hv
  · cases (List.mem_replicate.mp hv).2
theorem zSp_intro {l0 : Launch} {y : MethodName} {cc : ByteArray} {mL : Nat} {ret : Option FieldType} {mn d mc ms : Nat} {as : List AV} {h : Hp} {Q : Option AV → Hp → Prop} {QX : Nat → Hp → Prop}
    (hy : plainName y.cls = true) (hlen : (zent0 as).length ≤ mL) (body : ∀ a : ZC, zOk l0 a cc y.cls mL ret mn [] → zV a (d, mc, ms, Q, QX) 0 0 0 (zent mL as) [] h) : zSp l0 y cc mL ret mn d mc ms as h Q QX := by
  intro N hN hc hh E hAD
  refine vx_ofW (cc := cc) (maxL := mL) (ret := ret) hy rfl ?_
  intro p e s m args below meth c s₁ B hml hex hv
  obtain ⟨rfl, hP, hK⟩ := hv
  have hl := lv_entry (as.map (cv E)) (n := mL) (by rw [zent_len]; exact hlen)
  rw [lg_entry_eq]
  refine body ((p, l0, e, s, m, (as.map (cv E)).toArray, below, meth, c), (E, N), E, N) ⟨B.exec, B.bytes, hml, B.returns, findClass_of_methodNamed B.named, B.notSynchronized, hK, hAD, hN, ?_, rfl, zEx_rf⟩ (fun v hv => by cases hv) (zent_can hc) hh s.heap [] _ hP va_S.rf (lv_less (by rw [hml]; exact hl) fun q hq => zent_in E as 0 _ q hq)
  cases hcx : c.exceptionTable.toList with
  | nil => rfl
  | cons x r => exact (hex x (by rw [hcx]; exact List.mem_cons_self)).elim
theorem zSpA_intro {l0 : Launch} {y : MethodName} {cc : ByteArray} {mL : Nat} {ret : Option FieldType} {N d mc ms : Nat} {as : List AV} {h : Hp} {Q : Option AV → Hp → Prop} {QX : Nat → Hp → Prop}
    (hy : plainName y.cls = true) (hlen : (zent0 as).length ≤ mL) (body : ∀ a : ZC, zOk l0 a cc y.cls mL ret N [] → a.2.2.2 = N → zV a (d, mc, ms, Q, QX) 0 0 0 (zent mL as) [] h) : zSpA l0 y cc mL ret d mc ms as h Q QX N := by
  intro hc hh E hAD
  refine vx_ofW (cc := cc) (maxL := mL) (ret := ret) hy rfl ?_
  intro p e s m args below meth c s₁ B hml hex hv
  obtain ⟨rfl, hP, hK⟩ := hv
  have hl := lv_entry (as.map (cv E)) (n := mL) (by rw [zent_len]; exact hlen)
  rw [lg_entry_eq]
  refine body ((p, l0, e, s, m, (as.map (cv E)).toArray, below, meth, c), (E, N), E, N) ⟨B.exec, B.bytes, hml, B.returns, findClass_of_methodNamed B.named, B.notSynchronized, hK, hAD, Nat.le_refl _, ?_, rfl, zEx_rf⟩ rfl (fun v hv => by cases hv) (zent_can hc) hh s.heap [] _ hP va_S.rf (lv_less (by rw [hml]; exact hl) fun q hq => zent_in E as 0 _ q hq)
  cases hcx : c.exceptionTable.toList with
  | nil => rfl
  | cons x r => exact (hex x (by rw [hcx]; exact List.mem_cons_self)).elim
/-- a piece of a row laid elsewhere -/
def hcp (h : Hp) (p sp q dp n : Nat) : Hp := fun p' k' => if p' = q ∧ dp ≤ k' ∧ k' < dp + n then h p (sp + (k' - dp)) else h p' k'
section ZE
variable {l0 : Launch} {a : ZC} {M : ZM} {cc : ByteArray} {own : String} {mL : Nat} {ret : Option FieldType} {mn : Nat} {tb : List (Nat × Nat × Nat × Nat)} {k n pc : Nat} {ls : List (Option AV)} {st : List AV} {h : Hp}
theorem zV_min (O : zOk l0 a cc own mL ret mn tb) {idx : Nat} {x y : Int} (hl : zIn (.methodLink own idx Lib.Math.min.name)) (hs : zIn (.static Lib.Math.min.name)) (hi : zIn (.initialized "java/lang/Math")) (hc : zIn (.code Lib.Math.min.name Lib.Math.min.code 2 (some .int)))
    (hd1 : 1 ≤ M.1) (hw : zwd st ≤ 8) (hk : k ≤ M.2.1) (hn : n ≤ M.2.2.1) (hd : decode cc pc = .ok (.invokestatic idx, 3)) (kk : zV a M k n (pc + 3) ls (aI (min x y) :: st) h) : zV a M k n pc ls (aI y :: aI x :: st) h := by
  obtain ⟨⟨p, l, e, s, m, args, below, meth, c⟩, G, E, N⟩ := a
  obtain ⟨hx, hb, hml, hr, ho, hlk, hK, hAD, hN, hex, hl0, hG⟩ := O
  intro cs cl hh H locs la hP hS hL
  have cx : zr x := cs (aI x) (by simp)
  have cy : zr y := cs (aI y) (by simp)
  refine va_mmin hx hb hL.1.symm ho (zIn_use hK.2.1 hl) (zIn_use hK.2.1 hs) (zIn_use hK.2.1 hi) (zIn_use hK.2.1 hc) hd1 (by rw [zwd_eq]; show zwd st + 13 ≤ zlo M.1; have := zlo_ge M.1; omega) hk hn hd ?_
  have e1 : (if Int32.ofInt y < Int32.ofInt x then Int32.ofInt y else Int32.ofInt x) = Int32.ofInt (min x y) := by
    by_cases q : y < x
    · rw [if_pos ((zI_lt cy cx).mpr q), Int.min_eq_right (by omega)]
    · rw [if_neg (fun w => q ((zI_lt cy cx).mp w)), Int.min_eq_left (by omega)]
  rw [e1]
  have cm : zr (min x y) := by
    rcases Int.le_total x y with q | q
    · rw [Int.min_eq_left q]; exact cx
    · rw [Int.min_eq_right q]; exact cy
  exact kk (fun v hv => (List.mem_cons.mp hv).elim (fun e => e ▸ cm) (fun hv => cs v (List.mem_cons_of_mem _ (List.mem_cons_of_mem _ hv)))) cl hh H locs la hP hS hL
theorem zV_max (O : zOk l0 a cc own mL ret mn tb) {idx : Nat} {x y : Int} (hl : zIn (.methodLink own idx Lib.Math.max.name)) (hs : zIn (.static Lib.Math.max.name)) (hi : zIn (.initialized "java/lang/Math")) (hc : zIn (.code Lib.Math.max.name Lib.Math.max.code 2 (some .int)))
    (hd1 : 1 ≤ M.1) (hw : zwd st ≤ 8) (hk : k ≤ M.2.1) (hn : n ≤ M.2.2.1) (hd : decode cc pc = .ok (.invokestatic idx, 3)) (kk : zV a M k n (pc + 3) ls (aI (max x y) :: st) h) : zV a M k n pc ls (aI y :: aI x :: st) h := by
  obtain ⟨⟨p, l, e, s, m, args, below, meth, c⟩, G, E, N⟩ := a
  obtain ⟨hx, hb, hml, hr, ho, hlk, hK, hAD, hN, hex, hl0, hG⟩ := O
  intro cs cl hh H locs la hP hS hL
  have cx : zr x := cs (aI x) (by simp)
  have cy : zr y := cs (aI y) (by simp)
  refine va_mmax hx hb hL.1.symm ho (zIn_use hK.2.1 hl) (zIn_use hK.2.1 hs) (zIn_use hK.2.1 hi) (zIn_use hK.2.1 hc) hd1 (by rw [zwd_eq]; show zwd st + 13 ≤ zlo M.1; have := zlo_ge M.1; omega) hk hn hd ?_
  have e1 : (if Int32.ofInt x < Int32.ofInt y then Int32.ofInt y else Int32.ofInt x) = Int32.ofInt (max x y) := by
    by_cases q : x < y
    · rw [if_pos ((zI_lt cx cy).mpr q), Int.max_eq_right (by omega)]
    · rw [if_neg (fun w => q ((zI_lt cx cy).mp w)), Int.max_eq_left (by omega)]
  rw [e1]
  have cm : zr (max x y) := by
    rcases Int.le_total x y with q | q
    · rw [Int.max_eq_right q]; exact cy
    · rw [Int.max_eq_left q]; exact cx
  exact kk (fun v hv => (List.mem_cons.mp hv).elim (fun e => e ▸ cm) (fun hv => cs v (List.mem_cons_of_mem _ (List.mem_cons_of_mem _ hv)))) cl hh H locs la hP hS hL
theorem zV_copyI (O : zOk l0 a cc own mL ret mn tb) {idx pl ql n0 n1 : Nat} {sp dp nn : Int} (hl : zIn (.methodLink own idx arraycopyName)) (hna : zIn (.native arraycopyName)) (hs : zIn (.static arraycopyName)) (hi : zIn (.initialized "java/lang/System"))
    (ht0 : zT[pl]? = some (.inl (0, n0))) (ht1 : zT[ql]? = some (.inl (0, n1))) (hp0 : pl < mn) (hp1 : ql < mn) (h1 : 0 ≤ sp) (h2 : 0 ≤ dp) (h3 : 0 ≤ nn) (h4 : sp + nn ≤ n0) (h5 : dp + nn ≤ n1)
    (hd1 : 3 ≤ M.1) (hw : zwd st ≤ 8) (hd : decode cc pc = .ok (.invokestatic idx, 3)) (kk : zV a M k n (pc + 3) ls st (hcp h pl sp.toNat ql dp.toNat nn.toNat)) : zV a M k n pc ls (aI nn :: aI dp :: aR ql :: aI sp :: aR pl :: st) h := by
  obtain ⟨⟨p, l, e, s, m, args, below, meth, c⟩, G, E, N⟩ := a
  obtain ⟨hx, hb, hml, hr, ho, hlk, hK, hAD, hN, hex, hl0, hG⟩ := O
  intro cs cl hh H locs la hP hS hL
  have c1 : zr sp := cs (aI sp) (by simp)
  have c2 : zr dp := cs (aI dp) (by simp)
  have c3 : zr nn := cs (aI nn) (by simp)
  have a0 := zws_get (E := E) (h := h) (Nat.lt_of_lt_of_le hp0 hN)
  have a1 := zws_get (E := E) (h := h) (Nat.lt_of_lt_of_le hp1 hN)
  rw [zat_of ht0] at a0
  rw [zat_of ht1] at a1
  have nlt : ∀ {z : Int}, zr z → 0 ≤ z → ¬ Int32.ofInt z < 0 := fun {z} cz hz w => by
    have := (zI_lt cz zr0).mp w
    omega
  have cpy : ∀ p' k', hcp h pl sp.toNat ql dp.toNat nn.toNat p' k' = if p' = ql ∧ dp.toNat ≤ k' ∧ k' < dp.toNat + nn.toNat then h pl (sp.toNat + (k' - dp.toNat)) else h p' k' := fun _ _ => rfl
  refine va_copyi hx hb hL.1.symm ho (zIn_use hK.2.1 hl) (zIn_use hK.2.1 hna) (zIn_use hK.2.1 hs) (zIn_use hK.2.1 hi) hK.1 hP (hAD.D h) hS pl ql 0 0 a0 a1 rfl rfl rfl (nlt c1 h1) (nlt c2 h2) (nlt c3 h3) (by rw [zI_cl c1 h1, zI_cl c3 h3]; omega) (by rw [zI_cl c2 h2, zI_cl c3 h3]; omega) (fun i hi => rfl) (by show 1 ≤ M.1; omega) (by rw [zwd_eq]; show zwd st + _ ≤ zlo M.1; have := zlo_ge M.1; exact Nat.le_trans (Nat.add_le_add hw (show nativeFrameWords "java/lang/System" "arraycopy" 5 + 11 ≤ 100 by decide)) (by omega)) hd fun H1 locs1 hP1 hD1 hS1 => ?_
  rw [zI_cl c1 h1, zI_cl c2 h2, zI_cl c3 h3, zws_set (h' := hcp h pl sp.toNat ql dp.toNat nn.toNat) (by
    rw [zat_of ht1]
    show Sum.inl _ = Sum.inl _
    congr 4
    funext j
    show va_cpy _ _ _ _ _ j = Int32.ofInt (hcp h pl sp.toNat ql dp.toNat nn.toNat ql j)
    rw [cpy]
    unfold va_cpy
    by_cases hj : dp.toNat ≤ j ∧ j < dp.toNat + nn.toNat
    · rw [if_pos hj, if_pos ⟨rfl, hj⟩]
    · rw [if_neg hj, if_neg (fun w => hj w.2)]) (fun p' hp' j => by rw [cpy, if_neg (fun w => hp' w.1)])] at hP1
  refine kk (fun v hv => cs v (by simp [hv])) cl (fun p' k' => ?_) H1 locs1 la hP1 hS1 hL
  rw [cpy]
  by_cases hj : p' = ql ∧ dp.toNat ≤ k' ∧ k' < dp.toNat + nn.toNat
  · rw [if_pos hj, hj.1, zty_a ht1]
    have := hh pl (sp.toNat + (k' - dp.toNat))
    rw [zty_a ht0] at this
    exact this
  · rw [if_neg hj]
    exact hh p' k'
theorem zV_copyL (O : zOk l0 a cc own mL ret mn tb) {idx pl ql n0 n1 : Nat} {sp dp nn : Int} (hl : zIn (.methodLink own idx arraycopyName)) (hna : zIn (.native arraycopyName)) (hs : zIn (.static arraycopyName)) (hi : zIn (.initialized "java/lang/System"))
    (ht0 : zT[pl]? = some (.inl (2, n0))) (ht1 : zT[ql]? = some (.inl (2, n1))) (hp0 : pl < mn) (hp1 : ql < mn) (h1 : 0 ≤ sp) (h2 : 0 ≤ dp) (h3 : 0 ≤ nn) (h4 : sp + nn ≤ n0) (h5 : dp + nn ≤ n1)
    (hd1 : 3 ≤ M.1) (hw : zwd st ≤ 8) (hd : decode cc pc = .ok (.invokestatic idx, 3)) (kk : zV a M k n (pc + 3) ls st (hcp h pl sp.toNat ql dp.toNat nn.toNat)) : zV a M k n pc ls (aI nn :: aI dp :: aR ql :: aI sp :: aR pl :: st) h := by
  obtain ⟨⟨p, l, e, s, m, args, below, meth, c⟩, G, E, N⟩ := a
  obtain ⟨hx, hb, hml, hr, ho, hlk, hK, hAD, hN, hex, hl0, hG⟩ := O
  intro cs cl hh H locs la hP hS hL
  have c1 : zr sp := cs (aI sp) (by simp)
  have c2 : zr dp := cs (aI dp) (by simp)
  have c3 : zr nn := cs (aI nn) (by simp)
  have a0 := zws_get (E := E) (h := h) (Nat.lt_of_lt_of_le hp0 hN)
  have a1 := zws_get (E := E) (h := h) (Nat.lt_of_lt_of_le hp1 hN)
  rw [zat_of ht0] at a0
  rw [zat_of ht1] at a1
  have nlt : ∀ {z : Int}, zr z → 0 ≤ z → ¬ Int32.ofInt z < 0 := fun {z} cz hz w => by
    have := (zI_lt cz zr0).mp w
    omega
  have cpy : ∀ p' k', hcp h pl sp.toNat ql dp.toNat nn.toNat p' k' = if p' = ql ∧ dp.toNat ≤ k' ∧ k' < dp.toNat + nn.toNat then h pl (sp.toNat + (k' - dp.toNat)) else h p' k' := fun _ _ => rfl
  refine va_copyl hx hb hL.1.symm ho (zIn_use hK.2.1 hl) (zIn_use hK.2.1 hna) (zIn_use hK.2.1 hs) (zIn_use hK.2.1 hi) hK.1 hP (hAD.D h) hS pl ql 2 2 a0 a1 rfl rfl rfl (nlt c1 h1) (nlt c2 h2) (nlt c3 h3) (by rw [zI_cl c1 h1, zI_cl c3 h3]; omega) (by rw [zI_cl c2 h2, zI_cl c3 h3]; omega) (fun i hi => rfl) (by show 1 ≤ M.1; omega) (by rw [zwd_eq]; show zwd st + _ ≤ zlo M.1; have := zlo_ge M.1; exact Nat.le_trans (Nat.add_le_add hw (show nativeFrameWords "java/lang/System" "arraycopy" 5 + 11 ≤ 100 by decide)) (by omega)) hd fun H1 locs1 hP1 hD1 hS1 => ?_
  rw [zI_cl c1 h1, zI_cl c2 h2, zI_cl c3 h3, zws_set (h' := hcp h pl sp.toNat ql dp.toNat nn.toNat) (by
    rw [zat_of ht1]
    show Sum.inl _ = Sum.inl _
    congr 5
    funext j
    show va_cpy _ _ _ _ _ j = Int64.ofInt (hcp h pl sp.toNat ql dp.toNat nn.toNat ql j)
    rw [cpy]
    unfold va_cpy
    by_cases hj : dp.toNat ≤ j ∧ j < dp.toNat + nn.toNat
    · rw [if_pos hj, if_pos ⟨rfl, hj⟩]
    · rw [if_neg hj, if_neg (fun w => hj w.2)]) (fun p' hp' j => by rw [cpy, if_neg (fun w => hp' w.1)])] at hP1
  refine kk (fun v hv => cs v (by simp [hv])) cl (fun p' k' => ?_) H1 locs1 la hP1 hS1 hL
  rw [cpy]
  by_cases hj : p' = ql ∧ dp.toNat ≤ k' ∧ k' < dp.toNat + nn.toNat
  · rw [if_pos hj, hj.1, zty_a ht1]
    have := hh pl (sp.toNat + (k' - dp.toNat))
    rw [zty_a ht0] at this
    exact this
  · rw [if_neg hj]
    exact hh p' k'
end ZE
end
section
/-! what an answer must be, by its kind; a state's part -/
theorem zin_at {w : Cond} (i : Nat) (h : lw_tbl[i]? = some w) (h2 : zok w = true) : zIn w := ⟨List.mem_of_getElem? h, h2⟩
abbrev qPI (h : Hp) (Q : Int → Prop) : Option AV → Hp → Prop := fun r h' => h = h' ∧ ∃ z, r = some (aI z) ∧ Q z
abbrev qPZ (h : Hp) (Q : Int → Prop) : Option AV → Hp → Prop := fun r h' => h = h' ∧ ∃ z, r = some (aI z) ∧ (z = 0 ∨ z = 1) ∧ Q z
abbrev qPL (h : Hp) (Q : Int → Prop) : Option AV → Hp → Prop := fun r h' => h = h' ∧ ∃ z, r = some (aL z) ∧ Q z
abbrev qPF (h : Hp) (Q : UInt32 → Prop) : Option AV → Hp → Prop := fun r h' => h = h' ∧ ∃ z, r = some (aF z) ∧ Q z
abbrev qPD (h : Hp) (Q : UInt64 → Prop) : Option AV → Hp → Prop := fun r h' => h = h' ∧ ∃ z, r = some (aD z) ∧ Q z
abbrev qPV (h : Hp) (Q : Prop) : Option AV → Hp → Prop := fun r h' => h = h' ∧ r = none ∧ Q
abbrev qI (Q : Int → Hp → Prop) : Option AV → Hp → Prop := fun r h' => ∃ z, r = some (aI z) ∧ Q z h'
abbrev qZ (Q : Int → Hp → Prop) : Option AV → Hp → Prop := fun r h' => ∃ z, r = some (aI z) ∧ (z = 0 ∨ z = 1) ∧ Q z h'
abbrev qL (Q : Int → Hp → Prop) : Option AV → Hp → Prop := fun r h' => ∃ z, r = some (aL z) ∧ Q z h'
abbrev qF (Q : UInt32 → Hp → Prop) : Option AV → Hp → Prop := fun r h' => ∃ z, r = some (aF z) ∧ Q z h'
abbrev qD (Q : UInt64 → Hp → Prop) : Option AV → Hp → Prop := fun r h' => ∃ z, r = some (aD z) ∧ Q z h'
abbrev qV (Q : Hp → Prop) : Option AV → Hp → Prop := fun r h' => r = none ∧ Q h'
abbrev xN : Nat → Hp → Prop := fun _ _ => False
abbrev xP (h : Hp) (QX : Nat → Prop) : Nat → Hp → Prop := fun x h' => h = h' ∧ QX x
def zsub : List (Option AV) → List (Option AV) → Prop
  | [], _ => True
  | none :: r, [] => zsub r []
  | none :: r, _ :: t => zsub r t
  | some _ :: _, [] => False
  | some v :: r, o :: t => o = some v ∧ zsub r t
theorem zsub_get : ∀ (l t : List (Option AV)) (i : Nat) (v : AV), zsub l t → l[i]? = some (some v) → t[i]? = some (some v) := by
  intro l
  induction l with
  | nil => intro t i v _ h; simp at h
  | cons o r ih =>
    intro t i v hs h
    cases o with
    | none =>
      cases t with
      | nil =>
        simp only [zsub] at hs
        cases i with
        | zero => simp at h
        | succ i =>
          rw [List.getElem?_cons_succ] at h
          have := ih [] i v hs h
          simp at this
      | cons u t =>
        simp only [zsub] at hs
        cases i with
        | zero => simp at h
        | succ i =>
          rw [List.getElem?_cons_succ] at h ⊢
          exact ih t i v hs h
    | some w =>
      cases t with
      | nil => simp only [zsub] at hs
      | cons u t =>
        simp only [zsub] at hs
        cases i with
        | zero =>
          rw [List.getElem?_cons_zero] at h ⊢
          rw [hs.1]
          exact h
        | succ i =>
          rw [List.getElem?_cons_succ] at h ⊢
          exact ih t i v hs.2 h
theorem zV_sub {a : ZC} {M : ZM} {k n pc : Nat} {ls ls2 : List (Option AV)} {st : List AV} {h : Hp} (hs : zsub ls2 ls) (kk : zV a M k n pc ls2 st h) : zV a M k n pc ls st h := by
  refine zV_less (ls2 := ls2) (fun i hi => ?_) kk
  cases ho : ls2[i]? with
  | none => rw [List.getElem?_eq_none_iff] at ho; omega
  | some o =>
    cases o with
    | none => exact Or.inl rfl
    | some v => exact Or.inr (by rw [zsub_get ls2 ls i v hs ho])
/-- where an object of the nets stands -/
def zisN (o : Nat) : Prop := o % 13 = 0 ∧ o < 169
theorem zisN_0 : zisN 0 := ⟨by decide, by decide⟩
theorem zisN_13 : zisN 13 := ⟨by decide, by decide⟩
theorem zisN_26 : zisN 26 := ⟨by decide, by decide⟩
theorem zisN_hist {i : Int} (h : 0 ≤ i ∧ i < 10) : zisN (39 + 13 * Int.toNat i) := by
  unfold zisN
  omega
theorem zN_lt0 {o : Nat} (h : zisN o) : o < 185 := by unfold zisN at h; omega
theorem zN_lt {o : Nat} (h : zisN o) {k : Nat} (hk : k ≤ 12) : o + k < 185 := by unfold zisN at h; omega
theorem zN_cases {P : Nat → Prop} {o : Nat} (h : zisN o) (hp : P 0 ∧ P 13 ∧ P 26 ∧ P 39 ∧ P 52 ∧ P 65 ∧ P 78 ∧ P 91 ∧ P 104 ∧ P 117 ∧ P 130 ∧ P 143 ∧ P 156) : P o := by
  obtain ⟨p0, p1, p2, p3, p4, p5, p6, p7, p8, p9, p10, p11, p12⟩ := hp
  unfold zisN at h
  have : o = 0 ∨ o = 13 ∨ o = 26 ∨ o = 39 ∨ o = 52 ∨ o = 65 ∨ o = 78 ∨ o = 91 ∨ o = 104 ∨ o = 117 ∨ o = 130 ∨ o = 143 ∨ o = 156 := by omega
  rcases this with rfl | rfl | rfl | rfl | rfl | rfl | rfl | rfl | rfl | rfl | rfl | rfl | rfl <;> assumption
theorem zN_o {o : Nat} (h : zisN o) : zT[o]? = some (.inr (3, [0, 0, 0, 0, 0, 0, 0, 2, o + 1 + 3, o + 2 + 3, o + 3 + 3, o + 4 + 3, o + 5 + 3, o + 6 + 3, o + 7 + 3, o + 8 + 3, o + 9 + 3, o + 10 + 3, o + 11 + 3, o + 12 + 3])) :=
  zN_cases (P := fun o => zT[o]? = some (.inr (3, [0, 0, 0, 0, 0, 0, 0, 2, o + 1 + 3, o + 2 + 3, o + 3 + 3, o + 4 + 3, o + 5 + 3, o + 6 + 3, o + 7 + 3, o + 8 + 3, o + 9 + 3, o + 10 + 3, o + 11 + 3, o + 12 + 3]))) h ⟨rfl, rfl, rfl, rfl, rfl, rfl, rfl, rfl, rfl, rfl, rfl, rfl, rfl⟩
theorem zN_a1 {o : Nat} (h : zisN o) : zT[o + 1]? = some (.inl (2, 40)) := zN_cases (P := fun o => zT[o + 1]? = some (.inl (2, 40))) h ⟨rfl, rfl, rfl, rfl, rfl, rfl, rfl, rfl, rfl, rfl, rfl, rfl, rfl⟩
theorem zN_a2 {o : Nat} (h : zisN o) : zT[o + 2]? = some (.inl (0, 40)) := zN_cases (P := fun o => zT[o + 2]? = some (.inl (0, 40))) h ⟨rfl, rfl, rfl, rfl, rfl, rfl, rfl, rfl, rfl, rfl, rfl, rfl, rfl⟩
theorem zN_a3 {o : Nat} (h : zisN o) : zT[o + 3]? = some (.inl (0, 40)) := zN_cases (P := fun o => zT[o + 3]? = some (.inl (0, 40))) h ⟨rfl, rfl, rfl, rfl, rfl, rfl, rfl, rfl, rfl, rfl, rfl, rfl, rfl⟩
theorem zN_a4 {o : Nat} (h : zisN o) : zT[o + 4]? = some (.inl (0, 40)) := zN_cases (P := fun o => zT[o + 4]? = some (.inl (0, 40))) h ⟨rfl, rfl, rfl, rfl, rfl, rfl, rfl, rfl, rfl, rfl, rfl, rfl, rfl⟩
theorem zN_a5 {o : Nat} (h : zisN o) : zT[o + 5]? = some (.inl (0, 40)) := zN_cases (P := fun o => zT[o + 5]? = some (.inl (0, 40))) h ⟨rfl, rfl, rfl, rfl, rfl, rfl, rfl, rfl, rfl, rfl, rfl, rfl, rfl⟩
theorem zN_a6 {o : Nat} (h : zisN o) : zT[o + 6]? = some (.inl (0, 40)) := zN_cases (P := fun o => zT[o + 6]? = some (.inl (0, 40))) h ⟨rfl, rfl, rfl, rfl, rfl, rfl, rfl, rfl, rfl, rfl, rfl, rfl, rfl⟩
theorem zN_a7 {o : Nat} (h : zisN o) : zT[o + 7]? = some (.inl (0, 40)) := zN_cases (P := fun o => zT[o + 7]? = some (.inl (0, 40))) h ⟨rfl, rfl, rfl, rfl, rfl, rfl, rfl, rfl, rfl, rfl, rfl, rfl, rfl⟩
theorem zN_a8 {o : Nat} (h : zisN o) : zT[o + 8]? = some (.inl (0, 400)) := zN_cases (P := fun o => zT[o + 8]? = some (.inl (0, 400))) h ⟨rfl, rfl, rfl, rfl, rfl, rfl, rfl, rfl, rfl, rfl, rfl, rfl, rfl⟩
theorem zN_a9 {o : Nat} (h : zisN o) : zT[o + 9]? = some (.inl (0, 30)) := zN_cases (P := fun o => zT[o + 9]? = some (.inl (0, 30))) h ⟨rfl, rfl, rfl, rfl, rfl, rfl, rfl, rfl, rfl, rfl, rfl, rfl, rfl⟩
theorem zN_a10 {o : Nat} (h : zisN o) : zT[o + 10]? = some (.inl (0, 30)) := zN_cases (P := fun o => zT[o + 10]? = some (.inl (0, 30))) h ⟨rfl, rfl, rfl, rfl, rfl, rfl, rfl, rfl, rfl, rfl, rfl, rfl, rfl⟩
theorem zN_a11 {o : Nat} (h : zisN o) : zT[o + 11]? = some (.inl (0, 30)) := zN_cases (P := fun o => zT[o + 11]? = some (.inl (0, 30))) h ⟨rfl, rfl, rfl, rfl, rfl, rfl, rfl, rfl, rfl, rfl, rfl, rfl, rfl⟩
theorem zN_a12 {o : Nat} (h : zisN o) : zT[o + 12]? = some (.inl (0, 30)) := zN_cases (P := fun o => zT[o + 12]? = some (.inl (0, 30))) h ⟨rfl, rfl, rfl, rfl, rfl, rfl, rfl, rfl, rfl, rfl, rfl, rfl, rfl⟩
end
section
theorem zc_J0_length_8abf5 : zCl yJ0_length_8abf5 cJ0_length_8abf5 1 (some .int) 0 := ⟨zin_at (w := .initialized yJ0_length_8abf5.cls) 80 (by decide +kernel) (by decide +kernel), zin_at (w := .code yJ0_length_8abf5 cJ0_length_8abf5 1 (some .int)) 391 (by decide +kernel) (by decide +kernel), by decide, by decide +kernel⟩
theorem zim_J0_length_8abf5 : zIn (.instanceMethod yJ0_length_8abf5) := zin_at (w := .instanceMethod yJ0_length_8abf5) 389 (by decide +kernel) (by decide +kernel)
theorem zse_J0_length_8abf5 : zIn (.selects yJ0_length_8abf5.cls yJ0_length_8abf5 yJ0_length_8abf5) := zin_at (w := .selects yJ0_length_8abf5.cls yJ0_length_8abf5 yJ0_length_8abf5) 390 (by decide +kernel) (by decide +kernel)
theorem zc_J0_coder_7d493 : zCl yJ0_coder_7d493 cJ0_coder_7d493 1 (some .byte) 0 := ⟨zin_at (w := .initialized yJ0_coder_7d493.cls) 80 (by decide +kernel) (by decide +kernel), zin_at (w := .code yJ0_coder_7d493 cJ0_coder_7d493 1 (some .byte)) 395 (by decide +kernel) (by decide +kernel), by decide, by decide +kernel⟩
theorem zim_J0_coder_7d493 : zIn (.instanceMethod yJ0_coder_7d493) := zin_at (w := .instanceMethod yJ0_coder_7d493) 393 (by decide +kernel) (by decide +kernel)
theorem zse_J0_coder_7d493 : zIn (.selects yJ0_coder_7d493.cls yJ0_coder_7d493 yJ0_coder_7d493) := zin_at (w := .selects yJ0_coder_7d493.cls yJ0_coder_7d493 yJ0_coder_7d493) 394 (by decide +kernel) (by decide +kernel)
theorem zc_J0_charAt_5068e : zCl yJ0_charAt_5068e cJ0_charAt_5068e 2 (some .char) 1 := ⟨zin_at (w := .initialized yJ0_charAt_5068e.cls) 80 (by decide +kernel) (by decide +kernel), zin_at (w := .code yJ0_charAt_5068e cJ0_charAt_5068e 2 (some .char)) 401 (by decide +kernel) (by decide +kernel), by decide, by decide +kernel⟩
theorem zim_J0_charAt_5068e : zIn (.instanceMethod yJ0_charAt_5068e) := zin_at (w := .instanceMethod yJ0_charAt_5068e) 399 (by decide +kernel) (by decide +kernel)
theorem zse_J0_charAt_5068e : zIn (.selects yJ0_charAt_5068e.cls yJ0_charAt_5068e yJ0_charAt_5068e) := zin_at (w := .selects yJ0_charAt_5068e.cls yJ0_charAt_5068e yJ0_charAt_5068e) 400 (by decide +kernel) (by decide +kernel)
theorem zc_J0_isLatin1_aae02 : zCl yJ0_isLatin1_aae02 cJ0_isLatin1_aae02 1 (some .boolean) 0 := ⟨zin_at (w := .initialized yJ0_isLatin1_aae02.cls) 80 (by decide +kernel) (by decide +kernel), zin_at (w := .code yJ0_isLatin1_aae02 cJ0_isLatin1_aae02 1 (some .boolean)) 405 (by decide +kernel) (by decide +kernel), by decide, by decide +kernel⟩
theorem zim_J0_isLatin1_aae02 : zIn (.instanceMethod yJ0_isLatin1_aae02) := zin_at (w := .instanceMethod yJ0_isLatin1_aae02) 403 (by decide +kernel) (by decide +kernel)
theorem zse_J0_isLatin1_aae02 : zIn (.selects yJ0_isLatin1_aae02.cls yJ0_isLatin1_aae02 yJ0_isLatin1_aae02) := zin_at (w := .selects yJ0_isLatin1_aae02.cls yJ0_isLatin1_aae02 yJ0_isLatin1_aae02) 404 (by decide +kernel) (by decide +kernel)
theorem zc_J1_charAt_3b067 : zCl yJ1_charAt_3b067 cJ1_charAt_3b067 2 (some .char) 2 := ⟨zin_at (w := .initialized yJ1_charAt_3b067.cls) 81 (by decide +kernel) (by decide +kernel), zin_at (w := .code yJ1_charAt_3b067 cJ1_charAt_3b067 2 (some .char)) 408 (by decide +kernel) (by decide +kernel), by decide, by decide +kernel⟩
theorem zst_J1_charAt_3b067 : zIn (.static yJ1_charAt_3b067) := zin_at (w := .static yJ1_charAt_3b067) 407 (by decide +kernel) (by decide +kernel)
theorem zc_J0_checkIndex_df160 : zCl yJ0_checkIndex_df160 cJ0_checkIndex_df160 2 none 2 := ⟨zin_at (w := .initialized yJ0_checkIndex_df160.cls) 80 (by decide +kernel) (by decide +kernel), zin_at (w := .code yJ0_checkIndex_df160 cJ0_checkIndex_df160 2 none) 411 (by decide +kernel) (by decide +kernel), by decide, by decide +kernel⟩
theorem zst_J0_checkIndex_df160 : zIn (.static yJ0_checkIndex_df160) := zin_at (w := .static yJ0_checkIndex_df160) 410 (by decide +kernel) (by decide +kernel)
theorem zc_J3_checkIndex_8e157 : zCl yJ3_checkIndex_8e157 cJ3_checkIndex_8e157 3 (some .int) 3 := ⟨zin_at (w := .initialized yJ3_checkIndex_8e157.cls) 82 (by decide +kernel) (by decide +kernel), zin_at (w := .code yJ3_checkIndex_8e157 cJ3_checkIndex_8e157 3 (some .int)) 416 (by decide +kernel) (by decide +kernel), by decide, by decide +kernel⟩
theorem zst_J3_checkIndex_8e157 : zIn (.static yJ3_checkIndex_8e157) := zin_at (w := .static yJ3_checkIndex_8e157) 415 (by decide +kernel) (by decide +kernel)
theorem zpnS_RJ0 : plainName RJ0 = true := by decide
theorem zpnS_RJ1 : plainName RJ1 = true := by decide
theorem zpnS_RJ3 : plainName RJ3 = true := by decide
section ZS
variable {l0 : Launch} {a : ZC} {M : ZM} {cc : ByteArray} {own : String} {mL : Nat} {ret : Option FieldType} {mn : Nat} {tb : List (Nat × Nat × Nat × Nat)} {k n pc : Nat} {ls : List (Option AV)} {st : List AV} {h : Hp}
theorem zST_of {l : Launch} {E : EE} {s : State} (hK : zKK l E s) : zST E s s.heap := hK.2.2.2.2.2.2.2
theorem zV_xret (O : zOk l0 a cc own mL ret mn tb) {z : Int} {ty : FieldType} (hr2 : ret = some ty) (hnar : narrow ty (.int (Int32.ofInt z)) = .int (Int32.ofInt z)) (hq : M.2.2.2.1 (some (aI z)) h) (hk : k ≤ M.2.1) (hn : n ≤ M.2.2.1) (hd : decode cc pc = .ok (.ireturn, 1)) : zV a M k n pc ls [aI z] h := by
  obtain ⟨⟨p, l, e, s, m, args, below, meth, c⟩, G, E, N⟩ := a
  obtain ⟨hx, hb, hml, hr, ho, hlk, hK, hAD, hN, hex, hl0, hG⟩ := O
  intro cs cl hh H locs la hP hS hL
  exact W.widen hk hn (vx_ret (W.zret hx hb (hr.trans hr2) hnar (fun t ht hW => ⟨⟨some (aI z), h, rfl, fun v hv => by cases hv; exact cs _ List.mem_cons_self, hh, hq, by rw [ht]; exact zEx_wd hG hP⟩, by rw [zEx_ge hG]; exact hS.F ht⟩) hS.2.2 hd hlk))
theorem zV_ldcS (O : zOk l0 a cc own mL ret mn tb) {w i : Nat} (hw : w < zSN ∧ (zsd w).1 = own ∧ (zsd w).2.1 = i) (hd : decode cc pc = .ok (.ldc i, 2)) (kk : zV a M k n (pc + 2) ls (aR (1000 + w) :: st) h) : zV a M k n pc ls st h := by
  obtain ⟨⟨p, l, e, s, m, args, below, meth, c⟩, G, E, N⟩ := a
  obtain ⟨hx, hb, hml, hr, ho, hlk, hK, hAD, hN, hex, hl0, hG⟩ := O
  intro cs cl hh H locs la hP hS hL
  obtain ⟨h1, h2, h3⟩ := hw
  subst h2
  subst h3
  exact va_ldcS hx hb ho ((zST_of hK).2.2.1 w h1).1 hd (kk (fun v hv => (List.mem_cons.mp hv).elim (fun e => e ▸ trivial) (cs v)) cl hh H locs la hP hS hL)
theorem zV_gCS (O : zOk l0 a cc own mL ret mn tb) {i : Nat} (hl : zIn (.fieldLink own i "java/lang/String" "COMPACT_STRINGS" "Z")) (hd : decode cc pc = .ok (.getstatic i, 3)) (kk : zV a M k n (pc + 3) ls (aI 1 :: st) h) : zV a M k n pc ls st h := by
  obtain ⟨⟨p, l, e, s, m, args, below, meth, c⟩, G, E, N⟩ := a
  obtain ⟨hx, hb, hml, hr, ho, hlk, hK, hAD, hN, hex, hl0, hG⟩ := O
  intro cs cl hh H locs la hP hS hL
  exact va_gets hx hb (zST_of hK).1 hS ho (zIn_use hK.2.1 hl) (fun _ h => h) hd (kk (fun v hv => (List.mem_cons.mp hv).elim (fun e => e ▸ ⟨by omega, by omega⟩) (cs v)) cl hh H locs la hP hS hL)
theorem zV_gSI (O : zOk l0 a cc own mL ret mn tb) {i : Nat} (hl : zIn (.fieldLink own i "jdk/internal/util/Preconditions" "SIOOBE_FORMATTER" "Ljava/util/function/BiFunction;")) (hd : decode cc pc = .ok (.getstatic i, 3)) (kk : ∀ q : Nat, zV a M k n (pc + 3) ls (aA q :: st) h) : zV a M k n pc ls st h := by
  obtain ⟨⟨p, l, e, s, m, args, below, meth, c⟩, G, E, N⟩ := a
  obtain ⟨hx, hb, hml, hr, ho, hlk, hK, hAD, hN, hex, hl0, hG⟩ := O
  intro cs cl hh H locs la hP hS hL
  rcases (zST_of hK).2.1 with hz | ⟨t, hz⟩
  · exact va_gets hx hb hz hS ho (zIn_use hK.2.1 hl) (fun _ h => h) hd (kk 0 (fun v hv => (List.mem_cons.mp hv).elim (fun e => e ▸ trivial) (cs v)) cl hh H locs la hP hS hL)
  · exact va_gets hx hb hz hS ho (zIn_use hK.2.1 hl) (fun _ h => h) hd (kk (t + 1) (fun v hv => (List.mem_cons.mp hv).elim (fun e => e ▸ trivial) (cs v)) cl hh H locs la hP hS hL)
theorem zV_gcod (O : zOk l0 a cc own mL ret mn tb) {w i : Nat} (hw : w < zSN) (hl : zIn (.fieldLink own i "java/lang/String" "coder" "B")) (hd : decode cc pc = .ok (.getfield i, 3)) (kk : zV a M k n (pc + 3) ls (aI 0 :: st) h) : zV a M k n pc ls (aR (1000 + w) :: st) h := by
  obtain ⟨⟨p, l, e, s, m, args, below, meth, c⟩, G, E, N⟩ := a
  obtain ⟨hx, hb, hml, hr, ho, hlk, hK, hAD, hN, hex, hl0, hG⟩ := O
  intro cs cl hh H locs la hP hS hL
  exact vk_getf hx hb ((zST_of hK).2.2.1 w hw).2.2.1 hS ho (zIn_use hK.2.1 hl) (fun _ h => h) hd (kk (fun v hv => (List.mem_cons.mp hv).elim (fun e => e ▸ zr0) (fun hv => cs v (List.mem_cons_of_mem _ hv))) cl hh H locs la hP hS hL)
theorem zV_gval (O : zOk l0 a cc own mL ret mn tb) {w i : Nat} (hw : w < zSN) (hl : zIn (.fieldLink own i "java/lang/String" "value" "[B")) (hd : decode cc pc = .ok (.getfield i, 3)) (kk : zV a M k n (pc + 3) ls (aR (2000 + w) :: st) h) : zV a M k n pc ls (aR (1000 + w) :: st) h := by
  obtain ⟨⟨p, l, e, s, m, args, below, meth, c⟩, G, E, N⟩ := a
  obtain ⟨hx, hb, hml, hr, ho, hlk, hK, hAD, hN, hex, hl0, hG⟩ := O
  intro cs cl hh H locs la hP hS hL
  exact vk_getf hx hb ((zST_of hK).2.2.1 w hw).2.2.2.1 hS ho (zIn_use hK.2.1 hl) (fun _ h => h) hd (kk (fun v hv => (List.mem_cons.mp hv).elim (fun e => e ▸ trivial) (fun hv => cs v (List.mem_cons_of_mem _ hv))) cl hh H locs la hP hS hL)
theorem zsd_small : ∀ w, w < zSN → (zsd w).2.2.2.length ≤ 9 ∧ ∀ b ∈ (zsd w).2.2.2, 32 ≤ b.toInt ∧ b.toInt ≤ 122 := by decide +kernel
theorem zslen_r {w : Nat} (hw : w < zSN) : zr (zslen w) := by
  have := (zsd_small w hw).1
  unfold zslen zr
  omega
theorem zV_vlen (O : zOk l0 a cc own mL ret mn tb) {w : Nat} (hw : w < zSN) (hd : decode cc pc = .ok (.arraylength, 1)) (kk : zV a M k n (pc + 1) ls (aI (zslen w) :: st) h) : zV a M k n pc ls (aR (2000 + w) :: st) h := by
  obtain ⟨⟨p, l, e, s, m, args, below, meth, c⟩, G, E, N⟩ := a
  obtain ⟨hx, hb, hml, hr, ho, hlk, hK, hAD, hN, hex, hl0, hG⟩ := O
  intro cs cl hh H locs la hP hS hL
  exact va_tlen hx hb ((zST_of hK).2.2.1 w hw).2.2.2.2 hS (v := Int32.ofInt (zslen w)) rfl hd (kk (fun v hv => (List.mem_cons.mp hv).elim (fun e => e ▸ zslen_r hw) (fun hv => cs v (List.mem_cons_of_mem _ hv))) cl hh H locs la hP hS hL)
theorem zV_vbald (O : zOk l0 a cc own mL ret mn tb) {w : Nat} {i : Int} (hw : w < zSN) (hin : 0 ≤ i ∧ i < zslen w) (hd : decode cc pc = .ok (.baload, 1)) (kk : zV a M k n (pc + 1) ls (aI (zsch w i) :: st) h) : zV a M k n pc ls (aI i :: aR (2000 + w) :: st) h := by
  obtain ⟨⟨p, l, e, s, m, args, below, meth, c⟩, G, E, N⟩ := a
  obtain ⟨hx, hb, hml, hr, ho, hlk, hK, hAD, hN, hex, hl0, hG⟩ := O
  intro cs cl hh H locs la hP hS hL
  have ci : zr i := cs (aI i) (by simp)
  refine va_tb hx hb ((zST_of hK).2.2.1 w hw).2.2.2.2 hS (zI_in ci hin) (v := cv E (aI (zsch w i))) ?_ hd (kk (fun v hv => (List.mem_cons.mp hv).elim (fun e => e ▸ zr_I _) (fun hv => cs v (List.mem_cons_of_mem _ (List.mem_cons_of_mem _ hv)))) cl hh H locs la hP hS hL)
  rw [zI_cl ci hin.1]
  exact congrArg Value.int (Int32.ofInt_toInt _).symm
theorem zV_i2c (O : zOk l0 a cc own mL ret mn tb) {x : Int} (hx0 : 0 ≤ x ∧ x < 65536) (hd : decode cc pc = .ok (.i2c, 1)) (kk : zV a M k n (pc + 1) ls (aI x :: st) h) : zV a M k n pc ls (aI x :: st) h := by
  obtain ⟨⟨p, l, e, s, m, args, below, meth, c⟩, G, E, N⟩ := a
  obtain ⟨hx, hb, hml, hr, ho, hlk, hK, hAD, hN, hex, hl0, hG⟩ := O
  intro cs cl hh H locs la hP hS hL
  have cx : zr x := cs (aI x) (by simp)
  refine lv_i2c hx hb hd (v := Int32.ofInt x) ?_ (kk cs cl hh H locs la hP hS hL)
  exact lg_i2c_word (by rw [zI_toInt cx]; exact hx0.1) (by rw [zI_toInt cx]; exact hx0.2)
/-- a call of a text's method -/
theorem zV_callT (O : zOk l0 a cc own mL ret mn tb) {y : MethodName} {idx nn w : Nat} {cc' : ByteArray} {mL' mn' d' mc' ms' : Nat} {ret' : Option FieldType} {as : List AV} {Q' : Option AV → Hp → Prop} {QX' : Nat → Hp → Prop} {st0 : List AV}
    (hc : zCl y cc' mL' ret' nn) (hl : zIn (.methodLink own idx y)) (hi : zIn (.instanceMethod y)) (hs : zIn (.selects y.cls y y))
    (hy : y.cls = "java/lang/String") (hw9 : w < zSN) (hmn : mn' ≤ mn) (hst : st0 = as.reverse ++ aR (1000 + w) :: st) (hnn : as.length = nn) (hw : zwd st ≤ 8)
    (hd1 : d' + 1 ≤ M.1) (hd2 : M.1 ≤ 13) (hmL : mL' ≤ 18) (hk : k + mc' ≤ M.2.1) (hn : n + ms' ≤ M.2.2.1) (hd : decode cc pc = .ok (.invokevirtual idx, 3))
    (sp : zSp l0 y cc' mL' ret' mn' d' mc' ms' (aR (1000 + w) :: as) h Q' QX')
    (kk : ∀ r h', Q' r h' → zV a M (k + mc') (n + ms') (pc + 3) ls (r.toList ++ st) h') (kx : ∀ x h', QX' x h' → zU a M (k + mc') (n + ms') pc ls x h') : zV a M k n pc ls st0 h := by
  obtain ⟨⟨p, l, e, s, m, args, below, meth, c⟩, G, E, N⟩ := a
  obtain ⟨hx, hb, hml, hr, ho, hlk, hK, hAD, hN, hex, hl0, hG⟩ := O
  intro cs cl hh H locs la hP hS hL
  subst hl0
  subst hst
  have hM := sp N (Nat.le_trans hmn hN) (fun v hv => by
    rcases List.mem_cons.mp hv with rfl | hv
    · exact trivial
    · exact cs v (List.mem_append_left _ (List.mem_reverse.mpr hv))) hh E hAD
  obtain ⟨c1, c2, c3, c4⟩ := hc
  have hpre : PreV s H y.cls (E.1 (1000 + w)) (zPc l E N (aR (1000 + w) :: as) h) (as.map (cv E)) := by
    refine ⟨zPc_blind, ?_, fun U hU hW => ⟨rfl, by rw [hU]; exact hP, zKK_warm hW (by rw [hU]; exact hS) hK⟩⟩
    rw [hy]
    exact va_Orecv ((zST_of hK).2.2.1 w hw9).2.1 hS
  have hlo : 8 + (mL' + 11) + (zrm d' mc' ms').locals ≤ (zrm M.1 M.2.1 M.2.2.1).locals := by show 8 + (mL' + 11) + zlo d' ≤ zlo M.1; have := zlo_up hd1 hd2; omega
  have hstk : (F0 m pc la (((as.reverse ++ aR (1000 + w) :: st)).map (cv E))).stack = (as.map (cv E)).reverse ++ .ref (E.1 (1000 + w)) :: st.map (cv E) := by
    show ((as.reverse ++ aR (1000 + w) :: st)).map (cv E) = _
    rw [List.map_append, List.map_reverse]
    rfl
  have hrun : vx_Run p l e (zrm M.1 M.2.1 M.2.2.1) s m args below meth c H locs k n mc' ms' (F0 m pc la (((as.reverse ++ aR (1000 + w) :: st)).map (cv E))) (st.map (cv E)) (zQ E N Q' (Value.ref (E.1 (1000 + w)) :: as.map (cv E)).toArray) (zX E N QX') (zge E) :=
    vx_runV (own := own) (Ts := []) (nL := c.maxLocals) (C := y.cls) (b := E.1 (1000 + w)) ⟨hx, hb, rfl, ho, fun w hw => by cases hw⟩ hM ⟨⟨rfl, rfl, hd1, hlo, zgood hK.2.1 c2, List.mem_singleton.mpr rfl, zIn_use hK.2.1 c2, zIn_use hK.2.1 c1, c3, zlen c4, zIn_use hK.2.1 hl⟩, zIn_use hK.2.1 hi, zIn_use hK.2.1 hs⟩ hpre rfl (by rw [List.length_map]; exact hnn) hL.1 hstk (zroom hw) hd ⟨hk, hn⟩
  refine zV_run hrun hS (fun r h' H1 locs1 q1 q2 q3 q4 q5 => ?_) (fun x h' H1 locs1 q ce q1 q2 q3 q4 q5 q6 q7 => ?_)
  · have := kk r h' q3 (fun v hv => by
      rcases List.mem_append.mp hv with hv | hv
      · exact q1 v (Option.mem_toList.mp hv)
      · exact cs v (List.mem_append_right _ (List.mem_cons_of_mem _ hv))) cl q2 H1 locs1 la q4 q5 hL
    rw [List.map_append] at this
    cases r <;> exact this
  · exact kx x h' q2 cl q1 H1 locs1 la q ce _ q3 q4 hL q5 q6 q7
end ZS
set_option maxHeartbeats 4000000 in
set_option maxRecDepth 100000 in
theorem sS_cod {l0 : Launch} {w : Nat} {h : Hp} (hw : w < zSN) : zSp l0 yJ0_coder_7d493 cJ0_coder_7d493 1 (some .byte) 185 1 0 0 [aR (1000 + w)] h (qPI h (fun z => z = 0)) xN := by
  refine zSp_intro zpnS_RJ0 (Nat.le_of_ble_eq_true rfl) (fun a O => ?_)
  show zV a (1, 0, 0, (qPI h (fun z => z = 0)), xN) 0 0 0 [some (aR (1000 + w))] [] h
  refine zV_gCS O (zin_at (w := .fieldLink RJ0 38 "java/lang/String" "COMPACT_STRINGS" "Z") 396 (by decide +kernel) (by decide +kernel)) dJ0_coder_7d493_0 ?_
  refine zV_if_eq (tgt := 13) O dJ0_coder_7d493_3 (by decide) (fun hc => absurd hc (by decide)) (fun hc => ?_)
  refine zV_aload_n O dJ0_coder_7d493_6 rfl rfl ?_
  refine zV_gcod O hw (zin_at (w := .fieldLink RJ0 15 "java/lang/String" "coder" "B") 983 (by decide +kernel) (by decide +kernel)) dJ0_coder_7d493_7 ?_
  refine zV_goto (tgt := 14) O dJ0_coder_7d493_10 (by decide) ?_
  exact zV_xret O rfl rfl ⟨rfl, _, rfl, rfl⟩ (Nat.le_of_ble_eq_true rfl) (Nat.le_of_ble_eq_true rfl) dJ0_coder_7d493_14
set_option maxHeartbeats 4000000 in
set_option maxRecDepth 100000 in
theorem sS_lat {l0 : Launch} {w : Nat} {h : Hp} (hw : w < zSN) : zSp l0 yJ0_isLatin1_aae02 cJ0_isLatin1_aae02 1 (some .boolean) 185 1 0 0 [aR (1000 + w)] h (qPI h (fun z => z = 1)) xN := by
  refine zSp_intro zpnS_RJ0 (Nat.le_of_ble_eq_true rfl) (fun a O => ?_)
  show zV a (1, 0, 0, (qPI h (fun z => z = 1)), xN) 0 0 0 [some (aR (1000 + w))] [] h
  refine zV_gCS O (zin_at (w := .fieldLink RJ0 38 "java/lang/String" "COMPACT_STRINGS" "Z") 396 (by decide +kernel) (by decide +kernel)) dJ0_isLatin1_aae02_0 ?_
  refine zV_if_eq (tgt := 17) O dJ0_isLatin1_aae02_3 (by decide) (fun hc => absurd hc (by decide)) (fun hc => ?_)
  refine zV_aload_n O dJ0_isLatin1_aae02_6 rfl rfl ?_
  refine zV_gcod O hw (zin_at (w := .fieldLink RJ0 15 "java/lang/String" "coder" "B") 983 (by decide +kernel) (by decide +kernel)) dJ0_isLatin1_aae02_7 ?_
  refine zV_if_ne (tgt := 17) O dJ0_isLatin1_aae02_10 (by decide) (fun hc => absurd rfl hc) (fun hc => ?_)
  refine zV_iconst (z := 1) O ⟨by omega, by omega⟩ dJ0_isLatin1_aae02_13 ?_
  refine zV_goto (tgt := 18) O dJ0_isLatin1_aae02_14 (by decide) ?_
  exact zV_zret O rfl (Or.inr rfl) ⟨rfl, _, rfl, rfl⟩ (Nat.le_of_ble_eq_true rfl) (Nat.le_of_ble_eq_true rfl) dJ0_isLatin1_aae02_18
set_option maxHeartbeats 4000000 in
set_option maxRecDepth 100000 in
theorem sS_len {l0 : Launch} {w : Nat} {h : Hp} (hw : w < zSN) : zSp l0 yJ0_length_8abf5 cJ0_length_8abf5 1 (some .int) 185 2 0 0 [aR (1000 + w)] h (qPI h (fun z => z = zslen w)) xN := by
  refine zSp_intro zpnS_RJ0 (Nat.le_of_ble_eq_true rfl) (fun a O => ?_)
  show zV a (2, 0, 0, (qPI h (fun z => z = zslen w)), xN) 0 0 0 [some (aR (1000 + w))] [] h
  refine zV_aload_n O dJ0_length_8abf5_0 rfl rfl ?_
  refine zV_gval O hw (zin_at (w := .fieldLink RJ0 9 "java/lang/String" "value" "[B") 982 (by decide +kernel) (by decide +kernel)) dJ0_length_8abf5_1 ?_
  refine zV_vlen O hw dJ0_length_8abf5_4 ?_
  refine zV_aload_n O dJ0_length_8abf5_5 rfl rfl ?_
  refine zV_callT (as := []) (st := [aI (zslen w)]) O zc_J0_coder_7d493 (zin_at (w := .methodLink RJ0 335 yJ0_coder_7d493) 392 (by decide +kernel) (by decide +kernel)) zim_J0_coder_7d493 zse_J0_coder_7d493 rfl hw (Nat.le_of_ble_eq_true rfl) rfl rfl (Nat.le_of_ble_eq_true rfl) (Nat.le_of_ble_eq_true rfl) (Nat.le_of_ble_eq_true rfl) (Nat.le_of_ble_eq_true rfl) (Nat.le_of_ble_eq_true rfl) (Nat.le_of_ble_eq_true rfl) dJ0_length_8abf5_6 (sS_cod hw) (fun r h9 hq => ?_) (fun x h9 hq => hq.elim)
  obtain ⟨rfl, z, rfl, rfl⟩ := hq
  refine zV_ishr O dJ0_length_8abf5_9 ?_
  refine zV_iret O rfl ⟨rfl, _, rfl, ?_⟩ (Nat.le_of_ble_eq_true rfl) (Nat.le_of_ble_eq_true rfl) dJ0_length_8abf5_10
  have h1 := zslen_r hw
  unfold zishr
  rw [show Int32.ofInt (zslen w) >>> (Int32.ofInt 0 &&& 31) = Int32.ofInt (zslen w) from sb_shr0 _, zI_toInt h1]
set_option maxHeartbeats 4000000 in
set_option maxRecDepth 100000 in
theorem sS_pc {l0 : Launch} {i n : Int} {q : Nat} {h : Hp} (hi : 0 ≤ i ∧ i < n) : zSp l0 yJ3_checkIndex_8e157 cJ3_checkIndex_8e157 3 (some .int) 185 1 0 0 [aI i, aI n, aA q] h (qPI h (fun z => z = i)) xN := by
  refine zSp_intro zpnS_RJ3 (Nat.le_of_ble_eq_true rfl) (fun a O => ?_)
  show zV a (1, 0, 0, (qPI h (fun z => z = i)), xN) 0 0 0 [some (aI i), some (aI n), some (aA q)] [] h
  refine zV_iload_n O dJ3_checkIndex_8e157_0 rfl rfl ?_
  refine zV_if_lt (tgt := 9) O dJ3_checkIndex_8e157_1 (by decide) (fun hc => absurd hc (by omega)) (fun hc => ?_)
  refine zV_iload_n O dJ3_checkIndex_8e157_4 rfl rfl ?_
  refine zV_iload_n O dJ3_checkIndex_8e157_5 rfl rfl ?_
  refine zV_icmp_lt (tgt := 16) O dJ3_checkIndex_8e157_6 (by decide) (fun hc => ?_) (fun hc => absurd hi.2 hc)
  refine zV_iload_n O dJ3_checkIndex_8e157_16 rfl rfl ?_
  exact zV_iret O rfl ⟨rfl, _, rfl, rfl⟩ (Nat.le_of_ble_eq_true rfl) (Nat.le_of_ble_eq_true rfl) dJ3_checkIndex_8e157_17
set_option maxHeartbeats 4000000 in
set_option maxRecDepth 100000 in
theorem sS_ci {l0 : Launch} {i n : Int} {h : Hp} (hi : 0 ≤ i ∧ i < n) : zSp l0 yJ0_checkIndex_df160 cJ0_checkIndex_df160 2 none 185 2 0 0 [aI i, aI n] h (qPV h True) xN := by
  refine zSp_intro zpnS_RJ0 (Nat.le_of_ble_eq_true rfl) (fun a O => ?_)
  show zV a (2, 0, 0, (qPV h True), xN) 0 0 0 [some (aI i), some (aI n)] [] h
  refine zV_iload_n O dJ0_checkIndex_df160_0 rfl rfl ?_
  refine zV_iload_n O dJ0_checkIndex_df160_1 rfl rfl ?_
  refine zV_gSI O (zin_at (w := .fieldLink RJ0 1053 "jdk/internal/util/Preconditions" "SIOOBE_FORMATTER" "Ljava/util/function/BiFunction;") 412 (by decide +kernel) (by decide +kernel)) dJ0_checkIndex_df160_2 (fun q => ?_)
  refine zV_callS (as := [aI i, aI n, aA q]) (st := []) O zc_J3_checkIndex_8e157 (Or.inl (zin_at (w := .methodLink RJ0 1059 yJ3_checkIndex_8e157) 414 (by decide +kernel) (by decide +kernel))) zst_J3_checkIndex_8e157 (Nat.le_of_ble_eq_true rfl) rfl rfl (Nat.le_of_ble_eq_true rfl) (Nat.le_of_ble_eq_true rfl) (Nat.le_of_ble_eq_true rfl) (Nat.le_of_ble_eq_true rfl) (Nat.le_of_ble_eq_true rfl) (Nat.le_of_ble_eq_true rfl) dJ0_checkIndex_df160_5 (sS_pc hi) (fun r h9 hq => ?_) (fun x h9 hq => hq.elim)
  obtain ⟨rfl, z, rfl, rfl⟩ := hq
  refine zV_pop O rfl dJ0_checkIndex_df160_8 ?_
  exact zV_vret O rfl ⟨rfl, rfl, trivial⟩ (Nat.le_of_ble_eq_true rfl) (Nat.le_of_ble_eq_true rfl) dJ0_checkIndex_df160_9
set_option maxHeartbeats 4000000 in
set_option maxRecDepth 100000 in
theorem sS_l1 {l0 : Launch} {w : Nat} {i : Int} {h : Hp} (hw : w < zSN) (hi : 0 ≤ i ∧ i < zslen w) : zSp l0 yJ1_charAt_3b067 cJ1_charAt_3b067 2 (some .char) 185 3 0 0 [aR (2000 + w), aI i] h (qPI h (fun z => z = zsch w i)) xN := by
  refine zSp_intro zpnS_RJ1 (Nat.le_of_ble_eq_true rfl) (fun a O => ?_)
  show zV a (3, 0, 0, (qPI h (fun z => z = zsch w i)), xN) 0 0 0 [some (aR (2000 + w)), some (aI i)] [] h
  have hb : 32 ≤ zsch w i ∧ zsch w i ≤ 122 := by
    refine (zsd_small w hw).2 ((zsd w).2.2.2.getD i.toNat 0) ?_
    have hlt : i.toNat < (zsd w).2.2.2.length := by have := hi.2; unfold zslen at this; omega
    rw [List.getD_eq_getElem?_getD, List.getElem?_eq_getElem hlt]
    exact List.getElem_mem hlt
  refine zV_iload_n O dJ1_charAt_3b067_0 rfl rfl ?_
  refine zV_aload_n O dJ1_charAt_3b067_1 rfl rfl ?_
  refine zV_vlen O hw dJ1_charAt_3b067_2 ?_
  refine zV_callS (as := [aI i, aI (zslen w)]) (st := []) O zc_J0_checkIndex_df160 (Or.inl (zin_at (w := .methodLink RJ1 9 yJ0_checkIndex_df160) 409 (by decide +kernel) (by decide +kernel))) zst_J0_checkIndex_df160 (Nat.le_of_ble_eq_true rfl) rfl rfl (Nat.le_of_ble_eq_true rfl) (Nat.le_of_ble_eq_true rfl) (Nat.le_of_ble_eq_true rfl) (Nat.le_of_ble_eq_true rfl) (Nat.le_of_ble_eq_true rfl) (Nat.le_of_ble_eq_true rfl) dJ1_charAt_3b067_3 (sS_ci hi) (fun r h9 hq => ?_) (fun x h9 hq => hq.elim)
  obtain ⟨rfl, rfl, -⟩ := hq
  refine zV_aload_n O dJ1_charAt_3b067_6 rfl rfl ?_
  refine zV_iload_n O dJ1_charAt_3b067_7 rfl rfl ?_
  refine zV_vbald O hw hi dJ1_charAt_3b067_8 ?_
  refine zV_sipush (z := 255) O ⟨by omega, by omega⟩ rfl dJ1_charAt_3b067_9 ?_
  refine zV_iand O dJ1_charAt_3b067_12 ?_
  have he : zand (zsch w i) 255 = zsch w i := by
    unfold zand
    obtain ⟨j, hj⟩ : ∃ j : Nat, zsch w i = (j : Int) := ⟨(zsch w i).toNat, by omega⟩
    rw [hj]
    have hj2 : j < 256 := by omega
    rw [show Int32.ofInt (j : Int) = nI j from rfl, show Int32.ofInt 255 = (255 : Int32) from rfl, pk_andN (n := j) (by omega) (m := 255) 8 (by decide), Nat.mod_eq_of_lt (by omega), nI_toInt (by omega)]
  rw [he]
  refine zV_i2c O ⟨by omega, by omega⟩ dJ1_charAt_3b067_13 ?_
  refine zV_xret O rfl ?_ ⟨rfl, _, rfl, rfl⟩ (Nat.le_of_ble_eq_true rfl) (Nat.le_of_ble_eq_true rfl) dJ1_charAt_3b067_14
  obtain ⟨j, hj⟩ : ∃ j : Nat, zsch w i = (j : Int) := ⟨(zsch w i).toNat, by omega⟩
  rw [hj]
  exact (pk_charN (q := j) (by omega)).1
set_option maxHeartbeats 4000000 in
set_option maxRecDepth 100000 in
theorem sS_chr {l0 : Launch} {w : Nat} {i : Int} {h : Hp} (hw : w < zSN) (hi : 0 ≤ i ∧ i < zslen w) : zSp l0 yJ0_charAt_5068e cJ0_charAt_5068e 2 (some .char) 185 4 0 0 [aR (1000 + w), aI i] h (qPI h (fun z => z = zsch w i)) xN := by
  refine zSp_intro zpnS_RJ0 (Nat.le_of_ble_eq_true rfl) (fun a O => ?_)
  show zV a (4, 0, 0, (qPI h (fun z => z = zsch w i)), xN) 0 0 0 [some (aR (1000 + w)), some (aI i)] [] h
  have hb : 32 ≤ zsch w i ∧ zsch w i ≤ 122 := by
    refine (zsd_small w hw).2 ((zsd w).2.2.2.getD i.toNat 0) ?_
    have hlt : i.toNat < (zsd w).2.2.2.length := by have := hi.2; unfold zslen at this; omega
    rw [List.getD_eq_getElem?_getD, List.getElem?_eq_getElem hlt]
    exact List.getElem_mem hlt
  refine zV_aload_n O dJ0_charAt_5068e_0 rfl rfl ?_
  refine zV_callT (as := []) (st := []) O zc_J0_isLatin1_aae02 (zin_at (w := .methodLink RJ0 492 yJ0_isLatin1_aae02) 402 (by decide +kernel) (by decide +kernel)) zim_J0_isLatin1_aae02 zse_J0_isLatin1_aae02 rfl hw (Nat.le_of_ble_eq_true rfl) rfl rfl (Nat.le_of_ble_eq_true rfl) (Nat.le_of_ble_eq_true rfl) (Nat.le_of_ble_eq_true rfl) (Nat.le_of_ble_eq_true rfl) (Nat.le_of_ble_eq_true rfl) (Nat.le_of_ble_eq_true rfl) dJ0_charAt_5068e_1 (sS_lat hw) (fun r h9 hq => ?_) (fun x h9 hq => hq.elim)
  obtain ⟨rfl, z, rfl, rfl⟩ := hq
  refine zV_if_eq (tgt := 16) O dJ0_charAt_5068e_4 (by decide) (fun hc => absurd hc (by decide)) (fun hc => ?_)
  refine zV_aload_n O dJ0_charAt_5068e_7 rfl rfl ?_
  refine zV_gval O hw (zin_at (w := .fieldLink RJ0 9 "java/lang/String" "value" "[B") 982 (by decide +kernel) (by decide +kernel)) dJ0_charAt_5068e_8 ?_
  refine zV_iload_n O dJ0_charAt_5068e_11 rfl rfl ?_
  refine zV_callS (as := [aR (2000 + w), aI i]) (st := []) O zc_J1_charAt_3b067 (Or.inl (zin_at (w := .methodLink RJ0 495 yJ1_charAt_3b067) 406 (by decide +kernel) (by decide +kernel))) zst_J1_charAt_3b067 (Nat.le_of_ble_eq_true rfl) rfl rfl (Nat.le_of_ble_eq_true rfl) (Nat.le_of_ble_eq_true rfl) (Nat.le_of_ble_eq_true rfl) (Nat.le_of_ble_eq_true rfl) (Nat.le_of_ble_eq_true rfl) (Nat.le_of_ble_eq_true rfl) dJ0_charAt_5068e_12 (sS_l1 hw hi) (fun r h9 hq => ?_) (fun x h9 hq => hq.elim)
  obtain ⟨rfl, z, rfl, rfl⟩ := hq
  refine zV_xret O rfl ?_ ⟨rfl, _, rfl, rfl⟩ (Nat.le_of_ble_eq_true rfl) (Nat.le_of_ble_eq_true rfl) dJ0_charAt_5068e_15
  obtain ⟨j, hj⟩ : ∃ j : Nat, zsch w i = (j : Int) := ⟨(zsch w i).toNat, by omega⟩
  rw [hj]
  exact (pk_charN (q := j) (by omega)).1
theorem zV_slen {l0 : Launch} {a : ZC} {M : ZM} {cc : ByteArray} {own : String} {mL : Nat} {ret : Option FieldType} {mn : Nat} {tb : List (Nat × Nat × Nat × Nat)} {k n pc : Nat} {ls : List (Option AV)} {st : List AV} {h : Hp} (O : zOk l0 a cc own mL ret mn tb) {idx w : Nat} (hw : w < zSN) (hl : zIn (.methodLink own idx yJ0_length_8abf5)) (hmn : 185 ≤ mn) (hwd : zwd st ≤ 8) (hd1 : 5 ≤ M.1) (hd2 : M.1 ≤ 13) (hkn : k ≤ M.2.1 ∧ n ≤ M.2.2.1) (hd : decode cc pc = .ok (.invokevirtual idx, 3)) (kk : zV a M k n (pc + 3) ls (aI (zslen w) :: st) h) : zV a M k n pc ls (aR (1000 + w) :: st) h := by
  refine zV_callT (as := []) (st := st) O zc_J0_length_8abf5 hl zim_J0_length_8abf5 zse_J0_length_8abf5 rfl hw hmn rfl rfl hwd (by omega) hd2 (by omega) hkn.1 hkn.2 hd (sS_len hw) (fun r h9 hq => ?_) (fun x h9 hq => hq.elim)
  obtain ⟨rfl, z, rfl, rfl⟩ := hq
  exact kk
theorem zV_schar {l0 : Launch} {a : ZC} {M : ZM} {cc : ByteArray} {own : String} {mL : Nat} {ret : Option FieldType} {mn : Nat} {tb : List (Nat × Nat × Nat × Nat)} {k n pc : Nat} {ls : List (Option AV)} {st : List AV} {h : Hp} (O : zOk l0 a cc own mL ret mn tb) {idx w : Nat} {i : Int} (hw : w < zSN) (hi : 0 ≤ i ∧ i < zslen w) (hl : zIn (.methodLink own idx yJ0_charAt_5068e)) (hmn : 185 ≤ mn) (hwd : zwd st ≤ 8) (hd1 : 5 ≤ M.1) (hd2 : M.1 ≤ 13) (hkn : k ≤ M.2.1 ∧ n ≤ M.2.2.1) (hd : decode cc pc = .ok (.invokevirtual idx, 3)) (kk : zV a M k n (pc + 3) ls (aI (zsch w i) :: st) h) : zV a M k n pc ls (aI i :: aR (1000 + w) :: st) h := by
  refine zV_callT (as := [aI i]) (st := st) O zc_J0_charAt_5068e hl zim_J0_charAt_5068e zse_J0_charAt_5068e rfl hw hmn rfl rfl hwd (by omega) hd2 (by omega) hkn.1 hkn.2 hd (sS_chr hw hi) (fun r h9 hq => ?_) (fun x h9 hq => hq.elim)
  obtain ⟨rfl, z, rfl, rfl⟩ := hq
  exact kk
end
section
/-! more rows: shifts, the script, arrays laid anew -/
def zishl (x y : Int) : Int := (Int32.ofInt x <<< (Int32.ofInt y &&& 31)).toInt
def zior (x y : Int) : Int := (Int32.ofInt x ||| Int32.ofInt y).toInt
/-- place p laid anew: zeros, its length, its kind -/
def hnw (h : Hp) (p t : Nat) (z : Int) : Hp := fun p' k => if p' = p then (if k = 100000 then z else if k = 100001 then (t : Int) else 0) else h p' k
theorem hnw_np {h : Hp} {p t p' : Nat} {z : Int} (hn : p' ≠ p) : hnw h p t z p' = h p' := by
  funext k
  exact if_neg hn
/-- place p holds an array of the kind t, and i is in it -/
def zgk (t : Int) (h : Hp) (p : Nat) (i : Int) : Prop := (h p 100001 = t ∧ h p 100000 ≤ 1000) ∧ 0 ≤ i ∧ i < h p 100000
theorem vpi_congr {cA : ClassId} {n : Nat} {f g : Nat → Int32} (h : ∀ j, j < n → f j = g j) : vp_cell cA (n, .inl f) = vp_cell cA (n, .inl g) := by
  rw [vp_cell_i, vp_cell_i]
  unfold arrV
  congr 2
  funext j
  show Value.int (f j.val) = Value.int (g j.val)
  rw [h j.val j.isLt]
/-- the value doesn't name place p -/
def znoV (p : Nat) (v : AV) : Bool := match v with
  | .inr (.inr (.inl q)) => !(q == p)
  | _ => true
def zno (p : Nat) (ls : List (Option AV)) (st : List AV) : Bool := (ls.all fun o => match o with
  | some v => znoV p v
  | none => true) && st.all (znoV p)
theorem znoV_cv {E E' : EE} {p : Nat} (he : ∀ q, q ≠ p → E'.1 q = E.1 q) {v : AV} (h : znoV p v = true) : cv E' v = cv E v := by
  rcases v with z | z | q | u | u | q
  · rfl
  · rfl
  · have hq : (!(q == p)) = true := h
    have hq : q ≠ p := by simpa using hq
    show Value.ref (E'.1 q) = Value.ref (E.1 q)
    rw [he q hq]
  · rfl
  · rfl
  · cases q <;> rfl
theorem zno_st {E E' : EE} {p : Nat} (he : ∀ q, q ≠ p → E'.1 q = E.1 q) {st : List AV} (h : st.all (znoV p) = true) : st.map (cv E') = st.map (cv E) :=
  List.map_congr_left fun v hv => znoV_cv he (List.all_eq_true.mp h v hv)
theorem zno_pr {E E' : EE} {p : Nat} (he : ∀ q, q ≠ p → E'.1 q = E.1 q) : ∀ (ls : List (Option AV)) (i : Nat), (ls.all fun o => match o with
  | some v => znoV p v
  | none => true) = true → zpr E' i ls = zpr E i ls := by
  intro ls
  induction ls with
  | nil => intro i _; rfl
  | cons o r ih =>
    intro i h
    rw [List.all_cons, Bool.and_eq_true] at h
    cases o with
    | none => exact ih (i + 1) h.2
    | some v =>
      show (i, cv E' v) :: zpr E' (i + 1) r = (i, cv E v) :: zpr E (i + 1) r
      rw [znoV_cv he h.1, ih (i + 1) h.2]
/-- a' is a with place p laid anew besides -/
def zXt (a a' : ZC) (p : Nat) : Prop := ∃ (A : ZA) (G : EE × Nat) (E E' : EE), a = (A, G, E, p) ∧ a' = (A, G, E', p + 1) ∧ (∀ q, q ≠ p → E'.1 q = E.1 q) ∧ E'.2 = E.2
theorem zcell_G {E : EE} {h : Hp} {p : Nat} : zcell E h p (.inl (4, 0)) = .inl (E.2.2.1 (h p 100001).toNat, (h p 100000).toNat, .inl (fun j => Int32.ofInt (h p j))) := rfl
section ZM
variable {l0 : Launch} {a : ZC} {M : ZM} {cc : ByteArray} {own : String} {mL : Nat} {ret : Option FieldType} {mn : Nat} {tb : List (Nat × Nat × Nat × Nat)} {k n pc : Nat} {ls : List (Option AV)} {st : List AV} {h : Hp}
theorem zV_ishl (O : zOk l0 a cc own mL ret mn tb) {x y : Int}
    (hd : decode cc pc = .ok (.ishl, 1)) (kk : zV a M k n (pc + 1) ls (aI (zishl x y) :: st) h) : zV a M k n pc ls (aI y :: aI x :: st) h := by
  obtain ⟨⟨p, l, e, s, m, args, below, meth, c⟩, G, E, N⟩ := a
  obtain ⟨hx, hb, hml, hr, ho, hlk, hK, hAD, hN, hex, hl0, hG⟩ := O
  intro cs cl hh H locs la hP hS hL
  refine lv_ishl hx hb hd ?_
  have k2 := kk (fun v hv => (List.mem_cons.mp hv).elim (fun e => e ▸ zr_I _) (fun q => cs v (List.mem_cons_of_mem _ (List.mem_cons_of_mem _ q)))) cl hh H locs la hP hS hL
  rw [List.map_cons, show cv E (aI (zishl x y)) = .int (Int32.ofInt (zishl x y)) from rfl, show Int32.ofInt (zishl x y) = _ from Int32.ofInt_toInt _] at k2
  exact k2
theorem zV_ior (O : zOk l0 a cc own mL ret mn tb) {x y : Int}
    (hd : decode cc pc = .ok (.ior, 1)) (kk : zV a M k n (pc + 1) ls (aI (zior x y) :: st) h) : zV a M k n pc ls (aI y :: aI x :: st) h := by
  obtain ⟨⟨p, l, e, s, m, args, below, meth, c⟩, G, E, N⟩ := a
  obtain ⟨hx, hb, hml, hr, ho, hlk, hK, hAD, hN, hex, hl0, hG⟩ := O
  intro cs cl hh H locs la hP hS hL
  refine lv_ior hx hb hd ?_
  have k2 := kk (fun v hv => (List.mem_cons.mp hv).elim (fun e => e ▸ zr_I _) (fun q => cs v (List.mem_cons_of_mem _ (List.mem_cons_of_mem _ q)))) cl hh H locs la hP hS hL
  rw [List.map_cons, show cv E (aI (zior x y)) = .int (Int32.ofInt (zior x y)) from rfl, show Int32.ofInt (zior x y) = _ from Int32.ofInt_toInt _] at k2
  exact k2
/-- the script's length, and what stands in it -/
def zSL (a : ZC) : Int := (a.2.2.1.1 998 : Nat)
theorem zV_scl (O : zOk l0 a cc own mL ret mn tb) (hd : decode cc pc = .ok (.arraylength, 1)) (kk : 0 ≤ zSL a → zSL a ≤ 260 → zV a M k n (pc + 1) ls (aI (zSL a) :: st) h) : zV a M k n pc ls (aR 999 :: st) h := by
  obtain ⟨⟨p, l, e, s, m, args, below, meth, c⟩, G, E, N⟩ := a
  obtain ⟨hx, hb, hml, hr, ho, hlk, hK, hAD, hN, hex, hl0, hG⟩ := O
  intro cs cl hh H locs la hP hS hL
  obtain ⟨-, -, -, ⟨xs, hX⟩, h260, hbl, hbE, -⟩ := zST_of hK
  have hz : zSL ((p, l, e, s, m, args, below, meth, c), G, E, N) = ((E.1 998 : Nat) : Int) := rfl
  rw [hz] at kk
  refine va_slen hx hb hX hbl (by show ¬ E.2.2.2 ≤ E.1 999; omega) hS hd ?_
  exact kk (by omega) (by omega) (fun v hv => (List.mem_cons.mp hv).elim (fun e => e ▸ (show zr _ from ⟨by omega, by omega⟩)) (fun hv => cs v (List.mem_cons_of_mem _ hv))) cl hh H locs la hP hS hL
theorem zV_scd (O : zOk l0 a cc own mL ret mn tb) {i : Int} (hin : 0 ≤ i ∧ i < zSL a) (hd : decode cc pc = .ok (.iaload, 1)) (kk : ∀ z, zr z → zV a M k n (pc + 1) ls (aI z :: st) h) : zV a M k n pc ls (aI i :: aR 999 :: st) h := by
  obtain ⟨⟨p, l, e, s, m, args, below, meth, c⟩, G, E, N⟩ := a
  obtain ⟨hx, hb, hml, hr, ho, hlk, hK, hAD, hN, hex, hl0, hG⟩ := O
  intro cs cl hh H locs la hP hS hL
  obtain ⟨-, -, -, ⟨xs, hX⟩, h260, hbl, hbE, -⟩ := zST_of hK
  have hz : zSL ((p, l, e, s, m, args, below, meth, c), G, E, N) = ((E.1 998 : Nat) : Int) := rfl
  rw [hz] at hin
  have ci : zr i := cs (aI i) (by simp)
  refine va_sld hx hb hX hbl (by show ¬ E.2.2.2 ≤ E.1 999; omega) hS (zI_in ci hin) hd ?_
  rw [zI_cl ci hin.1]
  have k2 := kk (xs i.toNat).toInt (zr_I _) (fun v hv => (List.mem_cons.mp hv).elim (fun e => e ▸ zr_I _) (fun hv => cs v (List.mem_cons_of_mem _ (List.mem_cons_of_mem _ hv)))) cl hh H locs la hP hS hL
  rw [List.map_cons, show cv E (aI (xs i.toNat).toInt) = .int (Int32.ofInt (xs i.toNat).toInt) from rfl, show Int32.ofInt ((xs i.toNat).toInt) = xs i.toNat from Int32.ofInt_toInt _] at k2
  exact k2
theorem zV_ialdG (O : zOk l0 a cc own mL ret mn tb) {pl : Nat} {i : Int} (ht : zT[pl]? = some (.inl (4, 0))) (hp : pl < mn) (hc : zgk 0 h pl i)
    (hd : decode cc pc = .ok (.iaload, 1)) (kk : zV a M k n (pc + 1) ls (aI (h pl i.toNat) :: st) h) : zV a M k n pc ls (aI i :: aR pl :: st) h := by
  obtain ⟨⟨p, l, e, s, m, args, below, meth, c⟩, G, E, N⟩ := a
  obtain ⟨hx, hb, hml, hr, ho, hlk, hK, hAD, hN, hex, hl0, hG⟩ := O
  intro cs cl hh H locs la hP hS hL
  have ci : zr i := cs (aI i) (by simp)
  have hat := zws_get (E := E) (h := h) (Nat.lt_of_lt_of_le hp hN)
  rw [zat_of ht, zcell_G, hc.1.1] at hat
  have hz : zr (h pl i.toNat) := by have := hh pl i.toNat; rw [zty_a ht] at this; exact this
  refine va_iald hx hb hK.1 hP pl 0 hat rfl (zI_in ci ⟨hc.2.1, by have := hc.2.2; omega⟩) hd ?_
  rw [zI_cl ci hc.2.1]
  exact kk (fun v hv => (List.mem_cons.mp hv).elim (fun e => e ▸ hz) (fun hv => cs v (List.mem_cons_of_mem _ (List.mem_cons_of_mem _ hv)))) cl hh H locs la hP hS hL
theorem zV_zaldG (O : zOk l0 a cc own mL ret mn tb) {pl : Nat} {i : Int} (ht : zT[pl]? = some (.inl (4, 0))) (hp : pl < mn) (hc : zgk 4 h pl i)
    (hd : decode cc pc = .ok (.baload, 1)) (kk : zV a M k n (pc + 1) ls (aI (h pl i.toNat) :: st) h) : zV a M k n pc ls (aI i :: aR pl :: st) h := by
  obtain ⟨⟨p, l, e, s, m, args, below, meth, c⟩, G, E, N⟩ := a
  obtain ⟨hx, hb, hml, hr, ho, hlk, hK, hAD, hN, hex, hl0, hG⟩ := O
  intro cs cl hh H locs la hP hS hL
  have ci : zr i := cs (aI i) (by simp)
  have hat := zws_get (E := E) (h := h) (Nat.lt_of_lt_of_le hp hN)
  rw [zat_of ht, zcell_G, hc.1.1] at hat
  have hz : zr (h pl i.toNat) := by have := hh pl i.toNat; rw [zty_a ht] at this; exact this
  refine va_zald hx hb hK.1 hP pl 4 hat rfl (zI_in ci ⟨hc.2.1, by have := hc.2.2; omega⟩) hd ?_
  rw [zI_cl ci hc.2.1]
  exact kk (fun v hv => (List.mem_cons.mp hv).elim (fun e => e ▸ hz) (fun hv => cs v (List.mem_cons_of_mem _ (List.mem_cons_of_mem _ hv)))) cl hh H locs la hP hS hL
theorem zV_iastG (O : zOk l0 a cc own mL ret mn tb) {pl : Nat} {i z : Int} (ht : zT[pl]? = some (.inl (4, 0))) (hp : pl < mn) (hc : zgk 0 h pl i)
    (hd : decode cc pc = .ok (.iastore, 1)) (kk : zV a M k n (pc + 1) ls st (hu h pl i.toNat z)) : zV a M k n pc ls (aI z :: aI i :: aR pl :: st) h := by
  obtain ⟨⟨p, l, e, s, m, args, below, meth, c⟩, G, E, N⟩ := a
  obtain ⟨hx, hb, hml, hr, ho, hlk, hK, hAD, hN, hex, hl0, hG⟩ := O
  intro cs cl hh H locs la hP hS hL
  have ci : zr i := cs (aI i) (by simp)
  have cz : zr z := cs (aI z) (by simp)
  have hi : i.toNat < 1000 := by have := hc.1.2; have := hc.2.2; have := hc.2.1; omega
  have hat := zws_get (E := E) (h := h) (Nat.lt_of_lt_of_le hp hN)
  rw [zat_of ht, zcell_G, hc.1.1] at hat
  refine va_iast hx hb hK.1 hP (hAD.D h) hS pl 0 hat rfl (zI_in ci ⟨hc.2.1, by have := hc.2.2; omega⟩) hd fun H1 locs1 hP1 hD1 hS1 => ?_
  rw [zI_cl ci hc.2.1, zws_set (h' := hu h pl i.toNat z) (by
    rw [zat_of ht, zcell_G, hu_ne (by omega), hu_ne (by omega), hc.1.1]
    show Sum.inl _ = Sum.inl _
    congr 4
    funext j
    by_cases hj : j = i.toNat
    · subst hj; simp [upd, hu]
    · simp [upd, hu, hj]) (fun p' hp' j => hu_np hp')] at hP1
  exact kk (fun v hv => cs v (List.mem_cons_of_mem _ (List.mem_cons_of_mem _ (List.mem_cons_of_mem _ hv)))) cl (zhok_hu hh (by rw [zty_a ht]; exact cz)) H1 locs1 la hP1 hS1 hL
theorem zV_zastG (O : zOk l0 a cc own mL ret mn tb) {pl : Nat} {i z : Int} (ht : zT[pl]? = some (.inl (4, 0))) (hp : pl < mn) (hc : zgk 4 h pl i) (hz : z = 0 ∨ z = 1)
    (hd : decode cc pc = .ok (.bastore, 1)) (kk : zV a M k n (pc + 1) ls st (hu h pl i.toNat z)) : zV a M k n pc ls (aI z :: aI i :: aR pl :: st) h := by
  obtain ⟨⟨p, l, e, s, m, args, below, meth, c⟩, G, E, N⟩ := a
  obtain ⟨hx, hb, hml, hr, ho, hlk, hK, hAD, hN, hex, hl0, hG⟩ := O
  intro cs cl hh H locs la hP hS hL
  have ci : zr i := cs (aI i) (by simp)
  have cz : zr z := cs (aI z) (by simp)
  have hi : i.toNat < 1000 := by have := hc.1.2; have := hc.2.2; have := hc.2.1; omega
  have hat := zws_get (E := E) (h := h) (Nat.lt_of_lt_of_le hp hN)
  rw [zat_of ht, zcell_G, hc.1.1] at hat
  have hnar : vp_nar .boolean (Int32.ofInt z) = Int32.ofInt z := by rcases hz with rfl | rfl <;> decide
  refine va_zast hx hb hK.1 hP (hAD.D h) hS pl 4 hat rfl (zI_in ci ⟨hc.2.1, by have := hc.2.2; omega⟩) hd fun H1 locs1 hP1 hD1 hS1 => ?_
  rw [zI_cl ci hc.2.1, hnar, zws_set (h' := hu h pl i.toNat z) (by
    rw [zat_of ht, zcell_G, hu_ne (by omega), hu_ne (by omega), hc.1.1]
    show Sum.inl _ = Sum.inl _
    congr 4
    funext j
    by_cases hj : j = i.toNat
    · subst hj; simp [upd, hu]
    · simp [upd, hu, hj]) (fun p' hp' j => hu_np hp')] at hP1
  exact kk (fun v hv => cs v (List.mem_cons_of_mem _ (List.mem_cons_of_mem _ (List.mem_cons_of_mem _ hv)))) cl (zhok_hu hh (by rw [zty_a ht]; exact cz)) H1 locs1 la hP1 hS1 hL
theorem z_cid {E : EE} {cA : ClassId} {i : Nat} {ty : FieldType} {s : State} (hK : va_K E.2.1 vwCl (ztys E ++ [(cA, ty)]) s) (hi : (ztys E)[i]? = some (E.2.2.1 i, ty)) : cA = E.2.2.1 i := by
  have h0 := (hK.2 i (E.2.2.1 i, ty) (by rw [List.getElem?_append_left (List.getElem?_eq_some_iff.mp hi).1]; exact hi)).2
  have h1 := (hK.2 5 (cA, ty) rfl).2
  cases ty with
  | object C =>
    obtain ⟨_, _, _, _, _, h4⟩ := h0
    obtain ⟨_, _, _, _, _, h5⟩ := h1
    exact Option.some.inj (h5.symm.trans h4)
  | _ => exact Option.some.inj (h1.symm.trans h0)
/-- a new array, at the first place that is free -/
theorem zV_newG (O : zOk l0 a cc own mL ret mn tb) (hNe : a.2.2.2 = mn) (ht : zT[mn]? = some (.inl (4, 0))) {z : Int} {L ti : Nat} {atype : ArrayType} (hmn : mn = 187 ∨ mn = 188) (hz : 0 ≤ z ∧ z ≤ L) (hti : (ti = 0 ∧ atype = .int) ∨ (ti = 4 ∧ atype = .boolean))
    (hk : k + 1 ≤ M.2.1) (hn : n + L ≤ M.2.2.1) (hno : zno mn ls st = true) (hd : decode cc pc = .ok (.newarray atype, 2)) (hL : L ≤ 1000 := by decide)
    (kk : ∀ a' : ZC, zOk l0 a' cc own mL ret (mn + 1) tb → a'.2.2.2 = mn + 1 → zXt a a' mn → zV a' M (k + 1) (n + L) (pc + 2) ls (aR mn :: st) (hnw h mn ti z)) : zV a M k n pc ls (aI z :: st) h := by
  obtain ⟨⟨p, l, e, s, m, args, below, meth, c⟩, G, E, N⟩ := a
  have hNe : N = mn := hNe
  subst hNe
  obtain ⟨hx, hb, hml, hr, ho, hlk, hK, hAD, hN, hex, hl0, hG⟩ := O
  intro cs cl hh H locs la hP hS hL2
  have cz : zr z := cs (aI z) (by simp)
  have hac := (zST_of hK).2.2.2.2.2.2.2
  have hge : ∀ q, s.heap.size ≤ q → zge E q := fun q hq => Nat.le_trans hK.2.2.2.1 hq
  have hneg : ¬ Int32.ofInt z < 0 := fun w => by have := (zI_lt cz zr0).mp w; omega
  unfold zno at hno
  rw [Bool.and_eq_true] at hno
  have key : ∀ (q : Nat) (H1 : Heap), va_P E.2.1 vwCl (zws E N h ++ [(q, .inl (E.2.2.1 ti, z.toNat, .inl fun _ => 0))]) H1 → va_D (zge E) (zws E N h ++ [(q, .inl (E.2.2.1 ti, z.toNat, .inl fun _ => 0))]) → va_S (zge E) s.heap H1 locs → W p l e (zrm M.1 M.2.1 M.2.2.1) s m args below meth c H1 locs (k + 1) (n + z.toNat) (vx_MQ below (zQ G.1 G.2 M.2.2.2.1) (zX G.1 G.2 M.2.2.2.2) args s M.2.1 M.2.2.1 (zge E)) (F0 m (pc + 2) la (.ref q :: st.map (cv E))) := by
    intro q H1 hP1 hD1 hS1
    have hlen : (zws E N h).length = N := by simp [zws]
    have hE : ∀ p, p ≠ N → (fun p => if p = N then q else E.1 p) p = E.1 p := fun p hp => if_neg hp
    have hq : (fun p => if p = N then q else E.1 p) N = q := if_pos rfl
    have hat : ∀ p, p < N → zat ((fun p => if p = N then q else E.1 p), E.2) (hnw h N ti z) p = zat E h p := fun p hp => by
      rw [zat_congr (h := h) (fun j => by rw [hnw_np (by omega)])]
      exact zat_E (E := ((fun p => if p = N then q else E.1 p), E.2)) (E0 := E) (fun r h1 h2 => hE r (by omega)) rfl
    have e1 : hnw h N ti z N 100001 = (ti : Int) := by unfold hnw; rw [if_pos rfl, if_neg (by decide), if_pos rfl]
    have e2 : hnw h N ti z N 100000 = z := by unfold hnw; rw [if_pos rfl, if_pos rfl]
    have hWd : zWd ((fun p => if p = N then q else E.1 p), E.2) (N + 1) (hnw h N ti z) H1 := by
      intro j x hj
      obtain ⟨h5, rfl⟩ := zws_in hj
      by_cases hjN : j = N
      · subst hjN
        have h1 := hP1 j _ (by rw [List.getElem?_append_right (by omega), hlen, Nat.sub_self]; rfl)
        show va_at _ _ _ _
        rw [zat_of ht, zcell_G, e1, e2]
        show H1[(fun p => if p = j then q else E.1 p) j]? = some (vp_cell _ _)
        rw [hq, show ((ti : Int)).toNat = ti by omega, vpi_congr (g := fun _ => 0) (fun i hi => by
          have : hnw h j ti z j i = 0 := by unfold hnw; rw [if_pos rfl, if_neg (by omega), if_neg (by omega)]
          rw [this]; rfl)]
        exact h1
      · have h1 := hP1 j _ (by rw [List.getElem?_append_left (by omega)]; exact zws_get (by omega))
        show va_at _ _ ((fun p => if p = N then q else E.1 p) j, _) _
        rw [hat j (by omega), hE j hjN]
        exact h1
    have hAD1 : zAD ((fun p => if p = N then q else E.1 p), E.2) (N + 1) := by
      have g0 : ∀ j, j < N + 1 → ∃ x, (zws E N h ++ [(q, (.inl (E.2.2.1 ti, z.toNat, .inl fun _ => 0) : va_E))])[j]? = some ((fun p => if p = N then q else E.1 p) j, x) := fun j hj => by
        by_cases hjN : j = N
        · subst hjN
          refine ⟨.inl (E.2.2.1 ti, z.toNat, .inl fun _ => 0), ?_⟩
          rw [List.getElem?_append_right (by omega), hlen, Nat.sub_self, hq]
          rfl
        · refine ⟨zat E h j, ?_⟩
          rw [List.getElem?_append_left (by omega), hE j hjN]
          exact zws_get (by omega)
      refine ⟨fun i j hi hj he => ?_, fun i hi => ?_⟩
      · obtain ⟨x, hx1⟩ := g0 i hi
        obtain ⟨y, hy1⟩ := g0 j hj
        exact hD1.1 i j _ _ hx1 hy1 he
      · obtain ⟨x, hx1⟩ := g0 i hi
        exact hD1.2 i _ hx1
    have hKK1 : zKK l ((fun p => if p = N then q else E.1 p), E.2) s := by
      obtain ⟨k1, k2, k3, k4, k5, k6, k7, k8⟩ := hK
      refine ⟨k1, k2, k3, k4, k5, k6, k7, ?_⟩
      obtain ⟨s1, s2, s3, s4, s5, s6, s7, s8⟩ := k8
      have g1 : ∀ w, (fun p => if p = N then q else E.1 p) (1000 + w) = E.1 (1000 + w) := fun w => hE _ (by omega)
      have g2 : ∀ w, (fun p => if p = N then q else E.1 p) (2000 + w) = E.1 (2000 + w) := fun w => hE _ (by omega)
      have g3 : (fun p => if p = N then q else E.1 p) 999 = E.1 999 := hE _ (by omega)
      have g4 : (fun p => if p = N then q else E.1 p) 998 = E.1 998 := hE _ (by omega)
      refine ⟨s1, s2, fun w hw => ?_, ?_, ?_, ?_, ?_, s8⟩
      · have := s3 w hw
        show vk_R _ _ _ ((fun p => if p = N then q else E.1 p) (1000 + w)) s ∧ va_O _ ((fun p => if p = N then q else E.1 p) (1000 + w)) _ s _ ∧ va_OF _ _ _ _ ((fun p => if p = N then q else E.1 p) (1000 + w)) _ s _ ∧ va_OF _ _ _ (.ref ((fun p => if p = N then q else E.1 p) (2000 + w))) ((fun p => if p = N then q else E.1 p) (1000 + w)) _ s _ ∧ va_T _ ((fun p => if p = N then q else E.1 p) (2000 + w)) _ _ _ s _
        rw [g1, g2]
        exact this
      · show ∃ xs, va_X ((fun p => if p = N then q else E.1 p) 999) ((fun p => if p = N then q else E.1 p) 998) xs s s.heap
        rw [g3, g4]
        exact s4
      · show (fun p => if p = N then q else E.1 p) 998 ≤ 260
        rw [g4]
        exact s5
      · show (fun p => if p = N then q else E.1 p) 999 < s.heap.size
        rw [g3]
        exact s6
      · show (fun p => if p = N then q else E.1 p) 999 < E.2.2.2
        rw [g3]
        exact s7
    have hG1 : zEx G ((fun p => if p = N then q else E.1 p), E.2) (N + 1) := ⟨Nat.le_succ_of_le hG.1, fun p hp => by
      show (fun p => if p = N then q else E.1 p) p = _
      rw [hE p (by have := hG.1; omega)]
      exact hG.2.1 p hp, fun p h1 h2 => by
      show (fun p => if p = N then q else E.1 p) p = _
      rw [hE p (by omega)]
      exact hG.2.2.1 p h1 h2, hG.2.2.2⟩
    have hEs : ∀ r, r ≠ N → ((fun p => if p = N then q else E.1 p), E.2).1 r = E.1 r := hE
    have V := kk ((p, l, e, s, m, args, below, meth, c), G, ((fun p => if p = N then q else E.1 p), E.2), N + 1) ⟨hx, hb, hml, hr, ho, hlk, hKK1, hAD1, Nat.le_refl _, hex, hl0, hG1⟩ rfl ⟨_, _, _, _, rfl, rfl, hE, rfl⟩ (fun v hv => (List.mem_cons.mp hv).elim (fun e => e ▸ trivial) (fun hv => cs v (List.mem_cons_of_mem _ hv))) cl (fun p' k' => by
      by_cases hp' : p' = N
      · subst hp'
        rw [zty_a ht]
        show zr (hnw h p' ti z p' k')
        unfold hnw
        rw [if_pos rfl]
        have ht4 : ti = 0 ∨ ti = 4 := hti.elim (fun w => Or.inl w.1) (fun w => Or.inr w.1)
        split
        · exact cz
        · split
          · exact ⟨by omega, by omega⟩
          · exact zr0
      · rw [hnw_np hp']
        exact hh p' k') H1 locs la hWd hS1 (by
      show lv_has la c.maxLocals _
      rw [zno_pr hEs ls 0 hno.1]
      exact hL2)
    rw [List.map_cons, zno_st hEs hno.2, show cv ((fun p => if p = N then q else E.1 p), E.2) (aR N) = .ref q from congrArg Value.ref hq] at V
    exact W.widen (Nat.le_refl _) (by omega) V
  rcases hti with ⟨rfl, rfl⟩ | ⟨rfl, rfl⟩
  · refine va_newa hx hb (atype := .int) (hac .int (by simp) _) rfl hK.1 hP (hAD.D h) hS hge (a0 := (z.toNat, .inl fun _ => 0)) (fun cA => rfl) hneg (zI_cl cz hz.1) (by show z.toNat * 4 ≤ _; omega) hk (by show _ ≤ M.2.2.1; omega) hd fun q cA H1 hK1 hP1 hD1 hS1 => ?_
    have e1 := z_cid hK1 (i := 0) rfl
    subst e1
    exact key q H1 hP1 hD1 hS1
  · refine va_newa hx hb (atype := .boolean) (hac .boolean (by simp) _) rfl hK.1 hP (hAD.D h) hS hge (a0 := (z.toNat, .inl fun _ => 0)) (fun cA => rfl) hneg (zI_cl cz hz.1) (by show z.toNat * 1 ≤ _; omega) hk (by show _ ≤ M.2.2.1; omega) hd fun q cA H1 hK1 hP1 hD1 hS1 => ?_
    have e1 := z_cid hK1 (i := 4) rfl
    subst e1
    exact key q H1 hP1 hD1 hS1
/-- what was laid anew is let go -/
theorem zV_back {a' : ZC} {p : Nat} (X : zXt a a' p) (hno : zno p ls st = true) (hp : p = 187 ∨ p = 188) (kk : zV a M k n pc ls st h) : zV a' M k n pc ls st h := by
  obtain ⟨⟨p1, l, e, s, m, args, below, meth, c⟩, G, E, E', rfl, rfl, he, h2⟩ := X
  intro cs cl hh H locs la hP hS hL
  unfold zno at hno
  rw [Bool.and_eq_true] at hno
  have hge : zge E' = zge E := by unfold zge; rw [h2]
  have K := kk cs cl hh H locs la (zWd_sub (Nat.le_succ _) (fun q hq => he q (by omega)) (fun q h3 h4 => he q (by omega)) h2 hP) (by rw [← hge]; exact hS) (by
    show lv_has la c.maxLocals _
    rw [← zno_pr he ls 0 hno.1]
    exact hL)
  rw [zno_st he hno.2, hge]
  exact K
end ZM
end
