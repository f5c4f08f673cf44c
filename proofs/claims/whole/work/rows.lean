section
-- ===== PART A: goes FIRST, ahead of the names: the tables' words, and 'selects' of the private methods out of them =====
/-- a private method of a class that the tables say can be made, by its rows of tables_1 -/
def lw_okq (q : MethodName × Nat) : Prop := (q.1.cls ≠ "java/lang/invoke/MethodHandle" ∧ q.1.cls ≠ "java/lang/invoke/VarHandle") ∧ Cond.instantiable q.1.cls q.2 ∈ tables_1 ∧ Cond.privateMethod q.1 ∈ tables_1 ∧ Cond.instanceMethod q.1 ∈ tables_1
theorem lw_p0 : lw_okq (⟨"StreamersHeld", "badLineSign", "()I"⟩, 14) := ⟨⟨by decide +kernel, by decide +kernel⟩, List.mem_of_getElem? (i := 21) (by decide +kernel), List.mem_of_getElem? (i := 271) (by decide +kernel), List.mem_of_getElem? (i := 272) (by decide +kernel)⟩
theorem lw_p1 : lw_okq (⟨"StreamersHeld", "fitsLine", "(I)Z"⟩, 14) := ⟨⟨by decide +kernel, by decide +kernel⟩, List.mem_of_getElem? (i := 21) (by decide +kernel), List.mem_of_getElem? (i := 278) (by decide +kernel), List.mem_of_getElem? (i := 279) (by decide +kernel)⟩
theorem lw_p2 : lw_okq (⟨"StreamersHeld", "addLines", "()V"⟩, 14) := ⟨⟨by decide +kernel, by decide +kernel⟩, List.mem_of_getElem? (i := 21) (by decide +kernel), List.mem_of_getElem? (i := 294) (by decide +kernel), List.mem_of_getElem? (i := 295) (by decide +kernel)⟩
theorem lw_p3 : lw_okq (⟨"StreamersHeld$Rule", "takeThing", "(I)Z"⟩, 9) := ⟨⟨by decide +kernel, by decide +kernel⟩, List.mem_of_getElem? (i := 125) (by decide +kernel), List.mem_of_getElem? (i := 314) (by decide +kernel), List.mem_of_getElem? (i := 315) (by decide +kernel)⟩
theorem lw_p4 : lw_okq (⟨"StreamersHeld$Rule", "hold", "(I)V"⟩, 9) := ⟨⟨by decide +kernel, by decide +kernel⟩, List.mem_of_getElem? (i := 125) (by decide +kernel), List.mem_of_getElem? (i := 318) (by decide +kernel), List.mem_of_getElem? (i := 319) (by decide +kernel)⟩
theorem lw_p5 : lw_okq (⟨"StreamersHeld$Rule", "open", "()Z"⟩, 9) := ⟨⟨by decide +kernel, by decide +kernel⟩, List.mem_of_getElem? (i := 125) (by decide +kernel), List.mem_of_getElem? (i := 322) (by decide +kernel), List.mem_of_getElem? (i := 323) (by decide +kernel)⟩
theorem lw_p6 : lw_okq (⟨"StreamersHeld$Rule", "emit", "(I)V"⟩, 9) := ⟨⟨by decide +kernel, by decide +kernel⟩, List.mem_of_getElem? (i := 125) (by decide +kernel), List.mem_of_getElem? (i := 329) (by decide +kernel), List.mem_of_getElem? (i := 330) (by decide +kernel)⟩
theorem lw_p7 : lw_okq (⟨"StreamersHeld$Rule", "take", "(I)Z"⟩, 9) := ⟨⟨by decide +kernel, by decide +kernel⟩, List.mem_of_getElem? (i := 125) (by decide +kernel), List.mem_of_getElem? (i := 335) (by decide +kernel), List.mem_of_getElem? (i := 336) (by decide +kernel)⟩
theorem lw_p8 : lw_okq (⟨"StreamersHeld$Rule", "takeDigit", "(I)Z"⟩, 9) := ⟨⟨by decide +kernel, by decide +kernel⟩, List.mem_of_getElem? (i := 125) (by decide +kernel), List.mem_of_getElem? (i := 339) (by decide +kernel), List.mem_of_getElem? (i := 340) (by decide +kernel)⟩
theorem lw_p9 : lw_okq (⟨"StreamersHeld$Rule", "close", "()Z"⟩, 9) := ⟨⟨by decide +kernel, by decide +kernel⟩, List.mem_of_getElem? (i := 125) (by decide +kernel), List.mem_of_getElem? (i := 343) (by decide +kernel), List.mem_of_getElem? (i := 344) (by decide +kernel)⟩
theorem lw_p10 : lw_okq (⟨"StreamersHeld$Rule", "release", "(I)V"⟩, 9) := ⟨⟨by decide +kernel, by decide +kernel⟩, List.mem_of_getElem? (i := 125) (by decide +kernel), List.mem_of_getElem? (i := 347) (by decide +kernel), List.mem_of_getElem? (i := 348) (by decide +kernel)⟩
theorem lw_p11 : lw_okq (⟨"StreamersHeld$Rule", "takeBetween", "(I)Z"⟩, 9) := ⟨⟨by decide +kernel, by decide +kernel⟩, List.mem_of_getElem? (i := 125) (by decide +kernel), List.mem_of_getElem? (i := 354) (by decide +kernel), List.mem_of_getElem? (i := 355) (by decide +kernel)⟩
theorem lw_p12 : lw_okq (⟨"StreamersHeld", "goHours", "(I)I"⟩, 14) := ⟨⟨by decide +kernel, by decide +kernel⟩, List.mem_of_getElem? (i := 21) (by decide +kernel), List.mem_of_getElem? (i := 390) (by decide +kernel), List.mem_of_getElem? (i := 391) (by decide +kernel)⟩
theorem lw_p13 : lw_okq (⟨"StreamersHeld$Sail", "payOut", "()V"⟩, 13) := ⟨⟨by decide +kernel, by decide +kernel⟩, List.mem_of_getElem? (i := 61) (by decide +kernel), List.mem_of_getElem? (i := 398) (by decide +kernel), List.mem_of_getElem? (i := 399) (by decide +kernel)⟩
theorem lw_p14 : lw_okq (⟨"StreamersHeld", "tell", "(JJ)V"⟩, 14) := ⟨⟨by decide +kernel, by decide +kernel⟩, List.mem_of_getElem? (i := 21) (by decide +kernel), List.mem_of_getElem? (i := 448) (by decide +kernel), List.mem_of_getElem? (i := 449) (by decide +kernel)⟩
theorem lw_p15 : lw_okq (⟨"StreamersHeld", "settled", "(I)I"⟩, 14) := ⟨⟨by decide +kernel, by decide +kernel⟩, List.mem_of_getElem? (i := 21) (by decide +kernel), List.mem_of_getElem? (i := 460) (by decide +kernel), List.mem_of_getElem? (i := 461) (by decide +kernel)⟩
def lw_privs_1 : List (MethodName × Nat) := [(⟨"StreamersHeld", "badLineSign", "()I"⟩, 14), (⟨"StreamersHeld", "fitsLine", "(I)Z"⟩, 14), (⟨"StreamersHeld", "addLines", "()V"⟩, 14), (⟨"StreamersHeld$Rule", "takeThing", "(I)Z"⟩, 9), (⟨"StreamersHeld$Rule", "hold", "(I)V"⟩, 9), (⟨"StreamersHeld$Rule", "open", "()Z"⟩, 9), (⟨"StreamersHeld$Rule", "emit", "(I)V"⟩, 9), (⟨"StreamersHeld$Rule", "take", "(I)Z"⟩, 9), (⟨"StreamersHeld$Rule", "takeDigit", "(I)Z"⟩, 9), (⟨"StreamersHeld$Rule", "close", "()Z"⟩, 9), (⟨"StreamersHeld$Rule", "release", "(I)V"⟩, 9), (⟨"StreamersHeld$Rule", "takeBetween", "(I)Z"⟩, 9), (⟨"StreamersHeld", "goHours", "(I)I"⟩, 14), (⟨"StreamersHeld$Sail", "payOut", "()V"⟩, 13), (⟨"StreamersHeld", "tell", "(JJ)V"⟩, 14), (⟨"StreamersHeld", "settled", "(I)I"⟩, 14)]
theorem lw_r1 : ∀ q ∈ lw_privs_1, lw_okq q := List.forall_mem_cons.mpr ⟨lw_p0, List.forall_mem_cons.mpr ⟨lw_p1, List.forall_mem_cons.mpr ⟨lw_p2, List.forall_mem_cons.mpr ⟨lw_p3, List.forall_mem_cons.mpr ⟨lw_p4, List.forall_mem_cons.mpr ⟨lw_p5, List.forall_mem_cons.mpr ⟨lw_p6, List.forall_mem_cons.mpr ⟨lw_p7, List.forall_mem_cons.mpr ⟨lw_p8, List.forall_mem_cons.mpr ⟨lw_p9, List.forall_mem_cons.mpr ⟨lw_p10, List.forall_mem_cons.mpr ⟨lw_p11, List.forall_mem_cons.mpr ⟨lw_p12, List.forall_mem_cons.mpr ⟨lw_p13, List.forall_mem_cons.mpr ⟨lw_p14, List.forall_mem_cons.mpr ⟨lw_p15, fun _ h => absurd h List.not_mem_nil⟩⟩⟩⟩⟩⟩⟩⟩⟩⟩⟩⟩⟩⟩⟩⟩
theorem lw_p16 : lw_okq (⟨"StreamersHeld", "runTo", "(II)I"⟩, 14) := ⟨⟨by decide +kernel, by decide +kernel⟩, List.mem_of_getElem? (i := 21) (by decide +kernel), List.mem_of_getElem? (i := 473) (by decide +kernel), List.mem_of_getElem? (i := 474) (by decide +kernel)⟩
theorem lw_p17 : lw_okq (⟨"StreamersHeld", "setRate", "(II)I"⟩, 14) := ⟨⟨by decide +kernel, by decide +kernel⟩, List.mem_of_getElem? (i := 21) (by decide +kernel), List.mem_of_getElem? (i := 491) (by decide +kernel), List.mem_of_getElem? (i := 492) (by decide +kernel)⟩
theorem lw_p18 : lw_okq (⟨"StreamersHeld", "fillReel", "(II)I"⟩, 14) := ⟨⟨by decide +kernel, by decide +kernel⟩, List.mem_of_getElem? (i := 21) (by decide +kernel), List.mem_of_getElem? (i := 499) (by decide +kernel), List.mem_of_getElem? (i := 500) (by decide +kernel)⟩
theorem lw_p19 : lw_okq (⟨"StreamersHeld", "turnEnd", "(I)I"⟩, 14) := ⟨⟨by decide +kernel, by decide +kernel⟩, List.mem_of_getElem? (i := 21) (by decide +kernel), List.mem_of_getElem? (i := 507) (by decide +kernel), List.mem_of_getElem? (i := 508) (by decide +kernel)⟩
theorem lw_p20 : lw_okq (⟨"StreamersHeld", "setSpeed", "(I)I"⟩, 14) := ⟨⟨by decide +kernel, by decide +kernel⟩, List.mem_of_getElem? (i := 21) (by decide +kernel), List.mem_of_getElem? (i := 516) (by decide +kernel), List.mem_of_getElem? (i := 517) (by decide +kernel)⟩
theorem lw_p21 : lw_okq (⟨"StreamersHeld", "badActSign", "()I"⟩, 14) := ⟨⟨by decide +kernel, by decide +kernel⟩, List.mem_of_getElem? (i := 21) (by decide +kernel), List.mem_of_getElem? (i := 524) (by decide +kernel), List.mem_of_getElem? (i := 525) (by decide +kernel)⟩
theorem lw_p22 : lw_okq (⟨"StreamersHeld", "act", "(I)I"⟩, 14) := ⟨⟨by decide +kernel, by decide +kernel⟩, List.mem_of_getElem? (i := 21) (by decide +kernel), List.mem_of_getElem? (i := 531) (by decide +kernel), List.mem_of_getElem? (i := 532) (by decide +kernel)⟩
theorem lw_p23 : lw_okq (⟨"StreamersHeld", "foresee", "(I)V"⟩, 14) := ⟨⟨by decide +kernel, by decide +kernel⟩, List.mem_of_getElem? (i := 21) (by decide +kernel), List.mem_of_getElem? (i := 551) (by decide +kernel), List.mem_of_getElem? (i := 552) (by decide +kernel)⟩
theorem lw_p24 : lw_okq (⟨"StreamersHeld", "tell", "(J)V"⟩, 14) := ⟨⟨by decide +kernel, by decide +kernel⟩, List.mem_of_getElem? (i := 21) (by decide +kernel), List.mem_of_getElem? (i := 581) (by decide +kernel), List.mem_of_getElem? (i := 582) (by decide +kernel)⟩
theorem lw_p25 : lw_okq (⟨"StreamersHeld", "hoursHeld", "(II)I"⟩, 14) := ⟨⟨by decide +kernel, by decide +kernel⟩, List.mem_of_getElem? (i := 21) (by decide +kernel), List.mem_of_getElem? (i := 602) (by decide +kernel), List.mem_of_getElem? (i := 603) (by decide +kernel)⟩
theorem lw_p26 : lw_okq (⟨"StreamersHeld", "holdBySpeed", "(II)I"⟩, 14) := ⟨⟨by decide +kernel, by decide +kernel⟩, List.mem_of_getElem? (i := 21) (by decide +kernel), List.mem_of_getElem? (i := 614) (by decide +kernel), List.mem_of_getElem? (i := 615) (by decide +kernel)⟩
theorem lw_p27 : lw_okq (⟨"StreamersHeld", "tellSet", "(II)I"⟩, 14) := ⟨⟨by decide +kernel, by decide +kernel⟩, List.mem_of_getElem? (i := 21) (by decide +kernel), List.mem_of_getElem? (i := 625) (by decide +kernel), List.mem_of_getElem? (i := 626) (by decide +kernel)⟩
theorem lw_p28 : lw_okq (⟨"StreamersHeld", "holdsWithout", "(III)Z"⟩, 14) := ⟨⟨by decide +kernel, by decide +kernel⟩, List.mem_of_getElem? (i := 21) (by decide +kernel), List.mem_of_getElem? (i := 633) (by decide +kernel), List.mem_of_getElem? (i := 634) (by decide +kernel)⟩
theorem lw_p29 : lw_okq (⟨"StreamersHeld", "tips", "(II)Z"⟩, 14) := ⟨⟨by decide +kernel, by decide +kernel⟩, List.mem_of_getElem? (i := 21) (by decide +kernel), List.mem_of_getElem? (i := 641) (by decide +kernel), List.mem_of_getElem? (i := 642) (by decide +kernel)⟩
theorem lw_p30 : lw_okq (⟨"StreamersHeld", "decides", "(I)Z"⟩, 14) := ⟨⟨by decide +kernel, by decide +kernel⟩, List.mem_of_getElem? (i := 21) (by decide +kernel), List.mem_of_getElem? (i := 645) (by decide +kernel), List.mem_of_getElem? (i := 646) (by decide +kernel)⟩
theorem lw_p31 : lw_okq (⟨"StreamersHeld", "tellFraction", "(JJ)V"⟩, 14) := ⟨⟨by decide +kernel, by decide +kernel⟩, List.mem_of_getElem? (i := 21) (by decide +kernel), List.mem_of_getElem? (i := 649) (by decide +kernel), List.mem_of_getElem? (i := 650) (by decide +kernel)⟩
def lw_privs_2 : List (MethodName × Nat) := [(⟨"StreamersHeld", "runTo", "(II)I"⟩, 14), (⟨"StreamersHeld", "setRate", "(II)I"⟩, 14), (⟨"StreamersHeld", "fillReel", "(II)I"⟩, 14), (⟨"StreamersHeld", "turnEnd", "(I)I"⟩, 14), (⟨"StreamersHeld", "setSpeed", "(I)I"⟩, 14), (⟨"StreamersHeld", "badActSign", "()I"⟩, 14), (⟨"StreamersHeld", "act", "(I)I"⟩, 14), (⟨"StreamersHeld", "foresee", "(I)V"⟩, 14), (⟨"StreamersHeld", "tell", "(J)V"⟩, 14), (⟨"StreamersHeld", "hoursHeld", "(II)I"⟩, 14), (⟨"StreamersHeld", "holdBySpeed", "(II)I"⟩, 14), (⟨"StreamersHeld", "tellSet", "(II)I"⟩, 14), (⟨"StreamersHeld", "holdsWithout", "(III)Z"⟩, 14), (⟨"StreamersHeld", "tips", "(II)Z"⟩, 14), (⟨"StreamersHeld", "decides", "(I)Z"⟩, 14), (⟨"StreamersHeld", "tellFraction", "(JJ)V"⟩, 14)]
theorem lw_r2 : ∀ q ∈ lw_privs_2, lw_okq q := List.forall_mem_cons.mpr ⟨lw_p16, List.forall_mem_cons.mpr ⟨lw_p17, List.forall_mem_cons.mpr ⟨lw_p18, List.forall_mem_cons.mpr ⟨lw_p19, List.forall_mem_cons.mpr ⟨lw_p20, List.forall_mem_cons.mpr ⟨lw_p21, List.forall_mem_cons.mpr ⟨lw_p22, List.forall_mem_cons.mpr ⟨lw_p23, List.forall_mem_cons.mpr ⟨lw_p24, List.forall_mem_cons.mpr ⟨lw_p25, List.forall_mem_cons.mpr ⟨lw_p26, List.forall_mem_cons.mpr ⟨lw_p27, List.forall_mem_cons.mpr ⟨lw_p28, List.forall_mem_cons.mpr ⟨lw_p29, List.forall_mem_cons.mpr ⟨lw_p30, List.forall_mem_cons.mpr ⟨lw_p31, fun _ h => absurd h List.not_mem_nil⟩⟩⟩⟩⟩⟩⟩⟩⟩⟩⟩⟩⟩⟩⟩⟩
theorem lw_p32 : lw_okq (⟨"StreamersHeld", "coloursAre", "(IIIII)Z"⟩, 14) := ⟨⟨by decide +kernel, by decide +kernel⟩, List.mem_of_getElem? (i := 21) (by decide +kernel), List.mem_of_getElem? (i := 679) (by decide +kernel), List.mem_of_getElem? (i := 680) (by decide +kernel)⟩
theorem lw_p33 : lw_okq (⟨"StreamersHeld", "fitsSights", "(I)Z"⟩, 14) := ⟨⟨by decide +kernel, by decide +kernel⟩, List.mem_of_getElem? (i := 21) (by decide +kernel), List.mem_of_getElem? (i := 714) (by decide +kernel), List.mem_of_getElem? (i := 715) (by decide +kernel)⟩
theorem lw_p34 : lw_okq (⟨"StreamersHeld", "countWaysFrom", "()I"⟩, 14) := ⟨⟨by decide +kernel, by decide +kernel⟩, List.mem_of_getElem? (i := 21) (by decide +kernel), List.mem_of_getElem? (i := 726) (by decide +kernel), List.mem_of_getElem? (i := 727) (by decide +kernel)⟩
theorem lw_p35 : lw_okq (⟨"StreamersHeld", "fitRumours", "()I"⟩, 14) := ⟨⟨by decide +kernel, by decide +kernel⟩, List.mem_of_getElem? (i := 21) (by decide +kernel), List.mem_of_getElem? (i := 745) (by decide +kernel), List.mem_of_getElem? (i := 746) (by decide +kernel)⟩
theorem lw_p36 : lw_okq (⟨"StreamersHeld", "ofWhom", "(II)I"⟩, 14) := ⟨⟨by decide +kernel, by decide +kernel⟩, List.mem_of_getElem? (i := 21) (by decide +kernel), List.mem_of_getElem? (i := 749) (by decide +kernel), List.mem_of_getElem? (i := 750) (by decide +kernel)⟩
theorem lw_p37 : lw_okq (⟨"StreamersHeld", "fitsPartings", "(I)Z"⟩, 14) := ⟨⟨by decide +kernel, by decide +kernel⟩, List.mem_of_getElem? (i := 21) (by decide +kernel), List.mem_of_getElem? (i := 785) (by decide +kernel), List.mem_of_getElem? (i := 786) (by decide +kernel)⟩
theorem lw_p38 : lw_okq (⟨"StreamersHeld", "fittingLaws", "()J"⟩, 14) := ⟨⟨by decide +kernel, by decide +kernel⟩, List.mem_of_getElem? (i := 21) (by decide +kernel), List.mem_of_getElem? (i := 802) (by decide +kernel), List.mem_of_getElem? (i := 803) (by decide +kernel)⟩
theorem lw_p39 : lw_okq (⟨"StreamersHeld", "learnNimbers", "(I)V"⟩, 14) := ⟨⟨by decide +kernel, by decide +kernel⟩, List.mem_of_getElem? (i := 21) (by decide +kernel), List.mem_of_getElem? (i := 819) (by decide +kernel), List.mem_of_getElem? (i := 820) (by decide +kernel)⟩
theorem lw_p40 : lw_okq (⟨"StreamersHeld", "nimberOf", "(I)I"⟩, 14) := ⟨⟨by decide +kernel, by decide +kernel⟩, List.mem_of_getElem? (i := 21) (by decide +kernel), List.mem_of_getElem? (i := 823) (by decide +kernel), List.mem_of_getElem? (i := 824) (by decide +kernel)⟩
theorem lw_p41 : lw_okq (⟨"StreamersHeld", "drawOne", "()V"⟩, 14) := ⟨⟨by decide +kernel, by decide +kernel⟩, List.mem_of_getElem? (i := 21) (by decide +kernel), List.mem_of_getElem? (i := 845) (by decide +kernel), List.mem_of_getElem? (i := 846) (by decide +kernel)⟩
theorem lw_p42 : lw_okq (⟨"StreamersHeld", "draw", "(I)I"⟩, 14) := ⟨⟨by decide +kernel, by decide +kernel⟩, List.mem_of_getElem? (i := 21) (by decide +kernel), List.mem_of_getElem? (i := 849) (by decide +kernel), List.mem_of_getElem? (i := 850) (by decide +kernel)⟩
theorem lw_p43 : lw_okq (⟨"java/lang/Throwable", "fillInStackTrace", "(I)Ljava/lang/Throwable;"⟩, 6) := ⟨⟨by decide +kernel, by decide +kernel⟩, List.mem_of_getElem? (i := 923) (by decide +kernel), List.mem_of_getElem? (i := 921) (by decide +kernel), List.mem_of_getElem? (i := 922) (by decide +kernel)⟩
theorem lw_p44 : lw_okq (⟨"StreamersHeldModel", "begins", "(I)I"⟩, 48) := ⟨⟨by decide +kernel, by decide +kernel⟩, List.mem_of_getElem? (i := 965) (by decide +kernel), List.mem_of_getElem? (i := 1132) (by decide +kernel), List.mem_of_getElem? (i := 1133) (by decide +kernel)⟩
theorem lw_p45 : lw_okq (⟨"StreamersHeldModel", "readsOne", "()Z"⟩, 48) := ⟨⟨by decide +kernel, by decide +kernel⟩, List.mem_of_getElem? (i := 965) (by decide +kernel), List.mem_of_getElem? (i := 1137) (by decide +kernel), List.mem_of_getElem? (i := 1138) (by decide +kernel)⟩
theorem lw_p46 : lw_okq (⟨"StreamersHeldModel", "takesOf", "(Ljava/lang/String;)I"⟩, 48) := ⟨⟨by decide +kernel, by decide +kernel⟩, List.mem_of_getElem? (i := 965) (by decide +kernel), List.mem_of_getElem? (i := 1142) (by decide +kernel), List.mem_of_getElem? (i := 1143) (by decide +kernel)⟩
theorem lw_p47 : lw_okq (⟨"StreamersHeldModel", "digitIn", "(II)I"⟩, 48) := ⟨⟨by decide +kernel, by decide +kernel⟩, List.mem_of_getElem? (i := 965) (by decide +kernel), List.mem_of_getElem? (i := 1194) (by decide +kernel), List.mem_of_getElem? (i := 1195) (by decide +kernel)⟩
def lw_privs_3 : List (MethodName × Nat) := [(⟨"StreamersHeld", "coloursAre", "(IIIII)Z"⟩, 14), (⟨"StreamersHeld", "fitsSights", "(I)Z"⟩, 14), (⟨"StreamersHeld", "countWaysFrom", "()I"⟩, 14), (⟨"StreamersHeld", "fitRumours", "()I"⟩, 14), (⟨"StreamersHeld", "ofWhom", "(II)I"⟩, 14), (⟨"StreamersHeld", "fitsPartings", "(I)Z"⟩, 14), (⟨"StreamersHeld", "fittingLaws", "()J"⟩, 14), (⟨"StreamersHeld", "learnNimbers", "(I)V"⟩, 14), (⟨"StreamersHeld", "nimberOf", "(I)I"⟩, 14), (⟨"StreamersHeld", "drawOne", "()V"⟩, 14), (⟨"StreamersHeld", "draw", "(I)I"⟩, 14), (⟨"java/lang/Throwable", "fillInStackTrace", "(I)Ljava/lang/Throwable;"⟩, 6), (⟨"StreamersHeldModel", "begins", "(I)I"⟩, 48), (⟨"StreamersHeldModel", "readsOne", "()Z"⟩, 48), (⟨"StreamersHeldModel", "takesOf", "(Ljava/lang/String;)I"⟩, 48), (⟨"StreamersHeldModel", "digitIn", "(II)I"⟩, 48)]
theorem lw_r3 : ∀ q ∈ lw_privs_3, lw_okq q := List.forall_mem_cons.mpr ⟨lw_p32, List.forall_mem_cons.mpr ⟨lw_p33, List.forall_mem_cons.mpr ⟨lw_p34, List.forall_mem_cons.mpr ⟨lw_p35, List.forall_mem_cons.mpr ⟨lw_p36, List.forall_mem_cons.mpr ⟨lw_p37, List.forall_mem_cons.mpr ⟨lw_p38, List.forall_mem_cons.mpr ⟨lw_p39, List.forall_mem_cons.mpr ⟨lw_p40, List.forall_mem_cons.mpr ⟨lw_p41, List.forall_mem_cons.mpr ⟨lw_p42, List.forall_mem_cons.mpr ⟨lw_p43, List.forall_mem_cons.mpr ⟨lw_p44, List.forall_mem_cons.mpr ⟨lw_p45, List.forall_mem_cons.mpr ⟨lw_p46, List.forall_mem_cons.mpr ⟨lw_p47, fun _ h => absurd h List.not_mem_nil⟩⟩⟩⟩⟩⟩⟩⟩⟩⟩⟩⟩⟩⟩⟩⟩
theorem lw_p48 : lw_okq (⟨"StreamersHeldModel", "twoDigits", "()I"⟩, 48) := ⟨⟨by decide +kernel, by decide +kernel⟩, List.mem_of_getElem? (i := 965) (by decide +kernel), List.mem_of_getElem? (i := 1198) (by decide +kernel), List.mem_of_getElem? (i := 1199) (by decide +kernel)⟩
theorem lw_p49 : lw_okq (⟨"StreamersHeldModel", "number", "(I)I"⟩, 48) := ⟨⟨by decide +kernel, by decide +kernel⟩, List.mem_of_getElem? (i := 965) (by decide +kernel), List.mem_of_getElem? (i := 1202) (by decide +kernel), List.mem_of_getElem? (i := 1203) (by decide +kernel)⟩
theorem lw_p50 : lw_okq (⟨"StreamersHeldModel", "isDigit", "()Z"⟩, 48) := ⟨⟨by decide +kernel, by decide +kernel⟩, List.mem_of_getElem? (i := 965) (by decide +kernel), List.mem_of_getElem? (i := 1206) (by decide +kernel), List.mem_of_getElem? (i := 1207) (by decide +kernel)⟩
theorem lw_p51 : lw_okq (⟨"StreamersHeldModel", "takes", "(I)Z"⟩, 48) := ⟨⟨by decide +kernel, by decide +kernel⟩, List.mem_of_getElem? (i := 965) (by decide +kernel), List.mem_of_getElem? (i := 1212) (by decide +kernel), List.mem_of_getElem? (i := 1213) (by decide +kernel)⟩
theorem lw_p52 : lw_okq (⟨"StreamersHeldModel", "faultOf", "(IIZ)I"⟩, 48) := ⟨⟨by decide +kernel, by decide +kernel⟩, List.mem_of_getElem? (i := 965) (by decide +kernel), List.mem_of_getElem? (i := 1219) (by decide +kernel), List.mem_of_getElem? (i := 1220) (by decide +kernel)⟩
theorem lw_p53 : lw_okq (⟨"StreamersHeldModel", "readsRule", "()I"⟩, 48) := ⟨⟨by decide +kernel, by decide +kernel⟩, List.mem_of_getElem? (i := 965) (by decide +kernel), List.mem_of_getElem? (i := 1228) (by decide +kernel), List.mem_of_getElem? (i := 1229) (by decide +kernel)⟩
theorem lw_p54 : lw_okq (⟨"StreamersHeldModel", "readsRank", "(I)Z"⟩, 48) := ⟨⟨by decide +kernel, by decide +kernel⟩, List.mem_of_getElem? (i := 965) (by decide +kernel), List.mem_of_getElem? (i := 1232) (by decide +kernel), List.mem_of_getElem? (i := 1233) (by decide +kernel)⟩
theorem lw_p55 : lw_okq (⟨"StreamersHeldModel", "readsThing", "()Z"⟩, 48) := ⟨⟨by decide +kernel, by decide +kernel⟩, List.mem_of_getElem? (i := 965) (by decide +kernel), List.mem_of_getElem? (i := 1236) (by decide +kernel), List.mem_of_getElem? (i := 1237) (by decide +kernel)⟩
theorem lw_p56 : lw_okq (⟨"StreamersHeldModel", "codes", "(I)V"⟩, 48) := ⟨⟨by decide +kernel, by decide +kernel⟩, List.mem_of_getElem? (i := 965) (by decide +kernel), List.mem_of_getElem? (i := 1240) (by decide +kernel), List.mem_of_getElem? (i := 1241) (by decide +kernel)⟩
theorem lw_p57 : lw_okq (⟨"StreamersHeldModel", "laysCode", "([II)V"⟩, 48) := ⟨⟨by decide +kernel, by decide +kernel⟩, List.mem_of_getElem? (i := 965) (by decide +kernel), List.mem_of_getElem? (i := 1248) (by decide +kernel), List.mem_of_getElem? (i := 1249) (by decide +kernel)⟩
theorem lw_p58 : lw_okq (⟨"StreamersHeldModel", "isOne", "(I)Z"⟩, 48) := ⟨⟨by decide +kernel, by decide +kernel⟩, List.mem_of_getElem? (i := 965) (by decide +kernel), List.mem_of_getElem? (i := 1256) (by decide +kernel), List.mem_of_getElem? (i := 1257) (by decide +kernel)⟩
theorem lw_p59 : lw_okq (⟨"StreamersHeldModel", "refuse", "()I"⟩, 48) := ⟨⟨by decide +kernel, by decide +kernel⟩, List.mem_of_getElem? (i := 965) (by decide +kernel), List.mem_of_getElem? (i := 1261) (by decide +kernel), List.mem_of_getElem? (i := 1262) (by decide +kernel)⟩
theorem lw_p60 : lw_okq (⟨"StreamersHeldModel", "pull", "([II)I"⟩, 48) := ⟨⟨by decide +kernel, by decide +kernel⟩, List.mem_of_getElem? (i := 965) (by decide +kernel), List.mem_of_getElem? (i := 1271) (by decide +kernel), List.mem_of_getElem? (i := 1272) (by decide +kernel)⟩
theorem lw_p61 : lw_okq (⟨"StreamersHeldModel", "holding", "([I)I"⟩, 48) := ⟨⟨by decide +kernel, by decide +kernel⟩, List.mem_of_getElem? (i := 965) (by decide +kernel), List.mem_of_getElem? (i := 1275) (by decide +kernel), List.mem_of_getElem? (i := 1276) (by decide +kernel)⟩
theorem lw_p62 : lw_okq (⟨"StreamersHeldModel", "all", "()I"⟩, 48) := ⟨⟨by decide +kernel, by decide +kernel⟩, List.mem_of_getElem? (i := 965) (by decide +kernel), List.mem_of_getElem? (i := 1279) (by decide +kernel), List.mem_of_getElem? (i := 1280) (by decide +kernel)⟩
theorem lw_p63 : lw_okq (⟨"StreamersHeldModel", "ofColour", "(I)I"⟩, 48) := ⟨⟨by decide +kernel, by decide +kernel⟩, List.mem_of_getElem? (i := 965) (by decide +kernel), List.mem_of_getElem? (i := 1283) (by decide +kernel), List.mem_of_getElem? (i := 1284) (by decide +kernel)⟩
def lw_privs_4 : List (MethodName × Nat) := [(⟨"StreamersHeldModel", "twoDigits", "()I"⟩, 48), (⟨"StreamersHeldModel", "number", "(I)I"⟩, 48), (⟨"StreamersHeldModel", "isDigit", "()Z"⟩, 48), (⟨"StreamersHeldModel", "takes", "(I)Z"⟩, 48), (⟨"StreamersHeldModel", "faultOf", "(IIZ)I"⟩, 48), (⟨"StreamersHeldModel", "readsRule", "()I"⟩, 48), (⟨"StreamersHeldModel", "readsRank", "(I)Z"⟩, 48), (⟨"StreamersHeldModel", "readsThing", "()Z"⟩, 48), (⟨"StreamersHeldModel", "codes", "(I)V"⟩, 48), (⟨"StreamersHeldModel", "laysCode", "([II)V"⟩, 48), (⟨"StreamersHeldModel", "isOne", "(I)Z"⟩, 48), (⟨"StreamersHeldModel", "refuse", "()I"⟩, 48), (⟨"StreamersHeldModel", "pull", "([II)I"⟩, 48), (⟨"StreamersHeldModel", "holding", "([I)I"⟩, 48), (⟨"StreamersHeldModel", "all", "()I"⟩, 48), (⟨"StreamersHeldModel", "ofColour", "(I)I"⟩, 48)]
theorem lw_r4 : ∀ q ∈ lw_privs_4, lw_okq q := List.forall_mem_cons.mpr ⟨lw_p48, List.forall_mem_cons.mpr ⟨lw_p49, List.forall_mem_cons.mpr ⟨lw_p50, List.forall_mem_cons.mpr ⟨lw_p51, List.forall_mem_cons.mpr ⟨lw_p52, List.forall_mem_cons.mpr ⟨lw_p53, List.forall_mem_cons.mpr ⟨lw_p54, List.forall_mem_cons.mpr ⟨lw_p55, List.forall_mem_cons.mpr ⟨lw_p56, List.forall_mem_cons.mpr ⟨lw_p57, List.forall_mem_cons.mpr ⟨lw_p58, List.forall_mem_cons.mpr ⟨lw_p59, List.forall_mem_cons.mpr ⟨lw_p60, List.forall_mem_cons.mpr ⟨lw_p61, List.forall_mem_cons.mpr ⟨lw_p62, List.forall_mem_cons.mpr ⟨lw_p63, fun _ h => absurd h List.not_mem_nil⟩⟩⟩⟩⟩⟩⟩⟩⟩⟩⟩⟩⟩⟩⟩⟩
theorem lw_p64 : lw_okq (⟨"StreamersHeldModel", "ruled", "()I"⟩, 48) := ⟨⟨by decide +kernel, by decide +kernel⟩, List.mem_of_getElem? (i := 965) (by decide +kernel), List.mem_of_getElem? (i := 1288) (by decide +kernel), List.mem_of_getElem? (i := 1289) (by decide +kernel)⟩
theorem lw_p65 : lw_okq (⟨"StreamersHeldModel", "counts", "(I)I"⟩, 48) := ⟨⟨by decide +kernel, by decide +kernel⟩, List.mem_of_getElem? (i := 965) (by decide +kernel), List.mem_of_getElem? (i := 1301) (by decide +kernel), List.mem_of_getElem? (i := 1302) (by decide +kernel)⟩
theorem lw_p66 : lw_okq (⟨"StreamersHeldModel", "putsBy", "()V"⟩, 48) := ⟨⟨by decide +kernel, by decide +kernel⟩, List.mem_of_getElem? (i := 965) (by decide +kernel), List.mem_of_getElem? (i := 1314) (by decide +kernel), List.mem_of_getElem? (i := 1315) (by decide +kernel)⟩
theorem lw_p67 : lw_okq (⟨"StreamersHeldModel", "goesOn", "([II)V"⟩, 48) := ⟨⟨by decide +kernel, by decide +kernel⟩, List.mem_of_getElem? (i := 965) (by decide +kernel), List.mem_of_getElem? (i := 1318) (by decide +kernel), List.mem_of_getElem? (i := 1319) (by decide +kernel)⟩
theorem lw_p68 : lw_okq (⟨"StreamersHeldModel", "hourGoes", "([I)V"⟩, 48) := ⟨⟨by decide +kernel, by decide +kernel⟩, List.mem_of_getElem? (i := 965) (by decide +kernel), List.mem_of_getElem? (i := 1322) (by decide +kernel), List.mem_of_getElem? (i := 1323) (by decide +kernel)⟩
theorem lw_p69 : lw_okq (⟨"StreamersHeldModel", "dragOf", "([I)I"⟩, 48) := ⟨⟨by decide +kernel, by decide +kernel⟩, List.mem_of_getElem? (i := 965) (by decide +kernel), List.mem_of_getElem? (i := 1326) (by decide +kernel), List.mem_of_getElem? (i := 1327) (by decide +kernel)⟩
theorem lw_p70 : lw_okq (⟨"StreamersHeldModel", "taut", "([I)I"⟩, 48) := ⟨⟨by decide +kernel, by decide +kernel⟩, List.mem_of_getElem? (i := 965) (by decide +kernel), List.mem_of_getElem? (i := 1330) (by decide +kernel), List.mem_of_getElem? (i := 1331) (by decide +kernel)⟩
theorem lw_p71 : lw_okq (⟨"StreamersHeldModel", "enters", "(J)V"⟩, 48) := ⟨⟨by decide +kernel, by decide +kernel⟩, List.mem_of_getElem? (i := 965) (by decide +kernel), List.mem_of_getElem? (i := 1334) (by decide +kernel), List.mem_of_getElem? (i := 1335) (by decide +kernel)⟩
theorem lw_p72 : lw_okq (⟨"StreamersHeldModel", "adds", "(I)I"⟩, 48) := ⟨⟨by decide +kernel, by decide +kernel⟩, List.mem_of_getElem? (i := 965) (by decide +kernel), List.mem_of_getElem? (i := 1338) (by decide +kernel), List.mem_of_getElem? (i := 1339) (by decide +kernel)⟩
theorem lw_p73 : lw_okq (⟨"StreamersHeldModel", "runsTo", "(II)I"⟩, 48) := ⟨⟨by decide +kernel, by decide +kernel⟩, List.mem_of_getElem? (i := 965) (by decide +kernel), List.mem_of_getElem? (i := 1346) (by decide +kernel), List.mem_of_getElem? (i := 1347) (by decide +kernel)⟩
theorem lw_p74 : lw_okq (⟨"StreamersHeldModel", "counted", "(I)I"⟩, 48) := ⟨⟨by decide +kernel, by decide +kernel⟩, List.mem_of_getElem? (i := 965) (by decide +kernel), List.mem_of_getElem? (i := 1352) (by decide +kernel), List.mem_of_getElem? (i := 1353) (by decide +kernel)⟩
theorem lw_p75 : lw_okq (⟨"StreamersHeldModel", "ratesTo", "(II)I"⟩, 48) := ⟨⟨by decide +kernel, by decide +kernel⟩, List.mem_of_getElem? (i := 965) (by decide +kernel), List.mem_of_getElem? (i := 1360) (by decide +kernel), List.mem_of_getElem? (i := 1361) (by decide +kernel)⟩
theorem lw_p76 : lw_okq (⟨"StreamersHeldModel", "becomes", "(III)I"⟩, 48) := ⟨⟨by decide +kernel, by decide +kernel⟩, List.mem_of_getElem? (i := 965) (by decide +kernel), List.mem_of_getElem? (i := 1364) (by decide +kernel), List.mem_of_getElem? (i := 1365) (by decide +kernel)⟩
theorem lw_p77 : lw_okq (⟨"StreamersHeldModel", "reelsMore", "(II)I"⟩, 48) := ⟨⟨by decide +kernel, by decide +kernel⟩, List.mem_of_getElem? (i := 965) (by decide +kernel), List.mem_of_getElem? (i := 1372) (by decide +kernel), List.mem_of_getElem? (i := 1373) (by decide +kernel)⟩
theorem lw_p78 : lw_okq (⟨"StreamersHeldModel", "dropsOne", "(I)I"⟩, 48) := ⟨⟨by decide +kernel, by decide +kernel⟩, List.mem_of_getElem? (i := 965) (by decide +kernel), List.mem_of_getElem? (i := 1381) (by decide +kernel), List.mem_of_getElem? (i := 1382) (by decide +kernel)⟩
theorem lw_p79 : lw_okq (⟨"StreamersHeldModel", "speedsTo", "(I)I"⟩, 48) := ⟨⟨by decide +kernel, by decide +kernel⟩, List.mem_of_getElem? (i := 965) (by decide +kernel), List.mem_of_getElem? (i := 1389) (by decide +kernel), List.mem_of_getElem? (i := 1390) (by decide +kernel)⟩
def lw_privs_5 : List (MethodName × Nat) := [(⟨"StreamersHeldModel", "ruled", "()I"⟩, 48), (⟨"StreamersHeldModel", "counts", "(I)I"⟩, 48), (⟨"StreamersHeldModel", "putsBy", "()V"⟩, 48), (⟨"StreamersHeldModel", "goesOn", "([II)V"⟩, 48), (⟨"StreamersHeldModel", "hourGoes", "([I)V"⟩, 48), (⟨"StreamersHeldModel", "dragOf", "([I)I"⟩, 48), (⟨"StreamersHeldModel", "taut", "([I)I"⟩, 48), (⟨"StreamersHeldModel", "enters", "(J)V"⟩, 48), (⟨"StreamersHeldModel", "adds", "(I)I"⟩, 48), (⟨"StreamersHeldModel", "runsTo", "(II)I"⟩, 48), (⟨"StreamersHeldModel", "counted", "(I)I"⟩, 48), (⟨"StreamersHeldModel", "ratesTo", "(II)I"⟩, 48), (⟨"StreamersHeldModel", "becomes", "(III)I"⟩, 48), (⟨"StreamersHeldModel", "reelsMore", "(II)I"⟩, 48), (⟨"StreamersHeldModel", "dropsOne", "(I)I"⟩, 48), (⟨"StreamersHeldModel", "speedsTo", "(I)I"⟩, 48)]
theorem lw_r5 : ∀ q ∈ lw_privs_5, lw_okq q := List.forall_mem_cons.mpr ⟨lw_p64, List.forall_mem_cons.mpr ⟨lw_p65, List.forall_mem_cons.mpr ⟨lw_p66, List.forall_mem_cons.mpr ⟨lw_p67, List.forall_mem_cons.mpr ⟨lw_p68, List.forall_mem_cons.mpr ⟨lw_p69, List.forall_mem_cons.mpr ⟨lw_p70, List.forall_mem_cons.mpr ⟨lw_p71, List.forall_mem_cons.mpr ⟨lw_p72, List.forall_mem_cons.mpr ⟨lw_p73, List.forall_mem_cons.mpr ⟨lw_p74, List.forall_mem_cons.mpr ⟨lw_p75, List.forall_mem_cons.mpr ⟨lw_p76, List.forall_mem_cons.mpr ⟨lw_p77, List.forall_mem_cons.mpr ⟨lw_p78, List.forall_mem_cons.mpr ⟨lw_p79, fun _ h => absurd h List.not_mem_nil⟩⟩⟩⟩⟩⟩⟩⟩⟩⟩⟩⟩⟩⟩⟩⟩
theorem lw_p80 : lw_okq (⟨"StreamersHeldModel", "readsAct", "()Z"⟩, 48) := ⟨⟨by decide +kernel, by decide +kernel⟩, List.mem_of_getElem? (i := 965) (by decide +kernel), List.mem_of_getElem? (i := 1397) (by decide +kernel), List.mem_of_getElem? (i := 1398) (by decide +kernel)⟩
theorem lw_p81 : lw_okq (⟨"StreamersHeldModel", "does", "(I)Z"⟩, 48) := ⟨⟨by decide +kernel, by decide +kernel⟩, List.mem_of_getElem? (i := 965) (by decide +kernel), List.mem_of_getElem? (i := 1402) (by decide +kernel), List.mem_of_getElem? (i := 1403) (by decide +kernel)⟩
theorem lw_p82 : lw_okq (⟨"StreamersHeldModel", "heldAt", "(III)I"⟩, 48) := ⟨⟨by decide +kernel, by decide +kernel⟩, List.mem_of_getElem? (i := 965) (by decide +kernel), List.mem_of_getElem? (i := 1441) (by decide +kernel), List.mem_of_getElem? (i := 1442) (by decide +kernel)⟩
theorem lw_p83 : lw_okq (⟨"StreamersHeldModel", "heldBy", "(II)I"⟩, 48) := ⟨⟨by decide +kernel, by decide +kernel⟩, List.mem_of_getElem? (i := 965) (by decide +kernel), List.mem_of_getElem? (i := 1450) (by decide +kernel), List.mem_of_getElem? (i := 1451) (by decide +kernel)⟩
theorem lw_p84 : lw_okq (⟨"StreamersHeldModel", "entersFewest", "(I)I"⟩, 48) := ⟨⟨by decide +kernel, by decide +kernel⟩, List.mem_of_getElem? (i := 965) (by decide +kernel), List.mem_of_getElem? (i := 1461) (by decide +kernel), List.mem_of_getElem? (i := 1462) (by decide +kernel)⟩
theorem lw_p85 : lw_okq (⟨"StreamersHeldModel", "turnsIt", "(II)Z"⟩, 48) := ⟨⟨by decide +kernel, by decide +kernel⟩, List.mem_of_getElem? (i := 965) (by decide +kernel), List.mem_of_getElem? (i := 1473) (by decide +kernel), List.mem_of_getElem? (i := 1474) (by decide +kernel)⟩
theorem lw_p86 : lw_okq (⟨"StreamersHeldModel", "decides", "(I)Z"⟩, 48) := ⟨⟨by decide +kernel, by decide +kernel⟩, List.mem_of_getElem? (i := 965) (by decide +kernel), List.mem_of_getElem? (i := 1477) (by decide +kernel), List.mem_of_getElem? (i := 1478) (by decide +kernel)⟩
theorem lw_p87 : lw_okq (⟨"StreamersHeldModel", "entersFraction", "(JJ)I"⟩, 48) := ⟨⟨by decide +kernel, by decide +kernel⟩, List.mem_of_getElem? (i := 965) (by decide +kernel), List.mem_of_getElem? (i := 1481) (by decide +kernel), List.mem_of_getElem? (i := 1482) (by decide +kernel)⟩
theorem lw_p88 : lw_okq (⟨"StreamersHeldModel", "isAsSeen", "(I)Z"⟩, 48) := ⟨⟨by decide +kernel, by decide +kernel⟩, List.mem_of_getElem? (i := 965) (by decide +kernel), List.mem_of_getElem? (i := 1525) (by decide +kernel), List.mem_of_getElem? (i := 1526) (by decide +kernel)⟩
theorem lw_p89 : lw_okq (⟨"StreamersHeldModel", "lacks", "(III)Z"⟩, 48) := ⟨⟨by decide +kernel, by decide +kernel⟩, List.mem_of_getElem? (i := 965) (by decide +kernel), List.mem_of_getElem? (i := 1529) (by decide +kernel), List.mem_of_getElem? (i := 1530) (by decide +kernel)⟩
theorem lw_p90 : lw_okq (⟨"StreamersHeldModel", "fitting", "()I"⟩, 48) := ⟨⟨by decide +kernel, by decide +kernel⟩, List.mem_of_getElem? (i := 965) (by decide +kernel), List.mem_of_getElem? (i := 1557) (by decide +kernel), List.mem_of_getElem? (i := 1558) (by decide +kernel)⟩
theorem lw_p91 : lw_okq (⟨"StreamersHeldModel", "isSo", "(III)Z"⟩, 48) := ⟨⟨by decide +kernel, by decide +kernel⟩, List.mem_of_getElem? (i := 965) (by decide +kernel), List.mem_of_getElem? (i := 1561) (by decide +kernel), List.mem_of_getElem? (i := 1562) (by decide +kernel)⟩
theorem lw_p92 : lw_okq (⟨"StreamersHeldModel", "isLaw", "(I)Z"⟩, 48) := ⟨⟨by decide +kernel, by decide +kernel⟩, List.mem_of_getElem? (i := 965) (by decide +kernel), List.mem_of_getElem? (i := 1588) (by decide +kernel), List.mem_of_getElem? (i := 1589) (by decide +kernel)⟩
theorem lw_p93 : lw_okq (⟨"StreamersHeldModel", "laysWorth", "(I)V"⟩, 48) := ⟨⟨by decide +kernel, by decide +kernel⟩, List.mem_of_getElem? (i := 965) (by decide +kernel), List.mem_of_getElem? (i := 1603) (by decide +kernel), List.mem_of_getElem? (i := 1604) (by decide +kernel)⟩
theorem lw_p94 : lw_okq (⟨"StreamersHeldModel", "draws", "(I)I"⟩, 48) := ⟨⟨by decide +kernel, by decide +kernel⟩, List.mem_of_getElem? (i := 965) (by decide +kernel), List.mem_of_getElem? (i := 1625) (by decide +kernel), List.mem_of_getElem? (i := 1626) (by decide +kernel)⟩
theorem lw_p95 : lw_okq (⟨"StreamersHeldModel", "reelsOf", "([I)I"⟩, 48) := ⟨⟨by decide +kernel, by decide +kernel⟩, List.mem_of_getElem? (i := 965) (by decide +kernel), List.mem_of_getElem? (i := 1630) (by decide +kernel), List.mem_of_getElem? (i := 1631) (by decide +kernel)⟩
def lw_privs_6 : List (MethodName × Nat) := [(⟨"StreamersHeldModel", "readsAct", "()Z"⟩, 48), (⟨"StreamersHeldModel", "does", "(I)Z"⟩, 48), (⟨"StreamersHeldModel", "heldAt", "(III)I"⟩, 48), (⟨"StreamersHeldModel", "heldBy", "(II)I"⟩, 48), (⟨"StreamersHeldModel", "entersFewest", "(I)I"⟩, 48), (⟨"StreamersHeldModel", "turnsIt", "(II)Z"⟩, 48), (⟨"StreamersHeldModel", "decides", "(I)Z"⟩, 48), (⟨"StreamersHeldModel", "entersFraction", "(JJ)I"⟩, 48), (⟨"StreamersHeldModel", "isAsSeen", "(I)Z"⟩, 48), (⟨"StreamersHeldModel", "lacks", "(III)Z"⟩, 48), (⟨"StreamersHeldModel", "fitting", "()I"⟩, 48), (⟨"StreamersHeldModel", "isSo", "(III)Z"⟩, 48), (⟨"StreamersHeldModel", "isLaw", "(I)Z"⟩, 48), (⟨"StreamersHeldModel", "laysWorth", "(I)V"⟩, 48), (⟨"StreamersHeldModel", "draws", "(I)I"⟩, 48), (⟨"StreamersHeldModel", "reelsOf", "([I)I"⟩, 48)]
theorem lw_r6 : ∀ q ∈ lw_privs_6, lw_okq q := List.forall_mem_cons.mpr ⟨lw_p80, List.forall_mem_cons.mpr ⟨lw_p81, List.forall_mem_cons.mpr ⟨lw_p82, List.forall_mem_cons.mpr ⟨lw_p83, List.forall_mem_cons.mpr ⟨lw_p84, List.forall_mem_cons.mpr ⟨lw_p85, List.forall_mem_cons.mpr ⟨lw_p86, List.forall_mem_cons.mpr ⟨lw_p87, List.forall_mem_cons.mpr ⟨lw_p88, List.forall_mem_cons.mpr ⟨lw_p89, List.forall_mem_cons.mpr ⟨lw_p90, List.forall_mem_cons.mpr ⟨lw_p91, List.forall_mem_cons.mpr ⟨lw_p92, List.forall_mem_cons.mpr ⟨lw_p93, List.forall_mem_cons.mpr ⟨lw_p94, List.forall_mem_cons.mpr ⟨lw_p95, fun _ h => absurd h List.not_mem_nil⟩⟩⟩⟩⟩⟩⟩⟩⟩⟩⟩⟩⟩⟩⟩⟩
def lw_privs : List (MethodName × Nat) := lw_privs_1 ++ (lw_privs_2 ++ (lw_privs_3 ++ (lw_privs_4 ++ (lw_privs_5 ++ (lw_privs_6)))))
def lw_tbl : List Cond := k2_sels lw_privs ++ tables_1
theorem lw_privs_ok : ∀ q ∈ lw_privs, lw_okq q := by
  show ∀ q ∈ lw_privs_1 ++ (lw_privs_2 ++ (lw_privs_3 ++ (lw_privs_4 ++ (lw_privs_5 ++ (lw_privs_6))))), lw_okq q
  exact List.forall_mem_append.mpr ⟨lw_r1, List.forall_mem_append.mpr ⟨lw_r2, List.forall_mem_append.mpr ⟨lw_r3, List.forall_mem_append.mpr ⟨lw_r4, List.forall_mem_append.mpr ⟨lw_r5, lw_r6⟩⟩⟩⟩⟩
end
section
def RX0 : String := "StreamersHeld$Facts"
def TX0 : u_T := fun k => match k with
  | 0 => ("StreamersHeld$Facts", "first", "[I", true)
  | 1 => ("StreamersHeld$Facts", "second", "[I", true)
  | 2 => ("StreamersHeld$Facts", "third", "[I", true)
  | 3 => ("StreamersHeld$Facts", "most", "I", true)
  | _ => ("StreamersHeld$Facts", "size", "I", false)
def tyX0 : Nat → FieldType := fun k => match k with
  | 0 => .array .int
  | 1 => .array .int
  | 2 => .array .int
  | 3 => .int
  | _ => .int
abbrev wsX00 : List Cond := u_ws RX0 TX0 5
theorem nmX0 : ∀ a, a < 5 → ∀ b, b < 5 → a ≠ b → (TX0 a).2.1 ≠ (TX0 b).2.1 := by decide +kernel
theorem tyX0_ok : ∀ k, k < 5 → parseFieldDescriptor (TX0 k).2.2.1 = some (tyX0 k) := by decide +kernel
abbrev cX0_init : ByteArray := prog_2_method_1_code
def yX0_init : MethodName := ⟨RX0, "<init>", "(I)V"⟩
abbrev cX0_add : ByteArray := prog_2_method_2_code
def yX0_add : MethodName := ⟨RX0, "add", "(III)I"⟩
abbrev cX0_drop : ByteArray := prog_2_method_3_code
def yX0_drop : MethodName := ⟨RX0, "drop", "()I"⟩
def RX1 : String := "StreamersHeld$Memory"
def TX1 : u_T := fun k => match k with
  | 0 => ("StreamersHeld$Memory", "ring", "[I", true)
  | 1 => ("StreamersHeld$Memory", "kept", "[I", true)
  | 2 => ("StreamersHeld$Memory", "next", "I", false)
  | 3 => ("StreamersHeld$Memory", "undoable", "I", false)
  | _ => ("StreamersHeld$Memory", "keptNumbers", "I", false)
def tyX1 : Nat → FieldType := fun k => match k with
  | 0 => .array .int
  | 1 => .array .int
  | 2 => .int
  | 3 => .int
  | _ => .int
abbrev wsX10 : List Cond := u_ws RX1 TX1 5
theorem nmX1 : ∀ a, a < 5 → ∀ b, b < 5 → a ≠ b → (TX1 a).2.1 ≠ (TX1 b).2.1 := by decide +kernel
theorem tyX1_ok : ∀ k, k < 5 → parseFieldDescriptor (TX1 k).2.2.1 = some (tyX1 k) := by decide +kernel
abbrev cX1_init : ByteArray := prog_3_method_1_code
def yX1_init : MethodName := ⟨RX1, "<init>", "()V"⟩
abbrev cX1_mark : ByteArray := prog_3_method_2_code
def yX1_mark : MethodName := ⟨RX1, "mark", "(LStreamersHeld$Sail;)V"⟩
abbrev cX1_confirm : ByteArray := prog_3_method_3_code
def yX1_confirm : MethodName := ⟨RX1, "confirm", "()V"⟩
abbrev cX1_bringBack : ByteArray := prog_3_method_4_code
def yX1_bringBack : MethodName := ⟨RX1, "bringBack", "(LStreamersHeld$Sail;)Z"⟩
abbrev cX1_keepUnder : ByteArray := prog_3_method_5_code
def yX1_keepUnder : MethodName := ⟨RX1, "keepUnder", "(ILStreamersHeld$Sail;)Z"⟩
abbrev cX1_bringKept : ByteArray := prog_3_method_6_code
def yX1_bringKept : MethodName := ⟨RX1, "bringKept", "(ILStreamersHeld$Sail;)Z"⟩
abbrev cX1_loseAll : ByteArray := prog_3_method_7_code
def yX1_loseAll : MethodName := ⟨RX1, "loseAll", "()V"⟩
def RX2 : String := "StreamersHeld$Row"
def TX2 : u_T := fun k => match k with
  | 0 => ("StreamersHeld$Row", "numbers", "[J", true)
  | _ => ("StreamersHeld$Row", "size", "I", false)
def tyX2 : Nat → FieldType := fun k => match k with
  | 0 => .array .long
  | _ => .int
abbrev wsX20 : List Cond := u_ws RX2 TX2 2
theorem nmX2 : ∀ a, a < 2 → ∀ b, b < 2 → a ≠ b → (TX2 a).2.1 ≠ (TX2 b).2.1 := by decide +kernel
theorem tyX2_ok : ∀ k, k < 2 → parseFieldDescriptor (TX2 k).2.2.1 = some (tyX2 k) := by decide +kernel
abbrev cX2_init : ByteArray := prog_4_method_1_code
def yX2_init : MethodName := ⟨RX2, "<init>", "()V"⟩
abbrev cX2_clear : ByteArray := prog_4_method_2_code
def yX2_clear : MethodName := ⟨RX2, "clear", "()V"⟩
abbrev cX2_add : ByteArray := prog_4_method_3_code
def yX2_add : MethodName := ⟨RX2, "add", "(J)V"⟩
def RX3 : String := "StreamersHeld$Rule"
def TX3 : u_T := fun k => match k with
  | 0 => ("StreamersHeld$Rule", "steps", "[I", true)
  | 1 => ("StreamersHeld$Rule", "waiting", "[I", true)
  | 2 => ("StreamersHeld$Rule", "stack", "[I", true)
  | 3 => ("StreamersHeld$Rule", "size", "I", false)
  | 4 => ("StreamersHeld$Rule", "waits", "I", false)
  | 5 => ("StreamersHeld$Rule", "nested", "I", false)
  | 6 => ("StreamersHeld$Rule", "compared", "I", false)
  | 7 => ("StreamersHeld$Rule", "digits", "I", false)
  | _ => ("StreamersHeld$Rule", "wantsThing", "Z", false)
def tyX3 : Nat → FieldType := fun k => match k with
  | 0 => .array .int
  | 1 => .array .int
  | 2 => .array .int
  | 3 => .int
  | 4 => .int
  | 5 => .int
  | 6 => .int
  | 7 => .int
  | _ => .boolean
abbrev wsX30 : List Cond := u_ws RX3 TX3 9
theorem nmX3 : ∀ a, a < 9 → ∀ b, b < 9 → a ≠ b → (TX3 a).2.1 ≠ (TX3 b).2.1 := by decide +kernel
theorem tyX3_ok : ∀ k, k < 9 → parseFieldDescriptor (TX3 k).2.2.1 = some (tyX3 k) := by decide +kernel
abbrev cX3_init : ByteArray := prog_5_method_1_code
def yX3_init : MethodName := ⟨RX3, "<init>", "()V"⟩
abbrev cX3_copy : ByteArray := prog_5_method_2_code
def yX3_copy : MethodName := ⟨RX3, "copy", "(LStreamersHeld$Rule;)V"⟩
abbrev cX3_read : ByteArray := prog_5_method_3_code
def yX3_read : MethodName := ⟨RX3, "read", "(LStreamersHeld$Text;)I"⟩
abbrev cX3_take : ByteArray := prog_5_method_4_code
def yX3_take : MethodName := ⟨RX3, "take", "(I)Z"⟩
abbrev cX3_takeThing : ByteArray := prog_5_method_5_code
def yX3_takeThing : MethodName := ⟨RX3, "takeThing", "(I)Z"⟩
abbrev cX3_takeDigit : ByteArray := prog_5_method_6_code
def yX3_takeDigit : MethodName := ⟨RX3, "takeDigit", "(I)Z"⟩
abbrev cX3_takeBetween : ByteArray := prog_5_method_7_code
def yX3_takeBetween : MethodName := ⟨RX3, "takeBetween", "(I)Z"⟩
abbrev cX3_open : ByteArray := prog_5_method_8_code
def yX3_open : MethodName := ⟨RX3, "open", "()Z"⟩
abbrev cX3_close : ByteArray := prog_5_method_9_code
def yX3_close : MethodName := ⟨RX3, "close", "()Z"⟩
abbrev cX3_release : ByteArray := prog_5_method_10_code
def yX3_release : MethodName := ⟨RX3, "release", "(I)V"⟩
abbrev cX3_hold : ByteArray := prog_5_method_11_code
def yX3_hold : MethodName := ⟨RX3, "hold", "(I)V"⟩
abbrev cX3_emit : ByteArray := prog_5_method_12_code
def yX3_emit : MethodName := ⟨RX3, "emit", "(I)V"⟩
abbrev cX3_isName : ByteArray := prog_5_method_13_code
def yX3_isName : MethodName := ⟨RX3, "isName", "(I)Z"⟩
abbrev cX3_bindingOf : ByteArray := prog_5_method_14_code
def yX3_bindingOf : MethodName := ⟨RX3, "bindingOf", "(I)I"⟩
abbrev cX3_pull : ByteArray := prog_5_method_15_code
def yX3_pull : MethodName := ⟨RX3, "pull", "(LStreamersHeld$Sail;I)I"⟩
abbrev cX3_valueOf : ByteArray := prog_5_method_16_code
def yX3_valueOf : MethodName := ⟨RX3, "valueOf", "(ILStreamersHeld$Sail;I)I"⟩
abbrev cX3_join : ByteArray := prog_5_method_17_code
def yX3_join : MethodName := ⟨RX3, "join", "(III)I"⟩
def RX4 : String := "StreamersHeld$Sail"
def TX4 : u_T := fun k => match k with
  | 0 => ("StreamersHeld$Sail", "colour", "[I", true)
  | 1 => ("StreamersHeld$Sail", "strength", "[I", true)
  | 2 => ("StreamersHeld$Sail", "reel", "[I", true)
  | 3 => ("StreamersHeld$Sail", "rate", "[I", true)
  | 4 => ("StreamersHeld$Sail", "place", "[I", true)
  | 5 => ("StreamersHeld$Sail", "length", "[I", true)
  | 6 => ("StreamersHeld$Sail", "many", "I", false)
  | 7 => ("StreamersHeld$Sail", "everyone", "I", false)
  | 8 => ("StreamersHeld$Sail", "broken", "I", false)
  | 9 => ("StreamersHeld$Sail", "dropped", "I", false)
  | 10 => ("StreamersHeld$Sail", "way", "I", false)
  | 11 => ("StreamersHeld$Sail", "speed", "I", false)
  | _ => ("StreamersHeld$Sail", "hour", "I", false)
def tyX4 : Nat → FieldType := fun k => match k with
  | 0 => .array .int
  | 1 => .array .int
  | 2 => .array .int
  | 3 => .array .int
  | 4 => .array .int
  | 5 => .array .int
  | 6 => .int
  | 7 => .int
  | 8 => .int
  | 9 => .int
  | 10 => .int
  | 11 => .int
  | _ => .int
abbrev wsX40 : List Cond := u_ws RX4 TX4 13
theorem nmX4 : ∀ a, a < 13 → ∀ b, b < 13 → a ≠ b → (TX4 a).2.1 ≠ (TX4 b).2.1 := by decide +kernel
theorem tyX4_ok : ∀ k, k < 13 → parseFieldDescriptor (TX4 k).2.2.1 = some (tyX4 k) := by decide +kernel
abbrev cX4_init : ByteArray := prog_6_method_1_code
def yX4_init : MethodName := ⟨RX4, "<init>", "()V"⟩
abbrev cX4_knows : ByteArray := prog_6_method_2_code
def yX4_knows : MethodName := ⟨RX4, "knows", "(I)Z"⟩
abbrev cX4_come : ByteArray := prog_6_method_3_code
def yX4_come : MethodName := ⟨RX4, "come", "(IIIII)V"⟩
abbrev cX4_holding : ByteArray := prog_6_method_4_code
def yX4_holding : MethodName := ⟨RX4, "holding", "()I"⟩
abbrev cX4_holds : ByteArray := prog_6_method_5_code
def yX4_holds : MethodName := ⟨RX4, "holds", "(I)Z"⟩
abbrev cX4_fate : ByteArray := prog_6_method_6_code
def yX4_fate : MethodName := ⟨RX4, "fate", "(I)I"⟩
abbrev cX4_reach : ByteArray := prog_6_method_7_code
def yX4_reach : MethodName := ⟨RX4, "reach", "(I)I"⟩
abbrev cX4_lack : ByteArray := prog_6_method_8_code
def yX4_lack : MethodName := ⟨RX4, "lack", "(I)I"⟩
abbrev cX4_taut : ByteArray := prog_6_method_9_code
def yX4_taut : MethodName := ⟨RX4, "taut", "()I"⟩
abbrev cX4_ofColour : ByteArray := prog_6_method_10_code
def yX4_ofColour : MethodName := ⟨RX4, "ofColour", "(I)I"⟩
abbrev cX4_asStrong : ByteArray := prog_6_method_11_code
def yX4_asStrong : MethodName := ⟨RX4, "asStrong", "(I)I"⟩
abbrev cX4_asFarAlong : ByteArray := prog_6_method_12_code
def yX4_asFarAlong : MethodName := ⟨RX4, "asFarAlong", "(I)I"⟩
abbrev cX4_companions : ByteArray := prog_6_method_13_code
def yX4_companions : MethodName := ⟨RX4, "companions", "(I)I"⟩
abbrev cX4_weight : ByteArray := prog_6_method_14_code
def yX4_weight : MethodName := ⟨RX4, "weight", "(I)I"⟩
abbrev cX4_lengths : ByteArray := prog_6_method_15_code
def yX4_lengths : MethodName := ⟨RX4, "lengths", "(I)I"⟩
abbrev cX4_reelsTogether : ByteArray := prog_6_method_16_code
def yX4_reelsTogether : MethodName := ⟨RX4, "reelsTogether", "()I"⟩
abbrev cX4_heldBack : ByteArray := prog_6_method_17_code
def yX4_heldBack : MethodName := ⟨RX4, "heldBack", "()I"⟩
abbrev cX4_passHours : ByteArray := prog_6_method_18_code
def yX4_passHours : MethodName := ⟨RX4, "passHours", "(LStreamersHeld$Rule;I)V"⟩
abbrev cX4_passHour : ByteArray := prog_6_method_19_code
def yX4_passHour : MethodName := ⟨RX4, "passHour", "(LStreamersHeld$Rule;)V"⟩
abbrev cX4_payOut : ByteArray := prog_6_method_20_code
def yX4_payOut : MethodName := ⟨RX4, "payOut", "()V"⟩
abbrev cX4_copy : ByteArray := prog_6_method_21_code
def yX4_copy : MethodName := ⟨RX4, "copy", "(LStreamersHeld$Sail;)V"⟩
abbrev cX4_write : ByteArray := prog_6_method_22_code
def yX4_write : MethodName := ⟨RX4, "write", "([II)V"⟩
abbrev cX4_readBack : ByteArray := prog_6_method_23_code
def yX4_readBack : MethodName := ⟨RX4, "readBack", "([II)V"⟩
def RX5 : String := "StreamersHeld$Text"
def TX5 : u_T := fun k => match k with
  | 0 => ("StreamersHeld$Text", "signs", "[I", true)
  | _ => ("StreamersHeld$Text", "size", "I", false)
def tyX5 : Nat → FieldType := fun k => match k with
  | 0 => .array .int
  | _ => .int
abbrev wsX50 : List Cond := u_ws RX5 TX5 2
theorem nmX5 : ∀ a, a < 2 → ∀ b, b < 2 → a ≠ b → (TX5 a).2.1 ≠ (TX5 b).2.1 := by decide +kernel
theorem tyX5_ok : ∀ k, k < 2 → parseFieldDescriptor (TX5 k).2.2.1 = some (tyX5 k) := by decide +kernel
abbrev cX5_init : ByteArray := prog_7_method_1_code
def yX5_init : MethodName := ⟨RX5, "<init>", "()V"⟩
abbrev cX5_append : ByteArray := prog_7_method_2_code
def yX5_append : MethodName := ⟨RX5, "append", "(I)I"⟩
abbrev cX5_shorten : ByteArray := prog_7_method_3_code
def yX5_shorten : MethodName := ⟨RX5, "shorten", "(I)Z"⟩
abbrev cX5_at : ByteArray := prog_7_method_4_code
def yX5_at : MethodName := ⟨RX5, "at", "(I)I"⟩
abbrev cX5_digit : ByteArray := prog_7_method_5_code
def yX5_digit : MethodName := ⟨RX5, "digit", "(I)I"⟩
def RX6 : String := "StreamersHeld"
def TX6 : u_T := fun k => match k with
  | 0 => ("StreamersHeld", "text", "LStreamersHeld$Text;", true)
  | 1 => ("StreamersHeld", "told", "LStreamersHeld$Row;", true)
  | 2 => ("StreamersHeld", "sail", "LStreamersHeld$Sail;", true)
  | 3 => ("StreamersHeld", "future", "LStreamersHeld$Sail;", true)
  | 4 => ("StreamersHeld", "ruling", "LStreamersHeld$Rule;", true)
  | 5 => ("StreamersHeld", "otherRule", "LStreamersHeld$Rule;", true)
  | 6 => ("StreamersHeld", "memory", "LStreamersHeld$Memory;", true)
  | 7 => ("StreamersHeld", "sights", "LStreamersHeld$Facts;", true)
  | 8 => ("StreamersHeld", "rumours", "LStreamersHeld$Facts;", true)
  | 9 => ("StreamersHeld", "partings", "LStreamersHeld$Facts;", true)
  | 10 => ("StreamersHeld", "waysFrom", "[I", true)
  | 11 => ("StreamersHeld", "nimbers", "[I", true)
  | 12 => ("StreamersHeld", "nimbersKnown", "I", false)
  | _ => ("StreamersHeld", "drawn", "I", false)
def tyX6 : Nat → FieldType := fun k => match k with
  | 0 => .object "StreamersHeld$Text"
  | 1 => .object "StreamersHeld$Row"
  | 2 => .object "StreamersHeld$Sail"
  | 3 => .object "StreamersHeld$Sail"
  | 4 => .object "StreamersHeld$Rule"
  | 5 => .object "StreamersHeld$Rule"
  | 6 => .object "StreamersHeld$Memory"
  | 7 => .object "StreamersHeld$Facts"
  | 8 => .object "StreamersHeld$Facts"
  | 9 => .object "StreamersHeld$Facts"
  | 10 => .array .int
  | 11 => .array .int
  | 12 => .int
  | _ => .int
abbrev wsX60 : List Cond := u_ws RX6 TX6 14
theorem nmX6 : ∀ a, a < 14 → ∀ b, b < 14 → a ≠ b → (TX6 a).2.1 ≠ (TX6 b).2.1 := by decide +kernel
theorem tyX6_ok : ∀ k, k < 14 → parseFieldDescriptor (TX6 k).2.2.1 = some (tyX6 k) := by decide +kernel
abbrev cX6_init : ByteArray := prog_1_method_1_code
def yX6_init : MethodName := ⟨RX6, "<init>", "()V"⟩
abbrev cX6_sign : ByteArray := prog_1_method_2_code
def yX6_sign : MethodName := ⟨RX6, "sign", "(I)I"⟩
abbrev cX6_end : ByteArray := prog_1_method_3_code
def yX6_end : MethodName := ⟨RX6, "end", "(I)Z"⟩
abbrev cX6_streamers : ByteArray := prog_1_method_4_code
def yX6_streamers : MethodName := ⟨RX6, "streamers", "()I"⟩
abbrev cX6_rule : ByteArray := prog_1_method_5_code
def yX6_rule : MethodName := ⟨RX6, "rule", "()I"⟩
abbrev cX6_streamer : ByteArray := prog_1_method_6_code
def yX6_streamer : MethodName := ⟨RX6, "streamer", "(II)I"⟩
abbrev cX6_sheet : ByteArray := prog_1_method_7_code
def yX6_sheet : MethodName := ⟨RX6, "sheet", "(IIII)I"⟩
abbrev cX6_hours : ByteArray := prog_1_method_8_code
def yX6_hours : MethodName := ⟨RX6, "hours", "(I)I"⟩
abbrev cX6_runs : ByteArray := prog_1_method_9_code
def yX6_runs : MethodName := ⟨RX6, "runs", "(II)I"⟩
abbrev cX6_rates : ByteArray := prog_1_method_10_code
def yX6_rates : MethodName := ⟨RX6, "rates", "(II)I"⟩
abbrev cX6_reels : ByteArray := prog_1_method_11_code
def yX6_reels : MethodName := ⟨RX6, "reels", "(II)I"⟩
abbrev cX6_drops : ByteArray := prog_1_method_12_code
def yX6_drops : MethodName := ⟨RX6, "drops", "(I)I"⟩
abbrev cX6_speed : ByteArray := prog_1_method_13_code
def yX6_speed : MethodName := ⟨RX6, "speed", "(I)I"⟩
abbrev cX6_sailing : ByteArray := prog_1_method_14_code
def yX6_sailing : MethodName := ⟨RX6, "sailing", "()I"⟩
abbrev cX6_undo : ByteArray := prog_1_method_15_code
def yX6_undo : MethodName := ⟨RX6, "undo", "()I"⟩
abbrev cX6_later : ByteArray := prog_1_method_16_code
def yX6_later : MethodName := ⟨RX6, "later", "(I)I"⟩
abbrev cX6_when : ByteArray := prog_1_method_17_code
def yX6_when : MethodName := ⟨RX6, "when", "(I)I"⟩
abbrev cX6_order : ByteArray := prog_1_method_18_code
def yX6_order : MethodName := ⟨RX6, "order", "()I"⟩
abbrev cX6_gone : ByteArray := prog_1_method_19_code
def yX6_gone : MethodName := ⟨RX6, "gone", "()I"⟩
abbrev cX6_stopped : ByteArray := prog_1_method_20_code
def yX6_stopped : MethodName := ⟨RX6, "stopped", "()I"⟩
abbrev cX6_drag : ByteArray := prog_1_method_21_code
def yX6_drag : MethodName := ⟨RX6, "drag", "()I"⟩
abbrev cX6_thrift : ByteArray := prog_1_method_22_code
def yX6_thrift : MethodName := ⟨RX6, "thrift", "(II)I"⟩
abbrev cX6_mole : ByteArray := prog_1_method_23_code
def yX6_mole : MethodName := ⟨RX6, "mole", "(II)I"⟩
abbrev cX6_slows : ByteArray := prog_1_method_24_code
def yX6_slows : MethodName := ⟨RX6, "slows", "(II)I"⟩
abbrev cX6_halts : ByteArray := prog_1_method_25_code
def yX6_halts : MethodName := ⟨RX6, "halts", "()I"⟩
abbrev cX6_frees : ByteArray := prog_1_method_26_code
def yX6_frees : MethodName := ⟨RX6, "frees", "(II)I"⟩
abbrev cX6_power : ByteArray := prog_1_method_27_code
def yX6_power : MethodName := ⟨RX6, "power", "(I)I"⟩
abbrev cX6_pivots : ByteArray := prog_1_method_28_code
def yX6_pivots : MethodName := ⟨RX6, "pivots", "(I)I"⟩
abbrev cX6_colours : ByteArray := prog_1_method_29_code
def yX6_colours : MethodName := ⟨RX6, "colours", "()I"⟩
abbrev cX6_parties : ByteArray := prog_1_method_30_code
def yX6_parties : MethodName := ⟨RX6, "parties", "()I"⟩
abbrev cX6_ends : ByteArray := prog_1_method_31_code
def yX6_ends : MethodName := ⟨RX6, "ends", "(IIII)I"⟩
abbrev cX6_just : ByteArray := prog_1_method_32_code
def yX6_just : MethodName := ⟨RX6, "just", "(I)I"⟩
abbrev cX6_seen : ByteArray := prog_1_method_33_code
def yX6_seen : MethodName := ⟨RX6, "seen", "(III)I"⟩
abbrev cX6_forget : ByteArray := prog_1_method_34_code
def yX6_forget : MethodName := ⟨RX6, "forget", "()I"⟩
abbrev cX6_guess : ByteArray := prog_1_method_35_code
def yX6_guess : MethodName := ⟨RX6, "guess", "()I"⟩
abbrev cX6_looks : ByteArray := prog_1_method_36_code
def yX6_looks : MethodName := ⟨RX6, "looks", "()I"⟩
abbrev cX6_heard : ByteArray := prog_1_method_37_code
def yX6_heard : MethodName := ⟨RX6, "heard", "(II)I"⟩
abbrev cX6_denies : ByteArray := prog_1_method_38_code
def yX6_denies : MethodName := ⟨RX6, "denies", "()I"⟩
abbrev cX6_fits : ByteArray := prog_1_method_39_code
def yX6_fits : MethodName := ⟨RX6, "fits", "()I"⟩
abbrev cX6_asks : ByteArray := prog_1_method_40_code
def yX6_asks : MethodName := ⟨RX6, "asks", "()I"⟩
abbrev cX6_odds : ByteArray := prog_1_method_41_code
def yX6_odds : MethodName := ⟨RX6, "odds", "(II)I"⟩
abbrev cX6_saw : ByteArray := prog_1_method_42_code
def yX6_saw : MethodName := ⟨RX6, "saw", "(III)I"⟩
abbrev cX6_clears : ByteArray := prog_1_method_43_code
def yX6_clears : MethodName := ⟨RX6, "clears", "()I"⟩
abbrev cX6_laws : ByteArray := prog_1_method_44_code
def yX6_laws : MethodName := ⟨RX6, "laws", "()I"⟩
abbrev cX6_tries : ByteArray := prog_1_method_45_code
def yX6_tries : MethodName := ⟨RX6, "tries", "()I"⟩
abbrev cX6_letting : ByteArray := prog_1_method_46_code
def yX6_letting : MethodName := ⟨RX6, "letting", "(I)I"⟩
abbrev cX6_law : ByteArray := prog_1_method_47_code
def yX6_law : MethodName := ⟨RX6, "law", "()I"⟩
abbrev cX6_wars : ByteArray := prog_1_method_48_code
def yX6_wars : MethodName := ⟨RX6, "wars", "(I)I"⟩
abbrev cX6_years : ByteArray := prog_1_method_49_code
def yX6_years : MethodName := ⟨RX6, "years", "(II)I"⟩
abbrev cX6_keep : ByteArray := prog_1_method_50_code
def yX6_keep : MethodName := ⟨RX6, "keep", "(I)Z"⟩
abbrev cX6_again : ByteArray := prog_1_method_51_code
def yX6_again : MethodName := ⟨RX6, "again", "(I)Z"⟩
abbrev cX6_count : ByteArray := prog_1_method_52_code
def yX6_count : MethodName := ⟨RX6, "count", "(I)I"⟩
abbrev cX6_row : ByteArray := prog_1_method_53_code
def yX6_row : MethodName := ⟨RX6, "row", "(I)J"⟩
abbrev cX6_within : ByteArray := prog_1_method_54_code
def yX6_within : MethodName := ⟨RX6, "within", "(III)I"⟩
abbrev cX6_isBit : ByteArray := prog_1_method_55_code
def yX6_isBit : MethodName := ⟨RX6, "isBit", "(I)Z"⟩
abbrev cX6_isDigit : ByteArray := prog_1_method_56_code
def yX6_isDigit : MethodName := ⟨RX6, "isDigit", "(I)Z"⟩
abbrev cX6_isSpan : ByteArray := prog_1_method_57_code
def yX6_isSpan : MethodName := ⟨RX6, "isSpan", "(I)Z"⟩
abbrev cX6_isIn : ByteArray := prog_1_method_58_code
def yX6_isIn : MethodName := ⟨RX6, "isIn", "(II)Z"⟩
abbrev cX6_isWithin : ByteArray := prog_1_method_59_code
def yX6_isWithin : MethodName := ⟨RX6, "isWithin", "(II)Z"⟩
abbrev cX6_tell : ByteArray := prog_1_method_60_code
def yX6_tell : MethodName := ⟨RX6, "tell", "(J)V"⟩
abbrev cX6_tell_ : ByteArray := prog_1_method_61_code
def yX6_tell_ : MethodName := ⟨RX6, "tell", "(JJ)V"⟩
abbrev cX6_tellFraction : ByteArray := prog_1_method_62_code
def yX6_tellFraction : MethodName := ⟨RX6, "tellFraction", "(JJ)V"⟩
abbrev cX6_tellSet : ByteArray := prog_1_method_63_code
def yX6_tellSet : MethodName := ⟨RX6, "tellSet", "(II)I"⟩
abbrev cX6_foresee : ByteArray := prog_1_method_64_code
def yX6_foresee : MethodName := ⟨RX6, "foresee", "(I)V"⟩
abbrev cX6_badLineSign : ByteArray := prog_1_method_65_code
def yX6_badLineSign : MethodName := ⟨RX6, "badLineSign", "()I"⟩
abbrev cX6_fitsLine : ByteArray := prog_1_method_66_code
def yX6_fitsLine : MethodName := ⟨RX6, "fitsLine", "(I)Z"⟩
abbrev cX6_addLines : ByteArray := prog_1_method_67_code
def yX6_addLines : MethodName := ⟨RX6, "addLines", "()V"⟩
abbrev cX6_colourOf : ByteArray := prog_1_method_68_code
def yX6_colourOf : MethodName := ⟨RX6, "colourOf", "(I)I"⟩
abbrev cX6_asKind : ByteArray := prog_1_method_69_code
def yX6_asKind : MethodName := ⟨RX6, "asKind", "(II)I"⟩
abbrev cX6_badActSign : ByteArray := prog_1_method_70_code
def yX6_badActSign : MethodName := ⟨RX6, "badActSign", "()I"⟩
abbrev cX6_digitsBehind : ByteArray := prog_1_method_71_code
def yX6_digitsBehind : MethodName := ⟨RX6, "digitsBehind", "(I)I"⟩
abbrev cX6_settled : ByteArray := prog_1_method_72_code
def yX6_settled : MethodName := ⟨RX6, "settled", "(I)I"⟩
abbrev cX6_act : ByteArray := prog_1_method_73_code
def yX6_act : MethodName := ⟨RX6, "act", "(I)I"⟩
abbrev cX6_goHours : ByteArray := prog_1_method_74_code
def yX6_goHours : MethodName := ⟨RX6, "goHours", "(I)I"⟩
abbrev cX6_runTo : ByteArray := prog_1_method_75_code
def yX6_runTo : MethodName := ⟨RX6, "runTo", "(II)I"⟩
abbrev cX6_setRate : ByteArray := prog_1_method_76_code
def yX6_setRate : MethodName := ⟨RX6, "setRate", "(II)I"⟩
abbrev cX6_fillReel : ByteArray := prog_1_method_77_code
def yX6_fillReel : MethodName := ⟨RX6, "fillReel", "(II)I"⟩
abbrev cX6_turnEnd : ByteArray := prog_1_method_78_code
def yX6_turnEnd : MethodName := ⟨RX6, "turnEnd", "(I)I"⟩
abbrev cX6_setSpeed : ByteArray := prog_1_method_79_code
def yX6_setSpeed : MethodName := ⟨RX6, "setSpeed", "(I)I"⟩
abbrev cX6_hoursHeld : ByteArray := prog_1_method_80_code
def yX6_hoursHeld : MethodName := ⟨RX6, "hoursHeld", "(II)I"⟩
abbrev cX6_holdBySpeed : ByteArray := prog_1_method_81_code
def yX6_holdBySpeed : MethodName := ⟨RX6, "holdBySpeed", "(II)I"⟩
abbrev cX6_holdsWithout : ByteArray := prog_1_method_82_code
def yX6_holdsWithout : MethodName := ⟨RX6, "holdsWithout", "(III)Z"⟩
abbrev cX6_tips : ByteArray := prog_1_method_83_code
def yX6_tips : MethodName := ⟨RX6, "tips", "(II)Z"⟩
abbrev cX6_decides : ByteArray := prog_1_method_84_code
def yX6_decides : MethodName := ⟨RX6, "decides", "(I)Z"⟩
abbrev cX6_orders : ByteArray := prog_1_method_85_code
def yX6_orders : MethodName := ⟨RX6, "orders", "(I)J"⟩
abbrev cX6_times : ByteArray := prog_1_method_86_code
def yX6_times : MethodName := ⟨RX6, "times", "(JI)J"⟩
abbrev cX6_mayBeEnds : ByteArray := prog_1_method_87_code
def yX6_mayBeEnds : MethodName := ⟨RX6, "mayBeEnds", "(I)Z"⟩
abbrev cX6_coloursAre : ByteArray := prog_1_method_88_code
def yX6_coloursAre : MethodName := ⟨RX6, "coloursAre", "(IIIII)Z"⟩
abbrev cX6_fitsSights : ByteArray := prog_1_method_89_code
def yX6_fitsSights : MethodName := ⟨RX6, "fitsSights", "(I)Z"⟩
abbrev cX6_countWaysFrom : ByteArray := prog_1_method_90_code
def yX6_countWaysFrom : MethodName := ⟨RX6, "countWaysFrom", "()I"⟩
abbrev cX6_mayBeHeard : ByteArray := prog_1_method_91_code
def yX6_mayBeHeard : MethodName := ⟨RX6, "mayBeHeard", "(II)Z"⟩
abbrev cX6_fitRumours : ByteArray := prog_1_method_92_code
def yX6_fitRumours : MethodName := ⟨RX6, "fitRumours", "()I"⟩
abbrev cX6_ofWhom : ByteArray := prog_1_method_93_code
def yX6_ofWhom : MethodName := ⟨RX6, "ofWhom", "(II)I"⟩
abbrev cX6_factorOf : ByteArray := prog_1_method_94_code
def yX6_factorOf : MethodName := ⟨RX6, "factorOf", "(I)I"⟩
abbrev cX6_slackOf : ByteArray := prog_1_method_95_code
def yX6_slackOf : MethodName := ⟨RX6, "slackOf", "(I)I"⟩
abbrev cX6_breaks : ByteArray := prog_1_method_96_code
def yX6_breaks : MethodName := ⟨RX6, "breaks", "(III)Z"⟩
abbrev cX6_fitsPartings : ByteArray := prog_1_method_97_code
def yX6_fitsPartings : MethodName := ⟨RX6, "fitsPartings", "(I)Z"⟩
abbrev cX6_fittingLaws : ByteArray := prog_1_method_98_code
def yX6_fittingLaws : MethodName := ⟨RX6, "fittingLaws", "()J"⟩
abbrev cX6_breakingLaws : ByteArray := prog_1_method_99_code
def yX6_breakingLaws : MethodName := ⟨RX6, "breakingLaws", "(II)J"⟩
abbrev cX6_learnNimbers : ByteArray := prog_1_method_100_code
def yX6_learnNimbers : MethodName := ⟨RX6, "learnNimbers", "(I)V"⟩
abbrev cX6_nimberOf : ByteArray := prog_1_method_101_code
def yX6_nimberOf : MethodName := ⟨RX6, "nimberOf", "(I)I"⟩
abbrev cX6_isBestAgainst : ByteArray := prog_1_method_102_code
def yX6_isBestAgainst : MethodName := ⟨RX6, "isBestAgainst", "(III)Z"⟩
abbrev cX6_gain : ByteArray := prog_1_method_103_code
def yX6_gain : MethodName := ⟨RX6, "gain", "(III)I"⟩
abbrev cX6_draw : ByteArray := prog_1_method_104_code
def yX6_draw : MethodName := ⟨RX6, "draw", "(I)I"⟩
abbrev cX6_drawOne : ByteArray := prog_1_method_105_code
def yX6_drawOne : MethodName := ⟨RX6, "drawOne", "()V"⟩
def RX7 : String := "StreamersHeldModel"
def TX7 : u_T := fun k => match k with
  | 0 => ("StreamersHeldModel", "thrown", "I", false)
  | 1 => ("StreamersHeldModel", "told", "I", false)
  | 2 => ("StreamersHeldModel", "row", "[J", true)
  | 3 => ("StreamersHeldModel", "streamers", "I", false)
  | 4 => ("StreamersHeldModel", "changes", "I", false)
  | 5 => ("StreamersHeldModel", "colour", "[I", true)
  | 6 => ("StreamersHeldModel", "strength", "[I", true)
  | 7 => ("StreamersHeldModel", "now", "[I", true)
  | 8 => ("StreamersHeldModel", "then", "[I", true)
  | 9 => ("StreamersHeldModel", "tape", "[I", true)
  | 10 => ("StreamersHeldModel", "taped", "I", false)
  | 11 => ("StreamersHeldModel", "at", "I", false)
  | 12 => ("StreamersHeldModel", "to", "I", false)
  | 13 => ("StreamersHeldModel", "nest", "I", false)
  | 14 => ("StreamersHeldModel", "read", "[I", true)
  | 15 => ("StreamersHeldModel", "readMany", "I", false)
  | 16 => ("StreamersHeldModel", "code", "[I", true)
  | 17 => ("StreamersHeldModel", "readCode", "[I", true)
  | 18 => ("StreamersHeldModel", "codeLong", "I", false)
  | 19 => ("StreamersHeldModel", "codesRead", "I", false)
  | 20 => ("StreamersHeldModel", "stack", "[I", true)
  | 21 => ("StreamersHeldModel", "asked", "[I", true)
  | 22 => ("StreamersHeldModel", "undos", "I", false)
  | 23 => ("StreamersHeldModel", "undone", "[I", true)
  | 24 => ("StreamersHeldModel", "actSign", "[I", true)
  | 25 => ("StreamersHeldModel", "actOne", "[I", true)
  | 26 => ("StreamersHeldModel", "actTwo", "[I", true)
  | 27 => ("StreamersHeldModel", "acts", "I", false)
  | 28 => ("StreamersHeldModel", "seenMany", "I", false)
  | 29 => ("StreamersHeldModel", "seenOf", "[I", true)
  | 30 => ("StreamersHeldModel", "seenLack", "[I", true)
  | 31 => ("StreamersHeldModel", "seenIs", "[I", true)
  | 32 => ("StreamersHeldModel", "isLeft", "[Z", true)
  | 33 => ("StreamersHeldModel", "heardMany", "I", false)
  | 34 => ("StreamersHeldModel", "heardWhat", "[I", true)
  | 35 => ("StreamersHeldModel", "heardOf", "[I", true)
  | 36 => ("StreamersHeldModel", "sawMany", "I", false)
  | 37 => ("StreamersHeldModel", "sawLack", "[I", true)
  | 38 => ("StreamersHeldModel", "sawStrength", "[I", true)
  | 39 => ("StreamersHeldModel", "sawIs", "[I", true)
  | 40 => ("StreamersHeldModel", "isFit", "[Z", true)
  | 41 => ("StreamersHeldModel", "worth", "[I", true)
  | 42 => ("StreamersHeldModel", "been", "[Z", true)
  | 43 => ("StreamersHeldModel", "wasCode", "[I", true)
  | 44 => ("StreamersHeldModel", "random", "I", false)
  | 45 => ("StreamersHeldModel", "isKept", "[Z", true)
  | 46 => ("StreamersHeldModel", "keptChanges", "[I", true)
  | _ => ("StreamersHeldModel", "kept", "[I", true)
def tyX7 : Nat → FieldType := fun k => match k with
  | 0 => .int
  | 1 => .int
  | 2 => .array .long
  | 3 => .int
  | 4 => .int
  | 5 => .array .int
  | 6 => .array .int
  | 7 => .array .int
  | 8 => .array .int
  | 9 => .array .int
  | 10 => .int
  | 11 => .int
  | 12 => .int
  | 13 => .int
  | 14 => .array .int
  | 15 => .int
  | 16 => .array .int
  | 17 => .array .int
  | 18 => .int
  | 19 => .int
  | 20 => .array .int
  | 21 => .array .int
  | 22 => .int
  | 23 => .array .int
  | 24 => .array .int
  | 25 => .array .int
  | 26 => .array .int
  | 27 => .int
  | 28 => .int
  | 29 => .array .int
  | 30 => .array .int
  | 31 => .array .int
  | 32 => .array .boolean
  | 33 => .int
  | 34 => .array .int
  | 35 => .array .int
  | 36 => .int
  | 37 => .array .int
  | 38 => .array .int
  | 39 => .array .int
  | 40 => .array .boolean
  | 41 => .array .int
  | 42 => .array .boolean
  | 43 => .array .int
  | 44 => .int
  | 45 => .array .boolean
  | 46 => .array .int
  | _ => .array .int
abbrev wsX70 : List Cond := u_ws RX7 TX7 48
theorem nmX7 : ∀ a, a < 48 → ∀ b, b < 48 → a ≠ b → (TX7 a).2.1 ≠ (TX7 b).2.1 := by decide +kernel
theorem tyX7_ok : ∀ k, k < 48 → parseFieldDescriptor (TX7 k).2.2.1 = some (tyX7 k) := by decide +kernel
abbrev cX7_thrown : ByteArray := prog_9_method_1_code
def yX7_thrown : MethodName := ⟨RX7, "thrown", "()I"⟩
abbrev cX7_refuse : ByteArray := prog_9_method_2_code
def yX7_refuse : MethodName := ⟨RX7, "refuse", "()I"⟩
abbrev cX7_in : ByteArray := prog_9_method_3_code
def yX7_in : MethodName := ⟨RX7, "in", "(JJJ)Z"⟩
abbrev cX7_has : ByteArray := prog_9_method_4_code
def yX7_has : MethodName := ⟨RX7, "has", "(II)Z"⟩
abbrev cX7_flag : ByteArray := prog_9_method_5_code
def yX7_flag : MethodName := ⟨RX7, "flag", "(Z)I"⟩
abbrev cX7_common : ByteArray := prog_9_method_6_code
def yX7_common : MethodName := ⟨RX7, "common", "(JJ)J"⟩
abbrev cX7_enters : ByteArray := prog_9_method_7_code
def yX7_enters : MethodName := ⟨RX7, "enters", "(J)V"⟩
abbrev cX7_entersFraction : ByteArray := prog_9_method_8_code
def yX7_entersFraction : MethodName := ⟨RX7, "entersFraction", "(JJ)I"⟩
abbrev cX7_init : ByteArray := prog_9_method_9_code
def yX7_init : MethodName := ⟨RX7, "<init>", "()V"⟩
abbrev cX7_isOne : ByteArray := prog_9_method_10_code
def yX7_isOne : MethodName := ⟨RX7, "isOne", "(I)Z"⟩
abbrev cX7_all : ByteArray := prog_9_method_11_code
def yX7_all : MethodName := ⟨RX7, "all", "()I"⟩
abbrev cX7_holding : ByteArray := prog_9_method_12_code
def yX7_holding : MethodName := ⟨RX7, "holding", "([I)I"⟩
abbrev cX7_lack : ByteArray := prog_9_method_13_code
def yX7_lack : MethodName := ⟨RX7, "lack", "([II)I"⟩
abbrev cX7_taut : ByteArray := prog_9_method_14_code
def yX7_taut : MethodName := ⟨RX7, "taut", "([I)I"⟩
abbrev cX7_counts : ByteArray := prog_9_method_15_code
def yX7_counts : MethodName := ⟨RX7, "counts", "(I)I"⟩
abbrev cX7_dragOf : ByteArray := prog_9_method_16_code
def yX7_dragOf : MethodName := ⟨RX7, "dragOf", "([I)I"⟩
abbrev cX7_reelsOf : ByteArray := prog_9_method_17_code
def yX7_reelsOf : MethodName := ⟨RX7, "reelsOf", "([I)I"⟩
abbrev cX7_copies : ByteArray := prog_9_method_18_code
def yX7_copies : MethodName := ⟨RX7, "copies", "([I[I)V"⟩
abbrev cX7_sign : ByteArray := prog_9_method_19_code
def yX7_sign : MethodName := ⟨RX7, "sign", "(I)I"⟩
abbrev cX7_end : ByteArray := prog_9_method_20_code
def yX7_end : MethodName := ⟨RX7, "end", "(I)Z"⟩
abbrev cX7_begins : ByteArray := prog_9_method_21_code
def yX7_begins : MethodName := ⟨RX7, "begins", "(I)I"⟩
abbrev cX7_takes : ByteArray := prog_9_method_22_code
def yX7_takes : MethodName := ⟨RX7, "takes", "(I)Z"⟩
abbrev cX7_isDigit : ByteArray := prog_9_method_23_code
def yX7_isDigit : MethodName := ⟨RX7, "isDigit", "()Z"⟩
abbrev cX7_takesOf : ByteArray := prog_9_method_24_code
def yX7_takesOf : MethodName := ⟨RX7, "takesOf", "(Ljava/lang/String;)I"⟩
abbrev cX7_number : ByteArray := prog_9_method_25_code
def yX7_number : MethodName := ⟨RX7, "number", "(I)I"⟩
abbrev cX7_digitIn : ByteArray := prog_9_method_26_code
def yX7_digitIn : MethodName := ⟨RX7, "digitIn", "(II)I"⟩
abbrev cX7_twoDigits : ByteArray := prog_9_method_27_code
def yX7_twoDigits : MethodName := ⟨RX7, "twoDigits", "()I"⟩
abbrev cX7_faultOf : ByteArray := prog_9_method_28_code
def yX7_faultOf : MethodName := ⟨RX7, "faultOf", "(IIZ)I"⟩
abbrev cX7_readsOne : ByteArray := prog_9_method_29_code
def yX7_readsOne : MethodName := ⟨RX7, "readsOne", "()Z"⟩
abbrev cX7_streamers : ByteArray := prog_9_method_30_code
def yX7_streamers : MethodName := ⟨RX7, "streamers", "()I"⟩
abbrev cX7_codes : ByteArray := prog_9_method_31_code
def yX7_codes : MethodName := ⟨RX7, "codes", "(I)V"⟩
abbrev cX7_readsThing : ByteArray := prog_9_method_32_code
def yX7_readsThing : MethodName := ⟨RX7, "readsThing", "()Z"⟩
abbrev cX7_readsRank : ByteArray := prog_9_method_33_code
def yX7_readsRank : MethodName := ⟨RX7, "readsRank", "(I)Z"⟩
abbrev cX7_readsRule : ByteArray := prog_9_method_34_code
def yX7_readsRule : MethodName := ⟨RX7, "readsRule", "()I"⟩
abbrev cX7_laysCode : ByteArray := prog_9_method_35_code
def yX7_laysCode : MethodName := ⟨RX7, "laysCode", "([II)V"⟩
abbrev cX7_rule : ByteArray := prog_9_method_36_code
def yX7_rule : MethodName := ⟨RX7, "rule", "()I"⟩
abbrev cX7_worked : ByteArray := prog_9_method_37_code
def yX7_worked : MethodName := ⟨RX7, "worked", "(III)I"⟩
abbrev cX7_ruled : ByteArray := prog_9_method_38_code
def yX7_ruled : MethodName := ⟨RX7, "ruled", "()I"⟩
abbrev cX7_ofColour : ByteArray := prog_9_method_39_code
def yX7_ofColour : MethodName := ⟨RX7, "ofColour", "(I)I"⟩
abbrev cX7_pull : ByteArray := prog_9_method_40_code
def yX7_pull : MethodName := ⟨RX7, "pull", "([II)I"⟩
abbrev cX7_streamer : ByteArray := prog_9_method_41_code
def yX7_streamer : MethodName := ⟨RX7, "streamer", "(II)I"⟩
abbrev cX7_sheet : ByteArray := prog_9_method_42_code
def yX7_sheet : MethodName := ⟨RX7, "sheet", "(IIII)I"⟩
abbrev cX7_putsBy : ByteArray := prog_9_method_43_code
def yX7_putsBy : MethodName := ⟨RX7, "putsBy", "()V"⟩
abbrev cX7_adds : ByteArray := prog_9_method_44_code
def yX7_adds : MethodName := ⟨RX7, "adds", "(I)I"⟩
abbrev cX7_counted : ByteArray := prog_9_method_45_code
def yX7_counted : MethodName := ⟨RX7, "counted", "(I)I"⟩
abbrev cX7_undo : ByteArray := prog_9_method_46_code
def yX7_undo : MethodName := ⟨RX7, "undo", "()I"⟩
abbrev cX7_hourGoes : ByteArray := prog_9_method_47_code
def yX7_hourGoes : MethodName := ⟨RX7, "hourGoes", "([I)V"⟩
abbrev cX7_goesOn : ByteArray := prog_9_method_48_code
def yX7_goesOn : MethodName := ⟨RX7, "goesOn", "([II)V"⟩
abbrev cX7_becomes : ByteArray := prog_9_method_49_code
def yX7_becomes : MethodName := ⟨RX7, "becomes", "(III)I"⟩
abbrev cX7_runsTo : ByteArray := prog_9_method_50_code
def yX7_runsTo : MethodName := ⟨RX7, "runsTo", "(II)I"⟩
abbrev cX7_ratesTo : ByteArray := prog_9_method_51_code
def yX7_ratesTo : MethodName := ⟨RX7, "ratesTo", "(II)I"⟩
abbrev cX7_reelsMore : ByteArray := prog_9_method_52_code
def yX7_reelsMore : MethodName := ⟨RX7, "reelsMore", "(II)I"⟩
abbrev cX7_dropsOne : ByteArray := prog_9_method_53_code
def yX7_dropsOne : MethodName := ⟨RX7, "dropsOne", "(I)I"⟩
abbrev cX7_speedsTo : ByteArray := prog_9_method_54_code
def yX7_speedsTo : MethodName := ⟨RX7, "speedsTo", "(I)I"⟩
abbrev cX7_hours : ByteArray := prog_9_method_55_code
def yX7_hours : MethodName := ⟨RX7, "hours", "(I)I"⟩
abbrev cX7_runs : ByteArray := prog_9_method_56_code
def yX7_runs : MethodName := ⟨RX7, "runs", "(II)I"⟩
abbrev cX7_rates : ByteArray := prog_9_method_57_code
def yX7_rates : MethodName := ⟨RX7, "rates", "(II)I"⟩
abbrev cX7_reels : ByteArray := prog_9_method_58_code
def yX7_reels : MethodName := ⟨RX7, "reels", "(II)I"⟩
abbrev cX7_drops : ByteArray := prog_9_method_59_code
def yX7_drops : MethodName := ⟨RX7, "drops", "(I)I"⟩
abbrev cX7_speed : ByteArray := prog_9_method_60_code
def yX7_speed : MethodName := ⟨RX7, "speed", "(I)I"⟩
abbrev cX7_readsAct : ByteArray := prog_9_method_61_code
def yX7_readsAct : MethodName := ⟨RX7, "readsAct", "()Z"⟩
abbrev cX7_does : ByteArray := prog_9_method_62_code
def yX7_does : MethodName := ⟨RX7, "does", "(I)Z"⟩
abbrev cX7_sailing : ByteArray := prog_9_method_63_code
def yX7_sailing : MethodName := ⟨RX7, "sailing", "()I"⟩
abbrev cX7_later : ByteArray := prog_9_method_64_code
def yX7_later : MethodName := ⟨RX7, "later", "(I)I"⟩
abbrev cX7_when : ByteArray := prog_9_method_65_code
def yX7_when : MethodName := ⟨RX7, "when", "(I)I"⟩
abbrev cX7_order : ByteArray := prog_9_method_66_code
def yX7_order : MethodName := ⟨RX7, "order", "()I"⟩
abbrev cX7_gone : ByteArray := prog_9_method_67_code
def yX7_gone : MethodName := ⟨RX7, "gone", "()I"⟩
abbrev cX7_stopped : ByteArray := prog_9_method_68_code
def yX7_stopped : MethodName := ⟨RX7, "stopped", "()I"⟩
abbrev cX7_drag : ByteArray := prog_9_method_69_code
def yX7_drag : MethodName := ⟨RX7, "drag", "()I"⟩
abbrev cX7_thrift : ByteArray := prog_9_method_70_code
def yX7_thrift : MethodName := ⟨RX7, "thrift", "(II)I"⟩
abbrev cX7_heldAt : ByteArray := prog_9_method_71_code
def yX7_heldAt : MethodName := ⟨RX7, "heldAt", "(III)I"⟩
abbrev cX7_mole : ByteArray := prog_9_method_72_code
def yX7_mole : MethodName := ⟨RX7, "mole", "(II)I"⟩
abbrev cX7_heldBy : ByteArray := prog_9_method_73_code
def yX7_heldBy : MethodName := ⟨RX7, "heldBy", "(II)I"⟩
abbrev cX7_slows : ByteArray := prog_9_method_74_code
def yX7_slows : MethodName := ⟨RX7, "slows", "(II)I"⟩
abbrev cX7_isFewer : ByteArray := prog_9_method_75_code
def yX7_isFewer : MethodName := ⟨RX7, "isFewer", "(II)Z"⟩
abbrev cX7_entersFewest : ByteArray := prog_9_method_76_code
def yX7_entersFewest : MethodName := ⟨RX7, "entersFewest", "(I)I"⟩
abbrev cX7_halts : ByteArray := prog_9_method_77_code
def yX7_halts : MethodName := ⟨RX7, "halts", "()I"⟩
abbrev cX7_frees : ByteArray := prog_9_method_78_code
def yX7_frees : MethodName := ⟨RX7, "frees", "(II)I"⟩
abbrev cX7_decides : ByteArray := prog_9_method_79_code
def yX7_decides : MethodName := ⟨RX7, "decides", "(I)Z"⟩
abbrev cX7_turnsIt : ByteArray := prog_9_method_80_code
def yX7_turnsIt : MethodName := ⟨RX7, "turnsIt", "(II)Z"⟩
abbrev cX7_ordersOf : ByteArray := prog_9_method_81_code
def yX7_ordersOf : MethodName := ⟨RX7, "ordersOf", "(I)J"⟩
abbrev cX7_power : ByteArray := prog_9_method_82_code
def yX7_power : MethodName := ⟨RX7, "power", "(I)I"⟩
abbrev cX7_pivots : ByteArray := prog_9_method_83_code
def yX7_pivots : MethodName := ⟨RX7, "pivots", "(I)I"⟩
abbrev cX7_colours : ByteArray := prog_9_method_84_code
def yX7_colours : MethodName := ⟨RX7, "colours", "()I"⟩
abbrev cX7_parties : ByteArray := prog_9_method_85_code
def yX7_parties : MethodName := ⟨RX7, "parties", "()I"⟩
abbrev cX7_ends : ByteArray := prog_9_method_86_code
def yX7_ends : MethodName := ⟨RX7, "ends", "(IIII)I"⟩
abbrev cX7_just : ByteArray := prog_9_method_87_code
def yX7_just : MethodName := ⟨RX7, "just", "(I)I"⟩
abbrev cX7_seen : ByteArray := prog_9_method_88_code
def yX7_seen : MethodName := ⟨RX7, "seen", "(III)I"⟩
abbrev cX7_forget : ByteArray := prog_9_method_89_code
def yX7_forget : MethodName := ⟨RX7, "forget", "()I"⟩
abbrev cX7_lacks : ByteArray := prog_9_method_90_code
def yX7_lacks : MethodName := ⟨RX7, "lacks", "(III)Z"⟩
abbrev cX7_isAsSeen : ByteArray := prog_9_method_91_code
def yX7_isAsSeen : MethodName := ⟨RX7, "isAsSeen", "(I)Z"⟩
abbrev cX7_guess : ByteArray := prog_9_method_92_code
def yX7_guess : MethodName := ⟨RX7, "guess", "()I"⟩
abbrev cX7_looks : ByteArray := prog_9_method_93_code
def yX7_looks : MethodName := ⟨RX7, "looks", "()I"⟩
abbrev cX7_lowest : ByteArray := prog_9_method_94_code
def yX7_lowest : MethodName := ⟨RX7, "lowest", "(I)I"⟩
abbrev cX7_highest : ByteArray := prog_9_method_95_code
def yX7_highest : MethodName := ⟨RX7, "highest", "(I)I"⟩
abbrev cX7_heard : ByteArray := prog_9_method_96_code
def yX7_heard : MethodName := ⟨RX7, "heard", "(II)I"⟩
abbrev cX7_denies : ByteArray := prog_9_method_97_code
def yX7_denies : MethodName := ⟨RX7, "denies", "()I"⟩
abbrev cX7_isSo : ByteArray := prog_9_method_98_code
def yX7_isSo : MethodName := ⟨RX7, "isSo", "(III)Z"⟩
abbrev cX7_fitting : ByteArray := prog_9_method_99_code
def yX7_fitting : MethodName := ⟨RX7, "fitting", "()I"⟩
abbrev cX7_fits : ByteArray := prog_9_method_100_code
def yX7_fits : MethodName := ⟨RX7, "fits", "()I"⟩
abbrev cX7_asks : ByteArray := prog_9_method_101_code
def yX7_asks : MethodName := ⟨RX7, "asks", "()I"⟩
abbrev cX7_odds : ByteArray := prog_9_method_102_code
def yX7_odds : MethodName := ⟨RX7, "odds", "(II)I"⟩
abbrev cX7_saw : ByteArray := prog_9_method_103_code
def yX7_saw : MethodName := ⟨RX7, "saw", "(III)I"⟩
abbrev cX7_clears : ByteArray := prog_9_method_104_code
def yX7_clears : MethodName := ⟨RX7, "clears", "()I"⟩
abbrev cX7_breaksBy : ByteArray := prog_9_method_105_code
def yX7_breaksBy : MethodName := ⟨RX7, "breaksBy", "(III)I"⟩
abbrev cX7_isLaw : ByteArray := prog_9_method_106_code
def yX7_isLaw : MethodName := ⟨RX7, "isLaw", "(I)Z"⟩
abbrev cX7_laws : ByteArray := prog_9_method_107_code
def yX7_laws : MethodName := ⟨RX7, "laws", "()I"⟩
abbrev cX7_tries : ByteArray := prog_9_method_108_code
def yX7_tries : MethodName := ⟨RX7, "tries", "()I"⟩
abbrev cX7_laysWorth : ByteArray := prog_9_method_109_code
def yX7_laysWorth : MethodName := ⟨RX7, "laysWorth", "(I)V"⟩
abbrev cX7_letting : ByteArray := prog_9_method_110_code
def yX7_letting : MethodName := ⟨RX7, "letting", "(I)I"⟩
abbrev cX7_law : ByteArray := prog_9_method_111_code
def yX7_law : MethodName := ⟨RX7, "law", "()I"⟩
abbrev cX7_gets : ByteArray := prog_9_method_112_code
def yX7_gets : MethodName := ⟨RX7, "gets", "(III)I"⟩
abbrev cX7_isRest : ByteArray := prog_9_method_113_code
def yX7_isRest : MethodName := ⟨RX7, "isRest", "(III)Z"⟩
abbrev cX7_wars : ByteArray := prog_9_method_114_code
def yX7_wars : MethodName := ⟨RX7, "wars", "(I)I"⟩
abbrev cX7_draws : ByteArray := prog_9_method_115_code
def yX7_draws : MethodName := ⟨RX7, "draws", "(I)I"⟩
abbrev cX7_years : ByteArray := prog_9_method_116_code
def yX7_years : MethodName := ⟨RX7, "years", "(II)I"⟩
abbrev cX7_keep : ByteArray := prog_9_method_117_code
def yX7_keep : MethodName := ⟨RX7, "keep", "(I)Z"⟩
abbrev cX7_again : ByteArray := prog_9_method_118_code
def yX7_again : MethodName := ⟨RX7, "again", "(I)Z"⟩
abbrev cX7_count : ByteArray := prog_9_method_119_code
def yX7_count : MethodName := ⟨RX7, "count", "(I)I"⟩
abbrev cX7_row : ByteArray := prog_9_method_120_code
def yX7_row : MethodName := ⟨RX7, "row", "(I)J"⟩
def RJx145de : String := "java/io/Serializable"
def TJx145de : u_T := fun k => match k with
  | _ => ("", "", "", false)
def tyJx145de : Nat → FieldType := fun k => match k with
  | _ => .int
abbrev wsJx145de0 : List Cond := u_ws RJx145de TJx145de 0
theorem nmJx145de : ∀ a, a < 0 → ∀ b, b < 0 → a ≠ b → (TJx145de a).2.1 ≠ (TJx145de b).2.1 := by decide +kernel
theorem tyJx145de_ok : ∀ k, k < 0 → parseFieldDescriptor (TJx145de k).2.2.1 = some (tyJx145de k) := by decide +kernel
def RJx9f9b0 : String := "java/lang/CharSequence"
def TJx9f9b0 : u_T := fun k => match k with
  | _ => ("", "", "", false)
def tyJx9f9b0 : Nat → FieldType := fun k => match k with
  | _ => .int
abbrev wsJx9f9b00 : List Cond := u_ws RJx9f9b0 TJx9f9b0 0
theorem nmJx9f9b0 : ∀ a, a < 0 → ∀ b, b < 0 → a ≠ b → (TJx9f9b0 a).2.1 ≠ (TJx9f9b0 b).2.1 := by decide +kernel
theorem tyJx9f9b0_ok : ∀ k, k < 0 → parseFieldDescriptor (TJx9f9b0 k).2.2.1 = some (tyJx9f9b0 k) := by decide +kernel
def RJxb160c : String := "java/lang/Comparable"
def TJxb160c : u_T := fun k => match k with
  | _ => ("", "", "", false)
def tyJxb160c : Nat → FieldType := fun k => match k with
  | _ => .int
abbrev wsJxb160c0 : List Cond := u_ws RJxb160c TJxb160c 0
theorem nmJxb160c : ∀ a, a < 0 → ∀ b, b < 0 → a ≠ b → (TJxb160c a).2.1 ≠ (TJxb160c b).2.1 := by decide +kernel
theorem tyJxb160c_ok : ∀ k, k < 0 → parseFieldDescriptor (TJxb160c k).2.2.1 = some (tyJxb160c k) := by decide +kernel
def RJ6 : String := "java/lang/Integer"
def TJ6 : u_T := fun k => match k with
  | _ => ("", "", "", false)
def tyJ6 : Nat → FieldType := fun k => match k with
  | _ => .int
abbrev wsJ60 : List Cond := u_ws RJ6 TJ6 0
theorem nmJ6 : ∀ a, a < 0 → ∀ b, b < 0 → a ≠ b → (TJ6 a).2.1 ≠ (TJ6 b).2.1 := by decide +kernel
theorem tyJ6_ok : ∀ k, k < 0 → parseFieldDescriptor (TJ6 k).2.2.1 = some (tyJ6 k) := by decide +kernel
abbrev cJ6_bitCount_0f7a4 : ByteArray := prog_14_method_49_code
def yJ6_bitCount_0f7a4 : MethodName := ⟨RJ6, "bitCount", "(I)I"⟩
def RJ13 : String := "java/lang/Long"
def TJ13 : u_T := fun k => match k with
  | _ => ("", "", "", false)
def tyJ13 : Nat → FieldType := fun k => match k with
  | _ => .int
abbrev wsJ130 : List Cond := u_ws RJ13 TJ13 0
theorem nmJ13 : ∀ a, a < 0 → ∀ b, b < 0 → a ≠ b → (TJ13 a).2.1 ≠ (TJ13 b).2.1 := by decide +kernel
theorem tyJ13_ok : ∀ k, k < 0 → parseFieldDescriptor (TJ13 k).2.2.1 = some (tyJ13 k) := by decide +kernel
abbrev cJ13_bitCount_95d88 : ByteArray := prog_15_method_50_code
def yJ13_bitCount_95d88 : MethodName := ⟨RJ13, "bitCount", "(J)I"⟩
def RJ9 : String := "java/lang/Math"
def TJ9 : u_T := fun k => match k with
  | _ => ("", "", "", false)
def tyJ9 : Nat → FieldType := fun k => match k with
  | _ => .int
abbrev wsJ90 : List Cond := u_ws RJ9 TJ9 0
theorem nmJ9 : ∀ a, a < 0 → ∀ b, b < 0 → a ≠ b → (TJ9 a).2.1 ≠ (TJ9 b).2.1 := by decide +kernel
theorem tyJ9_ok : ∀ k, k < 0 → parseFieldDescriptor (TJ9 k).2.2.1 = some (tyJ9 k) := by decide +kernel
abbrev cJ9_abs_0f7a4 : ByteArray := prog_16_method_59_code
def yJ9_abs_0f7a4 : MethodName := ⟨RJ9, "abs", "(I)I"⟩
abbrev cJ9_max_7cf53 : ByteArray := prog_16_method_65_code
def yJ9_max_7cf53 : MethodName := ⟨RJ9, "max", "(II)I"⟩
abbrev cJ9_min_7cf53 : ByteArray := prog_16_method_69_code
def yJ9_min_7cf53 : MethodName := ⟨RJ9, "min", "(II)I"⟩
def RJ0 : String := "java/lang/String"
def TJ0 : u_T := fun k => match k with
  | _ => ("", "", "", false)
def tyJ0 : Nat → FieldType := fun k => match k with
  | _ => .int
abbrev wsJ00 : List Cond := u_ws RJ0 TJ0 0
theorem nmJ0 : ∀ a, a < 0 → ∀ b, b < 0 → a ≠ b → (TJ0 a).2.1 ≠ (TJ0 b).2.1 := by decide +kernel
theorem tyJ0_ok : ∀ k, k < 0 → parseFieldDescriptor (TJ0 k).2.2.1 = some (tyJ0 k) := by decide +kernel
abbrev cJ0_length_8abf5 : ByteArray := prog_18_method_54_code
def yJ0_length_8abf5 : MethodName := ⟨RJ0, "length", "()I"⟩
abbrev cJ0_charAt_5068e : ByteArray := prog_18_method_56_code
def yJ0_charAt_5068e : MethodName := ⟨RJ0, "charAt", "(I)C"⟩
abbrev cJ0_coder_7d493 : ByteArray := prog_18_method_152_code
def yJ0_coder_7d493 : MethodName := ⟨RJ0, "coder", "()B"⟩
abbrev cJ0_isLatin1_aae02 : ByteArray := prog_18_method_154_code
def yJ0_isLatin1_aae02 : MethodName := ⟨RJ0, "isLatin1", "()Z"⟩
abbrev cJ0_checkIndex_df160 : ByteArray := prog_18_method_155_code
def yJ0_checkIndex_df160 : MethodName := ⟨RJ0, "checkIndex", "(II)V"⟩
def RJ1 : String := "java/lang/StringLatin1"
def TJ1 : u_T := fun k => match k with
  | _ => ("", "", "", false)
def tyJ1 : Nat → FieldType := fun k => match k with
  | _ => .int
abbrev wsJ10 : List Cond := u_ws RJ1 TJ1 0
theorem nmJ1 : ∀ a, a < 0 → ∀ b, b < 0 → a ≠ b → (TJ1 a).2.1 ≠ (TJ1 b).2.1 := by decide +kernel
theorem tyJ1_ok : ∀ k, k < 0 → parseFieldDescriptor (TJ1 k).2.2.1 = some (tyJ1 k) := by decide +kernel
abbrev cJ1_charAt_3b067 : ByteArray := prog_19_method_2_code
def yJ1_charAt_3b067 : MethodName := ⟨RJ1, "charAt", "([BI)C"⟩
def RJ2 : String := "java/lang/StringUTF16"
def TJ2 : u_T := fun k => match k with
  | _ => ("", "", "", false)
def tyJ2 : Nat → FieldType := fun k => match k with
  | _ => .int
abbrev wsJ20 : List Cond := u_ws RJ2 TJ2 0
theorem nmJ2 : ∀ a, a < 0 → ∀ b, b < 0 → a ≠ b → (TJ2 a).2.1 ≠ (TJ2 b).2.1 := by decide +kernel
theorem tyJ2_ok : ∀ k, k < 0 → parseFieldDescriptor (TJ2 k).2.2.1 = some (tyJ2 k) := by decide +kernel
abbrev cJ2_getChar_3b067 : ByteArray := prog_20_method_5_code
def yJ2_getChar_3b067 : MethodName := ⟨RJ2, "getChar", "([BI)C"⟩
abbrev cJ2_length_9d52b : ByteArray := prog_20_method_6_code
def yJ2_length_9d52b : MethodName := ⟨RJ2, "length", "([B)I"⟩
abbrev cJ2_charAt_3b067 : ByteArray := prog_20_method_83_code
def yJ2_charAt_3b067 : MethodName := ⟨RJ2, "charAt", "([BI)C"⟩
abbrev cJ2_checkIndex_2214a : ByteArray := prog_20_method_91_code
def yJ2_checkIndex_2214a : MethodName := ⟨RJ2, "checkIndex", "(I[B)V"⟩
def RJxfd54e : String := "java/lang/constant/Constable"
def TJxfd54e : u_T := fun k => match k with
  | _ => ("", "", "", false)
def tyJxfd54e : Nat → FieldType := fun k => match k with
  | _ => .int
abbrev wsJxfd54e0 : List Cond := u_ws RJxfd54e TJxfd54e 0
theorem nmJxfd54e : ∀ a, a < 0 → ∀ b, b < 0 → a ≠ b → (TJxfd54e a).2.1 ≠ (TJxfd54e b).2.1 := by decide +kernel
theorem tyJxfd54e_ok : ∀ k, k < 0 → parseFieldDescriptor (TJxfd54e k).2.2.1 = some (tyJxfd54e k) := by decide +kernel
def RJx3cf43 : String := "java/lang/constant/ConstantDesc"
def TJx3cf43 : u_T := fun k => match k with
  | _ => ("", "", "", false)
def tyJx3cf43 : Nat → FieldType := fun k => match k with
  | _ => .int
abbrev wsJx3cf430 : List Cond := u_ws RJx3cf43 TJx3cf43 0
theorem nmJx3cf43 : ∀ a, a < 0 → ∀ b, b < 0 → a ≠ b → (TJx3cf43 a).2.1 ≠ (TJx3cf43 b).2.1 := by decide +kernel
theorem tyJx3cf43_ok : ∀ k, k < 0 → parseFieldDescriptor (TJx3cf43 k).2.2.1 = some (tyJx3cf43 k) := by decide +kernel
def RJ3 : String := "jdk/internal/util/Preconditions"
def TJ3 : u_T := fun k => match k with
  | _ => ("", "", "", false)
def tyJ3 : Nat → FieldType := fun k => match k with
  | _ => .int
abbrev wsJ30 : List Cond := u_ws RJ3 TJ3 0
theorem nmJ3 : ∀ a, a < 0 → ∀ b, b < 0 → a ≠ b → (TJ3 a).2.1 ≠ (TJ3 b).2.1 := by decide +kernel
theorem tyJ3_ok : ∀ k, k < 0 → parseFieldDescriptor (TJ3 k).2.2.1 = some (tyJ3 k) := by decide +kernel
abbrev cJ3_checkIndex_8e157 : ByteArray := prog_25_method_11_code
def yJ3_checkIndex_8e157 : MethodName := ⟨RJ3, "checkIndex", "(IILjava/util/function/BiFunction;)I"⟩
def RL : String := "StreamersHeldLaw"
abbrev cL_streamer : ByteArray := method_3_code
def yL_streamer : MethodName := ⟨RL, "streamer", "(LStreamersHeld;II[J)I"⟩
abbrev cL_row : ByteArray := method_4_code
def yL_row : MethodName := ⟨RL, "row", "(LStreamersHeld;I[J)I"⟩
abbrev cL_law : ByteArray := code
def yL_law : MethodName := ⟨RL, "law", "([I)Z"⟩
abbrev vwCl : List vw_C := [(RX0, TX0, 5), (RX1, TX1, 5), (RX2, TX2, 2), (RX3, TX3, 9), (RX4, TX4, 13), (RX5, TX5, 2), (RX6, TX6, 14), (RX7, TX7, 48)]
end
section
/-! THE ABSTRACT MACHINE: methods over a memory of ints, whose cells stand at fixed places; a run's answer as a pure value. -/
abbrev av_M : Type := Nat → Nat → Int32
abbrev av_R : Type := Int32 × Int64 × av_M
/-- an instruction: pc, length, the instruction, five numbers, an int, a long, a switch's cases -/
abbrev av_I : Type := Nat × Nat × Instr × Nat × Nat × Nat × Nat × Nat × Int32 × Int64 × List (Int32 × Nat)
def av_u (h : av_M) (a k : Nat) (v : Int32) : av_M := fun b => if b = a then upd (h a) k v else h b
def av_lo (v : Int64) : Int32 := Int32.ofNat (v.toUInt64.toNat % 4294967296)
def av_hi (v : Int64) : Int32 := Int32.ofNat (v.toUInt64.toNat / 4294967296)
def av_jn (hi lo : Int32) : Int64 := Int64.ofNat (hi.toUInt32.toNat * 4294967296 + lo.toUInt32.toNat)
def av_nth : List (Nat × Nat × List Nat) → Nat → Nat × Nat × List Nat
  | [], _ => (99, 0, [])
  | q :: _, 0 => q
  | _ :: l, n + 1 => av_nth l n
def av_nn : List Nat → Nat → Nat
  | [], _ => 0
  | q :: _, 0 => q
  | _ :: l, n + 1 => av_nn l n
def av_gl : List Value → Nat → Value
  | [], _ => .null
  | q :: _, 0 => q
  | _ :: l, n + 1 => av_gl l n
def av_st : List Value → Nat → Value → List Value
  | [], _, _ => []
  | _ :: l, 0, v => v :: l
  | q :: l, n + 1, v => q :: av_st l n v
/-- a long whose second half is written over is gone -/
def av_kp (ls : List Value) (n : Nat) : List Value := match n with
  | 0 => ls
  | k + 1 => match av_gl ls k with
    | .long _ => av_st ls k .null
    | _ => ls
def av_s1 (ls : List Value) (n : Nat) (v : Value) : List Value := av_st (av_kp ls n) n v
def av_s2 (ls : List Value) (n : Nat) (v : Value) : List Value := av_st (av_st (av_kp ls n) n v) (n + 1) .null
def av_cat : List Value → Nat
  | [] => 0
  | v :: l => v.category + av_cat l
def av_at : List av_I → Nat → List av_I
  | [], _ => []
  | q :: l, pc => match Nat.beq q.1 pc with
    | true => q :: l
    | false => av_at l pc
def av_sw {β : Type} (J : Nat → Option β) (x : Int32) (d : Nat) : List (Int32 × Nat) → Option β
  | [] => J d
  | (c, t) :: r => if x = c then J t else av_sw J x d r
/-- arguments as locals: a long takes two -/
def av_in : List Value → List Value
  | [] => []
  | .long v :: l => .long v :: .null :: av_in l
  | v :: l => v :: av_in l
def av_pad : Nat → List Value → List Value
  | 0, _ => []
  | n + 1, [] => .null :: av_pad n []
  | n + 1, v :: l => v :: av_pad n l
def av_rev : List Value → List Value → List Value
  | [], r => r
  | v :: l, r => av_rev l (v :: r)
/-- n values off the stack: they (the deepest first), what is left -/
def av_pop : Nat → List Value → List Value → List Value × List Value
  | 0, as, st => (as, st)
  | _ + 1, as, [] => (as, [])
  | n + 1, as, v :: st => av_pop n (v :: as) st
def av_push (z : Nat) (r : av_R) (st : List Value) : List Value := match z with
  | 0 => st
  | 2 => .long r.2.1 :: st
  | _ => .int r.1 :: st
def av_max (x y : Int32) : Int32 := if x < y then y else x
def av_min (x y : Int32) : Int32 := if y < x then y else x
def av_abs (x : Int32) : Int32 := if 0 ≤ x then x else 0 - x
/-- the texts of the String constants -/
def av_txt : List (List Int32) := [[112, 103, 98, 121], [107, 115, 114, 112, 118, 99, 110], [60, 62, 61], [43, 45], [42, 47], [110, 100, 115, 112, 114, 109]]
def av_txl (a : Nat) : Nat := (av_txt.getD (a - 92) []).length
def av_txc (a k : Nat) : Int32 := (av_txt.getD (a - 92) []).getD k 0
/-- the cells: kind (a class's number; 8: ints, 9: longs, 10: booleans), length, a class's references (0: a number; r + 1: the cell r) -/
def av_shp : List (Nat × Nat × List Nat) := [(6, 0, [2, 4, 6, 13, 20, 24, 28, 31, 35, 39, 43, 44, 0, 0]), (5, 0, [3, 0]), (8, 80, []), (2, 0, [5, 0]), (9, 7, []), (4, 0, [7, 8, 9, 10, 11, 12, 0, 0, 0, 0, 0, 0, 0]), (8, 7, []), (8, 7, []), (8, 7, []), (8, 7, []), (8, 7, []), (8, 7, []), (4, 0, [14, 15, 16, 17, 18, 19, 0, 0, 0, 0, 0, 0, 0]), (8, 7, []), (8, 7, []), (8, 7, []), (8, 7, []), (8, 7, []), (8, 7, []), (3, 0, [21, 22, 23, 0, 0, 0, 0, 0, 0]), (8, 40, []), (8, 40, []), (8, 40, []), (3, 0, [25, 26, 27, 0, 0, 0, 0, 0, 0]), (8, 40, []), (8, 40, []), (8, 40, []), (1, 0, [29, 30, 0, 0, 0]), (8, 528, []), (8, 99, []), (0, 0, [32, 33, 34, 0, 0]), (8, 12, []), (8, 12, []), (8, 12, []), (0, 0, [36, 37, 38, 0, 0]), (8, 12, []), (8, 12, []), (8, 12, []), (0, 0, [40, 41, 42, 0, 0]), (8, 12, []), (8, 12, []), (8, 12, []), (8, 61, []), (8, 61, []), (7, 0, [0, 0, 46, 0, 0, 47, 48, 49, 50, 51, 0, 0, 0, 0, 52, 0, 53, 54, 0, 0, 55, 56, 0, 57, 58, 59, 60, 0, 0, 61, 62, 63, 64, 0, 65, 66, 0, 67, 68, 69, 70, 71, 72, 73, 0, 74, 75, 76]), (9, 24, []), (8, 7, []), (8, 7, []), (8, 33, []), (8, 33, []), (8, 80, []), (8, 35, []), (8, 80, []), (8, 80, []), (8, 80, []), (8, 7, []), (8, 528, []), (8, 60, []), (8, 60, []), (8, 60, []), (8, 10, []), (8, 10, []), (8, 10, []), (10, 60, []), (8, 12, []), (8, 12, []), (8, 10, []), (8, 10, []), (8, 10, []), (10, 40, []), (8, 61, []), (10, 128, []), (8, 80, []), (10, 3, []), (8, 3, []), (8, 99, []), (9, 1, []), (99, 0, []), (99, 0, []), (99, 0, []), (99, 0, []), (99, 0, []), (99, 0, []), (99, 0, []), (99, 0, []), (99, 0, []), (99, 0, []), (99, 0, []), (99, 0, []), (99, 0, []), (11, 0, []), (99, 0, []), (12, 0, []), (12, 0, []), (12, 0, []), (12, 0, []), (12, 0, []), (12, 0, [])]
/-- how many there are -/
def av_N : Nat := 77
def av_kd (a : Nat) : Nat := (av_nth av_shp a).1
def av_sz (a : Nat) : Nat := (av_nth av_shp a).2.1
def av_rf (a k : Nat) : Nat := av_nn (av_nth av_shp a).2.2 k

/-- one instruction, told to what comes behind: N goes on at the next one, J at another place, ret ends; none: stuck -/
def av_stp {β : Type} (E : Nat → List Value → av_M → Option av_R) (ret : av_R → Option β) (N : List Value → List Value → av_M → Option β) (J : Nat → List Value → List Value → av_M → Option β) (q : av_I) (ls st : List Value) (h : av_M) : Option β :=
  match q with
  | (_, _, i, x, y, z, _, o, v, u, sw) =>
  match i with
  | .iload n => match av_gl ls n with
    | .int a => N ls (.int a :: st) h
    | _ => none
  | .iload_n n => match av_gl ls n.val with
    | .int a => N ls (.int a :: st) h
    | _ => none
  | .lload n => match av_gl ls n with
    | .long a => N ls (.long a :: st) h
    | _ => none
  | .lload_n n => match av_gl ls n.val with
    | .long a => N ls (.long a :: st) h
    | _ => none
  | .aload n => match av_gl ls n with
    | .ref a => N ls (.ref a :: st) h
    | _ => none
  | .aload_n n => match av_gl ls n.val with
    | .ref a => N ls (.ref a :: st) h
    | _ => none
  | .istore n => match st with
    | .int a :: r => match Nat.blt n ls.length with
      | true => N (av_s1 ls n (.int a)) r h
      | false => none
    | _ => none
  | .istore_n n => match st with
    | .int a :: r => match Nat.blt n.val ls.length with
      | true => N (av_s1 ls n.val (.int a)) r h
      | false => none
    | _ => none
  | .lstore n => match st with
    | .long a :: r => match Nat.blt (n + 1) ls.length with
      | true => N (av_s2 ls n (.long a)) r h
      | false => none
    | _ => none
  | .lstore_n n => match st with
    | .long a :: r => match Nat.blt (n.val + 1) ls.length with
      | true => N (av_s2 ls n.val (.long a)) r h
      | false => none
    | _ => none
  | .iinc n _ => match av_gl ls n with
    | .int a => match Nat.blt n ls.length with
      | true => N (av_s1 ls n (.int (a + v))) st h
      | false => none
    | _ => none
  | .iconst _ => N ls (.int v :: st) h
  | .bipush _ => N ls (.int v :: st) h
  | .sipush _ => N ls (.int v :: st) h
  | .ldc _ => match z with
    | 0 => N ls (.int v :: st) h
    | _ => N ls (.ref x :: st) h
  | .ldc_w _ => N ls (.int v :: st) h
  | .ldc2_w _ => N ls (.long u :: st) h
  | .lconst _ => N ls (.long u :: st) h
  | .iadd => match st with
    | .int b :: .int a :: r => N ls (.int (a + b) :: r) h
    | _ => none
  | .isub => match st with
    | .int b :: .int a :: r => N ls (.int (a - b) :: r) h
    | _ => none
  | .imul => match st with
    | .int b :: .int a :: r => N ls (.int (a * b) :: r) h
    | _ => none
  | .iand => match st with
    | .int b :: .int a :: r => N ls (.int (a &&& b) :: r) h
    | _ => none
  | .ior => match st with
    | .int b :: .int a :: r => N ls (.int (a ||| b) :: r) h
    | _ => none
  | .ixor => match st with
    | .int b :: .int a :: r => N ls (.int (a ^^^ b) :: r) h
    | _ => none
  | .ineg => match st with
    | .int a :: r => N ls (.int (-a) :: r) h
    | _ => none
  | .ishl => match st with
    | .int b :: .int a :: r => N ls (.int (a <<< (b &&& 31)) :: r) h
    | _ => none
  | .ishr => match st with
    | .int b :: .int a :: r => N ls (.int (a >>> (b &&& 31)) :: r) h
    | _ => none
  | .iushr => match st with
    | .int b :: .int a :: r => N ls (.int ((a.toUInt32 >>> (b.toUInt32 &&& Int32.toUInt32 31)).toInt32) :: r) h
    | _ => none
  | .idiv => match st with
    | .int b :: .int a :: r => if b = 0 then none else N ls (.int (a / b) :: r) h
    | _ => none
  | .irem => match st with
    | .int b :: .int a :: r => if b = 0 then none else N ls (.int (a - a / b * b) :: r) h
    | _ => none
  | .ladd => match st with
    | .long b :: .long a :: r => N ls (.long (a + b) :: r) h
    | _ => none
  | .lsub => match st with
    | .long b :: .long a :: r => N ls (.long (a - b) :: r) h
    | _ => none
  | .lmul => match st with
    | .long b :: .long a :: r => N ls (.long (a * b) :: r) h
    | _ => none
  | .land => match st with
    | .long b :: .long a :: r => N ls (.long (a &&& b) :: r) h
    | _ => none
  | .lor => match st with
    | .long b :: .long a :: r => N ls (.long (a ||| b) :: r) h
    | _ => none
  | .ldiv => match st with
    | .long b :: .long a :: r => if b = 0 then none else N ls (.long (a / b) :: r) h
    | _ => none
  | .lrem => match st with
    | .long b :: .long a :: r => if b = 0 then none else N ls (.long (a - a / b * b) :: r) h
    | _ => none
  | .lshl => match st with
    | .int b :: .long a :: r => N ls (.long (a <<< (b.toInt64 &&& 63)) :: r) h
    | _ => none
  | .lushr => match st with
    | .int b :: .long a :: r => N ls (.long ((a.toUInt64 >>> (b.toInt64.toUInt64 &&& Int64.toUInt64 63)).toInt64) :: r) h
    | _ => none
  | .i2l => match st with
    | .int a :: r => N ls (.long a.toInt64 :: r) h
    | _ => none
  | .l2i => match st with
    | .long a :: r => N ls (.int a.toInt32 :: r) h
    | _ => none
  | .i2b => match st with
    | .int a :: r => N ls (.int a.toInt8.toInt32 :: r) h
    | _ => none
  | .i2s => match st with
    | .int a :: r => N ls (.int a.toInt16.toInt32 :: r) h
    | _ => none
  | .lcmp => match st with
    | .long b :: .long a :: r => N ls (.int (lg_cmp a b) :: r) h
    | _ => none
  | .dup => match st with
    | a :: r => match Nat.beq a.category 1 with
      | true => N ls (a :: a :: r) h
      | false => none
    | _ => none
  | .dup2 => match st with
    | a :: b :: r => match Nat.beq (a.category + b.category) 2 with
      | true => N ls (a :: b :: a :: b :: r) h
      | false => none
    | _ => none
  | .pop => match st with
    | a :: r => match Nat.beq a.category 1 with
      | true => N ls r h
      | false => none
    | _ => none
  | .ifCond .eq _ => match st with
    | .int a :: r => if a = 0 then J x ls r h else N ls r h
    | _ => none
  | .ifCond .ne _ => match st with
    | .int a :: r => if a = 0 then N ls r h else J x ls r h
    | _ => none
  | .ifCond .lt _ => match st with
    | .int a :: r => if a < 0 then J x ls r h else N ls r h
    | _ => none
  | .ifCond .ge _ => match st with
    | .int a :: r => if 0 ≤ a then J x ls r h else N ls r h
    | _ => none
  | .ifCond .gt _ => match st with
    | .int a :: r => if 0 < a then J x ls r h else N ls r h
    | _ => none
  | .ifCond .le _ => match st with
    | .int a :: r => if a ≤ 0 then J x ls r h else N ls r h
    | _ => none
  | .if_icmp .eq _ => match st with
    | .int b :: .int a :: r => if a = b then J x ls r h else N ls r h
    | _ => none
  | .if_icmp .ne _ => match st with
    | .int b :: .int a :: r => if a = b then N ls r h else J x ls r h
    | _ => none
  | .if_icmp .lt _ => match st with
    | .int b :: .int a :: r => if a < b then J x ls r h else N ls r h
    | _ => none
  | .if_icmp .ge _ => match st with
    | .int b :: .int a :: r => if b ≤ a then J x ls r h else N ls r h
    | _ => none
  | .if_icmp .gt _ => match st with
    | .int b :: .int a :: r => if b < a then J x ls r h else N ls r h
    | _ => none
  | .if_icmp .le _ => match st with
    | .int b :: .int a :: r => if a ≤ b then J x ls r h else N ls r h
    | _ => none
  | .goto _ => J x ls st h
  | .tableswitch _ _ _ _ => match st with
    | .int a :: r => av_sw (fun t => J t ls r h) a x sw
    | _ => none
  | .lookupswitch _ _ => match st with
    | .int a :: r => av_sw (fun t => J t ls r h) a x sw
    | _ => none
  | .getfield _ => match st with
    | .ref a :: r => match Nat.beq (av_kd a) x with
      | true => match av_rf a y with
        | 0 => N ls (.int (h a y) :: r) h
        | c + 1 => N ls (.ref c :: r) h
      | false => none
    | _ => none
  | .putfield _ => match st with
    | .int b :: .ref a :: r => match Nat.beq (av_kd a) x with
      | true => match av_rf a y with
        | 0 => match z with
          | 0 => N ls r (av_u h a y b)
          | _ => if b = 0 ∨ b = 1 then N ls r (av_u h a y b) else none
        | _ => none
      | false => none
    | _ => none
  | .iaload => match st with
    | .int j :: .ref a :: r => match av_kd a with
      | 8 => if j < 0 ∨ av_sz a ≤ j.toNatClampNeg then none else N ls (.int (h a j.toNatClampNeg) :: r) h
      | 11 => if j < 0 ∨ h (a + 1) 0 ≤ j then none else N ls (.int (h a j.toNatClampNeg) :: r) h
      | _ => none
    | _ => none
  | .iastore => match st with
    | .int b :: .int j :: .ref a :: r => match av_kd a with
      | 8 => if j < 0 ∨ av_sz a ≤ j.toNatClampNeg then none else N ls r (av_u h a j.toNatClampNeg b)
      | _ => none
    | _ => none
  | .baload => match st with
    | .int j :: .ref a :: r => match av_kd a with
      | 10 => if j < 0 ∨ av_sz a ≤ j.toNatClampNeg then none else N ls (.int (h a j.toNatClampNeg) :: r) h
      | _ => none
    | _ => none
  | .bastore => match st with
    | .int b :: .int j :: .ref a :: r => match av_kd a with
      | 10 => if j < 0 ∨ av_sz a ≤ j.toNatClampNeg then none else N ls r (av_u h a j.toNatClampNeg (b &&& 1))
      | _ => none
    | _ => none
  | .laload => match st with
    | .int j :: .ref a :: r => match av_kd a with
      | 9 => if j < 0 ∨ av_sz a ≤ j.toNatClampNeg then none else N ls (.long (av_jn (h a (2 * j.toNatClampNeg)) (h a (2 * j.toNatClampNeg + 1))) :: r) h
      | _ => none
    | _ => none
  | .lastore => match st with
    | .long b :: .int j :: .ref a :: r => match av_kd a with
      | 9 => if j < 0 ∨ av_sz a ≤ j.toNatClampNeg then none else N ls r (av_u (av_u h a (2 * j.toNatClampNeg) (av_hi b)) a (2 * j.toNatClampNeg + 1) (av_lo b))
      | _ => none
    | _ => none
  | .arraylength => match st with
    | .ref a :: r => match av_kd a with
      | 8 => N ls (.int (nI (av_sz a)) :: r) h
      | 10 => N ls (.int (nI (av_sz a)) :: r) h
      | 11 => N ls (.int (h (a + 1) 0) :: r) h
      | _ => none
    | _ => none
  | .invokestatic _ => match z with
    | 10 => match st with
      | .int b :: .int a :: r => match Nat.ble (av_cat r) 8 with
        | true => N ls (.int (av_max a b) :: r) h
        | false => none
      | _ => none
    | 11 => match st with
      | .int b :: .int a :: r => match Nat.ble (av_cat r) 8 with
        | true => N ls (.int (av_min a b) :: r) h
        | false => none
      | _ => none
    | 12 => match st with
      | .int a :: r => match Nat.ble (av_cat r) 8 with
        | true => N ls (.int (av_abs a) :: r) h
        | false => none
      | _ => none
    | 20 => none
    | z => match av_pop y [] st with
      | (as, r) => match Nat.ble (av_cat r) 8 && Nat.beq as.length y with
        | true => (E x as h).bind fun b => N ls (av_push z b r) b.2.2
        | false => none
  | .invokevirtual _ => match z with
    | 13 => match st with
      | .ref a :: r => match Nat.ble (av_cat r) 8 && Nat.beq (av_kd a) 12 with
        | true => N ls (.int (nI (av_txl a)) :: r) h
        | false => none
      | _ => none
    | 14 => match st with
      | .int j :: .ref a :: r => match Nat.ble (av_cat r) 8 && Nat.beq (av_kd a) 12 with
        | true => if j < 0 ∨ av_txl a ≤ j.toNatClampNeg then none else N ls (.int (av_txc a j.toNatClampNeg) :: r) h
        | false => none
      | _ => none
    | z => match av_pop y [] st with
      | (as, .ref a :: r) => match Nat.ble (av_cat r) 8 && Nat.beq as.length y && Nat.beq (av_kd a) o with
        | true => (E x (.ref a :: as) h).bind fun b => N ls (av_push z b r) b.2.2
        | false => none
      | _ => none
  | .ireturn => match st with
    | [.int a] => match x with
      | 0 => ret (a, 0, h)
      | _ => ret (a &&& 1, 0, h)
    | _ => none
  | .lreturn => match st with
    | [.long a] => ret (0, a, h)
    | _ => none
  | .return_ => match st with
    | [] => ret (0, 0, h)
    | _ => none
  | _ => none
end
section
/-! RUNS: what an abstract method answers, as a value; segments of a method, evaluated. -/
abbrev av_Z : Type := av_R ⊕ (List Value × List Value × av_M) ⊕ (Nat × List Value × List Value × av_M)
def av_el {β : Type} (ret : av_R → Option β) (N : List Value → List Value → av_M → Option β) (J : Nat → List Value → List Value → av_M → Option β) : av_Z → Option β
  | .inl r => ret r
  | .inr (.inl (ls, st, h)) => N ls st h
  | .inr (.inr (pc, ls, st, h)) => J pc ls st h
def av_ini (E : Nat → List Value → av_M → Option av_R) (q : av_I) (ls st : List Value) (h : av_M) : Option av_Z :=
  av_stp E (fun r => some (.inl r)) (fun ls st h => some (.inr (.inl (ls, st, h)))) (fun pc ls st h => some (.inr (.inr (pc, ls, st, h)))) q ls st h
theorem av_sw_nat {β : Type} (ret : av_R → Option β) (N : List Value → List Value → av_M → Option β) (J : Nat → List Value → List Value → av_M → Option β) (ls st : List Value) (h : av_M) (x : Int32) (d : Nat) (sw : List (Int32 × Nat)) :
    av_sw (fun t => J t ls st h) x d sw = (av_sw (fun t => (some (.inr (.inr (t, ls, st, h))) : Option av_Z)) x d sw).bind (av_el ret N J) := by
  induction sw with
  | nil => rfl
  | cons c r ih =>
    obtain ⟨c, t⟩ := c
    unfold av_sw
    split
    · rfl
    · exact ih
set_option maxHeartbeats 4000000 in
theorem av_nat {β : Type} (E : Nat → List Value → av_M → Option av_R) (ret : av_R → Option β) (N : List Value → List Value → av_M → Option β) (J : Nat → List Value → List Value → av_M → Option β) (q : av_I) (ls st : List Value) (h : av_M) :
    av_stp E ret N J q ls st h = (av_ini E q ls st h).bind (av_el ret N J) := by
  obtain ⟨pc, len, i, x, y, z, w, o, v, u, sw⟩ := q
  unfold av_ini av_stp
  dsimp only
  cases i <;> first
    | rfl
    | ((try dsimp only); (repeat' split) <;> first | rfl | exact av_sw_nat ret N J _ _ _ _ _ _ | (cases E _ _ _ <;> rfl) | (simp_all; done))
def av_run (E : Nat → List Value → av_M → Option av_R) (T : List av_I) : Nat → Nat → List Value → List Value → av_M → Option av_R
  | 0, _, _, _, _ => none
  | n + 1, pc, ls, st, h => match av_at T pc with
    | [] => none
    | q :: _ => av_stp E some (fun ls st h => av_run E T n (q.1 + q.2.1) ls st h) (fun pc ls st h => av_run E T n pc ls st h) q ls st h
theorem av_run_mono {E : Nat → List Value → av_M → Option av_R} {T : List av_I} {r : av_R} : ∀ (n pc : Nat) (ls st : List Value) (h : av_M), av_run E T n pc ls st h = some r → av_run E T (n + 1) pc ls st h = some r := by
  intro n
  induction n with
  | zero => intro pc ls st h hr; cases hr
  | succ n ih =>
    intro pc ls st h hr
    unfold av_run at hr ⊢
    cases hq : av_at T pc with
    | nil => rw [hq] at hr; cases hr
    | cons q tl =>
      rw [hq] at hr
      dsimp only at hr ⊢
      rw [av_nat] at hr ⊢
      cases hz : av_ini E q ls st h with
      | none => rw [hz] at hr; cases hr
      | some z =>
        rw [hz] at hr
        rcases z with r1 | ⟨ls1, st1, h1⟩ | ⟨pc1, ls1, st1, h1⟩
        · exact hr
        · exact ih _ _ _ _ hr
        · exact ih _ _ _ _ hr
theorem av_run_le {E : Nat → List Value → av_M → Option av_R} {T : List av_I} {r : av_R} {n m pc : Nat} {ls st : List Value} {h : av_M} (hr : av_run E T n pc ls st h = some r) (hm : n ≤ m) : av_run E T m pc ls st h = some r := by
  induction hm with
  | refl => exact hr
  | step _ ih => exact av_run_mono _ _ _ _ _ ih
/-- the answer, if there is one -/
noncomputable def av_XP (E : Nat → List Value → av_M → Option av_R) (T : List av_I) (pc : Nat) (ls st : List Value) (h : av_M) : Option av_R :=
  @dite _ (∃ (r : av_R) (n : Nat), av_run E T n pc ls st h = some r) (Classical.propDecidable _) (fun hx => some hx.choose) (fun _ => none)
theorem av_XP_iff {E : Nat → List Value → av_M → Option av_R} {T : List av_I} {pc : Nat} {ls st : List Value} {h : av_M} {r : av_R} : av_XP E T pc ls st h = some r ↔ ∃ n, av_run E T n pc ls st h = some r := by
  unfold av_XP
  by_cases hx : ∃ (r : av_R) (n : Nat), av_run E T n pc ls st h = some r
  · rw [dif_pos hx]
    obtain ⟨n, hn⟩ := hx.choose_spec
    constructor
    · intro e
      cases e
      exact ⟨n, hn⟩
    · rintro ⟨m, hm⟩
      have h1 := av_run_le hn (Nat.le_max_left n m)
      have h2 := av_run_le hm (Nat.le_max_right n m)
      rw [← h2, h1]
  · rw [dif_neg hx]
    constructor
    · intro e; cases e
    · rintro ⟨m, hm⟩; exact absurd ⟨r, m, hm⟩ hx
theorem av_XP_step {E : Nat → List Value → av_M → Option av_R} {T : List av_I} {pc : Nat} {ls st : List Value} {h : av_M} {q : av_I} {tl : List av_I} (hq : av_at T pc = q :: tl) :
    av_XP E T pc ls st h = av_stp E some (fun ls st h => av_XP E T (q.1 + q.2.1) ls st h) (fun pc ls st h => av_XP E T pc ls st h) q ls st h := by
  rw [av_nat]
  have key : ∀ (n : Nat), av_run E T (n + 1) pc ls st h = (av_ini E q ls st h).bind (av_el some (fun ls st h => av_run E T n (q.1 + q.2.1) ls st h) (fun pc ls st h => av_run E T n pc ls st h)) := by
    intro n
    rw [← av_nat]
    show (match av_at T pc with
      | [] => none
      | q :: _ => av_stp E some (fun ls st h => av_run E T n (q.1 + q.2.1) ls st h) (fun pc ls st h => av_run E T n pc ls st h) q ls st h) = _
    rw [hq]
  have succ : ∀ (r : av_R) (m : Nat), av_run E T m pc ls st h = some r → ∃ n, av_run E T (n + 1) pc ls st h = some r := fun r m hm => ⟨m, av_run_mono _ _ _ _ _ hm⟩
  cases hz : av_ini E q ls st h with
  | none =>
    apply Option.ext
    intro r
    rw [av_XP_iff]
    constructor
    · rintro ⟨m, hm⟩
      obtain ⟨n, hn⟩ := succ r m hm
      rw [key, hz] at hn
      cases hn
    · intro e; cases e
  | some z =>
    rcases z with r1 | ⟨ls1, st1, h1⟩ | ⟨pc1, ls1, st1, h1⟩
    · show _ = some r1
      rw [av_XP_iff]
      exact ⟨1, by rw [key 0, hz]; rfl⟩
    · show _ = av_XP E T (q.1 + q.2.1) ls1 st1 h1
      apply Option.ext
      intro r
      rw [av_XP_iff, av_XP_iff]
      constructor
      · rintro ⟨m, hm⟩
        obtain ⟨n, hn⟩ := succ r m hm
        rw [key, hz] at hn
        exact ⟨n, hn⟩
      · rintro ⟨m, hm⟩
        exact ⟨m + 1, by rw [key, hz]; exact hm⟩
    · show _ = av_XP E T pc1 ls1 st1 h1
      apply Option.ext
      intro r
      rw [av_XP_iff, av_XP_iff]
      constructor
      · rintro ⟨m, hm⟩
        obtain ⟨n, hn⟩ := succ r m hm
        rw [key, hz] at hn
        exact ⟨n, hn⟩
      · rintro ⟨m, hm⟩
        exact ⟨m + 1, by rw [key, hz]; exact hm⟩
theorem av_XP_none {E : Nat → List Value → av_M → Option av_R} {T : List av_I} {pc : Nat} {ls st : List Value} {h : av_M} (hq : av_at T pc = []) : av_XP E T pc ls st h = none := by
  apply Option.ext
  intro r
  rw [av_XP_iff]
  constructor
  · rintro ⟨m, hm⟩
    cases m with
    | zero => cases hm
    | succ m => unfold av_run at hm; rw [hq] at hm; cases hm
  · intro e; cases e
theorem av_bf {a b : Nat} (h : a ≠ b) : Nat.beq a b = false := by
  cases hb : Nat.beq a b with
  | false => rfl
  | true => exact absurd (Nat.eq_of_beq_eq_true hb) h
theorem av_at_mem : ∀ (T : List av_I) (pc : Nat), ∀ x ∈ av_at T pc, x ∈ T := by
  intro T
  induction T with
  | nil => intro pc x hx; cases hx
  | cons t T ih =>
    intro pc x hx
    unfold av_at at hx
    split at hx
    · exact hx
    · exact List.mem_cons_of_mem _ (ih pc x hx)
/-- the rows of a method stand one behind the other -/
def av_wf : List av_I → Bool
  | [] => true
  | q :: l => Nat.blt q.1 (q.1 + q.2.1) && (match l with
    | [] => true
    | q' :: _ => Nat.beq q'.1 (q.1 + q.2.1)) && av_wf l
theorem av_wf_tl {q : av_I} {T : List av_I} (h : av_wf (q :: T) = true) : av_wf T = true := by
  simp only [av_wf, Bool.and_eq_true] at h
  exact h.2
theorem av_wf_h {q q' : av_I} {T : List av_I} (h : av_wf (q :: q' :: T) = true) : q'.1 = q.1 + q.2.1 ∧ q.1 < q'.1 := by
  simp only [av_wf, Bool.and_eq_true] at h
  have h1 : q'.1 = q.1 + q.2.1 := Nat.eq_of_beq_eq_true h.1.2
  have h2 : q.1 < q.1 + q.2.1 := by simpa using h.1.1
  exact ⟨h1, by omega⟩
theorem av_wf_lt : ∀ (T : List av_I) (q : av_I), av_wf (q :: T) = true → ∀ x ∈ T, q.1 < x.1 := by
  intro T
  induction T with
  | nil => intro q _ x hx; cases hx
  | cons t T ih =>
    intro q hw x hx
    have h1 := (av_wf_h hw).2
    rcases List.mem_cons.mp hx with rfl | hx
    · exact h1
    · exact Nat.lt_trans h1 (ih t (av_wf_tl hw) x hx)
theorem av_at_next : ∀ (T : List av_I) (pc : Nat) (q q' : av_I) (l : List av_I), av_wf T = true → av_at T pc = q :: q' :: l → av_at T q'.1 = q' :: l ∧ q'.1 = q.1 + q.2.1 := by
  intro T
  induction T with
  | nil => intro pc q q' l _ h; cases h
  | cons t T ih =>
    intro pc q q' l hw h
    unfold av_at at h ⊢
    split at h
    · injection h with e1 e2
      subst e1 e2
      obtain ⟨h2, h1⟩ := av_wf_h hw
      refine ⟨?_, h2⟩
      rw [av_bf (by omega)]
      show av_at (q' :: l) q'.1 = _
      unfold av_at
      rw [Nat.beq_refl]
    · obtain ⟨h3, h4⟩ := ih pc q q' l (av_wf_tl hw) h
      have hm : q' ∈ T := av_at_mem T pc q' (by rw [h]; exact List.mem_cons_of_mem _ List.mem_cons_self)
      have h5 := av_wf_lt T t hw q' hm
      rw [av_bf (by omega)]
      exact ⟨h3, h4⟩
theorem av_at_last : ∀ (T : List av_I) (pc : Nat) (q : av_I), av_wf T = true → av_at T pc = [q] → ∀ pc', q.1 < pc' → av_at T pc' = [] := by
  intro T
  induction T with
  | nil => intro pc q _ _ pc' _; rfl
  | cons t T ih =>
    intro pc q hw h pc' hlt
    unfold av_at at h ⊢
    split at h
    · injection h with e1 e2
      subst e1 e2
      rw [av_bf (by omega)]
      rfl
    · have hm : q ∈ T := av_at_mem T pc q (by rw [h]; exact List.mem_cons_self)
      have h5 := av_wf_lt T t hw q hm
      rw [av_bf (by omega)]
      exact ih pc q (av_wf_tl hw) h pc' hlt
theorem av_at_wf : ∀ (T : List av_I) (pc : Nat), av_wf T = true → av_wf (av_at T pc) = true := by
  intro T
  induction T with
  | nil => intro pc h; exact h
  | cons t T ih =>
    intro pc h
    unfold av_at
    split
    · exact h
    · exact ih pc (av_wf_tl h)
theorem av_at_hd : ∀ (T : List av_I) (pc : Nat) (q : av_I) (l : List av_I), av_at T pc = q :: l → q.1 = pc := by
  intro T
  induction T with
  | nil => intro pc q l h; cases h
  | cons t T ih =>
    intro pc q l h
    unfold av_at at h
    split at h
    · rename_i hb
      injection h with e1 e2
      subst e1
      exact Nat.eq_of_beq_eq_true hb
    · exact ih pc q l h
def av_mem : List Nat → Nat → Bool
  | [], _ => false
  | a :: l, b => match Nat.beq a b with
    | true => true
    | false => av_mem l b
/-- a segment: from a row on till one of the stops, or the end; K says what comes there -/
def av_seg {β : Type} (E : Nat → List Value → av_M → Option av_R) (ret : av_R → Option β) (K : Nat → List Value → List Value → av_M → Option β) (T : List av_I) (S : List Nat) : Nat → List av_I → List Value → List Value → av_M → Option β
  | 0, [], _, _, _ => none
  | 0, q :: _, ls, st, h => K q.1 ls st h
  | _ + 1, [], _, _, _ => none
  | n + 1, q :: tl, ls, st, h => av_stp E ret
      (fun ls st h => match tl with
        | [] => none
        | q' :: _ => match av_mem S q'.1 with
          | true => K q'.1 ls st h
          | false => av_seg E ret K T S n tl ls st h)
      (fun pc ls st h => match av_mem S pc with
        | true => K pc ls st h
        | false => av_seg E ret K T S n (av_at T pc) ls st h) q ls st h
theorem av_seg_XP {E : Nat → List Value → av_M → Option av_R} {T : List av_I} (S : List Nat) (hw : av_wf T = true) : ∀ (n : Nat) (q : av_I) (tl : List av_I) (ls st : List Value) (h : av_M), av_at T q.1 = q :: tl → av_seg E some (av_XP E T) T S n (q :: tl) ls st h = av_XP E T q.1 ls st h := by
  intro n
  induction n with
  | zero => intro q tl ls st h _; rfl
  | succ n ih =>
    intro q tl ls st h hq
    rw [av_XP_step hq]
    show av_stp E some _ _ q ls st h = _
    congr 1
    · funext ls st h
      cases tl with
      | nil =>
        refine (av_XP_none ?_).symm
        have h6 := av_at_wf T q.1 hw
        rw [hq] at h6
        simp only [av_wf, Bool.and_eq_true] at h6
        have h7 : q.1 < q.1 + q.2.1 := by simpa using h6.1.1
        exact av_at_last T q.1 q hw hq _ h7
      | cons q' l =>
        obtain ⟨h1, h2⟩ := av_at_next T q.1 q q' l hw hq
        rw [← h2]
        dsimp only
        split
        · rfl
        · exact ih q' l ls st h h1
    · funext pc ls st h
      split
      · rfl
      · cases hp : av_at T pc with
        | nil =>
          rw [av_XP_none hp]
          cases n <;> rfl
        | cons q2 tl2 =>
          have h1 := av_at_hd T pc q2 tl2 hp
          subst h1
          exact ih q2 tl2 ls st h hp
/-- a method: its rows, its number of locals -/
abbrev av_MT : Type := List av_I × Nat
noncomputable def av_X (tab : Nat → av_MT) : Nat → Nat → List Value → av_M → Option av_R
  | 0, _, _, _ => none
  | d + 1, k, as, h => av_XP (av_X tab d) (tab k).1 0 (av_pad (tab k).2 (av_in as)) [] h
end
