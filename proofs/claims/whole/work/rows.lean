section
-- ===== PART A: goes FIRST, ahead of the names: the tables' words, and 'selects' of the private methods out of them =====
/-- a private method of a class that the tables say can be made, by its rows of tables_1 -/
def lw_okq (q : MethodName × Nat) : Prop := (q.1.cls ≠ "java/lang/invoke/MethodHandle" ∧ q.1.cls ≠ "java/lang/invoke/VarHandle") ∧ Cond.instantiable q.1.cls q.2 ∈ tables_1 ∧ Cond.privateMethod q.1 ∈ tables_1 ∧ Cond.instanceMethod q.1 ∈ tables_1
theorem lw_p0 : lw_okq (⟨"StreamersHeld", "badLineSign", "()I"⟩, 14) := ⟨⟨by decide +kernel, by decide +kernel⟩, List.mem_of_getElem? (i := 21) (by decide +kernel), List.mem_of_getElem? (i := 271) (by decide +kernel), List.mem_of_getElem? (i := 272) (by decide +kernel)⟩
theorem lw_p1 : lw_okq (⟨"StreamersHeld", "fitsLine", "(I)Z"⟩, 14) := ⟨⟨by decide +kernel, by decide +kernel⟩, List.mem_of_getElem? (i := 21) (by decide +kernel), List.mem_of_getElem? (i := 278) (by decide +kernel), List.mem_of_getElem? (i := 279) (by decide +kernel)⟩
theorem lw_p2 : lw_okq (⟨"StreamersHeld", "addLines", "()V"⟩, 14) := ⟨⟨by decide +kernel, by decide +kernel⟩, List.mem_of_getElem? (i := 21) (by decide +kernel), List.mem_of_getElem? (i := 294) (by decide +kernel), List.mem_of_getElem? (i := 295) (by decide +kernel)⟩
theorem lw_p3 : lw_okq (⟨"StreamersHeld$Rule", "takeThing", "(I)Z"⟩, 9) := ⟨⟨by decide +kernel, by decide +kernel⟩, List.mem_of_getElem? (i := 125) (by decide +kernel), List.mem_of_getElem? (i := 314) (by decide +kernel), List.mem_of_getElem? (i := 315) (by decide +kernel)⟩
theorem lw_p4 : lw_okq (⟨"StreamersHeld$Rule", "hold", "(I)V"⟩, 9) := ⟨⟨by decide +kernel, by decide +kernel⟩, List.mem_of_getElem? (i := 125) (by decide +kernel), List.mem_of_getElem? (i := 318) (by decide +kernel), List.mem_of_getElem? (i := 319) (by decide +kernel)⟩
theorem lw_p5 : lw_okq (⟨"StreamersHeld$Rule", "open", "()Z"⟩, 9) := ⟨⟨by decide +kernel, by decide +kernel⟩, List.mem_of_getElem? (i := 125) (by decide +kernel), List.mem_of_getElem? (i := 322) (by decide +kernel), List.mem_of_getElem? (i := 323) (by decide +kernel)⟩
theorem lw_p6 : lw_okq (⟨"StreamersHeld$Rule", "emit", "(I)V"⟩, 9) := ⟨⟨by decide +kernel, by decide +kernel⟩, List.mem_of_getElem? (i := 125) (by decide +kernel), List.mem_of_getElem? (i := 329) (by decide +kernel), List.mem_of_getElem? (i := 330) (by decide +kernel)⟩
theorem lw_p7 : lw_okq (⟨"StreamersHeld$Rule", "take", "(I)Z"⟩, 9) := ⟨⟨by decide +kernel, by decide +kernel⟩, List.mem_of_getElem? (i := 125) (by decide +kernel), List.mem_of_getElem? (i := 335) (by decide +kernel), List.mem_of_getElem? (i := 336) (by decide +kernel)⟩
theorem lw_p8 : lw_okq (⟨"StreamersHeld$Rule", "takeDigit", "(I)Z"⟩, 9) := ⟨⟨by decide +kernel, by decide +kernel⟩, List.mem_of_getElem? (i := 125) (by decide +kernel), List.mem_of_getElem? (i := 339) (by decide +kernel), List.mem_of_getElem? (i := 340) (by decide +kernel)⟩
theorem lw_p9 : lw_okq (⟨"StreamersHeld$Rule", "close", "()Z"⟩, 9) := ⟨⟨by decide +kernel, by decide +kernel⟩, List.mem_of_getElem? (i := 125) (by decide +kernel), List.mem_of_getElem? (i := 343) (by decide +kernel), List.mem_of_getElem? (i := 344) (by decide +kernel)⟩
theorem lw_p10 : lw_okq (⟨"StreamersHeld$Rule", "release", "(I)V"⟩, 9) := ⟨⟨by decide +kernel, by decide +kernel⟩, List.mem_of_getElem? (i := 125) (by decide +kernel), List.mem_of_getElem? (i := 347) (by decide +kernel), List.mem_of_getElem? (i := 348) (by decide +kernel)⟩
theorem lw_p11 : lw_okq (⟨"StreamersHeld$Rule", "takeBetween", "(I)Z"⟩, 9) := ⟨⟨by decide +kernel, by decide +kernel⟩, List.mem_of_getElem? (i := 125) (by decide +kernel), List.mem_of_getElem? (i := 354) (by decide +kernel), List.mem_of_getElem? (i := 355) (by decide +kernel)⟩
theorem lw_p12 : lw_okq (⟨"StreamersHeld", "goHours", "(I)I"⟩, 14) := ⟨⟨by decide +kernel, by decide +kernel⟩, List.mem_of_getElem? (i := 21) (by decide +kernel), List.mem_of_getElem? (i := 390) (by decide +kernel), List.mem_of_getElem? (i := 391) (by decide +kernel)⟩
theorem lw_p13 : lw_okq (⟨"StreamersHeld$Sail", "payOut", "()V"⟩, 13) := ⟨⟨by decide +kernel, by decide +kernel⟩, List.mem_of_getElem? (i := 61) (by decide +kernel), List.mem_of_getElem? (i := 398) (by decide +kernel), List.mem_of_getElem? (i := 399) (by decide +kernel)⟩
theorem lw_p14 : lw_okq (⟨"StreamersHeld", "tell", "(JJ)V"⟩, 14) := ⟨⟨by decide +kernel, by decide +kernel⟩, List.mem_of_getElem? (i := 21) (by decide +kernel), List.mem_of_getElem? (i := 448) (by decide +kernel), List.mem_of_getElem? (i := 449) (by decide +kernel)⟩
theorem lw_p15 : lw_okq (⟨"StreamersHeld", "settled", "(I)I"⟩, 14) := ⟨⟨by decide +kernel, by decide +kernel⟩, List.mem_of_getElem? (i := 21) (by decide +kernel), List.mem_of_getElem? (i := 460) (by decide +kernel), List.mem_of_getElem? (i := 461) (by decide +kernel)⟩
def lw_privs_1 : List (MethodName × Nat) := [(⟨"StreamersHeld", "badLineSign", "()I"⟩, 14), (⟨"StreamersHeld", "fitsLine", "(I)Z"⟩, 14), (⟨"StreamersHeld", "addLines", "()V"⟩, 14), (⟨"StreamersHeld$Rule", "takeThing", "(I)Z"⟩, 9), (⟨"StreamersHeld$Rule", "hold", "(I)V"⟩, 9), (⟨"StreamersHeld$Rule", "open", "()Z"⟩, 9), (⟨"StreamersHeld$Rule", "emit", "(I)V"⟩, 9), (⟨"StreamersHeld$Rule", "take", "(I)Z"⟩, 9), (⟨"StreamersHeld$Rule", "takeDigit", "(I)Z"⟩, 9), (⟨"StreamersHeld$Rule", "close", "()Z"⟩, 9), (⟨"StreamersHeld$Rule", "release", "(I)V"⟩, 9), (⟨"StreamersHeld$Rule", "takeBetween", "(I)Z"⟩, 9), (⟨"StreamersHeld", "goHours", "(I)I"⟩, 14), (⟨"StreamersHeld$Sail", "payOut", "()V"⟩, 13), (⟨"StreamersHeld", "tell", "(JJ)V"⟩, 14), (⟨"StreamersHeld", "settled", "(I)I"⟩, 14)]
theorem lw_r1 : ∀ q ∈ lw_privs_1, lw_okq q := List.forall_mem_cons.mpr ⟨lw_p0, List.forall_mem_cons.mpr ⟨lw_p1, List.forall_mem_cons.mpr ⟨lw_p2, List.forall_mem_cons.mpr ⟨lw_p3, List.forall_mem_cons.mpr ⟨lw_p4, List.forall_mem_cons.mpr ⟨lw_p5, List.forall_mem_cons.mpr ⟨lw_p6, List.forall_mem_cons.mpr ⟨lw_p7, List.forall_mem_cons.mpr ⟨lw_p8, List.forall_mem_cons.mpr ⟨lw_p9, List.forall_mem_cons.mpr ⟨lw_p10, List.forall_mem_cons.mpr ⟨lw_p11, List.forall_mem_cons.mpr ⟨lw_p12, List.forall_mem_cons.mpr ⟨lw_p13, List.forall_mem_cons.mpr ⟨lw_p14, List.forall_mem_cons.mpr ⟨lw_p15, fun _ h => absurd h List.not_mem_nil⟩⟩⟩⟩⟩⟩⟩⟩⟩⟩⟩⟩⟩⟩⟩⟩
theorem lw_p16 : lw_okq (⟨"StreamersHeld", "runTo", "(II)I"⟩, 14) := ⟨⟨by decide +kernel, by decide +kernel⟩, List.mem_of_getElem? (i := 21) (by decide +kernel), List.mem_of_getElem? (i := 473) (by decide +kernel), List.mem_of_getElem? (i := 474) (by decide +kernel)⟩
theorem lw_p17 : lw_okq (⟨"StreamersHeld", "setRate", "(II)I"⟩, 14) := ⟨⟨by decide +kernel, by decide +kernel⟩, List.mem_of_getElem? (i := 21) (by decide +kernel), List.mem_of_getElem? (i := 491) (by decide +kernel), List.mem_of_getElem? (i := 492) (by decide +kernel)⟩
theorem lw_p18 : lw_okq (⟨"StreamersHeld", "fillReel", "(II)I"⟩, 14) := ⟨⟨by decide +kernel, by decide +kernel⟩, List.mem_of_getElem? (i := 21) (by decide +kernel), List.mem_of_getElem? (i := 499) (by decide +kernel), List.mem_of_getElem? (i := 500) (by decide +kernel)⟩
theorem lw_p19 : lw_okq (⟨"StreamersHeld", "turnEnd", "(I)I"⟩, 14) := ⟨⟨by decide +kernel, by decide +kernel⟩, List.mem_of_getElem? (i := 21) (by decide +kernel), List.mem_of_getElem? (i := 507) (by decide +kernel), List.mem_of_getElem? (i := 508) (by decide +kernel)⟩
theorem lw_p20 : lw_okq (⟨"StreamersHeld", "setSpeed", "(I)I"⟩, 14) := ⟨⟨by decide +kernel, by decide +kernel⟩, List.mem_of_getElem? (i := 21) (by decide +kernel), List.mem_of_getElem? (i := 516) (by decide +kernel), List.mem_of_getElem? (i := 517) (by decide +kernel)⟩
theorem lw_p21 : lw_okq (⟨"StreamersHeld", "badActSign", "()I"⟩, 14) := ⟨⟨by decide +kernel, by decide +kernel⟩, List.mem_of_getElem? (i := 21) (by decide +kernel), List.mem_of_getElem? (i := 524) (by decide +kernel), List.mem_of_getElem? (i := 525) (by decide +kernel)⟩
theorem lw_p22 : lw_okq (⟨"StreamersHeld", "act", "(I)I"⟩, 14) := ⟨⟨by decide +kernel, by decide +kernel⟩, List.mem_of_getElem? (i := 21) (by decide +kernel), List.mem_of_getElem? (i := 531) (by decide +kernel), List.mem_of_getElem? (i := 532) (by decide +kernel)⟩
theorem lw_p23 : lw_okq (⟨"StreamersHeld", "foresee", "(I)V"⟩, 14) := ⟨⟨by decide +kernel, by decide +kernel⟩, List.mem_of_getElem? (i := 21) (by decide +kernel), List.mem_of_getElem? (i := 551) (by decide +kernel), List.mem_of_getElem? (i := 552) (by decide +kernel)⟩
theorem lw_p24 : lw_okq (⟨"StreamersHeld", "tell", "(J)V"⟩, 14) := ⟨⟨by decide +kernel, by decide +kernel⟩, List.mem_of_getElem? (i := 21) (by decide +kernel), List.mem_of_getElem? (i := 581) (by decide +kernel), List.mem_of_getElem? (i := 582) (by decide +kernel)⟩
theorem lw_p25 : lw_okq (⟨"StreamersHeld", "hoursHeld", "(II)I"⟩, 14) := ⟨⟨by decide +kernel, by decide +kernel⟩, List.mem_of_getElem? (i := 21) (by decide +kernel), List.mem_of_getElem? (i := 602) (by decide +kernel), List.mem_of_getElem? (i := 603) (by decide +kernel)⟩
theorem lw_p26 : lw_okq (⟨"StreamersHeld", "holdBySpeed", "(II)I"⟩, 14) := ⟨⟨by decide +kernel, by decide +kernel⟩, List.mem_of_getElem? (i := 21) (by decide +kernel), List.mem_of_getElem? (i := 614) (by decide +kernel), List.mem_of_getElem? (i := 615) (by decide +kernel)⟩
theorem lw_p27 : lw_okq (⟨"StreamersHeld", "tellSet", "(II)I"⟩, 14) := ⟨⟨by decide +kernel, by decide +kernel⟩, List.mem_of_getElem? (i := 21) (by decide +kernel), List.mem_of_getElem? (i := 625) (by decide +kernel), List.mem_of_getElem? (i := 626) (by decide +kernel)⟩
theorem lw_p28 : lw_okq (⟨"StreamersHeld", "holdsWithout", "(III)Z"⟩, 14) := ⟨⟨by decide +kernel, by decide +kernel⟩, List.mem_of_getElem? (i := 21) (by decide +kernel), List.mem_of_getElem? (i := 633) (by decide +kernel), List.mem_of_getElem? (i := 634) (by decide +kernel)⟩
theorem lw_p29 : lw_okq (⟨"StreamersHeld", "tips", "(II)Z"⟩, 14) := ⟨⟨by decide +kernel, by decide +kernel⟩, List.mem_of_getElem? (i := 21) (by decide +kernel), List.mem_of_getElem? (i := 641) (by decide +kernel), List.mem_of_getElem? (i := 642) (by decide +kernel)⟩
theorem lw_p30 : lw_okq (⟨"StreamersHeld", "decides", "(I)Z"⟩, 14) := ⟨⟨by decide +kernel, by decide +kernel⟩, List.mem_of_getElem? (i := 21) (by decide +kernel), List.mem_of_getElem? (i := 645) (by decide +kernel), List.mem_of_getElem? (i := 646) (by decide +kernel)⟩
theorem lw_p31 : lw_okq (⟨"StreamersHeld", "tellFraction", "(JJ)V"⟩, 14) := ⟨⟨by decide +kernel, by decide +kernel⟩, List.mem_of_getElem? (i := 21) (by decide +kernel), List.mem_of_getElem? (i := 649) (by decide +kernel), List.mem_of_getElem? (i := 650) (by decide +kernel)⟩
def lw_privs_2 : List (MethodName × Nat) := [(⟨"StreamersHeld", "runTo", "(II)I"⟩, 14), (⟨"StreamersHeld", "setRate", "(II)I"⟩, 14), (⟨"StreamersHeld", "fillReel", "(II)I"⟩, 14), (⟨"StreamersHeld", "turnEnd", "(I)I"⟩, 14), (⟨"StreamersHeld", "setSpeed", "(I)I"⟩, 14), (⟨"StreamersHeld", "badActSign", "()I"⟩, 14), (⟨"StreamersHeld", "act", "(I)I"⟩, 14), (⟨"StreamersHeld", "foresee", "(I)V"⟩, 14), (⟨"StreamersHeld", "tell", "(J)V"⟩, 14), (⟨"StreamersHeld", "hoursHeld", "(II)I"⟩, 14), (⟨"StreamersHeld", "holdBySpeed", "(II)I"⟩, 14), (⟨"StreamersHeld", "tellSet", "(II)I"⟩, 14), (⟨"StreamersHeld", "holdsWithout", "(III)Z"⟩, 14), (⟨"StreamersHeld", "tips", "(II)Z"⟩, 14), (⟨"StreamersHeld", "decides", "(I)Z"⟩, 14), (⟨"StreamersHeld", "tellFraction", "(JJ)V"⟩, 14)]
theorem lw_r2 : ∀ q ∈ lw_privs_2, lw_okq q := List.forall_mem_cons.mpr ⟨lw_p16, List.forall_mem_cons.mpr ⟨lw_p17, List.forall_mem_cons.mpr ⟨lw_p18, List.forall_mem_cons.mpr ⟨lw_p19, List.forall_mem_cons.mpr ⟨lw_p20, List.forall_mem_cons.mpr ⟨lw_p21, List.forall_mem_cons.mpr ⟨lw_p22, List.forall_mem_cons.mpr ⟨lw_p23, List.forall_mem_cons.mpr ⟨lw_p24, List.forall_mem_cons.mpr ⟨lw_p25, List.forall_mem_cons.mpr ⟨lw_p26, List.forall_mem_cons.mpr ⟨lw_p27, List.forall_mem_cons.mpr ⟨lw_p28, List.forall_mem_cons.mpr ⟨lw_p29, List.forall_mem_cons.mpr ⟨lw_p30, List.forall_mem_cons.mpr ⟨lw_p31, fun _ h => absurd h List.not_mem_nil⟩⟩⟩⟩⟩⟩⟩⟩⟩⟩⟩⟩⟩⟩⟩⟩
theorem lw_p32 : lw_okq (⟨"StreamersHeld", "coloursAre", "(IIIII)Z"⟩, 14) := ⟨⟨by decide +kernel, by decide +kernel⟩, List.mem_of_getElem? (i := 21) (by decide +kernel), List.mem_of_getElem? (i := 679) (by decide +kernel), List.mem_of_getElem? (i := 680) (by decide +kernel)⟩
theorem lw_p33 : lw_okq (⟨"StreamersHeld", "fitsSights", "(I)Z"⟩, 14) := ⟨⟨by decide +kernel, by decide +kernel⟩, List.mem_of_getElem? (i := 21) (by decide +kernel), List.mem_of_getElem? (i := 714) (by decide +kernel), List.mem_of_getElem? (i := 715) (by decide +kernel)⟩
theorem lw_p34 : lw_okq (⟨"StreamersHeld", "countWaysFrom", "()I"⟩, 14) := ⟨⟨by decide +kernel, by decide +kernel⟩, List.mem_of_getElem? (i := 21) (by decide +kernel), List.mem_of_getElem? (i := 726) (by decide +kernel), List.mem_of_getElem? (i := 727) (by decide +kernel)⟩
theorem lw_p35 : lw_okq (⟨"StreamersHeld", "fitRumours", "()I"⟩, 14) := ⟨⟨by decide +kernel, by decide +kernel⟩, List.mem_of_getElem? (i := 21) (by decide +kernel), List.mem_of_getElem? (i := 745) (by decide +kernel), List.mem_of_getElem? (i := 746) (by decide +kernel)⟩
theorem lw_p36 : lw_okq (⟨"StreamersHeld", "ofWhom", "(II)I"⟩, 14) := ⟨⟨by decide +kernel, by decide +kernel⟩, List.mem_of_getElem? (i := 21) (by decide +kernel), List.mem_of_getElem? (i := 749) (by decide +kernel), List.mem_of_getElem? (i := 750) (by decide +kernel)⟩
theorem lw_p37 : lw_okq (⟨"StreamersHeld", "fitsPartings", "(I)Z"⟩, 14) := ⟨⟨by decide +kernel, by decide +kernel⟩, List.mem_of_getElem? (i := 21) (by decide +kernel), List.mem_of_getElem? (i := 785) (by decide +kernel), List.mem_of_getElem? (i := 786) (by decide +kernel)⟩
theorem lw_p38 : lw_okq (⟨"StreamersHeld", "fittingLaws", "()J"⟩, 14) := ⟨⟨by decide +kernel, by decide +kernel⟩, List.mem_of_getElem? (i := 21) (by decide +kernel), List.mem_of_getElem? (i := 802) (by decide +kernel), List.mem_of_getElem? (i := 803) (by decide +kernel)⟩
theorem lw_p39 : lw_okq (⟨"StreamersHeld", "learnNimbers", "(I)V"⟩, 14) := ⟨⟨by decide +kernel, by decide +kernel⟩, List.mem_of_getElem? (i := 21) (by decide +kernel), List.mem_of_getElem? (i := 819) (by decide +kernel), List.mem_of_getElem? (i := 820) (by decide +kernel)⟩
theorem lw_p40 : lw_okq (⟨"StreamersHeld", "nimberOf", "(I)I"⟩, 14) := ⟨⟨by decide +kernel, by decide +kernel⟩, List.mem_of_getElem? (i := 21) (by decide +kernel), List.mem_of_getElem? (i := 823) (by decide +kernel), List.mem_of_getElem? (i := 824) (by decide +kernel)⟩
theorem lw_p41 : lw_okq (⟨"StreamersHeld", "drawOne", "()V"⟩, 14) := ⟨⟨by decide +kernel, by decide +kernel⟩, List.mem_of_getElem? (i := 21) (by decide +kernel), List.mem_of_getElem? (i := 845) (by decide +kernel), List.mem_of_getElem? (i := 846) (by decide +kernel)⟩
theorem lw_p42 : lw_okq (⟨"StreamersHeld", "draw", "(I)I"⟩, 14) := ⟨⟨by decide +kernel, by decide +kernel⟩, List.mem_of_getElem? (i := 21) (by decide +kernel), List.mem_of_getElem? (i := 849) (by decide +kernel), List.mem_of_getElem? (i := 850) (by decide +kernel)⟩
theorem lw_p43 : lw_okq (⟨"java/lang/Throwable", "fillInStackTrace", "(I)Ljava/lang/Throwable;"⟩, 6) := ⟨⟨by decide +kernel, by decide +kernel⟩, List.mem_of_getElem? (i := 923) (by decide +kernel), List.mem_of_getElem? (i := 921) (by decide +kernel), List.mem_of_getElem? (i := 922) (by decide +kernel)⟩
theorem lw_p44 : lw_okq (⟨"StreamersHeldModel", "begins", "(I)I"⟩, 48) := ⟨⟨by decide +kernel, by decide +kernel⟩, List.mem_of_getElem? (i := 965) (by decide +kernel), List.mem_of_getElem? (i := 1132) (by decide +kernel), List.mem_of_getElem? (i := 1133) (by decide +kernel)⟩
theorem lw_p45 : lw_okq (⟨"StreamersHeldModel", "readsOne", "()Z"⟩, 48) := ⟨⟨by decide +kernel, by decide +kernel⟩, List.mem_of_getElem? (i := 965) (by decide +kernel), List.mem_of_getElem? (i := 1137) (by decide +kernel), List.mem_of_getElem? (i := 1138) (by decide +kernel)⟩
theorem lw_p46 : lw_okq (⟨"StreamersHeldModel", "takesOf", "(Ljava/lang/String;)I"⟩, 48) := ⟨⟨by decide +kernel, by decide +kernel⟩, List.mem_of_getElem? (i := 965) (by decide +kernel), List.mem_of_getElem? (i := 1142) (by decide +kernel), List.mem_of_getElem? (i := 1143) (by decide +kernel)⟩
theorem lw_p47 : lw_okq (⟨"StreamersHeldModel", "digitIn", "(II)I"⟩, 48) := ⟨⟨by decide +kernel, by decide +kernel⟩, List.mem_of_getElem? (i := 965) (by decide +kernel), List.mem_of_getElem? (i := 1194) (by decide +kernel), List.mem_of_getElem? (i := 1195) (by decide +kernel)⟩
def lw_privs_3 : List (MethodName × Nat) := [(⟨"StreamersHeld", "coloursAre", "(IIIII)Z"⟩, 14), (⟨"StreamersHeld", "fitsSights", "(I)Z"⟩, 14), (⟨"StreamersHeld", "countWaysFrom", "()I"⟩, 14), (⟨"StreamersHeld", "fitRumours", "()I"⟩, 14), (⟨"StreamersHeld", "ofWhom", "(II)I"⟩, 14), (⟨"StreamersHeld", "fitsPartings", "(I)Z"⟩, 14), (⟨"StreamersHeld", "fittingLaws", "()J"⟩, 14), (⟨"StreamersHeld", "learnNimbers", "(I)V"⟩, 14), (⟨"StreamersHeld", "nimberOf", "(I)I"⟩, 14), (⟨"StreamersHeld", "drawOne", "()V"⟩, 14), (⟨"StreamersHeld", "draw", "(I)I"⟩, 14), (⟨"java/lang/Throwable", "fillInStackTrace", "(I)Ljava/lang/Throwable;"⟩, 6), (⟨"StreamersHeldModel", "begins", "(I)I"⟩, 48), (⟨"StreamersHeldModel", "readsOne", "()Z"⟩, 48), (⟨"StreamersHeldModel", "takesOf", "(Ljava/lang/String;)I"⟩, 48), (⟨"StreamersHeldModel", "digitIn", "(II)I"⟩, 48)]
theorem lw_r3 : ∀ q ∈ lw_privs_3, lw_okq q := List.forall_mem_cons.mpr ⟨lw_p32, List.forall_mem_cons.mpr ⟨lw_p33, List.forall_mem_cons.mpr ⟨lw_p34, List.forall_mem_cons.mpr ⟨lw_p35, List.forall_mem_cons.mpr ⟨lw_p36, List.forall_mem_cons.mpr ⟨lw_p37, List.forall_mem_cons.mpr ⟨lw_p38, List.forall_mem_cons.mpr ⟨lw_p39, List.forall_mem_cons.mpr ⟨lw_p40, List.forall_mem_cons.mpr ⟨lw_p41, List.forall_mem_cons.mpr ⟨lw_p42, List.forall_mem_cons.mpr ⟨lw_p43, List.forall_mem_cons.mpr ⟨lw_p44, List.forall_mem_cons.mpr ⟨lw_p45, List.forall_mem_cons.mpr ⟨lw_p46, List.forall_mem_cons.mpr ⟨lw_p47, fun _ h => absurd h List.not_mem_nil⟩⟩⟩⟩⟩⟩⟩⟩⟩⟩⟩⟩⟩⟩⟩⟩
theorem lw_p48 : lw_okq (⟨"StreamersHeldModel", "twoDigits", "()I"⟩, 48) := ⟨⟨by decide +kernel, by decide +kernel⟩, List.mem_of_getElem? (i := 965) (by decide +kernel), List.mem_of_getElem? (i := 1198) (by decide +kernel), List.mem_of_getElem? (i := 1199) (by decide +kernel)⟩
theorem lw_p49 : lw_okq (⟨"StreamersHeldModel", "number", "(I)I"⟩, 48) := ⟨⟨by decide +kernel, by decide +kernel⟩, List.mem_of_getElem? (i := 965) (by decide +kernel), List.mem_of_getElem? (i := 1202) (by decide +kernel), List.mem_of_getElem? (i := 1203) (by decide +kernel)⟩
theorem lw_p50 : lw_okq (⟨"StreamersHeldModel", "isDigit", "()Z"⟩, 48) := ⟨⟨by decide +kernel, by decide +kernel⟩, List.mem_of_getElem? (i := 965) (by decide +kernel), List.mem_of_getElem? (i := 1206) (by decide +kernel), List.mem_of_getElem? (i := 1207) (by decide +kernel)⟩
theorem lw_p51 : lw_okq (⟨"StreamersHeldModel", "takes", "(I)Z"⟩, 48) := ⟨⟨by decide +kernel, by decide +kernel⟩, List.mem_of_getElem? (i := 965) (by decide +kernel), List.mem_of_getElem? (i := 1212) (by decide +kernel), List.mem_of_getElem? (i := 1213) (by decide +kernel)⟩
theorem lw_p52 : lw_okq (⟨"StreamersHeldModel", "faultOf", "(IIZ)I"⟩, 48) := ⟨⟨by decide +kernel, by decide +kernel⟩, List.mem_of_getElem? (i := 965) (by decide +kernel), List.mem_of_getElem? (i := 1219) (by decide +kernel), List.mem_of_getElem? (i := 1220) (by decide +kernel)⟩
theorem lw_p53 : lw_okq (⟨"StreamersHeldModel", "readsRule", "()I"⟩, 48) := ⟨⟨by decide +kernel, by decide +kernel⟩, List.mem_of_getElem? (i := 965) (by decide +kernel), List.mem_of_getElem? (i := 1228) (by decide +kernel), List.mem_of_getElem? (i := 1229) (by decide +kernel)⟩
theorem lw_p54 : lw_okq (⟨"StreamersHeldModel", "readsRank", "(I)Z"⟩, 48) := ⟨⟨by decide +kernel, by decide +kernel⟩, List.mem_of_getElem? (i := 965) (by decide +kernel), List.mem_of_getElem? (i := 1232) (by decide +kernel), List.mem_of_getElem? (i := 1233) (by decide +kernel)⟩
theorem lw_p55 : lw_okq (⟨"StreamersHeldModel", "readsThing", "()Z"⟩, 48) := ⟨⟨by decide +kernel, by decide +kernel⟩, List.mem_of_getElem? (i := 965) (by decide +kernel), List.mem_of_getElem? (i := 1236) (by decide +kernel), List.mem_of_getElem? (i := 1237) (by decide +kernel)⟩
theorem lw_p56 : lw_okq (⟨"StreamersHeldModel", "codes", "(I)V"⟩, 48) := ⟨⟨by decide +kernel, by decide +kernel⟩, List.mem_of_getElem? (i := 965) (by decide +kernel), List.mem_of_getElem? (i := 1240) (by decide +kernel), List.mem_of_getElem? (i := 1241) (by decide +kernel)⟩
theorem lw_p57 : lw_okq (⟨"StreamersHeldModel", "laysCode", "([II)V"⟩, 48) := ⟨⟨by decide +kernel, by decide +kernel⟩, List.mem_of_getElem? (i := 965) (by decide +kernel), List.mem_of_getElem? (i := 1248) (by decide +kernel), List.mem_of_getElem? (i := 1249) (by decide +kernel)⟩
theorem lw_p58 : lw_okq (⟨"StreamersHeldModel", "isOne", "(I)Z"⟩, 48) := ⟨⟨by decide +kernel, by decide +kernel⟩, List.mem_of_getElem? (i := 965) (by decide +kernel), List.mem_of_getElem? (i := 1256) (by decide +kernel), List.mem_of_getElem? (i := 1257) (by decide +kernel)⟩
theorem lw_p59 : lw_okq (⟨"StreamersHeldModel", "refuse", "()I"⟩, 48) := ⟨⟨by decide +kernel, by decide +kernel⟩, List.mem_of_getElem? (i := 965) (by decide +kernel), List.mem_of_getElem? (i := 1261) (by decide +kernel), List.mem_of_getElem? (i := 1262) (by decide +kernel)⟩
theorem lw_p60 : lw_okq (⟨"StreamersHeldModel", "pull", "([II)I"⟩, 48) := ⟨⟨by decide +kernel, by decide +kernel⟩, List.mem_of_getElem? (i := 965) (by decide +kernel), List.mem_of_getElem? (i := 1271) (by decide +kernel), List.mem_of_getElem? (i := 1272) (by decide +kernel)⟩
theorem lw_p61 : lw_okq (⟨"StreamersHeldModel", "holding", "([I)I"⟩, 48) := ⟨⟨by decide +kernel, by decide +kernel⟩, List.mem_of_getElem? (i := 965) (by decide +kernel), List.mem_of_getElem? (i := 1275) (by decide +kernel), List.mem_of_getElem? (i := 1276) (by decide +kernel)⟩
theorem lw_p62 : lw_okq (⟨"StreamersHeldModel", "all", "()I"⟩, 48) := ⟨⟨by decide +kernel, by decide +kernel⟩, List.mem_of_getElem? (i := 965) (by decide +kernel), List.mem_of_getElem? (i := 1279) (by decide +kernel), List.mem_of_getElem? (i := 1280) (by decide +kernel)⟩
theorem lw_p63 : lw_okq (⟨"StreamersHeldModel", "ofColour", "(I)I"⟩, 48) := ⟨⟨by decide +kernel, by decide +kernel⟩, List.mem_of_getElem? (i := 965) (by decide +kernel), List.mem_of_getElem? (i := 1283) (by decide +kernel), List.mem_of_getElem? (i := 1284) (by decide +kernel)⟩
def lw_privs_4 : List (MethodName × Nat) := [(⟨"StreamersHeldModel", "twoDigits", "()I"⟩, 48), (⟨"StreamersHeldModel", "number", "(I)I"⟩, 48), (⟨"StreamersHeldModel", "isDigit", "()Z"⟩, 48), (⟨"StreamersHeldModel", "takes", "(I)Z"⟩, 48), (⟨"StreamersHeldModel", "faultOf", "(IIZ)I"⟩, 48), (⟨"StreamersHeldModel", "readsRule", "()I"⟩, 48), (⟨"StreamersHeldModel", "readsRank", "(I)Z"⟩, 48), (⟨"StreamersHeldModel", "readsThing", "()Z"⟩, 48), (⟨"StreamersHeldModel", "codes", "(I)V"⟩, 48), (⟨"StreamersHeldModel", "laysCode", "([II)V"⟩, 48), (⟨"StreamersHeldModel", "isOne", "(I)Z"⟩, 48), (⟨"StreamersHeldModel", "refuse", "()I"⟩, 48), (⟨"StreamersHeldModel", "pull", "([II)I"⟩, 48), (⟨"StreamersHeldModel", "holding", "([I)I"⟩, 48), (⟨"StreamersHeldModel", "all", "()I"⟩, 48), (⟨"StreamersHeldModel", "ofColour", "(I)I"⟩, 48)]
theorem lw_r4 : ∀ q ∈ lw_privs_4, lw_okq q := List.forall_mem_cons.mpr ⟨lw_p48, List.forall_mem_cons.mpr ⟨lw_p49, List.forall_mem_cons.mpr ⟨lw_p50, List.forall_mem_cons.mpr ⟨lw_p51, List.forall_mem_cons.mpr ⟨lw_p52, List.forall_mem_cons.mpr ⟨lw_p53, List.forall_mem_cons.mpr ⟨lw_p54, List.forall_mem_cons.mpr ⟨lw_p55, List.forall_mem_cons.mpr ⟨lw_p56, List.forall_mem_cons.mpr ⟨lw_p57, List.forall_mem_cons.mpr ⟨lw_p58, List.forall_mem_cons.mpr ⟨lw_p59, List.forall_mem_cons.mpr ⟨lw_p60, List.forall_mem_cons.mpr ⟨lw_p61, List.forall_mem_cons.mpr ⟨lw_p62, List.forall_mem_cons.mpr ⟨lw_p63, fun _ h => absurd h List.not_mem_nil⟩⟩⟩⟩⟩⟩⟩⟩⟩⟩⟩⟩⟩⟩⟩⟩
theorem lw_p64 : lw_okq (⟨"StreamersHeldModel", "ruled", "()I"⟩, 48) := ⟨⟨by decide +kernel, by decide +kernel⟩, List.mem_of_getElem? (i := 965) (by decide +kernel), List.mem_of_getElem? (i := 1288) (by decide +kernel), List.mem_of_getElem? (i := 1289) (by decide +kernel)⟩
theorem lw_p65 : lw_okq (⟨"StreamersHeldModel", "counts", "(I)I"⟩, 48) := ⟨⟨by decide +kernel, by decide +kernel⟩, List.mem_of_getElem? (i := 965) (by decide +kernel), List.mem_of_getElem? (i := 1301) (by decide +kernel), List.mem_of_getElem? (i := 1302) (by decide +kernel)⟩
theorem lw_p66 : lw_okq (⟨"StreamersHeldModel", "putsBy", "()V"⟩, 48) := ⟨⟨by decide +kernel, by decide +kernel⟩, List.mem_of_getElem? (i := 965) (by decide +kernel), List.mem_of_getElem? (i := 1314) (by decide +kernel), List.mem_of_getElem? (i := 1315) (by decide +kernel)⟩
theorem lw_p67 : lw_okq (⟨"StreamersHeldModel", "goesOn", "([II)V"⟩, 48) := ⟨⟨by decide +kernel, by decide +kernel⟩, List.mem_of_getElem? (i := 965) (by decide +kernel), List.mem_of_getElem? (i := 1318) (by decide +kernel), List.mem_of_getElem? (i := 1319) (by decide +kernel)⟩
theorem lw_p68 : lw_okq (⟨"StreamersHeldModel", "hourGoes", "([I)V"⟩, 48) := ⟨⟨by decide +kernel, by decide +kernel⟩, List.mem_of_getElem? (i := 965) (by decide +kernel), List.mem_of_getElem? (i := 1322) (by decide +kernel), List.mem_of_getElem? (i := 1323) (by decide +kernel)⟩
theorem lw_p69 : lw_okq (⟨"StreamersHeldModel", "dragOf", "([I)I"⟩, 48) := ⟨⟨by decide +kernel, by decide +kernel⟩, List.mem_of_getElem? (i := 965) (by decide +kernel), List.mem_of_getElem? (i := 1326) (by decide +kernel), List.mem_of_getElem? (i := 1327) (by decide +kernel)⟩
theorem lw_p70 : lw_okq (⟨"StreamersHeldModel", "taut", "([I)I"⟩, 48) := ⟨⟨by decide +kernel, by decide +kernel⟩, List.mem_of_getElem? (i := 965) (by decide +kernel), List.mem_of_getElem? (i := 1330) (by decide +kernel), List.mem_of_getElem? (i := 1331) (by decide +kernel)⟩
theorem lw_p71 : lw_okq (⟨"StreamersHeldModel", "enters", "(J)V"⟩, 48) := ⟨⟨by decide +kernel, by decide +kernel⟩, List.mem_of_getElem? (i := 965) (by decide +kernel), List.mem_of_getElem? (i := 1334) (by decide +kernel), List.mem_of_getElem? (i := 1335) (by decide +kernel)⟩
theorem lw_p72 : lw_okq (⟨"StreamersHeldModel", "adds", "(I)I"⟩, 48) := ⟨⟨by decide +kernel, by decide +kernel⟩, List.mem_of_getElem? (i := 965) (by decide +kernel), List.mem_of_getElem? (i := 1338) (by decide +kernel), List.mem_of_getElem? (i := 1339) (by decide +kernel)⟩
theorem lw_p73 : lw_okq (⟨"StreamersHeldModel", "runsTo", "(II)I"⟩, 48) := ⟨⟨by decide +kernel, by decide +kernel⟩, List.mem_of_getElem? (i := 965) (by decide +kernel), List.mem_of_getElem? (i := 1346) (by decide +kernel), List.mem_of_getElem? (i := 1347) (by decide +kernel)⟩
theorem lw_p74 : lw_okq (⟨"StreamersHeldModel", "counted", "(I)I"⟩, 48) := ⟨⟨by decide +kernel, by decide +kernel⟩, List.mem_of_getElem? (i := 965) (by decide +kernel), List.mem_of_getElem? (i := 1352) (by decide +kernel), List.mem_of_getElem? (i := 1353) (by decide +kernel)⟩
theorem lw_p75 : lw_okq (⟨"StreamersHeldModel", "ratesTo", "(II)I"⟩, 48) := ⟨⟨by decide +kernel, by decide +kernel⟩, List.mem_of_getElem? (i := 965) (by decide +kernel), List.mem_of_getElem? (i := 1360) (by decide +kernel), List.mem_of_getElem? (i := 1361) (by decide +kernel)⟩
theorem lw_p76 : lw_okq (⟨"StreamersHeldModel", "becomes", "(III)I"⟩, 48) := ⟨⟨by decide +kernel, by decide +kernel⟩, List.mem_of_getElem? (i := 965) (by decide +kernel), List.mem_of_getElem? (i := 1364) (by decide +kernel), List.mem_of_getElem? (i := 1365) (by decide +kernel)⟩
theorem lw_p77 : lw_okq (⟨"StreamersHeldModel", "reelsMore", "(II)I"⟩, 48) := ⟨⟨by decide +kernel, by decide +kernel⟩, List.mem_of_getElem? (i := 965) (by decide +kernel), List.mem_of_getElem? (i := 1372) (by decide +kernel), List.mem_of_getElem? (i := 1373) (by decide +kernel)⟩
theorem lw_p78 : lw_okq (⟨"StreamersHeldModel", "dropsOne", "(I)I"⟩, 48) := ⟨⟨by decide +kernel, by decide +kernel⟩, List.mem_of_getElem? (i := 965) (by decide +kernel), List.mem_of_getElem? (i := 1381) (by decide +kernel), List.mem_of_getElem? (i := 1382) (by decide +kernel)⟩
theorem lw_p79 : lw_okq (⟨"StreamersHeldModel", "speedsTo", "(I)I"⟩, 48) := ⟨⟨by decide +kernel, by decide +kernel⟩, List.mem_of_getElem? (i := 965) (by decide +kernel), List.mem_of_getElem? (i := 1389) (by decide +kernel), List.mem_of_getElem? (i := 1390) (by decide +kernel)⟩
def lw_privs_5 : List (MethodName × Nat) := [(⟨"StreamersHeldModel", "ruled", "()I"⟩, 48), (⟨"StreamersHeldModel", "counts", "(I)I"⟩, 48), (⟨"StreamersHeldModel", "putsBy", "()V"⟩, 48), (⟨"StreamersHeldModel", "goesOn", "([II)V"⟩, 48), (⟨"StreamersHeldModel", "hourGoes", "([I)V"⟩, 48), (⟨"StreamersHeldModel", "dragOf", "([I)I"⟩, 48), (⟨"StreamersHeldModel", "taut", "([I)I"⟩, 48), (⟨"StreamersHeldModel", "enters", "(J)V"⟩, 48), (⟨"StreamersHeldModel", "adds", "(I)I"⟩, 48), (⟨"StreamersHeldModel", "runsTo", "(II)I"⟩, 48), (⟨"StreamersHeldModel", "counted", "(I)I"⟩, 48), (⟨"StreamersHeldModel", "ratesTo", "(II)I"⟩, 48), (⟨"StreamersHeldModel", "becomes", "(III)I"⟩, 48), (⟨"StreamersHeldModel", "reelsMore", "(II)I"⟩, 48), (⟨"StreamersHeldModel", "dropsOne", "(I)I"⟩, 48), (⟨"StreamersHeldModel", "speedsTo", "(I)I"⟩, 48)]
theorem lw_r5 : ∀ q ∈ lw_privs_5, lw_okq q := List.forall_mem_cons.mpr ⟨lw_p64, List.forall_mem_cons.mpr ⟨lw_p65, List.forall_mem_cons.mpr ⟨lw_p66, List.forall_mem_cons.mpr ⟨lw_p67, List.forall_mem_cons.mpr ⟨lw_p68, List.forall_mem_cons.mpr ⟨lw_p69, List.forall_mem_cons.mpr ⟨lw_p70, List.forall_mem_cons.mpr ⟨lw_p71, List.forall_mem_cons.mpr ⟨lw_p72, List.forall_mem_cons.mpr ⟨lw_p73, List.forall_mem_cons.mpr ⟨lw_p74, List.forall_mem_cons.mpr ⟨lw_p75, List.forall_mem_cons.mpr ⟨lw_p76, List.forall_mem_cons.mpr ⟨lw_p77, List.forall_mem_cons.mpr ⟨lw_p78, List.forall_mem_cons.mpr ⟨lw_p79, fun _ h => absurd h List.not_mem_nil⟩⟩⟩⟩⟩⟩⟩⟩⟩⟩⟩⟩⟩⟩⟩⟩
theorem lw_p80 : lw_okq (⟨"StreamersHeldModel", "readsAct", "()Z"⟩, 48) := ⟨⟨by decide +kernel, by decide +kernel⟩, List.mem_of_getElem? (i := 965) (by decide +kernel), List.mem_of_getElem? (i := 1397) (by decide +kernel), List.mem_of_getElem? (i := 1398) (by decide +kernel)⟩
theorem lw_p81 : lw_okq (⟨"StreamersHeldModel", "does", "(I)Z"⟩, 48) := ⟨⟨by decide +kernel, by decide +kernel⟩, List.mem_of_getElem? (i := 965) (by decide +kernel), List.mem_of_getElem? (i := 1402) (by decide +kernel), List.mem_of_getElem? (i := 1403) (by decide +kernel)⟩
theorem lw_p82 : lw_okq (⟨"StreamersHeldModel", "heldAt", "(III)I"⟩, 48) := ⟨⟨by decide +kernel, by decide +kernel⟩, List.mem_of_getElem? (i := 965) (by decide +kernel), List.mem_of_getElem? (i := 1441) (by decide +kernel), List.mem_of_getElem? (i := 1442) (by decide +kernel)⟩
theorem lw_p83 : lw_okq (⟨"StreamersHeldModel", "heldBy", "(II)I"⟩, 48) := ⟨⟨by decide +kernel, by decide +kernel⟩, List.mem_of_getElem? (i := 965) (by decide +kernel), List.mem_of_getElem? (i := 1450) (by decide +kernel), List.mem_of_getElem? (i := 1451) (by decide +kernel)⟩
theorem lw_p84 : lw_okq (⟨"StreamersHeldModel", "entersFewest", "(I)I"⟩, 48) := ⟨⟨by decide +kernel, by decide +kernel⟩, List.mem_of_getElem? (i := 965) (by decide +kernel), List.mem_of_getElem? (i := 1461) (by decide +kernel), List.mem_of_getElem? (i := 1462) (by decide +kernel)⟩
theorem lw_p85 : lw_okq (⟨"StreamersHeldModel", "turnsIt", "(II)Z"⟩, 48) := ⟨⟨by decide +kernel, by decide +kernel⟩, List.mem_of_getElem? (i := 965) (by decide +kernel), List.mem_of_getElem? (i := 1473) (by decide +kernel), List.mem_of_getElem? (i := 1474) (by decide +kernel)⟩
theorem lw_p86 : lw_okq (⟨"StreamersHeldModel", "decides", "(I)Z"⟩, 48) := ⟨⟨by decide +kernel, by decide +kernel⟩, List.mem_of_getElem? (i := 965) (by decide +kernel), List.mem_of_getElem? (i := 1477) (by decide +kernel), List.mem_of_getElem? (i := 1478) (by decide +kernel)⟩
theorem lw_p87 : lw_okq (⟨"StreamersHeldModel", "entersFraction", "(JJ)I"⟩, 48) := ⟨⟨by decide +kernel, by decide +kernel⟩, List.mem_of_getElem? (i := 965) (by decide +kernel), List.mem_of_getElem? (i := 1481) (by decide +kernel), List.mem_of_getElem? (i := 1482) (by decide +kernel)⟩
theorem lw_p88 : lw_okq (⟨"StreamersHeldModel", "isAsSeen", "(I)Z"⟩, 48) := ⟨⟨by decide +kernel, by decide +kernel⟩, List.mem_of_getElem? (i := 965) (by decide +kernel), List.mem_of_getElem? (i := 1525) (by decide +kernel), List.mem_of_getElem? (i := 1526) (by decide +kernel)⟩
theorem lw_p89 : lw_okq (⟨"StreamersHeldModel", "lacks", "(III)Z"⟩, 48) := ⟨⟨by decide +kernel, by decide +kernel⟩, List.mem_of_getElem? (i := 965) (by decide +kernel), List.mem_of_getElem? (i := 1529) (by decide +kernel), List.mem_of_getElem? (i := 1530) (by decide +kernel)⟩
theorem lw_p90 : lw_okq (⟨"StreamersHeldModel", "fitting", "()I"⟩, 48) := ⟨⟨by decide +kernel, by decide +kernel⟩, List.mem_of_getElem? (i := 965) (by decide +kernel), List.mem_of_getElem? (i := 1557) (by decide +kernel), List.mem_of_getElem? (i := 1558) (by decide +kernel)⟩
theorem lw_p91 : lw_okq (⟨"StreamersHeldModel", "isSo", "(III)Z"⟩, 48) := ⟨⟨by decide +kernel, by decide +kernel⟩, List.mem_of_getElem? (i := 965) (by decide +kernel), List.mem_of_getElem? (i := 1561) (by decide +kernel), List.mem_of_getElem? (i := 1562) (by decide +kernel)⟩
theorem lw_p92 : lw_okq (⟨"StreamersHeldModel", "isLaw", "(I)Z"⟩, 48) := ⟨⟨by decide +kernel, by decide +kernel⟩, List.mem_of_getElem? (i := 965) (by decide +kernel), List.mem_of_getElem? (i := 1588) (by decide +kernel), List.mem_of_getElem? (i := 1589) (by decide +kernel)⟩
theorem lw_p93 : lw_okq (⟨"StreamersHeldModel", "laysWorth", "(I)V"⟩, 48) := ⟨⟨by decide +kernel, by decide +kernel⟩, List.mem_of_getElem? (i := 965) (by decide +kernel), List.mem_of_getElem? (i := 1603) (by decide +kernel), List.mem_of_getElem? (i := 1604) (by decide +kernel)⟩
theorem lw_p94 : lw_okq (⟨"StreamersHeldModel", "draws", "(I)I"⟩, 48) := ⟨⟨by decide +kernel, by decide +kernel⟩, List.mem_of_getElem? (i := 965) (by decide +kernel), List.mem_of_getElem? (i := 1625) (by decide +kernel), List.mem_of_getElem? (i := 1626) (by decide +kernel)⟩
theorem lw_p95 : lw_okq (⟨"StreamersHeldModel", "reelsOf", "([I)I"⟩, 48) := ⟨⟨by decide +kernel, by decide +kernel⟩, List.mem_of_getElem? (i := 965) (by decide +kernel), List.mem_of_getElem? (i := 1630) (by decide +kernel), List.mem_of_getElem? (i := 1631) (by decide +kernel)⟩
def lw_privs_6 : List (MethodName × Nat) := [(⟨"StreamersHeldModel", "readsAct", "()Z"⟩, 48), (⟨"StreamersHeldModel", "does", "(I)Z"⟩, 48), (⟨"StreamersHeldModel", "heldAt", "(III)I"⟩, 48), (⟨"StreamersHeldModel", "heldBy", "(II)I"⟩, 48), (⟨"StreamersHeldModel", "entersFewest", "(I)I"⟩, 48), (⟨"StreamersHeldModel", "turnsIt", "(II)Z"⟩, 48), (⟨"StreamersHeldModel", "decides", "(I)Z"⟩, 48), (⟨"StreamersHeldModel", "entersFraction", "(JJ)I"⟩, 48), (⟨"StreamersHeldModel", "isAsSeen", "(I)Z"⟩, 48), (⟨"StreamersHeldModel", "lacks", "(III)Z"⟩, 48), (⟨"StreamersHeldModel", "fitting", "()I"⟩, 48), (⟨"StreamersHeldModel", "isSo", "(III)Z"⟩, 48), (⟨"StreamersHeldModel", "isLaw", "(I)Z"⟩, 48), (⟨"StreamersHeldModel", "laysWorth", "(I)V"⟩, 48), (⟨"StreamersHeldModel", "draws", "(I)I"⟩, 48), (⟨"StreamersHeldModel", "reelsOf", "([I)I"⟩, 48)]
theorem lw_r6 : ∀ q ∈ lw_privs_6, lw_okq q := List.forall_mem_cons.mpr ⟨lw_p80, List.forall_mem_cons.mpr ⟨lw_p81, List.forall_mem_cons.mpr ⟨lw_p82, List.forall_mem_cons.mpr ⟨lw_p83, List.forall_mem_cons.mpr ⟨lw_p84, List.forall_mem_cons.mpr ⟨lw_p85, List.forall_mem_cons.mpr ⟨lw_p86, List.forall_mem_cons.mpr ⟨lw_p87, List.forall_mem_cons.mpr ⟨lw_p88, List.forall_mem_cons.mpr ⟨lw_p89, List.forall_mem_cons.mpr ⟨lw_p90, List.forall_mem_cons.mpr ⟨lw_p91, List.forall_mem_cons.mpr ⟨lw_p92, List.forall_mem_cons.mpr ⟨lw_p93, List.forall_mem_cons.mpr ⟨lw_p94, List.forall_mem_cons.mpr ⟨lw_p95, fun _ h => absurd h List.not_mem_nil⟩⟩⟩⟩⟩⟩⟩⟩⟩⟩⟩⟩⟩⟩⟩⟩
def lw_privs : List (MethodName × Nat) := lw_privs_1 ++ (lw_privs_2 ++ (lw_privs_3 ++ (lw_privs_4 ++ (lw_privs_5 ++ (lw_privs_6)))))
def lw_tbl : List Cond := k2_sels lw_privs ++ tables_1
theorem lw_privs_ok : ∀ q ∈ lw_privs, lw_okq q := by
  show ∀ q ∈ lw_privs_1 ++ (lw_privs_2 ++ (lw_privs_3 ++ (lw_privs_4 ++ (lw_privs_5 ++ (lw_privs_6))))), lw_okq q
  exact List.forall_mem_append.mpr ⟨lw_r1, List.forall_mem_append.mpr ⟨lw_r2, List.forall_mem_append.mpr ⟨lw_r3, List.forall_mem_append.mpr ⟨lw_r4, List.forall_mem_append.mpr ⟨lw_r5, lw_r6⟩⟩⟩⟩⟩
end
section
def RX0 : String := "StreamersHeld$Facts"
def TX0 : u_T := fun k => match k with
  | 0 => ("StreamersHeld$Facts", "first", "[I", true)
  | 1 => ("StreamersHeld$Facts", "second", "[I", true)
  | 2 => ("StreamersHeld$Facts", "third", "[I", true)
  | 3 => ("StreamersHeld$Facts", "most", "I", true)
  | _ => ("StreamersHeld$Facts", "size", "I", false)
def tyX0 : Nat → FieldType := fun k => match k with
  | 0 => .array .int
  | 1 => .array .int
  | 2 => .array .int
  | 3 => .int
  | _ => .int
abbrev wsX00 : List Cond := u_ws RX0 TX0 5
theorem nmX0 : ∀ a, a < 5 → ∀ b, b < 5 → a ≠ b → (TX0 a).2.1 ≠ (TX0 b).2.1 := by decide +kernel
theorem tyX0_ok : ∀ k, k < 5 → parseFieldDescriptor (TX0 k).2.2.1 = some (tyX0 k) := by decide +kernel
abbrev cX0_init : ByteArray := prog_2_method_1_code
def yX0_init : MethodName := ⟨RX0, "<init>", "(I)V"⟩
abbrev cX0_add : ByteArray := prog_2_method_2_code
def yX0_add : MethodName := ⟨RX0, "add", "(III)I"⟩
abbrev cX0_drop : ByteArray := prog_2_method_3_code
def yX0_drop : MethodName := ⟨RX0, "drop", "()I"⟩
def RX1 : String := "StreamersHeld$Memory"
def TX1 : u_T := fun k => match k with
  | 0 => ("StreamersHeld$Memory", "ring", "[I", true)
  | 1 => ("StreamersHeld$Memory", "kept", "[I", true)
  | 2 => ("StreamersHeld$Memory", "next", "I", false)
  | 3 => ("StreamersHeld$Memory", "undoable", "I", false)
  | _ => ("StreamersHeld$Memory", "keptNumbers", "I", false)
def tyX1 : Nat → FieldType := fun k => match k with
  | 0 => .array .int
  | 1 => .array .int
  | 2 => .int
  | 3 => .int
  | _ => .int
abbrev wsX10 : List Cond := u_ws RX1 TX1 5
theorem nmX1 : ∀ a, a < 5 → ∀ b, b < 5 → a ≠ b → (TX1 a).2.1 ≠ (TX1 b).2.1 := by decide +kernel
theorem tyX1_ok : ∀ k, k < 5 → parseFieldDescriptor (TX1 k).2.2.1 = some (tyX1 k) := by decide +kernel
abbrev cX1_init : ByteArray := prog_3_method_1_code
def yX1_init : MethodName := ⟨RX1, "<init>", "()V"⟩
abbrev cX1_mark : ByteArray := prog_3_method_2_code
def yX1_mark : MethodName := ⟨RX1, "mark", "(LStreamersHeld$Sail;)V"⟩
abbrev cX1_confirm : ByteArray := prog_3_method_3_code
def yX1_confirm : MethodName := ⟨RX1, "confirm", "()V"⟩
abbrev cX1_bringBack : ByteArray := prog_3_method_4_code
def yX1_bringBack : MethodName := ⟨RX1, "bringBack", "(LStreamersHeld$Sail;)Z"⟩
abbrev cX1_keepUnder : ByteArray := prog_3_method_5_code
def yX1_keepUnder : MethodName := ⟨RX1, "keepUnder", "(ILStreamersHeld$Sail;)Z"⟩
abbrev cX1_bringKept : ByteArray := prog_3_method_6_code
def yX1_bringKept : MethodName := ⟨RX1, "bringKept", "(ILStreamersHeld$Sail;)Z"⟩
abbrev cX1_loseAll : ByteArray := prog_3_method_7_code
def yX1_loseAll : MethodName := ⟨RX1, "loseAll", "()V"⟩
def RX2 : String := "StreamersHeld$Row"
def TX2 : u_T := fun k => match k with
  | 0 => ("StreamersHeld$Row", "numbers", "[J", true)
  | _ => ("StreamersHeld$Row", "size", "I", false)
def tyX2 : Nat → FieldType := fun k => match k with
  | 0 => .array .long
  | _ => .int
abbrev wsX20 : List Cond := u_ws RX2 TX2 2
theorem nmX2 : ∀ a, a < 2 → ∀ b, b < 2 → a ≠ b → (TX2 a).2.1 ≠ (TX2 b).2.1 := by decide +kernel
theorem tyX2_ok : ∀ k, k < 2 → parseFieldDescriptor (TX2 k).2.2.1 = some (tyX2 k) := by decide +kernel
abbrev cX2_init : ByteArray := prog_4_method_1_code
def yX2_init : MethodName := ⟨RX2, "<init>", "()V"⟩
abbrev cX2_clear : ByteArray := prog_4_method_2_code
def yX2_clear : MethodName := ⟨RX2, "clear", "()V"⟩
abbrev cX2_add : ByteArray := prog_4_method_3_code
def yX2_add : MethodName := ⟨RX2, "add", "(J)V"⟩
def RX3 : String := "StreamersHeld$Rule"
def TX3 : u_T := fun k => match k with
  | 0 => ("StreamersHeld$Rule", "steps", "[I", true)
  | 1 => ("StreamersHeld$Rule", "waiting", "[I", true)
  | 2 => ("StreamersHeld$Rule", "stack", "[I", true)
  | 3 => ("StreamersHeld$Rule", "size", "I", false)
  | 4 => ("StreamersHeld$Rule", "waits", "I", false)
  | 5 => ("StreamersHeld$Rule", "nested", "I", false)
  | 6 => ("StreamersHeld$Rule", "compared", "I", false)
  | 7 => ("StreamersHeld$Rule", "digits", "I", false)
  | _ => ("StreamersHeld$Rule", "wantsThing", "Z", false)
def tyX3 : Nat → FieldType := fun k => match k with
  | 0 => .array .int
  | 1 => .array .int
  | 2 => .array .int
  | 3 => .int
  | 4 => .int
  | 5 => .int
  | 6 => .int
  | 7 => .int
  | _ => .boolean
abbrev wsX30 : List Cond := u_ws RX3 TX3 9
theorem nmX3 : ∀ a, a < 9 → ∀ b, b < 9 → a ≠ b → (TX3 a).2.1 ≠ (TX3 b).2.1 := by decide +kernel
theorem tyX3_ok : ∀ k, k < 9 → parseFieldDescriptor (TX3 k).2.2.1 = some (tyX3 k) := by decide +kernel
abbrev cX3_init : ByteArray := prog_5_method_1_code
def yX3_init : MethodName := ⟨RX3, "<init>", "()V"⟩
abbrev cX3_copy : ByteArray := prog_5_method_2_code
def yX3_copy : MethodName := ⟨RX3, "copy", "(LStreamersHeld$Rule;)V"⟩
abbrev cX3_read : ByteArray := prog_5_method_3_code
def yX3_read : MethodName := ⟨RX3, "read", "(LStreamersHeld$Text;)I"⟩
abbrev cX3_take : ByteArray := prog_5_method_4_code
def yX3_take : MethodName := ⟨RX3, "take", "(I)Z"⟩
abbrev cX3_takeThing : ByteArray := prog_5_method_5_code
def yX3_takeThing : MethodName := ⟨RX3, "takeThing", "(I)Z"⟩
abbrev cX3_takeDigit : ByteArray := prog_5_method_6_code
def yX3_takeDigit : MethodName := ⟨RX3, "takeDigit", "(I)Z"⟩
abbrev cX3_takeBetween : ByteArray := prog_5_method_7_code
def yX3_takeBetween : MethodName := ⟨RX3, "takeBetween", "(I)Z"⟩
abbrev cX3_open : ByteArray := prog_5_method_8_code
def yX3_open : MethodName := ⟨RX3, "open", "()Z"⟩
abbrev cX3_close : ByteArray := prog_5_method_9_code
def yX3_close : MethodName := ⟨RX3, "close", "()Z"⟩
abbrev cX3_release : ByteArray := prog_5_method_10_code
def yX3_release : MethodName := ⟨RX3, "release", "(I)V"⟩
abbrev cX3_hold : ByteArray := prog_5_method_11_code
def yX3_hold : MethodName := ⟨RX3, "hold", "(I)V"⟩
abbrev cX3_emit : ByteArray := prog_5_method_12_code
def yX3_emit : MethodName := ⟨RX3, "emit", "(I)V"⟩
abbrev cX3_isName : ByteArray := prog_5_method_13_code
def yX3_isName : MethodName := ⟨RX3, "isName", "(I)Z"⟩
abbrev cX3_bindingOf : ByteArray := prog_5_method_14_code
def yX3_bindingOf : MethodName := ⟨RX3, "bindingOf", "(I)I"⟩
abbrev cX3_pull : ByteArray := prog_5_method_15_code
def yX3_pull : MethodName := ⟨RX3, "pull", "(LStreamersHeld$Sail;I)I"⟩
abbrev cX3_valueOf : ByteArray := prog_5_method_16_code
def yX3_valueOf : MethodName := ⟨RX3, "valueOf", "(ILStreamersHeld$Sail;I)I"⟩
abbrev cX3_join : ByteArray := prog_5_method_17_code
def yX3_join : MethodName := ⟨RX3, "join", "(III)I"⟩
def RX4 : String := "StreamersHeld$Sail"
def TX4 : u_T := fun k => match k with
  | 0 => ("StreamersHeld$Sail", "colour", "[I", true)
  | 1 => ("StreamersHeld$Sail", "strength", "[I", true)
  | 2 => ("StreamersHeld$Sail", "reel", "[I", true)
  | 3 => ("StreamersHeld$Sail", "rate", "[I", true)
  | 4 => ("StreamersHeld$Sail", "place", "[I", true)
  | 5 => ("StreamersHeld$Sail", "length", "[I", true)
  | 6 => ("StreamersHeld$Sail", "many", "I", false)
  | 7 => ("StreamersHeld$Sail", "everyone", "I", false)
  | 8 => ("StreamersHeld$Sail", "broken", "I", false)
  | 9 => ("StreamersHeld$Sail", "dropped", "I", false)
  | 10 => ("StreamersHeld$Sail", "way", "I", false)
  | 11 => ("StreamersHeld$Sail", "speed", "I", false)
  | _ => ("StreamersHeld$Sail", "hour", "I", false)
def tyX4 : Nat → FieldType := fun k => match k with
  | 0 => .array .int
  | 1 => .array .int
  | 2 => .array .int
  | 3 => .array .int
  | 4 => .array .int
  | 5 => .array .int
  | 6 => .int
  | 7 => .int
  | 8 => .int
  | 9 => .int
  | 10 => .int
  | 11 => .int
  | _ => .int
abbrev wsX40 : List Cond := u_ws RX4 TX4 13
theorem nmX4 : ∀ a, a < 13 → ∀ b, b < 13 → a ≠ b → (TX4 a).2.1 ≠ (TX4 b).2.1 := by decide +kernel
theorem tyX4_ok : ∀ k, k < 13 → parseFieldDescriptor (TX4 k).2.2.1 = some (tyX4 k) := by decide +kernel
abbrev cX4_init : ByteArray := prog_6_method_1_code
def yX4_init : MethodName := ⟨RX4, "<init>", "()V"⟩
abbrev cX4_knows : ByteArray := prog_6_method_2_code
def yX4_knows : MethodName := ⟨RX4, "knows", "(I)Z"⟩
abbrev cX4_come : ByteArray := prog_6_method_3_code
def yX4_come : MethodName := ⟨RX4, "come", "(IIIII)V"⟩
abbrev cX4_holding : ByteArray := prog_6_method_4_code
def yX4_holding : MethodName := ⟨RX4, "holding", "()I"⟩
abbrev cX4_holds : ByteArray := prog_6_method_5_code
def yX4_holds : MethodName := ⟨RX4, "holds", "(I)Z"⟩
abbrev cX4_fate : ByteArray := prog_6_method_6_code
def yX4_fate : MethodName := ⟨RX4, "fate", "(I)I"⟩
abbrev cX4_reach : ByteArray := prog_6_method_7_code
def yX4_reach : MethodName := ⟨RX4, "reach", "(I)I"⟩
abbrev cX4_lack : ByteArray := prog_6_method_8_code
def yX4_lack : MethodName := ⟨RX4, "lack", "(I)I"⟩
abbrev cX4_taut : ByteArray := prog_6_method_9_code
def yX4_taut : MethodName := ⟨RX4, "taut", "()I"⟩
abbrev cX4_ofColour : ByteArray := prog_6_method_10_code
def yX4_ofColour : MethodName := ⟨RX4, "ofColour", "(I)I"⟩
abbrev cX4_asStrong : ByteArray := prog_6_method_11_code
def yX4_asStrong : MethodName := ⟨RX4, "asStrong", "(I)I"⟩
abbrev cX4_asFarAlong : ByteArray := prog_6_method_12_code
def yX4_asFarAlong : MethodName := ⟨RX4, "asFarAlong", "(I)I"⟩
abbrev cX4_companions : ByteArray := prog_6_method_13_code
def yX4_companions : MethodName := ⟨RX4, "companions", "(I)I"⟩
abbrev cX4_weight : ByteArray := prog_6_method_14_code
def yX4_weight : MethodName := ⟨RX4, "weight", "(I)I"⟩
abbrev cX4_lengths : ByteArray := prog_6_method_15_code
def yX4_lengths : MethodName := ⟨RX4, "lengths", "(I)I"⟩
abbrev cX4_reelsTogether : ByteArray := prog_6_method_16_code
def yX4_reelsTogether : MethodName := ⟨RX4, "reelsTogether", "()I"⟩
abbrev cX4_heldBack : ByteArray := prog_6_method_17_code
def yX4_heldBack : MethodName := ⟨RX4, "heldBack", "()I"⟩
abbrev cX4_passHours : ByteArray := prog_6_method_18_code
def yX4_passHours : MethodName := ⟨RX4, "passHours", "(LStreamersHeld$Rule;I)V"⟩
abbrev cX4_passHour : ByteArray := prog_6_method_19_code
def yX4_passHour : MethodName := ⟨RX4, "passHour", "(LStreamersHeld$Rule;)V"⟩
abbrev cX4_payOut : ByteArray := prog_6_method_20_code
def yX4_payOut : MethodName := ⟨RX4, "payOut", "()V"⟩
abbrev cX4_copy : ByteArray := prog_6_method_21_code
def yX4_copy : MethodName := ⟨RX4, "copy", "(LStreamersHeld$Sail;)V"⟩
abbrev cX4_write : ByteArray := prog_6_method_22_code
def yX4_write : MethodName := ⟨RX4, "write", "([II)V"⟩
abbrev cX4_readBack : ByteArray := prog_6_method_23_code
def yX4_readBack : MethodName := ⟨RX4, "readBack", "([II)V"⟩
def RX5 : String := "StreamersHeld$Text"
def TX5 : u_T := fun k => match k with
  | 0 => ("StreamersHeld$Text", "signs", "[I", true)
  | _ => ("StreamersHeld$Text", "size", "I", false)
def tyX5 : Nat → FieldType := fun k => match k with
  | 0 => .array .int
  | _ => .int
abbrev wsX50 : List Cond := u_ws RX5 TX5 2
theorem nmX5 : ∀ a, a < 2 → ∀ b, b < 2 → a ≠ b → (TX5 a).2.1 ≠ (TX5 b).2.1 := by decide +kernel
theorem tyX5_ok : ∀ k, k < 2 → parseFieldDescriptor (TX5 k).2.2.1 = some (tyX5 k) := by decide +kernel
abbrev cX5_init : ByteArray := prog_7_method_1_code
def yX5_init : MethodName := ⟨RX5, "<init>", "()V"⟩
abbrev cX5_append : ByteArray := prog_7_method_2_code
def yX5_append : MethodName := ⟨RX5, "append", "(I)I"⟩
abbrev cX5_shorten : ByteArray := prog_7_method_3_code
def yX5_shorten : MethodName := ⟨RX5, "shorten", "(I)Z"⟩
abbrev cX5_at : ByteArray := prog_7_method_4_code
def yX5_at : MethodName := ⟨RX5, "at", "(I)I"⟩
abbrev cX5_digit : ByteArray := prog_7_method_5_code
def yX5_digit : MethodName := ⟨RX5, "digit", "(I)I"⟩
def RX6 : String := "StreamersHeld"
def TX6 : u_T := fun k => match k with
  | 0 => ("StreamersHeld", "text", "LStreamersHeld$Text;", true)
  | 1 => ("StreamersHeld", "told", "LStreamersHeld$Row;", true)
  | 2 => ("StreamersHeld", "sail", "LStreamersHeld$Sail;", true)
  | 3 => ("StreamersHeld", "future", "LStreamersHeld$Sail;", true)
  | 4 => ("StreamersHeld", "ruling", "LStreamersHeld$Rule;", true)
  | 5 => ("StreamersHeld", "otherRule", "LStreamersHeld$Rule;", true)
  | 6 => ("StreamersHeld", "memory", "LStreamersHeld$Memory;", true)
  | 7 => ("StreamersHeld", "sights", "LStreamersHeld$Facts;", true)
  | 8 => ("StreamersHeld", "rumours", "LStreamersHeld$Facts;", true)
  | 9 => ("StreamersHeld", "partings", "LStreamersHeld$Facts;", true)
  | 10 => ("StreamersHeld", "waysFrom", "[I", true)
  | 11 => ("StreamersHeld", "nimbers", "[I", true)
  | 12 => ("StreamersHeld", "nimbersKnown", "I", false)
  | _ => ("StreamersHeld", "drawn", "I", false)
def tyX6 : Nat → FieldType := fun k => match k with
  | 0 => .object "StreamersHeld$Text"
  | 1 => .object "StreamersHeld$Row"
  | 2 => .object "StreamersHeld$Sail"
  | 3 => .object "StreamersHeld$Sail"
  | 4 => .object "StreamersHeld$Rule"
  | 5 => .object "StreamersHeld$Rule"
  | 6 => .object "StreamersHeld$Memory"
  | 7 => .object "StreamersHeld$Facts"
  | 8 => .object "StreamersHeld$Facts"
  | 9 => .object "StreamersHeld$Facts"
  | 10 => .array .int
  | 11 => .array .int
  | 12 => .int
  | _ => .int
abbrev wsX60 : List Cond := u_ws RX6 TX6 14
theorem nmX6 : ∀ a, a < 14 → ∀ b, b < 14 → a ≠ b → (TX6 a).2.1 ≠ (TX6 b).2.1 := by decide +kernel
theorem tyX6_ok : ∀ k, k < 14 → parseFieldDescriptor (TX6 k).2.2.1 = some (tyX6 k) := by decide +kernel
abbrev cX6_init : ByteArray := prog_1_method_1_code
def yX6_init : MethodName := ⟨RX6, "<init>", "()V"⟩
abbrev cX6_sign : ByteArray := prog_1_method_2_code
def yX6_sign : MethodName := ⟨RX6, "sign", "(I)I"⟩
abbrev cX6_end : ByteArray := prog_1_method_3_code
def yX6_end : MethodName := ⟨RX6, "end", "(I)Z"⟩
abbrev cX6_streamers : ByteArray := prog_1_method_4_code
def yX6_streamers : MethodName := ⟨RX6, "streamers", "()I"⟩
abbrev cX6_rule : ByteArray := prog_1_method_5_code
def yX6_rule : MethodName := ⟨RX6, "rule", "()I"⟩
abbrev cX6_streamer : ByteArray := prog_1_method_6_code
def yX6_streamer : MethodName := ⟨RX6, "streamer", "(II)I"⟩
abbrev cX6_sheet : ByteArray := prog_1_method_7_code
def yX6_sheet : MethodName := ⟨RX6, "sheet", "(IIII)I"⟩
abbrev cX6_hours : ByteArray := prog_1_method_8_code
def yX6_hours : MethodName := ⟨RX6, "hours", "(I)I"⟩
abbrev cX6_runs : ByteArray := prog_1_method_9_code
def yX6_runs : MethodName := ⟨RX6, "runs", "(II)I"⟩
abbrev cX6_rates : ByteArray := prog_1_method_10_code
def yX6_rates : MethodName := ⟨RX6, "rates", "(II)I"⟩
abbrev cX6_reels : ByteArray := prog_1_method_11_code
def yX6_reels : MethodName := ⟨RX6, "reels", "(II)I"⟩
abbrev cX6_drops : ByteArray := prog_1_method_12_code
def yX6_drops : MethodName := ⟨RX6, "drops", "(I)I"⟩
abbrev cX6_speed : ByteArray := prog_1_method_13_code
def yX6_speed : MethodName := ⟨RX6, "speed", "(I)I"⟩
abbrev cX6_sailing : ByteArray := prog_1_method_14_code
def yX6_sailing : MethodName := ⟨RX6, "sailing", "()I"⟩
abbrev cX6_undo : ByteArray := prog_1_method_15_code
def yX6_undo : MethodName := ⟨RX6, "undo", "()I"⟩
abbrev cX6_later : ByteArray := prog_1_method_16_code
def yX6_later : MethodName := ⟨RX6, "later", "(I)I"⟩
abbrev cX6_when : ByteArray := prog_1_method_17_code
def yX6_when : MethodName := ⟨RX6, "when", "(I)I"⟩
abbrev cX6_order : ByteArray := prog_1_method_18_code
def yX6_order : MethodName := ⟨RX6, "order", "()I"⟩
abbrev cX6_gone : ByteArray := prog_1_method_19_code
def yX6_gone : MethodName := ⟨RX6, "gone", "()I"⟩
abbrev cX6_stopped : ByteArray := prog_1_method_20_code
def yX6_stopped : MethodName := ⟨RX6, "stopped", "()I"⟩
abbrev cX6_drag : ByteArray := prog_1_method_21_code
def yX6_drag : MethodName := ⟨RX6, "drag", "()I"⟩
abbrev cX6_thrift : ByteArray := prog_1_method_22_code
def yX6_thrift : MethodName := ⟨RX6, "thrift", "(II)I"⟩
abbrev cX6_mole : ByteArray := prog_1_method_23_code
def yX6_mole : MethodName := ⟨RX6, "mole", "(II)I"⟩
abbrev cX6_slows : ByteArray := prog_1_method_24_code
def yX6_slows : MethodName := ⟨RX6, "slows", "(II)I"⟩
abbrev cX6_halts : ByteArray := prog_1_method_25_code
def yX6_halts : MethodName := ⟨RX6, "halts", "()I"⟩
abbrev cX6_frees : ByteArray := prog_1_method_26_code
def yX6_frees : MethodName := ⟨RX6, "frees", "(II)I"⟩
abbrev cX6_power : ByteArray := prog_1_method_27_code
def yX6_power : MethodName := ⟨RX6, "power", "(I)I"⟩
abbrev cX6_pivots : ByteArray := prog_1_method_28_code
def yX6_pivots : MethodName := ⟨RX6, "pivots", "(I)I"⟩
abbrev cX6_colours : ByteArray := prog_1_method_29_code
def yX6_colours : MethodName := ⟨RX6, "colours", "()I"⟩
abbrev cX6_parties : ByteArray := prog_1_method_30_code
def yX6_parties : MethodName := ⟨RX6, "parties", "()I"⟩
abbrev cX6_ends : ByteArray := prog_1_method_31_code
def yX6_ends : MethodName := ⟨RX6, "ends", "(IIII)I"⟩
abbrev cX6_just : ByteArray := prog_1_method_32_code
def yX6_just : MethodName := ⟨RX6, "just", "(I)I"⟩
abbrev cX6_seen : ByteArray := prog_1_method_33_code
def yX6_seen : MethodName := ⟨RX6, "seen", "(III)I"⟩
abbrev cX6_forget : ByteArray := prog_1_method_34_code
def yX6_forget : MethodName := ⟨RX6, "forget", "()I"⟩
abbrev cX6_guess : ByteArray := prog_1_method_35_code
def yX6_guess : MethodName := ⟨RX6, "guess", "()I"⟩
abbrev cX6_looks : ByteArray := prog_1_method_36_code
def yX6_looks : MethodName := ⟨RX6, "looks", "()I"⟩
abbrev cX6_heard : ByteArray := prog_1_method_37_code
def yX6_heard : MethodName := ⟨RX6, "heard", "(II)I"⟩
abbrev cX6_denies : ByteArray := prog_1_method_38_code
def yX6_denies : MethodName := ⟨RX6, "denies", "()I"⟩
abbrev cX6_fits : ByteArray := prog_1_method_39_code
def yX6_fits : MethodName := ⟨RX6, "fits", "()I"⟩
abbrev cX6_asks : ByteArray := prog_1_method_40_code
def yX6_asks : MethodName := ⟨RX6, "asks", "()I"⟩
abbrev cX6_odds : ByteArray := prog_1_method_41_code
def yX6_odds : MethodName := ⟨RX6, "odds", "(II)I"⟩
abbrev cX6_saw : ByteArray := prog_1_method_42_code
def yX6_saw : MethodName := ⟨RX6, "saw", "(III)I"⟩
abbrev cX6_clears : ByteArray := prog_1_method_43_code
def yX6_clears : MethodName := ⟨RX6, "clears", "()I"⟩
abbrev cX6_laws : ByteArray := prog_1_method_44_code
def yX6_laws : MethodName := ⟨RX6, "laws", "()I"⟩
abbrev cX6_tries : ByteArray := prog_1_method_45_code
def yX6_tries : MethodName := ⟨RX6, "tries", "()I"⟩
abbrev cX6_letting : ByteArray := prog_1_method_46_code
def yX6_letting : MethodName := ⟨RX6, "letting", "(I)I"⟩
abbrev cX6_law : ByteArray := prog_1_method_47_code
def yX6_law : MethodName := ⟨RX6, "law", "()I"⟩
abbrev cX6_wars : ByteArray := prog_1_method_48_code
def yX6_wars : MethodName := ⟨RX6, "wars", "(I)I"⟩
abbrev cX6_years : ByteArray := prog_1_method_49_code
def yX6_years : MethodName := ⟨RX6, "years", "(II)I"⟩
abbrev cX6_keep : ByteArray := prog_1_method_50_code
def yX6_keep : MethodName := ⟨RX6, "keep", "(I)Z"⟩
abbrev cX6_again : ByteArray := prog_1_method_51_code
def yX6_again : MethodName := ⟨RX6, "again", "(I)Z"⟩
abbrev cX6_count : ByteArray := prog_1_method_52_code
def yX6_count : MethodName := ⟨RX6, "count", "(I)I"⟩
abbrev cX6_row : ByteArray := prog_1_method_53_code
def yX6_row : MethodName := ⟨RX6, "row", "(I)J"⟩
abbrev cX6_within : ByteArray := prog_1_method_54_code
def yX6_within : MethodName := ⟨RX6, "within", "(III)I"⟩
abbrev cX6_isBit : ByteArray := prog_1_method_55_code
def yX6_isBit : MethodName := ⟨RX6, "isBit", "(I)Z"⟩
abbrev cX6_isDigit : ByteArray := prog_1_method_56_code
def yX6_isDigit : MethodName := ⟨RX6, "isDigit", "(I)Z"⟩
abbrev cX6_isSpan : ByteArray := prog_1_method_57_code
def yX6_isSpan : MethodName := ⟨RX6, "isSpan", "(I)Z"⟩
abbrev cX6_isIn : ByteArray := prog_1_method_58_code
def yX6_isIn : MethodName := ⟨RX6, "isIn", "(II)Z"⟩
abbrev cX6_isWithin : ByteArray := prog_1_method_59_code
def yX6_isWithin : MethodName := ⟨RX6, "isWithin", "(II)Z"⟩
abbrev cX6_tell : ByteArray := prog_1_method_60_code
def yX6_tell : MethodName := ⟨RX6, "tell", "(J)V"⟩
abbrev cX6_tell_ : ByteArray := prog_1_method_61_code
def yX6_tell_ : MethodName := ⟨RX6, "tell", "(JJ)V"⟩
abbrev cX6_tellFraction : ByteArray := prog_1_method_62_code
def yX6_tellFraction : MethodName := ⟨RX6, "tellFraction", "(JJ)V"⟩
abbrev cX6_tellSet : ByteArray := prog_1_method_63_code
def yX6_tellSet : MethodName := ⟨RX6, "tellSet", "(II)I"⟩
abbrev cX6_foresee : ByteArray := prog_1_method_64_code
def yX6_foresee : MethodName := ⟨RX6, "foresee", "(I)V"⟩
abbrev cX6_badLineSign : ByteArray := prog_1_method_65_code
def yX6_badLineSign : MethodName := ⟨RX6, "badLineSign", "()I"⟩
abbrev cX6_fitsLine : ByteArray := prog_1_method_66_code
def yX6_fitsLine : MethodName := ⟨RX6, "fitsLine", "(I)Z"⟩
abbrev cX6_addLines : ByteArray := prog_1_method_67_code
def yX6_addLines : MethodName := ⟨RX6, "addLines", "()V"⟩
abbrev cX6_colourOf : ByteArray := prog_1_method_68_code
def yX6_colourOf : MethodName := ⟨RX6, "colourOf", "(I)I"⟩
abbrev cX6_asKind : ByteArray := prog_1_method_69_code
def yX6_asKind : MethodName := ⟨RX6, "asKind", "(II)I"⟩
abbrev cX6_badActSign : ByteArray := prog_1_method_70_code
def yX6_badActSign : MethodName := ⟨RX6, "badActSign", "()I"⟩
abbrev cX6_digitsBehind : ByteArray := prog_1_method_71_code
def yX6_digitsBehind : MethodName := ⟨RX6, "digitsBehind", "(I)I"⟩
abbrev cX6_settled : ByteArray := prog_1_method_72_code
def yX6_settled : MethodName := ⟨RX6, "settled", "(I)I"⟩
abbrev cX6_act : ByteArray := prog_1_method_73_code
def yX6_act : MethodName := ⟨RX6, "act", "(I)I"⟩
abbrev cX6_goHours : ByteArray := prog_1_method_74_code
def yX6_goHours : MethodName := ⟨RX6, "goHours", "(I)I"⟩
abbrev cX6_runTo : ByteArray := prog_1_method_75_code
def yX6_runTo : MethodName := ⟨RX6, "runTo", "(II)I"⟩
abbrev cX6_setRate : ByteArray := prog_1_method_76_code
def yX6_setRate : MethodName := ⟨RX6, "setRate", "(II)I"⟩
abbrev cX6_fillReel : ByteArray := prog_1_method_77_code
def yX6_fillReel : MethodName := ⟨RX6, "fillReel", "(II)I"⟩
abbrev cX6_turnEnd : ByteArray := prog_1_method_78_code
def yX6_turnEnd : MethodName := ⟨RX6, "turnEnd", "(I)I"⟩
abbrev cX6_setSpeed : ByteArray := prog_1_method_79_code
def yX6_setSpeed : MethodName := ⟨RX6, "setSpeed", "(I)I"⟩
abbrev cX6_hoursHeld : ByteArray := prog_1_method_80_code
def yX6_hoursHeld : MethodName := ⟨RX6, "hoursHeld", "(II)I"⟩
abbrev cX6_holdBySpeed : ByteArray := prog_1_method_81_code
def yX6_holdBySpeed : MethodName := ⟨RX6, "holdBySpeed", "(II)I"⟩
abbrev cX6_holdsWithout : ByteArray := prog_1_method_82_code
def yX6_holdsWithout : MethodName := ⟨RX6, "holdsWithout", "(III)Z"⟩
abbrev cX6_tips : ByteArray := prog_1_method_83_code
def yX6_tips : MethodName := ⟨RX6, "tips", "(II)Z"⟩
abbrev cX6_decides : ByteArray := prog_1_method_84_code
def yX6_decides : MethodName := ⟨RX6, "decides", "(I)Z"⟩
abbrev cX6_orders : ByteArray := prog_1_method_85_code
def yX6_orders : MethodName := ⟨RX6, "orders", "(I)J"⟩
abbrev cX6_times : ByteArray := prog_1_method_86_code
def yX6_times : MethodName := ⟨RX6, "times", "(JI)J"⟩
abbrev cX6_mayBeEnds : ByteArray := prog_1_method_87_code
def yX6_mayBeEnds : MethodName := ⟨RX6, "mayBeEnds", "(I)Z"⟩
abbrev cX6_coloursAre : ByteArray := prog_1_method_88_code
def yX6_coloursAre : MethodName := ⟨RX6, "coloursAre", "(IIIII)Z"⟩
abbrev cX6_fitsSights : ByteArray := prog_1_method_89_code
def yX6_fitsSights : MethodName := ⟨RX6, "fitsSights", "(I)Z"⟩
abbrev cX6_countWaysFrom : ByteArray := prog_1_method_90_code
def yX6_countWaysFrom : MethodName := ⟨RX6, "countWaysFrom", "()I"⟩
abbrev cX6_mayBeHeard : ByteArray := prog_1_method_91_code
def yX6_mayBeHeard : MethodName := ⟨RX6, "mayBeHeard", "(II)Z"⟩
abbrev cX6_fitRumours : ByteArray := prog_1_method_92_code
def yX6_fitRumours : MethodName := ⟨RX6, "fitRumours", "()I"⟩
abbrev cX6_ofWhom : ByteArray := prog_1_method_93_code
def yX6_ofWhom : MethodName := ⟨RX6, "ofWhom", "(II)I"⟩
abbrev cX6_factorOf : ByteArray := prog_1_method_94_code
def yX6_factorOf : MethodName := ⟨RX6, "factorOf", "(I)I"⟩
abbrev cX6_slackOf : ByteArray := prog_1_method_95_code
def yX6_slackOf : MethodName := ⟨RX6, "slackOf", "(I)I"⟩
abbrev cX6_breaks : ByteArray := prog_1_method_96_code
def yX6_breaks : MethodName := ⟨RX6, "breaks", "(III)Z"⟩
abbrev cX6_fitsPartings : ByteArray := prog_1_method_97_code
def yX6_fitsPartings : MethodName := ⟨RX6, "fitsPartings", "(I)Z"⟩
abbrev cX6_fittingLaws : ByteArray := prog_1_method_98_code
def yX6_fittingLaws : MethodName := ⟨RX6, "fittingLaws", "()J"⟩
abbrev cX6_breakingLaws : ByteArray := prog_1_method_99_code
def yX6_breakingLaws : MethodName := ⟨RX6, "breakingLaws", "(II)J"⟩
abbrev cX6_learnNimbers : ByteArray := prog_1_method_100_code
def yX6_learnNimbers : MethodName := ⟨RX6, "learnNimbers", "(I)V"⟩
abbrev cX6_nimberOf : ByteArray := prog_1_method_101_code
def yX6_nimberOf : MethodName := ⟨RX6, "nimberOf", "(I)I"⟩
abbrev cX6_isBestAgainst : ByteArray := prog_1_method_102_code
def yX6_isBestAgainst : MethodName := ⟨RX6, "isBestAgainst", "(III)Z"⟩
abbrev cX6_gain : ByteArray := prog_1_method_103_code
def yX6_gain : MethodName := ⟨RX6, "gain", "(III)I"⟩
abbrev cX6_draw : ByteArray := prog_1_method_104_code
def yX6_draw : MethodName := ⟨RX6, "draw", "(I)I"⟩
abbrev cX6_drawOne : ByteArray := prog_1_method_105_code
def yX6_drawOne : MethodName := ⟨RX6, "drawOne", "()V"⟩
def RX7 : String := "StreamersHeldModel"
def TX7 : u_T := fun k => match k with
  | 0 => ("StreamersHeldModel", "thrown", "I", false)
  | 1 => ("StreamersHeldModel", "told", "I", false)
  | 2 => ("StreamersHeldModel", "row", "[J", true)
  | 3 => ("StreamersHeldModel", "streamers", "I", false)
  | 4 => ("StreamersHeldModel", "changes", "I", false)
  | 5 => ("StreamersHeldModel", "colour", "[I", true)
  | 6 => ("StreamersHeldModel", "strength", "[I", true)
  | 7 => ("StreamersHeldModel", "now", "[I", true)
  | 8 => ("StreamersHeldModel", "then", "[I", true)
  | 9 => ("StreamersHeldModel", "tape", "[I", true)
  | 10 => ("StreamersHeldModel", "taped", "I", false)
  | 11 => ("StreamersHeldModel", "at", "I", false)
  | 12 => ("StreamersHeldModel", "to", "I", false)
  | 13 => ("StreamersHeldModel", "nest", "I", false)
  | 14 => ("StreamersHeldModel", "read", "[I", true)
  | 15 => ("StreamersHeldModel", "readMany", "I", false)
  | 16 => ("StreamersHeldModel", "code", "[I", true)
  | 17 => ("StreamersHeldModel", "readCode", "[I", true)
  | 18 => ("StreamersHeldModel", "codeLong", "I", false)
  | 19 => ("StreamersHeldModel", "codesRead", "I", false)
  | 20 => ("StreamersHeldModel", "stack", "[I", true)
  | 21 => ("StreamersHeldModel", "asked", "[I", true)
  | 22 => ("StreamersHeldModel", "undos", "I", false)
  | 23 => ("StreamersHeldModel", "undone", "[I", true)
  | 24 => ("StreamersHeldModel", "actSign", "[I", true)
  | 25 => ("StreamersHeldModel", "actOne", "[I", true)
  | 26 => ("StreamersHeldModel", "actTwo", "[I", true)
  | 27 => ("StreamersHeldModel", "acts", "I", false)
  | 28 => ("StreamersHeldModel", "seenMany", "I", false)
  | 29 => ("StreamersHeldModel", "seenOf", "[I", true)
  | 30 => ("StreamersHeldModel", "seenLack", "[I", true)
  | 31 => ("StreamersHeldModel", "seenIs", "[I", true)
  | 32 => ("StreamersHeldModel", "isLeft", "[Z", true)
  | 33 => ("StreamersHeldModel", "heardMany", "I", false)
  | 34 => ("StreamersHeldModel", "heardWhat", "[I", true)
  | 35 => ("StreamersHeldModel", "heardOf", "[I", true)
  | 36 => ("StreamersHeldModel", "sawMany", "I", false)
  | 37 => ("StreamersHeldModel", "sawLack", "[I", true)
  | 38 => ("StreamersHeldModel", "sawStrength", "[I", true)
  | 39 => ("StreamersHeldModel", "sawIs", "[I", true)
  | 40 => ("StreamersHeldModel", "isFit", "[Z", true)
  | 41 => ("StreamersHeldModel", "worth", "[I", true)
  | 42 => ("StreamersHeldModel", "been", "[Z", true)
  | 43 => ("StreamersHeldModel", "wasCode", "[I", true)
  | 44 => ("StreamersHeldModel", "random", "I", false)
  | 45 => ("StreamersHeldModel", "isKept", "[Z", true)
  | 46 => ("StreamersHeldModel", "keptChanges", "[I", true)
  | _ => ("StreamersHeldModel", "kept", "[I", true)
def tyX7 : Nat → FieldType := fun k => match k with
  | 0 => .int
  | 1 => .int
  | 2 => .array .long
  | 3 => .int
  | 4 => .int
  | 5 => .array .int
  | 6 => .array .int
  | 7 => .array .int
  | 8 => .array .int
  | 9 => .array .int
  | 10 => .int
  | 11 => .int
  | 12 => .int
  | 13 => .int
  | 14 => .array .int
  | 15 => .int
  | 16 => .array .int
  | 17 => .array .int
  | 18 => .int
  | 19 => .int
  | 20 => .array .int
  | 21 => .array .int
  | 22 => .int
  | 23 => .array .int
  | 24 => .array .int
  | 25 => .array .int
  | 26 => .array .int
  | 27 => .int
  | 28 => .int
  | 29 => .array .int
  | 30 => .array .int
  | 31 => .array .int
  | 32 => .array .boolean
  | 33 => .int
  | 34 => .array .int
  | 35 => .array .int
  | 36 => .int
  | 37 => .array .int
  | 38 => .array .int
  | 39 => .array .int
  | 40 => .array .boolean
  | 41 => .array .int
  | 42 => .array .boolean
  | 43 => .array .int
  | 44 => .int
  | 45 => .array .boolean
  | 46 => .array .int
  | _ => .array .int
abbrev wsX70 : List Cond := u_ws RX7 TX7 48
theorem nmX7 : ∀ a, a < 48 → ∀ b, b < 48 → a ≠ b → (TX7 a).2.1 ≠ (TX7 b).2.1 := by decide +kernel
theorem tyX7_ok : ∀ k, k < 48 → parseFieldDescriptor (TX7 k).2.2.1 = some (tyX7 k) := by decide +kernel
abbrev cX7_thrown : ByteArray := prog_9_method_1_code
def yX7_thrown : MethodName := ⟨RX7, "thrown", "()I"⟩
abbrev cX7_refuse : ByteArray := prog_9_method_2_code
def yX7_refuse : MethodName := ⟨RX7, "refuse", "()I"⟩
abbrev cX7_in : ByteArray := prog_9_method_3_code
def yX7_in : MethodName := ⟨RX7, "in", "(JJJ)Z"⟩
abbrev cX7_has : ByteArray := prog_9_method_4_code
def yX7_has : MethodName := ⟨RX7, "has", "(II)Z"⟩
abbrev cX7_flag : ByteArray := prog_9_method_5_code
def yX7_flag : MethodName := ⟨RX7, "flag", "(Z)I"⟩
abbrev cX7_common : ByteArray := prog_9_method_6_code
def yX7_common : MethodName := ⟨RX7, "common", "(JJ)J"⟩
abbrev cX7_enters : ByteArray := prog_9_method_7_code
def yX7_enters : MethodName := ⟨RX7, "enters", "(J)V"⟩
abbrev cX7_entersFraction : ByteArray := prog_9_method_8_code
def yX7_entersFraction : MethodName := ⟨RX7, "entersFraction", "(JJ)I"⟩
abbrev cX7_init : ByteArray := prog_9_method_9_code
def yX7_init : MethodName := ⟨RX7, "<init>", "()V"⟩
abbrev cX7_isOne : ByteArray := prog_9_method_10_code
def yX7_isOne : MethodName := ⟨RX7, "isOne", "(I)Z"⟩
abbrev cX7_all : ByteArray := prog_9_method_11_code
def yX7_all : MethodName := ⟨RX7, "all", "()I"⟩
abbrev cX7_holding : ByteArray := prog_9_method_12_code
def yX7_holding : MethodName := ⟨RX7, "holding", "([I)I"⟩
abbrev cX7_lack : ByteArray := prog_9_method_13_code
def yX7_lack : MethodName := ⟨RX7, "lack", "([II)I"⟩
abbrev cX7_taut : ByteArray := prog_9_method_14_code
def yX7_taut : MethodName := ⟨RX7, "taut", "([I)I"⟩
abbrev cX7_counts : ByteArray := prog_9_method_15_code
def yX7_counts : MethodName := ⟨RX7, "counts", "(I)I"⟩
abbrev cX7_dragOf : ByteArray := prog_9_method_16_code
def yX7_dragOf : MethodName := ⟨RX7, "dragOf", "([I)I"⟩
abbrev cX7_reelsOf : ByteArray := prog_9_method_17_code
def yX7_reelsOf : MethodName := ⟨RX7, "reelsOf", "([I)I"⟩
abbrev cX7_copies : ByteArray := prog_9_method_18_code
def yX7_copies : MethodName := ⟨RX7, "copies", "([I[I)V"⟩
abbrev cX7_sign : ByteArray := prog_9_method_19_code
def yX7_sign : MethodName := ⟨RX7, "sign", "(I)I"⟩
abbrev cX7_end : ByteArray := prog_9_method_20_code
def yX7_end : MethodName := ⟨RX7, "end", "(I)Z"⟩
abbrev cX7_begins : ByteArray := prog_9_method_21_code
def yX7_begins : MethodName := ⟨RX7, "begins", "(I)I"⟩
abbrev cX7_takes : ByteArray := prog_9_method_22_code
def yX7_takes : MethodName := ⟨RX7, "takes", "(I)Z"⟩
abbrev cX7_isDigit : ByteArray := prog_9_method_23_code
def yX7_isDigit : MethodName := ⟨RX7, "isDigit", "()Z"⟩
abbrev cX7_takesOf : ByteArray := prog_9_method_24_code
def yX7_takesOf : MethodName := ⟨RX7, "takesOf", "(Ljava/lang/String;)I"⟩
abbrev cX7_number : ByteArray := prog_9_method_25_code
def yX7_number : MethodName := ⟨RX7, "number", "(I)I"⟩
abbrev cX7_digitIn : ByteArray := prog_9_method_26_code
def yX7_digitIn : MethodName := ⟨RX7, "digitIn", "(II)I"⟩
abbrev cX7_twoDigits : ByteArray := prog_9_method_27_code
def yX7_twoDigits : MethodName := ⟨RX7, "twoDigits", "()I"⟩
abbrev cX7_faultOf : ByteArray := prog_9_method_28_code
def yX7_faultOf : MethodName := ⟨RX7, "faultOf", "(IIZ)I"⟩
abbrev cX7_readsOne : ByteArray := prog_9_method_29_code
def yX7_readsOne : MethodName := ⟨RX7, "readsOne", "()Z"⟩
abbrev cX7_streamers : ByteArray := prog_9_method_30_code
def yX7_streamers : MethodName := ⟨RX7, "streamers", "()I"⟩
abbrev cX7_codes : ByteArray := prog_9_method_31_code
def yX7_codes : MethodName := ⟨RX7, "codes", "(I)V"⟩
abbrev cX7_readsThing : ByteArray := prog_9_method_32_code
def yX7_readsThing : MethodName := ⟨RX7, "readsThing", "()Z"⟩
abbrev cX7_readsRank : ByteArray := prog_9_method_33_code
def yX7_readsRank : MethodName := ⟨RX7, "readsRank", "(I)Z"⟩
abbrev cX7_readsRule : ByteArray := prog_9_method_34_code
def yX7_readsRule : MethodName := ⟨RX7, "readsRule", "()I"⟩
abbrev cX7_laysCode : ByteArray := prog_9_method_35_code
def yX7_laysCode : MethodName := ⟨RX7, "laysCode", "([II)V"⟩
abbrev cX7_rule : ByteArray := prog_9_method_36_code
def yX7_rule : MethodName := ⟨RX7, "rule", "()I"⟩
abbrev cX7_worked : ByteArray := prog_9_method_37_code
def yX7_worked : MethodName := ⟨RX7, "worked", "(III)I"⟩
abbrev cX7_ruled : ByteArray := prog_9_method_38_code
def yX7_ruled : MethodName := ⟨RX7, "ruled", "()I"⟩
abbrev cX7_ofColour : ByteArray := prog_9_method_39_code
def yX7_ofColour : MethodName := ⟨RX7, "ofColour", "(I)I"⟩
abbrev cX7_pull : ByteArray := prog_9_method_40_code
def yX7_pull : MethodName := ⟨RX7, "pull", "([II)I"⟩
abbrev cX7_streamer : ByteArray := prog_9_method_41_code
def yX7_streamer : MethodName := ⟨RX7, "streamer", "(II)I"⟩
abbrev cX7_sheet : ByteArray := prog_9_method_42_code
def yX7_sheet : MethodName := ⟨RX7, "sheet", "(IIII)I"⟩
abbrev cX7_putsBy : ByteArray := prog_9_method_43_code
def yX7_putsBy : MethodName := ⟨RX7, "putsBy", "()V"⟩
abbrev cX7_adds : ByteArray := prog_9_method_44_code
def yX7_adds : MethodName := ⟨RX7, "adds", "(I)I"⟩
abbrev cX7_counted : ByteArray := prog_9_method_45_code
def yX7_counted : MethodName := ⟨RX7, "counted", "(I)I"⟩
abbrev cX7_undo : ByteArray := prog_9_method_46_code
def yX7_undo : MethodName := ⟨RX7, "undo", "()I"⟩
abbrev cX7_hourGoes : ByteArray := prog_9_method_47_code
def yX7_hourGoes : MethodName := ⟨RX7, "hourGoes", "([I)V"⟩
abbrev cX7_goesOn : ByteArray := prog_9_method_48_code
def yX7_goesOn : MethodName := ⟨RX7, "goesOn", "([II)V"⟩
abbrev cX7_becomes : ByteArray := prog_9_method_49_code
def yX7_becomes : MethodName := ⟨RX7, "becomes", "(III)I"⟩
abbrev cX7_runsTo : ByteArray := prog_9_method_50_code
def yX7_runsTo : MethodName := ⟨RX7, "runsTo", "(II)I"⟩
abbrev cX7_ratesTo : ByteArray := prog_9_method_51_code
def yX7_ratesTo : MethodName := ⟨RX7, "ratesTo", "(II)I"⟩
abbrev cX7_reelsMore : ByteArray := prog_9_method_52_code
def yX7_reelsMore : MethodName := ⟨RX7, "reelsMore", "(II)I"⟩
abbrev cX7_dropsOne : ByteArray := prog_9_method_53_code
def yX7_dropsOne : MethodName := ⟨RX7, "dropsOne", "(I)I"⟩
abbrev cX7_speedsTo : ByteArray := prog_9_method_54_code
def yX7_speedsTo : MethodName := ⟨RX7, "speedsTo", "(I)I"⟩
abbrev cX7_hours : ByteArray := prog_9_method_55_code
def yX7_hours : MethodName := ⟨RX7, "hours", "(I)I"⟩
abbrev cX7_runs : ByteArray := prog_9_method_56_code
def yX7_runs : MethodName := ⟨RX7, "runs", "(II)I"⟩
abbrev cX7_rates : ByteArray := prog_9_method_57_code
def yX7_rates : MethodName := ⟨RX7, "rates", "(II)I"⟩
abbrev cX7_reels : ByteArray := prog_9_method_58_code
def yX7_reels : MethodName := ⟨RX7, "reels", "(II)I"⟩
abbrev cX7_drops : ByteArray := prog_9_method_59_code
def yX7_drops : MethodName := ⟨RX7, "drops", "(I)I"⟩
abbrev cX7_speed : ByteArray := prog_9_method_60_code
def yX7_speed : MethodName := ⟨RX7, "speed", "(I)I"⟩
abbrev cX7_readsAct : ByteArray := prog_9_method_61_code
def yX7_readsAct : MethodName := ⟨RX7, "readsAct", "()Z"⟩
abbrev cX7_does : ByteArray := prog_9_method_62_code
def yX7_does : MethodName := ⟨RX7, "does", "(I)Z"⟩
abbrev cX7_sailing : ByteArray := prog_9_method_63_code
def yX7_sailing : MethodName := ⟨RX7, "sailing", "()I"⟩
abbrev cX7_later : ByteArray := prog_9_method_64_code
def yX7_later : MethodName := ⟨RX7, "later", "(I)I"⟩
abbrev cX7_when : ByteArray := prog_9_method_65_code
def yX7_when : MethodName := ⟨RX7, "when", "(I)I"⟩
abbrev cX7_order : ByteArray := prog_9_method_66_code
def yX7_order : MethodName := ⟨RX7, "order", "()I"⟩
abbrev cX7_gone : ByteArray := prog_9_method_67_code
def yX7_gone : MethodName := ⟨RX7, "gone", "()I"⟩
abbrev cX7_stopped : ByteArray := prog_9_method_68_code
def yX7_stopped : MethodName := ⟨RX7, "stopped", "()I"⟩
abbrev cX7_drag : ByteArray := prog_9_method_69_code
def yX7_drag : MethodName := ⟨RX7, "drag", "()I"⟩
abbrev cX7_thrift : ByteArray := prog_9_method_70_code
def yX7_thrift : MethodName := ⟨RX7, "thrift", "(II)I"⟩
abbrev cX7_heldAt : ByteArray := prog_9_method_71_code
def yX7_heldAt : MethodName := ⟨RX7, "heldAt", "(III)I"⟩
abbrev cX7_mole : ByteArray := prog_9_method_72_code
def yX7_mole : MethodName := ⟨RX7, "mole", "(II)I"⟩
abbrev cX7_heldBy : ByteArray := prog_9_method_73_code
def yX7_heldBy : MethodName := ⟨RX7, "heldBy", "(II)I"⟩
abbrev cX7_slows : ByteArray := prog_9_method_74_code
def yX7_slows : MethodName := ⟨RX7, "slows", "(II)I"⟩
abbrev cX7_isFewer : ByteArray := prog_9_method_75_code
def yX7_isFewer : MethodName := ⟨RX7, "isFewer", "(II)Z"⟩
abbrev cX7_entersFewest : ByteArray := prog_9_method_76_code
def yX7_entersFewest : MethodName := ⟨RX7, "entersFewest", "(I)I"⟩
abbrev cX7_halts : ByteArray := prog_9_method_77_code
def yX7_halts : MethodName := ⟨RX7, "halts", "()I"⟩
abbrev cX7_frees : ByteArray := prog_9_method_78_code
def yX7_frees : MethodName := ⟨RX7, "frees", "(II)I"⟩
abbrev cX7_decides : ByteArray := prog_9_method_79_code
def yX7_decides : MethodName := ⟨RX7, "decides", "(I)Z"⟩
abbrev cX7_turnsIt : ByteArray := prog_9_method_80_code
def yX7_turnsIt : MethodName := ⟨RX7, "turnsIt", "(II)Z"⟩
abbrev cX7_ordersOf : ByteArray := prog_9_method_81_code
def yX7_ordersOf : MethodName := ⟨RX7, "ordersOf", "(I)J"⟩
abbrev cX7_power : ByteArray := prog_9_method_82_code
def yX7_power : MethodName := ⟨RX7, "power", "(I)I"⟩
abbrev cX7_pivots : ByteArray := prog_9_method_83_code
def yX7_pivots : MethodName := ⟨RX7, "pivots", "(I)I"⟩
abbrev cX7_colours : ByteArray := prog_9_method_84_code
def yX7_colours : MethodName := ⟨RX7, "colours", "()I"⟩
abbrev cX7_parties : ByteArray := prog_9_method_85_code
def yX7_parties : MethodName := ⟨RX7, "parties", "()I"⟩
abbrev cX7_ends : ByteArray := prog_9_method_86_code
def yX7_ends : MethodName := ⟨RX7, "ends", "(IIII)I"⟩
abbrev cX7_just : ByteArray := prog_9_method_87_code
def yX7_just : MethodName := ⟨RX7, "just", "(I)I"⟩
abbrev cX7_seen : ByteArray := prog_9_method_88_code
def yX7_seen : MethodName := ⟨RX7, "seen", "(III)I"⟩
abbrev cX7_forget : ByteArray := prog_9_method_89_code
def yX7_forget : MethodName := ⟨RX7, "forget", "()I"⟩
abbrev cX7_lacks : ByteArray := prog_9_method_90_code
def yX7_lacks : MethodName := ⟨RX7, "lacks", "(III)Z"⟩
abbrev cX7_isAsSeen : ByteArray := prog_9_method_91_code
def yX7_isAsSeen : MethodName := ⟨RX7, "isAsSeen", "(I)Z"⟩
abbrev cX7_guess : ByteArray := prog_9_method_92_code
def yX7_guess : MethodName := ⟨RX7, "guess", "()I"⟩
abbrev cX7_looks : ByteArray := prog_9_method_93_code
def yX7_looks : MethodName := ⟨RX7, "looks", "()I"⟩
abbrev cX7_lowest : ByteArray := prog_9_method_94_code
def yX7_lowest : MethodName := ⟨RX7, "lowest", "(I)I"⟩
abbrev cX7_highest : ByteArray := prog_9_method_95_code
def yX7_highest : MethodName := ⟨RX7, "highest", "(I)I"⟩
abbrev cX7_heard : ByteArray := prog_9_method_96_code
def yX7_heard : MethodName := ⟨RX7, "heard", "(II)I"⟩
abbrev cX7_denies : ByteArray := prog_9_method_97_code
def yX7_denies : MethodName := ⟨RX7, "denies", "()I"⟩
abbrev cX7_isSo : ByteArray := prog_9_method_98_code
def yX7_isSo : MethodName := ⟨RX7, "isSo", "(III)Z"⟩
abbrev cX7_fitting : ByteArray := prog_9_method_99_code
def yX7_fitting : MethodName := ⟨RX7, "fitting", "()I"⟩
abbrev cX7_fits : ByteArray := prog_9_method_100_code
def yX7_fits : MethodName := ⟨RX7, "fits", "()I"⟩
abbrev cX7_asks : ByteArray := prog_9_method_101_code
def yX7_asks : MethodName := ⟨RX7, "asks", "()I"⟩
abbrev cX7_odds : ByteArray := prog_9_method_102_code
def yX7_odds : MethodName := ⟨RX7, "odds", "(II)I"⟩
abbrev cX7_saw : ByteArray := prog_9_method_103_code
def yX7_saw : MethodName := ⟨RX7, "saw", "(III)I"⟩
abbrev cX7_clears : ByteArray := prog_9_method_104_code
def yX7_clears : MethodName := ⟨RX7, "clears", "()I"⟩
abbrev cX7_breaksBy : ByteArray := prog_9_method_105_code
def yX7_breaksBy : MethodName := ⟨RX7, "breaksBy", "(III)I"⟩
abbrev cX7_isLaw : ByteArray := prog_9_method_106_code
def yX7_isLaw : MethodName := ⟨RX7, "isLaw", "(I)Z"⟩
abbrev cX7_laws : ByteArray := prog_9_method_107_code
def yX7_laws : MethodName := ⟨RX7, "laws", "()I"⟩
abbrev cX7_tries : ByteArray := prog_9_method_108_code
def yX7_tries : MethodName := ⟨RX7, "tries", "()I"⟩
abbrev cX7_laysWorth : ByteArray := prog_9_method_109_code
def yX7_laysWorth : MethodName := ⟨RX7, "laysWorth", "(I)V"⟩
abbrev cX7_letting : ByteArray := prog_9_method_110_code
def yX7_letting : MethodName := ⟨RX7, "letting", "(I)I"⟩
abbrev cX7_law : ByteArray := prog_9_method_111_code
def yX7_law : MethodName := ⟨RX7, "law", "()I"⟩
abbrev cX7_gets : ByteArray := prog_9_method_112_code
def yX7_gets : MethodName := ⟨RX7, "gets", "(III)I"⟩
abbrev cX7_isRest : ByteArray := prog_9_method_113_code
def yX7_isRest : MethodName := ⟨RX7, "isRest", "(III)Z"⟩
abbrev cX7_wars : ByteArray := prog_9_method_114_code
def yX7_wars : MethodName := ⟨RX7, "wars", "(I)I"⟩
abbrev cX7_draws : ByteArray := prog_9_method_115_code
def yX7_draws : MethodName := ⟨RX7, "draws", "(I)I"⟩
abbrev cX7_years : ByteArray := prog_9_method_116_code
def yX7_years : MethodName := ⟨RX7, "years", "(II)I"⟩
abbrev cX7_keep : ByteArray := prog_9_method_117_code
def yX7_keep : MethodName := ⟨RX7, "keep", "(I)Z"⟩
abbrev cX7_again : ByteArray := prog_9_method_118_code
def yX7_again : MethodName := ⟨RX7, "again", "(I)Z"⟩
abbrev cX7_count : ByteArray := prog_9_method_119_code
def yX7_count : MethodName := ⟨RX7, "count", "(I)I"⟩
abbrev cX7_row : ByteArray := prog_9_method_120_code
def yX7_row : MethodName := ⟨RX7, "row", "(I)J"⟩
def RJx145de : String := "java/io/Serializable"
def TJx145de : u_T := fun k => match k with
  | _ => ("", "", "", false)
def tyJx145de : Nat → FieldType := fun k => match k with
  | _ => .int
abbrev wsJx145de0 : List Cond := u_ws RJx145de TJx145de 0
theorem nmJx145de : ∀ a, a < 0 → ∀ b, b < 0 → a ≠ b → (TJx145de a).2.1 ≠ (TJx145de b).2.1 := by decide +kernel
theorem tyJx145de_ok : ∀ k, k < 0 → parseFieldDescriptor (TJx145de k).2.2.1 = some (tyJx145de k) := by decide +kernel
def RJx9f9b0 : String := "java/lang/CharSequence"
def TJx9f9b0 : u_T := fun k => match k with
  | _ => ("", "", "", false)
def tyJx9f9b0 : Nat → FieldType := fun k => match k with
  | _ => .int
abbrev wsJx9f9b00 : List Cond := u_ws RJx9f9b0 TJx9f9b0 0
theorem nmJx9f9b0 : ∀ a, a < 0 → ∀ b, b < 0 → a ≠ b → (TJx9f9b0 a).2.1 ≠ (TJx9f9b0 b).2.1 := by decide +kernel
theorem tyJx9f9b0_ok : ∀ k, k < 0 → parseFieldDescriptor (TJx9f9b0 k).2.2.1 = some (tyJx9f9b0 k) := by decide +kernel
def RJxb160c : String := "java/lang/Comparable"
def TJxb160c : u_T := fun k => match k with
  | _ => ("", "", "", false)
def tyJxb160c : Nat → FieldType := fun k => match k with
  | _ => .int
abbrev wsJxb160c0 : List Cond := u_ws RJxb160c TJxb160c 0
theorem nmJxb160c : ∀ a, a < 0 → ∀ b, b < 0 → a ≠ b → (TJxb160c a).2.1 ≠ (TJxb160c b).2.1 := by decide +kernel
theorem tyJxb160c_ok : ∀ k, k < 0 → parseFieldDescriptor (TJxb160c k).2.2.1 = some (tyJxb160c k) := by decide +kernel
def RJ6 : String := "java/lang/Integer"
def TJ6 : u_T := fun k => match k with
  | _ => ("", "", "", false)
def tyJ6 : Nat → FieldType := fun k => match k with
  | _ => .int
abbrev wsJ60 : List Cond := u_ws RJ6 TJ6 0
theorem nmJ6 : ∀ a, a < 0 → ∀ b, b < 0 → a ≠ b → (TJ6 a).2.1 ≠ (TJ6 b).2.1 := by decide +kernel
theorem tyJ6_ok : ∀ k, k < 0 → parseFieldDescriptor (TJ6 k).2.2.1 = some (tyJ6 k) := by decide +kernel
abbrev cJ6_bitCount_0f7a4 : ByteArray := prog_14_method_49_code
def yJ6_bitCount_0f7a4 : MethodName := ⟨RJ6, "bitCount", "(I)I"⟩
def RJ13 : String := "java/lang/Long"
def TJ13 : u_T := fun k => match k with
  | _ => ("", "", "", false)
def tyJ13 : Nat → FieldType := fun k => match k with
  | _ => .int
abbrev wsJ130 : List Cond := u_ws RJ13 TJ13 0
theorem nmJ13 : ∀ a, a < 0 → ∀ b, b < 0 → a ≠ b → (TJ13 a).2.1 ≠ (TJ13 b).2.1 := by decide +kernel
theorem tyJ13_ok : ∀ k, k < 0 → parseFieldDescriptor (TJ13 k).2.2.1 = some (tyJ13 k) := by decide +kernel
abbrev cJ13_bitCount_95d88 : ByteArray := prog_15_method_50_code
def yJ13_bitCount_95d88 : MethodName := ⟨RJ13, "bitCount", "(J)I"⟩
def RJ9 : String := "java/lang/Math"
def TJ9 : u_T := fun k => match k with
  | _ => ("", "", "", false)
def tyJ9 : Nat → FieldType := fun k => match k with
  | _ => .int
abbrev wsJ90 : List Cond := u_ws RJ9 TJ9 0
theorem nmJ9 : ∀ a, a < 0 → ∀ b, b < 0 → a ≠ b → (TJ9 a).2.1 ≠ (TJ9 b).2.1 := by decide +kernel
theorem tyJ9_ok : ∀ k, k < 0 → parseFieldDescriptor (TJ9 k).2.2.1 = some (tyJ9 k) := by decide +kernel
abbrev cJ9_abs_0f7a4 : ByteArray := prog_16_method_59_code
def yJ9_abs_0f7a4 : MethodName := ⟨RJ9, "abs", "(I)I"⟩
abbrev cJ9_max_7cf53 : ByteArray := prog_16_method_65_code
def yJ9_max_7cf53 : MethodName := ⟨RJ9, "max", "(II)I"⟩
abbrev cJ9_min_7cf53 : ByteArray := prog_16_method_69_code
def yJ9_min_7cf53 : MethodName := ⟨RJ9, "min", "(II)I"⟩
def RJ0 : String := "java/lang/String"
def TJ0 : u_T := fun k => match k with
  | _ => ("", "", "", false)
def tyJ0 : Nat → FieldType := fun k => match k with
  | _ => .int
abbrev wsJ00 : List Cond := u_ws RJ0 TJ0 0
theorem nmJ0 : ∀ a, a < 0 → ∀ b, b < 0 → a ≠ b → (TJ0 a).2.1 ≠ (TJ0 b).2.1 := by decide +kernel
theorem tyJ0_ok : ∀ k, k < 0 → parseFieldDescriptor (TJ0 k).2.2.1 = some (tyJ0 k) := by decide +kernel
abbrev cJ0_length_8abf5 : ByteArray := prog_18_method_54_code
def yJ0_length_8abf5 : MethodName := ⟨RJ0, "length", "()I"⟩
abbrev cJ0_charAt_5068e : ByteArray := prog_18_method_56_code
def yJ0_charAt_5068e : MethodName := ⟨RJ0, "charAt", "(I)C"⟩
abbrev cJ0_coder_7d493 : ByteArray := prog_18_method_152_code
def yJ0_coder_7d493 : MethodName := ⟨RJ0, "coder", "()B"⟩
abbrev cJ0_isLatin1_aae02 : ByteArray := prog_18_method_154_code
def yJ0_isLatin1_aae02 : MethodName := ⟨RJ0, "isLatin1", "()Z"⟩
abbrev cJ0_checkIndex_df160 : ByteArray := prog_18_method_155_code
def yJ0_checkIndex_df160 : MethodName := ⟨RJ0, "checkIndex", "(II)V"⟩
def RJ1 : String := "java/lang/StringLatin1"
def TJ1 : u_T := fun k => match k with
  | _ => ("", "", "", false)
def tyJ1 : Nat → FieldType := fun k => match k with
  | _ => .int
abbrev wsJ10 : List Cond := u_ws RJ1 TJ1 0
theorem nmJ1 : ∀ a, a < 0 → ∀ b, b < 0 → a ≠ b → (TJ1 a).2.1 ≠ (TJ1 b).2.1 := by decide +kernel
theorem tyJ1_ok : ∀ k, k < 0 → parseFieldDescriptor (TJ1 k).2.2.1 = some (tyJ1 k) := by decide +kernel
abbrev cJ1_charAt_3b067 : ByteArray := prog_19_method_2_code
def yJ1_charAt_3b067 : MethodName := ⟨RJ1, "charAt", "([BI)C"⟩
def RJ2 : String := "java/lang/StringUTF16"
def TJ2 : u_T := fun k => match k with
  | _ => ("", "", "", false)
def tyJ2 : Nat → FieldType := fun k => match k with
  | _ => .int
abbrev wsJ20 : List Cond := u_ws RJ2 TJ2 0
theorem nmJ2 : ∀ a, a < 0 → ∀ b, b < 0 → a ≠ b → (TJ2 a).2.1 ≠ (TJ2 b).2.1 := by decide +kernel
theorem tyJ2_ok : ∀ k, k < 0 → parseFieldDescriptor (TJ2 k).2.2.1 = some (tyJ2 k) := by decide +kernel
abbrev cJ2_getChar_3b067 : ByteArray := prog_20_method_5_code
def yJ2_getChar_3b067 : MethodName := ⟨RJ2, "getChar", "([BI)C"⟩
abbrev cJ2_length_9d52b : ByteArray := prog_20_method_6_code
def yJ2_length_9d52b : MethodName := ⟨RJ2, "length", "([B)I"⟩
abbrev cJ2_charAt_3b067 : ByteArray := prog_20_method_83_code
def yJ2_charAt_3b067 : MethodName := ⟨RJ2, "charAt", "([BI)C"⟩
abbrev cJ2_checkIndex_2214a : ByteArray := prog_20_method_91_code
def yJ2_checkIndex_2214a : MethodName := ⟨RJ2, "checkIndex", "(I[B)V"⟩
def RJxfd54e : String := "java/lang/constant/Constable"
def TJxfd54e : u_T := fun k => match k with
  | _ => ("", "", "", false)
def tyJxfd54e : Nat → FieldType := fun k => match k with
  | _ => .int
abbrev wsJxfd54e0 : List Cond := u_ws RJxfd54e TJxfd54e 0
theorem nmJxfd54e : ∀ a, a < 0 → ∀ b, b < 0 → a ≠ b → (TJxfd54e a).2.1 ≠ (TJxfd54e b).2.1 := by decide +kernel
theorem tyJxfd54e_ok : ∀ k, k < 0 → parseFieldDescriptor (TJxfd54e k).2.2.1 = some (tyJxfd54e k) := by decide +kernel
def RJx3cf43 : String := "java/lang/constant/ConstantDesc"
def TJx3cf43 : u_T := fun k => match k with
  | _ => ("", "", "", false)
def tyJx3cf43 : Nat → FieldType := fun k => match k with
  | _ => .int
abbrev wsJx3cf430 : List Cond := u_ws RJx3cf43 TJx3cf43 0
theorem nmJx3cf43 : ∀ a, a < 0 → ∀ b, b < 0 → a ≠ b → (TJx3cf43 a).2.1 ≠ (TJx3cf43 b).2.1 := by decide +kernel
theorem tyJx3cf43_ok : ∀ k, k < 0 → parseFieldDescriptor (TJx3cf43 k).2.2.1 = some (tyJx3cf43 k) := by decide +kernel
def RJ3 : String := "jdk/internal/util/Preconditions"
def TJ3 : u_T := fun k => match k with
  | _ => ("", "", "", false)
def tyJ3 : Nat → FieldType := fun k => match k with
  | _ => .int
abbrev wsJ30 : List Cond := u_ws RJ3 TJ3 0
theorem nmJ3 : ∀ a, a < 0 → ∀ b, b < 0 → a ≠ b → (TJ3 a).2.1 ≠ (TJ3 b).2.1 := by decide +kernel
theorem tyJ3_ok : ∀ k, k < 0 → parseFieldDescriptor (TJ3 k).2.2.1 = some (tyJ3 k) := by decide +kernel
abbrev cJ3_checkIndex_8e157 : ByteArray := prog_25_method_11_code
def yJ3_checkIndex_8e157 : MethodName := ⟨RJ3, "checkIndex", "(IILjava/util/function/BiFunction;)I"⟩
def RL : String := "StreamersHeldLaw"
abbrev cL_streamer : ByteArray := method_3_code
def yL_streamer : MethodName := ⟨RL, "streamer", "(LStreamersHeld;II[J)I"⟩
abbrev cL_row : ByteArray := method_4_code
def yL_row : MethodName := ⟨RL, "row", "(LStreamersHeld;I[J)I"⟩
abbrev cL_law : ByteArray := code
def yL_law : MethodName := ⟨RL, "law", "([I)Z"⟩
abbrev vwCl : List vw_C := [(RX0, TX0, 5), (RX1, TX1, 5), (RX2, TX2, 2), (RX3, TX3, 9), (RX4, TX4, 13), (RX5, TX5, 2), (RX6, TX6, 14), (RX7, TX7, 48)]
end
section
/-! THE ABSTRACT MACHINE: methods over a memory of ints, whose cells stand at fixed places; a run's answer as a pure value. -/
abbrev av_M : Type := Nat → Nat → Int32
abbrev av_R : Type := Int32 × Int64 × av_M
/-- an instruction: pc, length, the instruction, five numbers, an int, a long, a switch's cases -/
abbrev av_I : Type := Nat × Nat × Instr × Nat × Nat × Nat × Nat × Nat × Int32 × Int64 × List (Int32 × Nat)
def av_u (h : av_M) (a k : Nat) (v : Int32) : av_M := fun b => if b = a then upd (h a) k v else h b
def av_lo (v : Int64) : Int32 := Int32.ofNat (v.toUInt64.toNat % 4294967296)
def av_hi (v : Int64) : Int32 := Int32.ofNat (v.toUInt64.toNat / 4294967296)
def av_jn (hi lo : Int32) : Int64 := Int64.ofNat (hi.toUInt32.toNat * 4294967296 + lo.toUInt32.toNat)
def av_nth : List (Nat × Nat × List Nat) → Nat → Nat × Nat × List Nat
  | [], _ => (99, 0, [])
  | q :: _, 0 => q
  | _ :: l, n + 1 => av_nth l n
def av_nn : List Nat → Nat → Nat
  | [], _ => 0
  | q :: _, 0 => q
  | _ :: l, n + 1 => av_nn l n
def av_gl : List Value → Nat → Value
  | [], _ => .null
  | q :: _, 0 => q
  | _ :: l, n + 1 => av_gl l n
def av_st : List Value → Nat → Value → List Value
  | [], _, _ => []
  | _ :: l, 0, v => v :: l
  | q :: l, n + 1, v => q :: av_st l n v
/-- a long whose second half is written over is gone -/
def av_kp (ls : List Value) (n : Nat) : List Value := match n with
  | 0 => ls
  | k + 1 => match av_gl ls k with
    | .long _ => av_st ls k .null
    | .double _ => av_st ls k .null
    | _ => ls
def av_s1 (ls : List Value) (n : Nat) (v : Value) : List Value := av_st (av_kp ls n) n v
def av_s2 (ls : List Value) (n : Nat) (v : Value) : List Value := av_st (av_st (av_kp ls n) n v) (n + 1) .null
/-- goes on with the list, written out -/
def av_fo {β : Type} : List Value → (List Value → β) → β
  | [], k => k []
  | v :: l, k => av_fo l (fun l => k (v :: l))
theorem av_fo_eq {β : Type} : ∀ (l : List Value) (k : List Value → β), av_fo l k = k l := by
  intro l
  induction l with
  | nil => intro k; rfl
  | cons v l ih => intro k; exact ih _
def av_cat : List Value → Nat
  | [] => 0
  | v :: l => v.category + av_cat l
def av_at : List av_I → Nat → List av_I
  | [], _ => []
  | q :: l, pc => match Nat.beq q.1 pc with
    | true => q :: l
    | false => av_at l pc
def av_sw {β : Type} (J : Nat → Option β) (x : Int32) (d : Nat) : List (Int32 × Nat) → Option β
  | [] => J d
  | (c, t) :: r => if x = c then J t else av_sw J x d r
/-- arguments as locals: a long takes two -/
def av_in : List Value → List Value
  | [] => []
  | .long v :: l => .long v :: .null :: av_in l
  | .double v :: l => .double v :: .null :: av_in l
  | v :: l => v :: av_in l
def av_pad : Nat → List Value → List Value
  | 0, _ => []
  | n + 1, [] => .null :: av_pad n []
  | n + 1, v :: l => v :: av_pad n l
def av_rev : List Value → List Value → List Value
  | [], r => r
  | v :: l, r => av_rev l (v :: r)
/-- n values off the stack: they (the deepest first), what is left -/
def av_pop : Nat → List Value → List Value → List Value × List Value
  | 0, as, st => (as, st)
  | _ + 1, as, [] => (as, [])
  | n + 1, as, v :: st => av_pop n (v :: as) st
def av_push (z : Nat) (r : av_R) (st : List Value) : List Value := match z with
  | 0 => st
  | 2 => .long r.2.1 :: st
  | _ => .int r.1 :: st
def av_max (x y : Int32) : Int32 := if x < y then y else x
def av_min (x y : Int32) : Int32 := if y < x then y else x
def av_abs (x : Int32) : Int32 := if 0 ≤ x then x else 0 - x
def av_inb (j : Int32) (n : Nat) : Bool := !(decide (j < 0 ∨ n ≤ j.toNatClampNeg))
def av_ins (j n : Int32) : Bool := !(decide (j < 0 ∨ n ≤ j))
def av_nz (b : Int32) : Bool := !(decide (b = 0))
def av_nzl (b : Int64) : Bool := !(decide (b = 0))
def av_01 (b : Int32) : Bool := decide (b = 0 ∨ b = 1)
/-- the texts of the String constants -/
def av_txt : List (List Int32) := [[112, 103, 98, 121], [107, 115, 114, 112, 118, 99, 110], [60, 62, 61], [43, 45], [42, 47], [110, 100, 115, 112, 114, 109]]
def av_txl (a : Nat) : Nat := (av_txt.getD (a - 92) []).length
def av_txc (a k : Nat) : Int32 := (av_txt.getD (a - 92) []).getD k 0
/-- the cells: kind (a class's number; 8: ints, 9: longs, 10: booleans), length, a class's references (0: a number; r + 1: the cell r) -/
def av_shp : List (Nat × Nat × List Nat) := [(6, 0, [2, 4, 6, 13, 20, 24, 28, 31, 35, 39, 43, 44, 0, 0]), (5, 0, [3, 0]), (8, 80, []), (2, 0, [5, 0]), (9, 7, []), (4, 0, [7, 8, 9, 10, 11, 12, 0, 0, 0, 0, 0, 0, 0]), (8, 7, []), (8, 7, []), (8, 7, []), (8, 7, []), (8, 7, []), (8, 7, []), (4, 0, [14, 15, 16, 17, 18, 19, 0, 0, 0, 0, 0, 0, 0]), (8, 7, []), (8, 7, []), (8, 7, []), (8, 7, []), (8, 7, []), (8, 7, []), (3, 0, [21, 22, 23, 0, 0, 0, 0, 0, 0]), (8, 40, []), (8, 40, []), (8, 40, []), (3, 0, [25, 26, 27, 0, 0, 0, 0, 0, 0]), (8, 40, []), (8, 40, []), (8, 40, []), (1, 0, [29, 30, 0, 0, 0]), (8, 528, []), (8, 99, []), (0, 0, [32, 33, 34, 0, 0]), (8, 12, []), (8, 12, []), (8, 12, []), (0, 0, [36, 37, 38, 0, 0]), (8, 12, []), (8, 12, []), (8, 12, []), (0, 0, [40, 41, 42, 0, 0]), (8, 12, []), (8, 12, []), (8, 12, []), (8, 61, []), (8, 61, []), (7, 0, [0, 0, 46, 0, 0, 47, 48, 49, 50, 51, 0, 0, 0, 0, 52, 0, 53, 54, 0, 0, 55, 56, 0, 57, 58, 59, 60, 0, 0, 61, 62, 63, 64, 0, 65, 66, 0, 67, 68, 69, 70, 71, 72, 73, 0, 74, 75, 76]), (9, 24, []), (8, 7, []), (8, 7, []), (8, 33, []), (8, 33, []), (8, 80, []), (8, 35, []), (8, 80, []), (8, 80, []), (8, 80, []), (8, 7, []), (8, 528, []), (8, 60, []), (8, 60, []), (8, 60, []), (8, 10, []), (8, 10, []), (8, 10, []), (10, 60, []), (8, 12, []), (8, 12, []), (8, 10, []), (8, 10, []), (8, 10, []), (10, 40, []), (8, 61, []), (10, 128, []), (8, 80, []), (10, 3, []), (8, 3, []), (8, 99, []), (9, 1, []), (99, 0, []), (99, 0, []), (99, 0, []), (99, 0, []), (99, 0, []), (99, 0, []), (99, 0, []), (99, 0, []), (99, 0, []), (99, 0, []), (99, 0, []), (99, 0, []), (99, 0, []), (11, 0, []), (99, 0, []), (12, 0, []), (12, 0, []), (12, 0, []), (12, 0, []), (12, 0, []), (12, 0, [])]
/-- how many there are -/
def av_N : Nat := 77
def av_kd (a : Nat) : Nat := (av_nth av_shp a).1
def av_sz (a : Nat) : Nat := (av_nth av_shp a).2.1
def av_rf (a k : Nat) : Nat := av_nn (av_nth av_shp a).2.2 k

/-- one instruction, told to what comes behind: N goes on at the next one, J at another place, ret ends; none: stuck -/
def av_stp {β : Type} (E : Nat → List Value → av_M → Option av_R) (ret : av_R → Option β) (N : List Value → List Value → av_M → Option β) (J : Nat → List Value → List Value → av_M → Option β) (q : av_I) (ls st : List Value) (h : av_M) : Option β :=
  match q with
  | (_, _, i, x, y, z, _, o, v, u, sw) =>
  match i with
  | .iload n => match av_gl ls n with
    | .int a => N ls (.int a :: st) h
    | _ => none
  | .iload_n n => match av_gl ls n.val with
    | .int a => N ls (.int a :: st) h
    | _ => none
  | .lload n => match av_gl ls n with
    | .long a => N ls (.long a :: st) h
    | _ => none
  | .lload_n n => match av_gl ls n.val with
    | .long a => N ls (.long a :: st) h
    | _ => none
  | .aload n => match av_gl ls n with
    | .ref a => N ls (.ref a :: st) h
    | _ => none
  | .aload_n n => match av_gl ls n.val with
    | .ref a => N ls (.ref a :: st) h
    | _ => none
  | .istore n => match st with
    | .int a :: r => match Nat.blt n ls.length with
      | true => av_fo (av_s1 ls n (.int a)) fun ls => N ls r h
      | false => none
    | _ => none
  | .istore_n n => match st with
    | .int a :: r => match Nat.blt n.val ls.length with
      | true => av_fo (av_s1 ls n.val (.int a)) fun ls => N ls r h
      | false => none
    | _ => none
  | .lstore n => match st with
    | .long a :: r => match Nat.blt (n + 1) ls.length with
      | true => av_fo (av_s2 ls n (.long a)) fun ls => N ls r h
      | false => none
    | _ => none
  | .lstore_n n => match st with
    | .long a :: r => match Nat.blt (n.val + 1) ls.length with
      | true => av_fo (av_s2 ls n.val (.long a)) fun ls => N ls r h
      | false => none
    | _ => none
  | .iinc n _ => match av_gl ls n with
    | .int a => match Nat.blt n ls.length with
      | true => av_fo (av_s1 ls n (.int (a + v))) fun ls => N ls st h
      | false => none
    | _ => none
  | .iconst _ => N ls (.int v :: st) h
  | .bipush _ => N ls (.int v :: st) h
  | .sipush _ => N ls (.int v :: st) h
  | .ldc _ => match z with
    | 0 => N ls (.int v :: st) h
    | _ => N ls (.ref x :: st) h
  | .ldc_w _ => match z with
    | 0 => N ls (.int v :: st) h
    | _ => N ls (.ref x :: st) h
  | .ldc2_w _ => N ls (.long u :: st) h
  | .lconst _ => N ls (.long u :: st) h
  | .iadd => match st with
    | .int b :: .int a :: r => N ls (.int (a + b) :: r) h
    | _ => none
  | .isub => match st with
    | .int b :: .int a :: r => N ls (.int (a - b) :: r) h
    | _ => none
  | .imul => match st with
    | .int b :: .int a :: r => N ls (.int (a * b) :: r) h
    | _ => none
  | .iand => match st with
    | .int b :: .int a :: r => N ls (.int (a &&& b) :: r) h
    | _ => none
  | .ior => match st with
    | .int b :: .int a :: r => N ls (.int (a ||| b) :: r) h
    | _ => none
  | .ixor => match st with
    | .int b :: .int a :: r => N ls (.int (a ^^^ b) :: r) h
    | _ => none
  | .ineg => match st with
    | .int a :: r => N ls (.int (-a) :: r) h
    | _ => none
  | .ishl => match st with
    | .int b :: .int a :: r => N ls (.int (a <<< (b &&& 31)) :: r) h
    | _ => none
  | .ishr => match st with
    | .int b :: .int a :: r => N ls (.int (a >>> (b &&& 31)) :: r) h
    | _ => none
  | .iushr => match st with
    | .int b :: .int a :: r => N ls (.int ((a.toUInt32 >>> (b.toUInt32 &&& Int32.toUInt32 31)).toInt32) :: r) h
    | _ => none
  | .idiv => match st with
    | .int b :: .int a :: r => cond (av_nz b) (N ls (.int (a / b) :: r) h) none
    | _ => none
  | .irem => match st with
    | .int b :: .int a :: r => cond (av_nz b) (N ls (.int (a - a / b * b) :: r) h) none
    | _ => none
  | .ladd => match st with
    | .long b :: .long a :: r => N ls (.long (a + b) :: r) h
    | _ => none
  | .lsub => match st with
    | .long b :: .long a :: r => N ls (.long (a - b) :: r) h
    | _ => none
  | .lmul => match st with
    | .long b :: .long a :: r => N ls (.long (a * b) :: r) h
    | _ => none
  | .land => match st with
    | .long b :: .long a :: r => N ls (.long (a &&& b) :: r) h
    | _ => none
  | .lor => match st with
    | .long b :: .long a :: r => N ls (.long (a ||| b) :: r) h
    | _ => none
  | .ldiv => match st with
    | .long b :: .long a :: r => cond (av_nzl b) (N ls (.long (a / b) :: r) h) none
    | _ => none
  | .lrem => match st with
    | .long b :: .long a :: r => cond (av_nzl b) (N ls (.long (a - a / b * b) :: r) h) none
    | _ => none
  | .lshl => match st with
    | .int b :: .long a :: r => N ls (.long (a <<< (b.toInt64 &&& 63)) :: r) h
    | _ => none
  | .lushr => match st with
    | .int b :: .long a :: r => N ls (.long ((a.toUInt64 >>> (b.toInt64.toUInt64 &&& Int64.toUInt64 63)).toInt64) :: r) h
    | _ => none
  | .i2l => match st with
    | .int a :: r => N ls (.long a.toInt64 :: r) h
    | _ => none
  | .l2i => match st with
    | .long a :: r => N ls (.int a.toInt32 :: r) h
    | _ => none
  | .i2b => match st with
    | .int a :: r => N ls (.int a.toInt8.toInt32 :: r) h
    | _ => none
  | .i2s => match st with
    | .int a :: r => N ls (.int a.toInt16.toInt32 :: r) h
    | _ => none
  | .lcmp => match st with
    | .long b :: .long a :: r => N ls (.int (lg_cmp a b) :: r) h
    | _ => none
  | .dup => match st with
    | a :: r => match Nat.beq a.category 1 with
      | true => N ls (a :: a :: r) h
      | false => none
    | _ => none
  | .dup2 => match st with
    | a :: b :: r => match Nat.beq (a.category + b.category) 2 with
      | true => N ls (a :: b :: a :: b :: r) h
      | false => none
    | _ => none
  | .pop => match st with
    | a :: r => match Nat.beq a.category 1 with
      | true => N ls r h
      | false => none
    | _ => none
  | .ifCond .eq _ => match st with
    | .int a :: r => if a = 0 then J x ls r h else N ls r h
    | _ => none
  | .ifCond .ne _ => match st with
    | .int a :: r => if a = 0 then N ls r h else J x ls r h
    | _ => none
  | .ifCond .lt _ => match st with
    | .int a :: r => if a < 0 then J x ls r h else N ls r h
    | _ => none
  | .ifCond .ge _ => match st with
    | .int a :: r => if 0 ≤ a then J x ls r h else N ls r h
    | _ => none
  | .ifCond .gt _ => match st with
    | .int a :: r => if 0 < a then J x ls r h else N ls r h
    | _ => none
  | .ifCond .le _ => match st with
    | .int a :: r => if a ≤ 0 then J x ls r h else N ls r h
    | _ => none
  | .if_icmp .eq _ => match st with
    | .int b :: .int a :: r => if a = b then J x ls r h else N ls r h
    | _ => none
  | .if_icmp .ne _ => match st with
    | .int b :: .int a :: r => if a = b then N ls r h else J x ls r h
    | _ => none
  | .if_icmp .lt _ => match st with
    | .int b :: .int a :: r => if a < b then J x ls r h else N ls r h
    | _ => none
  | .if_icmp .ge _ => match st with
    | .int b :: .int a :: r => if b ≤ a then J x ls r h else N ls r h
    | _ => none
  | .if_icmp .gt _ => match st with
    | .int b :: .int a :: r => if b < a then J x ls r h else N ls r h
    | _ => none
  | .if_icmp .le _ => match st with
    | .int b :: .int a :: r => if a ≤ b then J x ls r h else N ls r h
    | _ => none
  | .goto _ => J x ls st h
  | .tableswitch _ _ _ _ => match st with
    | .int a :: r => av_sw (fun t => J t ls r h) a x sw
    | _ => none
  | .lookupswitch _ _ => match st with
    | .int a :: r => av_sw (fun t => J t ls r h) a x sw
    | _ => none
  | .getfield _ => match st with
    | .ref a :: r => match Nat.beq (av_kd a) x with
      | true => match av_rf a y with
        | 0 => N ls (.int (h a y) :: r) h
        | c + 1 => N ls (.ref c :: r) h
      | false => none
    | _ => none
  | .putfield _ => match st with
    | .int b :: .ref a :: r => match Nat.beq (av_kd a) x with
      | true => match av_rf a y with
        | 0 => match z with
          | 0 => N ls r (av_u h a y b)
          | _ => cond (av_01 b) (N ls r (av_u h a y b)) none
        | _ => none
      | false => none
    | _ => none
  | .iaload => match st with
    | .int j :: .ref a :: r => match av_kd a with
      | 8 => cond (av_inb j (av_sz a)) (N ls (.int (h a j.toNatClampNeg) :: r) h) none
      | 11 => cond (av_ins j (h (a + 1) 0)) (N ls (.int (h a j.toNatClampNeg) :: r) h) none
      | _ => none
    | _ => none
  | .iastore => match st with
    | .int b :: .int j :: .ref a :: r => match av_kd a with
      | 8 => cond (av_inb j (av_sz a)) (N ls r (av_u h a j.toNatClampNeg b)) none
      | _ => none
    | _ => none
  | .baload => match st with
    | .int j :: .ref a :: r => match av_kd a with
      | 10 => cond (av_inb j (av_sz a)) (N ls (.int (h a j.toNatClampNeg) :: r) h) none
      | _ => none
    | _ => none
  | .bastore => match st with
    | .int b :: .int j :: .ref a :: r => match av_kd a with
      | 10 => cond (av_inb j (av_sz a)) (N ls r (av_u h a j.toNatClampNeg (b &&& 1))) none
      | _ => none
    | _ => none
  | .laload => match st with
    | .int j :: .ref a :: r => match av_kd a with
      | 9 => cond (av_inb j (av_sz a)) (N ls (.long (av_jn (h a (2 * j.toNatClampNeg)) (h a (2 * j.toNatClampNeg + 1))) :: r) h) none
      | _ => none
    | _ => none
  | .lastore => match st with
    | .long b :: .int j :: .ref a :: r => match av_kd a with
      | 9 => cond (av_inb j (av_sz a)) (N ls r (av_u (av_u h a (2 * j.toNatClampNeg) (av_hi b)) a (2 * j.toNatClampNeg + 1) (av_lo b))) none
      | _ => none
    | _ => none
  | .arraylength => match st with
    | .ref a :: r => match av_kd a with
      | 8 => N ls (.int (nI (av_sz a)) :: r) h
      | 9 => N ls (.int (nI (av_sz a)) :: r) h
      | 10 => N ls (.int (nI (av_sz a)) :: r) h
      | 11 => N ls (.int (h (a + 1) 0) :: r) h
      | _ => none
    | _ => none
  | .invokestatic _ => match z with
    | 10 => match st with
      | .int b :: .int a :: r => match Nat.ble (av_cat r) 8 with
        | true => N ls (.int (av_max a b) :: r) h
        | false => none
      | _ => none
    | 11 => match st with
      | .int b :: .int a :: r => match Nat.ble (av_cat r) 8 with
        | true => N ls (.int (av_min a b) :: r) h
        | false => none
      | _ => none
    | 12 => match st with
      | .int a :: r => match Nat.ble (av_cat r) 8 with
        | true => N ls (.int (av_abs a) :: r) h
        | false => none
      | _ => none
    | 20 => none
    | z => match av_pop y [] st with
      | (as, r) => match Nat.ble (av_cat r) 8 && Nat.beq as.length y with
        | true => (E x as h).bind fun b => N ls (av_push z b r) b.2.2
        | false => none
  | .invokevirtual _ => match z with
    | 13 => match st with
      | .ref a :: r => match Nat.ble (av_cat r) 8 && Nat.beq (av_kd a) 12 with
        | true => N ls (.int (nI (av_txl a)) :: r) h
        | false => none
      | _ => none
    | 14 => match st with
      | .int j :: .ref a :: r => match Nat.ble (av_cat r) 8 && Nat.beq (av_kd a) 12 with
        | true => cond (av_inb j (av_txl a)) (N ls (.int (av_txc a j.toNatClampNeg) :: r) h) none
        | false => none
      | _ => none
    | z => match av_pop y [] st with
      | (as, .ref a :: r) => match Nat.ble (av_cat r) 8 && Nat.beq as.length y && Nat.beq (av_kd a) o with
        | true => (E x (.ref a :: as) h).bind fun b => N ls (av_push z b r) b.2.2
        | false => none
      | _ => none
  | .ireturn => match st with
    | [.int a] => match x with
      | 0 => ret (a, 0, h)
      | _ => ret (a &&& 1, 0, h)
    | _ => none
  | .lreturn => match st with
    | [.long a] => ret (0, a, h)
    | _ => none
  | .return_ => match st with
    | [] => ret (0, 0, h)
    | _ => none
  | _ => none
end
section
/-! RUNS: what an abstract method answers, as a value; segments of a method, evaluated. -/
abbrev av_Z : Type := av_R ⊕ (List Value × List Value × av_M) ⊕ (Nat × List Value × List Value × av_M)
def av_el {β : Type} (ret : av_R → Option β) (N : List Value → List Value → av_M → Option β) (J : Nat → List Value → List Value → av_M → Option β) : av_Z → Option β
  | .inl r => ret r
  | .inr (.inl (ls, st, h)) => N ls st h
  | .inr (.inr (pc, ls, st, h)) => J pc ls st h
def av_ini (E : Nat → List Value → av_M → Option av_R) (q : av_I) (ls st : List Value) (h : av_M) : Option av_Z :=
  av_stp E (fun r => some (.inl r)) (fun ls st h => some (.inr (.inl (ls, st, h)))) (fun pc ls st h => some (.inr (.inr (pc, ls, st, h)))) q ls st h
theorem av_sw_nat {β : Type} (ret : av_R → Option β) (N : List Value → List Value → av_M → Option β) (J : Nat → List Value → List Value → av_M → Option β) (ls st : List Value) (h : av_M) (x : Int32) (d : Nat) (sw : List (Int32 × Nat)) :
    av_sw (fun t => J t ls st h) x d sw = (av_sw (fun t => (some (.inr (.inr (t, ls, st, h))) : Option av_Z)) x d sw).bind (av_el ret N J) := by
  induction sw with
  | nil => rfl
  | cons c r ih =>
    obtain ⟨c, t⟩ := c
    unfold av_sw
    split
    · rfl
    · exact ih
set_option maxHeartbeats 4000000 in
theorem av_nat {β : Type} (E : Nat → List Value → av_M → Option av_R) (ret : av_R → Option β) (N : List Value → List Value → av_M → Option β) (J : Nat → List Value → List Value → av_M → Option β) (q : av_I) (ls st : List Value) (h : av_M) :
    av_stp E ret N J q ls st h = (av_ini E q ls st h).bind (av_el ret N J) := by
  obtain ⟨pc, len, i, x, y, z, w, o, v, u, sw⟩ := q
  unfold av_ini av_stp
  dsimp only
  cases i <;> first
    | rfl
    | ((try dsimp only); (repeat' split) <;> first | rfl | exact av_sw_nat ret N J _ _ _ _ _ _ | (cases E _ _ _ <;> rfl) | (simp only [av_fo_eq]; rfl) | (cases av_inb _ _ <;> rfl) | (cases av_ins _ _ <;> rfl) | (cases av_nz _ <;> rfl) | (cases av_nzl _ <;> rfl) | (cases av_01 _ <;> rfl) | (simp_all; done))
def av_run (E : Nat → List Value → av_M → Option av_R) (T : List av_I) : Nat → Nat → List Value → List Value → av_M → Option av_R
  | 0, _, _, _, _ => none
  | n + 1, pc, ls, st, h => match av_at T pc with
    | [] => none
    | q :: _ => av_stp E some (fun ls st h => av_run E T n (q.1 + q.2.1) ls st h) (fun pc ls st h => av_run E T n pc ls st h) q ls st h
theorem av_run_mono {E : Nat → List Value → av_M → Option av_R} {T : List av_I} {r : av_R} : ∀ (n pc : Nat) (ls st : List Value) (h : av_M), av_run E T n pc ls st h = some r → av_run E T (n + 1) pc ls st h = some r := by
  intro n
  induction n with
  | zero => intro pc ls st h hr; cases hr
  | succ n ih =>
    intro pc ls st h hr
    unfold av_run at hr ⊢
    cases hq : av_at T pc with
    | nil => rw [hq] at hr; cases hr
    | cons q tl =>
      rw [hq] at hr
      dsimp only at hr ⊢
      rw [av_nat] at hr ⊢
      cases hz : av_ini E q ls st h with
      | none => rw [hz] at hr; cases hr
      | some z =>
        rw [hz] at hr
        rcases z with r1 | ⟨ls1, st1, h1⟩ | ⟨pc1, ls1, st1, h1⟩
        · exact hr
        · exact ih _ _ _ _ hr
        · exact ih _ _ _ _ hr
theorem av_run_le {E : Nat → List Value → av_M → Option av_R} {T : List av_I} {r : av_R} {n m pc : Nat} {ls st : List Value} {h : av_M} (hr : av_run E T n pc ls st h = some r) (hm : n ≤ m) : av_run E T m pc ls st h = some r := by
  induction hm with
  | refl => exact hr
  | step _ ih => exact av_run_mono _ _ _ _ _ ih
/-- the answer, if there is one -/
noncomputable def av_XP (E : Nat → List Value → av_M → Option av_R) (T : List av_I) (pc : Nat) (ls st : List Value) (h : av_M) : Option av_R :=
  @dite _ (∃ (r : av_R) (n : Nat), av_run E T n pc ls st h = some r) (Classical.propDecidable _) (fun hx => some hx.choose) (fun _ => none)
theorem av_XP_iff {E : Nat → List Value → av_M → Option av_R} {T : List av_I} {pc : Nat} {ls st : List Value} {h : av_M} {r : av_R} : av_XP E T pc ls st h = some r ↔ ∃ n, av_run E T n pc ls st h = some r := by
  unfold av_XP
  by_cases hx : ∃ (r : av_R) (n : Nat), av_run E T n pc ls st h = some r
  · rw [dif_pos hx]
    obtain ⟨n, hn⟩ := hx.choose_spec
    constructor
    · intro e
      cases e
      exact ⟨n, hn⟩
    · rintro ⟨m, hm⟩
      have h1 := av_run_le hn (Nat.le_max_left n m)
      have h2 := av_run_le hm (Nat.le_max_right n m)
      rw [← h2, h1]
  · rw [dif_neg hx]
    constructor
    · intro e; cases e
    · rintro ⟨m, hm⟩; exact absurd ⟨r, m, hm⟩ hx
theorem av_XP_step {E : Nat → List Value → av_M → Option av_R} {T : List av_I} {pc : Nat} {ls st : List Value} {h : av_M} {q : av_I} {tl : List av_I} (hq : av_at T pc = q :: tl) :
    av_XP E T pc ls st h = av_stp E some (fun ls st h => av_XP E T (q.1 + q.2.1) ls st h) (fun pc ls st h => av_XP E T pc ls st h) q ls st h := by
  rw [av_nat]
  have key : ∀ (n : Nat), av_run E T (n + 1) pc ls st h = (av_ini E q ls st h).bind (av_el some (fun ls st h => av_run E T n (q.1 + q.2.1) ls st h) (fun pc ls st h => av_run E T n pc ls st h)) := by
    intro n
    rw [← av_nat]
    show (match av_at T pc with
      | [] => none
      | q :: _ => av_stp E some (fun ls st h => av_run E T n (q.1 + q.2.1) ls st h) (fun pc ls st h => av_run E T n pc ls st h) q ls st h) = _
    rw [hq]
  have succ : ∀ (r : av_R) (m : Nat), av_run E T m pc ls st h = some r → ∃ n, av_run E T (n + 1) pc ls st h = some r := fun r m hm => ⟨m, av_run_mono _ _ _ _ _ hm⟩
  cases hz : av_ini E q ls st h with
  | none =>
    apply Option.ext
    intro r
    rw [av_XP_iff]
    constructor
    · rintro ⟨m, hm⟩
      obtain ⟨n, hn⟩ := succ r m hm
      rw [key, hz] at hn
      cases hn
    · intro e; cases e
  | some z =>
    rcases z with r1 | ⟨ls1, st1, h1⟩ | ⟨pc1, ls1, st1, h1⟩
    · show _ = some r1
      rw [av_XP_iff]
      exact ⟨1, by rw [key 0, hz]; rfl⟩
    · show _ = av_XP E T (q.1 + q.2.1) ls1 st1 h1
      apply Option.ext
      intro r
      rw [av_XP_iff, av_XP_iff]
      constructor
      · rintro ⟨m, hm⟩
        obtain ⟨n, hn⟩ := succ r m hm
        rw [key, hz] at hn
        exact ⟨n, hn⟩
      · rintro ⟨m, hm⟩
        exact ⟨m + 1, by rw [key, hz]; exact hm⟩
    · show _ = av_XP E T pc1 ls1 st1 h1
      apply Option.ext
      intro r
      rw [av_XP_iff, av_XP_iff]
      constructor
      · rintro ⟨m, hm⟩
        obtain ⟨n, hn⟩ := succ r m hm
        rw [key, hz] at hn
        exact ⟨n, hn⟩
      · rintro ⟨m, hm⟩
        exact ⟨m + 1, by rw [key, hz]; exact hm⟩
theorem av_XP_none {E : Nat → List Value → av_M → Option av_R} {T : List av_I} {pc : Nat} {ls st : List Value} {h : av_M} (hq : av_at T pc = []) : av_XP E T pc ls st h = none := by
  apply Option.ext
  intro r
  rw [av_XP_iff]
  constructor
  · rintro ⟨m, hm⟩
    cases m with
    | zero => cases hm
    | succ m => unfold av_run at hm; rw [hq] at hm; cases hm
  · intro e; cases e
theorem av_bf {a b : Nat} (h : a ≠ b) : Nat.beq a b = false := by
  cases hb : Nat.beq a b with
  | false => rfl
  | true => exact absurd (Nat.eq_of_beq_eq_true hb) h
theorem av_at_mem : ∀ (T : List av_I) (pc : Nat), ∀ x ∈ av_at T pc, x ∈ T := by
  intro T
  induction T with
  | nil => intro pc x hx; cases hx
  | cons t T ih =>
    intro pc x hx
    unfold av_at at hx
    split at hx
    · exact hx
    · exact List.mem_cons_of_mem _ (ih pc x hx)
/-- the rows of a method stand one behind the other -/
def av_wf : List av_I → Bool
  | [] => true
  | q :: l => Nat.blt q.1 (q.1 + q.2.1) && (match l with
    | [] => true
    | q' :: _ => Nat.beq q'.1 (q.1 + q.2.1)) && av_wf l
theorem av_wf_tl {q : av_I} {T : List av_I} (h : av_wf (q :: T) = true) : av_wf T = true := by
  simp only [av_wf, Bool.and_eq_true] at h
  exact h.2
theorem av_wf_h {q q' : av_I} {T : List av_I} (h : av_wf (q :: q' :: T) = true) : q'.1 = q.1 + q.2.1 ∧ q.1 < q'.1 := by
  simp only [av_wf, Bool.and_eq_true] at h
  have h1 : q'.1 = q.1 + q.2.1 := Nat.eq_of_beq_eq_true h.1.2
  have h2 : q.1 < q.1 + q.2.1 := by simpa using h.1.1
  exact ⟨h1, by omega⟩
theorem av_wf_lt : ∀ (T : List av_I) (q : av_I), av_wf (q :: T) = true → ∀ x ∈ T, q.1 < x.1 := by
  intro T
  induction T with
  | nil => intro q _ x hx; cases hx
  | cons t T ih =>
    intro q hw x hx
    have h1 := (av_wf_h hw).2
    rcases List.mem_cons.mp hx with rfl | hx
    · exact h1
    · exact Nat.lt_trans h1 (ih t (av_wf_tl hw) x hx)
theorem av_at_next : ∀ (T : List av_I) (pc : Nat) (q q' : av_I) (l : List av_I), av_wf T = true → av_at T pc = q :: q' :: l → av_at T q'.1 = q' :: l ∧ q'.1 = q.1 + q.2.1 := by
  intro T
  induction T with
  | nil => intro pc q q' l _ h; cases h
  | cons t T ih =>
    intro pc q q' l hw h
    unfold av_at at h ⊢
    split at h
    · injection h with e1 e2
      subst e1 e2
      obtain ⟨h2, h1⟩ := av_wf_h hw
      refine ⟨?_, h2⟩
      rw [av_bf (by omega)]
      show av_at (q' :: l) q'.1 = _
      unfold av_at
      rw [Nat.beq_refl]
    · obtain ⟨h3, h4⟩ := ih pc q q' l (av_wf_tl hw) h
      have hm : q' ∈ T := av_at_mem T pc q' (by rw [h]; exact List.mem_cons_of_mem _ List.mem_cons_self)
      have h5 := av_wf_lt T t hw q' hm
      rw [av_bf (by omega)]
      exact ⟨h3, h4⟩
theorem av_at_last : ∀ (T : List av_I) (pc : Nat) (q : av_I), av_wf T = true → av_at T pc = [q] → ∀ pc', q.1 < pc' → av_at T pc' = [] := by
  intro T
  induction T with
  | nil => intro pc q _ _ pc' _; rfl
  | cons t T ih =>
    intro pc q hw h pc' hlt
    unfold av_at at h ⊢
    split at h
    · injection h with e1 e2
      subst e1 e2
      rw [av_bf (by omega)]
      rfl
    · have hm : q ∈ T := av_at_mem T pc q (by rw [h]; exact List.mem_cons_self)
      have h5 := av_wf_lt T t hw q hm
      rw [av_bf (by omega)]
      exact ih pc q (av_wf_tl hw) h pc' hlt
theorem av_at_wf : ∀ (T : List av_I) (pc : Nat), av_wf T = true → av_wf (av_at T pc) = true := by
  intro T
  induction T with
  | nil => intro pc h; exact h
  | cons t T ih =>
    intro pc h
    unfold av_at
    split
    · exact h
    · exact ih pc (av_wf_tl h)
theorem av_at_hd : ∀ (T : List av_I) (pc : Nat) (q : av_I) (l : List av_I), av_at T pc = q :: l → q.1 = pc := by
  intro T
  induction T with
  | nil => intro pc q l h; cases h
  | cons t T ih =>
    intro pc q l h
    unfold av_at at h
    split at h
    · rename_i hb
      injection h with e1 e2
      subst e1
      exact Nat.eq_of_beq_eq_true hb
    · exact ih pc q l h
def av_mem : List Nat → Nat → Bool
  | [], _ => false
  | a :: l, b => match Nat.beq a b with
    | true => true
    | false => av_mem l b
/-- a segment: from a row on till one of the stops, or the end; K says what comes there -/
def av_seg {β : Type} (E : Nat → List Value → av_M → Option av_R) (ret : av_R → Option β) (K : Nat → List Value → List Value → av_M → Option β) (T : List av_I) (S : List Nat) : Nat → List av_I → List Value → List Value → av_M → Option β
  | 0, [], _, _, _ => none
  | 0, q :: _, ls, st, h => K q.1 ls st h
  | _ + 1, [], _, _, _ => none
  | n + 1, q :: tl, ls, st, h => av_stp E ret
      (fun ls st h => match tl with
        | [] => none
        | q' :: _ => match av_mem S q'.1 with
          | true => K q'.1 ls st h
          | false => av_seg E ret K T S n tl ls st h)
      (fun pc ls st h => match av_mem S pc with
        | true => K pc ls st h
        | false => av_seg E ret K T S n (av_at T pc) ls st h) q ls st h
theorem av_seg_XP {E : Nat → List Value → av_M → Option av_R} {T : List av_I} (S : List Nat) (hw : av_wf T = true) : ∀ (n : Nat) (q : av_I) (tl : List av_I) (ls st : List Value) (h : av_M), av_at T q.1 = q :: tl → av_seg E some (av_XP E T) T S n (q :: tl) ls st h = av_XP E T q.1 ls st h := by
  intro n
  induction n with
  | zero => intro q tl ls st h _; rfl
  | succ n ih =>
    intro q tl ls st h hq
    rw [av_XP_step hq]
    show av_stp E some _ _ q ls st h = _
    congr 1
    · funext ls st h
      cases tl with
      | nil =>
        refine (av_XP_none ?_).symm
        have h6 := av_at_wf T q.1 hw
        rw [hq] at h6
        simp only [av_wf, Bool.and_eq_true] at h6
        have h7 : q.1 < q.1 + q.2.1 := by simpa using h6.1.1
        exact av_at_last T q.1 q hw hq _ h7
      | cons q' l =>
        obtain ⟨h1, h2⟩ := av_at_next T q.1 q q' l hw hq
        rw [← h2]
        dsimp only
        split
        · rfl
        · exact ih q' l ls st h h1
    · funext pc ls st h
      split
      · rfl
      · cases hp : av_at T pc with
        | nil =>
          rw [av_XP_none hp]
          cases n <;> rfl
        | cons q2 tl2 =>
          have h1 := av_at_hd T pc q2 tl2 hp
          subst h1
          exact ih q2 tl2 ls st h hp
/-- a method: its rows, its number of locals -/
abbrev av_MT : Type := List av_I × Nat
noncomputable def av_X (tab : Nat → av_MT) : Nat → Nat → List Value → av_M → Option av_R
  | 0, _, _, _ => none
  | d + 1, k, as, h => av_XP (av_X tab d) (tab k).1 0 (av_pad (tab k).2 (av_in as)) [] h
end
section
/-! THE TABLES of this claim: links, methods, their rows. -/
def av_a (pc len : Nat) (i : Instr) : av_I := (pc, len, i, 0, 0, 0, 0, 0, 0, 0, [])
def av_k (pc len : Nat) (i : Instr) (v : Int32) : av_I := (pc, len, i, 0, 0, 0, 0, 0, v, 0, [])
def av_kk (pc len : Nat) (i : Instr) (v : Int32) (w : Nat) : av_I := (pc, len, i, 0, 0, 0, w, 0, v, 0, [])
def av_l (pc len : Nat) (i : Instr) (u : Int64) (w : Nat) : av_I := (pc, len, i, 0, 0, 0, w, 0, 0, u, [])
def av_b (pc : Nat) (i : Instr) (t : Nat) : av_I := (pc, 3, i, t, 0, 0, 0, 0, 0, 0, [])
def av_f (pc len : Nat) (i : Instr) (x y z w o : Nat) : av_I := (pc, len, i, x, y, z, w, o, 0, 0, [])
def av_w (pc len : Nat) (i : Instr) (d : Nat) (l : List (Int32 × Nat)) : av_I := (pc, len, i, d, 0, 0, 0, 0, 0, 0, l)
def av_cn (c : Nat) : String := match c with
  | 0 => RX0
  | 1 => RX1
  | 2 => RX2
  | 3 => RX3
  | 4 => RX4
  | 5 => RX5
  | 6 => RX6
  | 7 => RX7
  | 8 => "java/lang/Integer"
  | 9 => "java/lang/Long"
  | _ => RL
def av_Tt (c : Nat) : u_T := match c with
  | 0 => TX0
  | 1 => TX1
  | 2 => TX2
  | 3 => TX3
  | 4 => TX4
  | 5 => TX5
  | 6 => TX6
  | _ => TX7
def av_nf (c : Nat) : Nat := match c with
  | 0 => 5
  | 1 => 5
  | 2 => 2
  | 3 => 9
  | 4 => 13
  | 5 => 2
  | 6 => 14
  | 7 => 48
  | _ => 0
def av_ty (c : Nat) : Nat → FieldType := match c with
  | 0 => tyX0
  | 1 => tyX1
  | 2 => tyX2
  | 3 => tyX3
  | 4 => tyX4
  | 5 => tyX5
  | 6 => tyX6
  | _ => tyX7
/-- field links: own class, index, by a nest mate, class, field, place among the words -/
def av_ft : List (Nat × Nat × Bool × Nat × Nat × Nat) := [(5, 9, false, 5, 0, 130), (5, 15, false, 5, 1, 131), (3, 36, true, 5, 1, 132), (6, 80, true, 5, 1, 133), (2, 9, false, 2, 0, 146), (6, 383, true, 2, 0, 147), (2, 15, false, 2, 1, 148), (6, 382, true, 2, 1, 149), (4, 9, false, 4, 0, 162), (6, 105, true, 4, 0, 163), (4, 15, false, 4, 1, 164), (6, 108, true, 4, 1, 165), (3, 110, true, 4, 1, 166), (4, 18, false, 4, 2, 167), (6, 111, true, 4, 2, 168), (3, 113, true, 4, 2, 169), (4, 21, false, 4, 3, 170), (6, 114, true, 4, 3, 171), (4, 24, false, 4, 4, 172), (6, 117, true, 4, 4, 173), (3, 116, true, 4, 4, 174), (4, 27, false, 4, 5, 175), (6, 120, true, 4, 5, 176), (4, 34, false, 4, 6, 177), (6, 133, true, 4, 6, 178), (4, 37, false, 4, 7, 179), (6, 285, true, 4, 7, 180), (4, 40, false, 4, 8, 181), (6, 218, true, 4, 8, 182), (4, 43, false, 4, 9, 183), (6, 409, true, 4, 9, 184), (4, 54, false, 4, 10, 185), (6, 184, true, 4, 10, 186), (4, 30, false, 4, 11, 187), (3, 119, true, 4, 11, 188), (6, 246, true, 4, 11, 189), (3, 125, true, 4, 12, 190), (4, 92, false, 4, 12, 191), (6, 378, true, 4, 12, 192), (3, 9, false, 3, 0, 226), (3, 13, false, 3, 1, 227), (3, 16, false, 3, 2, 228), (3, 19, false, 3, 3, 229), (3, 23, false, 3, 4, 230), (3, 26, false, 3, 5, 231), (3, 29, false, 3, 6, 232), (3, 82, false, 3, 7, 233), (3, 32, false, 3, 8, 234), (1, 11, false, 1, 0, 260), (1, 15, false, 1, 1, 261), (1, 18, false, 1, 2, 262), (1, 26, false, 1, 3, 263), (6, 195, true, 1, 3, 264), (1, 38, false, 1, 4, 265), (0, 11, false, 0, 0, 283), (6, 415, true, 0, 0, 284), (0, 15, false, 0, 1, 285), (6, 418, true, 0, 1, 286), (0, 18, false, 0, 2, 287), (6, 421, true, 0, 2, 288), (0, 21, false, 0, 3, 289), (0, 25, false, 0, 4, 290), (6, 381, true, 0, 4, 291), (6, 12, false, 6, 0, 303), (6, 19, false, 6, 1, 304), (6, 26, false, 6, 2, 305), (6, 30, false, 6, 3, 306), (6, 36, false, 6, 4, 307), (6, 40, false, 6, 5, 308), (6, 46, false, 6, 6, 309), (6, 55, false, 6, 7, 310), (6, 59, false, 6, 8, 311), (6, 62, false, 6, 9, 312), (6, 65, false, 6, 10, 313), (6, 69, false, 6, 11, 314), (6, 433, false, 6, 12, 315), (6, 362, false, 6, 13, 316), (7, 3, false, 7, 0, 1066), (7, 15, false, 7, 1, 1067), (7, 11, false, 7, 2, 1068), (7, 120, false, 7, 3, 1069), (7, 224, false, 7, 4, 1070), (7, 28, false, 7, 5, 1071), (7, 32, false, 7, 6, 1072), (7, 35, false, 7, 7, 1073), (7, 38, false, 7, 8, 1074), (7, 41, false, 7, 9, 1075), (7, 150, false, 7, 10, 1076), (7, 153, false, 7, 11, 1077), (7, 165, false, 7, 12, 1078), (7, 156, false, 7, 13, 1079), (7, 44, false, 7, 14, 1080), (7, 192, false, 7, 15, 1081), (7, 47, false, 7, 16, 1082), (7, 50, false, 7, 17, 1083), (7, 248, false, 7, 18, 1084), (7, 227, false, 7, 19, 1085), (7, 53, false, 7, 20, 1086), (7, 56, false, 7, 21, 1087), (7, 221, false, 7, 22, 1088), (7, 59, false, 7, 23, 1089), (7, 62, false, 7, 24, 1090), (7, 65, false, 7, 25, 1091), (7, 68, false, 7, 26, 1092), (7, 335, false, 7, 27, 1093), (7, 382, false, 7, 28, 1094), (7, 71, false, 7, 29, 1095), (7, 74, false, 7, 30, 1096), (7, 77, false, 7, 31, 1097), (7, 80, false, 7, 32, 1098), (7, 401, false, 7, 33, 1099), (7, 84, false, 7, 34, 1100), (7, 87, false, 7, 35, 1101), (7, 416, false, 7, 36, 1102), (7, 90, false, 7, 37, 1103), (7, 93, false, 7, 38, 1104), (7, 96, false, 7, 39, 1105), (7, 99, false, 7, 40, 1106), (7, 102, false, 7, 41, 1107), (7, 105, false, 7, 42, 1108), (7, 108, false, 7, 43, 1109), (7, 434, false, 7, 44, 1110), (7, 111, false, 7, 45, 1111), (7, 114, false, 7, 46, 1112), (7, 117, false, 7, 47, 1113)]
/-- method links: own class, index, by a nest mate, method, place; static, parameters, what kind it returns, its class -/
def av_ct : List (Nat × Nat × Bool × Nat × Nat × Bool × Nat × Nat × Nat) := [(10, 23, false, 52, 346, false, 1, 1, 6), (6, 72, false, 48, 350, false, 1, 1, 5), (10, 28, false, 53, 354, false, 1, 1, 6), (6, 76, false, 49, 358, false, 1, 1, 5), (10, 33, false, 54, 362, false, 0, 1, 6), (6, 84, false, 115, 366, false, 0, 1, 6), (6, 390, false, 116, 373, false, 1, 1, 6), (6, 175, false, 50, 377, false, 1, 1, 5), (6, 393, false, 118, 381, true, 1, 1, 6), (6, 396, false, 51, 384, false, 1, 1, 5), (5, 19, false, 50, 388, false, 1, 1, 5), (6, 88, false, 117, 389, false, 0, 0, 6), (6, 399, false, 7, 393, false, 0, 0, 1), (6, 402, false, 27, 397, false, 5, 0, 4), (10, 38, false, 55, 401, false, 0, 1, 6), (6, 91, false, 11, 405, false, 1, 1, 3), (3, 39, false, 13, 409, false, 1, 1, 3), (3, 70, false, 19, 413, false, 1, 0, 3), (3, 73, false, 16, 417, false, 0, 1, 3), (3, 76, false, 21, 421, true, 1, 1, 3), (3, 79, false, 20, 424, false, 1, 0, 3), (3, 49, false, 50, 429, false, 1, 1, 5), (3, 53, false, 12, 430, false, 1, 1, 3), (3, 60, false, 14, 434, false, 1, 1, 3), (3, 63, false, 17, 438, false, 0, 1, 3), (3, 56, false, 18, 442, false, 1, 0, 3), (3, 85, false, 22, 446, true, 1, 1, 3), (3, 67, false, 15, 449, false, 1, 1, 3), (3, 88, true, 108, 453, true, 2, 1, 6), (6, 95, false, 10, 456, false, 1, 0, 3), (10, 51, false, 57, 460, false, 4, 1, 6), (6, 136, false, 119, 464, true, 2, 1, 6), (6, 140, false, 104, 467, true, 3, 1, 6), (10, 56, false, 58, 473, false, 1, 1, 6), (6, 144, false, 2, 477, false, 1, 0, 1), (1, 22, false, 46, 481, false, 2, 0, 4), (6, 148, false, 124, 485, false, 1, 1, 6), (6, 212, false, 43, 489, false, 1, 0, 4), (4, 71, false, 44, 493, false, 0, 0, 4), (4, 46, false, 28, 497, false, 0, 1, 4), (4, 50, true, 108, 501, true, 2, 1, 6), (4, 74, false, 41, 503, false, 0, 1, 4), (4, 61, false, 33, 507, false, 0, 1, 4), (4, 57, false, 32, 511, false, 1, 1, 4), (4, 64, false, 38, 515, false, 1, 1, 4), (4, 86, false, 23, 520, false, 2, 1, 3), (3, 94, false, 24, 524, true, 3, 1, 3), (3, 105, false, 32, 527, false, 1, 1, 4), (3, 122, false, 37, 528, false, 1, 1, 4), (3, 98, false, 25, 532, true, 3, 1, 3), (3, 102, true, 104, 535, true, 3, 1, 6), (6, 201, false, 28, 536, false, 0, 1, 4), (6, 252, false, 275, 537, true, 1, 1, 8), (6, 187, false, 111, 543, false, 2, 0, 6), (6, 215, false, 8, 547, false, 0, 0, 2), (6, 225, false, 9, 551, false, 1, 0, 2), (6, 151, false, 122, 555, false, 1, 1, 6), (6, 181, false, 3, 559, false, 0, 0, 1), (10, 60, false, 59, 564, false, 2, 1, 6), (6, 154, false, 125, 568, false, 2, 1, 6), (6, 99, false, 26, 572, false, 1, 1, 4), (6, 406, false, 106, 576, true, 1, 1, 6), (10, 64, false, 60, 582, false, 2, 1, 6), (6, 157, false, 126, 586, false, 2, 1, 6), (10, 68, false, 61, 590, false, 2, 1, 6), (6, 160, false, 127, 594, false, 2, 1, 6), (10, 72, false, 62, 598, false, 1, 1, 6), (6, 163, false, 128, 602, false, 1, 1, 6), (6, 221, false, 108, 606, true, 2, 1, 6), (10, 76, false, 63, 607, false, 1, 1, 6), (6, 166, false, 129, 611, false, 1, 1, 6), (10, 80, false, 64, 615, false, 0, 1, 6), (6, 169, false, 120, 619, false, 0, 1, 6), (6, 178, false, 121, 623, true, 1, 1, 6), (6, 172, false, 123, 626, false, 1, 1, 6), (10, 84, false, 65, 630, false, 0, 1, 6), (6, 191, false, 4, 634, false, 1, 1, 1), (1, 35, false, 47, 638, false, 2, 0, 4), (10, 88, false, 66, 642, false, 1, 1, 6), (6, 198, false, 114, 646, false, 1, 0, 6), (6, 207, false, 45, 650, false, 1, 0, 4), (6, 355, false, 42, 654, false, 2, 0, 4), (4, 67, false, 43, 658, false, 1, 0, 4), (6, 204, false, 33, 659, false, 0, 1, 4), (10, 92, false, 67, 660, false, 1, 1, 6), (6, 209, false, 29, 664, false, 1, 1, 4), (10, 96, false, 68, 668, false, 0, 1, 6), (10, 100, false, 69, 672, false, 0, 1, 6), (6, 229, false, 110, 676, false, 1, 0, 6), (10, 104, false, 70, 680, false, 0, 1, 6), (10, 108, false, 71, 684, false, 0, 1, 6), (6, 231, false, 38, 688, false, 1, 1, 4), (6, 234, false, 41, 689, false, 0, 1, 4), (10, 112, false, 72, 690, false, 2, 1, 6), (6, 237, false, 107, 694, true, 1, 1, 6), (6, 240, false, 130, 697, false, 2, 1, 6), (10, 116, false, 73, 701, false, 2, 1, 6), (10, 120, false, 74, 705, false, 2, 1, 6), (6, 243, false, 131, 709, false, 2, 1, 6), (10, 124, false, 75, 713, false, 0, 1, 6), (6, 249, false, 109, 717, true, 2, 1, 6), (6, 257, false, 113, 720, false, 2, 1, 6), (10, 128, false, 76, 724, false, 2, 1, 6), (6, 260, false, 132, 728, false, 3, 1, 6), (10, 132, false, 77, 732, false, 1, 1, 6), (6, 264, false, 133, 736, false, 2, 1, 6), (6, 412, false, 134, 740, false, 1, 1, 6), (6, 267, false, 112, 744, false, 2, 0, 6), (10, 136, false, 78, 748, false, 1, 1, 6), (6, 270, false, 135, 752, true, 1, 2, 6), (10, 140, false, 79, 755, false, 0, 1, 6), (6, 274, false, 34, 759, false, 1, 1, 4), (10, 144, false, 80, 763, false, 0, 1, 6), (10, 148, false, 81, 767, false, 4, 1, 6), (6, 282, false, 137, 771, true, 1, 1, 6), (6, 288, false, 138, 774, false, 5, 1, 6), (10, 152, false, 82, 778, false, 1, 1, 6), (6, 292, false, 39, 782, false, 1, 1, 4), (10, 156, false, 83, 786, false, 3, 1, 6), (6, 295, false, 105, 790, true, 1, 1, 6), (6, 298, false, 0, 793, false, 3, 1, 0), (10, 161, false, 84, 797, false, 0, 1, 6), (6, 300, false, 1, 801, false, 0, 1, 0), (10, 165, false, 85, 805, false, 0, 1, 6), (6, 303, false, 139, 809, false, 1, 1, 6), (6, 309, false, 31, 813, false, 1, 1, 4), (10, 169, false, 86, 817, false, 0, 1, 6), (6, 306, false, 140, 821, false, 0, 1, 6), (10, 173, false, 87, 825, false, 2, 1, 6), (6, 315, false, 141, 829, true, 2, 1, 6), (10, 177, false, 88, 832, false, 0, 1, 6), (10, 181, false, 89, 836, false, 0, 1, 6), (6, 318, false, 142, 840, false, 0, 1, 6), (6, 321, false, 143, 844, false, 2, 1, 6), (6, 424, false, 35, 848, false, 1, 1, 4), (6, 427, false, 36, 852, false, 1, 1, 4), (10, 185, false, 90, 856, false, 0, 1, 6), (10, 189, false, 91, 860, false, 2, 1, 6), (6, 324, false, 136, 864, true, 2, 2, 6), (10, 193, false, 92, 868, false, 3, 1, 6), (10, 197, false, 93, 872, false, 0, 1, 6), (10, 201, false, 94, 876, false, 0, 1, 6), (6, 330, false, 147, 880, false, 1, 1, 6), (6, 430, false, 146, 884, true, 3, 1, 6), (6, 333, false, 144, 887, true, 1, 1, 6), (6, 336, false, 145, 890, true, 1, 1, 6), (10, 205, false, 95, 893, false, 0, 1, 6), (6, 339, false, 148, 897, false, 0, 2, 6), (6, 343, false, 276, 901, true, 1, 1, 9), (6, 348, false, 149, 907, true, 2, 2, 6), (10, 209, false, 96, 910, false, 1, 1, 6), (6, 352, false, 150, 914, false, 1, 0, 6), (6, 436, false, 151, 918, false, 1, 1, 6), (10, 213, false, 97, 922, false, 0, 1, 6), (10, 217, false, 98, 926, false, 1, 1, 6), (6, 359, false, 152, 930, true, 3, 1, 6), (6, 439, false, 153, 933, true, 3, 1, 6), (10, 221, false, 99, 936, false, 2, 1, 6), (6, 365, false, 155, 940, false, 0, 0, 6), (6, 443, false, 154, 944, false, 1, 1, 6), (6, 368, false, 40, 949, false, 0, 1, 4), (10, 225, false, 100, 953, false, 1, 1, 6), (6, 371, false, 5, 957, false, 2, 1, 1), (10, 229, false, 101, 961, false, 1, 1, 6), (6, 375, false, 6, 965, false, 2, 1, 1), (1, 41, true, 108, 969, true, 2, 1, 6), (10, 233, false, 102, 970, false, 1, 1, 6), (10, 7, false, 56, 978, false, 2, 1, 6), (6, 123, false, 30, 1043, false, 1, 1, 4), (6, 126, false, 32, 1047, false, 1, 1, 4), (6, 129, false, 23, 1048, false, 2, 1, 3), (10, 15, false, 103, 1052, false, 1, 2, 6), (10, 48, false, 156, 1056, false, 0, 1, 7), (10, 27, false, 173, 1212, false, 1, 1, 7), (10, 32, false, 174, 1216, false, 1, 1, 7), (7, 123, false, 158, 1220, true, 3, 1, 7), (10, 37, false, 184, 1223, false, 0, 1, 7), (7, 207, false, 175, 1227, false, 1, 1, 7), (7, 210, false, 183, 1232, false, 0, 1, 7), (7, 197, false, 178, 1237, false, 1, 1, 7), (7, 201, false, 180, 1289, false, 2, 1, 7), (7, 204, false, 181, 1293, false, 0, 1, 7), (7, 189, false, 179, 1297, false, 1, 1, 7), (7, 185, false, 177, 1301, false, 0, 1, 7), (7, 213, false, 176, 1307, false, 1, 1, 7), (7, 168, false, 160, 1311, true, 1, 1, 7), (7, 217, false, 182, 1314, false, 3, 1, 7), (10, 41, false, 190, 1319, false, 0, 1, 7), (7, 251, false, 188, 1323, false, 0, 1, 7), (7, 239, false, 187, 1327, false, 1, 1, 7), (7, 230, false, 186, 1331, false, 0, 1, 7), (7, 233, false, 185, 1335, false, 1, 0, 7), (7, 254, false, 189, 1343, false, 2, 0, 7), (10, 47, false, 195, 1347, false, 2, 1, 7), (7, 276, false, 164, 1351, false, 1, 1, 7), (7, 281, false, 157, 1356, false, 0, 1, 7), (7, 135, false, 159, 1360, true, 2, 1, 7), (7, 139, false, 167, 1363, true, 2, 1, 7), (7, 284, false, 194, 1366, false, 2, 1, 7), (7, 131, false, 166, 1370, false, 1, 1, 7), (7, 127, false, 165, 1374, false, 0, 1, 7), (7, 262, false, 193, 1378, false, 1, 1, 7), (7, 265, false, 275, 1382, true, 1, 1, 8), (7, 270, false, 192, 1383, false, 0, 1, 7), (7, 258, false, 191, 1387, true, 3, 1, 7), (10, 55, false, 196, 1391, false, 4, 1, 7), (7, 146, false, 169, 1396, false, 1, 1, 7), (10, 87, false, 200, 1400, false, 0, 1, 7), (10, 59, false, 209, 1404, false, 1, 1, 7), (7, 311, false, 197, 1409, false, 0, 0, 7), (7, 314, false, 202, 1413, false, 2, 0, 7), (7, 295, false, 201, 1417, false, 1, 0, 7), (7, 292, false, 170, 1421, false, 1, 1, 7), (7, 143, false, 168, 1425, false, 1, 1, 7), (7, 18, false, 162, 1429, false, 1, 0, 7), (7, 289, false, 198, 1433, false, 1, 1, 7), (10, 63, false, 210, 1437, false, 2, 1, 7), (7, 317, false, 204, 1441, false, 2, 1, 7), (7, 320, false, 199, 1447, false, 1, 1, 7), (10, 67, false, 211, 1451, false, 2, 1, 7), (7, 323, false, 205, 1455, false, 2, 1, 7), (7, 304, false, 203, 1459, false, 3, 1, 7), (10, 71, false, 212, 1463, false, 2, 1, 7), (7, 326, false, 206, 1467, false, 2, 1, 7), (10, 75, false, 213, 1472, false, 1, 1, 7), (7, 329, false, 207, 1476, false, 1, 1, 7), (10, 79, false, 214, 1480, false, 1, 1, 7), (7, 332, false, 208, 1484, false, 1, 1, 7), (10, 83, false, 217, 1488, false, 0, 1, 7), (7, 340, false, 215, 1492, false, 0, 1, 7), (7, 343, false, 216, 1497, false, 1, 1, 7), (10, 91, false, 218, 1501, false, 1, 1, 7), (7, 346, false, 172, 1505, true, 2, 0, 7), (10, 95, false, 219, 1508, false, 1, 1, 7), (10, 99, false, 220, 1512, false, 0, 1, 7), (10, 103, false, 221, 1516, false, 0, 1, 7), (10, 107, false, 222, 1520, false, 0, 1, 7), (10, 111, false, 223, 1524, false, 0, 1, 7), (10, 115, false, 224, 1528, false, 2, 1, 7), (10, 119, false, 226, 1532, false, 2, 1, 7), (7, 350, false, 225, 1536, false, 3, 1, 7), (10, 123, false, 228, 1540, false, 2, 1, 7), (7, 355, false, 227, 1545, false, 2, 1, 7), (10, 127, false, 231, 1549, false, 0, 1, 7), (7, 358, false, 229, 1553, true, 2, 1, 7), (7, 361, false, 230, 1556, false, 1, 1, 7), (10, 131, false, 232, 1560, false, 2, 1, 7), (10, 135, false, 236, 1564, false, 1, 1, 7), (7, 371, false, 234, 1568, false, 2, 1, 7), (7, 364, false, 233, 1572, false, 1, 1, 7), (7, 374, false, 163, 1576, false, 2, 1, 7), (7, 7, false, 161, 1580, true, 2, 2, 7), (10, 139, false, 237, 1583, false, 1, 1, 7), (7, 367, false, 235, 1587, true, 1, 2, 7), (10, 143, false, 238, 1590, false, 0, 1, 7), (10, 147, false, 239, 1594, false, 0, 1, 7), (10, 151, false, 240, 1598, false, 4, 1, 7), (10, 155, false, 241, 1602, false, 1, 1, 7), (10, 160, false, 242, 1607, false, 3, 1, 7), (10, 164, false, 243, 1612, false, 0, 1, 7), (10, 168, false, 246, 1616, false, 0, 1, 7), (7, 389, false, 245, 1620, false, 1, 1, 7), (7, 385, false, 244, 1624, false, 3, 1, 7), (10, 172, false, 247, 1628, false, 0, 1, 7), (10, 176, false, 250, 1633, false, 2, 1, 7), (7, 395, false, 248, 1638, true, 1, 1, 7), (7, 398, false, 249, 1641, true, 1, 1, 7), (10, 180, false, 251, 1644, false, 0, 1, 7), (10, 184, false, 254, 1648, false, 0, 1, 7), (7, 407, false, 253, 1652, false, 0, 1, 7), (7, 404, false, 252, 1656, false, 3, 1, 7), (10, 188, false, 255, 1660, false, 0, 1, 7), (10, 192, false, 256, 1664, false, 2, 1, 7), (10, 196, false, 257, 1670, false, 3, 1, 7), (10, 200, false, 258, 1675, false, 0, 1, 7), (10, 204, false, 261, 1679, false, 0, 1, 7), (7, 422, false, 260, 1683, false, 1, 1, 7), (7, 419, false, 259, 1687, true, 3, 1, 7), (10, 208, false, 262, 1690, false, 0, 1, 7), (10, 212, false, 264, 1694, false, 1, 1, 7), (7, 425, false, 263, 1698, false, 1, 0, 7), (10, 216, false, 265, 1702, false, 0, 1, 7), (10, 220, false, 268, 1706, false, 1, 1, 7), (7, 431, false, 267, 1710, true, 3, 1, 7), (7, 428, false, 266, 1713, true, 3, 1, 7), (10, 224, false, 270, 1716, false, 2, 1, 7), (7, 438, false, 269, 1720, false, 1, 1, 7), (7, 441, false, 171, 1725, false, 1, 1, 7), (10, 228, false, 271, 1729, false, 1, 1, 7), (10, 232, false, 272, 1734, false, 1, 1, 7), (10, 236, false, 273, 1738, false, 1, 1, 7), (10, 240, false, 274, 1742, false, 1, 2, 7)]
def av_pt : List (Nat × Nat × Nat × Nat) := [(6, 387, 11, 370), (3, 43, 11, 428), (6, 312, 10, 470), (4, 83, 11, 502), (4, 77, 10, 519), (1, 29, 11, 563), (6, 277, 12, 579), (7, 159, 11, 1231), (7, 176, 13, 1241), (7, 181, 14, 1251), (7, 273, 10, 1390), (7, 301, 12, 1446)]
def av_kt : List (Nat × Nat × Int32 × Nat) := [(8, 265, 1431655765, 540), (8, 266, 858993459, 541), (8, 267, 252645135, 542), (6, 442, 1103515245, 948), (7, 392, 1000000, 1632), (7, 437, 1103515245, 1724)]
def av_lt : List (Nat × Nat × Int64 × Nat) := [(6, 328, 10, 867), (9, 314, 6148914691236517205, 904), (9, 316, 3689348814741910323, 905), (9, 318, 1085102592571150095, 906), (7, 172, 48, 1305), (7, 174, 57, 1306), (7, 279, 8, 1355), (7, 287, 3, 1395), (7, 309, 60, 1408), (7, 299, 9, 1445), (7, 307, 99, 1471), (7, 353, 7, 1544), (7, 378, 9999, 1606), (7, 380, (-99), 1611), (7, 393, 4, 1637), (7, 410, 10, 1668), (7, 412, 63, 1669), (7, 414, 20, 1674), (7, 444, 2, 1733)]
def tX0_add : List av_I := [av_a 0 1 (.aload_n 0), av_f 1 3 (.getfield 25) 0 4 0 61 0, av_a 4 1 (.aload_n 0), av_f 5 3 (.getfield 21) 0 3 0 60 0, av_b 8 (.if_icmp .ge 12) 20, av_a 11 1 (.aload_n 0), av_f 12 3 (.getfield 25) 0 4 0 61 0, av_k 15 2 (.bipush 12) 12, av_b 17 (.if_icmp .lt 5) 22, av_k 20 1 (.iconst (-1)) (-1), av_f 21 1 .ireturn 0 0 0 0 0, av_a 22 1 (.aload_n 0), av_f 23 3 (.getfield 11) 0 0 0 54 0, av_a 26 1 (.aload_n 0), av_f 27 3 (.getfield 25) 0 4 0 61 0, av_a 30 1 (.iload_n 1), av_a 31 1 .iastore, av_a 32 1 (.aload_n 0), av_f 33 3 (.getfield 15) 0 1 0 56 0, av_a 36 1 (.aload_n 0), av_f 37 3 (.getfield 25) 0 4 0 61 0, av_a 40 1 (.iload_n 2), av_a 41 1 .iastore, av_a 42 1 (.aload_n 0), av_f 43 3 (.getfield 18) 0 2 0 58 0, av_a 46 1 (.aload_n 0), av_f 47 3 (.getfield 25) 0 4 0 61 0, av_a 50 1 (.iload_n 3), av_a 51 1 .iastore, av_a 52 1 (.aload_n 0), av_a 53 1 .dup, av_f 54 3 (.getfield 25) 0 4 0 61 0, av_k 57 1 (.iconst 1) 1, av_a 58 1 .iadd, av_f 59 3 (.putfield 25) 0 4 0 61 0, av_a 62 1 (.aload_n 0), av_f 63 3 (.getfield 25) 0 4 0 61 0, av_f 66 1 .ireturn 0 0 0 0 0]
def tX0_drop : List av_I := [av_a 0 1 (.aload_n 0), av_f 1 3 (.getfield 25) 0 4 0 61 0, av_a 4 1 (.istore_n 1), av_a 5 1 (.aload_n 0), av_k 6 1 (.iconst 0) 0, av_f 7 3 (.putfield 25) 0 4 0 61 0, av_a 10 1 (.iload_n 1), av_f 11 1 .ireturn 0 0 0 0 0]
def tX1_mark : List av_I := [av_a 0 1 (.aload_n 1), av_a 1 1 (.aload_n 0), av_f 2 3 (.getfield 11) 1 0 0 48 0, av_a 5 1 (.aload_n 0), av_f 6 3 (.getfield 18) 1 2 0 50 0, av_k 9 2 (.bipush 33) 33, av_a 11 1 .imul, av_f 12 3 (.invokevirtual 22) 46 2 0 35 4, av_a 15 1 .return_]
def tX1_confirm : List av_I := [av_a 0 1 (.aload_n 0), av_a 1 1 (.aload_n 0), av_f 2 3 (.getfield 18) 1 2 0 50 0, av_k 5 1 (.iconst 1) 1, av_a 6 1 .iadd, av_k 7 2 (.bipush 16) 16, av_a 9 1 .irem, av_f 10 3 (.putfield 18) 1 2 0 50 0, av_a 13 1 (.aload_n 0), av_k 14 2 (.bipush 15) 15, av_a 16 1 (.aload_n 0), av_f 17 3 (.getfield 26) 1 3 0 51 0, av_k 20 1 (.iconst 1) 1, av_a 21 1 .iadd, av_f 22 3 (.invokestatic 29) 0 0 11 5 0, av_f 25 3 (.putfield 26) 1 3 0 51 0, av_a 28 1 .return_]
def tX1_bringBack : List av_I := [av_a 0 1 (.aload_n 0), av_f 1 3 (.getfield 26) 1 3 0 51 0, av_b 4 (.ifCond .ne 5) 9, av_k 7 1 (.iconst 0) 0, av_f 8 1 .ireturn 1 0 0 0 0, av_a 9 1 (.aload_n 0), av_a 10 1 .dup, av_f 11 3 (.getfield 26) 1 3 0 51 0, av_k 14 1 (.iconst 1) 1, av_a 15 1 .isub, av_f 16 3 (.putfield 26) 1 3 0 51 0, av_a 19 1 (.aload_n 0), av_a 20 1 (.aload_n 0), av_f 21 3 (.getfield 18) 1 2 0 50 0, av_k 24 2 (.bipush 16) 16, av_a 26 1 .iadd, av_k 27 1 (.iconst 1) 1, av_a 28 1 .isub, av_k 29 2 (.bipush 16) 16, av_a 31 1 .irem, av_f 32 3 (.putfield 18) 1 2 0 50 0, av_a 35 1 (.aload_n 1), av_a 36 1 (.aload_n 0), av_f 37 3 (.getfield 11) 1 0 0 48 0, av_a 40 1 (.aload_n 0), av_f 41 3 (.getfield 18) 1 2 0 50 0, av_k 44 2 (.bipush 33) 33, av_a 46 1 .imul, av_f 47 3 (.invokevirtual 35) 47 2 0 77 4, av_k 50 1 (.iconst 1) 1, av_f 51 1 .ireturn 1 0 0 0 0]
def tX1_keepUnder : List av_I := [av_a 0 1 (.iload_n 1), av_b 1 (.ifCond .lt 8) 9, av_a 4 1 (.iload_n 1), av_k 5 1 (.iconst 3) 3, av_b 6 (.if_icmp .lt 5) 11, av_k 9 1 (.iconst 0) 0, av_f 10 1 .ireturn 1 0 0 0 0, av_a 11 1 (.aload_n 2), av_a 12 1 (.aload_n 0), av_f 13 3 (.getfield 15) 1 1 0 49 0, av_a 16 1 (.iload_n 1), av_k 17 2 (.bipush 33) 33, av_a 19 1 .imul, av_f 20 3 (.invokevirtual 22) 46 2 0 35 4, av_a 23 1 (.aload_n 0), av_a 24 1 .dup, av_f 25 3 (.getfield 38) 1 4 0 53 0, av_k 28 1 (.iconst 1) 1, av_a 29 1 (.iload_n 1), av_a 30 1 .ishl, av_a 31 1 .ior, av_f 32 3 (.putfield 38) 1 4 0 53 0, av_k 35 1 (.iconst 1) 1, av_f 36 1 .ireturn 1 0 0 0 0]
def tX1_bringKept : List av_I := [av_a 0 1 (.iload_n 1), av_b 1 (.ifCond .lt 19) 20, av_a 4 1 (.iload_n 1), av_k 5 1 (.iconst 3) 3, av_b 6 (.if_icmp .ge 14) 20, av_a 9 1 (.aload_n 0), av_f 10 3 (.getfield 38) 1 4 0 53 0, av_a 13 1 (.iload_n 1), av_f 14 3 (.invokestatic 41) 108 2 1 165 6, av_b 17 (.ifCond .ne 5) 22, av_k 20 1 (.iconst 0) 0, av_f 21 1 .ireturn 1 0 0 0 0, av_a 22 1 (.aload_n 2), av_a 23 1 (.aload_n 0), av_f 24 3 (.getfield 15) 1 1 0 49 0, av_a 27 1 (.iload_n 1), av_k 28 2 (.bipush 33) 33, av_a 30 1 .imul, av_f 31 3 (.invokevirtual 35) 47 2 0 77 4, av_a 34 1 (.aload_n 0), av_k 35 1 (.iconst 0) 0, av_f 36 3 (.putfield 26) 1 3 0 51 0, av_k 39 1 (.iconst 1) 1, av_f 40 1 .ireturn 1 0 0 0 0]
def tX1_loseAll : List av_I := [av_a 0 1 (.aload_n 0), av_k 1 1 (.iconst 0) 0, av_f 2 3 (.putfield 26) 1 3 0 51 0, av_a 5 1 (.aload_n 0), av_k 6 1 (.iconst 0) 0, av_f 7 3 (.putfield 38) 1 4 0 53 0, av_a 10 1 .return_]
def tX2_clear : List av_I := [av_a 0 1 (.aload_n 0), av_k 1 1 (.iconst 0) 0, av_f 2 3 (.putfield 15) 2 1 0 6 0, av_a 5 1 .return_]
def tX2_add : List av_I := [av_a 0 1 (.aload_n 0), av_f 1 3 (.getfield 15) 2 1 0 6 0, av_a 4 1 (.aload_n 0), av_f 5 3 (.getfield 9) 2 0 0 4 0, av_a 8 1 .arraylength, av_b 9 (.if_icmp .ge 23) 32, av_a 12 1 (.aload_n 0), av_f 13 3 (.getfield 9) 2 0 0 4 0, av_a 16 1 (.aload_n 0), av_f 17 3 (.getfield 15) 2 1 0 6 0, av_a 20 1 (.lload_n 1), av_a 21 1 .lastore, av_a 22 1 (.aload_n 0), av_a 23 1 .dup, av_f 24 3 (.getfield 15) 2 1 0 6 0, av_k 27 1 (.iconst 1) 1, av_a 28 1 .iadd, av_f 29 3 (.putfield 15) 2 1 0 6 0, av_a 32 1 .return_]
def tX3_copy : List av_I := [av_k 0 1 (.iconst 0) 0, av_a 1 1 (.istore_n 2), av_a 2 1 (.iload_n 2), av_k 3 2 (.bipush 40) 40, av_b 5 (.if_icmp .ge 21) 26, av_a 8 1 (.aload_n 0), av_f 9 3 (.getfield 9) 3 0 0 39 0, av_a 12 1 (.iload_n 2), av_a 13 1 (.aload_n 1), av_f 14 3 (.getfield 9) 3 0 0 39 0, av_a 17 1 (.iload_n 2), av_a 18 1 .iaload, av_a 19 1 .iastore, av_k 20 3 (.iinc 2 1) 1, av_b 23 (.goto (-21)) 2, av_a 26 1 (.aload_n 0), av_a 27 1 (.aload_n 1), av_f 28 3 (.getfield 19) 3 3 0 42 0, av_f 31 3 (.putfield 19) 3 3 0 42 0, av_a 34 1 .return_]
def tX3_read : List av_I := [av_a 0 1 (.aload_n 0), av_k 1 1 (.iconst 0) 0, av_f 2 3 (.putfield 19) 3 3 0 42 0, av_a 5 1 (.aload_n 0), av_k 6 1 (.iconst 0) 0, av_f 7 3 (.putfield 23) 3 4 0 43 0, av_a 10 1 (.aload_n 0), av_k 11 1 (.iconst 0) 0, av_f 12 3 (.putfield 26) 3 5 0 44 0, av_a 15 1 (.aload_n 0), av_k 16 1 (.iconst 0) 0, av_f 17 3 (.putfield 29) 3 6 0 45 0, av_a 20 1 (.aload_n 0), av_k 21 1 (.iconst 1) 1, av_f 22 3 (.putfield 32) 3 8 1 47 0, av_a 25 1 (.aload_n 1), av_f 26 3 (.getfield 36) 5 1 0 2 0, av_b 29 (.ifCond .ne 12) 41, av_a 32 1 (.aload_n 0), av_k 33 2 (.bipush 107) 107, av_f 35 3 (.invokevirtual 39) 13 1 1 16 3, av_a 38 1 .pop, av_k 39 1 (.iconst (-1)) (-1), av_f 40 1 .ireturn 0 0 0 0 0, av_a 41 1 (.aload_n 1), av_f 42 3 (.getfield 36) 5 1 0 2 0, av_k 45 2 (.bipush 40) 40, av_f 47 3 (.invokestatic 43) 0 0 11 1 0, av_a 50 1 (.istore_n 2), av_k 51 1 (.iconst 0) 0, av_a 52 1 (.istore_n 3), av_a 53 1 (.iload_n 3), av_a 54 1 (.iload_n 2), av_b 55 (.if_icmp .ge 23) 78, av_a 58 1 (.aload_n 0), av_a 59 1 (.aload_n 1), av_a 60 1 (.iload_n 3), av_f 61 3 (.invokevirtual 49) 50 1 1 21 5, av_f 64 3 (.invokevirtual 53) 12 1 1 22 3, av_b 67 (.ifCond .ne 5) 72, av_a 70 1 (.iload_n 3), av_f 71 1 .ireturn 0 0 0 0 0, av_k 72 3 (.iinc 3 1) 1, av_b 75 (.goto (-22)) 53, av_a 78 1 (.aload_n 1), av_f 79 3 (.getfield 36) 5 1 0 2 0, av_a 82 1 (.iload_n 2), av_b 83 (.if_icmp .gt 17) 100, av_a 86 1 (.aload_n 0), av_f 87 3 (.getfield 32) 3 8 1 47 0, av_b 90 (.ifCond .ne 10) 100, av_a 93 1 (.aload_n 0), av_f 94 3 (.getfield 26) 3 5 0 44 0, av_b 97 (.ifCond .le 5) 102, av_a 100 1 (.iload_n 2), av_f 101 1 .ireturn 0 0 0 0 0, av_a 102 1 (.aload_n 0), av_k 103 1 (.iconst 1) 1, av_f 104 3 (.invokevirtual 56) 18 1 0 25 3, av_k 107 1 (.iconst (-1)) (-1), av_f 108 1 .ireturn 0 0 0 0 0]
def tX3_take : List av_I := [av_a 0 1 (.aload_n 0), av_f 1 3 (.getfield 32) 3 8 1 47 0, av_b 4 (.ifCond .eq 9) 13, av_a 7 1 (.aload_n 0), av_a 8 1 (.iload_n 1), av_f 9 3 (.invokevirtual 39) 13 1 1 16 3, av_f 12 1 .ireturn 1 0 0 0 0, av_a 13 1 (.iload_n 1), av_k 14 2 (.bipush 48) 48, av_b 16 (.if_icmp .lt 18) 34, av_a 19 1 (.iload_n 1), av_k 20 2 (.bipush 57) 57, av_b 22 (.if_icmp .gt 12) 34, av_a 25 1 (.aload_n 0), av_a 26 1 (.iload_n 1), av_k 27 2 (.bipush 48) 48, av_a 29 1 .isub, av_f 30 3 (.invokevirtual 60) 14 1 1 23 3, av_f 33 1 .ireturn 1 0 0 0 0, av_a 34 1 (.iload_n 1), av_k 35 2 (.bipush 41) 41, av_b 37 (.if_icmp .ne 10) 47, av_a 40 1 (.aload_n 0), av_f 41 3 (.invokevirtual 63) 17 0 1 24 3, av_b 44 (.goto 8) 52, av_a 47 1 (.aload_n 0), av_a 48 1 (.iload_n 1), av_f 49 3 (.invokevirtual 67) 15 1 1 27 3, av_f 52 1 .ireturn 1 0 0 0 0]
def tX3_takeThing : List av_I := [av_a 0 1 (.iload_n 1), av_k 1 2 (.bipush 45) 45, av_b 3 (.if_icmp .ne 12) 15, av_a 6 1 (.aload_n 0), av_k 7 3 (.sipush 256) 256, av_f 10 3 (.invokevirtual 70) 19 1 0 17 3, av_k 13 1 (.iconst 1) 1, av_f 14 1 .ireturn 1 0 0 0 0, av_a 15 1 (.iload_n 1), av_k 16 2 (.bipush 40) 40, av_b 18 (.if_icmp .ne 8) 26, av_a 21 1 (.aload_n 0), av_f 22 3 (.invokevirtual 73) 16 0 1 18 3, av_f 25 1 .ireturn 1 0 0 0 0, av_a 26 1 (.iload_n 1), av_k 27 2 (.bipush 48) 48, av_b 29 (.if_icmp .lt 13) 42, av_a 32 1 (.iload_n 1), av_k 33 2 (.bipush 57) 57, av_b 35 (.if_icmp .gt 7) 42, av_k 38 1 (.iconst 1) 1, av_b 39 (.goto 4) 43, av_k 42 1 (.iconst 0) 0, av_a 43 1 (.istore_n 2), av_a 44 1 (.iload_n 2), av_b 45 (.ifCond .ne 12) 57, av_a 48 1 (.iload_n 1), av_f 49 3 (.invokestatic 76) 21 1 1 19 3, av_b 52 (.ifCond .ne 5) 57, av_k 55 1 (.iconst 0) 0, av_f 56 1 .ireturn 1 0 0 0 0, av_a 57 1 (.aload_n 0), av_a 58 1 (.iload_n 2), av_b 59 (.ifCond .eq 10) 69, av_a 62 1 (.iload_n 1), av_k 63 2 (.bipush 48) 48, av_a 65 1 .isub, av_b 66 (.goto 8) 74, av_k 69 3 (.sipush 1000) 1000, av_a 72 1 (.iload_n 1), av_a 73 1 .iadd, av_f 74 3 (.invokevirtual 79) 20 1 0 20 3, av_a 77 1 (.aload_n 0), av_a 78 1 (.iload_n 2), av_b 79 (.ifCond .eq 7) 86, av_k 82 1 (.iconst 1) 1, av_b 83 (.goto 4) 87, av_k 86 1 (.iconst 0) 0, av_f 87 3 (.putfield 82) 3 7 0 46 0, av_a 90 1 (.aload_n 0), av_k 91 1 (.iconst 0) 0, av_f 92 3 (.putfield 32) 3 8 1 47 0, av_k 95 1 (.iconst 1) 1, av_f 96 1 .ireturn 1 0 0 0 0]
def tX3_takeDigit : List av_I := [av_a 0 1 (.aload_n 0), av_f 1 3 (.getfield 82) 3 7 0 46 0, av_k 4 1 (.iconst 1) 1, av_b 5 (.if_icmp .lt 19) 24, av_a 8 1 (.aload_n 0), av_f 9 3 (.getfield 82) 3 7 0 46 0, av_k 12 1 (.iconst 2) 2, av_b 13 (.if_icmp .gt 11) 24, av_a 16 1 (.aload_n 0), av_f 17 3 (.getfield 19) 3 3 0 42 0, av_k 20 1 (.iconst 1) 1, av_b 21 (.if_icmp .ge 5) 26, av_k 24 1 (.iconst 0) 0, av_f 25 1 .ireturn 1 0 0 0 0, av_a 26 1 (.aload_n 0), av_f 27 3 (.getfield 9) 3 0 0 39 0, av_a 30 1 (.aload_n 0), av_f 31 3 (.getfield 19) 3 3 0 42 0, av_k 34 1 (.iconst 1) 1, av_a 35 1 .isub, av_k 36 2 (.bipush 10) 10, av_a 38 1 (.aload_n 0), av_f 39 3 (.getfield 9) 3 0 0 39 0, av_a 42 1 (.aload_n 0), av_f 43 3 (.getfield 19) 3 3 0 42 0, av_k 46 1 (.iconst 1) 1, av_a 47 1 .isub, av_a 48 1 .iaload, av_a 49 1 .imul, av_a 50 1 (.iload_n 1), av_a 51 1 .iadd, av_a 52 1 .iastore, av_a 53 1 (.aload_n 0), av_a 54 1 .dup, av_f 55 3 (.getfield 82) 3 7 0 46 0, av_k 58 1 (.iconst 1) 1, av_a 59 1 .iadd, av_f 60 3 (.putfield 82) 3 7 0 46 0, av_k 63 1 (.iconst 1) 1, av_f 64 1 .ireturn 1 0 0 0 0]
def tX3_takeBetween : List av_I := [av_a 0 1 (.iload_n 1), av_f 1 3 (.invokestatic 85) 22 1 1 26 3, av_a 4 1 (.istore_n 2), av_a 5 1 (.iload_n 2), av_k 6 1 (.iconst 1) 1, av_b 7 (.if_icmp .lt 8) 15, av_a 10 1 (.iload_n 2), av_k 11 1 (.iconst 3) 3, av_b 12 (.if_icmp .le 5) 17, av_k 15 1 (.iconst 0) 0, av_f 16 1 .ireturn 1 0 0 0 0, av_a 17 1 (.iload_n 2), av_k 18 1 (.iconst 1) 1, av_b 19 (.if_icmp .ne 34) 53, av_a 22 1 (.aload_n 0), av_f 23 3 (.getfield 29) 3 6 0 45 0, av_a 26 1 (.aload_n 0), av_f 27 3 (.getfield 26) 3 5 0 44 0, av_f 30 3 (.invokestatic 88) 108 2 1 28 6, av_b 33 (.ifCond .eq 5) 38, av_k 36 1 (.iconst 0) 0, av_f 37 1 .ireturn 1 0 0 0 0, av_a 38 1 (.aload_n 0), av_a 39 1 .dup, av_f 40 3 (.getfield 29) 3 6 0 45 0, av_k 43 1 (.iconst 1) 1, av_a 44 1 (.aload_n 0), av_f 45 3 (.getfield 26) 3 5 0 44 0, av_a 48 1 .ishl, av_a 49 1 .ior, av_f 50 3 (.putfield 29) 3 6 0 45 0, av_a 53 1 (.aload_n 0), av_a 54 1 (.iload_n 2), av_f 55 3 (.invokevirtual 56) 18 1 0 25 3, av_a 58 1 (.aload_n 0), av_a 59 1 (.iload_n 1), av_f 60 3 (.invokevirtual 70) 19 1 0 17 3, av_a 63 1 (.aload_n 0), av_k 64 1 (.iconst 1) 1, av_f 65 3 (.putfield 32) 3 8 1 47 0, av_k 68 1 (.iconst 1) 1, av_f 69 1 .ireturn 1 0 0 0 0]
def tX3_open : List av_I := [av_a 0 1 (.aload_n 0), av_f 1 3 (.getfield 26) 3 5 0 44 0, av_k 4 1 (.iconst 4) 4, av_b 5 (.if_icmp .lt 5) 10, av_k 8 1 (.iconst 0) 0, av_f 9 1 .ireturn 1 0 0 0 0, av_a 10 1 (.aload_n 0), av_a 11 1 .dup, av_f 12 3 (.getfield 26) 3 5 0 44 0, av_k 15 1 (.iconst 1) 1, av_a 16 1 .iadd, av_f 17 3 (.putfield 26) 3 5 0 44 0, av_a 20 1 (.aload_n 0), av_a 21 1 .dup, av_f 22 3 (.getfield 29) 3 6 0 45 0, av_k 25 1 (.iconst 1) 1, av_a 26 1 (.aload_n 0), av_f 27 3 (.getfield 26) 3 5 0 44 0, av_a 30 1 .ishl, av_k 31 1 (.iconst (-1)) (-1), av_a 32 1 .ixor, av_a 33 1 .iand, av_f 34 3 (.putfield 29) 3 6 0 45 0, av_a 37 1 (.aload_n 0), av_k 38 2 (.bipush 40) 40, av_f 40 3 (.invokevirtual 70) 19 1 0 17 3, av_k 43 1 (.iconst 1) 1, av_f 44 1 .ireturn 1 0 0 0 0]
def tX3_close : List av_I := [av_a 0 1 (.aload_n 0), av_f 1 3 (.getfield 26) 3 5 0 44 0, av_b 4 (.ifCond .ne 5) 9, av_k 7 1 (.iconst 0) 0, av_f 8 1 .ireturn 1 0 0 0 0, av_a 9 1 (.aload_n 0), av_k 10 1 (.iconst 1) 1, av_f 11 3 (.invokevirtual 56) 18 1 0 25 3, av_a 14 1 (.aload_n 0), av_f 15 3 (.getfield 23) 3 4 0 43 0, av_b 18 (.ifCond .le 13) 31, av_a 21 1 (.aload_n 0), av_a 22 1 .dup, av_f 23 3 (.getfield 23) 3 4 0 43 0, av_k 26 1 (.iconst 1) 1, av_a 27 1 .isub, av_f 28 3 (.putfield 23) 3 4 0 43 0, av_a 31 1 (.aload_n 0), av_a 32 1 .dup, av_f 33 3 (.getfield 26) 3 5 0 44 0, av_k 36 1 (.iconst 1) 1, av_a 37 1 .isub, av_f 38 3 (.putfield 26) 3 5 0 44 0, av_a 41 1 (.aload_n 0), av_k 42 1 (.iconst 0) 0, av_f 43 3 (.putfield 82) 3 7 0 46 0, av_k 46 1 (.iconst 1) 1, av_f 47 1 .ireturn 1 0 0 0 0]
def tX3_release : List av_I := [av_a 0 1 (.aload_n 0), av_f 1 3 (.getfield 23) 3 4 0 43 0, av_b 4 (.ifCond .le 51) 55, av_a 7 1 (.aload_n 0), av_f 8 3 (.getfield 13) 3 1 0 40 0, av_a 11 1 (.aload_n 0), av_f 12 3 (.getfield 23) 3 4 0 43 0, av_k 15 1 (.iconst 1) 1, av_a 16 1 .isub, av_a 17 1 .iaload, av_f 18 3 (.invokestatic 85) 22 1 1 26 3, av_a 21 1 (.iload_n 1), av_b 22 (.if_icmp .lt 33) 55, av_a 25 1 (.aload_n 0), av_a 26 1 .dup, av_f 27 3 (.getfield 23) 3 4 0 43 0, av_k 30 1 (.iconst 1) 1, av_a 31 1 .isub, av_f 32 3 (.putfield 23) 3 4 0 43 0, av_a 35 1 (.aload_n 0), av_k 36 3 (.sipush 1000) 1000, av_a 39 1 (.aload_n 0), av_f 40 3 (.getfield 13) 3 1 0 40 0, av_a 43 1 (.aload_n 0), av_f 44 3 (.getfield 23) 3 4 0 43 0, av_a 47 1 .iaload, av_a 48 1 .iadd, av_f 49 3 (.invokevirtual 79) 20 1 0 20 3, av_b 52 (.goto (-52)) 0, av_a 55 1 .return_]
def tX3_hold : List av_I := [av_a 0 1 (.aload_n 0), av_f 1 3 (.getfield 23) 3 4 0 43 0, av_k 4 2 (.bipush 40) 40, av_b 6 (.if_icmp .ge 23) 29, av_a 9 1 (.aload_n 0), av_f 10 3 (.getfield 13) 3 1 0 40 0, av_a 13 1 (.aload_n 0), av_f 14 3 (.getfield 23) 3 4 0 43 0, av_a 17 1 (.iload_n 1), av_a 18 1 .iastore, av_a 19 1 (.aload_n 0), av_a 20 1 .dup, av_f 21 3 (.getfield 23) 3 4 0 43 0, av_k 24 1 (.iconst 1) 1, av_a 25 1 .iadd, av_f 26 3 (.putfield 23) 3 4 0 43 0, av_a 29 1 .return_]
def tX3_emit : List av_I := [av_a 0 1 (.aload_n 0), av_f 1 3 (.getfield 19) 3 3 0 42 0, av_k 4 2 (.bipush 40) 40, av_b 6 (.if_icmp .ge 23) 29, av_a 9 1 (.aload_n 0), av_f 10 3 (.getfield 9) 3 0 0 39 0, av_a 13 1 (.aload_n 0), av_f 14 3 (.getfield 19) 3 3 0 42 0, av_a 17 1 (.iload_n 1), av_a 18 1 .iastore, av_a 19 1 (.aload_n 0), av_a 20 1 .dup, av_f 21 3 (.getfield 19) 3 3 0 42 0, av_k 24 1 (.iconst 1) 1, av_a 25 1 .iadd, av_f 26 3 (.putfield 19) 3 3 0 42 0, av_a 29 1 .return_]
def tX3_isName : List av_I := [av_a 0 1 (.iload_n 0), av_w 1 95 (.tableswitch 97 99 118 #[95, 97, 97, 97, 97, 97, 97, 97, 95, 97, 97, 95, 97, 95, 97, 95, 95, 97, 97, 95]) 98 [(99, 96), (100, 98), (101, 98), (102, 98), (103, 98), (104, 98), (105, 98), (106, 98), (107, 96), (108, 98), (109, 98), (110, 96), (111, 98), (112, 96), (113, 98), (114, 96), (115, 96), (116, 98), (117, 98), (118, 96)], av_k 96 1 (.iconst 1) 1, av_f 97 1 .ireturn 1 0 0 0 0, av_k 98 1 (.iconst 0) 0, av_f 99 1 .ireturn 1 0 0 0 0]
def tX3_bindingOf : List av_I := [av_a 0 1 (.iload_n 0), av_w 1 75 (.lookupswitch 83 #[(42, 79), (43, 77), (45, 77), (47, 79), (60, 75), (61, 75), (62, 75), (256, 81)]) 84 [(42, 80), (43, 78), (45, 78), (47, 80), (60, 76), (61, 76), (62, 76), (256, 82)], av_k 76 1 (.iconst 1) 1, av_f 77 1 .ireturn 0 0 0 0 0, av_k 78 1 (.iconst 2) 2, av_f 79 1 .ireturn 0 0 0 0 0, av_k 80 1 (.iconst 3) 3, av_f 81 1 .ireturn 0 0 0 0 0, av_k 82 1 (.iconst 4) 4, av_f 83 1 .ireturn 0 0 0 0 0, av_k 84 1 (.iconst 0) 0, av_f 85 1 .ireturn 0 0 0 0 0]
def tX3_pull : List av_I := [av_k 0 1 (.iconst 0) 0, av_a 1 1 (.istore_n 3), av_k 2 1 (.iconst 0) 0, av_a 3 2 (.istore 4), av_a 5 2 (.iload 4), av_a 7 1 (.aload_n 0), av_f 8 3 (.getfield 19) 3 3 0 42 0, av_b 11 (.if_icmp .ge 142) 153, av_a 14 1 (.aload_n 0), av_f 15 3 (.getfield 9) 3 0 0 39 0, av_a 18 2 (.iload 4), av_a 20 1 .iaload, av_k 21 3 (.sipush 1000) 1000, av_a 24 1 .isub, av_a 25 2 (.istore 5), av_a 27 2 (.iload 5), av_b 29 (.ifCond .lt 11) 40, av_a 32 2 (.iload 5), av_f 34 3 (.invokestatic 76) 21 1 1 19 3, av_b 37 (.ifCond .eq 43) 80, av_a 40 1 (.iload_n 3), av_k 41 2 (.bipush 40) 40, av_b 43 (.if_icmp .ge 104) 147, av_a 46 1 (.aload_n 0), av_f 47 3 (.getfield 16) 3 2 0 41 0, av_a 50 1 (.iload_n 3), av_a 51 2 (.iload 5), av_b 53 (.ifCond .ge 13) 66, av_a 56 1 (.aload_n 0), av_f 57 3 (.getfield 9) 3 0 0 39 0, av_a 60 2 (.iload 4), av_a 62 1 .iaload, av_b 63 (.goto 10) 73, av_a 66 2 (.iload 5), av_a 68 1 (.aload_n 1), av_a 69 1 (.iload_n 2), av_f 70 3 (.invokestatic 94) 24 3 1 46 3, av_a 73 1 .iastore, av_k 74 3 (.iinc 3 1) 1, av_b 77 (.goto 70) 147, av_a 80 2 (.iload 5), av_k 82 3 (.sipush 256) 256, av_b 85 (.if_icmp .ne 27) 112, av_a 88 1 (.iload_n 3), av_b 89 (.ifCond .le 58) 147, av_a 92 1 (.aload_n 0), av_f 93 3 (.getfield 16) 3 2 0 41 0, av_a 96 1 (.iload_n 3), av_k 97 1 (.iconst 1) 1, av_a 98 1 .isub, av_a 99 1 (.aload_n 0), av_f 100 3 (.getfield 16) 3 2 0 41 0, av_a 103 1 (.iload_n 3), av_k 104 1 (.iconst 1) 1, av_a 105 1 .isub, av_a 106 1 .iaload, av_a 107 1 .ineg, av_a 108 1 .iastore, av_b 109 (.goto 38) 147, av_a 112 1 (.iload_n 3), av_k 113 1 (.iconst 1) 1, av_b 114 (.if_icmp .le 33) 147, av_k 117 3 (.iinc 3 (-1)) (-1), av_a 120 1 (.aload_n 0), av_f 121 3 (.getfield 16) 3 2 0 41 0, av_a 124 1 (.iload_n 3), av_k 125 1 (.iconst 1) 1, av_a 126 1 .isub, av_a 127 2 (.iload 5), av_a 129 1 (.aload_n 0), av_f 130 3 (.getfield 16) 3 2 0 41 0, av_a 133 1 (.iload_n 3), av_k 134 1 (.iconst 1) 1, av_a 135 1 .isub, av_a 136 1 .iaload, av_a 137 1 (.aload_n 0), av_f 138 3 (.getfield 16) 3 2 0 41 0, av_a 141 1 (.iload_n 3), av_a 142 1 .iaload, av_f 143 3 (.invokestatic 98) 25 3 1 49 3, av_a 146 1 .iastore, av_k 147 3 (.iinc 4 1) 1, av_b 150 (.goto (-145)) 5, av_a 153 1 (.aload_n 0), av_f 154 3 (.getfield 16) 3 2 0 41 0, av_k 157 1 (.iconst 0) 0, av_a 158 1 .iaload, av_k 159 2 (.bipush (-99)) (-99), av_k 161 2 (.bipush 99) 99, av_f 163 3 (.invokestatic 102) 104 3 1 50 6, av_f 166 1 .ireturn 0 0 0 0 0]
def tX3_valueOf : List av_I := [av_a 0 1 (.iload_n 0), av_w 1 95 (.tableswitch 133 99 118 #[127, 133, 133, 133, 133, 133, 133, 133, 95, 133, 133, 133, 133, 115, 133, 108, 101, 133, 133, 122]) 134 [(99, 128), (100, 134), (101, 134), (102, 134), (103, 134), (104, 134), (105, 134), (106, 134), (107, 96), (108, 134), (109, 134), (110, 134), (111, 134), (112, 116), (113, 134), (114, 109), (115, 102), (116, 134), (117, 134), (118, 123)], av_a 96 1 (.aload_n 1), av_a 97 1 (.iload_n 2), av_f 98 3 (.invokevirtual 105) 32 1 1 47 4, av_f 101 1 .ireturn 0 0 0 0 0, av_a 102 1 (.aload_n 1), av_f 103 3 (.getfield 110) 4 1 0 12 0, av_a 106 1 (.iload_n 2), av_a 107 1 .iaload, av_f 108 1 .ireturn 0 0 0 0 0, av_a 109 1 (.aload_n 1), av_f 110 3 (.getfield 113) 4 2 0 15 0, av_a 113 1 (.iload_n 2), av_a 114 1 .iaload, av_f 115 1 .ireturn 0 0 0 0 0, av_a 116 1 (.aload_n 1), av_f 117 3 (.getfield 116) 4 4 0 20 0, av_a 120 1 (.iload_n 2), av_a 121 1 .iaload, av_f 122 1 .ireturn 0 0 0 0 0, av_a 123 1 (.aload_n 1), av_f 124 3 (.getfield 119) 4 11 0 34 0, av_f 127 1 .ireturn 0 0 0 0 0, av_a 128 1 (.aload_n 1), av_a 129 1 (.iload_n 2), av_f 130 3 (.invokevirtual 122) 37 1 1 48 4, av_f 133 1 .ireturn 0 0 0 0 0, av_a 134 1 (.aload_n 1), av_f 135 3 (.getfield 125) 4 12 0 36 0, av_k 138 2 (.bipush 7) 7, av_a 140 1 .irem, av_f 141 1 .ireturn 0 0 0 0 0]
def tX3_join : List av_I := [av_a 0 1 (.iload_n 0), av_w 1 59 (.lookupswitch 104 #[(42, 100), (43, 92), (45, 96), (60, 59), (61, 81), (62, 70)]) 105 [(42, 101), (43, 93), (45, 97), (60, 60), (61, 82), (62, 71)], av_a 60 1 (.iload_n 1), av_a 61 1 (.iload_n 2), av_b 62 (.if_icmp .ge 7) 69, av_k 65 1 (.iconst 1) 1, av_b 66 (.goto 4) 70, av_k 69 1 (.iconst 0) 0, av_f 70 1 .ireturn 0 0 0 0 0, av_a 71 1 (.iload_n 1), av_a 72 1 (.iload_n 2), av_b 73 (.if_icmp .le 7) 80, av_k 76 1 (.iconst 1) 1, av_b 77 (.goto 4) 81, av_k 80 1 (.iconst 0) 0, av_f 81 1 .ireturn 0 0 0 0 0, av_a 82 1 (.iload_n 1), av_a 83 1 (.iload_n 2), av_b 84 (.if_icmp .ne 7) 91, av_k 87 1 (.iconst 1) 1, av_b 88 (.goto 4) 92, av_k 91 1 (.iconst 0) 0, av_f 92 1 .ireturn 0 0 0 0 0, av_a 93 1 (.iload_n 1), av_a 94 1 (.iload_n 2), av_a 95 1 .iadd, av_f 96 1 .ireturn 0 0 0 0 0, av_a 97 1 (.iload_n 1), av_a 98 1 (.iload_n 2), av_a 99 1 .isub, av_f 100 1 .ireturn 0 0 0 0 0, av_a 101 1 (.iload_n 1), av_a 102 1 (.iload_n 2), av_a 103 1 .imul, av_f 104 1 .ireturn 0 0 0 0 0, av_a 105 1 (.iload_n 2), av_b 106 (.ifCond .ne 7) 113, av_k 109 1 (.iconst 0) 0, av_b 110 (.goto 6) 116, av_a 113 1 (.iload_n 1), av_a 114 1 (.iload_n 2), av_a 115 1 .idiv, av_f 116 1 .ireturn 0 0 0 0 0]
def tX4_knows : List av_I := [av_a 0 1 (.iload_n 1), av_b 1 (.ifCond .lt 15) 16, av_a 4 1 (.iload_n 1), av_a 5 1 (.aload_n 0), av_f 6 3 (.getfield 34) 4 6 0 23 0, av_b 9 (.if_icmp .ge 7) 16, av_k 12 1 (.iconst 1) 1, av_b 13 (.goto 4) 17, av_k 16 1 (.iconst 0) 0, av_f 17 1 .ireturn 1 0 0 0 0]
def tX4_come : List av_I := [av_a 0 1 (.aload_n 0), av_f 1 3 (.getfield 34) 4 6 0 23 0, av_k 4 2 (.bipush 7) 7, av_b 6 (.if_icmp .ge 80) 86, av_a 9 1 (.aload_n 0), av_f 10 3 (.getfield 9) 4 0 0 8 0, av_a 13 1 (.aload_n 0), av_f 14 3 (.getfield 34) 4 6 0 23 0, av_a 17 1 (.iload_n 1), av_a 18 1 .iastore, av_a 19 1 (.aload_n 0), av_f 20 3 (.getfield 15) 4 1 0 10 0, av_a 23 1 (.aload_n 0), av_f 24 3 (.getfield 34) 4 6 0 23 0, av_a 27 1 (.iload_n 2), av_a 28 1 .iastore, av_a 29 1 (.aload_n 0), av_f 30 3 (.getfield 18) 4 2 0 13 0, av_a 33 1 (.aload_n 0), av_f 34 3 (.getfield 34) 4 6 0 23 0, av_a 37 1 (.iload_n 3), av_a 38 1 .iastore, av_a 39 1 (.aload_n 0), av_f 40 3 (.getfield 21) 4 3 0 16 0, av_a 43 1 (.aload_n 0), av_f 44 3 (.getfield 34) 4 6 0 23 0, av_a 47 2 (.iload 4), av_a 49 1 .iastore, av_a 50 1 (.aload_n 0), av_f 51 3 (.getfield 24) 4 4 0 18 0, av_a 54 1 (.aload_n 0), av_f 55 3 (.getfield 34) 4 6 0 23 0, av_a 58 2 (.iload 5), av_a 60 1 .iastore, av_a 61 1 (.aload_n 0), av_a 62 1 .dup, av_f 63 3 (.getfield 37) 4 7 0 25 0, av_k 66 1 (.iconst 1) 1, av_a 67 1 (.aload_n 0), av_f 68 3 (.getfield 34) 4 6 0 23 0, av_a 71 1 .ishl, av_a 72 1 .ior, av_f 73 3 (.putfield 37) 4 7 0 25 0, av_a 76 1 (.aload_n 0), av_a 77 1 .dup, av_f 78 3 (.getfield 34) 4 6 0 23 0, av_k 81 1 (.iconst 1) 1, av_a 82 1 .iadd, av_f 83 3 (.putfield 34) 4 6 0 23 0, av_a 86 1 .return_]
def tX4_holding : List av_I := [av_a 0 1 (.aload_n 0), av_f 1 3 (.getfield 37) 4 7 0 25 0, av_a 4 1 (.aload_n 0), av_f 5 3 (.getfield 40) 4 8 0 27 0, av_a 8 1 (.aload_n 0), av_f 9 3 (.getfield 43) 4 9 0 29 0, av_a 12 1 .ior, av_k 13 1 (.iconst (-1)) (-1), av_a 14 1 .ixor, av_a 15 1 .iand, av_f 16 1 .ireturn 0 0 0 0 0]
def tX4_holds : List av_I := [av_a 0 1 (.aload_n 0), av_f 1 3 (.invokevirtual 46) 28 0 1 39 4, av_a 4 1 (.iload_n 1), av_f 5 3 (.invokestatic 50) 108 2 1 40 6, av_f 8 1 .ireturn 1 0 0 0 0]
def tX4_fate : List av_I := [av_a 0 1 (.aload_n 0), av_f 1 3 (.getfield 40) 4 8 0 27 0, av_a 4 1 (.iload_n 1), av_f 5 3 (.invokestatic 50) 108 2 1 40 6, av_b 8 (.ifCond .eq 5) 13, av_k 11 1 (.iconst 2) 2, av_f 12 1 .ireturn 0 0 0 0 0, av_a 13 1 (.aload_n 0), av_f 14 3 (.getfield 43) 4 9 0 29 0, av_a 17 1 (.iload_n 1), av_f 18 3 (.invokestatic 50) 108 2 1 40 6, av_b 21 (.ifCond .eq 7) 28, av_k 24 1 (.iconst 1) 1, av_b 25 (.goto 4) 29, av_k 28 1 (.iconst 0) 0, av_f 29 1 .ireturn 0 0 0 0 0]
def tX4_reach : List av_I := [av_a 0 1 (.aload_n 0), av_f 1 3 (.getfield 24) 4 4 0 18 0, av_a 4 1 (.iload_n 1), av_a 5 1 .iaload, av_a 6 1 (.aload_n 0), av_f 7 3 (.getfield 27) 4 5 0 21 0, av_a 10 1 (.iload_n 1), av_a 11 1 .iaload, av_a 12 1 .iadd, av_f 13 1 .ireturn 0 0 0 0 0]
def tX4_lack : List av_I := [av_a 0 1 (.aload_n 0), av_f 1 3 (.getfield 54) 4 10 0 31 0, av_a 4 1 (.aload_n 0), av_f 5 3 (.getfield 24) 4 4 0 18 0, av_a 8 1 (.iload_n 1), av_a 9 1 .iaload, av_a 10 1 .isub, av_a 11 1 (.aload_n 0), av_f 12 3 (.getfield 27) 4 5 0 21 0, av_a 15 1 (.iload_n 1), av_a 16 1 .iaload, av_a 17 1 .isub, av_f 18 1 .ireturn 0 0 0 0 0]
def tX4_taut : List av_I := [av_k 0 1 (.iconst 0) 0, av_a 1 1 (.istore_n 1), av_k 2 1 (.iconst 0) 0, av_a 3 1 (.istore_n 2), av_a 4 1 (.iload_n 2), av_a 5 1 (.aload_n 0), av_f 6 3 (.getfield 34) 4 6 0 23 0, av_b 9 (.if_icmp .ge 23) 32, av_a 12 1 (.aload_n 0), av_a 13 1 (.iload_n 2), av_f 14 3 (.invokevirtual 57) 32 1 1 43 4, av_b 17 (.ifCond .lt 9) 26, av_a 20 1 (.iload_n 1), av_k 21 1 (.iconst 1) 1, av_a 22 1 (.iload_n 2), av_a 23 1 .ishl, av_a 24 1 .ior, av_a 25 1 (.istore_n 1), av_k 26 3 (.iinc 2 1) 1, av_b 29 (.goto (-25)) 4, av_a 32 1 (.iload_n 1), av_a 33 1 (.aload_n 0), av_f 34 3 (.invokevirtual 46) 28 0 1 39 4, av_a 37 1 .iand, av_f 38 1 .ireturn 0 0 0 0 0]
def tX4_ofColour : List av_I := [av_k 0 1 (.iconst 0) 0, av_a 1 1 (.istore_n 2), av_k 2 1 (.iconst 0) 0, av_a 3 1 (.istore_n 3), av_a 4 1 (.iload_n 3), av_a 5 1 (.aload_n 0), av_f 6 3 (.getfield 34) 4 6 0 23 0, av_b 9 (.if_icmp .ge 25) 34, av_a 12 1 (.aload_n 0), av_f 13 3 (.getfield 9) 4 0 0 8 0, av_a 16 1 (.iload_n 3), av_a 17 1 .iaload, av_a 18 1 (.iload_n 1), av_b 19 (.if_icmp .ne 9) 28, av_a 22 1 (.iload_n 2), av_k 23 1 (.iconst 1) 1, av_a 24 1 (.iload_n 3), av_a 25 1 .ishl, av_a 26 1 .ior, av_a 27 1 (.istore_n 2), av_k 28 3 (.iinc 3 1) 1, av_b 31 (.goto (-27)) 4, av_a 34 1 (.iload_n 2), av_f 35 1 .ireturn 0 0 0 0 0]
def tX4_asStrong : List av_I := [av_k 0 1 (.iconst 0) 0, av_a 1 1 (.istore_n 2), av_k 2 1 (.iconst 0) 0, av_a 3 1 (.istore_n 3), av_a 4 1 (.iload_n 3), av_a 5 1 (.aload_n 0), av_f 6 3 (.getfield 34) 4 6 0 23 0, av_b 9 (.if_icmp .ge 25) 34, av_a 12 1 (.aload_n 0), av_f 13 3 (.getfield 15) 4 1 0 10 0, av_a 16 1 (.iload_n 3), av_a 17 1 .iaload, av_a 18 1 (.iload_n 1), av_b 19 (.if_icmp .lt 9) 28, av_a 22 1 (.iload_n 2), av_k 23 1 (.iconst 1) 1, av_a 24 1 (.iload_n 3), av_a 25 1 .ishl, av_a 26 1 .ior, av_a 27 1 (.istore_n 2), av_k 28 3 (.iinc 3 1) 1, av_b 31 (.goto (-27)) 4, av_a 34 1 (.iload_n 2), av_f 35 1 .ireturn 0 0 0 0 0]
def tX4_asFarAlong : List av_I := [av_k 0 1 (.iconst 0) 0, av_a 1 1 (.istore_n 2), av_k 2 1 (.iconst 0) 0, av_a 3 1 (.istore_n 3), av_a 4 1 (.iload_n 3), av_a 5 1 (.aload_n 0), av_f 6 3 (.getfield 34) 4 6 0 23 0, av_b 9 (.if_icmp .ge 25) 34, av_a 12 1 (.aload_n 0), av_f 13 3 (.getfield 24) 4 4 0 18 0, av_a 16 1 (.iload_n 3), av_a 17 1 .iaload, av_a 18 1 (.iload_n 1), av_b 19 (.if_icmp .lt 9) 28, av_a 22 1 (.iload_n 2), av_k 23 1 (.iconst 1) 1, av_a 24 1 (.iload_n 3), av_a 25 1 .ishl, av_a 26 1 .ior, av_a 27 1 (.istore_n 2), av_k 28 3 (.iinc 3 1) 1, av_b 31 (.goto (-27)) 4, av_a 34 1 (.iload_n 2), av_f 35 1 .ireturn 0 0 0 0 0]
def tX4_companions : List av_I := [av_a 0 1 (.aload_n 0), av_f 1 3 (.getfield 40) 4 8 0 27 0, av_a 4 1 (.aload_n 0), av_f 5 3 (.getfield 43) 4 9 0 29 0, av_a 8 1 .ior, av_a 9 1 (.istore_n 2), av_k 10 1 (.iconst 0) 0, av_a 11 1 (.istore_n 3), av_k 12 1 (.iconst 0) 0, av_a 13 2 (.istore 4), av_a 15 2 (.iload 4), av_a 17 1 (.aload_n 0), av_f 18 3 (.getfield 34) 4 6 0 23 0, av_b 21 (.if_icmp .ge 43) 64, av_a 24 2 (.iload 4), av_a 26 1 (.iload_n 1), av_b 27 (.if_icmp .eq 31) 58, av_a 30 1 (.aload_n 0), av_f 31 3 (.getfield 9) 4 0 0 8 0, av_a 34 2 (.iload 4), av_a 36 1 .iaload, av_a 37 1 (.aload_n 0), av_f 38 3 (.getfield 9) 4 0 0 8 0, av_a 41 1 (.iload_n 1), av_a 42 1 .iaload, av_b 43 (.if_icmp .ne 15) 58, av_a 46 1 (.iload_n 2), av_a 47 2 (.iload 4), av_f 49 3 (.invokestatic 50) 108 2 1 40 6, av_b 52 (.ifCond .ne 6) 58, av_k 55 3 (.iinc 3 1) 1, av_k 58 3 (.iinc 4 1) 1, av_b 61 (.goto (-46)) 15, av_a 64 1 (.iload_n 3), av_f 65 1 .ireturn 0 0 0 0 0]
def tX4_weight : List av_I := [av_k 0 1 (.iconst 0) 0, av_a 1 1 (.istore_n 2), av_k 2 1 (.iconst 0) 0, av_a 3 1 (.istore_n 3), av_a 4 1 (.iload_n 3), av_a 5 1 (.aload_n 0), av_f 6 3 (.getfield 34) 4 6 0 23 0, av_b 9 (.if_icmp .ge 26) 35, av_a 12 1 (.iload_n 1), av_a 13 1 (.iload_n 3), av_f 14 3 (.invokestatic 50) 108 2 1 40 6, av_b 17 (.ifCond .eq 12) 29, av_a 20 1 (.iload_n 2), av_a 21 1 (.aload_n 0), av_f 22 3 (.getfield 15) 4 1 0 10 0, av_a 25 1 (.iload_n 3), av_a 26 1 .iaload, av_a 27 1 .iadd, av_a 28 1 (.istore_n 2), av_k 29 3 (.iinc 3 1) 1, av_b 32 (.goto (-28)) 4, av_a 35 1 (.iload_n 2), av_f 36 1 .ireturn 0 0 0 0 0]
def tX4_lengths : List av_I := [av_k 0 1 (.iconst 0) 0, av_a 1 1 (.istore_n 2), av_k 2 1 (.iconst 0) 0, av_a 3 1 (.istore_n 3), av_a 4 1 (.iload_n 3), av_a 5 1 (.aload_n 0), av_f 6 3 (.getfield 34) 4 6 0 23 0, av_b 9 (.if_icmp .ge 26) 35, av_a 12 1 (.iload_n 1), av_a 13 1 (.iload_n 3), av_f 14 3 (.invokestatic 50) 108 2 1 40 6, av_b 17 (.ifCond .eq 12) 29, av_a 20 1 (.iload_n 2), av_a 21 1 (.aload_n 0), av_f 22 3 (.getfield 27) 4 5 0 21 0, av_a 25 1 (.iload_n 3), av_a 26 1 .iaload, av_a 27 1 .iadd, av_a 28 1 (.istore_n 2), av_k 29 3 (.iinc 3 1) 1, av_b 32 (.goto (-28)) 4, av_a 35 1 (.iload_n 2), av_f 36 1 .ireturn 0 0 0 0 0]
def tX4_reelsTogether : List av_I := [av_k 0 1 (.iconst 0) 0, av_a 1 1 (.istore_n 1), av_k 2 1 (.iconst 0) 0, av_a 3 1 (.istore_n 2), av_a 4 1 (.iload_n 2), av_a 5 1 (.aload_n 0), av_f 6 3 (.getfield 34) 4 6 0 23 0, av_b 9 (.if_icmp .ge 18) 27, av_a 12 1 (.iload_n 1), av_a 13 1 (.aload_n 0), av_f 14 3 (.getfield 18) 4 2 0 13 0, av_a 17 1 (.iload_n 2), av_a 18 1 .iaload, av_a 19 1 .iadd, av_a 20 1 (.istore_n 1), av_k 21 3 (.iinc 2 1) 1, av_b 24 (.goto (-20)) 4, av_a 27 1 (.iload_n 1), av_f 28 1 .ireturn 0 0 0 0 0]
def tX4_heldBack : List av_I := [av_a 0 1 (.aload_n 0), av_a 1 1 (.aload_n 0), av_f 2 3 (.invokevirtual 61) 33 0 1 42 4, av_f 5 3 (.invokevirtual 64) 38 1 1 44 4, av_k 8 1 (.iconst 5) 5, av_a 9 1 .idiv, av_f 10 1 .ireturn 0 0 0 0 0]
def tX4_passHours : List av_I := [av_k 0 1 (.iconst 0) 0, av_a 1 1 (.istore_n 3), av_a 2 1 (.iload_n 3), av_a 3 1 (.iload_n 2), av_b 4 (.if_icmp .ge 14) 18, av_a 7 1 (.aload_n 0), av_a 8 1 (.aload_n 1), av_f 9 3 (.invokevirtual 67) 43 1 0 82 4, av_k 12 3 (.iinc 3 1) 1, av_b 15 (.goto (-13)) 2, av_a 18 1 .return_]
def tX4_passHour : List av_I := [av_a 0 1 (.aload_n 0), av_f 1 3 (.invokevirtual 71) 44 0 0 38 4, av_a 4 1 (.aload_n 0), av_k 5 3 (.sipush 9999) 9999, av_a 8 1 (.aload_n 0), av_f 9 3 (.getfield 54) 4 10 0 31 0, av_k 12 1 (.iconst 0) 0, av_a 13 1 (.aload_n 0), av_f 14 3 (.getfield 30) 4 11 0 33 0, av_a 17 1 (.aload_n 0), av_f 18 3 (.invokevirtual 74) 41 0 1 41 4, av_a 21 1 .isub, av_f 22 3 (.invokestatic 77) 0 0 10 4 0, av_a 25 1 .iadd, av_f 26 3 (.invokestatic 83) 0 0 11 3 0, av_f 29 3 (.putfield 54) 4 10 0 31 0, av_k 32 1 (.iconst 0) 0, av_a 33 1 (.istore_n 2), av_a 34 1 (.aload_n 0), av_f 35 3 (.invokevirtual 46) 28 0 1 39 4, av_a 38 1 (.istore_n 3), av_k 39 1 (.iconst 0) 0, av_a 40 2 (.istore 4), av_a 42 2 (.iload 4), av_a 44 1 (.aload_n 0), av_f 45 3 (.getfield 34) 4 6 0 23 0, av_b 48 (.if_icmp .ge 42) 90, av_a 51 1 (.iload_n 3), av_a 52 2 (.iload 4), av_f 54 3 (.invokestatic 50) 108 2 1 40 6, av_b 57 (.ifCond .eq 27) 84, av_a 60 1 (.aload_n 1), av_a 61 1 (.aload_n 0), av_a 62 2 (.iload 4), av_f 64 3 (.invokevirtual 86) 23 2 1 45 3, av_a 67 1 (.aload_n 0), av_f 68 3 (.getfield 15) 4 1 0 10 0, av_a 71 2 (.iload 4), av_a 73 1 .iaload, av_b 74 (.if_icmp .le 10) 84, av_a 77 1 (.iload_n 2), av_k 78 1 (.iconst 1) 1, av_a 79 2 (.iload 4), av_a 81 1 .ishl, av_a 82 1 .ior, av_a 83 1 (.istore_n 2), av_k 84 3 (.iinc 4 1) 1, av_b 87 (.goto (-45)) 42, av_a 90 1 (.aload_n 0), av_a 91 1 .dup, av_f 92 3 (.getfield 40) 4 8 0 27 0, av_a 95 1 (.iload_n 2), av_a 96 1 .ior, av_f 97 3 (.putfield 40) 4 8 0 27 0, av_a 100 1 (.aload_n 0), av_a 101 1 .dup, av_f 102 3 (.getfield 92) 4 12 0 37 0, av_k 105 1 (.iconst 1) 1, av_a 106 1 .iadd, av_f 107 3 (.putfield 92) 4 12 0 37 0, av_a 110 1 .return_]
def tX4_payOut : List av_I := [av_a 0 1 (.aload_n 0), av_f 1 3 (.invokevirtual 46) 28 0 1 39 4, av_a 4 1 (.istore_n 1), av_k 5 1 (.iconst 0) 0, av_a 6 1 (.istore_n 2), av_a 7 1 (.iload_n 2), av_a 8 1 (.aload_n 0), av_f 9 3 (.getfield 34) 4 6 0 23 0, av_b 12 (.if_icmp .ge 63) 75, av_a 15 1 (.iload_n 1), av_a 16 1 (.iload_n 2), av_f 17 3 (.invokestatic 50) 108 2 1 40 6, av_b 20 (.ifCond .eq 49) 69, av_a 23 1 (.aload_n 0), av_f 24 3 (.getfield 21) 4 3 0 16 0, av_a 27 1 (.iload_n 2), av_a 28 1 .iaload, av_a 29 1 (.aload_n 0), av_f 30 3 (.getfield 18) 4 2 0 13 0, av_a 33 1 (.iload_n 2), av_a 34 1 .iaload, av_f 35 3 (.invokestatic 83) 0 0 11 3 0, av_a 38 1 (.istore_n 3), av_a 39 1 (.aload_n 0), av_f 40 3 (.getfield 18) 4 2 0 13 0, av_a 43 1 (.iload_n 2), av_a 44 1 .dup2, av_a 45 1 .iaload, av_a 46 1 (.iload_n 3), av_a 47 1 .isub, av_a 48 1 .iastore, av_a 49 1 (.aload_n 0), av_f 50 3 (.getfield 27) 4 5 0 21 0, av_a 53 1 (.iload_n 2), av_k 54 3 (.sipush 9999) 9999, av_a 57 1 (.aload_n 0), av_f 58 3 (.getfield 27) 4 5 0 21 0, av_a 61 1 (.iload_n 2), av_a 62 1 .iaload, av_a 63 1 (.iload_n 3), av_a 64 1 .iadd, av_f 65 3 (.invokestatic 83) 0 0 11 3 0, av_a 68 1 .iastore, av_k 69 3 (.iinc 2 1) 1, av_b 72 (.goto (-65)) 7, av_a 75 1 .return_]
def tX4_copy : List av_I := [av_k 0 1 (.iconst 0) 0, av_a 1 1 (.istore_n 2), av_a 2 1 (.iload_n 2), av_k 3 2 (.bipush 7) 7, av_b 5 (.if_icmp .ge 81) 86, av_a 8 1 (.aload_n 0), av_f 9 3 (.getfield 9) 4 0 0 8 0, av_a 12 1 (.iload_n 2), av_a 13 1 (.aload_n 1), av_f 14 3 (.getfield 9) 4 0 0 8 0, av_a 17 1 (.iload_n 2), av_a 18 1 .iaload, av_a 19 1 .iastore, av_a 20 1 (.aload_n 0), av_f 21 3 (.getfield 15) 4 1 0 10 0, av_a 24 1 (.iload_n 2), av_a 25 1 (.aload_n 1), av_f 26 3 (.getfield 15) 4 1 0 10 0, av_a 29 1 (.iload_n 2), av_a 30 1 .iaload, av_a 31 1 .iastore, av_a 32 1 (.aload_n 0), av_f 33 3 (.getfield 18) 4 2 0 13 0, av_a 36 1 (.iload_n 2), av_a 37 1 (.aload_n 1), av_f 38 3 (.getfield 18) 4 2 0 13 0, av_a 41 1 (.iload_n 2), av_a 42 1 .iaload, av_a 43 1 .iastore, av_a 44 1 (.aload_n 0), av_f 45 3 (.getfield 21) 4 3 0 16 0, av_a 48 1 (.iload_n 2), av_a 49 1 (.aload_n 1), av_f 50 3 (.getfield 21) 4 3 0 16 0, av_a 53 1 (.iload_n 2), av_a 54 1 .iaload, av_a 55 1 .iastore, av_a 56 1 (.aload_n 0), av_f 57 3 (.getfield 24) 4 4 0 18 0, av_a 60 1 (.iload_n 2), av_a 61 1 (.aload_n 1), av_f 62 3 (.getfield 24) 4 4 0 18 0, av_a 65 1 (.iload_n 2), av_a 66 1 .iaload, av_a 67 1 .iastore, av_a 68 1 (.aload_n 0), av_f 69 3 (.getfield 27) 4 5 0 21 0, av_a 72 1 (.iload_n 2), av_a 73 1 (.aload_n 1), av_f 74 3 (.getfield 27) 4 5 0 21 0, av_a 77 1 (.iload_n 2), av_a 78 1 .iaload, av_a 79 1 .iastore, av_k 80 3 (.iinc 2 1) 1, av_b 83 (.goto (-81)) 2, av_a 86 1 (.aload_n 0), av_a 87 1 (.aload_n 1), av_f 88 3 (.getfield 34) 4 6 0 23 0, av_f 91 3 (.putfield 34) 4 6 0 23 0, av_a 94 1 (.aload_n 0), av_a 95 1 (.aload_n 1), av_f 96 3 (.getfield 37) 4 7 0 25 0, av_f 99 3 (.putfield 37) 4 7 0 25 0, av_a 102 1 (.aload_n 0), av_a 103 1 (.aload_n 1), av_f 104 3 (.getfield 40) 4 8 0 27 0, av_f 107 3 (.putfield 40) 4 8 0 27 0, av_a 110 1 (.aload_n 0), av_a 111 1 (.aload_n 1), av_f 112 3 (.getfield 43) 4 9 0 29 0, av_f 115 3 (.putfield 43) 4 9 0 29 0, av_a 118 1 (.aload_n 0), av_a 119 1 (.aload_n 1), av_f 120 3 (.getfield 54) 4 10 0 31 0, av_f 123 3 (.putfield 54) 4 10 0 31 0, av_a 126 1 (.aload_n 0), av_a 127 1 (.aload_n 1), av_f 128 3 (.getfield 30) 4 11 0 33 0, av_f 131 3 (.putfield 30) 4 11 0 33 0, av_a 134 1 (.aload_n 0), av_a 135 1 (.aload_n 1), av_f 136 3 (.getfield 92) 4 12 0 37 0, av_f 139 3 (.putfield 92) 4 12 0 37 0, av_a 142 1 .return_]
def tX4_write : List av_I := [av_a 0 1 (.iload_n 2), av_b 1 (.ifCond .lt 12) 13, av_a 4 1 (.iload_n 2), av_a 5 1 (.aload_n 1), av_a 6 1 .arraylength, av_k 7 2 (.bipush 33) 33, av_a 9 1 .isub, av_b 10 (.if_icmp .le 4) 14, av_a 13 1 .return_, av_a 14 1 (.iload_n 2), av_a 15 1 (.istore_n 3), av_k 16 1 (.iconst 0) 0, av_a 17 2 (.istore 4), av_a 19 2 (.iload 4), av_k 21 2 (.bipush 7) 7, av_b 23 (.if_icmp .ge 58) 81, av_a 26 1 (.aload_n 1), av_a 27 1 (.iload_n 3), av_a 28 1 (.aload_n 0), av_f 29 3 (.getfield 18) 4 2 0 13 0, av_a 32 2 (.iload 4), av_a 34 1 .iaload, av_a 35 1 .iastore, av_a 36 1 (.aload_n 1), av_a 37 1 (.iload_n 3), av_k 38 1 (.iconst 1) 1, av_a 39 1 .iadd, av_a 40 1 (.aload_n 0), av_f 41 3 (.getfield 21) 4 3 0 16 0, av_a 44 2 (.iload 4), av_a 46 1 .iaload, av_a 47 1 .iastore, av_a 48 1 (.aload_n 1), av_a 49 1 (.iload_n 3), av_k 50 1 (.iconst 2) 2, av_a 51 1 .iadd, av_a 52 1 (.aload_n 0), av_f 53 3 (.getfield 24) 4 4 0 18 0, av_a 56 2 (.iload 4), av_a 58 1 .iaload, av_a 59 1 .iastore, av_a 60 1 (.aload_n 1), av_a 61 1 (.iload_n 3), av_k 62 1 (.iconst 3) 3, av_a 63 1 .iadd, av_a 64 1 (.aload_n 0), av_f 65 3 (.getfield 27) 4 5 0 21 0, av_a 68 2 (.iload 4), av_a 70 1 .iaload, av_a 71 1 .iastore, av_k 72 3 (.iinc 3 4) 4, av_k 75 3 (.iinc 4 1) 1, av_b 78 (.goto (-59)) 19, av_a 81 1 (.aload_n 1), av_a 82 1 (.iload_n 3), av_a 83 1 (.aload_n 0), av_f 84 3 (.getfield 40) 4 8 0 27 0, av_a 87 1 .iastore, av_a 88 1 (.aload_n 1), av_a 89 1 (.iload_n 3), av_k 90 1 (.iconst 1) 1, av_a 91 1 .iadd, av_a 92 1 (.aload_n 0), av_f 93 3 (.getfield 43) 4 9 0 29 0, av_a 96 1 .iastore, av_a 97 1 (.aload_n 1), av_a 98 1 (.iload_n 3), av_k 99 1 (.iconst 2) 2, av_a 100 1 .iadd, av_a 101 1 (.aload_n 0), av_f 102 3 (.getfield 54) 4 10 0 31 0, av_a 105 1 .iastore, av_a 106 1 (.aload_n 1), av_a 107 1 (.iload_n 3), av_k 108 1 (.iconst 3) 3, av_a 109 1 .iadd, av_a 110 1 (.aload_n 0), av_f 111 3 (.getfield 30) 4 11 0 33 0, av_a 114 1 .iastore, av_a 115 1 (.aload_n 1), av_a 116 1 (.iload_n 3), av_k 117 1 (.iconst 4) 4, av_a 118 1 .iadd, av_a 119 1 (.aload_n 0), av_f 120 3 (.getfield 92) 4 12 0 37 0, av_a 123 1 .iastore, av_a 124 1 .return_]
def tX4_readBack : List av_I := [av_a 0 1 (.iload_n 2), av_b 1 (.ifCond .lt 12) 13, av_a 4 1 (.iload_n 2), av_a 5 1 (.aload_n 1), av_a 6 1 .arraylength, av_k 7 2 (.bipush 33) 33, av_a 9 1 .isub, av_b 10 (.if_icmp .le 4) 14, av_a 13 1 .return_, av_a 14 1 (.iload_n 2), av_a 15 1 (.istore_n 3), av_k 16 1 (.iconst 0) 0, av_a 17 2 (.istore 4), av_a 19 2 (.iload 4), av_k 21 2 (.bipush 7) 7, av_b 23 (.if_icmp .ge 58) 81, av_a 26 1 (.aload_n 0), av_f 27 3 (.getfield 18) 4 2 0 13 0, av_a 30 2 (.iload 4), av_a 32 1 (.aload_n 1), av_a 33 1 (.iload_n 3), av_a 34 1 .iaload, av_a 35 1 .iastore, av_a 36 1 (.aload_n 0), av_f 37 3 (.getfield 21) 4 3 0 16 0, av_a 40 2 (.iload 4), av_a 42 1 (.aload_n 1), av_a 43 1 (.iload_n 3), av_k 44 1 (.iconst 1) 1, av_a 45 1 .iadd, av_a 46 1 .iaload, av_a 47 1 .iastore, av_a 48 1 (.aload_n 0), av_f 49 3 (.getfield 24) 4 4 0 18 0, av_a 52 2 (.iload 4), av_a 54 1 (.aload_n 1), av_a 55 1 (.iload_n 3), av_k 56 1 (.iconst 2) 2, av_a 57 1 .iadd, av_a 58 1 .iaload, av_a 59 1 .iastore, av_a 60 1 (.aload_n 0), av_f 61 3 (.getfield 27) 4 5 0 21 0, av_a 64 2 (.iload 4), av_a 66 1 (.aload_n 1), av_a 67 1 (.iload_n 3), av_k 68 1 (.iconst 3) 3, av_a 69 1 .iadd, av_a 70 1 .iaload, av_a 71 1 .iastore, av_k 72 3 (.iinc 3 4) 4, av_k 75 3 (.iinc 4 1) 1, av_b 78 (.goto (-59)) 19, av_a 81 1 (.aload_n 0), av_a 82 1 (.aload_n 1), av_a 83 1 (.iload_n 3), av_a 84 1 .iaload, av_f 85 3 (.putfield 40) 4 8 0 27 0, av_a 88 1 (.aload_n 0), av_a 89 1 (.aload_n 1), av_a 90 1 (.iload_n 3), av_k 91 1 (.iconst 1) 1, av_a 92 1 .iadd, av_a 93 1 .iaload, av_f 94 3 (.putfield 43) 4 9 0 29 0, av_a 97 1 (.aload_n 0), av_a 98 1 (.aload_n 1), av_a 99 1 (.iload_n 3), av_k 100 1 (.iconst 2) 2, av_a 101 1 .iadd, av_a 102 1 .iaload, av_f 103 3 (.putfield 54) 4 10 0 31 0, av_a 106 1 (.aload_n 0), av_a 107 1 (.aload_n 1), av_a 108 1 (.iload_n 3), av_k 109 1 (.iconst 3) 3, av_a 110 1 .iadd, av_a 111 1 .iaload, av_f 112 3 (.putfield 30) 4 11 0 33 0, av_a 115 1 (.aload_n 0), av_a 116 1 (.aload_n 1), av_a 117 1 (.iload_n 3), av_k 118 1 (.iconst 4) 4, av_a 119 1 .iadd, av_a 120 1 .iaload, av_f 121 3 (.putfield 92) 4 12 0 37 0, av_a 124 1 .return_]
def tX5_append : List av_I := [av_a 0 1 (.aload_n 0), av_f 1 3 (.getfield 15) 5 1 0 1 0, av_k 4 2 (.bipush 76) 76, av_b 6 (.if_icmp .le 5) 11, av_k 9 1 (.iconst (-1)) (-1), av_f 10 1 .ireturn 0 0 0 0 0, av_k 11 2 (.bipush 24) 24, av_a 13 1 (.istore_n 2), av_a 14 1 (.iload_n 2), av_b 15 (.ifCond .lt 35) 50, av_a 18 1 (.aload_n 0), av_f 19 3 (.getfield 9) 5 0 0 0 0, av_a 22 1 (.aload_n 0), av_f 23 3 (.getfield 15) 5 1 0 1 0, av_a 26 1 (.iload_n 1), av_a 27 1 (.iload_n 2), av_a 28 1 .iushr, av_k 29 3 (.sipush 255) 255, av_a 32 1 .iand, av_a 33 1 .iastore, av_a 34 1 (.aload_n 0), av_a 35 1 .dup, av_f 36 3 (.getfield 15) 5 1 0 1 0, av_k 39 1 (.iconst 1) 1, av_a 40 1 .iadd, av_f 41 3 (.putfield 15) 5 1 0 1 0, av_k 44 3 (.iinc 2 (-8)) (-8), av_b 47 (.goto (-33)) 14, av_a 50 1 (.aload_n 0), av_f 51 3 (.getfield 15) 5 1 0 1 0, av_f 54 1 .ireturn 0 0 0 0 0]
def tX5_shorten : List av_I := [av_a 0 1 (.iload_n 1), av_b 1 (.ifCond .lt 11) 12, av_a 4 1 (.iload_n 1), av_a 5 1 (.aload_n 0), av_f 6 3 (.getfield 15) 5 1 0 1 0, av_b 9 (.if_icmp .le 5) 14, av_k 12 1 (.iconst 0) 0, av_f 13 1 .ireturn 1 0 0 0 0, av_a 14 1 (.aload_n 0), av_a 15 1 (.iload_n 1), av_f 16 3 (.putfield 15) 5 1 0 1 0, av_k 19 1 (.iconst 1) 1, av_f 20 1 .ireturn 1 0 0 0 0]
def tX5_at : List av_I := [av_a 0 1 (.iload_n 1), av_b 1 (.ifCond .lt 11) 12, av_a 4 1 (.iload_n 1), av_a 5 1 (.aload_n 0), av_f 6 3 (.getfield 15) 5 1 0 1 0, av_b 9 (.if_icmp .lt 7) 16, av_k 12 1 (.iconst (-1)) (-1), av_b 13 (.goto 9) 22, av_a 16 1 (.aload_n 0), av_f 17 3 (.getfield 9) 5 0 0 0 0, av_a 20 1 (.iload_n 1), av_a 21 1 .iaload, av_f 22 1 .ireturn 0 0 0 0 0]
def tX5_digit : List av_I := [av_a 0 1 (.aload_n 0), av_a 1 1 (.iload_n 1), av_f 2 3 (.invokevirtual 19) 50 1 1 10 5, av_a 5 1 (.istore_n 2), av_a 6 1 (.iload_n 2), av_k 7 2 (.bipush 48) 48, av_b 9 (.if_icmp .lt 16) 25, av_a 12 1 (.iload_n 2), av_k 13 2 (.bipush 57) 57, av_b 15 (.if_icmp .gt 10) 25, av_a 18 1 (.iload_n 2), av_k 19 2 (.bipush 48) 48, av_a 21 1 .isub, av_b 22 (.goto 4) 26, av_k 25 1 (.iconst (-1)) (-1), av_f 26 1 .ireturn 0 0 0 0 0]
def tX6_sign : List av_I := [av_a 0 1 (.aload_n 0), av_f 1 3 (.getfield 12) 6 0 0 63 0, av_a 4 1 (.iload_n 1), av_f 5 3 (.invokevirtual 72) 48 1 1 1 5, av_f 8 1 .ireturn 0 0 0 0 0]
def tX6_end : List av_I := [av_a 0 1 (.aload_n 0), av_f 1 3 (.getfield 12) 6 0 0 63 0, av_a 4 1 (.iload_n 1), av_f 5 3 (.invokevirtual 76) 49 1 1 3 5, av_f 8 1 .ireturn 1 0 0 0 0]
def tX6_streamers : List av_I := [av_a 0 1 (.aload_n 0), av_f 1 3 (.getfield 12) 6 0 0 63 0, av_f 4 3 (.getfield 80) 5 1 0 3 0, av_a 7 1 (.istore_n 1), av_a 8 1 (.aload_n 0), av_f 9 3 (.invokevirtual 84) 115 0 1 5 6, av_a 12 1 (.istore_n 2), av_a 13 1 (.iload_n 2), av_b 14 (.ifCond .ge 7) 21, av_a 17 1 (.aload_n 0), av_f 18 3 (.invokevirtual 88) 117 0 0 11 6, av_a 21 1 (.aload_n 0), av_f 22 3 (.getfield 12) 6 0 0 63 0, av_k 25 1 (.iconst 0) 0, av_f 26 3 (.putfield 80) 5 1 0 3 0, av_a 29 1 (.iload_n 2), av_b 30 (.ifCond .lt 7) 37, av_k 33 1 (.iconst (-1)) (-1), av_a 34 1 (.iload_n 2), av_a 35 1 .isub, av_f 36 1 .ireturn 0 0 0 0 0, av_a 37 1 (.iload_n 1), av_k 38 1 (.iconst 1) 1, av_a 39 1 .iadd, av_k 40 2 (.bipush 7) 7, av_a 42 1 .idiv, av_f 43 1 .ireturn 0 0 0 0 0]
def tX6_rule : List av_I := [av_a 0 1 (.aload_n 0), av_f 1 3 (.getfield 40) 6 5 0 68 0, av_a 4 1 (.aload_n 0), av_f 5 3 (.getfield 12) 6 0 0 63 0, av_f 8 3 (.invokevirtual 91) 11 1 1 15 3, av_a 11 1 (.istore_n 1), av_a 12 1 (.aload_n 0), av_f 13 3 (.getfield 12) 6 0 0 63 0, av_k 16 1 (.iconst 0) 0, av_f 17 3 (.putfield 80) 5 1 0 3 0, av_a 20 1 (.iload_n 1), av_b 21 (.ifCond .lt 7) 28, av_k 24 1 (.iconst (-1)) (-1), av_a 25 1 (.iload_n 1), av_a 26 1 .isub, av_f 27 1 .ireturn 0 0 0 0 0, av_a 28 1 (.aload_n 0), av_f 29 3 (.getfield 36) 6 4 0 67 0, av_a 32 1 (.aload_n 0), av_f 33 3 (.getfield 40) 6 5 0 68 0, av_f 36 3 (.invokevirtual 95) 10 1 0 29 3, av_k 39 1 (.iconst 0) 0, av_f 40 1 .ireturn 0 0 0 0 0]
def tX6_streamer : List av_I := [av_a 0 1 (.aload_n 0), av_f 1 3 (.getfield 26) 6 2 0 65 0, av_a 4 1 (.iload_n 1), av_f 5 3 (.invokevirtual 99) 26 1 1 60 4, av_b 8 (.ifCond .ne 11) 19, av_a 11 3 (.new 102), av_a 14 1 .dup, av_a 15 3 (.invokespecial 104), av_a 18 1 .athrow, av_a 19 1 (.iload_n 2), av_w 20 52 (.tableswitch 150 0 8 #[52, 62, 72, 82, 92, 102, 112, 121, 134]) 170 [(0, 72), (1, 82), (2, 92), (3, 102), (4, 112), (5, 122), (6, 132), (7, 141), (8, 154)], av_a 72 1 (.aload_n 0), av_f 73 3 (.getfield 26) 6 2 0 65 0, av_f 76 3 (.getfield 105) 4 0 0 9 0, av_a 79 1 (.iload_n 1), av_a 80 1 .iaload, av_f 81 1 .ireturn 0 0 0 0 0, av_a 82 1 (.aload_n 0), av_f 83 3 (.getfield 26) 6 2 0 65 0, av_f 86 3 (.getfield 108) 4 1 0 11 0, av_a 89 1 (.iload_n 1), av_a 90 1 .iaload, av_f 91 1 .ireturn 0 0 0 0 0, av_a 92 1 (.aload_n 0), av_f 93 3 (.getfield 26) 6 2 0 65 0, av_f 96 3 (.getfield 111) 4 2 0 14 0, av_a 99 1 (.iload_n 1), av_a 100 1 .iaload, av_f 101 1 .ireturn 0 0 0 0 0, av_a 102 1 (.aload_n 0), av_f 103 3 (.getfield 26) 6 2 0 65 0, av_f 106 3 (.getfield 114) 4 3 0 17 0, av_a 109 1 (.iload_n 1), av_a 110 1 .iaload, av_f 111 1 .ireturn 0 0 0 0 0, av_a 112 1 (.aload_n 0), av_f 113 3 (.getfield 26) 6 2 0 65 0, av_f 116 3 (.getfield 117) 4 4 0 19 0, av_a 119 1 (.iload_n 1), av_a 120 1 .iaload, av_f 121 1 .ireturn 0 0 0 0 0, av_a 122 1 (.aload_n 0), av_f 123 3 (.getfield 26) 6 2 0 65 0, av_f 126 3 (.getfield 120) 4 5 0 22 0, av_a 129 1 (.iload_n 1), av_a 130 1 .iaload, av_f 131 1 .ireturn 0 0 0 0 0, av_a 132 1 (.aload_n 0), av_f 133 3 (.getfield 26) 6 2 0 65 0, av_a 136 1 (.iload_n 1), av_f 137 3 (.invokevirtual 123) 30 1 1 168 4, av_f 140 1 .ireturn 0 0 0 0 0, av_k 141 3 (.sipush 20000) 20000, av_a 144 1 (.aload_n 0), av_f 145 3 (.getfield 26) 6 2 0 65 0, av_a 148 1 (.iload_n 1), av_f 149 3 (.invokevirtual 126) 32 1 1 169 4, av_a 152 1 .iadd, av_f 153 1 .ireturn 0 0 0 0 0, av_k 154 2 (.bipush 100) 100, av_a 156 1 (.aload_n 0), av_f 157 3 (.getfield 36) 6 4 0 67 0, av_a 160 1 (.aload_n 0), av_f 161 3 (.getfield 26) 6 2 0 65 0, av_a 164 1 (.iload_n 1), av_f 165 3 (.invokevirtual 129) 23 2 1 170 3, av_a 168 1 .iadd, av_f 169 1 .ireturn 0 0 0 0 0, av_a 170 3 (.new 102), av_a 173 1 .dup, av_a 174 3 (.invokespecial 104), av_a 177 1 .athrow]
def tX6_sheet : List av_I := [av_a 0 1 (.iload_n 1), av_b 1 (.ifCond .lt 14) 15, av_a 4 1 (.iload_n 1), av_k 5 1 (.iconst 3) 3, av_b 6 (.if_icmp .gt 9) 15, av_a 9 1 (.iload_n 2), av_k 10 2 (.bipush 7) 7, av_b 12 (.if_icmp .le 5) 17, av_k 15 1 (.iconst (-1)) (-1), av_f 16 1 .ireturn 0 0 0 0 0, av_a 17 1 (.iload_n 1), av_k 18 1 (.iconst 3) 3, av_b 19 (.if_icmp .ne 7) 26, av_k 22 1 (.iconst 1) 1, av_b 23 (.goto 4) 27, av_k 26 1 (.iconst 0) 0, av_a 27 2 (.istore 5), av_a 29 2 (.iload 5), av_b 31 (.ifCond .ne 10) 41, av_a 34 1 (.iload_n 2), av_b 35 (.ifCond .ge 6) 41, av_k 38 2 (.bipush (-2)) (-2), av_f 40 1 .ireturn 0 0 0 0 0, av_k 41 1 (.iconst 0) 0, av_a 42 2 (.istore 6), av_k 44 1 (.iconst 0) 0, av_a 45 2 (.istore 7), av_a 47 2 (.iload 7), av_a 49 1 (.aload_n 0), av_f 50 3 (.getfield 26) 6 2 0 65 0, av_f 53 3 (.getfield 133) 4 6 0 24 0, av_b 56 (.if_icmp .ge 78) 134, av_a 59 2 (.iload 5), av_b 61 (.ifCond .ne 13) 74, av_a 64 2 (.iload 7), av_a 66 1 (.iload_n 2), av_b 67 (.if_icmp .ge 7) 74, av_k 70 1 (.iconst 1) 1, av_b 71 (.goto 4) 75, av_k 74 1 (.iconst 0) 0, av_a 75 2 (.istore 8), av_a 77 1 (.aload_n 0), av_f 78 3 (.getfield 26) 6 2 0 65 0, av_f 81 3 (.getfield 108) 4 1 0 11 0, av_a 84 2 (.iload 7), av_a 86 2 (.iload 8), av_b 88 (.ifCond .eq 23) 111, av_a 91 1 (.iload_n 1), av_a 92 1 (.iload_n 3), av_a 93 2 (.iload 7), av_a 95 2 (.iload 4), av_a 97 1 .imul, av_a 98 1 .iadd, av_f 99 3 (.invokestatic 136) 119 2 1 31 6, av_k 102 1 (.iconst 1) 1, av_k 103 2 (.bipush 9) 9, av_f 105 3 (.invokestatic 140) 104 3 1 32 6, av_b 108 (.goto 4) 112, av_k 111 1 (.iconst 1) 1, av_a 112 1 .iastore, av_a 113 2 (.iload 6), av_a 115 1 (.aload_n 0), av_f 116 3 (.getfield 26) 6 2 0 65 0, av_f 119 3 (.getfield 108) 4 1 0 11 0, av_a 122 2 (.iload 7), av_a 124 1 .iaload, av_a 125 1 .iadd, av_a 126 2 (.istore 6), av_k 128 3 (.iinc 7 1) 1, av_b 131 (.goto (-84)) 47, av_a 134 2 (.iload 5), av_b 136 (.ifCond .eq 8) 144, av_k 139 2 (.bipush (-3)) (-3), av_b 141 (.goto 5) 146, av_a 144 2 (.iload 6), av_f 146 1 .ireturn 0 0 0 0 0]
def tX6_hours : List av_I := [av_a 0 1 (.aload_n 0), av_f 1 3 (.getfield 46) 6 6 0 69 0, av_a 4 1 (.aload_n 0), av_f 5 3 (.getfield 26) 6 2 0 65 0, av_f 8 3 (.invokevirtual 144) 2 1 0 34 1, av_a 11 1 (.aload_n 0), av_a 12 1 (.aload_n 0), av_a 13 1 (.iload_n 1), av_f 14 3 (.invokevirtual 148) 124 1 1 36 6, av_f 17 3 (.invokevirtual 151) 122 1 1 56 6, av_f 20 1 .ireturn 0 0 0 0 0]
def tX6_runs : List av_I := [av_a 0 1 (.aload_n 0), av_f 1 3 (.getfield 46) 6 6 0 69 0, av_a 4 1 (.aload_n 0), av_f 5 3 (.getfield 26) 6 2 0 65 0, av_f 8 3 (.invokevirtual 144) 2 1 0 34 1, av_a 11 1 (.aload_n 0), av_a 12 1 (.aload_n 0), av_a 13 1 (.iload_n 1), av_a 14 1 (.iload_n 2), av_f 15 3 (.invokevirtual 154) 125 2 1 59 6, av_f 18 3 (.invokevirtual 151) 122 1 1 56 6, av_f 21 1 .ireturn 0 0 0 0 0]
def tX6_rates : List av_I := [av_a 0 1 (.aload_n 0), av_f 1 3 (.getfield 46) 6 6 0 69 0, av_a 4 1 (.aload_n 0), av_f 5 3 (.getfield 26) 6 2 0 65 0, av_f 8 3 (.invokevirtual 144) 2 1 0 34 1, av_a 11 1 (.aload_n 0), av_a 12 1 (.aload_n 0), av_a 13 1 (.iload_n 1), av_a 14 1 (.iload_n 2), av_f 15 3 (.invokevirtual 157) 126 2 1 63 6, av_f 18 3 (.invokevirtual 151) 122 1 1 56 6, av_f 21 1 .ireturn 0 0 0 0 0]
def tX6_reels : List av_I := [av_a 0 1 (.aload_n 0), av_f 1 3 (.getfield 46) 6 6 0 69 0, av_a 4 1 (.aload_n 0), av_f 5 3 (.getfield 26) 6 2 0 65 0, av_f 8 3 (.invokevirtual 144) 2 1 0 34 1, av_a 11 1 (.aload_n 0), av_a 12 1 (.aload_n 0), av_a 13 1 (.iload_n 1), av_a 14 1 (.iload_n 2), av_f 15 3 (.invokevirtual 160) 127 2 1 65 6, av_f 18 3 (.invokevirtual 151) 122 1 1 56 6, av_f 21 1 .ireturn 0 0 0 0 0]
def tX6_drops : List av_I := [av_a 0 1 (.aload_n 0), av_f 1 3 (.getfield 46) 6 6 0 69 0, av_a 4 1 (.aload_n 0), av_f 5 3 (.getfield 26) 6 2 0 65 0, av_f 8 3 (.invokevirtual 144) 2 1 0 34 1, av_a 11 1 (.aload_n 0), av_a 12 1 (.aload_n 0), av_a 13 1 (.iload_n 1), av_f 14 3 (.invokevirtual 163) 128 1 1 67 6, av_f 17 3 (.invokevirtual 151) 122 1 1 56 6, av_f 20 1 .ireturn 0 0 0 0 0]
def tX6_speed : List av_I := [av_a 0 1 (.aload_n 0), av_f 1 3 (.getfield 46) 6 6 0 69 0, av_a 4 1 (.aload_n 0), av_f 5 3 (.getfield 26) 6 2 0 65 0, av_f 8 3 (.invokevirtual 144) 2 1 0 34 1, av_a 11 1 (.aload_n 0), av_a 12 1 (.aload_n 0), av_a 13 1 (.iload_n 1), av_f 14 3 (.invokevirtual 166) 129 1 1 70 6, av_f 17 3 (.invokevirtual 151) 122 1 1 56 6, av_f 20 1 .ireturn 0 0 0 0 0]
def tX6_sailing : List av_I := [av_a 0 1 (.aload_n 0), av_f 1 3 (.invokevirtual 169) 120 0 1 72 6, av_a 4 1 (.istore_n 1), av_a 5 1 (.iload_n 1), av_b 6 (.ifCond .lt 15) 21, av_a 9 1 (.aload_n 0), av_f 10 3 (.getfield 12) 6 0 0 63 0, av_k 13 1 (.iconst 0) 0, av_f 14 3 (.putfield 80) 5 1 0 3 0, av_k 17 1 (.iconst (-1)) (-1), av_a 18 1 (.iload_n 1), av_a 19 1 .isub, av_f 20 1 .ireturn 0 0 0 0 0, av_a 21 1 (.aload_n 0), av_f 22 3 (.getfield 46) 6 6 0 69 0, av_a 25 1 (.aload_n 0), av_f 26 3 (.getfield 26) 6 2 0 65 0, av_f 29 3 (.invokevirtual 144) 2 1 0 34 1, av_k 32 1 (.iconst 0) 0, av_a 33 1 (.istore_n 2), av_k 34 1 (.iconst 0) 0, av_a 35 1 (.istore_n 3), av_k 36 1 (.iconst 0) 0, av_a 37 2 (.istore 4), av_a 39 2 (.iload 4), av_a 41 1 (.aload_n 0), av_f 42 3 (.getfield 12) 6 0 0 63 0, av_f 45 3 (.getfield 80) 5 1 0 3 0, av_b 48 (.if_icmp .ge 51) 99, av_a 51 1 (.iload_n 3), av_b 52 (.ifCond .ne 47) 99, av_a 55 1 (.aload_n 0), av_a 56 2 (.iload 4), av_f 58 3 (.invokevirtual 172) 123 1 1 74 6, av_b 61 (.ifCond .ge 7) 68, av_k 64 1 (.iconst 1) 1, av_b 65 (.goto 4) 69, av_k 68 1 (.iconst 0) 0, av_a 69 1 (.istore_n 3), av_a 70 1 (.iload_n 3), av_b 71 (.ifCond .ne 6) 77, av_k 74 3 (.iinc 2 1) 1, av_a 77 2 (.iload 4), av_k 79 1 (.iconst 1) 1, av_a 80 1 (.aload_n 0), av_f 81 3 (.getfield 12) 6 0 0 63 0, av_a 84 2 (.iload 4), av_f 86 3 (.invokevirtual 175) 50 1 1 7 5, av_f 89 3 (.invokestatic 178) 121 1 1 73 6, av_a 92 1 .iadd, av_a 93 1 .iadd, av_a 94 2 (.istore 4), av_b 96 (.goto (-57)) 39, av_a 99 1 (.iload_n 2), av_b 100 (.ifCond .le 10) 110, av_a 103 1 (.aload_n 0), av_f 104 3 (.getfield 46) 6 6 0 69 0, av_f 107 3 (.invokevirtual 181) 3 0 0 57 1, av_a 110 1 (.aload_n 0), av_f 111 3 (.getfield 12) 6 0 0 63 0, av_k 114 1 (.iconst 0) 0, av_f 115 3 (.putfield 80) 5 1 0 3 0, av_a 118 1 (.aload_n 0), av_a 119 1 (.iload_n 3), av_b 120 (.ifCond .eq 7) 127, av_l 123 1 (.lconst 1) 1 0, av_b 124 (.goto 4) 128, av_l 127 1 (.lconst 0) 0 0, av_a 128 1 (.aload_n 0), av_f 129 3 (.getfield 26) 6 2 0 65 0, av_f 132 3 (.getfield 184) 4 10 0 32 0, av_a 135 1 .i2l, av_f 136 3 (.invokevirtual 187) 111 2 0 53 6, av_a 139 1 (.iload_n 2), av_f 140 1 .ireturn 0 0 0 0 0]
def tX6_undo : List av_I := [av_a 0 1 (.aload_n 0), av_f 1 3 (.getfield 46) 6 6 0 69 0, av_a 4 1 (.aload_n 0), av_f 5 3 (.getfield 26) 6 2 0 65 0, av_f 8 3 (.invokevirtual 191) 4 1 1 76 1, av_b 11 (.ifCond .eq 13) 24, av_a 14 1 (.aload_n 0), av_f 15 3 (.getfield 46) 6 6 0 69 0, av_f 18 3 (.getfield 195) 1 3 0 52 0, av_b 21 (.goto 4) 25, av_k 24 1 (.iconst (-1)) (-1), av_f 25 1 .ireturn 0 0 0 0 0]
def tX6_later : List av_I := [av_a 0 1 (.iload_n 1), av_b 1 (.ifCond .lt 9) 10, av_a 4 1 (.iload_n 1), av_k 5 2 (.bipush 99) 99, av_b 7 (.if_icmp .le 5) 12, av_k 10 1 (.iconst (-1)) (-1), av_f 11 1 .ireturn 0 0 0 0 0, av_a 12 1 (.aload_n 0), av_a 13 1 (.iload_n 1), av_f 14 3 (.invokevirtual 198) 114 1 0 79 6, av_a 17 1 (.aload_n 0), av_a 18 1 (.aload_n 0), av_f 19 3 (.getfield 30) 6 3 0 66 0, av_f 22 3 (.invokevirtual 201) 28 0 1 51 4, av_a 25 1 .i2l, av_a 26 1 (.aload_n 0), av_f 27 3 (.getfield 30) 6 3 0 66 0, av_f 30 3 (.invokevirtual 204) 33 0 1 83 4, av_a 33 1 .i2l, av_f 34 3 (.invokevirtual 187) 111 2 0 53 6, av_a 37 1 (.aload_n 0), av_f 38 3 (.getfield 30) 6 3 0 66 0, av_f 41 3 (.getfield 184) 4 10 0 32 0, av_f 44 1 .ireturn 0 0 0 0 0]
def tX6_when : List av_I := [av_a 0 1 (.aload_n 0), av_f 1 3 (.getfield 26) 6 2 0 65 0, av_a 4 1 (.iload_n 1), av_f 5 3 (.invokevirtual 99) 26 1 1 60 4, av_b 8 (.ifCond .ne 5) 13, av_k 11 1 (.iconst (-1)) (-1), av_f 12 1 .ireturn 0 0 0 0 0, av_a 13 1 (.aload_n 0), av_f 14 3 (.getfield 30) 6 3 0 66 0, av_a 17 1 (.aload_n 0), av_f 18 3 (.getfield 26) 6 2 0 65 0, av_f 21 3 (.invokevirtual 207) 45 1 0 80 4, av_k 24 1 (.iconst 0) 0, av_a 25 1 (.istore_n 2), av_a 26 1 (.iload_n 2), av_k 27 2 (.bipush 99) 99, av_b 29 (.if_icmp .gt 55) 84, av_a 32 1 (.aload_n 0), av_f 33 3 (.getfield 30) 6 3 0 66 0, av_a 36 1 (.iload_n 1), av_f 37 3 (.invokevirtual 209) 29 1 1 85 4, av_b 40 (.ifCond .ne 27) 67, av_a 43 1 (.aload_n 0), av_a 44 1 (.aload_n 0), av_f 45 3 (.getfield 30) 6 3 0 66 0, av_f 48 3 (.getfield 184) 4 10 0 32 0, av_a 51 1 .i2l, av_a 52 1 (.aload_n 0), av_f 53 3 (.getfield 30) 6 3 0 66 0, av_f 56 3 (.getfield 120) 4 5 0 22 0, av_a 59 1 (.iload_n 1), av_a 60 1 .iaload, av_a 61 1 .i2l, av_f 62 3 (.invokevirtual 187) 111 2 0 53 6, av_a 65 1 (.iload_n 2), av_f 66 1 .ireturn 0 0 0 0 0, av_a 67 1 (.aload_n 0), av_f 68 3 (.getfield 30) 6 3 0 66 0, av_a 71 1 (.aload_n 0), av_f 72 3 (.getfield 36) 6 4 0 67 0, av_f 75 3 (.invokevirtual 212) 43 1 0 37 4, av_k 78 3 (.iinc 2 1) 1, av_b 81 (.goto (-55)) 26, av_k 84 2 (.bipush (-2)) (-2), av_f 86 1 .ireturn 0 0 0 0 0]
def tX6_order : List av_I := [av_a 0 1 (.aload_n 0), av_f 1 3 (.getfield 30) 6 3 0 66 0, av_a 4 1 (.aload_n 0), av_f 5 3 (.getfield 26) 6 2 0 65 0, av_f 8 3 (.invokevirtual 207) 45 1 0 80 4, av_a 11 1 (.aload_n 0), av_f 12 3 (.getfield 19) 6 1 0 64 0, av_f 15 3 (.invokevirtual 215) 8 0 0 54 2, av_k 18 1 (.iconst 0) 0, av_a 19 1 (.istore_n 1), av_k 20 1 (.iconst 1) 1, av_a 21 1 (.istore_n 2), av_a 22 1 (.iload_n 2), av_k 23 2 (.bipush 99) 99, av_b 25 (.if_icmp .gt 85) 110, av_a 28 1 (.aload_n 0), av_f 29 3 (.getfield 30) 6 3 0 66 0, av_f 32 3 (.getfield 218) 4 8 0 28 0, av_a 35 1 (.istore_n 3), av_a 36 1 (.aload_n 0), av_f 37 3 (.getfield 30) 6 3 0 66 0, av_a 40 1 (.aload_n 0), av_f 41 3 (.getfield 36) 6 4 0 67 0, av_f 44 3 (.invokevirtual 212) 43 1 0 37 4, av_a 47 1 (.aload_n 0), av_f 48 3 (.getfield 30) 6 3 0 66 0, av_f 51 3 (.getfield 218) 4 8 0 28 0, av_a 54 1 (.iload_n 3), av_k 55 1 (.iconst (-1)) (-1), av_a 56 1 .ixor, av_a 57 1 .iand, av_a 58 2 (.istore 4), av_k 60 1 (.iconst 0) 0, av_a 61 2 (.istore 5), av_a 63 2 (.iload 5), av_a 65 1 (.aload_n 0), av_f 66 3 (.getfield 30) 6 3 0 66 0, av_f 69 3 (.getfield 133) 4 6 0 24 0, av_b 72 (.if_icmp .ge 32) 104, av_a 75 2 (.iload 4), av_a 77 2 (.iload 5), av_f 79 3 (.invokestatic 221) 108 2 1 68 6, av_b 82 (.ifCond .eq 16) 98, av_a 85 1 (.aload_n 0), av_f 86 3 (.getfield 19) 6 1 0 64 0, av_a 89 2 (.iload 5), av_a 91 1 .i2l, av_f 92 3 (.invokevirtual 225) 9 1 0 55 2, av_k 95 3 (.iinc 1 1) 1, av_k 98 3 (.iinc 5 1) 1, av_b 101 (.goto (-38)) 63, av_k 104 3 (.iinc 2 1) 1, av_b 107 (.goto (-85)) 22, av_a 110 1 (.iload_n 1), av_f 111 1 .ireturn 0 0 0 0 0]
def tX6_gone : List av_I := [av_a 0 1 (.aload_n 0), av_f 1 3 (.getfield 30) 6 3 0 66 0, av_a 4 1 (.aload_n 0), av_f 5 3 (.getfield 26) 6 2 0 65 0, av_f 8 3 (.invokevirtual 207) 45 1 0 80 4, av_k 11 1 (.iconst 0) 0, av_a 12 1 (.istore_n 1), av_a 13 1 (.iload_n 1), av_k 14 2 (.bipush 99) 99, av_b 16 (.if_icmp .gt 44) 60, av_a 19 1 (.aload_n 0), av_f 20 3 (.getfield 30) 6 3 0 66 0, av_f 23 3 (.invokevirtual 201) 28 0 1 51 4, av_b 26 (.ifCond .ne 17) 43, av_a 29 1 (.aload_n 0), av_a 30 1 (.aload_n 0), av_f 31 3 (.getfield 30) 6 3 0 66 0, av_f 34 3 (.getfield 184) 4 10 0 32 0, av_a 37 1 .i2l, av_f 38 3 (.invokevirtual 229) 110 1 0 88 6, av_a 41 1 (.iload_n 1), av_f 42 1 .ireturn 0 0 0 0 0, av_a 43 1 (.aload_n 0), av_f 44 3 (.getfield 30) 6 3 0 66 0, av_a 47 1 (.aload_n 0), av_f 48 3 (.getfield 36) 6 4 0 67 0, av_f 51 3 (.invokevirtual 212) 43 1 0 37 4, av_k 54 3 (.iinc 1 1) 1, av_b 57 (.goto (-44)) 13, av_k 60 2 (.bipush (-2)) (-2), av_f 62 1 .ireturn 0 0 0 0 0]
def tX6_stopped : List av_I := [av_a 0 1 (.aload_n 0), av_f 1 3 (.getfield 30) 6 3 0 66 0, av_a 4 1 (.aload_n 0), av_f 5 3 (.getfield 26) 6 2 0 65 0, av_f 8 3 (.invokevirtual 207) 45 1 0 80 4, av_k 11 1 (.iconst 0) 0, av_a 12 1 (.istore_n 1), av_k 13 1 (.iconst 0) 0, av_a 14 1 (.istore_n 2), av_k 15 1 (.iconst 0) 0, av_a 16 1 (.istore_n 3), av_k 17 1 (.iconst 1) 1, av_a 18 2 (.istore 4), av_a 20 2 (.iload 4), av_k 22 2 (.bipush 99) 99, av_b 24 (.if_icmp .gt 60) 84, av_a 27 1 (.aload_n 0), av_f 28 3 (.getfield 30) 6 3 0 66 0, av_f 31 3 (.getfield 184) 4 10 0 32 0, av_a 34 2 (.istore 5), av_a 36 1 (.aload_n 0), av_f 37 3 (.getfield 30) 6 3 0 66 0, av_a 40 1 (.aload_n 0), av_f 41 3 (.getfield 36) 6 4 0 67 0, av_f 44 3 (.invokevirtual 212) 43 1 0 37 4, av_a 47 1 (.aload_n 0), av_f 48 3 (.getfield 30) 6 3 0 66 0, av_f 51 3 (.getfield 184) 4 10 0 32 0, av_a 54 2 (.iload 5), av_b 56 (.if_icmp .gt 22) 78, av_k 59 3 (.iinc 3 1) 1, av_a 62 1 (.iload_n 3), av_k 63 1 (.iconst 1) 1, av_b 64 (.if_icmp .ne 14) 78, av_a 67 2 (.iload 4), av_a 69 1 (.istore_n 1), av_a 70 1 (.aload_n 0), av_f 71 3 (.getfield 30) 6 3 0 66 0, av_f 74 3 (.getfield 184) 4 10 0 32 0, av_a 77 1 (.istore_n 2), av_k 78 3 (.iinc 4 1) 1, av_b 81 (.goto (-61)) 20, av_a 84 1 (.iload_n 3), av_b 85 (.ifCond .ne 6) 91, av_k 88 2 (.bipush (-2)) (-2), av_f 90 1 .ireturn 0 0 0 0 0, av_a 91 1 (.aload_n 0), av_a 92 1 (.iload_n 3), av_a 93 1 .i2l, av_a 94 1 (.iload_n 2), av_a 95 1 .i2l, av_f 96 3 (.invokevirtual 187) 111 2 0 53 6, av_a 99 1 (.iload_n 1), av_f 100 1 .ireturn 0 0 0 0 0]
def tX6_drag : List av_I := [av_a 0 1 (.aload_n 0), av_a 1 1 (.aload_n 0), av_f 2 3 (.getfield 26) 6 2 0 65 0, av_f 5 3 (.invokevirtual 204) 33 0 1 83 4, av_a 8 1 .i2l, av_a 9 1 (.aload_n 0), av_f 10 3 (.getfield 26) 6 2 0 65 0, av_a 13 1 (.aload_n 0), av_f 14 3 (.getfield 26) 6 2 0 65 0, av_f 17 3 (.invokevirtual 201) 28 0 1 51 4, av_f 20 3 (.invokevirtual 231) 38 1 1 91 4, av_a 23 1 .i2l, av_f 24 3 (.invokevirtual 187) 111 2 0 53 6, av_a 27 1 (.aload_n 0), av_f 28 3 (.getfield 26) 6 2 0 65 0, av_f 31 3 (.invokevirtual 234) 41 0 1 92 4, av_f 34 1 .ireturn 0 0 0 0 0]
def tX6_thrift : List av_I := [av_a 0 1 (.aload_n 0), av_f 1 3 (.getfield 26) 6 2 0 65 0, av_a 4 1 (.iload_n 1), av_f 5 3 (.invokevirtual 99) 26 1 1 60 4, av_b 8 (.ifCond .eq 10) 18, av_a 11 1 (.iload_n 2), av_f 12 3 (.invokestatic 237) 107 1 1 94 6, av_b 15 (.ifCond .ne 5) 20, av_k 18 1 (.iconst (-1)) (-1), av_f 19 1 .ireturn 0 0 0 0 0, av_k 20 2 (.bipush (-2)) (-2), av_a 22 1 (.istore_n 3), av_k 23 1 (.iconst 0) 0, av_a 24 2 (.istore 4), av_k 26 2 (.bipush 9) 9, av_a 28 2 (.istore 5), av_a 30 2 (.iload 5), av_b 32 (.ifCond .lt 47) 79, av_a 35 1 (.aload_n 0), av_f 36 3 (.getfield 30) 6 3 0 66 0, av_a 39 1 (.aload_n 0), av_f 40 3 (.getfield 26) 6 2 0 65 0, av_f 43 3 (.invokevirtual 207) 45 1 0 80 4, av_a 46 1 (.aload_n 0), av_f 47 3 (.getfield 30) 6 3 0 66 0, av_f 50 3 (.getfield 114) 4 3 0 17 0, av_a 53 1 (.iload_n 1), av_a 54 2 (.iload 5), av_a 56 1 .iastore, av_a 57 1 (.aload_n 0), av_a 58 1 (.iload_n 1), av_a 59 1 (.iload_n 2), av_f 60 3 (.invokevirtual 240) 130 2 1 95 6, av_a 63 1 (.iload_n 2), av_b 64 (.if_icmp .ne 9) 73, av_a 67 2 (.iload 5), av_a 69 1 (.istore_n 3), av_k 70 3 (.iinc 4 1) 1, av_k 73 3 (.iinc 5 (-1)) (-1), av_b 76 (.goto (-46)) 30, av_a 79 2 (.iload 4), av_b 81 (.ifCond .le 10) 91, av_a 84 1 (.aload_n 0), av_a 85 2 (.iload 4), av_a 87 1 .i2l, av_f 88 3 (.invokevirtual 229) 110 1 0 88 6, av_a 91 1 (.iload_n 3), av_f 92 1 .ireturn 0 0 0 0 0]
def tX6_mole : List av_I := [av_a 0 1 (.aload_n 0), av_f 1 3 (.getfield 26) 6 2 0 65 0, av_a 4 1 (.iload_n 1), av_f 5 3 (.invokevirtual 99) 26 1 1 60 4, av_b 8 (.ifCond .eq 10) 18, av_a 11 1 (.iload_n 2), av_f 12 3 (.invokestatic 237) 107 1 1 94 6, av_b 15 (.ifCond .ne 5) 20, av_k 18 1 (.iconst (-1)) (-1), av_f 19 1 .ireturn 0 0 0 0 0, av_k 20 1 (.iconst 0) 0, av_a 21 1 (.istore_n 3), av_k 22 1 (.iconst (-1)) (-1), av_a 23 2 (.istore 4), av_k 25 1 (.iconst 0) 0, av_a 26 2 (.istore 5), av_a 28 2 (.iload 5), av_k 30 2 (.bipush 9) 9, av_b 32 (.if_icmp .gt 53) 85, av_a 35 1 (.aload_n 0), av_f 36 3 (.getfield 30) 6 3 0 66 0, av_a 39 1 (.aload_n 0), av_f 40 3 (.getfield 26) 6 2 0 65 0, av_f 43 3 (.invokevirtual 207) 45 1 0 80 4, av_a 46 1 (.aload_n 0), av_f 47 3 (.getfield 30) 6 3 0 66 0, av_f 50 3 (.getfield 117) 4 4 0 19 0, av_a 53 1 (.iload_n 1), av_a 54 2 (.iload 5), av_a 56 1 .iastore, av_a 57 1 (.aload_n 0), av_a 58 1 (.iload_n 1), av_a 59 1 (.iload_n 2), av_f 60 3 (.invokevirtual 240) 130 2 1 95 6, av_a 63 2 (.istore 6), av_a 65 2 (.iload 6), av_a 67 2 (.iload 4), av_b 69 (.if_icmp .le 10) 79, av_a 72 2 (.iload 6), av_a 74 2 (.istore 4), av_a 76 2 (.iload 5), av_a 78 1 (.istore_n 3), av_k 79 3 (.iinc 5 1) 1, av_b 82 (.goto (-54)) 28, av_a 85 1 (.aload_n 0), av_f 86 3 (.getfield 30) 6 3 0 66 0, av_a 89 1 (.aload_n 0), av_f 90 3 (.getfield 26) 6 2 0 65 0, av_f 93 3 (.invokevirtual 207) 45 1 0 80 4, av_a 96 1 (.aload_n 0), av_a 97 2 (.iload 4), av_a 99 1 .i2l, av_a 100 1 (.aload_n 0), av_a 101 1 (.iload_n 1), av_a 102 1 (.iload_n 2), av_f 103 3 (.invokevirtual 240) 130 2 1 95 6, av_a 106 1 .i2l, av_f 107 3 (.invokevirtual 187) 111 2 0 53 6, av_a 110 1 (.iload_n 3), av_f 111 1 .ireturn 0 0 0 0 0]
def tX6_slows : List av_I := [av_a 0 1 (.iload_n 1), av_b 1 (.ifCond .lt 16) 17, av_a 4 1 (.iload_n 1), av_k 5 2 (.bipush 7) 7, av_b 7 (.if_icmp .gt 10) 17, av_a 10 1 (.iload_n 2), av_f 11 3 (.invokestatic 237) 107 1 1 94 6, av_b 14 (.ifCond .ne 5) 19, av_k 17 1 (.iconst (-1)) (-1), av_f 18 1 .ireturn 0 0 0 0 0, av_k 19 2 (.bipush 9) 9, av_a 21 1 (.istore_n 3), av_a 22 1 (.iload_n 3), av_b 23 (.ifCond .lt 45) 68, av_a 26 1 (.aload_n 0), av_a 27 1 (.iload_n 3), av_a 28 1 (.iload_n 2), av_f 29 3 (.invokevirtual 243) 131 2 1 98 6, av_a 32 2 (.istore 4), av_a 34 2 (.iload 4), av_a 36 1 (.iload_n 1), av_b 37 (.if_icmp .lt 25) 62, av_a 40 1 (.aload_n 0), av_a 41 2 (.iload 4), av_a 43 1 .i2l, av_a 44 1 (.aload_n 0), av_a 45 1 (.aload_n 0), av_f 46 3 (.getfield 26) 6 2 0 65 0, av_f 49 3 (.getfield 246) 4 11 0 35 0, av_a 52 1 (.iload_n 2), av_f 53 3 (.invokevirtual 243) 131 2 1 98 6, av_a 56 1 .i2l, av_f 57 3 (.invokevirtual 187) 111 2 0 53 6, av_a 60 1 (.iload_n 3), av_f 61 1 .ireturn 0 0 0 0 0, av_k 62 3 (.iinc 3 (-1)) (-1), av_b 65 (.goto (-43)) 22, av_k 68 2 (.bipush (-2)) (-2), av_f 70 1 .ireturn 0 0 0 0 0]
def tX6_halts : List av_I := [av_a 0 1 (.aload_n 0), av_f 1 3 (.getfield 26) 6 2 0 65 0, av_f 4 3 (.invokevirtual 201) 28 0 1 51 4, av_a 7 1 (.istore_n 1), av_k 8 2 (.bipush 8) 8, av_a 10 1 (.istore_n 2), av_k 11 1 (.iconst 0) 0, av_a 12 1 (.istore_n 3), av_k 13 1 (.iconst 0) 0, av_a 14 2 (.istore 4), av_a 16 2 (.iload 4), av_k 18 3 (.sipush 128) 128, av_b 21 (.if_icmp .ge 69) 90, av_a 24 2 (.iload 4), av_a 26 1 (.iload_n 1), av_f 27 3 (.invokestatic 249) 109 2 1 100 6, av_b 30 (.ifCond .eq 16) 46, av_a 33 2 (.iload 4), av_f 35 3 (.invokestatic 252) 275 1 1 52 8, av_a 38 1 (.iload_n 2), av_b 39 (.if_icmp .ge 7) 46, av_k 42 1 (.iconst 1) 1, av_b 43 (.goto 4) 47, av_k 46 1 (.iconst 0) 0, av_a 47 2 (.istore 5), av_a 49 2 (.iload 5), av_b 51 (.ifCond .eq 33) 84, av_a 54 1 (.aload_n 0), av_f 55 3 (.getfield 26) 6 2 0 65 0, av_a 58 2 (.iload 4), av_f 60 3 (.invokevirtual 231) 38 1 1 91 4, av_k 63 1 (.iconst 5) 5, av_a 64 1 .idiv, av_a 65 1 (.aload_n 0), av_f 66 3 (.getfield 26) 6 2 0 65 0, av_f 69 3 (.getfield 246) 4 11 0 35 0, av_b 72 (.if_icmp .lt 12) 84, av_a 75 2 (.iload 4), av_f 77 3 (.invokestatic 252) 275 1 1 52 8, av_a 80 1 (.istore_n 2), av_a 81 2 (.iload 4), av_a 83 1 (.istore_n 3), av_k 84 3 (.iinc 4 1) 1, av_b 87 (.goto (-71)) 16, av_a 90 1 (.aload_n 0), av_a 91 1 (.iload_n 2), av_a 92 1 (.iload_n 3), av_f 93 3 (.invokevirtual 257) 113 2 1 101 6, av_f 96 1 .ireturn 0 0 0 0 0]
def tX6_frees : List av_I := [av_a 0 1 (.aload_n 0), av_f 1 3 (.getfield 26) 6 2 0 65 0, av_a 4 1 (.iload_n 1), av_f 5 3 (.invokevirtual 99) 26 1 1 60 4, av_b 8 (.ifCond .eq 10) 18, av_a 11 1 (.iload_n 2), av_f 12 3 (.invokestatic 237) 107 1 1 94 6, av_b 15 (.ifCond .ne 5) 20, av_k 18 1 (.iconst (-1)) (-1), av_f 19 1 .ireturn 0 0 0 0 0, av_a 20 1 (.aload_n 0), av_f 21 3 (.getfield 26) 6 2 0 65 0, av_f 24 3 (.invokevirtual 201) 28 0 1 51 4, av_k 27 1 (.iconst 1) 1, av_a 28 1 (.iload_n 1), av_a 29 1 .ishl, av_k 30 1 (.iconst (-1)) (-1), av_a 31 1 .ixor, av_a 32 1 .iand, av_a 33 1 (.istore_n 3), av_k 34 2 (.bipush 8) 8, av_a 36 2 (.istore 4), av_k 38 1 (.iconst 0) 0, av_a 39 2 (.istore 5), av_k 41 1 (.iconst 0) 0, av_a 42 2 (.istore 6), av_a 44 2 (.iload 6), av_k 46 3 (.sipush 128) 128, av_b 49 (.if_icmp .ge 62) 111, av_a 52 2 (.iload 6), av_a 54 1 (.iload_n 3), av_f 55 3 (.invokestatic 249) 109 2 1 100 6, av_b 58 (.ifCond .eq 17) 75, av_a 61 2 (.iload 6), av_f 63 3 (.invokestatic 252) 275 1 1 52 8, av_a 66 2 (.iload 4), av_b 68 (.if_icmp .ge 7) 75, av_k 71 1 (.iconst 1) 1, av_b 72 (.goto 4) 76, av_k 75 1 (.iconst 0) 0, av_a 76 2 (.istore 7), av_a 78 2 (.iload 7), av_b 80 (.ifCond .eq 25) 105, av_a 83 1 (.aload_n 0), av_a 84 1 (.iload_n 1), av_a 85 2 (.iload 6), av_a 87 1 (.iload_n 2), av_f 88 3 (.invokevirtual 260) 132 3 1 103 6, av_b 91 (.ifCond .eq 14) 105, av_a 94 2 (.iload 6), av_f 96 3 (.invokestatic 252) 275 1 1 52 8, av_a 99 2 (.istore 4), av_a 101 2 (.iload 6), av_a 103 2 (.istore 5), av_k 105 3 (.iinc 6 1) 1, av_b 108 (.goto (-64)) 44, av_a 111 1 (.aload_n 0), av_a 112 2 (.iload 4), av_a 114 2 (.iload 5), av_f 116 3 (.invokevirtual 257) 113 2 1 101 6, av_f 119 1 .ireturn 0 0 0 0 0]
def tX6_power : List av_I := [av_a 0 1 (.aload_n 0), av_f 1 3 (.getfield 26) 6 2 0 65 0, av_a 4 1 (.iload_n 1), av_f 5 3 (.invokevirtual 99) 26 1 1 60 4, av_b 8 (.ifCond .ne 5) 13, av_k 11 1 (.iconst (-1)) (-1), av_f 12 1 .ireturn 0 0 0 0 0, av_a 13 1 (.aload_n 0), av_f 14 3 (.getfield 26) 6 2 0 65 0, av_a 17 1 (.iload_n 1), av_f 18 3 (.invokevirtual 209) 29 1 1 85 4, av_b 21 (.ifCond .ne 6) 27, av_k 24 2 (.bipush (-2)) (-2), av_f 26 1 .ireturn 0 0 0 0 0, av_a 27 1 (.aload_n 0), av_f 28 3 (.getfield 26) 6 2 0 65 0, av_f 31 3 (.invokevirtual 201) 28 0 1 51 4, av_k 34 1 (.iconst 1) 1, av_a 35 1 (.iload_n 1), av_a 36 1 .ishl, av_k 37 1 (.iconst (-1)) (-1), av_a 38 1 .ixor, av_a 39 1 .iand, av_a 40 1 (.istore_n 2), av_k 41 1 (.iconst 0) 0, av_a 42 1 (.istore_n 3), av_k 43 1 (.iconst 0) 0, av_a 44 2 (.istore 4), av_a 46 2 (.iload 4), av_k 48 3 (.sipush 128) 128, av_b 51 (.if_icmp .ge 31) 82, av_a 54 2 (.iload 4), av_a 56 1 (.iload_n 2), av_f 57 3 (.invokestatic 249) 109 2 1 100 6, av_b 60 (.ifCond .eq 16) 76, av_a 63 1 (.aload_n 0), av_a 64 2 (.iload 4), av_a 66 1 (.iload_n 1), av_f 67 3 (.invokevirtual 264) 133 2 1 105 6, av_b 70 (.ifCond .eq 6) 76, av_k 73 3 (.iinc 3 1) 1, av_k 76 3 (.iinc 4 1) 1, av_b 79 (.goto (-33)) 46, av_a 82 1 (.aload_n 0), av_a 83 1 (.iload_n 3), av_a 84 1 .i2l, av_l 85 1 (.lconst 1) 1 0, av_a 86 1 (.iload_n 2), av_f 87 3 (.invokestatic 252) 275 1 1 52 8, av_a 90 1 .lshl, av_f 91 3 (.invokevirtual 267) 112 2 0 107 6, av_k 94 1 (.iconst 0) 0, av_f 95 1 .ireturn 0 0 0 0 0]
def tX6_pivots : List av_I := [av_a 0 1 (.aload_n 0), av_f 1 3 (.getfield 26) 6 2 0 65 0, av_a 4 1 (.iload_n 1), av_f 5 3 (.invokevirtual 99) 26 1 1 60 4, av_b 8 (.ifCond .ne 5) 13, av_k 11 1 (.iconst (-1)) (-1), av_f 12 1 .ireturn 0 0 0 0 0, av_a 13 1 (.aload_n 0), av_f 14 3 (.getfield 26) 6 2 0 65 0, av_a 17 1 (.iload_n 1), av_f 18 3 (.invokevirtual 209) 29 1 1 85 4, av_b 21 (.ifCond .ne 6) 27, av_k 24 2 (.bipush (-2)) (-2), av_f 26 1 .ireturn 0 0 0 0 0, av_a 27 1 (.aload_n 0), av_f 28 3 (.getfield 26) 6 2 0 65 0, av_f 31 3 (.invokevirtual 201) 28 0 1 51 4, av_k 34 1 (.iconst 1) 1, av_a 35 1 (.iload_n 1), av_a 36 1 .ishl, av_k 37 1 (.iconst (-1)) (-1), av_a 38 1 .ixor, av_a 39 1 .iand, av_a 40 1 (.istore_n 2), av_a 41 1 (.iload_n 2), av_f 42 3 (.invokestatic 252) 275 1 1 52 8, av_a 45 1 (.istore_n 3), av_l 46 1 (.lconst 0) 0 0, av_a 47 2 (.lstore 4), av_k 49 1 (.iconst 0) 0, av_a 50 2 (.istore 6), av_a 52 2 (.iload 6), av_k 54 3 (.sipush 128) 128, av_b 57 (.if_icmp .ge 53) 110, av_a 60 2 (.iload 6), av_a 62 1 (.iload_n 2), av_f 63 3 (.invokestatic 249) 109 2 1 100 6, av_b 66 (.ifCond .eq 38) 104, av_a 69 1 (.aload_n 0), av_a 70 2 (.iload 6), av_a 72 1 (.iload_n 1), av_f 73 3 (.invokevirtual 264) 133 2 1 105 6, av_b 76 (.ifCond .eq 28) 104, av_a 79 2 (.iload 6), av_f 81 3 (.invokestatic 252) 275 1 1 52 8, av_a 84 2 (.istore 7), av_a 86 2 (.lload 4), av_a 88 2 (.iload 7), av_f 90 3 (.invokestatic 270) 135 1 2 109 6, av_a 93 1 (.iload_n 3), av_a 94 2 (.iload 7), av_a 96 1 .isub, av_f 97 3 (.invokestatic 270) 135 1 2 109 6, av_a 100 1 .lmul, av_a 101 1 .ladd, av_a 102 2 (.lstore 4), av_k 104 3 (.iinc 6 1) 1, av_b 107 (.goto (-55)) 52, av_a 110 1 (.aload_n 0), av_a 111 2 (.lload 4), av_a 113 1 (.iload_n 3), av_k 114 1 (.iconst 1) 1, av_a 115 1 .iadd, av_f 116 3 (.invokestatic 270) 135 1 2 109 6, av_f 119 3 (.invokevirtual 267) 112 2 0 107 6, av_k 122 1 (.iconst 0) 0, av_f 123 1 .ireturn 0 0 0 0 0]
def tX6_colours : List av_I := [av_k 0 1 (.iconst 0) 0, av_a 1 1 (.istore_n 1), av_k 2 1 (.iconst (-1)) (-1), av_a 3 1 (.istore_n 2), av_a 4 1 (.aload_n 0), av_f 5 3 (.getfield 19) 6 1 0 64 0, av_f 8 3 (.invokevirtual 215) 8 0 0 54 2, av_k 11 1 (.iconst 0) 0, av_a 12 1 (.istore_n 3), av_a 13 1 (.iload_n 3), av_k 14 1 (.iconst 4) 4, av_b 15 (.if_icmp .ge 55) 70, av_a 18 1 (.aload_n 0), av_f 19 3 (.getfield 26) 6 2 0 65 0, av_a 22 1 (.aload_n 0), av_f 23 3 (.getfield 26) 6 2 0 65 0, av_f 26 3 (.invokevirtual 201) 28 0 1 51 4, av_a 29 1 (.aload_n 0), av_f 30 3 (.getfield 26) 6 2 0 65 0, av_a 33 1 (.iload_n 3), av_f 34 3 (.invokevirtual 274) 34 1 1 111 4, av_a 37 1 .iand, av_f 38 3 (.invokevirtual 231) 38 1 1 91 4, av_a 41 2 (.istore 4), av_a 43 1 (.aload_n 0), av_f 44 3 (.getfield 19) 6 1 0 64 0, av_a 47 2 (.iload 4), av_a 49 1 .i2l, av_f 50 3 (.invokevirtual 225) 9 1 0 55 2, av_a 53 2 (.iload 4), av_a 55 1 (.iload_n 2), av_b 56 (.if_icmp .le 8) 64, av_a 59 2 (.iload 4), av_a 61 1 (.istore_n 2), av_a 62 1 (.iload_n 3), av_a 63 1 (.istore_n 1), av_k 64 3 (.iinc 3 1) 1, av_b 67 (.goto (-54)) 13, av_a 70 1 (.iload_n 1), av_f 71 1 .ireturn 0 0 0 0 0]
def tX6_parties : List av_I := [av_a 0 1 (.aload_n 0), av_f 1 3 (.getfield 26) 6 2 0 65 0, av_f 4 3 (.invokevirtual 201) 28 0 1 51 4, av_a 7 1 (.istore_n 1), av_a 8 1 (.aload_n 0), av_f 9 3 (.getfield 26) 6 2 0 65 0, av_a 12 1 (.iload_n 1), av_f 13 3 (.invokevirtual 231) 38 1 1 91 4, av_a 16 1 (.istore_n 2), av_a 17 1 (.iload_n 2), av_k 18 1 (.iconst 1) 1, av_a 19 1 .iadd, av_a 20 1 (.istore_n 3), av_k 21 1 (.iconst 0) 0, av_a 22 2 (.istore 4), av_k 24 1 (.iconst 0) 0, av_a 25 2 (.istore 5), av_a 27 2 (.iload 5), av_k 29 3 (.sipush 128) 128, av_b 32 (.if_icmp .ge 49) 81, av_a 35 2 (.iload 5), av_a 37 1 (.iload_n 1), av_f 38 3 (.invokestatic 249) 109 2 1 100 6, av_b 41 (.ifCond .eq 34) 75, av_a 44 1 (.iload_n 2), av_k 45 1 (.iconst 2) 2, av_a 46 1 (.aload_n 0), av_f 47 3 (.getfield 26) 6 2 0 65 0, av_a 50 2 (.iload 5), av_f 52 3 (.invokevirtual 231) 38 1 1 91 4, av_a 55 1 .imul, av_a 56 1 .isub, av_f 57 3 (.invokestatic 277) 0 0 12 6 0, av_a 60 2 (.istore 6), av_a 62 2 (.iload 6), av_a 64 1 (.iload_n 3), av_b 65 (.if_icmp .ge 10) 75, av_a 68 2 (.iload 6), av_a 70 1 (.istore_n 3), av_a 71 2 (.iload 5), av_a 73 2 (.istore 4), av_k 75 3 (.iinc 5 1) 1, av_b 78 (.goto (-51)) 27, av_a 81 1 (.aload_n 0), av_a 82 2 (.iload 4), av_a 84 1 .i2l, av_a 85 1 (.aload_n 0), av_f 86 3 (.getfield 26) 6 2 0 65 0, av_a 89 2 (.iload 4), av_f 91 3 (.invokevirtual 231) 38 1 1 91 4, av_a 94 1 .i2l, av_f 95 3 (.invokevirtual 187) 111 2 0 53 6, av_a 98 1 (.iload_n 3), av_f 99 1 .ireturn 0 0 0 0 0]
def tX6_ends : List av_I := [av_a 0 1 (.iload_n 1), av_f 1 3 (.invokestatic 282) 137 1 1 114 6, av_b 4 (.ifCond .eq 25) 29, av_a 7 1 (.iload_n 2), av_f 8 3 (.invokestatic 282) 137 1 1 114 6, av_b 11 (.ifCond .eq 18) 29, av_a 14 1 (.iload_n 3), av_f 15 3 (.invokestatic 282) 137 1 1 114 6, av_b 18 (.ifCond .eq 11) 29, av_a 21 2 (.iload 4), av_f 23 3 (.invokestatic 282) 137 1 1 114 6, av_b 26 (.ifCond .ne 5) 31, av_k 29 1 (.iconst (-1)) (-1), av_f 30 1 .ireturn 0 0 0 0 0, av_a 31 1 (.aload_n 0), av_f 32 3 (.getfield 26) 6 2 0 65 0, av_f 35 3 (.getfield 285) 4 7 0 26 0, av_a 38 1 (.aload_n 0), av_f 39 3 (.getfield 26) 6 2 0 65 0, av_f 42 3 (.invokevirtual 201) 28 0 1 51 4, av_k 45 1 (.iconst (-1)) (-1), av_a 46 1 .ixor, av_a 47 1 .iand, av_a 48 2 (.istore 5), av_k 50 1 (.iconst 0) 0, av_a 51 2 (.istore 6), av_a 53 1 (.aload_n 0), av_f 54 3 (.getfield 19) 6 1 0 64 0, av_f 57 3 (.invokevirtual 215) 8 0 0 54 2, av_k 60 1 (.iconst 0) 0, av_a 61 2 (.istore 7), av_a 63 2 (.iload 7), av_k 65 3 (.sipush 128) 128, av_b 68 (.if_icmp .ge 51) 119, av_a 71 2 (.iload 7), av_a 73 2 (.iload 5), av_f 75 3 (.invokestatic 249) 109 2 1 100 6, av_b 78 (.ifCond .eq 35) 113, av_a 81 1 (.aload_n 0), av_a 82 2 (.iload 7), av_a 84 1 (.iload_n 1), av_a 85 1 (.iload_n 2), av_a 86 1 (.iload_n 3), av_a 87 2 (.iload 4), av_f 89 3 (.invokevirtual 288) 138 5 1 115 6, av_b 92 (.ifCond .eq 21) 113, av_a 95 2 (.iload 6), av_b 97 (.ifCond .ne 13) 110, av_a 100 1 (.aload_n 0), av_f 101 3 (.getfield 19) 6 1 0 64 0, av_a 104 2 (.iload 7), av_a 106 1 .i2l, av_f 107 3 (.invokevirtual 225) 9 1 0 55 2, av_k 110 3 (.iinc 6 1) 1, av_k 113 3 (.iinc 7 1) 1, av_b 116 (.goto (-53)) 63, av_a 119 2 (.iload 6), av_f 121 1 .ireturn 0 0 0 0 0]
def tX6_just : List av_I := [av_a 0 1 (.iload_n 1), av_b 1 (.ifCond .lt 10) 11, av_a 4 1 (.iload_n 1), av_k 5 3 (.sipush 9999) 9999, av_b 8 (.if_icmp .le 5) 13, av_k 11 1 (.iconst (-1)) (-1), av_f 12 1 .ireturn 0 0 0 0 0, av_k 13 2 (.bipush 8) 8, av_a 15 1 (.istore_n 2), av_k 16 1 (.iconst 0) 0, av_a 17 1 (.istore_n 3), av_k 18 1 (.iconst 0) 0, av_a 19 2 (.istore 4), av_k 21 1 (.iconst 0) 0, av_a 22 2 (.istore 5), av_a 24 2 (.iload 5), av_k 26 3 (.sipush 128) 128, av_b 29 (.if_icmp .ge 58) 87, av_a 32 2 (.iload 5), av_a 34 1 (.aload_n 0), av_f 35 3 (.getfield 26) 6 2 0 65 0, av_f 38 3 (.getfield 285) 4 7 0 26 0, av_f 41 3 (.invokestatic 249) 109 2 1 100 6, av_b 44 (.ifCond .eq 37) 81, av_a 47 1 (.aload_n 0), av_f 48 3 (.getfield 26) 6 2 0 65 0, av_a 51 2 (.iload 5), av_f 53 3 (.invokevirtual 292) 39 1 1 117 4, av_a 56 1 (.iload_n 1), av_b 57 (.if_icmp .ne 24) 81, av_k 60 3 (.iinc 4 1) 1, av_a 63 2 (.iload 5), av_f 65 3 (.invokestatic 252) 275 1 1 52 8, av_a 68 1 (.iload_n 2), av_b 69 (.if_icmp .ge 12) 81, av_a 72 2 (.iload 5), av_f 74 3 (.invokestatic 252) 275 1 1 52 8, av_a 77 1 (.istore_n 2), av_a 78 2 (.iload 5), av_a 80 1 (.istore_n 3), av_k 81 3 (.iinc 5 1) 1, av_b 84 (.goto (-60)) 24, av_a 87 2 (.iload 4), av_b 89 (.ifCond .ne 6) 95, av_k 92 2 (.bipush (-2)) (-2), av_f 94 1 .ireturn 0 0 0 0 0, av_a 95 1 (.aload_n 0), av_a 96 1 (.iload_n 3), av_a 97 1 .i2l, av_a 98 2 (.iload 4), av_a 100 1 .i2l, av_f 101 3 (.invokevirtual 187) 111 2 0 53 6, av_a 104 1 (.iload_n 2), av_f 105 1 .ireturn 0 0 0 0 0]
def tX6_seen : List av_I := [av_a 0 1 (.aload_n 0), av_f 1 3 (.getfield 26) 6 2 0 65 0, av_a 4 1 (.iload_n 1), av_f 5 3 (.invokevirtual 99) 26 1 1 60 4, av_b 8 (.ifCond .eq 14) 22, av_a 11 1 (.iload_n 3), av_f 12 3 (.invokestatic 295) 105 1 1 119 6, av_b 15 (.ifCond .eq 7) 22, av_k 18 1 (.iconst 1) 1, av_b 19 (.goto 4) 23, av_k 22 1 (.iconst 0) 0, av_a 23 2 (.istore 4), av_a 25 2 (.iload 4), av_b 27 (.ifCond .eq 15) 42, av_a 30 1 (.iload_n 2), av_k 31 2 (.bipush (-99)) (-99), av_b 33 (.if_icmp .lt 9) 42, av_a 36 1 (.iload_n 2), av_k 37 2 (.bipush 99) 99, av_b 39 (.if_icmp .le 5) 44, av_k 42 1 (.iconst (-1)) (-1), av_f 43 1 .ireturn 0 0 0 0 0, av_a 44 1 (.aload_n 0), av_f 45 3 (.getfield 55) 6 7 0 70 0, av_a 48 1 (.iload_n 1), av_a 49 1 (.iload_n 2), av_a 50 1 (.iload_n 3), av_f 51 3 (.invokevirtual 298) 0 3 1 120 0, av_f 54 1 .ireturn 0 0 0 0 0]
def tX6_forget : List av_I := [av_a 0 1 (.aload_n 0), av_f 1 3 (.getfield 55) 6 7 0 70 0, av_f 4 3 (.invokevirtual 300) 1 0 1 122 0, av_f 7 1 .ireturn 0 0 0 0 0]
def tX6_guess : List av_I := [av_k 0 1 (.iconst 0) 0, av_a 1 1 (.istore_n 1), av_k 2 1 (.iconst 0) 0, av_a 3 1 (.istore_n 2), av_k 4 1 (.iconst 0) 0, av_a 5 1 (.istore_n 3), av_k 6 1 (.iconst 0) 0, av_a 7 2 (.istore 4), av_a 9 2 (.iload 4), av_k 11 2 (.bipush 60) 60, av_b 13 (.if_icmp .ge 31) 44, av_a 16 1 (.aload_n 0), av_a 17 2 (.iload 4), av_f 19 3 (.invokevirtual 303) 139 1 1 124 6, av_b 22 (.ifCond .eq 16) 38, av_a 25 1 (.iload_n 1), av_b 26 (.ifCond .ne 6) 32, av_a 29 2 (.iload 4), av_a 31 1 (.istore_n 2), av_a 32 2 (.iload 4), av_a 34 1 (.istore_n 3), av_k 35 3 (.iinc 1 1) 1, av_k 38 3 (.iinc 4 1) 1, av_b 41 (.goto (-32)) 9, av_a 44 1 (.aload_n 0), av_a 45 1 (.aload_n 0), av_a 46 1 (.aload_n 0), av_f 47 3 (.getfield 26) 6 2 0 65 0, av_f 50 3 (.getfield 184) 4 10 0 32 0, av_f 53 3 (.invokevirtual 303) 139 1 1 124 6, av_b 56 (.ifCond .eq 7) 63, av_l 59 1 (.lconst 1) 1 0, av_b 60 (.goto 4) 64, av_l 63 1 (.lconst 0) 0 0, av_f 64 3 (.invokevirtual 229) 110 1 0 88 6, av_a 67 1 (.iload_n 1), av_b 68 (.ifCond .le 21) 89, av_a 71 1 (.aload_n 0), av_f 72 3 (.getfield 19) 6 1 0 64 0, av_a 75 1 (.iload_n 2), av_a 76 1 .i2l, av_f 77 3 (.invokevirtual 225) 9 1 0 55 2, av_a 80 1 (.aload_n 0), av_f 81 3 (.getfield 19) 6 1 0 64 0, av_a 84 1 (.iload_n 3), av_a 85 1 .i2l, av_f 86 3 (.invokevirtual 225) 9 1 0 55 2, av_a 89 1 (.iload_n 1), av_f 90 1 .ireturn 0 0 0 0 0]
def tX6_looks : List av_I := [av_a 0 1 (.aload_n 0), av_f 1 3 (.invokevirtual 306) 140 0 1 127 6, av_a 4 1 (.istore_n 1), av_a 5 1 (.iload_n 1), av_b 6 (.ifCond .eq 13) 19, av_a 9 1 (.aload_n 0), av_f 10 3 (.getfield 26) 6 2 0 65 0, av_f 13 3 (.getfield 133) 4 6 0 24 0, av_b 16 (.ifCond .ne 6) 22, av_k 19 2 (.bipush (-2)) (-2), av_f 21 1 .ireturn 0 0 0 0 0, av_a 22 1 (.iload_n 1), av_k 23 1 (.iconst 1) 1, av_a 24 1 .iadd, av_a 25 1 (.istore_n 2), av_k 26 1 (.iconst 0) 0, av_a 27 1 (.istore_n 3), av_k 28 1 (.iconst 0) 0, av_a 29 2 (.istore 4), av_a 31 2 (.iload 4), av_a 33 1 (.aload_n 0), av_f 34 3 (.getfield 26) 6 2 0 65 0, av_f 37 3 (.getfield 133) 4 6 0 24 0, av_b 40 (.if_icmp .ge 84) 124, av_k 43 2 (.bipush (-99)) (-99), av_a 45 2 (.istore 5), av_a 47 2 (.iload 5), av_k 49 2 (.bipush 99) 99, av_b 51 (.if_icmp .gt 67) 118, av_a 54 1 (.aload_n 0), av_f 55 3 (.getfield 65) 6 10 0 73 0, av_a 58 2 (.iload 5), av_a 60 1 (.aload_n 0), av_f 61 3 (.getfield 26) 6 2 0 65 0, av_a 64 2 (.iload 4), av_f 66 3 (.invokevirtual 309) 31 1 1 125 4, av_a 69 1 .iadd, av_k 70 1 (.iconst 0) 0, av_k 71 2 (.bipush 60) 60, av_f 73 3 (.invokestatic 140) 104 3 1 32 6, av_a 76 1 .iaload, av_a 77 2 (.istore 6), av_a 79 2 (.iload 6), av_a 81 1 (.iload_n 1), av_a 82 2 (.iload 6), av_a 84 1 .isub, av_f 85 3 (.invokestatic 312) 0 0 10 2 0, av_a 88 2 (.istore 7), av_a 90 2 (.iload 7), av_a 92 1 (.iload_n 2), av_b 93 (.if_icmp .ge 19) 112, av_a 96 2 (.iload 7), av_a 98 1 (.istore_n 2), av_k 99 3 (.sipush 200) 200, av_a 102 2 (.iload 4), av_a 104 1 .imul, av_k 105 2 (.bipush 99) 99, av_a 107 1 .iadd, av_a 108 2 (.iload 5), av_a 110 1 .iadd, av_a 111 1 (.istore_n 3), av_k 112 3 (.iinc 5 1) 1, av_b 115 (.goto (-68)) 47, av_k 118 3 (.iinc 4 1) 1, av_b 121 (.goto (-90)) 31, av_a 124 1 (.aload_n 0), av_a 125 1 (.iload_n 2), av_a 126 1 .i2l, av_f 127 3 (.invokevirtual 229) 110 1 0 88 6, av_a 130 1 (.iload_n 3), av_f 131 1 .ireturn 0 0 0 0 0]
def tX6_heard : List av_I := [av_a 0 1 (.iload_n 1), av_a 1 1 (.iload_n 2), av_f 2 3 (.invokestatic 315) 141 2 1 129 6, av_b 5 (.ifCond .eq 16) 21, av_a 8 1 (.aload_n 0), av_f 9 3 (.getfield 59) 6 8 0 71 0, av_a 12 1 (.iload_n 1), av_a 13 1 (.iload_n 2), av_k 14 1 (.iconst 1) 1, av_f 15 3 (.invokevirtual 298) 0 3 1 120 0, av_b 18 (.goto 4) 22, av_k 21 1 (.iconst (-1)) (-1), av_f 22 1 .ireturn 0 0 0 0 0]
def tX6_denies : List av_I := [av_a 0 1 (.aload_n 0), av_f 1 3 (.getfield 59) 6 8 0 71 0, av_f 4 3 (.invokevirtual 300) 1 0 1 122 0, av_f 7 1 .ireturn 0 0 0 0 0]
def tX6_fits : List av_I := [av_a 0 1 (.aload_n 0), av_f 1 3 (.invokevirtual 318) 142 0 1 132 6, av_a 4 1 (.istore_n 1), av_a 5 1 (.aload_n 0), av_a 6 1 (.iload_n 1), av_f 7 3 (.invokestatic 252) 275 1 1 52 8, av_a 10 1 .i2l, av_f 11 3 (.invokevirtual 229) 110 1 0 88 6, av_a 14 1 (.iload_n 1), av_f 15 1 .ireturn 0 0 0 0 0]
def tX6_asks : List av_I := [av_a 0 1 (.aload_n 0), av_f 1 3 (.invokevirtual 318) 142 0 1 132 6, av_a 4 1 (.istore_n 1), av_a 5 1 (.iload_n 1), av_f 6 3 (.invokestatic 252) 275 1 1 52 8, av_a 9 1 (.istore_n 2), av_a 10 1 (.iload_n 2), av_b 11 (.ifCond .ne 6) 17, av_k 14 2 (.bipush (-2)) (-2), av_f 16 1 .ireturn 0 0 0 0 0, av_a 17 1 (.iload_n 2), av_k 18 1 (.iconst 1) 1, av_a 19 1 .iadd, av_a 20 1 (.istore_n 3), av_k 21 1 (.iconst 0) 0, av_a 22 2 (.istore 4), av_k 24 1 (.iconst 0) 0, av_a 25 2 (.istore 5), av_a 27 2 (.iload 5), av_k 29 2 (.bipush 50) 50, av_b 31 (.if_icmp .ge 72) 103, av_a 34 2 (.iload 5), av_k 36 2 (.bipush 10) 10, av_a 38 1 .idiv, av_a 39 2 (.istore 6), av_a 41 2 (.iload 5), av_k 43 2 (.bipush 10) 10, av_a 45 1 .irem, av_a 46 2 (.istore 7), av_a 48 2 (.iload 6), av_a 50 2 (.iload 7), av_f 52 3 (.invokestatic 315) 141 2 1 129 6, av_b 55 (.ifCond .eq 42) 97, av_a 58 1 (.iload_n 1), av_a 59 1 (.aload_n 0), av_a 60 2 (.iload 6), av_a 62 2 (.iload 7), av_f 64 3 (.invokevirtual 321) 143 2 1 133 6, av_a 67 1 .iand, av_f 68 3 (.invokestatic 252) 275 1 1 52 8, av_a 71 2 (.istore 8), av_a 73 2 (.iload 8), av_a 75 1 (.iload_n 2), av_a 76 2 (.iload 8), av_a 78 1 .isub, av_f 79 3 (.invokestatic 312) 0 0 10 2 0, av_a 82 2 (.istore 9), av_a 84 2 (.iload 9), av_a 86 1 (.iload_n 3), av_b 87 (.if_icmp .ge 10) 97, av_a 90 2 (.iload 9), av_a 92 1 (.istore_n 3), av_a 93 2 (.iload 5), av_a 95 2 (.istore 4), av_k 97 3 (.iinc 5 1) 1, av_b 100 (.goto (-73)) 27, av_a 103 1 (.aload_n 0), av_a 104 1 (.iload_n 3), av_a 105 1 .i2l, av_f 106 3 (.invokevirtual 229) 110 1 0 88 6, av_a 109 2 (.iload 4), av_f 111 1 .ireturn 0 0 0 0 0]
def tX6_odds : List av_I := [av_a 0 1 (.iload_n 1), av_b 1 (.ifCond .lt 19) 20, av_a 4 1 (.iload_n 1), av_k 5 2 (.bipush 10) 10, av_b 7 (.if_icmp .gt 13) 20, av_a 10 1 (.iload_n 2), av_b 11 (.ifCond .lt 9) 20, av_a 14 1 (.iload_n 2), av_k 15 2 (.bipush 63) 63, av_b 17 (.if_icmp .le 5) 22, av_k 20 1 (.iconst (-1)) (-1), av_f 21 1 .ireturn 0 0 0 0 0, av_a 22 1 (.aload_n 0), av_f 23 3 (.getfield 26) 6 2 0 65 0, av_f 26 3 (.invokevirtual 201) 28 0 1 51 4, av_a 29 1 (.istore_n 3), av_a 30 1 (.iload_n 3), av_f 31 3 (.invokestatic 252) 275 1 1 52 8, av_a 34 2 (.istore 4), av_l 36 1 (.lconst 0) 0 0, av_a 37 2 (.lstore 5), av_k 39 1 (.iconst 0) 0, av_a 40 2 (.istore 7), av_a 42 2 (.iload 7), av_k 44 3 (.sipush 128) 128, av_b 47 (.if_icmp .ge 64) 111, av_a 50 2 (.iload 7), av_a 52 1 (.iload_n 3), av_f 53 3 (.invokestatic 249) 109 2 1 100 6, av_b 56 (.ifCond .eq 49) 105, av_a 59 1 (.aload_n 0), av_f 60 3 (.getfield 26) 6 2 0 65 0, av_a 63 2 (.iload 7), av_f 65 3 (.invokevirtual 231) 38 1 1 91 4, av_a 68 1 (.iload_n 2), av_b 69 (.if_icmp .lt 36) 105, av_a 72 2 (.iload 7), av_f 74 3 (.invokestatic 252) 275 1 1 52 8, av_a 77 2 (.istore 8), av_a 79 2 (.lload 5), av_k 81 2 (.bipush 10) 10, av_a 83 1 (.iload_n 1), av_a 84 1 .isub, av_a 85 1 .i2l, av_a 86 2 (.iload 8), av_f 88 3 (.invokestatic 324) 136 2 2 138 6, av_a 91 1 (.iload_n 1), av_a 92 1 .i2l, av_a 93 2 (.iload 4), av_a 95 2 (.iload 8), av_a 97 1 .isub, av_f 98 3 (.invokestatic 324) 136 2 2 138 6, av_a 101 1 .lmul, av_a 102 1 .ladd, av_a 103 2 (.lstore 5), av_k 105 3 (.iinc 7 1) 1, av_b 108 (.goto (-66)) 42, av_a 111 1 (.aload_n 0), av_a 112 2 (.lload 5), av_l 114 3 (.ldc2_w 328) 10 0, av_a 117 2 (.iload 4), av_f 119 3 (.invokestatic 324) 136 2 2 138 6, av_f 122 3 (.invokevirtual 267) 112 2 0 107 6, av_k 125 1 (.iconst 0) 0, av_f 126 1 .ireturn 0 0 0 0 0]
def tX6_saw : List av_I := [av_a 0 1 (.iload_n 1), av_b 1 (.ifCond .lt 24) 25, av_a 4 1 (.iload_n 1), av_k 5 2 (.bipush 20) 20, av_b 7 (.if_icmp .gt 18) 25, av_a 10 1 (.iload_n 2), av_k 11 1 (.iconst 1) 1, av_b 12 (.if_icmp .lt 13) 25, av_a 15 1 (.iload_n 2), av_k 16 2 (.bipush 9) 9, av_b 18 (.if_icmp .gt 7) 25, av_k 21 1 (.iconst 1) 1, av_b 22 (.goto 4) 26, av_k 25 1 (.iconst 0) 0, av_a 26 2 (.istore 4), av_a 28 2 (.iload 4), av_b 30 (.ifCond .eq 23) 53, av_a 33 1 (.iload_n 3), av_f 34 3 (.invokestatic 295) 105 1 1 119 6, av_b 37 (.ifCond .eq 16) 53, av_a 40 1 (.aload_n 0), av_f 41 3 (.getfield 62) 6 9 0 72 0, av_a 44 1 (.iload_n 1), av_a 45 1 (.iload_n 2), av_a 46 1 (.iload_n 3), av_f 47 3 (.invokevirtual 298) 0 3 1 120 0, av_b 50 (.goto 4) 54, av_k 53 1 (.iconst (-1)) (-1), av_f 54 1 .ireturn 0 0 0 0 0]
def tX6_clears : List av_I := [av_a 0 1 (.aload_n 0), av_f 1 3 (.getfield 62) 6 9 0 72 0, av_f 4 3 (.invokevirtual 300) 1 0 1 122 0, av_f 7 1 .ireturn 0 0 0 0 0]
def tX6_laws : List av_I := [av_k 0 1 (.iconst 0) 0, av_a 1 1 (.istore_n 1), av_a 2 1 (.aload_n 0), av_f 3 3 (.getfield 19) 6 1 0 64 0, av_f 6 3 (.invokevirtual 215) 8 0 0 54 2, av_k 9 1 (.iconst 0) 0, av_a 10 1 (.istore_n 2), av_a 11 1 (.iload_n 2), av_k 12 2 (.bipush 40) 40, av_b 14 (.if_icmp .ge 48) 62, av_a 17 1 (.aload_n 0), av_a 18 1 (.iload_n 2), av_f 19 3 (.invokevirtual 330) 147 1 1 142 6, av_b 22 (.ifCond .eq 34) 56, av_a 25 1 (.iload_n 1), av_b 26 (.ifCond .ne 27) 53, av_a 29 1 (.aload_n 0), av_f 30 3 (.getfield 19) 6 1 0 64 0, av_a 33 1 (.iload_n 2), av_f 34 3 (.invokestatic 333) 144 1 1 144 6, av_a 37 1 .i2l, av_f 38 3 (.invokevirtual 225) 9 1 0 55 2, av_a 41 1 (.aload_n 0), av_f 42 3 (.getfield 19) 6 1 0 64 0, av_a 45 1 (.iload_n 2), av_f 46 3 (.invokestatic 336) 145 1 1 145 6, av_a 49 1 .i2l, av_f 50 3 (.invokevirtual 225) 9 1 0 55 2, av_k 53 3 (.iinc 1 1) 1, av_k 56 3 (.iinc 2 1) 1, av_b 59 (.goto (-48)) 11, av_a 62 1 (.iload_n 1), av_f 63 1 .ireturn 0 0 0 0 0]
def tX6_tries : List av_I := [av_a 0 1 (.aload_n 0), av_f 1 3 (.invokevirtual 339) 148 0 2 147 6, av_a 4 1 (.lstore_n 1), av_a 5 1 (.lload_n 1), av_f 6 3 (.invokestatic 343) 276 1 1 148 9, av_a 9 1 (.istore_n 3), av_a 10 1 (.iload_n 3), av_b 11 (.ifCond .ne 6) 17, av_k 14 2 (.bipush (-2)) (-2), av_f 16 1 .ireturn 0 0 0 0 0, av_a 17 1 (.iload_n 3), av_k 18 1 (.iconst 1) 1, av_a 19 1 .iadd, av_a 20 2 (.istore 4), av_k 22 1 (.iconst 0) 0, av_a 23 2 (.istore 5), av_k 25 1 (.iconst 0) 0, av_a 26 2 (.istore 6), av_a 28 2 (.iload 6), av_k 30 2 (.bipush 20) 20, av_b 32 (.if_icmp .gt 71) 103, av_k 35 1 (.iconst 1) 1, av_a 36 2 (.istore 7), av_a 38 2 (.iload 7), av_k 40 2 (.bipush 9) 9, av_b 42 (.if_icmp .gt 55) 97, av_a 45 1 (.lload_n 1), av_a 46 2 (.iload 6), av_a 48 2 (.iload 7), av_f 50 3 (.invokestatic 348) 149 2 2 149 6, av_a 53 1 .land, av_f 54 3 (.invokestatic 343) 276 1 1 148 9, av_a 57 2 (.istore 8), av_a 59 2 (.iload 8), av_a 61 1 (.iload_n 3), av_a 62 2 (.iload 8), av_a 64 1 .isub, av_f 65 3 (.invokestatic 312) 0 0 10 2 0, av_a 68 2 (.istore 9), av_a 70 2 (.iload 9), av_a 72 2 (.iload 4), av_b 74 (.if_icmp .ge 17) 91, av_a 77 2 (.iload 9), av_a 79 2 (.istore 4), av_k 81 2 (.bipush 10) 10, av_a 83 2 (.iload 6), av_a 85 1 .imul, av_a 86 2 (.iload 7), av_a 88 1 .iadd, av_a 89 2 (.istore 5), av_k 91 3 (.iinc 7 1) 1, av_b 94 (.goto (-56)) 38, av_k 97 3 (.iinc 6 1) 1, av_b 100 (.goto (-72)) 28, av_a 103 1 (.aload_n 0), av_a 104 2 (.iload 4), av_a 106 1 .i2l, av_f 107 3 (.invokevirtual 229) 110 1 0 88 6, av_a 110 2 (.iload 5), av_f 112 1 .ireturn 0 0 0 0 0]
def tX6_letting : List av_I := [av_a 0 1 (.iload_n 1), av_b 1 (.ifCond .lt 9) 10, av_a 4 1 (.iload_n 1), av_k 5 2 (.bipush 60) 60, av_b 7 (.if_icmp .le 5) 12, av_k 10 1 (.iconst (-1)) (-1), av_f 11 1 .ireturn 0 0 0 0 0, av_a 12 1 (.aload_n 0), av_a 13 1 (.iload_n 1), av_f 14 3 (.invokevirtual 352) 150 1 0 151 6, av_a 17 1 (.aload_n 0), av_f 18 3 (.getfield 19) 6 1 0 64 0, av_f 21 3 (.invokevirtual 215) 8 0 0 54 2, av_k 24 1 (.iconst 1) 1, av_a 25 1 (.istore_n 2), av_a 26 1 (.iload_n 2), av_k 27 1 (.iconst 2) 2, av_b 28 (.if_icmp .gt 53) 81, av_k 31 1 (.iconst 0) 0, av_a 32 1 (.istore_n 3), av_a 33 1 (.iload_n 3), av_a 34 1 (.iload_n 1), av_a 35 1 (.iload_n 2), av_a 36 1 .isub, av_b 37 (.if_icmp .gt 38) 75, av_a 40 1 (.aload_n 0), av_f 41 3 (.getfield 69) 6 11 0 74 0, av_a 44 1 (.iload_n 3), av_a 45 1 .iaload, av_a 46 1 (.aload_n 0), av_f 47 3 (.getfield 69) 6 11 0 74 0, av_a 50 1 (.iload_n 1), av_a 51 1 (.iload_n 2), av_a 52 1 .isub, av_a 53 1 (.iload_n 3), av_a 54 1 .isub, av_a 55 1 .iaload, av_b 56 (.if_icmp .ne 13) 69, av_a 59 1 (.aload_n 0), av_a 60 1 (.iload_n 2), av_a 61 1 .i2l, av_a 62 1 (.iload_n 3), av_a 63 1 .i2l, av_f 64 3 (.invokevirtual 187) 111 2 0 53 6, av_k 67 1 (.iconst 1) 1, av_f 68 1 .ireturn 0 0 0 0 0, av_k 69 3 (.iinc 3 1) 1, av_b 72 (.goto (-39)) 33, av_k 75 3 (.iinc 2 1) 1, av_b 78 (.goto (-52)) 26, av_k 81 1 (.iconst 0) 0, av_f 82 1 .ireturn 0 0 0 0 0]
def tX6_law : List av_I := [av_a 0 1 (.aload_n 0), av_f 1 3 (.getfield 40) 6 5 0 68 0, av_a 4 1 (.aload_n 0), av_f 5 3 (.getfield 12) 6 0 0 63 0, av_f 8 3 (.invokevirtual 91) 11 1 1 15 3, av_a 11 1 (.istore_n 1), av_a 12 1 (.aload_n 0), av_f 13 3 (.getfield 12) 6 0 0 63 0, av_k 16 1 (.iconst 0) 0, av_f 17 3 (.putfield 80) 5 1 0 3 0, av_a 20 1 (.iload_n 1), av_b 21 (.ifCond .lt 9) 30, av_k 24 3 (.sipush (-10000)) (-10000), av_a 27 1 (.iload_n 1), av_a 28 1 .isub, av_f 29 1 .ireturn 0 0 0 0 0, av_a 30 1 (.aload_n 0), av_f 31 3 (.getfield 30) 6 3 0 66 0, av_a 34 1 (.aload_n 0), av_f 35 3 (.getfield 26) 6 2 0 65 0, av_f 38 3 (.invokevirtual 207) 45 1 0 80 4, av_a 41 1 (.aload_n 0), av_f 42 3 (.getfield 30) 6 3 0 66 0, av_a 45 1 (.aload_n 0), av_f 46 3 (.getfield 40) 6 5 0 68 0, av_k 49 2 (.bipush 20) 20, av_f 51 3 (.invokevirtual 355) 42 2 0 81 4, av_a 54 1 (.aload_n 0), av_f 55 3 (.getfield 30) 6 3 0 66 0, av_f 58 3 (.invokevirtual 201) 28 0 1 51 4, av_f 61 3 (.invokestatic 252) 275 1 1 52 8, av_a 64 1 (.istore_n 2), av_a 65 1 (.aload_n 0), av_f 66 3 (.getfield 30) 6 3 0 66 0, av_f 69 3 (.getfield 184) 4 10 0 32 0, av_a 72 1 (.istore_n 3), av_a 73 1 (.aload_n 0), av_k 74 2 (.bipush 20) 20, av_f 76 3 (.invokevirtual 198) 114 1 0 79 6, av_a 79 1 (.aload_n 0), av_f 80 3 (.getfield 30) 6 3 0 66 0, av_f 83 3 (.invokevirtual 201) 28 0 1 51 4, av_f 86 3 (.invokestatic 252) 275 1 1 52 8, av_a 89 2 (.istore 4), av_a 91 1 (.aload_n 0), av_a 92 1 (.iload_n 2), av_a 93 1 .i2l, av_a 94 2 (.iload 4), av_a 96 1 .i2l, av_f 97 3 (.invokevirtual 187) 111 2 0 53 6, av_a 100 1 (.aload_n 0), av_f 101 3 (.getfield 19) 6 1 0 64 0, av_a 104 1 (.iload_n 3), av_a 105 1 .i2l, av_f 106 3 (.invokevirtual 225) 9 1 0 55 2, av_a 109 1 (.aload_n 0), av_f 110 3 (.getfield 19) 6 1 0 64 0, av_a 113 1 (.aload_n 0), av_f 114 3 (.getfield 30) 6 3 0 66 0, av_f 117 3 (.getfield 184) 4 10 0 32 0, av_a 120 1 .i2l, av_f 121 3 (.invokevirtual 225) 9 1 0 55 2, av_a 124 1 (.iload_n 2), av_a 125 2 (.iload 4), av_a 127 1 .isub, av_f 128 1 .ireturn 0 0 0 0 0]
def tX6_wars : List av_I := [av_a 0 1 (.iload_n 1), av_b 1 (.ifCond .lt 9) 10, av_a 4 1 (.iload_n 1), av_k 5 2 (.bipush 20) 20, av_b 7 (.if_icmp .le 5) 12, av_k 10 1 (.iconst (-1)) (-1), av_f 11 1 .ireturn 0 0 0 0 0, av_k 12 1 (.iconst 0) 0, av_a 13 1 (.istore_n 2), av_a 14 1 (.aload_n 0), av_f 15 3 (.getfield 19) 6 1 0 64 0, av_f 18 3 (.invokevirtual 215) 8 0 0 54 2, av_k 21 1 (.iconst 0) 0, av_a 22 1 (.istore_n 3), av_a 23 1 (.iload_n 3), av_k 24 2 (.bipush 9) 9, av_b 26 (.if_icmp .gt 61) 87, av_k 29 1 (.iconst 0) 0, av_a 30 2 (.istore 4), av_a 32 2 (.iload 4), av_k 34 2 (.bipush 9) 9, av_b 36 (.if_icmp .gt 45) 81, av_a 39 1 (.iload_n 3), av_a 40 2 (.iload 4), av_a 42 1 (.iload_n 1), av_f 43 3 (.invokestatic 359) 152 3 1 155 6, av_b 46 (.ifCond .eq 29) 75, av_a 49 2 (.iload 4), av_a 51 1 (.iload_n 3), av_a 52 1 (.iload_n 1), av_f 53 3 (.invokestatic 359) 152 3 1 155 6, av_b 56 (.ifCond .eq 19) 75, av_a 59 1 (.iload_n 2), av_b 60 (.ifCond .ne 12) 72, av_a 63 1 (.aload_n 0), av_a 64 1 (.iload_n 3), av_a 65 1 .i2l, av_a 66 2 (.iload 4), av_a 68 1 .i2l, av_f 69 3 (.invokevirtual 187) 111 2 0 53 6, av_k 72 3 (.iinc 2 1) 1, av_k 75 3 (.iinc 4 1) 1, av_b 78 (.goto (-46)) 32, av_k 81 3 (.iinc 3 1) 1, av_b 84 (.goto (-61)) 23, av_a 87 1 (.iload_n 2), av_f 88 1 .ireturn 0 0 0 0 0]
def tX6_years : List av_I := [av_a 0 1 (.iload_n 2), av_f 1 3 (.invokestatic 237) 107 1 1 94 6, av_b 4 (.ifCond .ne 5) 9, av_k 7 1 (.iconst (-1)) (-1), av_f 8 1 .ireturn 0 0 0 0 0, av_a 9 1 (.aload_n 0), av_f 10 3 (.getfield 30) 6 3 0 66 0, av_a 13 1 (.aload_n 0), av_f 14 3 (.getfield 26) 6 2 0 65 0, av_f 17 3 (.invokevirtual 207) 45 1 0 80 4, av_a 20 1 (.aload_n 0), av_a 21 1 (.iload_n 1), av_f 22 3 (.putfield 362) 6 13 0 76 0, av_k 25 1 (.iconst 0) 0, av_a 26 1 (.istore_n 3), av_a 27 1 (.iload_n 3), av_a 28 1 (.iload_n 2), av_b 29 (.if_icmp .ge 13) 42, av_a 32 1 (.aload_n 0), av_f 33 3 (.invokevirtual 365) 155 0 0 158 6, av_k 36 3 (.iinc 3 1) 1, av_b 39 (.goto (-12)) 27, av_a 42 1 (.aload_n 0), av_a 43 1 (.aload_n 0), av_f 44 3 (.getfield 30) 6 3 0 66 0, av_f 47 3 (.invokevirtual 201) 28 0 1 51 4, av_a 50 1 .i2l, av_a 51 1 (.aload_n 0), av_f 52 3 (.getfield 30) 6 3 0 66 0, av_f 55 3 (.invokevirtual 368) 40 0 1 160 4, av_a 58 1 .i2l, av_f 59 3 (.invokevirtual 187) 111 2 0 53 6, av_a 62 1 (.aload_n 0), av_f 63 3 (.getfield 30) 6 3 0 66 0, av_f 66 3 (.getfield 184) 4 10 0 32 0, av_f 69 1 .ireturn 0 0 0 0 0]
def tX6_keep : List av_I := [av_a 0 1 (.aload_n 0), av_f 1 3 (.getfield 46) 6 6 0 69 0, av_a 4 1 (.iload_n 1), av_a 5 1 (.aload_n 0), av_f 6 3 (.getfield 26) 6 2 0 65 0, av_f 9 3 (.invokevirtual 371) 5 2 1 162 1, av_f 12 1 .ireturn 1 0 0 0 0]
def tX6_again : List av_I := [av_a 0 1 (.aload_n 0), av_f 1 3 (.getfield 46) 6 6 0 69 0, av_a 4 1 (.iload_n 1), av_a 5 1 (.aload_n 0), av_f 6 3 (.getfield 26) 6 2 0 65 0, av_f 9 3 (.invokevirtual 375) 6 2 1 164 1, av_f 12 1 .ireturn 1 0 0 0 0]
def tX6_count : List av_I := [av_a 0 1 (.iload_n 1), av_w 1 67 (.tableswitch 171 0 12 #[67, 75, 83, 91, 99, 107, 115, 123, 131, 139, 147, 155, 163]) 172 [(0, 68), (1, 76), (2, 84), (3, 92), (4, 100), (5, 108), (6, 116), (7, 124), (8, 132), (9, 140), (10, 148), (11, 156), (12, 164)], av_a 68 1 (.aload_n 0), av_f 69 3 (.getfield 26) 6 2 0 65 0, av_f 72 3 (.getfield 133) 4 6 0 24 0, av_f 75 1 .ireturn 0 0 0 0 0, av_a 76 1 (.aload_n 0), av_f 77 3 (.getfield 26) 6 2 0 65 0, av_f 80 3 (.invokevirtual 201) 28 0 1 51 4, av_f 83 1 .ireturn 0 0 0 0 0, av_a 84 1 (.aload_n 0), av_f 85 3 (.getfield 26) 6 2 0 65 0, av_f 88 3 (.getfield 184) 4 10 0 32 0, av_f 91 1 .ireturn 0 0 0 0 0, av_a 92 1 (.aload_n 0), av_f 93 3 (.getfield 26) 6 2 0 65 0, av_f 96 3 (.getfield 246) 4 11 0 35 0, av_f 99 1 .ireturn 0 0 0 0 0, av_a 100 1 (.aload_n 0), av_f 101 3 (.getfield 26) 6 2 0 65 0, av_f 104 3 (.getfield 378) 4 12 0 38 0, av_f 107 1 .ireturn 0 0 0 0 0, av_a 108 1 (.aload_n 0), av_f 109 3 (.getfield 26) 6 2 0 65 0, av_f 112 3 (.getfield 218) 4 8 0 28 0, av_f 115 1 .ireturn 0 0 0 0 0, av_a 116 1 (.aload_n 0), av_f 117 3 (.getfield 26) 6 2 0 65 0, av_f 120 3 (.invokevirtual 368) 40 0 1 160 4, av_f 123 1 .ireturn 0 0 0 0 0, av_a 124 1 (.aload_n 0), av_f 125 3 (.getfield 55) 6 7 0 70 0, av_f 128 3 (.getfield 381) 0 4 0 62 0, av_f 131 1 .ireturn 0 0 0 0 0, av_a 132 1 (.aload_n 0), av_f 133 3 (.getfield 62) 6 9 0 72 0, av_f 136 3 (.getfield 381) 0 4 0 62 0, av_f 139 1 .ireturn 0 0 0 0 0, av_a 140 1 (.aload_n 0), av_f 141 3 (.getfield 59) 6 8 0 71 0, av_f 144 3 (.getfield 381) 0 4 0 62 0, av_f 147 1 .ireturn 0 0 0 0 0, av_a 148 1 (.aload_n 0), av_f 149 3 (.getfield 46) 6 6 0 69 0, av_f 152 3 (.getfield 195) 1 3 0 52 0, av_f 155 1 .ireturn 0 0 0 0 0, av_a 156 1 (.aload_n 0), av_f 157 3 (.getfield 19) 6 1 0 64 0, av_f 160 3 (.getfield 382) 2 1 0 7 0, av_f 163 1 .ireturn 0 0 0 0 0, av_a 164 1 (.aload_n 0), av_f 165 3 (.getfield 12) 6 0 0 63 0, av_f 168 3 (.getfield 80) 5 1 0 3 0, av_f 171 1 .ireturn 0 0 0 0 0, av_k 172 2 (.bipush (-100)) (-100), av_f 174 1 .ireturn 0 0 0 0 0]
def tX6_row : List av_I := [av_a 0 1 (.iload_n 1), av_b 1 (.ifCond .lt 26) 27, av_a 4 1 (.iload_n 1), av_a 5 1 (.aload_n 0), av_f 6 3 (.getfield 19) 6 1 0 64 0, av_f 9 3 (.getfield 382) 2 1 0 7 0, av_b 12 (.if_icmp .ge 15) 27, av_a 15 1 (.iload_n 1), av_a 16 1 (.aload_n 0), av_f 17 3 (.getfield 19) 6 1 0 64 0, av_f 20 3 (.getfield 383) 2 0 0 5 0, av_a 23 1 .arraylength, av_b 24 (.if_icmp .lt 11) 35, av_a 27 3 (.new 102), av_a 30 1 .dup, av_a 31 3 (.invokespecial 104), av_a 34 1 .athrow, av_a 35 1 (.aload_n 0), av_f 36 3 (.getfield 19) 6 1 0 64 0, av_f 39 3 (.getfield 383) 2 0 0 5 0, av_a 42 1 (.iload_n 1), av_a 43 1 .laload, av_a 44 1 .lreturn]
def tX6_within : List av_I := [av_a 0 1 (.iload_n 1), av_a 1 1 (.iload_n 2), av_a 2 1 (.iload_n 0), av_f 3 3 (.invokestatic 387) 0 0 11 0 0, av_f 6 3 (.invokestatic 312) 0 0 10 2 0, av_f 9 1 .ireturn 0 0 0 0 0]
def tX6_isBit : List av_I := [av_a 0 1 (.iload_n 0), av_b 1 (.ifCond .eq 8) 9, av_a 4 1 (.iload_n 0), av_k 5 1 (.iconst 1) 1, av_b 6 (.if_icmp .ne 7) 13, av_k 9 1 (.iconst 1) 1, av_b 10 (.goto 4) 14, av_k 13 1 (.iconst 0) 0, av_f 14 1 .ireturn 1 0 0 0 0]
def tX6_isDigit : List av_I := [av_a 0 1 (.iload_n 0), av_b 1 (.ifCond .lt 13) 14, av_a 4 1 (.iload_n 0), av_k 5 2 (.bipush 9) 9, av_b 7 (.if_icmp .gt 7) 14, av_k 10 1 (.iconst 1) 1, av_b 11 (.goto 4) 15, av_k 14 1 (.iconst 0) 0, av_f 15 1 .ireturn 1 0 0 0 0]
def tX6_isSpan : List av_I := [av_a 0 1 (.iload_n 0), av_k 1 1 (.iconst 1) 1, av_b 2 (.if_icmp .lt 13) 15, av_a 5 1 (.iload_n 0), av_k 6 2 (.bipush 60) 60, av_b 8 (.if_icmp .gt 7) 15, av_k 11 1 (.iconst 1) 1, av_b 12 (.goto 4) 16, av_k 15 1 (.iconst 0) 0, av_f 16 1 .ireturn 1 0 0 0 0]
def tX6_isIn : List av_I := [av_a 0 1 (.iload_n 0), av_a 1 1 (.iload_n 1), av_a 2 1 .ishr, av_k 3 1 (.iconst 1) 1, av_a 4 1 .iand, av_b 5 (.ifCond .eq 7) 12, av_k 8 1 (.iconst 1) 1, av_b 9 (.goto 4) 13, av_k 12 1 (.iconst 0) 0, av_f 13 1 .ireturn 1 0 0 0 0]
def tX6_isWithin : List av_I := [av_a 0 1 (.iload_n 0), av_a 1 1 (.iload_n 1), av_k 2 1 (.iconst (-1)) (-1), av_a 3 1 .ixor, av_a 4 1 .iand, av_b 5 (.ifCond .ne 7) 12, av_k 8 1 (.iconst 1) 1, av_b 9 (.goto 4) 13, av_k 12 1 (.iconst 0) 0, av_f 13 1 .ireturn 1 0 0 0 0]
def tX6_tell : List av_I := [av_a 0 1 (.aload_n 0), av_f 1 3 (.getfield 19) 6 1 0 64 0, av_f 4 3 (.invokevirtual 215) 8 0 0 54 2, av_a 7 1 (.aload_n 0), av_f 8 3 (.getfield 19) 6 1 0 64 0, av_a 11 1 (.lload_n 1), av_f 12 3 (.invokevirtual 225) 9 1 0 55 2, av_a 15 1 .return_]
def tX6_tell_ : List av_I := [av_a 0 1 (.aload_n 0), av_f 1 3 (.getfield 19) 6 1 0 64 0, av_f 4 3 (.invokevirtual 215) 8 0 0 54 2, av_a 7 1 (.aload_n 0), av_f 8 3 (.getfield 19) 6 1 0 64 0, av_a 11 1 (.lload_n 1), av_f 12 3 (.invokevirtual 225) 9 1 0 55 2, av_a 15 1 (.aload_n 0), av_f 16 3 (.getfield 19) 6 1 0 64 0, av_a 19 1 (.lload_n 3), av_f 20 3 (.invokevirtual 225) 9 1 0 55 2, av_a 23 1 .return_]
def tX6_tellFraction : List av_I := [av_a 0 1 (.lload_n 3), av_a 1 2 (.lstore 5), av_a 3 1 (.lload_n 1), av_a 4 2 (.lstore 7), av_k 6 1 (.iconst 0) 0, av_a 7 2 (.istore 9), av_a 9 2 (.iload 9), av_k 11 2 (.bipush 100) 100, av_b 13 (.if_icmp .ge 31) 44, av_a 16 2 (.lload 7), av_l 18 1 (.lconst 0) 0 0, av_a 19 1 .lcmp, av_b 20 (.ifCond .eq 24) 44, av_a 23 2 (.lload 5), av_a 25 2 (.lload 7), av_a 27 1 .lrem, av_a 28 2 (.lstore 10), av_a 30 2 (.lload 7), av_a 32 2 (.lstore 5), av_a 34 2 (.lload 10), av_a 36 2 (.lstore 7), av_k 38 3 (.iinc 9 1) 1, av_b 41 (.goto (-32)) 9, av_a 44 2 (.lload 5), av_l 46 1 (.lconst 0) 0 0, av_a 47 1 .lcmp, av_b 48 (.ifCond .ne 6) 54, av_l 51 1 (.lconst 1) 1 0, av_a 52 2 (.lstore 5), av_a 54 1 (.aload_n 0), av_a 55 1 (.lload_n 1), av_a 56 2 (.lload 5), av_a 58 1 .ldiv, av_a 59 1 (.lload_n 3), av_a 60 2 (.lload 5), av_a 62 1 .ldiv, av_f 63 3 (.invokevirtual 187) 111 2 0 53 6, av_a 66 1 .return_]
def tX6_tellSet : List av_I := [av_a 0 1 (.iload_n 1), av_k 1 2 (.bipush 7) 7, av_b 3 (.if_icmp .le 6) 9, av_k 6 2 (.bipush (-2)) (-2), av_f 8 1 .ireturn 0 0 0 0 0, av_a 9 1 (.aload_n 0), av_a 10 1 (.iload_n 2), av_a 11 1 .i2l, av_f 12 3 (.invokevirtual 229) 110 1 0 88 6, av_a 15 1 (.iload_n 1), av_f 16 1 .ireturn 0 0 0 0 0]
def tX6_foresee : List av_I := [av_a 0 1 (.aload_n 0), av_f 1 3 (.getfield 30) 6 3 0 66 0, av_a 4 1 (.aload_n 0), av_f 5 3 (.getfield 26) 6 2 0 65 0, av_f 8 3 (.invokevirtual 207) 45 1 0 80 4, av_a 11 1 (.aload_n 0), av_f 12 3 (.getfield 30) 6 3 0 66 0, av_a 15 1 (.aload_n 0), av_f 16 3 (.getfield 36) 6 4 0 67 0, av_a 19 1 (.iload_n 1), av_f 20 3 (.invokevirtual 355) 42 2 0 81 4, av_a 23 1 .return_]
def tX6_badLineSign : List av_I := [av_a 0 1 (.aload_n 0), av_f 1 3 (.getfield 12) 6 0 0 63 0, av_f 4 3 (.getfield 80) 5 1 0 3 0, av_k 7 2 (.bipush 48) 48, av_f 9 3 (.invokestatic 387) 0 0 11 0 0, av_a 12 1 (.istore_n 1), av_k 13 1 (.iconst 0) 0, av_a 14 1 (.istore_n 2), av_a 15 1 (.iload_n 2), av_a 16 1 (.iload_n 1), av_b 17 (.if_icmp .ge 19) 36, av_a 20 1 (.aload_n 0), av_a 21 1 (.iload_n 2), av_f 22 3 (.invokevirtual 390) 116 1 1 6 6, av_b 25 (.ifCond .ne 5) 30, av_a 28 1 (.iload_n 2), av_f 29 1 .ireturn 0 0 0 0 0, av_k 30 3 (.iinc 2 1) 1, av_b 33 (.goto (-18)) 15, av_a 36 1 (.iload_n 1), av_b 37 (.ifCond .eq 12) 49, av_a 40 1 (.iload_n 1), av_k 41 2 (.bipush 7) 7, av_a 43 1 .irem, av_k 44 2 (.bipush 6) 6, av_b 46 (.if_icmp .ne 7) 53, av_k 49 1 (.iconst 1) 1, av_b 50 (.goto 4) 54, av_k 53 1 (.iconst 0) 0, av_a 54 1 (.istore_n 2), av_a 55 1 (.iload_n 2), av_b 56 (.ifCond .eq 18) 74, av_a 59 1 (.aload_n 0), av_f 60 3 (.getfield 12) 6 0 0 63 0, av_f 63 3 (.getfield 80) 5 1 0 3 0, av_a 66 1 (.iload_n 1), av_b 67 (.if_icmp .ne 7) 74, av_k 70 1 (.iconst (-1)) (-1), av_b 71 (.goto 4) 75, av_a 74 1 (.iload_n 1), av_f 75 1 .ireturn 0 0 0 0 0]
def tX6_fitsLine : List av_I := [av_a 0 1 (.iload_n 1), av_k 1 2 (.bipush 7) 7, av_a 3 1 .idiv, av_a 4 1 (.istore_n 2), av_a 5 1 (.iload_n 1), av_k 6 2 (.bipush 7) 7, av_a 8 1 .irem, av_w 9 35 (.lookupswitch 106 #[(0, 35), (1, 69), (6, 87)]) 115 [(0, 44), (1, 78), (6, 96)], av_a 44 1 (.aload_n 0), av_f 45 3 (.getfield 26) 6 2 0 65 0, av_f 48 3 (.getfield 133) 4 6 0 24 0, av_a 51 1 (.iload_n 2), av_a 52 1 .iadd, av_k 53 2 (.bipush 7) 7, av_b 55 (.if_icmp .ge 21) 76, av_a 58 1 (.aload_n 0), av_f 59 3 (.getfield 12) 6 0 0 63 0, av_a 62 1 (.iload_n 1), av_f 63 3 (.invokevirtual 175) 50 1 1 7 5, av_f 66 3 (.invokestatic 393) 118 1 1 8 6, av_b 69 (.ifCond .lt 7) 76, av_k 72 1 (.iconst 1) 1, av_b 73 (.goto 4) 77, av_k 76 1 (.iconst 0) 0, av_f 77 1 .ireturn 1 0 0 0 0, av_a 78 1 (.aload_n 0), av_f 79 3 (.getfield 12) 6 0 0 63 0, av_a 82 1 (.iload_n 1), av_f 83 3 (.invokevirtual 396) 51 1 1 9 5, av_k 86 1 (.iconst 1) 1, av_b 87 (.if_icmp .lt 7) 94, av_k 90 1 (.iconst 1) 1, av_b 91 (.goto 4) 95, av_k 94 1 (.iconst 0) 0, av_f 95 1 .ireturn 1 0 0 0 0, av_a 96 1 (.aload_n 0), av_f 97 3 (.getfield 12) 6 0 0 63 0, av_a 100 1 (.iload_n 1), av_f 101 3 (.invokevirtual 175) 50 1 1 7 5, av_k 104 2 (.bipush 59) 59, av_b 106 (.if_icmp .ne 7) 113, av_k 109 1 (.iconst 1) 1, av_b 110 (.goto 4) 114, av_k 113 1 (.iconst 0) 0, av_f 114 1 .ireturn 1 0 0 0 0, av_a 115 1 (.aload_n 0), av_f 116 3 (.getfield 12) 6 0 0 63 0, av_a 119 1 (.iload_n 1), av_f 120 3 (.invokevirtual 396) 51 1 1 9 5, av_b 123 (.ifCond .lt 7) 130, av_k 126 1 (.iconst 1) 1, av_b 127 (.goto 4) 131, av_k 130 1 (.iconst 0) 0, av_f 131 1 .ireturn 1 0 0 0 0]
def tX6_addLines : List av_I := [av_a 0 1 (.aload_n 0), av_f 1 3 (.getfield 12) 6 0 0 63 0, av_f 4 3 (.getfield 80) 5 1 0 3 0, av_b 7 (.ifCond .le 10) 17, av_a 10 1 (.aload_n 0), av_f 11 3 (.getfield 46) 6 6 0 69 0, av_f 14 3 (.invokevirtual 399) 7 0 0 12 1, av_k 17 1 (.iconst 0) 0, av_a 18 1 (.istore_n 1), av_a 19 1 (.iload_n 1), av_a 20 1 (.aload_n 0), av_f 21 3 (.getfield 12) 6 0 0 63 0, av_f 24 3 (.getfield 80) 5 1 0 3 0, av_b 27 (.if_icmp .ge 93) 120, av_a 30 1 (.aload_n 0), av_f 31 3 (.getfield 12) 6 0 0 63 0, av_a 34 1 (.iload_n 1), av_k 35 1 (.iconst 1) 1, av_a 36 1 .iadd, av_f 37 3 (.invokevirtual 396) 51 1 1 9 5, av_a 40 1 (.istore_n 2), av_k 41 2 (.bipush 10) 10, av_a 43 1 (.aload_n 0), av_f 44 3 (.getfield 12) 6 0 0 63 0, av_a 47 1 (.iload_n 1), av_k 48 1 (.iconst 2) 2, av_a 49 1 .iadd, av_f 50 3 (.invokevirtual 396) 51 1 1 9 5, av_a 53 1 .imul, av_a 54 1 (.aload_n 0), av_f 55 3 (.getfield 12) 6 0 0 63 0, av_a 58 1 (.iload_n 1), av_k 59 1 (.iconst 3) 3, av_a 60 1 .iadd, av_f 61 3 (.invokevirtual 396) 51 1 1 9 5, av_a 64 1 .iadd, av_a 65 1 (.istore_n 3), av_a 66 1 (.aload_n 0), av_f 67 3 (.getfield 12) 6 0 0 63 0, av_a 70 1 (.iload_n 1), av_k 71 1 (.iconst 4) 4, av_a 72 1 .iadd, av_f 73 3 (.invokevirtual 396) 51 1 1 9 5, av_a 76 2 (.istore 4), av_a 78 1 (.aload_n 0), av_f 79 3 (.getfield 12) 6 0 0 63 0, av_a 82 1 (.iload_n 1), av_k 83 1 (.iconst 5) 5, av_a 84 1 .iadd, av_f 85 3 (.invokevirtual 396) 51 1 1 9 5, av_a 88 2 (.istore 5), av_a 90 1 (.aload_n 0), av_f 91 3 (.getfield 26) 6 2 0 65 0, av_a 94 1 (.aload_n 0), av_f 95 3 (.getfield 12) 6 0 0 63 0, av_a 98 1 (.iload_n 1), av_f 99 3 (.invokevirtual 175) 50 1 1 7 5, av_f 102 3 (.invokestatic 393) 118 1 1 8 6, av_a 105 1 (.iload_n 2), av_a 106 1 (.iload_n 3), av_a 107 2 (.iload 4), av_a 109 2 (.iload 5), av_f 111 3 (.invokevirtual 402) 27 5 0 13 4, av_k 114 3 (.iinc 1 7) 7, av_b 117 (.goto (-98)) 19, av_a 120 1 .return_]
def tX6_colourOf : List av_I := [av_a 0 1 (.iload_n 0), av_w 1 43 (.lookupswitch 51 #[(98, 47), (103, 45), (112, 43), (121, 49)]) 52 [(98, 48), (103, 46), (112, 44), (121, 50)], av_k 44 1 (.iconst 0) 0, av_f 45 1 .ireturn 0 0 0 0 0, av_k 46 1 (.iconst 1) 1, av_f 47 1 .ireturn 0 0 0 0 0, av_k 48 1 (.iconst 2) 2, av_f 49 1 .ireturn 0 0 0 0 0, av_k 50 1 (.iconst 3) 3, av_f 51 1 .ireturn 0 0 0 0 0, av_k 52 1 (.iconst (-1)) (-1), av_f 53 1 .ireturn 0 0 0 0 0]
def tX6_asKind : List av_I := [av_a 0 1 (.iload_n 0), av_w 1 27 (.lookupswitch 33 #[(0, 27), (1, 30)]) 34 [(0, 28), (1, 31)], av_a 28 1 (.iload_n 1), av_a 29 1 .i2b, av_f 30 1 .ireturn 0 0 0 0 0, av_a 31 1 (.iload_n 1), av_a 32 1 .i2s, av_f 33 1 .ireturn 0 0 0 0 0, av_a 34 1 (.iload_n 1), av_f 35 1 .ireturn 0 0 0 0 0]
def tX6_badActSign : List av_I := [av_a 0 1 (.aload_n 0), av_f 1 3 (.getfield 12) 6 0 0 63 0, av_f 4 3 (.getfield 80) 5 1 0 3 0, av_k 7 2 (.bipush 60) 60, av_f 9 3 (.invokestatic 387) 0 0 11 0 0, av_a 12 1 (.istore_n 1), av_k 13 1 (.iconst 0) 0, av_a 14 1 (.istore_n 2), av_k 15 1 (.iconst 0) 0, av_a 16 1 (.istore_n 3), av_a 17 1 (.iload_n 3), av_a 18 1 (.iload_n 1), av_b 19 (.if_icmp .ge 50) 69, av_a 22 1 (.iload_n 2), av_b 23 (.ifCond .le 22) 45, av_a 26 1 (.aload_n 0), av_f 27 3 (.getfield 12) 6 0 0 63 0, av_a 30 1 (.iload_n 3), av_f 31 3 (.invokevirtual 396) 51 1 1 9 5, av_b 34 (.ifCond .ge 5) 39, av_a 37 1 (.iload_n 3), av_f 38 1 .ireturn 0 0 0 0 0, av_k 39 3 (.iinc 2 (-1)) (-1), av_b 42 (.goto 21) 63, av_a 45 1 (.aload_n 0), av_f 46 3 (.getfield 12) 6 0 0 63 0, av_a 49 1 (.iload_n 3), av_f 50 3 (.invokevirtual 175) 50 1 1 7 5, av_f 53 3 (.invokestatic 178) 121 1 1 73 6, av_a 56 1 (.istore_n 2), av_a 57 1 (.iload_n 2), av_b 58 (.ifCond .ne 5) 63, av_a 61 1 (.iload_n 3), av_f 62 1 .ireturn 0 0 0 0 0, av_k 63 3 (.iinc 3 1) 1, av_b 66 (.goto (-49)) 17, av_a 69 1 (.iload_n 2), av_b 70 (.ifCond .ne 18) 88, av_a 73 1 (.aload_n 0), av_f 74 3 (.getfield 12) 6 0 0 63 0, av_f 77 3 (.getfield 80) 5 1 0 3 0, av_a 80 1 (.iload_n 1), av_b 81 (.if_icmp .ne 7) 88, av_k 84 1 (.iconst (-1)) (-1), av_b 85 (.goto 4) 89, av_a 88 1 (.iload_n 1), av_f 89 1 .ireturn 0 0 0 0 0]
def tX6_digitsBehind : List av_I := [av_a 0 1 (.iload_n 0), av_w 1 79 (.tableswitch 85 100 115 #[79, 85, 85, 85, 85, 85, 85, 85, 85, 83, 79, 85, 81, 85, 81, 79]) 86 [(100, 80), (101, 86), (102, 86), (103, 86), (104, 86), (105, 86), (106, 86), (107, 86), (108, 86), (109, 84), (110, 80), (111, 86), (112, 82), (113, 86), (114, 82), (115, 80)], av_k 80 1 (.iconst 1) 1, av_f 81 1 .ireturn 0 0 0 0 0, av_k 82 1 (.iconst 2) 2, av_f 83 1 .ireturn 0 0 0 0 0, av_k 84 1 (.iconst 3) 3, av_f 85 1 .ireturn 0 0 0 0 0, av_k 86 1 (.iconst 0) 0, av_f 87 1 .ireturn 0 0 0 0 0]
def tX6_settled : List av_I := [av_a 0 1 (.iload_n 1), av_b 1 (.ifCond .lt 10) 11, av_a 4 1 (.aload_n 0), av_f 5 3 (.getfield 46) 6 6 0 69 0, av_f 8 3 (.invokevirtual 181) 3 0 0 57 1, av_a 11 1 (.iload_n 1), av_f 12 1 .ireturn 0 0 0 0 0]
def tX6_act : List av_I := [av_a 0 1 (.aload_n 0), av_f 1 3 (.getfield 12) 6 0 0 63 0, av_a 4 1 (.iload_n 1), av_k 5 1 (.iconst 1) 1, av_a 6 1 .iadd, av_f 7 3 (.invokevirtual 396) 51 1 1 9 5, av_a 10 1 (.istore_n 2), av_a 11 1 (.aload_n 0), av_f 12 3 (.getfield 12) 6 0 0 63 0, av_a 15 1 (.iload_n 1), av_k 16 1 (.iconst 2) 2, av_a 17 1 .iadd, av_f 18 3 (.invokevirtual 396) 51 1 1 9 5, av_a 21 1 (.istore_n 3), av_a 22 1 (.aload_n 0), av_f 23 3 (.getfield 12) 6 0 0 63 0, av_a 26 1 (.iload_n 1), av_f 27 3 (.invokevirtual 175) 50 1 1 7 5, av_w 30 78 (.tableswitch 131 100 115 #[119, 131, 131, 131, 131, 131, 131, 131, 131, 98, 78, 131, 84, 131, 91, 125]) 161 [(100, 149), (101, 161), (102, 161), (103, 161), (104, 161), (105, 161), (106, 161), (107, 161), (108, 161), (109, 128), (110, 108), (111, 161), (112, 114), (113, 161), (114, 121), (115, 155)], av_a 108 1 (.aload_n 0), av_a 109 1 (.iload_n 2), av_f 110 3 (.invokevirtual 148) 124 1 1 36 6, av_f 113 1 .ireturn 0 0 0 0 0, av_a 114 1 (.aload_n 0), av_a 115 1 (.iload_n 2), av_a 116 1 (.iload_n 3), av_f 117 3 (.invokevirtual 154) 125 2 1 59 6, av_f 120 1 .ireturn 0 0 0 0 0, av_a 121 1 (.aload_n 0), av_a 122 1 (.iload_n 2), av_a 123 1 (.iload_n 3), av_f 124 3 (.invokevirtual 157) 126 2 1 63 6, av_f 127 1 .ireturn 0 0 0 0 0, av_a 128 1 (.aload_n 0), av_a 129 1 (.iload_n 2), av_k 130 2 (.bipush 10) 10, av_a 132 1 (.iload_n 3), av_a 133 1 .imul, av_a 134 1 (.aload_n 0), av_f 135 3 (.getfield 12) 6 0 0 63 0, av_a 138 1 (.iload_n 1), av_k 139 1 (.iconst 3) 3, av_a 140 1 .iadd, av_f 141 3 (.invokevirtual 396) 51 1 1 9 5, av_a 144 1 .iadd, av_f 145 3 (.invokevirtual 160) 127 2 1 65 6, av_f 148 1 .ireturn 0 0 0 0 0, av_a 149 1 (.aload_n 0), av_a 150 1 (.iload_n 2), av_f 151 3 (.invokevirtual 163) 128 1 1 67 6, av_f 154 1 .ireturn 0 0 0 0 0, av_a 155 1 (.aload_n 0), av_a 156 1 (.iload_n 2), av_f 157 3 (.invokevirtual 166) 129 1 1 70 6, av_f 160 1 .ireturn 0 0 0 0 0, av_k 161 1 (.iconst (-1)) (-1), av_f 162 1 .ireturn 0 0 0 0 0]
def tX6_goHours : List av_I := [av_a 0 1 (.iload_n 1), av_b 1 (.ifCond .lt 9) 10, av_a 4 1 (.iload_n 1), av_k 5 2 (.bipush 60) 60, av_b 7 (.if_icmp .le 5) 12, av_k 10 1 (.iconst (-1)) (-1), av_f 11 1 .ireturn 0 0 0 0 0, av_a 12 1 (.aload_n 0), av_f 13 3 (.getfield 26) 6 2 0 65 0, av_f 16 3 (.getfield 218) 4 8 0 28 0, av_a 19 1 (.istore_n 2), av_k 20 1 (.iconst 0) 0, av_a 21 1 (.istore_n 3), av_a 22 1 (.iload_n 3), av_a 23 1 (.iload_n 1), av_b 24 (.if_icmp .ge 20) 44, av_a 27 1 (.aload_n 0), av_f 28 3 (.getfield 26) 6 2 0 65 0, av_a 31 1 (.aload_n 0), av_f 32 3 (.getfield 36) 6 4 0 67 0, av_f 35 3 (.invokevirtual 212) 43 1 0 37 4, av_k 38 3 (.iinc 3 1) 1, av_b 41 (.goto (-19)) 22, av_a 44 1 (.aload_n 0), av_a 45 1 (.aload_n 0), av_f 46 3 (.getfield 26) 6 2 0 65 0, av_f 49 3 (.getfield 218) 4 8 0 28 0, av_a 52 1 (.iload_n 2), av_k 53 1 (.iconst (-1)) (-1), av_a 54 1 .ixor, av_a 55 1 .iand, av_a 56 1 .i2l, av_a 57 1 (.aload_n 0), av_f 58 3 (.getfield 26) 6 2 0 65 0, av_f 61 3 (.invokevirtual 201) 28 0 1 51 4, av_f 64 3 (.invokestatic 252) 275 1 1 52 8, av_a 67 1 .i2l, av_f 68 3 (.invokevirtual 187) 111 2 0 53 6, av_a 71 1 (.aload_n 0), av_f 72 3 (.getfield 26) 6 2 0 65 0, av_f 75 3 (.getfield 184) 4 10 0 32 0, av_f 78 1 .ireturn 0 0 0 0 0]
def tX6_runTo : List av_I := [av_a 0 1 (.aload_n 0), av_f 1 3 (.getfield 26) 6 2 0 65 0, av_a 4 1 (.iload_n 1), av_f 5 3 (.invokevirtual 99) 26 1 1 60 4, av_b 8 (.ifCond .eq 10) 18, av_a 11 1 (.iload_n 2), av_f 12 3 (.invokestatic 406) 106 1 1 61 6, av_b 15 (.ifCond .ne 5) 20, av_k 18 1 (.iconst (-1)) (-1), av_f 19 1 .ireturn 0 0 0 0 0, av_a 20 1 (.iload_n 2), av_a 21 1 (.aload_n 0), av_f 22 3 (.getfield 26) 6 2 0 65 0, av_f 25 3 (.getfield 117) 4 4 0 19 0, av_a 28 1 (.iload_n 1), av_a 29 1 .iaload, av_a 30 1 .isub, av_f 31 3 (.invokestatic 277) 0 0 12 6 0, av_a 34 1 (.istore_n 3), av_a 35 1 (.aload_n 0), av_f 36 3 (.getfield 26) 6 2 0 65 0, av_f 39 3 (.getfield 117) 4 4 0 19 0, av_a 42 1 (.iload_n 1), av_a 43 1 (.iload_n 2), av_a 44 1 .iastore, av_a 45 1 (.iload_n 3), av_b 46 (.ifCond .ne 8) 54, av_k 49 2 (.bipush (-2)) (-2), av_b 51 (.goto 4) 55, av_a 54 1 (.iload_n 3), av_f 55 1 .ireturn 0 0 0 0 0]
def tX6_setRate : List av_I := [av_a 0 1 (.aload_n 0), av_f 1 3 (.getfield 26) 6 2 0 65 0, av_a 4 1 (.iload_n 1), av_f 5 3 (.invokevirtual 99) 26 1 1 60 4, av_b 8 (.ifCond .eq 10) 18, av_a 11 1 (.iload_n 2), av_f 12 3 (.invokestatic 406) 106 1 1 61 6, av_b 15 (.ifCond .ne 5) 20, av_k 18 1 (.iconst (-1)) (-1), av_f 19 1 .ireturn 0 0 0 0 0, av_a 20 1 (.aload_n 0), av_f 21 3 (.getfield 26) 6 2 0 65 0, av_f 24 3 (.getfield 114) 4 3 0 17 0, av_a 27 1 (.iload_n 1), av_a 28 1 .iaload, av_a 29 1 (.istore_n 3), av_a 30 1 (.aload_n 0), av_f 31 3 (.getfield 26) 6 2 0 65 0, av_f 34 3 (.getfield 114) 4 3 0 17 0, av_a 37 1 (.iload_n 1), av_a 38 1 (.iload_n 2), av_a 39 1 .iastore, av_a 40 1 (.iload_n 3), av_a 41 1 (.iload_n 2), av_b 42 (.if_icmp .ne 8) 50, av_k 45 2 (.bipush (-2)) (-2), av_b 47 (.goto 7) 54, av_k 50 2 (.bipush 10) 10, av_a 52 1 (.iload_n 3), av_a 53 1 .iadd, av_f 54 1 .ireturn 0 0 0 0 0]
def tX6_fillReel : List av_I := [av_a 0 1 (.aload_n 0), av_f 1 3 (.getfield 26) 6 2 0 65 0, av_a 4 1 (.iload_n 1), av_f 5 3 (.invokevirtual 99) 26 1 1 60 4, av_b 8 (.ifCond .eq 14) 22, av_a 11 1 (.iload_n 2), av_k 12 1 (.iconst 1) 1, av_b 13 (.if_icmp .lt 9) 22, av_a 16 1 (.iload_n 2), av_k 17 2 (.bipush 99) 99, av_b 19 (.if_icmp .le 5) 24, av_k 22 1 (.iconst (-1)) (-1), av_f 23 1 .ireturn 0 0 0 0 0, av_a 24 1 (.aload_n 0), av_f 25 3 (.getfield 26) 6 2 0 65 0, av_f 28 3 (.getfield 111) 4 2 0 14 0, av_a 31 1 (.iload_n 1), av_a 32 1 .iaload, av_a 33 1 (.iload_n 2), av_a 34 1 .iadd, av_a 35 1 (.istore_n 3), av_a 36 1 (.iload_n 3), av_k 37 2 (.bipush 99) 99, av_b 39 (.if_icmp .le 6) 45, av_k 42 2 (.bipush (-2)) (-2), av_f 44 1 .ireturn 0 0 0 0 0, av_a 45 1 (.aload_n 0), av_f 46 3 (.getfield 26) 6 2 0 65 0, av_f 49 3 (.getfield 111) 4 2 0 14 0, av_a 52 1 (.iload_n 1), av_a 53 1 (.iload_n 3), av_a 54 1 .iastore, av_a 55 1 (.iload_n 3), av_f 56 1 .ireturn 0 0 0 0 0]
def tX6_turnEnd : List av_I := [av_a 0 1 (.aload_n 0), av_f 1 3 (.getfield 26) 6 2 0 65 0, av_a 4 1 (.iload_n 1), av_f 5 3 (.invokevirtual 99) 26 1 1 60 4, av_b 8 (.ifCond .ne 5) 13, av_k 11 1 (.iconst (-1)) (-1), av_f 12 1 .ireturn 0 0 0 0 0, av_a 13 1 (.aload_n 0), av_f 14 3 (.getfield 26) 6 2 0 65 0, av_f 17 3 (.getfield 218) 4 8 0 28 0, av_a 20 1 (.iload_n 1), av_f 21 3 (.invokestatic 221) 108 2 1 68 6, av_b 24 (.ifCond .eq 6) 30, av_k 27 2 (.bipush (-2)) (-2), av_f 29 1 .ireturn 0 0 0 0 0, av_a 30 1 (.aload_n 0), av_f 31 3 (.getfield 26) 6 2 0 65 0, av_a 34 1 .dup, av_f 35 3 (.getfield 409) 4 9 0 30 0, av_k 38 1 (.iconst 1) 1, av_a 39 1 (.iload_n 1), av_a 40 1 .ishl, av_a 41 1 .ixor, av_f 42 3 (.putfield 409) 4 9 0 30 0, av_a 45 1 (.aload_n 0), av_f 46 3 (.getfield 26) 6 2 0 65 0, av_f 49 3 (.invokevirtual 201) 28 0 1 51 4, av_f 52 3 (.invokestatic 252) 275 1 1 52 8, av_f 55 1 .ireturn 0 0 0 0 0]
def tX6_setSpeed : List av_I := [av_a 0 1 (.iload_n 1), av_f 1 3 (.invokestatic 406) 106 1 1 61 6, av_b 4 (.ifCond .ne 5) 9, av_k 7 1 (.iconst (-1)) (-1), av_f 8 1 .ireturn 0 0 0 0 0, av_a 9 1 (.aload_n 0), av_f 10 3 (.getfield 26) 6 2 0 65 0, av_f 13 3 (.getfield 246) 4 11 0 35 0, av_a 16 1 (.istore_n 2), av_a 17 1 (.aload_n 0), av_f 18 3 (.getfield 26) 6 2 0 65 0, av_a 21 1 (.iload_n 1), av_f 22 3 (.putfield 246) 4 11 0 35 0, av_a 25 1 (.iload_n 2), av_a 26 1 (.iload_n 1), av_b 27 (.if_icmp .ne 8) 35, av_k 30 2 (.bipush (-2)) (-2), av_b 32 (.goto 7) 39, av_k 35 2 (.bipush 10) 10, av_a 37 1 (.iload_n 2), av_a 38 1 .iadd, av_f 39 1 .ireturn 0 0 0 0 0]
def tX6_hoursHeld : List av_I := [av_k 0 1 (.iconst 0) 0, av_a 1 1 (.istore_n 3), av_k 2 1 (.iconst 0) 0, av_a 3 2 (.istore 4), av_a 5 2 (.iload 4), av_a 7 1 (.iload_n 2), av_b 8 (.if_icmp .ge 45) 53, av_a 11 1 (.aload_n 0), av_f 12 3 (.getfield 30) 6 3 0 66 0, av_a 15 1 (.iload_n 1), av_f 16 3 (.invokevirtual 209) 29 1 1 85 4, av_b 19 (.ifCond .eq 34) 53, av_a 22 1 (.aload_n 0), av_f 23 3 (.getfield 30) 6 3 0 66 0, av_a 26 1 (.aload_n 0), av_f 27 3 (.getfield 36) 6 4 0 67 0, av_f 30 3 (.invokevirtual 212) 43 1 0 37 4, av_a 33 1 (.aload_n 0), av_f 34 3 (.getfield 30) 6 3 0 66 0, av_a 37 1 (.iload_n 1), av_f 38 3 (.invokevirtual 209) 29 1 1 85 4, av_b 41 (.ifCond .eq 6) 47, av_k 44 3 (.iinc 3 1) 1, av_k 47 3 (.iinc 4 1) 1, av_b 50 (.goto (-45)) 5, av_a 53 1 (.iload_n 3), av_f 54 1 .ireturn 0 0 0 0 0]
def tX6_holdBySpeed : List av_I := [av_a 0 1 (.aload_n 0), av_f 1 3 (.getfield 30) 6 3 0 66 0, av_a 4 1 (.aload_n 0), av_f 5 3 (.getfield 26) 6 2 0 65 0, av_f 8 3 (.invokevirtual 207) 45 1 0 80 4, av_a 11 1 (.aload_n 0), av_f 12 3 (.getfield 30) 6 3 0 66 0, av_a 15 1 (.iload_n 1), av_f 16 3 (.putfield 246) 4 11 0 35 0, av_a 19 1 (.aload_n 0), av_f 20 3 (.getfield 30) 6 3 0 66 0, av_a 23 1 (.aload_n 0), av_f 24 3 (.getfield 36) 6 4 0 67 0, av_a 27 1 (.iload_n 2), av_f 28 3 (.invokevirtual 355) 42 2 0 81 4, av_a 31 1 (.aload_n 0), av_f 32 3 (.getfield 30) 6 3 0 66 0, av_f 35 3 (.invokevirtual 201) 28 0 1 51 4, av_f 38 3 (.invokestatic 252) 275 1 1 52 8, av_f 41 1 .ireturn 0 0 0 0 0]
def tX6_holdsWithout : List av_I := [av_a 0 1 (.aload_n 0), av_f 1 3 (.getfield 30) 6 3 0 66 0, av_a 4 1 (.aload_n 0), av_f 5 3 (.getfield 26) 6 2 0 65 0, av_f 8 3 (.invokevirtual 207) 45 1 0 80 4, av_a 11 1 (.aload_n 0), av_f 12 3 (.getfield 30) 6 3 0 66 0, av_a 15 1 .dup, av_f 16 3 (.getfield 409) 4 9 0 30 0, av_a 19 1 (.iload_n 2), av_a 20 1 .ior, av_f 21 3 (.putfield 409) 4 9 0 30 0, av_a 24 1 (.aload_n 0), av_a 25 1 (.iload_n 1), av_a 26 1 (.iload_n 3), av_f 27 3 (.invokevirtual 240) 130 2 1 95 6, av_a 30 1 (.iload_n 3), av_b 31 (.if_icmp .ne 7) 38, av_k 34 1 (.iconst 1) 1, av_b 35 (.goto 4) 39, av_k 38 1 (.iconst 0) 0, av_f 39 1 .ireturn 1 0 0 0 0]
def tX6_tips : List av_I := [av_a 0 1 (.aload_n 0), av_a 1 1 (.iload_n 1), av_f 2 3 (.invokevirtual 412) 134 1 1 106 6, av_b 5 (.ifCond .ne 19) 24, av_a 8 1 (.aload_n 0), av_a 9 1 (.iload_n 1), av_k 10 1 (.iconst 1) 1, av_a 11 1 (.iload_n 2), av_a 12 1 .ishl, av_a 13 1 .ior, av_f 14 3 (.invokevirtual 412) 134 1 1 106 6, av_b 17 (.ifCond .eq 7) 24, av_k 20 1 (.iconst 1) 1, av_b 21 (.goto 4) 25, av_k 24 1 (.iconst 0) 0, av_f 25 1 .ireturn 1 0 0 0 0]
def tX6_decides : List av_I := [av_k 0 1 (.iconst 2) 2, av_a 1 1 (.aload_n 0), av_f 2 3 (.getfield 26) 6 2 0 65 0, av_a 5 1 (.iload_n 1), av_f 6 3 (.invokevirtual 231) 38 1 1 91 4, av_a 9 1 .imul, av_a 10 1 (.aload_n 0), av_f 11 3 (.getfield 26) 6 2 0 65 0, av_a 14 1 (.aload_n 0), av_f 15 3 (.getfield 26) 6 2 0 65 0, av_f 18 3 (.invokevirtual 201) 28 0 1 51 4, av_f 21 3 (.invokevirtual 231) 38 1 1 91 4, av_b 24 (.if_icmp .le 7) 31, av_k 27 1 (.iconst 1) 1, av_b 28 (.goto 4) 32, av_k 31 1 (.iconst 0) 0, av_f 32 1 .ireturn 1 0 0 0 0]
def tX6_orders : List av_I := [av_l 0 1 (.lconst 1) 1 0, av_a 1 1 (.lstore_n 1), av_k 2 1 (.iconst 2) 2, av_a 3 1 (.istore_n 3), av_a 4 1 (.iload_n 3), av_a 5 1 (.iload_n 0), av_b 6 (.if_icmp .gt 14) 20, av_a 9 1 (.lload_n 1), av_a 10 1 (.iload_n 3), av_a 11 1 .i2l, av_a 12 1 .lmul, av_a 13 1 (.lstore_n 1), av_k 14 3 (.iinc 3 1) 1, av_b 17 (.goto (-13)) 4, av_a 20 1 (.lload_n 1), av_a 21 1 .lreturn]
def tX6_times : List av_I := [av_l 0 1 (.lconst 1) 1 0, av_a 1 1 (.lstore_n 3), av_k 2 1 (.iconst 0) 0, av_a 3 2 (.istore 5), av_a 5 2 (.iload 5), av_a 7 1 (.iload_n 2), av_b 8 (.if_icmp .ge 13) 21, av_a 11 1 (.lload_n 3), av_a 12 1 (.lload_n 0), av_a 13 1 .lmul, av_a 14 1 (.lstore_n 3), av_k 15 3 (.iinc 5 1) 1, av_b 18 (.goto (-13)) 5, av_a 21 1 (.lload_n 3), av_a 22 1 .lreturn]
def tX6_mayBeEnds : List av_I := [av_a 0 1 (.iload_n 0), av_b 1 (.ifCond .lt 13) 14, av_a 4 1 (.iload_n 0), av_k 5 2 (.bipush 7) 7, av_b 7 (.if_icmp .gt 7) 14, av_k 10 1 (.iconst 1) 1, av_b 11 (.goto 4) 15, av_k 14 1 (.iconst 0) 0, av_f 15 1 .ireturn 1 0 0 0 0]
def tX6_coloursAre : List av_I := [av_a 0 1 (.iload_n 1), av_a 1 1 (.aload_n 0), av_f 2 3 (.getfield 26) 6 2 0 65 0, av_k 5 1 (.iconst 0) 0, av_f 6 3 (.invokevirtual 274) 34 1 1 111 4, av_a 9 1 .iand, av_f 10 3 (.invokestatic 252) 275 1 1 52 8, av_a 13 1 (.iload_n 2), av_b 14 (.if_icmp .ne 60) 74, av_a 17 1 (.iload_n 1), av_a 18 1 (.aload_n 0), av_f 19 3 (.getfield 26) 6 2 0 65 0, av_k 22 1 (.iconst 1) 1, av_f 23 3 (.invokevirtual 274) 34 1 1 111 4, av_a 26 1 .iand, av_f 27 3 (.invokestatic 252) 275 1 1 52 8, av_a 30 1 (.iload_n 3), av_b 31 (.if_icmp .ne 43) 74, av_a 34 1 (.iload_n 1), av_a 35 1 (.aload_n 0), av_f 36 3 (.getfield 26) 6 2 0 65 0, av_k 39 1 (.iconst 2) 2, av_f 40 3 (.invokevirtual 274) 34 1 1 111 4, av_a 43 1 .iand, av_f 44 3 (.invokestatic 252) 275 1 1 52 8, av_a 47 2 (.iload 4), av_b 49 (.if_icmp .ne 25) 74, av_a 52 1 (.iload_n 1), av_a 53 1 (.aload_n 0), av_f 54 3 (.getfield 26) 6 2 0 65 0, av_k 57 1 (.iconst 3) 3, av_f 58 3 (.invokevirtual 274) 34 1 1 111 4, av_a 61 1 .iand, av_f 62 3 (.invokestatic 252) 275 1 1 52 8, av_a 65 2 (.iload 5), av_b 67 (.if_icmp .ne 7) 74, av_k 70 1 (.iconst 1) 1, av_b 71 (.goto 4) 75, av_k 74 1 (.iconst 0) 0, av_f 75 1 .ireturn 1 0 0 0 0]
def tX6_fitsSights : List av_I := [av_k 0 1 (.iconst 0) 0, av_a 1 1 (.istore_n 2), av_a 2 1 (.iload_n 2), av_a 3 1 (.aload_n 0), av_f 4 3 (.getfield 55) 6 7 0 70 0, av_f 7 3 (.getfield 381) 0 4 0 62 0, av_b 10 (.if_icmp .ge 69) 79, av_a 13 1 (.iload_n 1), av_a 14 1 (.aload_n 0), av_f 15 3 (.getfield 26) 6 2 0 65 0, av_a 18 1 (.aload_n 0), av_f 19 3 (.getfield 55) 6 7 0 70 0, av_f 22 3 (.getfield 415) 0 0 0 55 0, av_a 25 1 (.iload_n 2), av_a 26 1 .iaload, av_f 27 3 (.invokevirtual 309) 31 1 1 125 4, av_a 30 1 .isub, av_a 31 1 (.aload_n 0), av_f 32 3 (.getfield 55) 6 7 0 70 0, av_f 35 3 (.getfield 418) 0 1 0 57 0, av_a 38 1 (.iload_n 2), av_a 39 1 .iaload, av_b 40 (.if_icmp .lt 7) 47, av_k 43 1 (.iconst 1) 1, av_b 44 (.goto 4) 48, av_k 47 1 (.iconst 0) 0, av_a 48 1 (.istore_n 3), av_a 49 1 (.iload_n 3), av_a 50 1 (.aload_n 0), av_f 51 3 (.getfield 55) 6 7 0 70 0, av_f 54 3 (.getfield 421) 0 2 0 59 0, av_a 57 1 (.iload_n 2), av_a 58 1 .iaload, av_k 59 1 (.iconst 1) 1, av_b 60 (.if_icmp .ne 7) 67, av_k 63 1 (.iconst 1) 1, av_b 64 (.goto 4) 68, av_k 67 1 (.iconst 0) 0, av_b 68 (.if_icmp .eq 5) 73, av_k 71 1 (.iconst 0) 0, av_f 72 1 .ireturn 1 0 0 0 0, av_k 73 3 (.iinc 2 1) 1, av_b 76 (.goto (-74)) 2, av_k 79 1 (.iconst 1) 1, av_f 80 1 .ireturn 1 0 0 0 0]
def tX6_countWaysFrom : List av_I := [av_a 0 1 (.aload_n 0), av_f 1 3 (.getfield 65) 6 10 0 73 0, av_k 4 2 (.bipush 60) 60, av_k 6 1 (.iconst 0) 0, av_a 7 1 .iastore, av_k 8 2 (.bipush 59) 59, av_a 10 1 (.istore_n 1), av_a 11 1 (.iload_n 1), av_b 12 (.ifCond .lt 37) 49, av_a 15 1 (.aload_n 0), av_f 16 3 (.getfield 65) 6 10 0 73 0, av_a 19 1 (.iload_n 1), av_a 20 1 (.aload_n 0), av_f 21 3 (.getfield 65) 6 10 0 73 0, av_a 24 1 (.iload_n 1), av_k 25 1 (.iconst 1) 1, av_a 26 1 .iadd, av_a 27 1 .iaload, av_a 28 1 (.aload_n 0), av_a 29 1 (.iload_n 1), av_f 30 3 (.invokevirtual 303) 139 1 1 124 6, av_b 33 (.ifCond .eq 7) 40, av_k 36 1 (.iconst 1) 1, av_b 37 (.goto 4) 41, av_k 40 1 (.iconst 0) 0, av_a 41 1 .iadd, av_a 42 1 .iastore, av_k 43 3 (.iinc 1 (-1)) (-1), av_b 46 (.goto (-35)) 11, av_a 49 1 (.aload_n 0), av_f 50 3 (.getfield 65) 6 10 0 73 0, av_k 53 1 (.iconst 0) 0, av_a 54 1 .iaload, av_f 55 1 .ireturn 0 0 0 0 0]
def tX6_mayBeHeard : List av_I := [av_a 0 1 (.iload_n 0), av_w 1 35 (.tableswitch 77 0 4 #[35, 50, 67, 72, 67]) 78 [(0, 36), (1, 51), (2, 68), (3, 73), (4, 68)], av_a 36 1 (.iload_n 1), av_b 37 (.ifCond .lt 12) 49, av_a 40 1 (.iload_n 1), av_k 41 1 (.iconst 4) 4, av_b 42 (.if_icmp .ge 7) 49, av_k 45 1 (.iconst 1) 1, av_b 46 (.goto 4) 50, av_k 49 1 (.iconst 0) 0, av_f 50 1 .ireturn 1 0 0 0 0, av_a 51 1 (.iload_n 1), av_k 52 1 (.iconst 1) 1, av_b 53 (.if_icmp .lt 13) 66, av_a 56 1 (.iload_n 1), av_k 57 2 (.bipush 9) 9, av_b 59 (.if_icmp .gt 7) 66, av_k 62 1 (.iconst 1) 1, av_b 63 (.goto 4) 67, av_k 66 1 (.iconst 0) 0, av_f 67 1 .ireturn 1 0 0 0 0, av_a 68 1 (.iload_n 1), av_f 69 3 (.invokestatic 295) 105 1 1 119 6, av_f 72 1 .ireturn 1 0 0 0 0, av_a 73 1 (.iload_n 1), av_f 74 3 (.invokestatic 406) 106 1 1 61 6, av_f 77 1 .ireturn 1 0 0 0 0, av_k 78 1 (.iconst 0) 0, av_f 79 1 .ireturn 1 0 0 0 0]
def tX6_fitRumours : List av_I := [av_a 0 1 (.aload_n 0), av_f 1 3 (.getfield 26) 6 2 0 65 0, av_f 4 3 (.getfield 285) 4 7 0 26 0, av_a 7 1 (.istore_n 1), av_k 8 1 (.iconst 0) 0, av_a 9 1 (.istore_n 2), av_a 10 1 (.iload_n 2), av_a 11 1 (.aload_n 0), av_f 12 3 (.getfield 59) 6 8 0 71 0, av_f 15 3 (.getfield 381) 0 4 0 62 0, av_b 18 (.if_icmp .ge 34) 52, av_a 21 1 (.iload_n 1), av_a 22 1 (.aload_n 0), av_a 23 1 (.aload_n 0), av_f 24 3 (.getfield 59) 6 8 0 71 0, av_f 27 3 (.getfield 415) 0 0 0 55 0, av_a 30 1 (.iload_n 2), av_a 31 1 .iaload, av_a 32 1 (.aload_n 0), av_f 33 3 (.getfield 59) 6 8 0 71 0, av_f 36 3 (.getfield 418) 0 1 0 57 0, av_a 39 1 (.iload_n 2), av_a 40 1 .iaload, av_f 41 3 (.invokevirtual 321) 143 2 1 133 6, av_a 44 1 .iand, av_a 45 1 (.istore_n 1), av_k 46 3 (.iinc 2 1) 1, av_b 49 (.goto (-39)) 10, av_a 52 1 (.iload_n 1), av_f 53 1 .ireturn 0 0 0 0 0]
def tX6_ofWhom : List av_I := [av_a 0 1 (.iload_n 1), av_w 1 31 (.tableswitch 91 0 3 #[31, 40, 49, 82]) 92 [(0, 32), (1, 41), (2, 50), (3, 83)], av_a 32 1 (.aload_n 0), av_f 33 3 (.getfield 26) 6 2 0 65 0, av_a 36 1 (.iload_n 2), av_f 37 3 (.invokevirtual 274) 34 1 1 111 4, av_f 40 1 .ireturn 0 0 0 0 0, av_a 41 1 (.aload_n 0), av_f 42 3 (.getfield 26) 6 2 0 65 0, av_a 45 1 (.iload_n 2), av_f 46 3 (.invokevirtual 424) 35 1 1 134 4, av_f 49 1 .ireturn 0 0 0 0 0, av_a 50 1 (.iload_n 2), av_k 51 1 (.iconst 1) 1, av_b 52 (.if_icmp .ne 13) 65, av_a 55 1 (.aload_n 0), av_f 56 3 (.getfield 26) 6 2 0 65 0, av_f 59 3 (.invokevirtual 201) 28 0 1 51 4, av_b 62 (.goto 20) 82, av_a 65 1 (.aload_n 0), av_f 66 3 (.getfield 26) 6 2 0 65 0, av_f 69 3 (.getfield 285) 4 7 0 26 0, av_a 72 1 (.aload_n 0), av_f 73 3 (.getfield 26) 6 2 0 65 0, av_f 76 3 (.invokevirtual 201) 28 0 1 51 4, av_k 79 1 (.iconst (-1)) (-1), av_a 80 1 .ixor, av_a 81 1 .iand, av_f 82 1 .ireturn 0 0 0 0 0, av_a 83 1 (.aload_n 0), av_f 84 3 (.getfield 26) 6 2 0 65 0, av_a 87 1 (.iload_n 2), av_f 88 3 (.invokevirtual 427) 36 1 1 135 4, av_f 91 1 .ireturn 0 0 0 0 0, av_a 92 1 (.iload_n 2), av_k 93 1 (.iconst 1) 1, av_b 94 (.if_icmp .ne 13) 107, av_a 97 1 (.aload_n 0), av_f 98 3 (.getfield 26) 6 2 0 65 0, av_f 101 3 (.invokevirtual 204) 33 0 1 83 4, av_b 104 (.goto 20) 124, av_a 107 1 (.aload_n 0), av_f 108 3 (.getfield 26) 6 2 0 65 0, av_f 111 3 (.getfield 285) 4 7 0 26 0, av_a 114 1 (.aload_n 0), av_f 115 3 (.getfield 26) 6 2 0 65 0, av_f 118 3 (.invokevirtual 204) 33 0 1 83 4, av_k 121 1 (.iconst (-1)) (-1), av_a 122 1 .ixor, av_a 123 1 .iand, av_f 124 1 .ireturn 0 0 0 0 0]
def tX6_factorOf : List av_I := [av_k 0 1 (.iconst 1) 1, av_a 1 1 (.iload_n 0), av_k 2 2 (.bipush 10) 10, av_a 4 1 .idiv, av_a 5 1 .iadd, av_f 6 1 .ireturn 0 0 0 0 0]
def tX6_slackOf : List av_I := [av_a 0 1 (.iload_n 0), av_k 1 2 (.bipush 10) 10, av_a 3 1 .irem, av_f 4 1 .ireturn 0 0 0 0 0]
def tX6_breaks : List av_I := [av_a 0 1 (.iload_n 0), av_f 1 3 (.invokestatic 333) 144 1 1 144 6, av_a 4 1 (.iload_n 1), av_a 5 1 .imul, av_a 6 1 (.iload_n 2), av_a 7 1 (.iload_n 0), av_f 8 3 (.invokestatic 336) 145 1 1 145 6, av_a 11 1 .iadd, av_b 12 (.if_icmp .le 7) 19, av_k 15 1 (.iconst 1) 1, av_b 16 (.goto 4) 20, av_k 19 1 (.iconst 0) 0, av_f 20 1 .ireturn 1 0 0 0 0]
def tX6_fitsPartings : List av_I := [av_k 0 1 (.iconst 0) 0, av_a 1 1 (.istore_n 2), av_a 2 1 (.iload_n 2), av_a 3 1 (.aload_n 0), av_f 4 3 (.getfield 62) 6 9 0 72 0, av_f 7 3 (.getfield 381) 0 4 0 62 0, av_b 10 (.if_icmp .ge 56) 66, av_a 13 1 (.iload_n 1), av_a 14 1 (.aload_n 0), av_f 15 3 (.getfield 62) 6 9 0 72 0, av_f 18 3 (.getfield 415) 0 0 0 55 0, av_a 21 1 (.iload_n 2), av_a 22 1 .iaload, av_a 23 1 (.aload_n 0), av_f 24 3 (.getfield 62) 6 9 0 72 0, av_f 27 3 (.getfield 418) 0 1 0 57 0, av_a 30 1 (.iload_n 2), av_a 31 1 .iaload, av_f 32 3 (.invokestatic 430) 146 3 1 143 6, av_a 35 1 (.istore_n 3), av_a 36 1 (.iload_n 3), av_a 37 1 (.aload_n 0), av_f 38 3 (.getfield 62) 6 9 0 72 0, av_f 41 3 (.getfield 421) 0 2 0 59 0, av_a 44 1 (.iload_n 2), av_a 45 1 .iaload, av_k 46 1 (.iconst 1) 1, av_b 47 (.if_icmp .ne 7) 54, av_k 50 1 (.iconst 1) 1, av_b 51 (.goto 4) 55, av_k 54 1 (.iconst 0) 0, av_b 55 (.if_icmp .eq 5) 60, av_k 58 1 (.iconst 0) 0, av_f 59 1 .ireturn 1 0 0 0 0, av_k 60 3 (.iinc 2 1) 1, av_b 63 (.goto (-61)) 2, av_k 66 1 (.iconst 1) 1, av_f 67 1 .ireturn 1 0 0 0 0]
def tX6_fittingLaws : List av_I := [av_l 0 1 (.lconst 0) 0 0, av_a 1 1 (.lstore_n 1), av_k 2 1 (.iconst 0) 0, av_a 3 1 (.istore_n 3), av_a 4 1 (.iload_n 3), av_k 5 2 (.bipush 40) 40, av_b 7 (.if_icmp .ge 23) 30, av_a 10 1 (.aload_n 0), av_a 11 1 (.iload_n 3), av_f 12 3 (.invokevirtual 330) 147 1 1 142 6, av_b 15 (.ifCond .eq 9) 24, av_a 18 1 (.lload_n 1), av_l 19 1 (.lconst 1) 1 0, av_a 20 1 (.iload_n 3), av_a 21 1 .lshl, av_a 22 1 .lor, av_a 23 1 (.lstore_n 1), av_k 24 3 (.iinc 3 1) 1, av_b 27 (.goto (-23)) 4, av_a 30 1 (.lload_n 1), av_a 31 1 .lreturn]
def tX6_breakingLaws : List av_I := [av_l 0 1 (.lconst 0) 0 0, av_a 1 1 (.lstore_n 2), av_k 2 1 (.iconst 0) 0, av_a 3 2 (.istore 4), av_a 5 2 (.iload 4), av_k 7 2 (.bipush 40) 40, av_b 9 (.if_icmp .ge 26) 35, av_a 12 2 (.iload 4), av_a 14 1 (.iload_n 0), av_a 15 1 (.iload_n 1), av_f 16 3 (.invokestatic 430) 146 3 1 143 6, av_b 19 (.ifCond .eq 10) 29, av_a 22 1 (.lload_n 2), av_l 23 1 (.lconst 1) 1 0, av_a 24 2 (.iload 4), av_a 26 1 .lshl, av_a 27 1 .lor, av_a 28 1 (.lstore_n 2), av_k 29 3 (.iinc 4 1) 1, av_b 32 (.goto (-27)) 5, av_a 35 1 (.lload_n 2), av_a 36 1 .lreturn]
def tX6_learnNimbers : List av_I := [av_a 0 1 (.aload_n 0), av_f 1 3 (.getfield 433) 6 12 0 75 0, av_a 4 1 (.iload_n 1), av_b 5 (.if_icmp .gt 45) 50, av_a 8 1 (.aload_n 0), av_f 9 3 (.getfield 433) 6 12 0 75 0, av_a 12 1 (.aload_n 0), av_f 13 3 (.getfield 69) 6 11 0 74 0, av_a 16 1 .arraylength, av_b 17 (.if_icmp .ge 33) 50, av_a 20 1 (.aload_n 0), av_f 21 3 (.getfield 69) 6 11 0 74 0, av_a 24 1 (.aload_n 0), av_f 25 3 (.getfield 433) 6 12 0 75 0, av_a 28 1 (.aload_n 0), av_a 29 1 (.aload_n 0), av_f 30 3 (.getfield 433) 6 12 0 75 0, av_f 33 3 (.invokevirtual 436) 151 1 1 152 6, av_a 36 1 .iastore, av_a 37 1 (.aload_n 0), av_a 38 1 .dup, av_f 39 3 (.getfield 433) 6 12 0 75 0, av_k 42 1 (.iconst 1) 1, av_a 43 1 .iadd, av_f 44 3 (.putfield 433) 6 12 0 75 0, av_b 47 (.goto (-47)) 0, av_a 50 1 .return_]
def tX6_nimberOf : List av_I := [av_k 0 1 (.iconst 0) 0, av_a 1 1 (.istore_n 2), av_k 2 1 (.iconst 1) 1, av_a 3 1 (.istore_n 3), av_a 4 1 (.iload_n 3), av_k 5 1 (.iconst 2) 2, av_b 6 (.if_icmp .gt 50) 56, av_k 9 1 (.iconst 0) 0, av_a 10 2 (.istore 4), av_a 12 2 (.iload 4), av_a 14 1 (.iload_n 1), av_a 15 1 (.iload_n 3), av_a 16 1 .isub, av_b 17 (.if_icmp .gt 33) 50, av_a 20 1 (.iload_n 2), av_k 21 1 (.iconst 1) 1, av_a 22 1 (.aload_n 0), av_f 23 3 (.getfield 69) 6 11 0 74 0, av_a 26 2 (.iload 4), av_a 28 1 .iaload, av_a 29 1 (.aload_n 0), av_f 30 3 (.getfield 69) 6 11 0 74 0, av_a 33 1 (.iload_n 1), av_a 34 1 (.iload_n 3), av_a 35 1 .isub, av_a 36 2 (.iload 4), av_a 38 1 .isub, av_a 39 1 .iaload, av_a 40 1 .ixor, av_a 41 1 .ishl, av_a 42 1 .ior, av_a 43 1 (.istore_n 2), av_k 44 3 (.iinc 4 1) 1, av_b 47 (.goto (-35)) 12, av_k 50 3 (.iinc 3 1) 1, av_b 53 (.goto (-49)) 4, av_k 56 1 (.iconst 0) 0, av_a 57 1 (.istore_n 3), av_k 58 1 (.iconst 0) 0, av_a 59 2 (.istore 4), av_a 61 2 (.iload 4), av_k 63 2 (.bipush 31) 31, av_b 65 (.if_icmp .ge 20) 85, av_a 68 1 (.iload_n 2), av_a 69 1 (.iload_n 3), av_f 70 3 (.invokestatic 221) 108 2 1 68 6, av_b 73 (.ifCond .eq 12) 85, av_k 76 3 (.iinc 3 1) 1, av_k 79 3 (.iinc 4 1) 1, av_b 82 (.goto (-21)) 61, av_a 85 1 (.iload_n 3), av_f 86 1 .ireturn 0 0 0 0 0]
def tX6_isBestAgainst : List av_I := [av_a 0 1 (.iload_n 0), av_a 1 1 (.iload_n 1), av_a 2 1 (.iload_n 2), av_f 3 3 (.invokestatic 439) 153 3 1 156 6, av_a 6 1 (.istore_n 3), av_k 7 1 (.iconst 0) 0, av_a 8 2 (.istore 4), av_a 10 2 (.iload 4), av_k 12 2 (.bipush 9) 9, av_b 14 (.if_icmp .gt 22) 36, av_a 17 2 (.iload 4), av_a 19 1 (.iload_n 1), av_a 20 1 (.iload_n 2), av_f 21 3 (.invokestatic 439) 153 3 1 156 6, av_a 24 1 (.iload_n 3), av_b 25 (.if_icmp .le 5) 30, av_k 28 1 (.iconst 0) 0, av_f 29 1 .ireturn 1 0 0 0 0, av_k 30 3 (.iinc 4 1) 1, av_b 33 (.goto (-23)) 10, av_k 36 1 (.iconst 1) 1, av_f 37 1 .ireturn 1 0 0 0 0]
def tX6_gain : List av_I := [av_a 0 1 (.iload_n 0), av_a 1 1 (.iload_n 1), av_b 2 (.if_icmp .ne 9) 11, av_a 5 1 (.iload_n 2), av_k 6 1 (.iconst 2) 2, av_a 7 1 .idiv, av_a 8 1 (.iload_n 0), av_a 9 1 .isub, av_f 10 1 .ireturn 0 0 0 0 0, av_a 11 1 (.iload_n 0), av_a 12 1 (.iload_n 1), av_b 13 (.if_icmp .ge 8) 21, av_a 16 1 (.iload_n 0), av_a 17 1 .ineg, av_b 18 (.goto 12) 30, av_a 21 1 (.iload_n 2), av_a 22 1 (.iload_n 1), av_a 23 1 .isub, av_a 24 1 (.iload_n 0), av_a 25 1 (.iload_n 1), av_a 26 1 .isub, av_k 27 1 (.iconst 3) 3, av_a 28 1 .idiv, av_a 29 1 .isub, av_f 30 1 .ireturn 0 0 0 0 0]
def tX6_draw : List av_I := [av_a 0 1 (.aload_n 0), av_a 1 1 (.aload_n 0), av_f 2 3 (.getfield 362) 6 13 0 76 0, av_kk 5 3 (.ldc_w 442) 1103515245 3, av_a 8 1 .imul, av_k 9 3 (.sipush 12345) 12345, av_a 12 1 .iadd, av_f 13 3 (.putfield 362) 6 13 0 76 0, av_a 16 1 (.iload_n 1), av_k 17 1 (.iconst 1) 1, av_b 18 (.if_icmp .ge 7) 25, av_k 21 1 (.iconst 0) 0, av_b 22 (.goto 12) 34, av_a 25 1 (.aload_n 0), av_f 26 3 (.getfield 362) 6 13 0 76 0, av_k 29 2 (.bipush 16) 16, av_a 31 1 .iushr, av_a 32 1 (.iload_n 1), av_a 33 1 .irem, av_f 34 1 .ireturn 0 0 0 0 0]
def tX6_drawOne : List av_I := [av_a 0 1 (.aload_n 0), av_k 1 1 (.iconst 4) 4, av_f 2 3 (.invokevirtual 443) 154 1 1 159 6, av_a 5 1 (.istore_n 1), av_a 6 1 (.iload_n 1), av_k 7 1 (.iconst 2) 2, av_b 8 (.if_icmp .ge 17) 25, av_a 11 1 (.aload_n 0), av_f 12 3 (.getfield 30) 6 3 0 66 0, av_a 15 1 (.aload_n 0), av_f 16 3 (.getfield 36) 6 4 0 67 0, av_f 19 3 (.invokevirtual 212) 43 1 0 37 4, av_b 22 (.goto 60) 82, av_a 25 1 (.aload_n 0), av_f 26 3 (.getfield 30) 6 3 0 66 0, av_f 29 3 (.getfield 133) 4 6 0 24 0, av_b 32 (.ifCond .le 50) 82, av_a 35 1 (.aload_n 0), av_a 36 1 (.aload_n 0), av_f 37 3 (.getfield 30) 6 3 0 66 0, av_f 40 3 (.getfield 133) 4 6 0 24 0, av_f 43 3 (.invokevirtual 443) 154 1 1 159 6, av_a 46 1 (.istore_n 2), av_a 47 1 (.aload_n 0), av_k 48 2 (.bipush 10) 10, av_f 50 3 (.invokevirtual 443) 154 1 1 159 6, av_a 53 1 (.istore_n 3), av_a 54 1 (.iload_n 1), av_k 55 1 (.iconst 2) 2, av_b 56 (.if_icmp .ne 16) 72, av_a 59 1 (.aload_n 0), av_f 60 3 (.getfield 30) 6 3 0 66 0, av_f 63 3 (.getfield 114) 4 3 0 17 0, av_a 66 1 (.iload_n 2), av_a 67 1 (.iload_n 3), av_a 68 1 .iastore, av_b 69 (.goto 13) 82, av_a 72 1 (.aload_n 0), av_f 73 3 (.getfield 30) 6 3 0 66 0, av_f 76 3 (.getfield 117) 4 4 0 19 0, av_a 79 1 (.iload_n 2), av_a 80 1 (.iload_n 3), av_a 81 1 .iastore, av_a 82 1 .return_]
def tX7_thrown : List av_I := [av_a 0 1 (.aload_n 0), av_f 1 3 (.getfield 3) 7 0 0 77 0, av_f 4 1 .ireturn 0 0 0 0 0]
def tX7_refuse : List av_I := [av_a 0 1 (.aload_n 0), av_k 1 1 (.iconst 1) 1, av_f 2 3 (.putfield 3) 7 0 0 77 0, av_k 5 1 (.iconst 0) 0, av_f 6 1 .ireturn 0 0 0 0 0]
def tX7_in : List av_I := [av_a 0 1 (.lload_n 0), av_a 1 1 (.lload_n 2), av_a 2 1 .lcmp, av_b 3 (.ifCond .lt 14) 17, av_a 6 1 (.lload_n 0), av_a 7 2 (.lload 4), av_a 9 1 .lcmp, av_b 10 (.ifCond .gt 7) 17, av_k 13 1 (.iconst 1) 1, av_b 14 (.goto 4) 18, av_k 17 1 (.iconst 0) 0, av_f 18 1 .ireturn 1 0 0 0 0]
def tX7_has : List av_I := [av_a 0 1 (.iload_n 0), av_a 1 1 (.iload_n 1), av_a 2 1 .ishr, av_k 3 1 (.iconst 1) 1, av_a 4 1 .iand, av_k 5 1 (.iconst 1) 1, av_b 6 (.if_icmp .ne 7) 13, av_k 9 1 (.iconst 1) 1, av_b 10 (.goto 4) 14, av_k 13 1 (.iconst 0) 0, av_f 14 1 .ireturn 1 0 0 0 0]
def tX7_flag : List av_I := [av_a 0 1 (.iload_n 0), av_b 1 (.ifCond .eq 7) 8, av_k 4 1 (.iconst 1) 1, av_b 5 (.goto 4) 9, av_k 8 1 (.iconst 0) 0, av_f 9 1 .ireturn 0 0 0 0 0]
def tX7_common : List av_I := [av_a 0 1 (.lload_n 2), av_l 1 1 (.lconst 0) 0 0, av_a 2 1 .lcmp, av_b 3 (.ifCond .ne 7) 10, av_a 6 1 (.lload_n 0), av_b 7 (.goto 10) 17, av_a 10 1 (.lload_n 2), av_a 11 1 (.lload_n 0), av_a 12 1 (.lload_n 2), av_a 13 1 .lrem, av_f 14 3 (.invokestatic 7) 161 2 2 251 7, av_a 17 1 .lreturn]
def tX7_enters : List av_I := [av_a 0 1 (.aload_n 0), av_f 1 3 (.getfield 11) 7 2 0 79 0, av_a 4 1 (.aload_n 0), av_f 5 3 (.getfield 15) 7 1 0 78 0, av_a 8 1 (.lload_n 1), av_a 9 1 .lastore, av_a 10 1 (.aload_n 0), av_a 11 1 .dup, av_f 12 3 (.getfield 15) 7 1 0 78 0, av_k 15 1 (.iconst 1) 1, av_a 16 1 .iadd, av_f 17 3 (.putfield 15) 7 1 0 78 0, av_a 20 1 .return_]
def tX7_entersFraction : List av_I := [av_a 0 1 (.lload_n 1), av_a 1 1 (.lload_n 3), av_f 2 3 (.invokestatic 7) 161 2 2 251 7, av_a 5 2 (.lstore 5), av_a 7 1 (.aload_n 0), av_k 8 1 (.iconst 0) 0, av_f 9 3 (.putfield 15) 7 1 0 78 0, av_a 12 1 (.aload_n 0), av_a 13 1 (.lload_n 1), av_a 14 2 (.lload 5), av_a 16 1 .ldiv, av_f 17 3 (.invokevirtual 18) 162 1 0 214 7, av_a 20 1 (.aload_n 0), av_a 21 1 (.lload_n 3), av_a 22 2 (.lload 5), av_a 24 1 .ldiv, av_f 25 3 (.invokevirtual 18) 162 1 0 214 7, av_k 28 1 (.iconst 0) 0, av_f 29 1 .ireturn 0 0 0 0 0]
def tX7_isOne : List av_I := [av_a 0 1 (.iload_n 1), av_a 1 1 .i2l, av_l 2 1 (.lconst 0) 0 0, av_a 3 1 (.aload_n 0), av_f 4 3 (.getfield 120) 7 3 0 80 0, av_k 7 1 (.iconst 1) 1, av_a 8 1 .isub, av_a 9 1 .i2l, av_f 10 3 (.invokestatic 123) 158 3 1 175 7, av_f 13 1 .ireturn 1 0 0 0 0]
def tX7_all : List av_I := [av_k 0 1 (.iconst 1) 1, av_a 1 1 (.aload_n 0), av_f 2 3 (.getfield 120) 7 3 0 80 0, av_a 5 1 .ishl, av_k 6 1 (.iconst 1) 1, av_a 7 1 .isub, av_f 8 1 .ireturn 0 0 0 0 0]
def tX7_holding : List av_I := [av_a 0 1 (.aload_n 0), av_f 1 3 (.invokevirtual 127) 165 0 1 200 7, av_a 4 1 (.aload_n 1), av_k 5 2 (.bipush 28) 28, av_a 7 1 .iaload, av_k 8 1 (.iconst (-1)) (-1), av_a 9 1 .ixor, av_a 10 1 .iand, av_a 11 1 (.aload_n 1), av_k 12 2 (.bipush 29) 29, av_a 14 1 .iaload, av_k 15 1 (.iconst (-1)) (-1), av_a 16 1 .ixor, av_a 17 1 .iand, av_f 18 1 .ireturn 0 0 0 0 0]
def tX7_lack : List av_I := [av_a 0 1 (.aload_n 0), av_k 1 2 (.bipush 30) 30, av_a 3 1 .iaload, av_a 4 1 (.aload_n 0), av_k 5 2 (.bipush 14) 14, av_a 7 1 (.iload_n 1), av_a 8 1 .iadd, av_a 9 1 .iaload, av_a 10 1 .isub, av_a 11 1 (.aload_n 0), av_k 12 2 (.bipush 21) 21, av_a 14 1 (.iload_n 1), av_a 15 1 .iadd, av_a 16 1 .iaload, av_a 17 1 .isub, av_f 18 1 .ireturn 0 0 0 0 0]
def tX7_taut : List av_I := [av_k 0 1 (.iconst 0) 0, av_a 1 1 (.istore_n 2), av_k 2 1 (.iconst 0) 0, av_a 3 1 (.istore_n 3), av_a 4 1 (.iload_n 3), av_a 5 1 (.aload_n 0), av_f 6 3 (.getfield 120) 7 3 0 80 0, av_b 9 (.if_icmp .ge 39) 48, av_a 12 1 (.iload_n 2), av_a 13 1 (.aload_n 0), av_a 14 1 (.aload_n 1), av_f 15 3 (.invokevirtual 131) 166 1 1 199 7, av_a 18 1 (.iload_n 3), av_f 19 3 (.invokestatic 135) 159 2 1 196 7, av_b 22 (.ifCond .eq 17) 39, av_a 25 1 (.aload_n 1), av_a 26 1 (.iload_n 3), av_f 27 3 (.invokestatic 139) 167 2 1 197 7, av_b 30 (.ifCond .lt 9) 39, av_k 33 1 (.iconst 1) 1, av_a 34 1 (.iload_n 3), av_a 35 1 .ishl, av_b 36 (.goto 4) 40, av_k 39 1 (.iconst 0) 0, av_a 40 1 .ior, av_a 41 1 (.istore_n 2), av_k 42 3 (.iinc 3 1) 1, av_b 45 (.goto (-41)) 4, av_a 48 1 (.iload_n 2), av_f 49 1 .ireturn 0 0 0 0 0]
def tX7_counts : List av_I := [av_k 0 1 (.iconst 0) 0, av_a 1 1 (.istore_n 2), av_k 2 1 (.iconst 0) 0, av_a 3 1 (.istore_n 3), av_a 4 1 (.iload_n 3), av_a 5 1 (.aload_n 0), av_f 6 3 (.getfield 120) 7 3 0 80 0, av_b 9 (.if_icmp .ge 30) 39, av_a 12 1 (.iload_n 2), av_a 13 1 (.iload_n 1), av_a 14 1 (.iload_n 3), av_f 15 3 (.invokestatic 135) 159 2 1 196 7, av_b 18 (.ifCond .eq 12) 30, av_a 21 1 (.aload_n 0), av_f 22 3 (.getfield 32) 7 6 0 83 0, av_a 25 1 (.iload_n 3), av_a 26 1 .iaload, av_b 27 (.goto 4) 31, av_k 30 1 (.iconst 0) 0, av_a 31 1 .iadd, av_a 32 1 (.istore_n 2), av_k 33 3 (.iinc 3 1) 1, av_b 36 (.goto (-32)) 4, av_a 39 1 (.iload_n 2), av_f 40 1 .ireturn 0 0 0 0 0]
def tX7_dragOf : List av_I := [av_a 0 1 (.aload_n 0), av_a 1 1 (.aload_n 0), av_a 2 1 (.aload_n 1), av_f 3 3 (.invokevirtual 143) 168 1 1 213 7, av_f 6 3 (.invokevirtual 146) 169 1 1 206 7, av_k 9 1 (.iconst 5) 5, av_a 10 1 .idiv, av_f 11 1 .ireturn 0 0 0 0 0]
def tX7_reelsOf : List av_I := [av_k 0 1 (.iconst 0) 0, av_a 1 1 (.istore_n 2), av_k 2 1 (.iconst 0) 0, av_a 3 1 (.istore_n 3), av_a 4 1 (.iload_n 3), av_a 5 1 (.aload_n 0), av_f 6 3 (.getfield 120) 7 3 0 80 0, av_b 9 (.if_icmp .ge 15) 24, av_a 12 1 (.iload_n 2), av_a 13 1 (.aload_n 1), av_a 14 1 (.iload_n 3), av_a 15 1 .iaload, av_a 16 1 .iadd, av_a 17 1 (.istore_n 2), av_k 18 3 (.iinc 3 1) 1, av_b 21 (.goto (-17)) 4, av_a 24 1 (.iload_n 2), av_f 25 1 .ireturn 0 0 0 0 0]
def tX7_copies : List av_I := [av_k 0 1 (.iconst 0) 0, av_a 1 1 (.istore_n 2), av_a 2 1 (.iload_n 2), av_k 3 2 (.bipush 33) 33, av_b 5 (.if_icmp .ge 15) 20, av_a 8 1 (.aload_n 0), av_a 9 1 (.iload_n 2), av_a 10 1 (.aload_n 1), av_a 11 1 (.iload_n 2), av_a 12 1 .iaload, av_a 13 1 .iastore, av_k 14 3 (.iinc 2 1) 1, av_b 17 (.goto (-15)) 2, av_a 20 1 .return_]
def tX7_sign : List av_I := [av_a 0 1 (.aload_n 0), av_k 1 1 (.iconst 0) 0, av_f 2 3 (.putfield 3) 7 0 0 77 0, av_a 5 1 (.aload_n 0), av_f 6 3 (.getfield 150) 7 10 0 87 0, av_k 9 2 (.bipush 76) 76, av_b 11 (.if_icmp .le 5) 16, av_k 14 1 (.iconst (-1)) (-1), av_f 15 1 .ireturn 0 0 0 0 0, av_k 16 1 (.iconst 0) 0, av_a 17 1 (.istore_n 2), av_a 18 1 (.iload_n 2), av_k 19 1 (.iconst 4) 4, av_b 20 (.if_icmp .ge 33) 53, av_a 23 1 (.aload_n 0), av_f 24 3 (.getfield 41) 7 9 0 86 0, av_a 27 1 (.aload_n 0), av_f 28 3 (.getfield 150) 7 10 0 87 0, av_a 31 1 (.iload_n 2), av_a 32 1 .iadd, av_a 33 1 (.iload_n 1), av_k 34 2 (.bipush 24) 24, av_k 36 2 (.bipush 8) 8, av_a 38 1 (.iload_n 2), av_a 39 1 .imul, av_a 40 1 .isub, av_a 41 1 .ishr, av_k 42 3 (.sipush 255) 255, av_a 45 1 .iand, av_a 46 1 .iastore, av_k 47 3 (.iinc 2 1) 1, av_b 50 (.goto (-32)) 18, av_a 53 1 (.aload_n 0), av_a 54 1 .dup, av_f 55 3 (.getfield 150) 7 10 0 87 0, av_k 58 1 (.iconst 4) 4, av_a 59 1 .iadd, av_f 60 3 (.putfield 150) 7 10 0 87 0, av_a 63 1 (.aload_n 0), av_f 64 3 (.getfield 150) 7 10 0 87 0, av_f 67 1 .ireturn 0 0 0 0 0]
def tX7_end : List av_I := [av_a 0 1 (.aload_n 0), av_k 1 1 (.iconst 0) 0, av_f 2 3 (.putfield 3) 7 0 0 77 0, av_a 5 1 (.iload_n 1), av_a 6 1 .i2l, av_l 7 1 (.lconst 0) 0 0, av_a 8 1 (.aload_n 0), av_f 9 3 (.getfield 150) 7 10 0 87 0, av_a 12 1 .i2l, av_f 13 3 (.invokestatic 123) 158 3 1 175 7, av_b 16 (.ifCond .ne 5) 21, av_k 19 1 (.iconst 0) 0, av_f 20 1 .ireturn 1 0 0 0 0, av_a 21 1 (.aload_n 0), av_a 22 1 (.iload_n 1), av_f 23 3 (.putfield 150) 7 10 0 87 0, av_k 26 1 (.iconst 1) 1, av_f 27 1 .ireturn 1 0 0 0 0]
def tX7_begins : List av_I := [av_a 0 1 (.aload_n 0), av_f 1 3 (.getfield 150) 7 10 0 87 0, av_a 4 1 (.istore_n 2), av_a 5 1 (.aload_n 0), av_k 6 1 (.iconst 0) 0, av_f 7 3 (.putfield 150) 7 10 0 87 0, av_a 10 1 (.aload_n 0), av_k 11 1 (.iconst 0) 0, av_f 12 3 (.putfield 153) 7 11 0 88 0, av_a 15 1 (.aload_n 0), av_k 16 1 (.iconst 0) 0, av_f 17 3 (.putfield 156) 7 13 0 90 0, av_a 20 1 (.aload_n 0), av_a 21 1 (.iload_n 2), av_a 22 1 (.iload_n 1), av_f 23 3 (.invokestatic 159) 0 0 11 7 0, av_f 26 3 (.putfield 165) 7 12 0 89 0, av_a 29 1 (.iload_n 2), av_f 30 1 .ireturn 0 0 0 0 0]
def tX7_takes : List av_I := [av_a 0 1 (.aload_n 0), av_f 1 3 (.getfield 153) 7 11 0 88 0, av_a 4 1 (.aload_n 0), av_f 5 3 (.getfield 165) 7 12 0 89 0, av_b 8 (.if_icmp .ge 20) 28, av_a 11 1 (.aload_n 0), av_f 12 3 (.getfield 41) 7 9 0 86 0, av_a 15 1 (.aload_n 0), av_f 16 3 (.getfield 153) 7 11 0 88 0, av_a 19 1 .iaload, av_a 20 1 (.iload_n 1), av_b 21 (.if_icmp .ne 7) 28, av_k 24 1 (.iconst 1) 1, av_b 25 (.goto 4) 29, av_k 28 1 (.iconst 0) 0, av_a 29 1 (.istore_n 2), av_a 30 1 (.aload_n 0), av_a 31 1 .dup, av_f 32 3 (.getfield 153) 7 11 0 88 0, av_a 35 1 (.iload_n 2), av_f 36 3 (.invokestatic 168) 160 1 1 185 7, av_a 39 1 .iadd, av_f 40 3 (.putfield 153) 7 11 0 88 0, av_a 43 1 (.iload_n 2), av_f 44 1 .ireturn 1 0 0 0 0]
def tX7_isDigit : List av_I := [av_a 0 1 (.aload_n 0), av_f 1 3 (.getfield 153) 7 11 0 88 0, av_a 4 1 (.aload_n 0), av_f 5 3 (.getfield 165) 7 12 0 89 0, av_b 8 (.if_icmp .ge 29) 37, av_a 11 1 (.aload_n 0), av_f 12 3 (.getfield 41) 7 9 0 86 0, av_a 15 1 (.aload_n 0), av_f 16 3 (.getfield 153) 7 11 0 88 0, av_a 19 1 .iaload, av_a 20 1 .i2l, av_l 21 3 (.ldc2_w 172) 48 4, av_l 24 3 (.ldc2_w 174) 57 5, av_f 27 3 (.invokestatic 123) 158 3 1 175 7, av_b 30 (.ifCond .eq 7) 37, av_k 33 1 (.iconst 1) 1, av_b 34 (.goto 4) 38, av_k 37 1 (.iconst 0) 0, av_f 38 1 .ireturn 1 0 0 0 0]
def tX7_takesOf : List av_I := [av_k 0 1 (.iconst 0) 0, av_a 1 1 (.istore_n 2), av_a 2 1 (.iload_n 2), av_a 3 1 (.aload_n 1), av_f 4 3 (.invokevirtual 176) 0 0 13 8 0, av_b 7 (.if_icmp .ge 49) 56, av_a 10 1 (.aload_n 0), av_f 11 3 (.getfield 153) 7 11 0 88 0, av_a 14 1 (.aload_n 0), av_f 15 3 (.getfield 165) 7 12 0 89 0, av_b 18 (.if_icmp .ge 38) 56, av_a 21 1 (.aload_n 1), av_a 22 1 (.iload_n 2), av_f 23 3 (.invokevirtual 181) 0 0 14 9 0, av_a 26 1 (.aload_n 0), av_f 27 3 (.getfield 41) 7 9 0 86 0, av_a 30 1 (.aload_n 0), av_f 31 3 (.getfield 153) 7 11 0 88 0, av_a 34 1 .iaload, av_b 35 (.if_icmp .ne 15) 50, av_a 38 1 (.aload_n 0), av_a 39 1 .dup, av_f 40 3 (.getfield 153) 7 11 0 88 0, av_k 43 1 (.iconst 1) 1, av_a 44 1 .iadd, av_f 45 3 (.putfield 153) 7 11 0 88 0, av_a 48 1 (.iload_n 2), av_f 49 1 .ireturn 0 0 0 0 0, av_k 50 3 (.iinc 2 1) 1, av_b 53 (.goto (-51)) 2, av_k 56 1 (.iconst (-1)) (-1), av_f 57 1 .ireturn 0 0 0 0 0]
def tX7_number : List av_I := [av_a 0 1 (.aload_n 0), av_f 1 3 (.invokevirtual 185) 177 0 1 183 7, av_b 4 (.ifCond .ne 5) 9, av_k 7 1 (.iconst (-1)) (-1), av_f 8 1 .ireturn 0 0 0 0 0, av_k 9 1 (.iconst 0) 0, av_a 10 1 (.istore_n 2), av_k 11 1 (.iconst 0) 0, av_a 12 1 (.istore_n 3), av_a 13 1 (.iload_n 3), av_a 14 1 (.iload_n 1), av_b 15 (.if_icmp .ge 44) 59, av_a 18 1 (.aload_n 0), av_f 19 3 (.invokevirtual 185) 177 0 1 183 7, av_b 22 (.ifCond .eq 37) 59, av_k 25 2 (.bipush 10) 10, av_a 27 1 (.iload_n 2), av_a 28 1 .imul, av_a 29 1 (.aload_n 0), av_f 30 3 (.getfield 41) 7 9 0 86 0, av_a 33 1 (.aload_n 0), av_f 34 3 (.getfield 153) 7 11 0 88 0, av_a 37 1 .iaload, av_a 38 1 .iadd, av_k 39 2 (.bipush 48) 48, av_a 41 1 .isub, av_a 42 1 (.istore_n 2), av_a 43 1 (.aload_n 0), av_a 44 1 .dup, av_f 45 3 (.getfield 153) 7 11 0 88 0, av_k 48 1 (.iconst 1) 1, av_a 49 1 .iadd, av_f 50 3 (.putfield 153) 7 11 0 88 0, av_k 53 3 (.iinc 3 1) 1, av_b 56 (.goto (-43)) 13, av_a 59 1 (.iload_n 2), av_f 60 1 .ireturn 0 0 0 0 0]
def tX7_digitIn : List av_I := [av_a 0 1 (.aload_n 0), av_f 1 3 (.getfield 153) 7 11 0 88 0, av_a 4 1 (.aload_n 0), av_f 5 3 (.getfield 165) 7 12 0 89 0, av_b 8 (.if_icmp .ge 26) 34, av_a 11 1 (.aload_n 0), av_f 12 3 (.getfield 41) 7 9 0 86 0, av_a 15 1 (.aload_n 0), av_f 16 3 (.getfield 153) 7 11 0 88 0, av_a 19 1 .iaload, av_k 20 2 (.bipush 48) 48, av_a 22 1 .isub, av_a 23 1 .i2l, av_a 24 1 (.iload_n 1), av_a 25 1 .i2l, av_a 26 1 (.iload_n 2), av_a 27 1 .i2l, av_f 28 3 (.invokestatic 123) 158 3 1 175 7, av_b 31 (.ifCond .ne 5) 36, av_k 34 1 (.iconst (-1)) (-1), av_f 35 1 .ireturn 0 0 0 0 0, av_a 36 1 (.aload_n 0), av_a 37 1 .dup, av_f 38 3 (.getfield 153) 7 11 0 88 0, av_k 41 1 (.iconst 1) 1, av_a 42 1 .iadd, av_f 43 3 (.putfield 153) 7 11 0 88 0, av_a 46 1 (.aload_n 0), av_f 47 3 (.getfield 41) 7 9 0 86 0, av_a 50 1 (.aload_n 0), av_f 51 3 (.getfield 153) 7 11 0 88 0, av_k 54 1 (.iconst 1) 1, av_a 55 1 .isub, av_a 56 1 .iaload, av_k 57 2 (.bipush 48) 48, av_a 59 1 .isub, av_f 60 1 .ireturn 0 0 0 0 0]
def tX7_twoDigits : List av_I := [av_a 0 1 (.aload_n 0), av_k 1 1 (.iconst 1) 1, av_f 2 3 (.invokevirtual 189) 179 1 1 182 7, av_a 5 1 (.istore_n 1), av_a 6 1 (.iload_n 1), av_b 7 (.ifCond .ge 7) 14, av_k 10 1 (.iconst (-1)) (-1), av_b 11 (.goto 8) 19, av_a 14 1 (.aload_n 0), av_k 15 1 (.iconst 1) 1, av_f 16 3 (.invokevirtual 189) 179 1 1 182 7, av_a 19 1 (.istore_n 2), av_a 20 1 (.iload_n 2), av_b 21 (.ifCond .ge 7) 28, av_k 24 1 (.iconst (-1)) (-1), av_b 25 (.goto 9) 34, av_k 28 2 (.bipush 10) 10, av_a 30 1 (.iload_n 1), av_a 31 1 .imul, av_a 32 1 (.iload_n 2), av_a 33 1 .iadd, av_f 34 1 .ireturn 0 0 0 0 0]
def tX7_faultOf : List av_I := [av_a 0 1 (.iload_n 3), av_b 1 (.ifCond .eq 18) 19, av_a 4 1 (.aload_n 0), av_f 5 3 (.getfield 153) 7 11 0 88 0, av_a 8 1 (.aload_n 0), av_f 9 3 (.getfield 165) 7 12 0 89 0, av_b 12 (.if_icmp .ne 7) 19, av_k 15 1 (.iconst 1) 1, av_b 16 (.goto 4) 20, av_k 19 1 (.iconst 0) 0, av_a 20 2 (.istore 4), av_a 22 1 (.iload_n 1), av_a 23 1 (.iload_n 2), av_b 24 (.if_icmp .le 20) 44, av_a 27 2 (.iload 4), av_b 29 (.ifCond .ne 11) 40, av_a 32 1 (.aload_n 0), av_f 33 3 (.getfield 153) 7 11 0 88 0, av_a 36 1 (.iload_n 2), av_b 37 (.if_icmp .lt 7) 44, av_k 40 1 (.iconst (-1)) (-1), av_a 41 1 (.iload_n 2), av_a 42 1 .isub, av_f 43 1 .ireturn 0 0 0 0 0, av_a 44 2 (.iload 4), av_b 46 (.ifCond .eq 7) 53, av_k 49 1 (.iconst 0) 0, av_b 50 (.goto 9) 59, av_k 53 1 (.iconst (-1)) (-1), av_a 54 1 (.aload_n 0), av_f 55 3 (.getfield 153) 7 11 0 88 0, av_a 58 1 .isub, av_f 59 1 .ireturn 0 0 0 0 0]
def tX7_readsOne : List av_I := [av_a 0 1 (.aload_n 0), av_f 1 3 (.getfield 120) 7 3 0 80 0, av_a 4 1 (.aload_n 0), av_f 5 3 (.getfield 192) 7 15 0 92 0, av_a 8 1 .iadd, av_k 9 2 (.bipush 7) 7, av_b 11 (.if_icmp .ne 5) 16, av_k 14 1 (.iconst 0) 0, av_f 15 1 .ireturn 1 0 0 0 0, av_k 16 1 (.iconst 5) 5, av_a 17 1 (.aload_n 0), av_f 18 3 (.getfield 192) 7 15 0 92 0, av_a 21 1 .imul, av_a 22 1 (.istore_n 1), av_a 23 1 (.aload_n 0), av_f 24 3 (.getfield 44) 7 14 0 91 0, av_a 27 1 (.iload_n 1), av_a 28 1 (.aload_n 0), av_f 29 2 (.ldc 195) 92 0 1 0 0, av_f 31 3 (.invokevirtual 197) 178 1 1 179 7, av_a 34 1 .iastore, av_a 35 1 (.aload_n 0), av_f 36 3 (.getfield 44) 7 14 0 91 0, av_a 39 1 (.iload_n 1), av_k 40 1 (.iconst 1) 1, av_a 41 1 .iadd, av_a 42 1 (.aload_n 0), av_f 43 3 (.getfield 44) 7 14 0 91 0, av_a 46 1 (.iload_n 1), av_a 47 1 .iaload, av_b 48 (.ifCond .ge 7) 55, av_k 51 1 (.iconst (-1)) (-1), av_b 52 (.goto 10) 62, av_a 55 1 (.aload_n 0), av_k 56 1 (.iconst 1) 1, av_k 57 2 (.bipush 9) 9, av_f 59 3 (.invokevirtual 201) 180 2 1 180 7, av_a 62 1 .iastore, av_a 63 1 (.aload_n 0), av_f 64 3 (.getfield 44) 7 14 0 91 0, av_a 67 1 (.iload_n 1), av_k 68 1 (.iconst 2) 2, av_a 69 1 .iadd, av_a 70 1 (.aload_n 0), av_f 71 3 (.getfield 44) 7 14 0 91 0, av_a 74 1 (.iload_n 1), av_k 75 1 (.iconst 1) 1, av_a 76 1 .iadd, av_a 77 1 .iaload, av_b 78 (.ifCond .ge 7) 85, av_k 81 1 (.iconst (-1)) (-1), av_b 82 (.goto 7) 89, av_a 85 1 (.aload_n 0), av_f 86 3 (.invokevirtual 204) 181 0 1 181 7, av_a 89 1 .iastore, av_a 90 1 (.aload_n 0), av_f 91 3 (.getfield 44) 7 14 0 91 0, av_a 94 1 (.iload_n 1), av_k 95 1 (.iconst 3) 3, av_a 96 1 .iadd, av_a 97 1 (.aload_n 0), av_f 98 3 (.getfield 44) 7 14 0 91 0, av_a 101 1 (.iload_n 1), av_k 102 1 (.iconst 2) 2, av_a 103 1 .iadd, av_a 104 1 .iaload, av_b 105 (.ifCond .ge 7) 112, av_k 108 1 (.iconst (-1)) (-1), av_b 109 (.goto 8) 117, av_a 112 1 (.aload_n 0), av_k 113 1 (.iconst 1) 1, av_f 114 3 (.invokevirtual 189) 179 1 1 182 7, av_a 117 1 .iastore, av_a 118 1 (.aload_n 0), av_f 119 3 (.getfield 44) 7 14 0 91 0, av_a 122 1 (.iload_n 1), av_k 123 1 (.iconst 4) 4, av_a 124 1 .iadd, av_a 125 1 (.aload_n 0), av_f 126 3 (.getfield 44) 7 14 0 91 0, av_a 129 1 (.iload_n 1), av_k 130 1 (.iconst 3) 3, av_a 131 1 .iadd, av_a 132 1 .iaload, av_b 133 (.ifCond .ge 7) 140, av_k 136 1 (.iconst (-1)) (-1), av_b 137 (.goto 8) 145, av_a 140 1 (.aload_n 0), av_k 141 1 (.iconst 1) 1, av_f 142 3 (.invokevirtual 189) 179 1 1 182 7, av_a 145 1 .iastore, av_a 146 1 (.aload_n 0), av_a 147 1 .dup, av_f 148 3 (.getfield 192) 7 15 0 92 0, av_k 151 1 (.iconst 1) 1, av_a 152 1 .iadd, av_f 153 3 (.putfield 192) 7 15 0 92 0, av_a 156 1 (.aload_n 0), av_f 157 3 (.getfield 44) 7 14 0 91 0, av_a 160 1 (.iload_n 1), av_k 161 1 (.iconst 4) 4, av_a 162 1 .iadd, av_a 163 1 .iaload, av_b 164 (.ifCond .lt 7) 171, av_k 167 1 (.iconst 1) 1, av_b 168 (.goto 4) 172, av_k 171 1 (.iconst 0) 0, av_f 172 1 .ireturn 1 0 0 0 0]
def tX7_streamers : List av_I := [av_a 0 1 (.aload_n 0), av_k 1 1 (.iconst 0) 0, av_f 2 3 (.putfield 3) 7 0 0 77 0, av_a 5 1 (.aload_n 0), av_k 6 2 (.bipush 48) 48, av_f 8 3 (.invokevirtual 207) 175 1 1 177 7, av_a 11 1 (.istore_n 1), av_a 12 1 (.aload_n 0), av_k 13 1 (.iconst 0) 0, av_f 14 3 (.putfield 192) 7 15 0 92 0, av_k 17 1 (.iconst 1) 1, av_a 18 1 (.istore_n 2), av_a 19 1 (.iload_n 1), av_b 20 (.ifCond .le 7) 27, av_k 23 1 (.iconst 1) 1, av_b 24 (.goto 4) 28, av_k 27 1 (.iconst 0) 0, av_a 28 1 (.istore_n 3), av_a 29 1 (.iload_n 3), av_b 30 (.ifCond .eq 30) 60, av_a 33 1 (.aload_n 0), av_f 34 3 (.invokevirtual 210) 183 0 1 178 7, av_a 37 1 (.istore_n 2), av_a 38 1 (.iload_n 2), av_b 39 (.ifCond .eq 16) 55, av_a 42 1 (.aload_n 0), av_k 43 2 (.bipush 59) 59, av_f 45 3 (.invokevirtual 213) 176 1 1 184 7, av_b 48 (.ifCond .eq 7) 55, av_k 51 1 (.iconst 1) 1, av_b 52 (.goto 4) 56, av_k 55 1 (.iconst 0) 0, av_a 56 1 (.istore_n 3), av_b 57 (.goto (-28)) 29, av_a 60 1 (.aload_n 0), av_a 61 1 (.iload_n 1), av_k 62 2 (.bipush 48) 48, av_a 64 1 (.iload_n 2), av_f 65 3 (.invokevirtual 217) 182 3 1 186 7, av_a 68 2 (.istore 4), av_a 70 2 (.iload 4), av_b 72 (.ifCond .ge 6) 78, av_a 75 2 (.iload 4), av_f 77 1 .ireturn 0 0 0 0 0, av_k 78 1 (.iconst 0) 0, av_a 79 2 (.istore 5), av_a 81 2 (.iload 5), av_a 83 1 (.aload_n 0), av_f 84 3 (.getfield 192) 7 15 0 92 0, av_b 87 (.if_icmp .ge 123) 210, av_a 90 1 (.aload_n 0), av_f 91 3 (.getfield 28) 7 5 0 82 0, av_a 94 1 (.aload_n 0), av_f 95 3 (.getfield 120) 7 3 0 80 0, av_a 98 1 (.aload_n 0), av_f 99 3 (.getfield 44) 7 14 0 91 0, av_k 102 1 (.iconst 5) 5, av_a 103 2 (.iload 5), av_a 105 1 .imul, av_a 106 1 .iaload, av_a 107 1 .iastore, av_a 108 1 (.aload_n 0), av_f 109 3 (.getfield 32) 7 6 0 83 0, av_a 112 1 (.aload_n 0), av_f 113 3 (.getfield 120) 7 3 0 80 0, av_a 116 1 (.aload_n 0), av_f 117 3 (.getfield 44) 7 14 0 91 0, av_k 120 1 (.iconst 5) 5, av_a 121 2 (.iload 5), av_a 123 1 .imul, av_k 124 1 (.iconst 1) 1, av_a 125 1 .iadd, av_a 126 1 .iaload, av_a 127 1 .iastore, av_a 128 1 (.aload_n 0), av_f 129 3 (.getfield 35) 7 7 0 84 0, av_a 132 1 (.aload_n 0), av_f 133 3 (.getfield 120) 7 3 0 80 0, av_a 136 1 (.aload_n 0), av_f 137 3 (.getfield 44) 7 14 0 91 0, av_k 140 1 (.iconst 5) 5, av_a 141 2 (.iload 5), av_a 143 1 .imul, av_k 144 1 (.iconst 2) 2, av_a 145 1 .iadd, av_a 146 1 .iaload, av_a 147 1 .iastore, av_a 148 1 (.aload_n 0), av_f 149 3 (.getfield 35) 7 7 0 84 0, av_k 152 2 (.bipush 7) 7, av_a 154 1 (.aload_n 0), av_f 155 3 (.getfield 120) 7 3 0 80 0, av_a 158 1 .iadd, av_a 159 1 (.aload_n 0), av_f 160 3 (.getfield 44) 7 14 0 91 0, av_k 163 1 (.iconst 5) 5, av_a 164 2 (.iload 5), av_a 166 1 .imul, av_k 167 1 (.iconst 3) 3, av_a 168 1 .iadd, av_a 169 1 .iaload, av_a 170 1 .iastore, av_a 171 1 (.aload_n 0), av_f 172 3 (.getfield 35) 7 7 0 84 0, av_k 175 2 (.bipush 14) 14, av_a 177 1 (.aload_n 0), av_f 178 3 (.getfield 120) 7 3 0 80 0, av_a 181 1 .iadd, av_a 182 1 (.aload_n 0), av_f 183 3 (.getfield 44) 7 14 0 91 0, av_k 186 1 (.iconst 5) 5, av_a 187 2 (.iload 5), av_a 189 1 .imul, av_k 190 1 (.iconst 4) 4, av_a 191 1 .iadd, av_a 192 1 .iaload, av_a 193 1 .iastore, av_a 194 1 (.aload_n 0), av_a 195 1 .dup, av_f 196 3 (.getfield 120) 7 3 0 80 0, av_k 199 1 (.iconst 1) 1, av_a 200 1 .iadd, av_f 201 3 (.putfield 120) 7 3 0 80 0, av_k 204 3 (.iinc 5 1) 1, av_b 207 (.goto (-126)) 81, av_a 210 1 (.aload_n 0), av_a 211 1 (.aload_n 0), av_f 212 3 (.getfield 192) 7 15 0 92 0, av_b 215 (.ifCond .le 7) 222, av_k 218 1 (.iconst 0) 0, av_b 219 (.goto 7) 226, av_a 222 1 (.aload_n 0), av_f 223 3 (.getfield 221) 7 22 0 99 0, av_f 226 3 (.putfield 221) 7 22 0 99 0, av_a 229 1 (.aload_n 0), av_a 230 1 .dup, av_f 231 3 (.getfield 224) 7 4 0 81 0, av_a 234 1 (.aload_n 0), av_f 235 3 (.getfield 192) 7 15 0 92 0, av_b 238 (.ifCond .le 7) 245, av_k 241 1 (.iconst 1) 1, av_b 242 (.goto 4) 246, av_k 245 1 (.iconst 0) 0, av_f 246 3 (.invokestatic 168) 160 1 1 185 7, av_a 249 1 .iadd, av_f 250 3 (.putfield 224) 7 4 0 81 0, av_a 253 1 (.aload_n 0), av_f 254 3 (.getfield 192) 7 15 0 92 0, av_f 257 1 .ireturn 0 0 0 0 0]
def tX7_codes : List av_I := [av_a 0 1 (.aload_n 0), av_f 1 3 (.getfield 50) 7 17 0 94 0, av_a 4 1 (.aload_n 0), av_f 5 3 (.getfield 227) 7 19 0 96 0, av_a 8 1 (.iload_n 1), av_a 9 1 .iastore, av_a 10 1 (.aload_n 0), av_a 11 1 .dup, av_f 12 3 (.getfield 227) 7 19 0 96 0, av_k 15 1 (.iconst 1) 1, av_a 16 1 .iadd, av_f 17 3 (.putfield 227) 7 19 0 96 0, av_a 20 1 .return_]
def tX7_readsThing : List av_I := [av_a 0 1 (.aload_n 0), av_k 1 2 (.bipush 45) 45, av_f 3 3 (.invokevirtual 213) 176 1 1 184 7, av_b 6 (.ifCond .eq 17) 23, av_a 9 1 (.aload_n 0), av_f 10 3 (.invokevirtual 230) 186 0 1 190 7, av_a 13 1 (.istore_n 1), av_a 14 1 (.aload_n 0), av_k 15 3 (.sipush 3000) 3000, av_f 18 3 (.invokevirtual 233) 185 1 0 191 7, av_a 21 1 (.iload_n 1), av_f 22 1 .ireturn 1 0 0 0 0, av_a 23 1 (.aload_n 0), av_f 24 3 (.invokevirtual 185) 177 0 1 183 7, av_b 27 (.ifCond .eq 14) 41, av_a 30 1 (.aload_n 0), av_a 31 1 (.aload_n 0), av_k 32 1 (.iconst 3) 3, av_f 33 3 (.invokevirtual 189) 179 1 1 182 7, av_f 36 3 (.invokevirtual 233) 185 1 0 191 7, av_k 39 1 (.iconst 1) 1, av_f 40 1 .ireturn 1 0 0 0 0, av_a 41 1 (.aload_n 0), av_f 42 2 (.ldc 237) 93 0 1 1 0, av_f 44 3 (.invokevirtual 197) 178 1 1 179 7, av_a 47 1 (.istore_n 1), av_a 48 1 (.iload_n 1), av_b 49 (.ifCond .lt 14) 63, av_a 52 1 (.aload_n 0), av_k 53 3 (.sipush 1000) 1000, av_a 56 1 (.iload_n 1), av_a 57 1 .iadd, av_f 58 3 (.invokevirtual 233) 185 1 0 191 7, av_k 61 1 (.iconst 1) 1, av_f 62 1 .ireturn 1 0 0 0 0, av_a 63 1 (.aload_n 0), av_f 64 3 (.getfield 156) 7 13 0 90 0, av_k 67 1 (.iconst 4) 4, av_b 68 (.if_icmp .eq 12) 80, av_a 71 1 (.aload_n 0), av_k 72 2 (.bipush 40) 40, av_f 74 3 (.invokevirtual 213) 176 1 1 184 7, av_b 77 (.ifCond .ne 5) 82, av_k 80 1 (.iconst 0) 0, av_f 81 1 .ireturn 1 0 0 0 0, av_a 82 1 (.aload_n 0), av_a 83 1 .dup, av_f 84 3 (.getfield 156) 7 13 0 90 0, av_k 87 1 (.iconst 1) 1, av_a 88 1 .iadd, av_f 89 3 (.putfield 156) 7 13 0 90 0, av_a 92 1 (.aload_n 0), av_k 93 1 (.iconst 0) 0, av_f 94 3 (.invokevirtual 239) 187 1 1 189 7, av_b 97 (.ifCond .eq 12) 109, av_a 100 1 (.aload_n 0), av_k 101 2 (.bipush 41) 41, av_f 103 3 (.invokevirtual 213) 176 1 1 184 7, av_b 106 (.ifCond .ne 5) 111, av_k 109 1 (.iconst 0) 0, av_f 110 1 .ireturn 1 0 0 0 0, av_a 111 1 (.aload_n 0), av_a 112 1 .dup, av_f 113 3 (.getfield 156) 7 13 0 90 0, av_k 116 1 (.iconst 1) 1, av_a 117 1 .isub, av_f 118 3 (.putfield 156) 7 13 0 90 0, av_k 121 1 (.iconst 1) 1, av_f 122 1 .ireturn 1 0 0 0 0]
def tX7_readsRank : List av_I := [av_a 0 1 (.iload_n 1), av_k 1 1 (.iconst 3) 3, av_b 2 (.if_icmp .ne 8) 10, av_a 5 1 (.aload_n 0), av_f 6 3 (.invokevirtual 230) 186 0 1 190 7, av_f 9 1 .ireturn 1 0 0 0 0, av_a 10 1 (.aload_n 0), av_a 11 1 (.iload_n 1), av_k 12 1 (.iconst 1) 1, av_a 13 1 .iadd, av_f 14 3 (.invokevirtual 239) 187 1 1 189 7, av_b 17 (.ifCond .ne 5) 22, av_k 20 1 (.iconst 0) 0, av_f 21 1 .ireturn 1 0 0 0 0, av_k 22 1 (.iconst 1) 1, av_a 23 1 (.istore_n 2), av_a 24 1 (.iload_n 2), av_b 25 (.ifCond .eq 88) 113, av_a 28 1 (.aload_n 0), av_a 29 1 (.iload_n 1), av_b 30 (.ifCond .ne 8) 38, av_f 33 2 (.ldc 242) 94 0 1 2 0, av_b 35 (.goto 15) 50, av_a 38 1 (.iload_n 1), av_k 39 1 (.iconst 1) 1, av_b 40 (.if_icmp .ne 8) 48, av_f 43 2 (.ldc 244) 95 0 1 3 0, av_b 45 (.goto 5) 50, av_f 48 2 (.ldc 246) 96 0 1 4 0, av_f 50 3 (.invokevirtual 197) 178 1 1 179 7, av_a 53 1 (.istore_n 3), av_a 54 1 (.iload_n 3), av_b 55 (.ifCond .ge 5) 60, av_k 58 1 (.iconst 1) 1, av_f 59 1 .ireturn 1 0 0 0 0, av_a 60 1 (.aload_n 0), av_a 61 1 (.iload_n 1), av_k 62 1 (.iconst 1) 1, av_a 63 1 .iadd, av_f 64 3 (.invokevirtual 239) 187 1 1 189 7, av_b 67 (.ifCond .ne 5) 72, av_k 70 1 (.iconst 0) 0, av_f 71 1 .ireturn 1 0 0 0 0, av_a 72 1 (.aload_n 0), av_k 73 3 (.sipush 2000) 2000, av_a 76 1 (.iload_n 3), av_a 77 1 .iadd, av_a 78 1 (.iload_n 1), av_b 79 (.ifCond .ne 7) 86, av_k 82 1 (.iconst 0) 0, av_b 83 (.goto 13) 96, av_a 86 1 (.iload_n 1), av_k 87 1 (.iconst 1) 1, av_b 88 (.if_icmp .ne 7) 95, av_k 91 1 (.iconst 3) 3, av_b 92 (.goto 4) 96, av_k 95 1 (.iconst 5) 5, av_a 96 1 .iadd, av_f 97 3 (.invokevirtual 233) 185 1 0 191 7, av_a 100 1 (.iload_n 1), av_b 101 (.ifCond .le 7) 108, av_k 104 1 (.iconst 1) 1, av_b 105 (.goto 4) 109, av_k 108 1 (.iconst 0) 0, av_a 109 1 (.istore_n 2), av_b 110 (.goto (-86)) 24, av_k 113 1 (.iconst 1) 1, av_f 114 1 .ireturn 1 0 0 0 0]
def tX7_readsRule : List av_I := [av_a 0 1 (.aload_n 0), av_k 1 2 (.bipush 40) 40, av_f 3 3 (.invokevirtual 207) 175 1 1 177 7, av_a 6 1 (.istore_n 1), av_a 7 1 (.aload_n 0), av_k 8 1 (.iconst 0) 0, av_f 9 3 (.putfield 227) 7 19 0 96 0, av_a 12 1 (.iload_n 1), av_b 13 (.ifCond .eq 11) 24, av_a 16 1 (.aload_n 0), av_k 17 1 (.iconst 0) 0, av_f 18 3 (.invokevirtual 239) 187 1 1 189 7, av_b 21 (.ifCond .eq 7) 28, av_k 24 1 (.iconst 1) 1, av_b 25 (.goto 4) 29, av_k 28 1 (.iconst 0) 0, av_a 29 1 (.istore_n 2), av_a 30 1 (.aload_n 0), av_a 31 1 (.iload_n 1), av_k 32 2 (.bipush 40) 40, av_a 34 1 (.iload_n 2), av_f 35 3 (.invokevirtual 217) 182 3 1 186 7, av_f 38 1 .ireturn 0 0 0 0 0]
def tX7_laysCode : List av_I := [av_a 0 1 (.aload_n 0), av_a 1 1 (.iload_n 2), av_f 2 3 (.putfield 248) 7 18 0 95 0, av_k 5 1 (.iconst 0) 0, av_a 6 1 (.istore_n 3), av_a 7 1 (.iload_n 3), av_a 8 1 (.iload_n 2), av_b 9 (.if_icmp .ge 18) 27, av_a 12 1 (.aload_n 0), av_f 13 3 (.getfield 47) 7 16 0 93 0, av_a 16 1 (.iload_n 3), av_a 17 1 (.aload_n 1), av_a 18 1 (.iload_n 3), av_a 19 1 .iaload, av_a 20 1 .iastore, av_k 21 3 (.iinc 3 1) 1, av_b 24 (.goto (-17)) 7, av_a 27 1 .return_]
def tX7_rule : List av_I := [av_a 0 1 (.aload_n 0), av_k 1 1 (.iconst 0) 0, av_f 2 3 (.putfield 3) 7 0 0 77 0, av_a 5 1 (.aload_n 0), av_f 6 3 (.invokevirtual 251) 188 0 1 188 7, av_a 9 1 (.istore_n 1), av_a 10 1 (.iload_n 1), av_b 11 (.ifCond .ne 15) 26, av_a 14 1 (.aload_n 0), av_a 15 1 (.aload_n 0), av_f 16 3 (.getfield 50) 7 17 0 94 0, av_a 19 1 (.aload_n 0), av_f 20 3 (.getfield 227) 7 19 0 96 0, av_f 23 3 (.invokevirtual 254) 189 2 0 192 7, av_a 26 1 (.iload_n 1), av_f 27 1 .ireturn 0 0 0 0 0]
def tX7_worked : List av_I := [av_a 0 1 (.iload_n 0), av_w 1 39 (.tableswitch 93 0 5 #[39, 53, 67, 81, 85, 89]) 94 [(0, 40), (1, 54), (2, 68), (3, 82), (4, 86), (5, 90)], av_a 40 1 (.iload_n 1), av_a 41 1 (.iload_n 2), av_b 42 (.if_icmp .ge 7) 49, av_k 45 1 (.iconst 1) 1, av_b 46 (.goto 4) 50, av_k 49 1 (.iconst 0) 0, av_f 50 3 (.invokestatic 168) 160 1 1 185 7, av_f 53 1 .ireturn 0 0 0 0 0, av_a 54 1 (.iload_n 1), av_a 55 1 (.iload_n 2), av_b 56 (.if_icmp .le 7) 63, av_k 59 1 (.iconst 1) 1, av_b 60 (.goto 4) 64, av_k 63 1 (.iconst 0) 0, av_f 64 3 (.invokestatic 168) 160 1 1 185 7, av_f 67 1 .ireturn 0 0 0 0 0, av_a 68 1 (.iload_n 1), av_a 69 1 (.iload_n 2), av_b 70 (.if_icmp .ne 7) 77, av_k 73 1 (.iconst 1) 1, av_b 74 (.goto 4) 78, av_k 77 1 (.iconst 0) 0, av_f 78 3 (.invokestatic 168) 160 1 1 185 7, av_f 81 1 .ireturn 0 0 0 0 0, av_a 82 1 (.iload_n 1), av_a 83 1 (.iload_n 2), av_a 84 1 .iadd, av_f 85 1 .ireturn 0 0 0 0 0, av_a 86 1 (.iload_n 1), av_a 87 1 (.iload_n 2), av_a 88 1 .isub, av_f 89 1 .ireturn 0 0 0 0 0, av_a 90 1 (.iload_n 1), av_a 91 1 (.iload_n 2), av_a 92 1 .imul, av_f 93 1 .ireturn 0 0 0 0 0, av_a 94 1 (.iload_n 2), av_b 95 (.ifCond .ne 7) 102, av_k 98 1 (.iconst 0) 0, av_b 99 (.goto 6) 105, av_a 102 1 (.iload_n 1), av_a 103 1 (.iload_n 2), av_a 104 1 .idiv, av_f 105 1 .ireturn 0 0 0 0 0]
def tX7_ruled : List av_I := [av_k 0 1 (.iconst 0) 0, av_a 1 1 (.istore_n 1), av_k 2 1 (.iconst 0) 0, av_a 3 1 (.istore_n 2), av_a 4 1 (.iload_n 2), av_a 5 1 (.aload_n 0), av_f 6 3 (.getfield 248) 7 18 0 95 0, av_b 9 (.if_icmp .ge 116) 125, av_a 12 1 (.aload_n 0), av_f 13 3 (.getfield 47) 7 16 0 93 0, av_a 16 1 (.iload_n 2), av_a 17 1 .iaload, av_a 18 1 (.istore_n 3), av_a 19 1 (.iload_n 3), av_k 20 3 (.sipush 3000) 3000, av_b 23 (.if_icmp .ne 23) 46, av_a 26 1 (.aload_n 0), av_f 27 3 (.getfield 53) 7 20 0 97 0, av_a 30 1 (.iload_n 1), av_k 31 1 (.iconst 1) 1, av_a 32 1 .isub, av_a 33 1 (.aload_n 0), av_f 34 3 (.getfield 53) 7 20 0 97 0, av_a 37 1 (.iload_n 1), av_k 38 1 (.iconst 1) 1, av_a 39 1 .isub, av_a 40 1 .iaload, av_a 41 1 .ineg, av_a 42 1 .iastore, av_b 43 (.goto 76) 119, av_a 46 1 (.iload_n 3), av_k 47 3 (.sipush 2000) 2000, av_b 50 (.if_icmp .lt 39) 89, av_k 53 3 (.iinc 1 (-1)) (-1), av_a 56 1 (.aload_n 0), av_f 57 3 (.getfield 53) 7 20 0 97 0, av_a 60 1 (.iload_n 1), av_k 61 1 (.iconst 1) 1, av_a 62 1 .isub, av_a 63 1 (.iload_n 3), av_k 64 3 (.sipush 2000) 2000, av_a 67 1 .isub, av_a 68 1 (.aload_n 0), av_f 69 3 (.getfield 53) 7 20 0 97 0, av_a 72 1 (.iload_n 1), av_k 73 1 (.iconst 1) 1, av_a 74 1 .isub, av_a 75 1 .iaload, av_a 76 1 (.aload_n 0), av_f 77 3 (.getfield 53) 7 20 0 97 0, av_a 80 1 (.iload_n 1), av_a 81 1 .iaload, av_f 82 3 (.invokestatic 258) 191 3 1 204 7, av_a 85 1 .iastore, av_b 86 (.goto 33) 119, av_a 89 1 (.aload_n 0), av_f 90 3 (.getfield 53) 7 20 0 97 0, av_a 93 1 (.iload_n 1), av_a 94 1 (.iload_n 3), av_k 95 3 (.sipush 1000) 1000, av_b 98 (.if_icmp .lt 16) 114, av_a 101 1 (.aload_n 0), av_f 102 3 (.getfield 56) 7 21 0 98 0, av_a 105 1 (.iload_n 3), av_k 106 3 (.sipush 1000) 1000, av_a 109 1 .isub, av_a 110 1 .iaload, av_b 111 (.goto 4) 115, av_a 114 1 (.iload_n 3), av_a 115 1 .iastore, av_k 116 3 (.iinc 1 1) 1, av_k 119 3 (.iinc 2 1) 1, av_b 122 (.goto (-118)) 4, av_a 125 1 (.aload_n 0), av_f 126 3 (.getfield 248) 7 18 0 95 0, av_b 129 (.ifCond .ne 12) 141, av_a 132 1 (.aload_n 0), av_f 133 3 (.getfield 56) 7 21 0 98 0, av_k 136 1 (.iconst 0) 0, av_a 137 1 .iaload, av_b 138 (.goto 9) 147, av_a 141 1 (.aload_n 0), av_f 142 3 (.getfield 53) 7 20 0 97 0, av_k 145 1 (.iconst 0) 0, av_a 146 1 .iaload, av_f 147 1 .ireturn 0 0 0 0 0]
def tX7_ofColour : List av_I := [av_k 0 1 (.iconst 0) 0, av_a 1 1 (.istore_n 2), av_k 2 1 (.iconst 0) 0, av_a 3 1 (.istore_n 3), av_a 4 1 (.iload_n 3), av_a 5 1 (.aload_n 0), av_f 6 3 (.getfield 120) 7 3 0 80 0, av_b 9 (.if_icmp .ge 29) 38, av_a 12 1 (.iload_n 2), av_a 13 1 (.aload_n 0), av_f 14 3 (.getfield 28) 7 5 0 82 0, av_a 17 1 (.iload_n 3), av_a 18 1 .iaload, av_a 19 1 (.iload_n 1), av_b 20 (.if_icmp .ne 9) 29, av_k 23 1 (.iconst 1) 1, av_a 24 1 (.iload_n 3), av_a 25 1 .ishl, av_b 26 (.goto 4) 30, av_k 29 1 (.iconst 0) 0, av_a 30 1 .ior, av_a 31 1 (.istore_n 2), av_k 32 3 (.iinc 3 1) 1, av_b 35 (.goto (-31)) 4, av_a 38 1 (.iload_n 2), av_f 39 1 .ireturn 0 0 0 0 0]
def tX7_pull : List av_I := [av_a 0 1 (.aload_n 0), av_f 1 3 (.getfield 56) 7 21 0 98 0, av_k 4 1 (.iconst 0) 0, av_a 5 1 (.aload_n 1), av_a 6 1 (.iload_n 2), av_f 7 3 (.invokestatic 139) 167 2 1 197 7, av_a 10 1 .iastore, av_a 11 1 (.aload_n 0), av_f 12 3 (.getfield 56) 7 21 0 98 0, av_k 15 1 (.iconst 1) 1, av_a 16 1 (.aload_n 0), av_f 17 3 (.getfield 32) 7 6 0 83 0, av_a 20 1 (.iload_n 2), av_a 21 1 .iaload, av_a 22 1 .iastore, av_a 23 1 (.aload_n 0), av_f 24 3 (.getfield 56) 7 21 0 98 0, av_k 27 1 (.iconst 2) 2, av_a 28 1 (.aload_n 1), av_a 29 1 (.iload_n 2), av_a 30 1 .iaload, av_a 31 1 .iastore, av_a 32 1 (.aload_n 0), av_f 33 3 (.getfield 56) 7 21 0 98 0, av_k 36 1 (.iconst 3) 3, av_a 37 1 (.aload_n 1), av_k 38 2 (.bipush 14) 14, av_a 40 1 (.iload_n 2), av_a 41 1 .iadd, av_a 42 1 .iaload, av_a 43 1 .iastore, av_a 44 1 (.aload_n 0), av_f 45 3 (.getfield 56) 7 21 0 98 0, av_k 48 1 (.iconst 4) 4, av_a 49 1 (.aload_n 1), av_k 50 2 (.bipush 31) 31, av_a 52 1 .iaload, av_a 53 1 .iastore, av_a 54 1 (.aload_n 0), av_f 55 3 (.getfield 56) 7 21 0 98 0, av_k 58 1 (.iconst 5) 5, av_a 59 1 (.aload_n 0), av_a 60 1 (.aload_n 1), av_f 61 3 (.invokevirtual 131) 166 1 1 199 7, av_a 64 1 (.aload_n 0), av_a 65 1 (.aload_n 0), av_f 66 3 (.getfield 28) 7 5 0 82 0, av_a 69 1 (.iload_n 2), av_a 70 1 .iaload, av_f 71 3 (.invokevirtual 262) 193 1 1 201 7, av_a 74 1 .iand, av_k 75 1 (.iconst 1) 1, av_a 76 1 (.iload_n 2), av_a 77 1 .ishl, av_k 78 1 (.iconst (-1)) (-1), av_a 79 1 .ixor, av_a 80 1 .iand, av_f 81 3 (.invokestatic 265) 275 1 1 202 8, av_a 84 1 .iastore, av_a 85 1 (.aload_n 0), av_f 86 3 (.getfield 56) 7 21 0 98 0, av_k 89 2 (.bipush 6) 6, av_a 91 1 (.aload_n 1), av_k 92 2 (.bipush 32) 32, av_a 94 1 .iaload, av_k 95 2 (.bipush 7) 7, av_a 97 1 .irem, av_a 98 1 .iastore, av_k 99 2 (.bipush (-99)) (-99), av_k 101 2 (.bipush 99) 99, av_a 103 1 (.aload_n 0), av_f 104 3 (.invokevirtual 270) 192 0 1 203 7, av_f 107 3 (.invokestatic 159) 0 0 11 7 0, av_f 110 3 (.invokestatic 273) 0 0 10 10 0, av_f 113 1 .ireturn 0 0 0 0 0]
def tX7_streamer : List av_I := [av_a 0 1 (.aload_n 0), av_k 1 1 (.iconst 0) 0, av_f 2 3 (.putfield 3) 7 0 0 77 0, av_a 5 1 (.aload_n 0), av_a 6 1 (.iload_n 1), av_f 7 3 (.invokevirtual 276) 164 1 1 194 7, av_b 10 (.ifCond .eq 15) 25, av_a 13 1 (.iload_n 2), av_a 14 1 .i2l, av_l 15 1 (.lconst 0) 0 0, av_l 16 3 (.ldc2_w 279) 8 6, av_f 19 3 (.invokestatic 123) 158 3 1 175 7, av_b 22 (.ifCond .ne 8) 30, av_a 25 1 (.aload_n 0), av_f 26 3 (.invokevirtual 281) 157 0 1 195 7, av_f 29 1 .ireturn 0 0 0 0 0, av_a 30 1 (.iload_n 2), av_w 31 49 (.tableswitch 122 0 8 #[49, 56, 122, 122, 122, 122, 63, 96, 109]) 153 [(0, 80), (1, 87), (2, 153), (3, 153), (4, 153), (5, 153), (6, 94), (7, 127), (8, 140)], av_a 80 1 (.aload_n 0), av_f 81 3 (.getfield 28) 7 5 0 82 0, av_a 84 1 (.iload_n 1), av_a 85 1 .iaload, av_f 86 1 .ireturn 0 0 0 0 0, av_a 87 1 (.aload_n 0), av_f 88 3 (.getfield 32) 7 6 0 83 0, av_a 91 1 (.iload_n 1), av_a 92 1 .iaload, av_f 93 1 .ireturn 0 0 0 0 0, av_a 94 1 (.aload_n 0), av_f 95 3 (.getfield 35) 7 7 0 84 0, av_k 98 2 (.bipush 28) 28, av_a 100 1 .iaload, av_a 101 1 (.iload_n 1), av_f 102 3 (.invokestatic 135) 159 2 1 196 7, av_b 105 (.ifCond .eq 7) 112, av_k 108 1 (.iconst 2) 2, av_b 109 (.goto 17) 126, av_a 112 1 (.aload_n 0), av_f 113 3 (.getfield 35) 7 7 0 84 0, av_k 116 2 (.bipush 29) 29, av_a 118 1 .iaload, av_a 119 1 (.iload_n 1), av_f 120 3 (.invokestatic 135) 159 2 1 196 7, av_f 123 3 (.invokestatic 168) 160 1 1 185 7, av_f 126 1 .ireturn 0 0 0 0 0, av_k 127 3 (.sipush 20000) 20000, av_a 130 1 (.aload_n 0), av_f 131 3 (.getfield 35) 7 7 0 84 0, av_a 134 1 (.iload_n 1), av_f 135 3 (.invokestatic 139) 167 2 1 197 7, av_a 138 1 .iadd, av_f 139 1 .ireturn 0 0 0 0 0, av_k 140 2 (.bipush 100) 100, av_a 142 1 (.aload_n 0), av_a 143 1 (.aload_n 0), av_f 144 3 (.getfield 35) 7 7 0 84 0, av_a 147 1 (.iload_n 1), av_f 148 3 (.invokevirtual 284) 194 2 1 198 7, av_a 151 1 .iadd, av_f 152 1 .ireturn 0 0 0 0 0, av_a 153 1 (.aload_n 0), av_f 154 3 (.getfield 35) 7 7 0 84 0, av_a 157 1 (.iload_n 2), av_k 158 1 (.iconst 2) 2, av_a 159 1 .isub, av_k 160 2 (.bipush 7) 7, av_a 162 1 .imul, av_a 163 1 (.iload_n 1), av_a 164 1 .iadd, av_a 165 1 .iaload, av_f 166 1 .ireturn 0 0 0 0 0]
def tX7_sheet : List av_I := [av_a 0 1 (.aload_n 0), av_k 1 1 (.iconst 0) 0, av_f 2 3 (.putfield 3) 7 0 0 77 0, av_a 5 1 (.iload_n 1), av_a 6 1 .i2l, av_l 7 1 (.lconst 0) 0 0, av_l 8 3 (.ldc2_w 287) 3 7, av_f 11 3 (.invokestatic 123) 158 3 1 175 7, av_b 14 (.ifCond .eq 9) 23, av_a 17 1 (.iload_n 2), av_k 18 2 (.bipush 7) 7, av_b 20 (.if_icmp .le 5) 25, av_k 23 1 (.iconst (-1)) (-1), av_f 24 1 .ireturn 0 0 0 0 0, av_a 25 1 (.iload_n 1), av_k 26 1 (.iconst 3) 3, av_b 27 (.if_icmp .eq 10) 37, av_a 30 1 (.iload_n 2), av_b 31 (.ifCond .ge 6) 37, av_k 34 2 (.bipush (-2)) (-2), av_f 36 1 .ireturn 0 0 0 0 0, av_a 37 1 (.iload_n 3), av_a 38 2 (.istore 5), av_k 40 1 (.iconst 0) 0, av_a 41 2 (.istore 6), av_a 43 2 (.iload 6), av_a 45 1 (.aload_n 0), av_f 46 3 (.getfield 120) 7 3 0 80 0, av_b 49 (.if_icmp .ge 74) 123, av_a 52 1 (.iload_n 1), av_b 53 (.ifCond .ne 9) 62, av_a 56 2 (.iload 5), av_a 58 1 .i2b, av_b 59 (.goto 16) 75, av_a 62 1 (.iload_n 1), av_k 63 1 (.iconst 1) 1, av_b 64 (.if_icmp .ne 9) 73, av_a 67 2 (.iload 5), av_a 69 1 .i2s, av_b 70 (.goto 5) 75, av_a 73 2 (.iload 5), av_a 75 2 (.istore 7), av_a 77 1 (.aload_n 0), av_f 78 3 (.getfield 32) 7 6 0 83 0, av_a 81 2 (.iload 6), av_a 83 1 (.iload_n 1), av_k 84 1 (.iconst 3) 3, av_b 85 (.if_icmp .eq 9) 94, av_a 88 2 (.iload 6), av_a 90 1 (.iload_n 2), av_b 91 (.if_icmp .lt 7) 98, av_k 94 1 (.iconst 1) 1, av_b 95 (.goto 14) 109, av_k 98 1 (.iconst 1) 1, av_k 99 2 (.bipush 9) 9, av_a 101 2 (.iload 7), av_f 103 3 (.invokestatic 159) 0 0 11 7 0, av_f 106 3 (.invokestatic 273) 0 0 10 10 0, av_a 109 1 .iastore, av_a 110 2 (.iload 5), av_a 112 2 (.iload 4), av_a 114 1 .iadd, av_a 115 2 (.istore 5), av_k 117 3 (.iinc 6 1) 1, av_b 120 (.goto (-77)) 43, av_a 123 1 (.iload_n 1), av_k 124 1 (.iconst 3) 3, av_b 125 (.if_icmp .ne 8) 133, av_k 128 2 (.bipush (-3)) (-3), av_b 130 (.goto 11) 141, av_a 133 1 (.aload_n 0), av_a 134 1 (.aload_n 0), av_f 135 3 (.invokevirtual 127) 165 0 1 200 7, av_f 138 3 (.invokevirtual 146) 169 1 1 206 7, av_f 141 1 .ireturn 0 0 0 0 0]
def tX7_putsBy : List av_I := [av_k 0 1 (.iconst 0) 0, av_a 1 1 (.istore_n 1), av_a 2 1 (.iload_n 1), av_k 3 2 (.bipush 33) 33, av_b 5 (.if_icmp .ge 29) 34, av_a 8 1 (.aload_n 0), av_f 9 3 (.getfield 59) 7 23 0 100 0, av_k 12 2 (.bipush 33) 33, av_a 14 1 (.aload_n 0), av_f 15 3 (.getfield 221) 7 22 0 99 0, av_a 18 1 .imul, av_a 19 1 (.iload_n 1), av_a 20 1 .iadd, av_a 21 1 (.aload_n 0), av_f 22 3 (.getfield 35) 7 7 0 84 0, av_a 25 1 (.iload_n 1), av_a 26 1 .iaload, av_a 27 1 .iastore, av_k 28 3 (.iinc 1 1) 1, av_b 31 (.goto (-29)) 2, av_a 34 1 .return_]
def tX7_adds : List av_I := [av_a 0 1 (.aload_n 0), av_a 1 1 .dup, av_f 2 3 (.getfield 221) 7 22 0 99 0, av_k 5 1 (.iconst 1) 1, av_a 6 1 .iadd, av_f 7 3 (.putfield 221) 7 22 0 99 0, av_a 10 1 (.aload_n 0), av_f 11 3 (.getfield 221) 7 22 0 99 0, av_k 14 2 (.bipush 15) 15, av_b 16 (.if_icmp .le 43) 59, av_k 19 1 (.iconst 0) 0, av_a 20 1 (.istore_n 2), av_a 21 1 (.iload_n 2), av_k 22 3 (.sipush 495) 495, av_b 25 (.if_icmp .ge 24) 49, av_a 28 1 (.aload_n 0), av_f 29 3 (.getfield 59) 7 23 0 100 0, av_a 32 1 (.iload_n 2), av_a 33 1 (.aload_n 0), av_f 34 3 (.getfield 59) 7 23 0 100 0, av_a 37 1 (.iload_n 2), av_k 38 2 (.bipush 33) 33, av_a 40 1 .iadd, av_a 41 1 .iaload, av_a 42 1 .iastore, av_k 43 3 (.iinc 2 1) 1, av_b 46 (.goto (-25)) 21, av_a 49 1 (.aload_n 0), av_a 50 1 .dup, av_f 51 3 (.getfield 221) 7 22 0 99 0, av_k 54 1 (.iconst 1) 1, av_a 55 1 .isub, av_f 56 3 (.putfield 221) 7 22 0 99 0, av_a 59 1 (.iload_n 1), av_f 60 1 .ireturn 0 0 0 0 0]
def tX7_counted : List av_I := [av_a 0 1 (.iload_n 1), av_b 1 (.ifCond .ge 7) 8, av_a 4 1 (.iload_n 1), av_b 5 (.goto 8) 13, av_a 8 1 (.aload_n 0), av_a 9 1 (.iload_n 1), av_f 10 3 (.invokevirtual 289) 198 1 1 215 7, av_f 13 1 .ireturn 0 0 0 0 0]
def tX7_undo : List av_I := [av_a 0 1 (.aload_n 0), av_k 1 1 (.iconst 0) 0, av_f 2 3 (.putfield 3) 7 0 0 77 0, av_a 5 1 (.aload_n 0), av_f 6 3 (.getfield 221) 7 22 0 99 0, av_b 9 (.ifCond .ne 5) 14, av_k 12 1 (.iconst (-1)) (-1), av_f 13 1 .ireturn 0 0 0 0 0, av_a 14 1 (.aload_n 0), av_a 15 1 .dup, av_f 16 3 (.getfield 221) 7 22 0 99 0, av_k 19 1 (.iconst 1) 1, av_a 20 1 .isub, av_f 21 3 (.putfield 221) 7 22 0 99 0, av_k 24 1 (.iconst 0) 0, av_a 25 1 (.istore_n 1), av_a 26 1 (.iload_n 1), av_k 27 2 (.bipush 33) 33, av_b 29 (.if_icmp .ge 29) 58, av_a 32 1 (.aload_n 0), av_f 33 3 (.getfield 35) 7 7 0 84 0, av_a 36 1 (.iload_n 1), av_a 37 1 (.aload_n 0), av_f 38 3 (.getfield 59) 7 23 0 100 0, av_k 41 2 (.bipush 33) 33, av_a 43 1 (.aload_n 0), av_f 44 3 (.getfield 221) 7 22 0 99 0, av_a 47 1 .imul, av_a 48 1 (.iload_n 1), av_a 49 1 .iadd, av_a 50 1 .iaload, av_a 51 1 .iastore, av_k 52 3 (.iinc 1 1) 1, av_b 55 (.goto (-29)) 26, av_a 58 1 (.aload_n 0), av_f 59 3 (.getfield 221) 7 22 0 99 0, av_f 62 1 .ireturn 0 0 0 0 0]
def tX7_hourGoes : List av_I := [av_a 0 1 (.aload_n 0), av_a 1 1 (.aload_n 1), av_f 2 3 (.invokevirtual 131) 166 1 1 199 7, av_a 5 1 (.istore_n 2), av_k 6 1 (.iconst 0) 0, av_a 7 1 (.istore_n 3), av_a 8 1 (.iload_n 3), av_a 9 1 (.aload_n 0), av_f 10 3 (.getfield 120) 7 3 0 80 0, av_b 13 (.if_icmp .ge 64) 77, av_a 16 1 (.iload_n 2), av_a 17 1 (.iload_n 3), av_f 18 3 (.invokestatic 135) 159 2 1 196 7, av_b 21 (.ifCond .eq 18) 39, av_a 24 1 (.aload_n 1), av_a 25 1 (.iload_n 3), av_a 26 1 .iaload, av_a 27 1 (.aload_n 1), av_k 28 2 (.bipush 7) 7, av_a 30 1 (.iload_n 3), av_a 31 1 .iadd, av_a 32 1 .iaload, av_f 33 3 (.invokestatic 159) 0 0 11 7 0, av_b 36 (.goto 4) 40, av_k 39 1 (.iconst 0) 0, av_a 40 2 (.istore 4), av_a 42 1 (.aload_n 1), av_k 43 2 (.bipush 21) 21, av_a 45 1 (.iload_n 3), av_a 46 1 .iadd, av_k 47 3 (.sipush 9999) 9999, av_a 50 1 (.aload_n 1), av_k 51 2 (.bipush 21) 21, av_a 53 1 (.iload_n 3), av_a 54 1 .iadd, av_a 55 1 .iaload, av_a 56 2 (.iload 4), av_a 58 1 .iadd, av_f 59 3 (.invokestatic 159) 0 0 11 7 0, av_a 62 1 .iastore, av_a 63 1 (.aload_n 1), av_a 64 1 (.iload_n 3), av_a 65 1 .dup2, av_a 66 1 .iaload, av_a 67 2 (.iload 4), av_a 69 1 .isub, av_a 70 1 .iastore, av_k 71 3 (.iinc 3 1) 1, av_b 74 (.goto (-66)) 8, av_a 77 1 (.aload_n 1), av_k 78 2 (.bipush 30) 30, av_k 80 3 (.sipush 9999) 9999, av_a 83 1 (.aload_n 1), av_k 84 2 (.bipush 30) 30, av_a 86 1 .iaload, av_k 87 1 (.iconst 0) 0, av_a 88 1 (.aload_n 1), av_k 89 2 (.bipush 31) 31, av_a 91 1 .iaload, av_a 92 1 (.aload_n 0), av_a 93 1 (.aload_n 1), av_f 94 3 (.invokevirtual 292) 170 1 1 212 7, av_a 97 1 .isub, av_f 98 3 (.invokestatic 273) 0 0 10 10 0, av_a 101 1 .iadd, av_f 102 3 (.invokestatic 159) 0 0 11 7 0, av_a 105 1 .iastore, av_k 106 1 (.iconst 0) 0, av_a 107 1 (.istore_n 3), av_k 108 1 (.iconst 0) 0, av_a 109 2 (.istore 4), av_a 111 2 (.iload 4), av_a 113 1 (.aload_n 0), av_f 114 3 (.getfield 120) 7 3 0 80 0, av_b 117 (.if_icmp .ge 46) 163, av_a 120 1 (.iload_n 3), av_a 121 1 (.iload_n 2), av_a 122 2 (.iload 4), av_f 124 3 (.invokestatic 135) 159 2 1 196 7, av_b 127 (.ifCond .eq 27) 154, av_a 130 1 (.aload_n 0), av_a 131 1 (.aload_n 1), av_a 132 2 (.iload 4), av_f 134 3 (.invokevirtual 284) 194 2 1 198 7, av_a 137 1 (.aload_n 0), av_f 138 3 (.getfield 32) 7 6 0 83 0, av_a 141 2 (.iload 4), av_a 143 1 .iaload, av_b 144 (.if_icmp .le 10) 154, av_k 147 1 (.iconst 1) 1, av_a 148 2 (.iload 4), av_a 150 1 .ishl, av_b 151 (.goto 4) 155, av_k 154 1 (.iconst 0) 0, av_a 155 1 .ior, av_a 156 1 (.istore_n 3), av_k 157 3 (.iinc 4 1) 1, av_b 160 (.goto (-49)) 111, av_a 163 1 (.aload_n 1), av_k 164 2 (.bipush 28) 28, av_a 166 1 .dup2, av_a 167 1 .iaload, av_a 168 1 (.iload_n 3), av_a 169 1 .ior, av_a 170 1 .iastore, av_a 171 1 (.aload_n 1), av_k 172 2 (.bipush 32) 32, av_a 174 1 .dup2, av_a 175 1 .iaload, av_k 176 1 (.iconst 1) 1, av_a 177 1 .iadd, av_a 178 1 .iastore, av_a 179 1 .return_]
def tX7_goesOn : List av_I := [av_k 0 1 (.iconst 0) 0, av_a 1 1 (.istore_n 3), av_a 2 1 (.iload_n 3), av_a 3 1 (.iload_n 2), av_b 4 (.if_icmp .ge 14) 18, av_a 7 1 (.aload_n 0), av_a 8 1 (.aload_n 1), av_f 9 3 (.invokevirtual 295) 201 1 0 211 7, av_k 12 3 (.iinc 3 1) 1, av_b 15 (.goto (-13)) 2, av_a 18 1 .return_]
def tX7_becomes : List av_I := [av_a 0 1 (.aload_n 0), av_f 1 3 (.getfield 35) 7 7 0 84 0, av_a 4 1 (.iload_n 1), av_a 5 1 .iaload, av_a 6 2 (.istore 4), av_a 8 1 (.aload_n 0), av_f 9 3 (.getfield 35) 7 7 0 84 0, av_a 12 1 (.iload_n 1), av_a 13 1 (.iload_n 2), av_a 14 1 .iastore, av_a 15 2 (.iload 4), av_a 17 1 (.iload_n 2), av_b 18 (.if_icmp .ne 8) 26, av_k 21 2 (.bipush (-2)) (-2), av_b 23 (.goto 7) 30, av_a 26 2 (.iload 4), av_a 28 1 (.iload_n 3), av_a 29 1 .iadd, av_f 30 1 .ireturn 0 0 0 0 0]
def tX7_runsTo : List av_I := [av_a 0 1 (.aload_n 0), av_a 1 1 (.iload_n 1), av_f 2 3 (.invokevirtual 276) 164 1 1 194 7, av_b 5 (.ifCond .eq 15) 20, av_a 8 1 (.iload_n 2), av_a 9 1 .i2l, av_l 10 1 (.lconst 0) 0 0, av_l 11 3 (.ldc2_w 299) 9 9, av_f 14 3 (.invokestatic 123) 158 3 1 175 7, av_b 17 (.ifCond .ne 5) 22, av_k 20 1 (.iconst (-1)) (-1), av_f 21 1 .ireturn 0 0 0 0 0, av_a 22 1 (.aload_n 0), av_f 23 3 (.getfield 35) 7 7 0 84 0, av_k 26 2 (.bipush 14) 14, av_a 28 1 (.iload_n 1), av_a 29 1 .iadd, av_a 30 1 .iaload, av_a 31 1 (.istore_n 3), av_a 32 1 (.aload_n 0), av_f 33 3 (.getfield 35) 7 7 0 84 0, av_k 36 2 (.bipush 14) 14, av_a 38 1 (.iload_n 1), av_a 39 1 .iadd, av_a 40 1 (.iload_n 2), av_a 41 1 .iastore, av_a 42 1 (.iload_n 3), av_a 43 1 (.iload_n 2), av_b 44 (.if_icmp .ne 8) 52, av_k 47 2 (.bipush (-2)) (-2), av_b 49 (.goto 9) 58, av_a 52 1 (.iload_n 2), av_a 53 1 (.iload_n 3), av_a 54 1 .isub, av_f 55 3 (.invokestatic 301) 0 0 12 11 0, av_f 58 1 .ireturn 0 0 0 0 0]
def tX7_ratesTo : List av_I := [av_a 0 1 (.aload_n 0), av_a 1 1 (.iload_n 1), av_f 2 3 (.invokevirtual 276) 164 1 1 194 7, av_b 5 (.ifCond .eq 29) 34, av_a 8 1 (.iload_n 2), av_a 9 1 .i2l, av_l 10 1 (.lconst 0) 0 0, av_l 11 3 (.ldc2_w 299) 9 9, av_f 14 3 (.invokestatic 123) 158 3 1 175 7, av_b 17 (.ifCond .eq 17) 34, av_a 20 1 (.aload_n 0), av_k 21 2 (.bipush 7) 7, av_a 23 1 (.iload_n 1), av_a 24 1 .iadd, av_a 25 1 (.iload_n 2), av_k 26 2 (.bipush 10) 10, av_f 28 3 (.invokevirtual 304) 203 3 1 221 7, av_b 31 (.goto 4) 35, av_k 34 1 (.iconst (-1)) (-1), av_f 35 1 .ireturn 0 0 0 0 0]
def tX7_reelsMore : List av_I := [av_a 0 1 (.aload_n 0), av_a 1 1 (.iload_n 1), av_f 2 3 (.invokevirtual 276) 164 1 1 194 7, av_b 5 (.ifCond .eq 15) 20, av_a 8 1 (.iload_n 2), av_a 9 1 .i2l, av_l 10 1 (.lconst 1) 1 0, av_l 11 3 (.ldc2_w 307) 99 10, av_f 14 3 (.invokestatic 123) 158 3 1 175 7, av_b 17 (.ifCond .ne 5) 22, av_k 20 1 (.iconst (-1)) (-1), av_f 21 1 .ireturn 0 0 0 0 0, av_a 22 1 (.aload_n 0), av_f 23 3 (.getfield 35) 7 7 0 84 0, av_a 26 1 (.iload_n 1), av_a 27 1 .iaload, av_a 28 1 (.iload_n 2), av_a 29 1 .iadd, av_k 30 2 (.bipush 99) 99, av_b 32 (.if_icmp .le 6) 38, av_k 35 2 (.bipush (-2)) (-2), av_f 37 1 .ireturn 0 0 0 0 0, av_a 38 1 (.aload_n 0), av_f 39 3 (.getfield 35) 7 7 0 84 0, av_a 42 1 (.iload_n 1), av_a 43 1 .dup2, av_a 44 1 .iaload, av_a 45 1 (.iload_n 2), av_a 46 1 .iadd, av_a 47 1 .iastore, av_a 48 1 (.aload_n 0), av_f 49 3 (.getfield 35) 7 7 0 84 0, av_a 52 1 (.iload_n 1), av_a 53 1 .iaload, av_f 54 1 .ireturn 0 0 0 0 0]
def tX7_dropsOne : List av_I := [av_a 0 1 (.aload_n 0), av_a 1 1 (.iload_n 1), av_f 2 3 (.invokevirtual 276) 164 1 1 194 7, av_b 5 (.ifCond .ne 5) 10, av_k 8 1 (.iconst (-1)) (-1), av_f 9 1 .ireturn 0 0 0 0 0, av_a 10 1 (.aload_n 0), av_f 11 3 (.getfield 35) 7 7 0 84 0, av_k 14 2 (.bipush 28) 28, av_a 16 1 .iaload, av_a 17 1 (.iload_n 1), av_f 18 3 (.invokestatic 135) 159 2 1 196 7, av_b 21 (.ifCond .eq 6) 27, av_k 24 2 (.bipush (-2)) (-2), av_f 26 1 .ireturn 0 0 0 0 0, av_a 27 1 (.aload_n 0), av_f 28 3 (.getfield 35) 7 7 0 84 0, av_k 31 2 (.bipush 29) 29, av_a 33 1 .dup2, av_a 34 1 .iaload, av_k 35 1 (.iconst 1) 1, av_a 36 1 (.iload_n 1), av_a 37 1 .ishl, av_a 38 1 .ixor, av_a 39 1 .iastore, av_a 40 1 (.aload_n 0), av_a 41 1 (.aload_n 0), av_f 42 3 (.getfield 35) 7 7 0 84 0, av_f 45 3 (.invokevirtual 131) 166 1 1 199 7, av_f 48 3 (.invokestatic 265) 275 1 1 202 8, av_f 51 1 .ireturn 0 0 0 0 0]
def tX7_speedsTo : List av_I := [av_a 0 1 (.iload_n 1), av_a 1 1 .i2l, av_l 2 1 (.lconst 0) 0 0, av_l 3 3 (.ldc2_w 299) 9 9, av_f 6 3 (.invokestatic 123) 158 3 1 175 7, av_b 9 (.ifCond .eq 15) 24, av_a 12 1 (.aload_n 0), av_k 13 2 (.bipush 31) 31, av_a 15 1 (.iload_n 1), av_k 16 2 (.bipush 10) 10, av_f 18 3 (.invokevirtual 304) 203 3 1 221 7, av_b 21 (.goto 4) 25, av_k 24 1 (.iconst (-1)) (-1), av_f 25 1 .ireturn 0 0 0 0 0]
def tX7_hours : List av_I := [av_a 0 1 (.aload_n 0), av_k 1 1 (.iconst 0) 0, av_f 2 3 (.putfield 3) 7 0 0 77 0, av_a 5 1 (.iload_n 1), av_a 6 1 .i2l, av_l 7 1 (.lconst 0) 0 0, av_l 8 3 (.ldc2_w 309) 60 8, av_f 11 3 (.invokestatic 123) 158 3 1 175 7, av_b 14 (.ifCond .ne 5) 19, av_k 17 1 (.iconst (-1)) (-1), av_f 18 1 .ireturn 0 0 0 0 0, av_a 19 1 (.aload_n 0), av_f 20 3 (.invokevirtual 311) 197 0 0 209 7, av_a 23 1 (.aload_n 0), av_f 24 3 (.getfield 35) 7 7 0 84 0, av_k 27 2 (.bipush 28) 28, av_a 29 1 .iaload, av_a 30 1 (.istore_n 2), av_a 31 1 (.aload_n 0), av_a 32 1 (.aload_n 0), av_f 33 3 (.getfield 35) 7 7 0 84 0, av_a 36 1 (.iload_n 1), av_f 37 3 (.invokevirtual 314) 202 2 0 210 7, av_a 40 1 (.aload_n 0), av_k 41 1 (.iconst 0) 0, av_f 42 3 (.putfield 15) 7 1 0 78 0, av_a 45 1 (.aload_n 0), av_a 46 1 (.aload_n 0), av_f 47 3 (.getfield 35) 7 7 0 84 0, av_k 50 2 (.bipush 28) 28, av_a 52 1 .iaload, av_a 53 1 (.iload_n 2), av_k 54 1 (.iconst (-1)) (-1), av_a 55 1 .ixor, av_a 56 1 .iand, av_a 57 1 .i2l, av_f 58 3 (.invokevirtual 18) 162 1 0 214 7, av_a 61 1 (.aload_n 0), av_a 62 1 (.aload_n 0), av_a 63 1 (.aload_n 0), av_f 64 3 (.getfield 35) 7 7 0 84 0, av_f 67 3 (.invokevirtual 131) 166 1 1 199 7, av_f 70 3 (.invokestatic 265) 275 1 1 202 8, av_a 73 1 .i2l, av_f 74 3 (.invokevirtual 18) 162 1 0 214 7, av_a 77 1 (.aload_n 0), av_a 78 1 (.aload_n 0), av_f 79 3 (.getfield 35) 7 7 0 84 0, av_k 82 2 (.bipush 30) 30, av_a 84 1 .iaload, av_f 85 3 (.invokevirtual 289) 198 1 1 215 7, av_f 88 1 .ireturn 0 0 0 0 0]
def tX7_runs : List av_I := [av_a 0 1 (.aload_n 0), av_k 1 1 (.iconst 0) 0, av_f 2 3 (.putfield 3) 7 0 0 77 0, av_a 5 1 (.aload_n 0), av_f 6 3 (.invokevirtual 311) 197 0 0 209 7, av_a 9 1 (.aload_n 0), av_a 10 1 (.aload_n 0), av_a 11 1 (.iload_n 1), av_a 12 1 (.iload_n 2), av_f 13 3 (.invokevirtual 317) 204 2 1 217 7, av_f 16 3 (.invokevirtual 320) 199 1 1 218 7, av_f 19 1 .ireturn 0 0 0 0 0]
def tX7_rates : List av_I := [av_a 0 1 (.aload_n 0), av_k 1 1 (.iconst 0) 0, av_f 2 3 (.putfield 3) 7 0 0 77 0, av_a 5 1 (.aload_n 0), av_f 6 3 (.invokevirtual 311) 197 0 0 209 7, av_a 9 1 (.aload_n 0), av_a 10 1 (.aload_n 0), av_a 11 1 (.iload_n 1), av_a 12 1 (.iload_n 2), av_f 13 3 (.invokevirtual 323) 205 2 1 220 7, av_f 16 3 (.invokevirtual 320) 199 1 1 218 7, av_f 19 1 .ireturn 0 0 0 0 0]
def tX7_reels : List av_I := [av_a 0 1 (.aload_n 0), av_k 1 1 (.iconst 0) 0, av_f 2 3 (.putfield 3) 7 0 0 77 0, av_a 5 1 (.aload_n 0), av_f 6 3 (.invokevirtual 311) 197 0 0 209 7, av_a 9 1 (.aload_n 0), av_a 10 1 (.aload_n 0), av_a 11 1 (.iload_n 1), av_a 12 1 (.iload_n 2), av_f 13 3 (.invokevirtual 326) 206 2 1 223 7, av_f 16 3 (.invokevirtual 320) 199 1 1 218 7, av_f 19 1 .ireturn 0 0 0 0 0]
def tX7_drops : List av_I := [av_a 0 1 (.aload_n 0), av_k 1 1 (.iconst 0) 0, av_f 2 3 (.putfield 3) 7 0 0 77 0, av_a 5 1 (.aload_n 0), av_f 6 3 (.invokevirtual 311) 197 0 0 209 7, av_a 9 1 (.aload_n 0), av_a 10 1 (.aload_n 0), av_a 11 1 (.iload_n 1), av_f 12 3 (.invokevirtual 329) 207 1 1 225 7, av_f 15 3 (.invokevirtual 320) 199 1 1 218 7, av_f 18 1 .ireturn 0 0 0 0 0]
def tX7_speed : List av_I := [av_a 0 1 (.aload_n 0), av_k 1 1 (.iconst 0) 0, av_f 2 3 (.putfield 3) 7 0 0 77 0, av_a 5 1 (.aload_n 0), av_f 6 3 (.invokevirtual 311) 197 0 0 209 7, av_a 9 1 (.aload_n 0), av_a 10 1 (.aload_n 0), av_a 11 1 (.iload_n 1), av_f 12 3 (.invokevirtual 332) 208 1 1 227 7, av_f 15 3 (.invokevirtual 320) 199 1 1 218 7, av_f 18 1 .ireturn 0 0 0 0 0]
def tX7_readsAct : List av_I := [av_a 0 1 (.aload_n 0), av_f 1 3 (.getfield 335) 7 27 0 104 0, av_a 4 1 (.istore_n 1), av_a 5 1 (.aload_n 0), av_f 6 3 (.getfield 62) 7 24 0 101 0, av_a 9 1 (.iload_n 1), av_a 10 1 (.aload_n 0), av_f 11 3 (.ldc_w 338) 97 0 1 5 0, av_f 14 3 (.invokevirtual 197) 178 1 1 179 7, av_a 17 1 .iastore, av_a 18 1 (.aload_n 0), av_a 19 1 .dup, av_f 20 3 (.getfield 335) 7 27 0 104 0, av_k 23 1 (.iconst 1) 1, av_a 24 1 .iadd, av_f 25 3 (.putfield 335) 7 27 0 104 0, av_a 28 1 (.aload_n 0), av_f 29 3 (.getfield 65) 7 25 0 102 0, av_a 32 1 (.iload_n 1), av_a 33 1 (.aload_n 0), av_f 34 3 (.getfield 62) 7 24 0 101 0, av_a 37 1 (.iload_n 1), av_a 38 1 .iaload, av_b 39 (.ifCond .ge 7) 46, av_k 42 1 (.iconst (-1)) (-1), av_b 43 (.goto 8) 51, av_a 46 1 (.aload_n 0), av_k 47 1 (.iconst 1) 1, av_f 48 3 (.invokevirtual 189) 179 1 1 182 7, av_a 51 1 .iastore, av_a 52 1 (.aload_n 0), av_f 53 3 (.getfield 65) 7 25 0 102 0, av_a 56 1 (.iload_n 1), av_a 57 1 .iaload, av_b 58 (.ifCond .lt 13) 71, av_a 61 1 (.aload_n 0), av_f 62 3 (.getfield 62) 7 24 0 101 0, av_a 65 1 (.iload_n 1), av_a 66 1 .iaload, av_k 67 1 (.iconst 3) 3, av_b 68 (.if_icmp .ge 18) 86, av_a 71 1 (.aload_n 0), av_f 72 3 (.getfield 65) 7 25 0 102 0, av_a 75 1 (.iload_n 1), av_a 76 1 .iaload, av_b 77 (.ifCond .lt 7) 84, av_k 80 1 (.iconst 1) 1, av_b 81 (.goto 4) 85, av_k 84 1 (.iconst 0) 0, av_f 85 1 .ireturn 1 0 0 0 0, av_a 86 1 (.aload_n 0), av_f 87 3 (.getfield 68) 7 26 0 103 0, av_a 90 1 (.iload_n 1), av_a 91 1 (.aload_n 0), av_f 92 3 (.getfield 62) 7 24 0 101 0, av_a 95 1 (.iload_n 1), av_a 96 1 .iaload, av_k 97 1 (.iconst 5) 5, av_b 98 (.if_icmp .ne 10) 108, av_a 101 1 (.aload_n 0), av_f 102 3 (.invokevirtual 204) 181 0 1 181 7, av_b 105 (.goto 8) 113, av_a 108 1 (.aload_n 0), av_k 109 1 (.iconst 1) 1, av_f 110 3 (.invokevirtual 189) 179 1 1 182 7, av_a 113 1 .iastore, av_a 114 1 (.aload_n 0), av_f 115 3 (.getfield 68) 7 26 0 103 0, av_a 118 1 (.iload_n 1), av_a 119 1 .iaload, av_b 120 (.ifCond .lt 7) 127, av_k 123 1 (.iconst 1) 1, av_b 124 (.goto 4) 128, av_k 127 1 (.iconst 0) 0, av_f 128 1 .ireturn 1 0 0 0 0]
def tX7_does : List av_I := [av_a 0 1 (.aload_n 0), av_f 1 3 (.getfield 65) 7 25 0 102 0, av_a 4 1 (.iload_n 1), av_a 5 1 .iaload, av_a 6 1 (.istore_n 2), av_a 7 1 (.aload_n 0), av_f 8 3 (.getfield 62) 7 24 0 101 0, av_a 11 1 (.iload_n 1), av_a 12 1 .iaload, av_w 13 35 (.tableswitch 114 0 4 #[35, 46, 60, 74, 94]) 127 [(0, 48), (1, 59), (2, 73), (3, 87), (4, 107)], av_a 48 1 (.aload_n 0), av_a 49 1 (.aload_n 0), av_f 50 3 (.getfield 35) 7 7 0 84 0, av_a 53 1 (.iload_n 2), av_f 54 3 (.invokevirtual 314) 202 2 0 210 7, av_k 57 1 (.iconst 1) 1, av_f 58 1 .ireturn 1 0 0 0 0, av_a 59 1 (.aload_n 0), av_a 60 1 (.iload_n 2), av_f 61 3 (.invokevirtual 329) 207 1 1 225 7, av_b 64 (.ifCond .lt 7) 71, av_k 67 1 (.iconst 1) 1, av_b 68 (.goto 4) 72, av_k 71 1 (.iconst 0) 0, av_f 72 1 .ireturn 1 0 0 0 0, av_a 73 1 (.aload_n 0), av_a 74 1 (.iload_n 2), av_f 75 3 (.invokevirtual 332) 208 1 1 227 7, av_b 78 (.ifCond .lt 7) 85, av_k 81 1 (.iconst 1) 1, av_b 82 (.goto 4) 86, av_k 85 1 (.iconst 0) 0, av_f 86 1 .ireturn 1 0 0 0 0, av_a 87 1 (.aload_n 0), av_a 88 1 (.iload_n 2), av_a 89 1 (.aload_n 0), av_f 90 3 (.getfield 68) 7 26 0 103 0, av_a 93 1 (.iload_n 1), av_a 94 1 .iaload, av_f 95 3 (.invokevirtual 317) 204 2 1 217 7, av_b 98 (.ifCond .lt 7) 105, av_k 101 1 (.iconst 1) 1, av_b 102 (.goto 4) 106, av_k 105 1 (.iconst 0) 0, av_f 106 1 .ireturn 1 0 0 0 0, av_a 107 1 (.aload_n 0), av_a 108 1 (.iload_n 2), av_a 109 1 (.aload_n 0), av_f 110 3 (.getfield 68) 7 26 0 103 0, av_a 113 1 (.iload_n 1), av_a 114 1 .iaload, av_f 115 3 (.invokevirtual 323) 205 2 1 220 7, av_b 118 (.ifCond .lt 7) 125, av_k 121 1 (.iconst 1) 1, av_b 122 (.goto 4) 126, av_k 125 1 (.iconst 0) 0, av_f 126 1 .ireturn 1 0 0 0 0, av_a 127 1 (.aload_n 0), av_a 128 1 (.iload_n 2), av_a 129 1 (.aload_n 0), av_f 130 3 (.getfield 68) 7 26 0 103 0, av_a 133 1 (.iload_n 1), av_a 134 1 .iaload, av_f 135 3 (.invokevirtual 326) 206 2 1 223 7, av_b 138 (.ifCond .lt 7) 145, av_k 141 1 (.iconst 1) 1, av_b 142 (.goto 4) 146, av_k 145 1 (.iconst 0) 0, av_f 146 1 .ireturn 1 0 0 0 0]
def tX7_sailing : List av_I := [av_a 0 1 (.aload_n 0), av_k 1 1 (.iconst 0) 0, av_f 2 3 (.putfield 3) 7 0 0 77 0, av_a 5 1 (.aload_n 0), av_k 6 2 (.bipush 60) 60, av_f 8 3 (.invokevirtual 207) 175 1 1 177 7, av_a 11 1 (.istore_n 1), av_a 12 1 (.aload_n 0), av_k 13 1 (.iconst 0) 0, av_f 14 3 (.putfield 335) 7 27 0 104 0, av_k 17 1 (.iconst 1) 1, av_a 18 1 (.istore_n 2), av_a 19 1 (.iload_n 2), av_b 20 (.ifCond .eq 22) 42, av_a 23 1 (.aload_n 0), av_f 24 3 (.getfield 153) 7 11 0 88 0, av_a 27 1 (.aload_n 0), av_f 28 3 (.getfield 165) 7 12 0 89 0, av_b 31 (.if_icmp .ge 11) 42, av_a 34 1 (.aload_n 0), av_f 35 3 (.invokevirtual 340) 215 0 1 229 7, av_a 38 1 (.istore_n 2), av_b 39 (.goto (-20)) 19, av_a 42 1 (.aload_n 0), av_a 43 1 (.iload_n 1), av_k 44 2 (.bipush 60) 60, av_a 46 1 (.iload_n 2), av_f 47 3 (.invokevirtual 217) 182 3 1 186 7, av_a 50 1 (.istore_n 3), av_a 51 1 (.iload_n 3), av_b 52 (.ifCond .ge 5) 57, av_a 55 1 (.iload_n 3), av_f 56 1 .ireturn 0 0 0 0 0, av_a 57 1 (.aload_n 0), av_f 58 3 (.invokevirtual 311) 197 0 0 209 7, av_k 61 1 (.iconst 0) 0, av_a 62 2 (.istore 4), av_a 64 2 (.iload 4), av_a 66 1 (.aload_n 0), av_f 67 3 (.getfield 335) 7 27 0 104 0, av_b 70 (.if_icmp .ge 18) 88, av_a 73 1 (.aload_n 0), av_a 74 2 (.iload 4), av_f 76 3 (.invokevirtual 343) 216 1 1 230 7, av_b 79 (.ifCond .eq 9) 88, av_k 82 3 (.iinc 4 1) 1, av_b 85 (.goto (-21)) 64, av_a 88 1 (.aload_n 0), av_k 89 1 (.iconst 0) 0, av_f 90 3 (.putfield 15) 7 1 0 78 0, av_a 93 1 (.aload_n 0), av_a 94 2 (.iload 4), av_a 96 1 (.aload_n 0), av_f 97 3 (.getfield 335) 7 27 0 104 0, av_b 100 (.if_icmp .ge 7) 107, av_k 103 1 (.iconst 1) 1, av_b 104 (.goto 4) 108, av_k 107 1 (.iconst 0) 0, av_f 108 3 (.invokestatic 168) 160 1 1 185 7, av_a 111 1 .i2l, av_f 112 3 (.invokevirtual 18) 162 1 0 214 7, av_a 115 1 (.aload_n 0), av_a 116 1 (.aload_n 0), av_f 117 3 (.getfield 35) 7 7 0 84 0, av_k 120 2 (.bipush 30) 30, av_a 122 1 .iaload, av_a 123 1 .i2l, av_f 124 3 (.invokevirtual 18) 162 1 0 214 7, av_a 127 2 (.iload 4), av_b 129 (.ifCond .le 12) 141, av_a 132 1 (.aload_n 0), av_a 133 2 (.iload 4), av_f 135 3 (.invokevirtual 289) 198 1 1 215 7, av_b 138 (.goto 4) 142, av_k 141 1 (.iconst 0) 0, av_f 142 1 .ireturn 0 0 0 0 0]
def tX7_later : List av_I := [av_a 0 1 (.aload_n 0), av_k 1 1 (.iconst 0) 0, av_f 2 3 (.putfield 3) 7 0 0 77 0, av_a 5 1 (.iload_n 1), av_a 6 1 .i2l, av_l 7 1 (.lconst 0) 0 0, av_l 8 3 (.ldc2_w 307) 99 10, av_f 11 3 (.invokestatic 123) 158 3 1 175 7, av_b 14 (.ifCond .ne 5) 19, av_k 17 1 (.iconst (-1)) (-1), av_f 18 1 .ireturn 0 0 0 0 0, av_a 19 1 (.aload_n 0), av_f 20 3 (.getfield 38) 7 8 0 85 0, av_a 23 1 (.aload_n 0), av_f 24 3 (.getfield 35) 7 7 0 84 0, av_f 27 3 (.invokestatic 346) 172 2 0 232 7, av_a 30 1 (.aload_n 0), av_a 31 1 (.aload_n 0), av_f 32 3 (.getfield 38) 7 8 0 85 0, av_a 35 1 (.iload_n 1), av_f 36 3 (.invokevirtual 314) 202 2 0 210 7, av_a 39 1 (.aload_n 0), av_k 40 1 (.iconst 0) 0, av_f 41 3 (.putfield 15) 7 1 0 78 0, av_a 44 1 (.aload_n 0), av_a 45 1 (.aload_n 0), av_a 46 1 (.aload_n 0), av_f 47 3 (.getfield 38) 7 8 0 85 0, av_f 50 3 (.invokevirtual 131) 166 1 1 199 7, av_a 53 1 .i2l, av_f 54 3 (.invokevirtual 18) 162 1 0 214 7, av_a 57 1 (.aload_n 0), av_a 58 1 (.aload_n 0), av_a 59 1 (.aload_n 0), av_f 60 3 (.getfield 38) 7 8 0 85 0, av_f 63 3 (.invokevirtual 143) 168 1 1 213 7, av_a 66 1 .i2l, av_f 67 3 (.invokevirtual 18) 162 1 0 214 7, av_a 70 1 (.aload_n 0), av_f 71 3 (.getfield 38) 7 8 0 85 0, av_k 74 2 (.bipush 30) 30, av_a 76 1 .iaload, av_f 77 1 .ireturn 0 0 0 0 0]
def tX7_when : List av_I := [av_a 0 1 (.aload_n 0), av_k 1 1 (.iconst 0) 0, av_f 2 3 (.putfield 3) 7 0 0 77 0, av_a 5 1 (.aload_n 0), av_a 6 1 (.iload_n 1), av_f 7 3 (.invokevirtual 276) 164 1 1 194 7, av_b 10 (.ifCond .ne 5) 15, av_k 13 1 (.iconst (-1)) (-1), av_f 14 1 .ireturn 0 0 0 0 0, av_a 15 1 (.aload_n 0), av_f 16 3 (.getfield 38) 7 8 0 85 0, av_a 19 1 (.aload_n 0), av_f 20 3 (.getfield 35) 7 7 0 84 0, av_f 23 3 (.invokestatic 346) 172 2 0 232 7, av_k 26 1 (.iconst 0) 0, av_a 27 1 (.istore_n 2), av_a 28 1 (.iload_n 2), av_k 29 2 (.bipush 99) 99, av_b 31 (.if_icmp .gt 65) 96, av_a 34 1 (.aload_n 0), av_a 35 1 (.aload_n 0), av_f 36 3 (.getfield 38) 7 8 0 85 0, av_f 39 3 (.invokevirtual 131) 166 1 1 199 7, av_a 42 1 (.iload_n 1), av_f 43 3 (.invokestatic 135) 159 2 1 196 7, av_b 46 (.ifCond .ne 36) 82, av_a 49 1 (.aload_n 0), av_k 50 1 (.iconst 0) 0, av_f 51 3 (.putfield 15) 7 1 0 78 0, av_a 54 1 (.aload_n 0), av_a 55 1 (.aload_n 0), av_f 56 3 (.getfield 38) 7 8 0 85 0, av_k 59 2 (.bipush 30) 30, av_a 61 1 .iaload, av_a 62 1 .i2l, av_f 63 3 (.invokevirtual 18) 162 1 0 214 7, av_a 66 1 (.aload_n 0), av_a 67 1 (.aload_n 0), av_f 68 3 (.getfield 38) 7 8 0 85 0, av_k 71 2 (.bipush 21) 21, av_a 73 1 (.iload_n 1), av_a 74 1 .iadd, av_a 75 1 .iaload, av_a 76 1 .i2l, av_f 77 3 (.invokevirtual 18) 162 1 0 214 7, av_a 80 1 (.iload_n 2), av_f 81 1 .ireturn 0 0 0 0 0, av_a 82 1 (.aload_n 0), av_a 83 1 (.aload_n 0), av_f 84 3 (.getfield 38) 7 8 0 85 0, av_f 87 3 (.invokevirtual 295) 201 1 0 211 7, av_k 90 3 (.iinc 2 1) 1, av_b 93 (.goto (-65)) 28, av_k 96 2 (.bipush (-2)) (-2), av_f 98 1 .ireturn 0 0 0 0 0]
def tX7_order : List av_I := [av_a 0 1 (.aload_n 0), av_k 1 1 (.iconst 0) 0, av_f 2 3 (.putfield 3) 7 0 0 77 0, av_a 5 1 (.aload_n 0), av_f 6 3 (.getfield 38) 7 8 0 85 0, av_a 9 1 (.aload_n 0), av_f 10 3 (.getfield 35) 7 7 0 84 0, av_f 13 3 (.invokestatic 346) 172 2 0 232 7, av_a 16 1 (.aload_n 0), av_k 17 1 (.iconst 0) 0, av_f 18 3 (.putfield 15) 7 1 0 78 0, av_k 21 1 (.iconst 0) 0, av_a 22 1 (.istore_n 1), av_a 23 1 (.iload_n 1), av_k 24 2 (.bipush 99) 99, av_b 26 (.if_icmp .ge 65) 91, av_a 29 1 (.aload_n 0), av_f 30 3 (.getfield 38) 7 8 0 85 0, av_k 33 2 (.bipush 28) 28, av_a 35 1 .iaload, av_a 36 1 (.istore_n 2), av_a 37 1 (.aload_n 0), av_a 38 1 (.aload_n 0), av_f 39 3 (.getfield 38) 7 8 0 85 0, av_f 42 3 (.invokevirtual 295) 201 1 0 211 7, av_k 45 1 (.iconst 0) 0, av_a 46 1 (.istore_n 3), av_a 47 1 (.iload_n 3), av_a 48 1 (.aload_n 0), av_f 49 3 (.getfield 120) 7 3 0 80 0, av_b 52 (.if_icmp .ge 33) 85, av_a 55 1 (.aload_n 0), av_f 56 3 (.getfield 38) 7 8 0 85 0, av_k 59 2 (.bipush 28) 28, av_a 61 1 .iaload, av_a 62 1 (.iload_n 2), av_k 63 1 (.iconst (-1)) (-1), av_a 64 1 .ixor, av_a 65 1 .iand, av_a 66 1 (.iload_n 3), av_f 67 3 (.invokestatic 135) 159 2 1 196 7, av_b 70 (.ifCond .eq 9) 79, av_a 73 1 (.aload_n 0), av_a 74 1 (.iload_n 3), av_a 75 1 .i2l, av_f 76 3 (.invokevirtual 18) 162 1 0 214 7, av_k 79 3 (.iinc 3 1) 1, av_b 82 (.goto (-35)) 47, av_k 85 3 (.iinc 1 1) 1, av_b 88 (.goto (-65)) 23, av_a 91 1 (.aload_n 0), av_f 92 3 (.getfield 15) 7 1 0 78 0, av_f 95 1 .ireturn 0 0 0 0 0]
def tX7_gone : List av_I := [av_a 0 1 (.aload_n 0), av_k 1 1 (.iconst 0) 0, av_f 2 3 (.putfield 3) 7 0 0 77 0, av_a 5 1 (.aload_n 0), av_f 6 3 (.getfield 38) 7 8 0 85 0, av_a 9 1 (.aload_n 0), av_f 10 3 (.getfield 35) 7 7 0 84 0, av_f 13 3 (.invokestatic 346) 172 2 0 232 7, av_k 16 1 (.iconst 0) 0, av_a 17 1 (.istore_n 1), av_a 18 1 (.iload_n 1), av_k 19 2 (.bipush 99) 99, av_b 21 (.if_icmp .gt 47) 68, av_a 24 1 (.aload_n 0), av_a 25 1 (.aload_n 0), av_f 26 3 (.getfield 38) 7 8 0 85 0, av_f 29 3 (.invokevirtual 131) 166 1 1 199 7, av_b 32 (.ifCond .ne 22) 54, av_a 35 1 (.aload_n 0), av_k 36 1 (.iconst 0) 0, av_f 37 3 (.putfield 15) 7 1 0 78 0, av_a 40 1 (.aload_n 0), av_a 41 1 (.aload_n 0), av_f 42 3 (.getfield 38) 7 8 0 85 0, av_k 45 2 (.bipush 30) 30, av_a 47 1 .iaload, av_a 48 1 .i2l, av_f 49 3 (.invokevirtual 18) 162 1 0 214 7, av_a 52 1 (.iload_n 1), av_f 53 1 .ireturn 0 0 0 0 0, av_a 54 1 (.aload_n 0), av_a 55 1 (.aload_n 0), av_f 56 3 (.getfield 38) 7 8 0 85 0, av_f 59 3 (.invokevirtual 295) 201 1 0 211 7, av_k 62 3 (.iinc 1 1) 1, av_b 65 (.goto (-47)) 18, av_k 68 2 (.bipush (-2)) (-2), av_f 70 1 .ireturn 0 0 0 0 0]
def tX7_stopped : List av_I := [av_a 0 1 (.aload_n 0), av_k 1 1 (.iconst 0) 0, av_f 2 3 (.putfield 3) 7 0 0 77 0, av_a 5 1 (.aload_n 0), av_f 6 3 (.getfield 38) 7 8 0 85 0, av_a 9 1 (.aload_n 0), av_f 10 3 (.getfield 35) 7 7 0 84 0, av_f 13 3 (.invokestatic 346) 172 2 0 232 7, av_k 16 2 (.bipush (-2)) (-2), av_a 18 1 (.istore_n 1), av_k 19 1 (.iconst 0) 0, av_a 20 1 (.istore_n 2), av_k 21 1 (.iconst 0) 0, av_a 22 1 (.istore_n 3), av_k 23 1 (.iconst 1) 1, av_a 24 2 (.istore 4), av_a 26 2 (.iload 4), av_k 28 2 (.bipush 99) 99, av_b 30 (.if_icmp .gt 85) 115, av_a 33 1 (.aload_n 0), av_f 34 3 (.getfield 38) 7 8 0 85 0, av_k 37 2 (.bipush 30) 30, av_a 39 1 .iaload, av_a 40 2 (.istore 5), av_a 42 1 (.aload_n 0), av_a 43 1 (.aload_n 0), av_f 44 3 (.getfield 38) 7 8 0 85 0, av_f 47 3 (.invokevirtual 295) 201 1 0 211 7, av_a 50 1 (.aload_n 0), av_f 51 3 (.getfield 38) 7 8 0 85 0, av_k 54 2 (.bipush 30) 30, av_a 56 1 .iaload, av_a 57 2 (.iload 5), av_b 59 (.if_icmp .ne 7) 66, av_k 62 1 (.iconst 1) 1, av_b 63 (.goto 4) 67, av_k 66 1 (.iconst 0) 0, av_a 67 2 (.istore 6), av_a 69 2 (.iload 6), av_b 71 (.ifCond .eq 12) 83, av_a 74 1 (.iload_n 2), av_b 75 (.ifCond .ne 8) 83, av_a 78 2 (.iload 4), av_b 80 (.goto 4) 84, av_a 83 1 (.iload_n 1), av_a 84 1 (.istore_n 1), av_a 85 2 (.iload 6), av_b 87 (.ifCond .eq 12) 99, av_a 90 1 (.iload_n 2), av_b 91 (.ifCond .ne 8) 99, av_a 94 2 (.iload 5), av_b 96 (.goto 4) 100, av_a 99 1 (.iload_n 3), av_a 100 1 (.istore_n 3), av_a 101 1 (.iload_n 2), av_a 102 2 (.iload 6), av_f 104 3 (.invokestatic 168) 160 1 1 185 7, av_a 107 1 .iadd, av_a 108 1 (.istore_n 2), av_k 109 3 (.iinc 4 1) 1, av_b 112 (.goto (-86)) 26, av_a 115 1 (.iload_n 2), av_b 116 (.ifCond .le 20) 136, av_a 119 1 (.aload_n 0), av_k 120 1 (.iconst 0) 0, av_f 121 3 (.putfield 15) 7 1 0 78 0, av_a 124 1 (.aload_n 0), av_a 125 1 (.iload_n 2), av_a 126 1 .i2l, av_f 127 3 (.invokevirtual 18) 162 1 0 214 7, av_a 130 1 (.aload_n 0), av_a 131 1 (.iload_n 3), av_a 132 1 .i2l, av_f 133 3 (.invokevirtual 18) 162 1 0 214 7, av_a 136 1 (.iload_n 1), av_f 137 1 .ireturn 0 0 0 0 0]
def tX7_drag : List av_I := [av_a 0 1 (.aload_n 0), av_k 1 1 (.iconst 0) 0, av_f 2 3 (.putfield 3) 7 0 0 77 0, av_a 5 1 (.aload_n 0), av_k 6 1 (.iconst 0) 0, av_f 7 3 (.putfield 15) 7 1 0 78 0, av_a 10 1 (.aload_n 0), av_a 11 1 (.aload_n 0), av_a 12 1 (.aload_n 0), av_f 13 3 (.getfield 35) 7 7 0 84 0, av_f 16 3 (.invokevirtual 143) 168 1 1 213 7, av_a 19 1 .i2l, av_f 20 3 (.invokevirtual 18) 162 1 0 214 7, av_a 23 1 (.aload_n 0), av_a 24 1 (.aload_n 0), av_a 25 1 (.aload_n 0), av_a 26 1 (.aload_n 0), av_f 27 3 (.getfield 35) 7 7 0 84 0, av_f 30 3 (.invokevirtual 131) 166 1 1 199 7, av_f 33 3 (.invokevirtual 146) 169 1 1 206 7, av_a 36 1 .i2l, av_f 37 3 (.invokevirtual 18) 162 1 0 214 7, av_a 40 1 (.aload_n 0), av_a 41 1 (.aload_n 0), av_f 42 3 (.getfield 35) 7 7 0 84 0, av_f 45 3 (.invokevirtual 292) 170 1 1 212 7, av_f 48 1 .ireturn 0 0 0 0 0]
def tX7_thrift : List av_I := [av_a 0 1 (.aload_n 0), av_k 1 1 (.iconst 0) 0, av_f 2 3 (.putfield 3) 7 0 0 77 0, av_a 5 1 (.aload_n 0), av_a 6 1 (.iload_n 1), av_f 7 3 (.invokevirtual 276) 164 1 1 194 7, av_b 10 (.ifCond .eq 15) 25, av_a 13 1 (.iload_n 2), av_a 14 1 .i2l, av_l 15 1 (.lconst 1) 1 0, av_l 16 3 (.ldc2_w 309) 60 8, av_f 19 3 (.invokestatic 123) 158 3 1 175 7, av_b 22 (.ifCond .ne 5) 27, av_k 25 1 (.iconst (-1)) (-1), av_f 26 1 .ireturn 0 0 0 0 0, av_k 27 2 (.bipush (-2)) (-2), av_a 29 1 (.istore_n 3), av_k 30 1 (.iconst 0) 0, av_a 31 2 (.istore 4), av_k 33 1 (.iconst 0) 0, av_a 34 2 (.istore 5), av_a 36 2 (.iload 5), av_k 38 2 (.bipush 9) 9, av_b 40 (.if_icmp .gt 81) 121, av_a 43 1 (.aload_n 0), av_f 44 3 (.getfield 38) 7 8 0 85 0, av_a 47 1 (.aload_n 0), av_f 48 3 (.getfield 35) 7 7 0 84 0, av_f 51 3 (.invokestatic 346) 172 2 0 232 7, av_a 54 1 (.aload_n 0), av_f 55 3 (.getfield 38) 7 8 0 85 0, av_k 58 2 (.bipush 7) 7, av_a 60 1 (.iload_n 1), av_a 61 1 .iadd, av_a 62 2 (.iload 5), av_a 64 1 .iastore, av_a 65 1 (.aload_n 0), av_a 66 1 (.aload_n 0), av_f 67 3 (.getfield 38) 7 8 0 85 0, av_a 70 1 (.iload_n 2), av_f 71 3 (.invokevirtual 314) 202 2 0 210 7, av_a 74 1 (.aload_n 0), av_a 75 1 (.aload_n 0), av_f 76 3 (.getfield 38) 7 8 0 85 0, av_f 79 3 (.invokevirtual 131) 166 1 1 199 7, av_a 82 1 (.iload_n 1), av_f 83 3 (.invokestatic 135) 159 2 1 196 7, av_a 86 2 (.istore 6), av_a 88 2 (.iload 6), av_b 90 (.ifCond .eq 13) 103, av_a 93 2 (.iload 4), av_b 95 (.ifCond .ne 8) 103, av_a 98 2 (.iload 5), av_b 100 (.goto 4) 104, av_a 103 1 (.iload_n 3), av_a 104 1 (.istore_n 3), av_a 105 2 (.iload 4), av_a 107 2 (.iload 6), av_f 109 3 (.invokestatic 168) 160 1 1 185 7, av_a 112 1 .iadd, av_a 113 2 (.istore 4), av_k 115 3 (.iinc 5 1) 1, av_b 118 (.goto (-82)) 36, av_a 121 2 (.iload 4), av_b 123 (.ifCond .le 15) 138, av_a 126 1 (.aload_n 0), av_k 127 1 (.iconst 0) 0, av_f 128 3 (.putfield 15) 7 1 0 78 0, av_a 131 1 (.aload_n 0), av_a 132 2 (.iload 4), av_a 134 1 .i2l, av_f 135 3 (.invokevirtual 18) 162 1 0 214 7, av_a 138 1 (.iload_n 3), av_f 139 1 .ireturn 0 0 0 0 0]
def tX7_heldAt : List av_I := [av_a 0 1 (.aload_n 0), av_f 1 3 (.getfield 38) 7 8 0 85 0, av_a 4 1 (.aload_n 0), av_f 5 3 (.getfield 35) 7 7 0 84 0, av_f 8 3 (.invokestatic 346) 172 2 0 232 7, av_a 11 1 (.aload_n 0), av_f 12 3 (.getfield 38) 7 8 0 85 0, av_k 15 2 (.bipush 14) 14, av_a 17 1 (.iload_n 1), av_a 18 1 .iadd, av_a 19 1 (.iload_n 2), av_a 20 1 .iastore, av_k 21 1 (.iconst 0) 0, av_a 22 2 (.istore 4), av_k 24 1 (.iconst 0) 0, av_a 25 2 (.istore 5), av_a 27 2 (.iload 5), av_a 29 1 (.iload_n 3), av_b 30 (.if_icmp .ge 37) 67, av_a 33 1 (.aload_n 0), av_a 34 1 (.aload_n 0), av_f 35 3 (.getfield 38) 7 8 0 85 0, av_f 38 3 (.invokevirtual 295) 201 1 0 211 7, av_a 41 2 (.iload 4), av_a 43 1 (.aload_n 0), av_a 44 1 (.aload_n 0), av_f 45 3 (.getfield 38) 7 8 0 85 0, av_f 48 3 (.invokevirtual 131) 166 1 1 199 7, av_a 51 1 (.iload_n 1), av_f 52 3 (.invokestatic 135) 159 2 1 196 7, av_f 55 3 (.invokestatic 168) 160 1 1 185 7, av_a 58 1 .iadd, av_a 59 2 (.istore 4), av_k 61 3 (.iinc 5 1) 1, av_b 64 (.goto (-37)) 27, av_a 67 2 (.iload 4), av_f 69 1 .ireturn 0 0 0 0 0]
def tX7_mole : List av_I := [av_a 0 1 (.aload_n 0), av_k 1 1 (.iconst 0) 0, av_f 2 3 (.putfield 3) 7 0 0 77 0, av_a 5 1 (.aload_n 0), av_a 6 1 (.iload_n 1), av_f 7 3 (.invokevirtual 276) 164 1 1 194 7, av_b 10 (.ifCond .eq 15) 25, av_a 13 1 (.iload_n 2), av_a 14 1 .i2l, av_l 15 1 (.lconst 1) 1 0, av_l 16 3 (.ldc2_w 309) 60 8, av_f 19 3 (.invokestatic 123) 158 3 1 175 7, av_b 22 (.ifCond .ne 5) 27, av_k 25 1 (.iconst (-1)) (-1), av_f 26 1 .ireturn 0 0 0 0 0, av_k 27 1 (.iconst 0) 0, av_a 28 1 (.istore_n 3), av_k 29 1 (.iconst 1) 1, av_a 30 2 (.istore 4), av_a 32 2 (.iload 4), av_k 34 2 (.bipush 9) 9, av_b 36 (.if_icmp .gt 34) 70, av_a 39 1 (.aload_n 0), av_a 40 1 (.iload_n 1), av_a 41 2 (.iload 4), av_a 43 1 (.iload_n 2), av_f 44 3 (.invokevirtual 350) 225 3 1 240 7, av_a 47 1 (.aload_n 0), av_a 48 1 (.iload_n 1), av_a 49 1 (.iload_n 3), av_a 50 1 (.iload_n 2), av_f 51 3 (.invokevirtual 350) 225 3 1 240 7, av_b 54 (.if_icmp .le 8) 62, av_a 57 2 (.iload 4), av_b 59 (.goto 4) 63, av_a 62 1 (.iload_n 3), av_a 63 1 (.istore_n 3), av_k 64 3 (.iinc 4 1) 1, av_b 67 (.goto (-35)) 32, av_a 70 1 (.aload_n 0), av_k 71 1 (.iconst 0) 0, av_f 72 3 (.putfield 15) 7 1 0 78 0, av_a 75 1 (.aload_n 0), av_a 76 1 (.aload_n 0), av_a 77 1 (.iload_n 1), av_a 78 1 (.iload_n 3), av_a 79 1 (.iload_n 2), av_f 80 3 (.invokevirtual 350) 225 3 1 240 7, av_a 83 1 .i2l, av_f 84 3 (.invokevirtual 18) 162 1 0 214 7, av_a 87 1 (.aload_n 0), av_a 88 1 (.aload_n 0), av_a 89 1 (.iload_n 1), av_a 90 1 (.aload_n 0), av_f 91 3 (.getfield 35) 7 7 0 84 0, av_k 94 2 (.bipush 14) 14, av_a 96 1 (.iload_n 1), av_a 97 1 .iadd, av_a 98 1 .iaload, av_a 99 1 (.iload_n 2), av_f 100 3 (.invokevirtual 350) 225 3 1 240 7, av_a 103 1 .i2l, av_f 104 3 (.invokevirtual 18) 162 1 0 214 7, av_a 107 1 (.iload_n 3), av_f 108 1 .ireturn 0 0 0 0 0]
def tX7_heldBy : List av_I := [av_a 0 1 (.aload_n 0), av_f 1 3 (.getfield 38) 7 8 0 85 0, av_a 4 1 (.aload_n 0), av_f 5 3 (.getfield 35) 7 7 0 84 0, av_f 8 3 (.invokestatic 346) 172 2 0 232 7, av_a 11 1 (.aload_n 0), av_f 12 3 (.getfield 38) 7 8 0 85 0, av_k 15 2 (.bipush 31) 31, av_a 17 1 (.iload_n 1), av_a 18 1 .iastore, av_a 19 1 (.aload_n 0), av_a 20 1 (.aload_n 0), av_f 21 3 (.getfield 38) 7 8 0 85 0, av_a 24 1 (.iload_n 2), av_f 25 3 (.invokevirtual 314) 202 2 0 210 7, av_a 28 1 (.aload_n 0), av_a 29 1 (.aload_n 0), av_f 30 3 (.getfield 38) 7 8 0 85 0, av_f 33 3 (.invokevirtual 131) 166 1 1 199 7, av_f 36 3 (.invokestatic 265) 275 1 1 202 8, av_f 39 1 .ireturn 0 0 0 0 0]
def tX7_slows : List av_I := [av_a 0 1 (.aload_n 0), av_k 1 1 (.iconst 0) 0, av_f 2 3 (.putfield 3) 7 0 0 77 0, av_a 5 1 (.iload_n 1), av_a 6 1 .i2l, av_l 7 1 (.lconst 0) 0 0, av_l 8 3 (.ldc2_w 353) 7 11, av_f 11 3 (.invokestatic 123) 158 3 1 175 7, av_b 14 (.ifCond .eq 15) 29, av_a 17 1 (.iload_n 2), av_a 18 1 .i2l, av_l 19 1 (.lconst 1) 1 0, av_l 20 3 (.ldc2_w 309) 60 8, av_f 23 3 (.invokestatic 123) 158 3 1 175 7, av_b 26 (.ifCond .ne 5) 31, av_k 29 1 (.iconst (-1)) (-1), av_f 30 1 .ireturn 0 0 0 0 0, av_k 31 2 (.bipush 9) 9, av_a 33 1 (.istore_n 3), av_a 34 1 (.iload_n 3), av_b 35 (.ifCond .lt 19) 54, av_a 38 1 (.aload_n 0), av_a 39 1 (.iload_n 3), av_a 40 1 (.iload_n 2), av_f 41 3 (.invokevirtual 355) 227 2 1 242 7, av_a 44 1 (.iload_n 1), av_b 45 (.if_icmp .ge 9) 54, av_k 48 3 (.iinc 3 (-1)) (-1), av_b 51 (.goto (-17)) 34, av_a 54 1 (.iload_n 3), av_b 55 (.ifCond .ge 6) 61, av_k 58 2 (.bipush (-2)) (-2), av_f 60 1 .ireturn 0 0 0 0 0, av_a 61 1 (.aload_n 0), av_k 62 1 (.iconst 0) 0, av_f 63 3 (.putfield 15) 7 1 0 78 0, av_a 66 1 (.aload_n 0), av_a 67 1 (.aload_n 0), av_a 68 1 (.iload_n 3), av_a 69 1 (.iload_n 2), av_f 70 3 (.invokevirtual 355) 227 2 1 242 7, av_a 73 1 .i2l, av_f 74 3 (.invokevirtual 18) 162 1 0 214 7, av_a 77 1 (.aload_n 0), av_a 78 1 (.aload_n 0), av_a 79 1 (.aload_n 0), av_f 80 3 (.getfield 35) 7 7 0 84 0, av_k 83 2 (.bipush 31) 31, av_a 85 1 .iaload, av_a 86 1 (.iload_n 2), av_f 87 3 (.invokevirtual 355) 227 2 1 242 7, av_a 90 1 .i2l, av_f 91 3 (.invokevirtual 18) 162 1 0 214 7, av_a 94 1 (.iload_n 3), av_f 95 1 .ireturn 0 0 0 0 0]
def tX7_isFewer : List av_I := [av_a 0 1 (.iload_n 1), av_b 1 (.ifCond .lt 14) 15, av_a 4 1 (.iload_n 0), av_f 5 3 (.invokestatic 265) 275 1 1 202 8, av_a 8 1 (.iload_n 1), av_f 9 3 (.invokestatic 265) 275 1 1 202 8, av_b 12 (.if_icmp .ge 7) 19, av_k 15 1 (.iconst 1) 1, av_b 16 (.goto 4) 20, av_k 19 1 (.iconst 0) 0, av_f 20 1 .ireturn 1 0 0 0 0]
def tX7_entersFewest : List av_I := [av_a 0 1 (.iload_n 1), av_b 1 (.ifCond .ge 6) 7, av_k 4 2 (.bipush (-2)) (-2), av_f 6 1 .ireturn 0 0 0 0 0, av_a 7 1 (.aload_n 0), av_k 8 1 (.iconst 0) 0, av_f 9 3 (.putfield 15) 7 1 0 78 0, av_a 12 1 (.aload_n 0), av_a 13 1 (.iload_n 1), av_a 14 1 .i2l, av_f 15 3 (.invokevirtual 18) 162 1 0 214 7, av_a 18 1 (.iload_n 1), av_f 19 3 (.invokestatic 265) 275 1 1 202 8, av_f 22 1 .ireturn 0 0 0 0 0]
def tX7_halts : List av_I := [av_a 0 1 (.aload_n 0), av_k 1 1 (.iconst 0) 0, av_f 2 3 (.putfield 3) 7 0 0 77 0, av_k 5 1 (.iconst (-1)) (-1), av_a 6 1 (.istore_n 1), av_k 7 1 (.iconst 0) 0, av_a 8 1 (.istore_n 2), av_a 9 1 (.iload_n 2), av_a 10 1 (.aload_n 0), av_f 11 3 (.invokevirtual 127) 165 0 1 200 7, av_b 14 (.if_icmp .gt 65) 79, av_a 17 1 (.iload_n 2), av_a 18 1 (.aload_n 0), av_a 19 1 (.aload_n 0), av_f 20 3 (.getfield 35) 7 7 0 84 0, av_f 23 3 (.invokevirtual 131) 166 1 1 199 7, av_k 26 1 (.iconst (-1)) (-1), av_a 27 1 .ixor, av_a 28 1 .iand, av_b 29 (.ifCond .ne 24) 53, av_a 32 1 (.aload_n 0), av_a 33 1 (.iload_n 2), av_f 34 3 (.invokevirtual 146) 169 1 1 206 7, av_k 37 1 (.iconst 5) 5, av_a 38 1 .idiv, av_a 39 1 (.aload_n 0), av_f 40 3 (.getfield 35) 7 7 0 84 0, av_k 43 2 (.bipush 31) 31, av_a 45 1 .iaload, av_b 46 (.if_icmp .lt 7) 53, av_k 49 1 (.iconst 1) 1, av_b 50 (.goto 4) 54, av_k 53 1 (.iconst 0) 0, av_a 54 1 (.istore_n 3), av_a 55 1 (.iload_n 3), av_b 56 (.ifCond .eq 15) 71, av_a 59 1 (.iload_n 2), av_a 60 1 (.iload_n 1), av_f 61 3 (.invokestatic 358) 229 2 1 244 7, av_b 64 (.ifCond .eq 7) 71, av_a 67 1 (.iload_n 2), av_b 68 (.goto 4) 72, av_a 71 1 (.iload_n 1), av_a 72 1 (.istore_n 1), av_k 73 3 (.iinc 2 1) 1, av_b 76 (.goto (-67)) 9, av_a 79 1 (.aload_n 0), av_a 80 1 (.iload_n 1), av_f 81 3 (.invokevirtual 361) 230 1 1 245 7, av_f 84 1 .ireturn 0 0 0 0 0]
def tX7_frees : List av_I := [av_a 0 1 (.aload_n 0), av_k 1 1 (.iconst 0) 0, av_f 2 3 (.putfield 3) 7 0 0 77 0, av_a 5 1 (.aload_n 0), av_a 6 1 (.iload_n 1), av_f 7 3 (.invokevirtual 276) 164 1 1 194 7, av_b 10 (.ifCond .eq 15) 25, av_a 13 1 (.iload_n 2), av_a 14 1 .i2l, av_l 15 1 (.lconst 1) 1 0, av_l 16 3 (.ldc2_w 309) 60 8, av_f 19 3 (.invokestatic 123) 158 3 1 175 7, av_b 22 (.ifCond .ne 5) 27, av_k 25 1 (.iconst (-1)) (-1), av_f 26 1 .ireturn 0 0 0 0 0, av_a 27 1 (.aload_n 0), av_a 28 1 (.aload_n 0), av_f 29 3 (.getfield 35) 7 7 0 84 0, av_f 32 3 (.invokevirtual 131) 166 1 1 199 7, av_k 35 1 (.iconst 1) 1, av_a 36 1 (.iload_n 1), av_a 37 1 .ishl, av_k 38 1 (.iconst (-1)) (-1), av_a 39 1 .ixor, av_a 40 1 .iand, av_a 41 1 (.istore_n 3), av_k 42 1 (.iconst (-1)) (-1), av_a 43 2 (.istore 4), av_k 45 1 (.iconst 0) 0, av_a 46 2 (.istore 5), av_a 48 2 (.iload 5), av_a 50 1 (.iload_n 3), av_b 51 (.if_icmp .gt 84) 135, av_a 54 2 (.iload 5), av_a 56 1 (.iload_n 3), av_k 57 1 (.iconst (-1)) (-1), av_a 58 1 .ixor, av_a 59 1 .iand, av_b 60 (.ifCond .ne 69) 129, av_a 63 2 (.iload 5), av_a 65 2 (.iload 4), av_f 67 3 (.invokestatic 358) 229 2 1 244 7, av_b 70 (.ifCond .eq 59) 129, av_a 73 1 (.aload_n 0), av_f 74 3 (.getfield 38) 7 8 0 85 0, av_a 77 1 (.aload_n 0), av_f 78 3 (.getfield 35) 7 7 0 84 0, av_f 81 3 (.invokestatic 346) 172 2 0 232 7, av_a 84 1 (.aload_n 0), av_f 85 3 (.getfield 38) 7 8 0 85 0, av_k 88 2 (.bipush 29) 29, av_a 90 1 .dup2, av_a 91 1 .iaload, av_a 92 2 (.iload 5), av_a 94 1 .ior, av_a 95 1 .iastore, av_a 96 1 (.aload_n 0), av_a 97 1 (.aload_n 0), av_f 98 3 (.getfield 38) 7 8 0 85 0, av_a 101 1 (.iload_n 2), av_f 102 3 (.invokevirtual 314) 202 2 0 210 7, av_a 105 1 (.aload_n 0), av_a 106 1 (.aload_n 0), av_f 107 3 (.getfield 38) 7 8 0 85 0, av_f 110 3 (.invokevirtual 131) 166 1 1 199 7, av_a 113 1 (.iload_n 1), av_f 114 3 (.invokestatic 135) 159 2 1 196 7, av_b 117 (.ifCond .eq 8) 125, av_a 120 2 (.iload 5), av_b 122 (.goto 5) 127, av_a 125 2 (.iload 4), av_a 127 2 (.istore 4), av_k 129 3 (.iinc 5 1) 1, av_b 132 (.goto (-84)) 48, av_a 135 1 (.aload_n 0), av_a 136 2 (.iload 4), av_f 138 3 (.invokevirtual 361) 230 1 1 245 7, av_f 141 1 .ireturn 0 0 0 0 0]
def tX7_decides : List av_I := [av_k 0 1 (.iconst 2) 2, av_a 1 1 (.aload_n 0), av_a 2 1 (.iload_n 1), av_f 3 3 (.invokevirtual 146) 169 1 1 206 7, av_a 6 1 .imul, av_a 7 1 (.aload_n 0), av_a 8 1 (.aload_n 0), av_a 9 1 (.aload_n 0), av_f 10 3 (.getfield 35) 7 7 0 84 0, av_f 13 3 (.invokevirtual 131) 166 1 1 199 7, av_f 16 3 (.invokevirtual 146) 169 1 1 206 7, av_b 19 (.if_icmp .le 7) 26, av_k 22 1 (.iconst 1) 1, av_b 23 (.goto 4) 27, av_k 26 1 (.iconst 0) 0, av_f 27 1 .ireturn 1 0 0 0 0]
def tX7_turnsIt : List av_I := [av_a 0 1 (.iload_n 1), av_a 1 1 (.aload_n 0), av_a 2 1 (.aload_n 0), av_f 3 3 (.getfield 35) 7 7 0 84 0, av_f 6 3 (.invokevirtual 131) 166 1 1 199 7, av_k 9 1 (.iconst (-1)) (-1), av_a 10 1 .ixor, av_a 11 1 .iand, av_b 12 (.ifCond .ne 35) 47, av_a 15 1 (.iload_n 1), av_a 16 1 (.iload_n 2), av_f 17 3 (.invokestatic 135) 159 2 1 196 7, av_b 20 (.ifCond .ne 27) 47, av_a 23 1 (.aload_n 0), av_a 24 1 (.iload_n 1), av_f 25 3 (.invokevirtual 364) 233 1 1 249 7, av_b 28 (.ifCond .ne 19) 47, av_a 31 1 (.aload_n 0), av_a 32 1 (.iload_n 1), av_k 33 1 (.iconst 1) 1, av_a 34 1 (.iload_n 2), av_a 35 1 .ishl, av_a 36 1 .ior, av_f 37 3 (.invokevirtual 364) 233 1 1 249 7, av_b 40 (.ifCond .eq 7) 47, av_k 43 1 (.iconst 1) 1, av_b 44 (.goto 4) 48, av_k 47 1 (.iconst 0) 0, av_f 48 1 .ireturn 1 0 0 0 0]
def tX7_ordersOf : List av_I := [av_a 0 1 (.iload_n 0), av_k 1 1 (.iconst 2) 2, av_b 2 (.if_icmp .ge 7) 9, av_l 5 1 (.lconst 1) 1 0, av_b 6 (.goto 12) 18, av_a 9 1 (.iload_n 0), av_a 10 1 .i2l, av_a 11 1 (.iload_n 0), av_k 12 1 (.iconst 1) 1, av_a 13 1 .isub, av_f 14 3 (.invokestatic 367) 235 1 2 253 7, av_a 17 1 .lmul, av_a 18 1 .lreturn]
def tX7_power : List av_I := [av_a 0 1 (.aload_n 0), av_k 1 1 (.iconst 0) 0, av_f 2 3 (.putfield 3) 7 0 0 77 0, av_a 5 1 (.aload_n 0), av_a 6 1 (.iload_n 1), av_f 7 3 (.invokevirtual 276) 164 1 1 194 7, av_b 10 (.ifCond .ne 5) 15, av_k 13 1 (.iconst (-1)) (-1), av_f 14 1 .ireturn 0 0 0 0 0, av_a 15 1 (.aload_n 0), av_a 16 1 (.aload_n 0), av_f 17 3 (.getfield 35) 7 7 0 84 0, av_f 20 3 (.invokevirtual 131) 166 1 1 199 7, av_a 23 1 (.iload_n 1), av_f 24 3 (.invokestatic 135) 159 2 1 196 7, av_b 27 (.ifCond .ne 6) 33, av_k 30 2 (.bipush (-2)) (-2), av_f 32 1 .ireturn 0 0 0 0 0, av_k 33 1 (.iconst 0) 0, av_a 34 1 (.istore_n 2), av_k 35 1 (.iconst 0) 0, av_a 36 1 (.istore_n 3), av_a 37 1 (.iload_n 3), av_a 38 1 (.aload_n 0), av_f 39 3 (.invokevirtual 127) 165 0 1 200 7, av_b 42 (.if_icmp .gt 21) 63, av_a 45 1 (.iload_n 2), av_a 46 1 (.aload_n 0), av_a 47 1 (.iload_n 3), av_a 48 1 (.iload_n 1), av_f 49 3 (.invokevirtual 371) 234 2 1 248 7, av_f 52 3 (.invokestatic 168) 160 1 1 185 7, av_a 55 1 .iadd, av_a 56 1 (.istore_n 2), av_k 57 3 (.iinc 3 1) 1, av_b 60 (.goto (-23)) 37, av_a 63 1 (.aload_n 0), av_a 64 1 (.iload_n 2), av_a 65 1 .i2l, av_k 66 1 (.iconst 1) 1, av_a 67 1 (.aload_n 0), av_a 68 1 (.aload_n 0), av_f 69 3 (.getfield 35) 7 7 0 84 0, av_f 72 3 (.invokevirtual 131) 166 1 1 199 7, av_f 75 3 (.invokestatic 265) 275 1 1 202 8, av_k 78 1 (.iconst 1) 1, av_a 79 1 .isub, av_a 80 1 .ishl, av_a 81 1 .i2l, av_f 82 3 (.invokevirtual 374) 163 2 1 250 7, av_f 85 1 .ireturn 0 0 0 0 0]
def tX7_pivots : List av_I := [av_a 0 1 (.aload_n 0), av_k 1 1 (.iconst 0) 0, av_f 2 3 (.putfield 3) 7 0 0 77 0, av_a 5 1 (.aload_n 0), av_a 6 1 (.iload_n 1), av_f 7 3 (.invokevirtual 276) 164 1 1 194 7, av_b 10 (.ifCond .ne 5) 15, av_k 13 1 (.iconst (-1)) (-1), av_f 14 1 .ireturn 0 0 0 0 0, av_a 15 1 (.aload_n 0), av_a 16 1 (.aload_n 0), av_f 17 3 (.getfield 35) 7 7 0 84 0, av_f 20 3 (.invokevirtual 131) 166 1 1 199 7, av_a 23 1 (.iload_n 1), av_f 24 3 (.invokestatic 135) 159 2 1 196 7, av_b 27 (.ifCond .ne 6) 33, av_k 30 2 (.bipush (-2)) (-2), av_f 32 1 .ireturn 0 0 0 0 0, av_a 33 1 (.aload_n 0), av_a 34 1 (.aload_n 0), av_f 35 3 (.getfield 35) 7 7 0 84 0, av_f 38 3 (.invokevirtual 131) 166 1 1 199 7, av_f 41 3 (.invokestatic 265) 275 1 1 202 8, av_a 44 1 (.istore_n 2), av_l 45 1 (.lconst 0) 0 0, av_a 46 1 (.lstore_n 3), av_k 47 1 (.iconst 0) 0, av_a 48 2 (.istore 5), av_a 50 2 (.iload 5), av_a 52 1 (.aload_n 0), av_f 53 3 (.invokevirtual 127) 165 0 1 200 7, av_b 56 (.if_icmp .gt 48) 104, av_a 59 2 (.iload 5), av_f 61 3 (.invokestatic 265) 275 1 1 202 8, av_a 64 2 (.istore 6), av_a 66 1 (.lload_n 3), av_a 67 1 (.aload_n 0), av_a 68 2 (.iload 5), av_a 70 1 (.iload_n 1), av_f 71 3 (.invokevirtual 371) 234 2 1 248 7, av_b 74 (.ifCond .eq 21) 95, av_a 77 2 (.iload 6), av_f 79 3 (.invokestatic 367) 235 1 2 253 7, av_a 82 1 (.iload_n 2), av_k 83 1 (.iconst 1) 1, av_a 84 1 .isub, av_a 85 2 (.iload 6), av_a 87 1 .isub, av_f 88 3 (.invokestatic 367) 235 1 2 253 7, av_a 91 1 .lmul, av_b 92 (.goto 4) 96, av_l 95 1 (.lconst 0) 0 0, av_a 96 1 .ladd, av_a 97 1 (.lstore_n 3), av_k 98 3 (.iinc 5 1) 1, av_b 101 (.goto (-51)) 50, av_a 104 1 (.aload_n 0), av_a 105 1 (.lload_n 3), av_a 106 1 (.iload_n 2), av_f 107 3 (.invokestatic 367) 235 1 2 253 7, av_f 110 3 (.invokevirtual 374) 163 2 1 250 7, av_f 113 1 .ireturn 0 0 0 0 0]
def tX7_colours : List av_I := [av_a 0 1 (.aload_n 0), av_k 1 1 (.iconst 0) 0, av_f 2 3 (.putfield 3) 7 0 0 77 0, av_k 5 1 (.iconst 0) 0, av_a 6 1 (.istore_n 1), av_a 7 1 (.aload_n 0), av_k 8 1 (.iconst 0) 0, av_f 9 3 (.putfield 15) 7 1 0 78 0, av_k 12 1 (.iconst 0) 0, av_a 13 1 (.istore_n 2), av_a 14 1 (.iload_n 2), av_k 15 1 (.iconst 4) 4, av_b 16 (.if_icmp .ge 62) 78, av_a 19 1 (.aload_n 0), av_a 20 1 (.aload_n 0), av_a 21 1 (.aload_n 0), av_f 22 3 (.getfield 35) 7 7 0 84 0, av_f 25 3 (.invokevirtual 131) 166 1 1 199 7, av_a 28 1 (.aload_n 0), av_a 29 1 (.iload_n 2), av_f 30 3 (.invokevirtual 262) 193 1 1 201 7, av_a 33 1 .iand, av_f 34 3 (.invokevirtual 146) 169 1 1 206 7, av_a 37 1 (.istore_n 3), av_a 38 1 (.iload_n 3), av_a 39 1 (.aload_n 0), av_a 40 1 (.aload_n 0), av_a 41 1 (.aload_n 0), av_f 42 3 (.getfield 35) 7 7 0 84 0, av_f 45 3 (.invokevirtual 131) 166 1 1 199 7, av_a 48 1 (.aload_n 0), av_a 49 1 (.iload_n 1), av_f 50 3 (.invokevirtual 262) 193 1 1 201 7, av_a 53 1 .iand, av_f 54 3 (.invokevirtual 146) 169 1 1 206 7, av_b 57 (.if_icmp .le 7) 64, av_a 60 1 (.iload_n 2), av_b 61 (.goto 4) 65, av_a 64 1 (.iload_n 1), av_a 65 1 (.istore_n 1), av_a 66 1 (.aload_n 0), av_a 67 1 (.iload_n 3), av_a 68 1 .i2l, av_f 69 3 (.invokevirtual 18) 162 1 0 214 7, av_k 72 3 (.iinc 2 1) 1, av_b 75 (.goto (-61)) 14, av_a 78 1 (.iload_n 1), av_f 79 1 .ireturn 0 0 0 0 0]
def tX7_parties : List av_I := [av_a 0 1 (.aload_n 0), av_k 1 1 (.iconst 0) 0, av_f 2 3 (.putfield 3) 7 0 0 77 0, av_a 5 1 (.aload_n 0), av_a 6 1 (.aload_n 0), av_a 7 1 (.aload_n 0), av_f 8 3 (.getfield 35) 7 7 0 84 0, av_f 11 3 (.invokevirtual 131) 166 1 1 199 7, av_f 14 3 (.invokevirtual 146) 169 1 1 206 7, av_a 17 1 (.istore_n 1), av_k 18 1 (.iconst 0) 0, av_a 19 1 (.istore_n 2), av_k 20 1 (.iconst 1) 1, av_a 21 1 (.istore_n 3), av_a 22 1 (.iload_n 3), av_a 23 1 (.aload_n 0), av_a 24 1 (.aload_n 0), av_f 25 3 (.getfield 35) 7 7 0 84 0, av_f 28 3 (.invokevirtual 131) 166 1 1 199 7, av_b 31 (.if_icmp .gt 69) 100, av_a 34 1 (.iload_n 3), av_a 35 1 (.aload_n 0), av_a 36 1 (.aload_n 0), av_f 37 3 (.getfield 35) 7 7 0 84 0, av_f 40 3 (.invokevirtual 131) 166 1 1 199 7, av_k 43 1 (.iconst (-1)) (-1), av_a 44 1 .ixor, av_a 45 1 .iand, av_b 46 (.ifCond .ne 7) 53, av_k 49 1 (.iconst 1) 1, av_b 50 (.goto 4) 54, av_k 53 1 (.iconst 0) 0, av_a 54 2 (.istore 4), av_a 56 2 (.iload 4), av_b 58 (.ifCond .eq 34) 92, av_a 61 1 (.iload_n 1), av_k 62 1 (.iconst 2) 2, av_a 63 1 (.aload_n 0), av_a 64 1 (.iload_n 3), av_f 65 3 (.invokevirtual 146) 169 1 1 206 7, av_a 68 1 .imul, av_a 69 1 .isub, av_f 70 3 (.invokestatic 301) 0 0 12 11 0, av_a 73 1 (.iload_n 1), av_k 74 1 (.iconst 2) 2, av_a 75 1 (.aload_n 0), av_a 76 1 (.iload_n 2), av_f 77 3 (.invokevirtual 146) 169 1 1 206 7, av_a 80 1 .imul, av_a 81 1 .isub, av_f 82 3 (.invokestatic 301) 0 0 12 11 0, av_b 85 (.if_icmp .ge 7) 92, av_a 88 1 (.iload_n 3), av_b 89 (.goto 4) 93, av_a 92 1 (.iload_n 2), av_a 93 1 (.istore_n 2), av_k 94 3 (.iinc 3 1) 1, av_b 97 (.goto (-75)) 22, av_a 100 1 (.aload_n 0), av_k 101 1 (.iconst 0) 0, av_f 102 3 (.putfield 15) 7 1 0 78 0, av_a 105 1 (.aload_n 0), av_a 106 1 (.iload_n 2), av_a 107 1 .i2l, av_f 108 3 (.invokevirtual 18) 162 1 0 214 7, av_a 111 1 (.aload_n 0), av_a 112 1 (.aload_n 0), av_a 113 1 (.iload_n 2), av_f 114 3 (.invokevirtual 146) 169 1 1 206 7, av_a 117 1 .i2l, av_f 118 3 (.invokevirtual 18) 162 1 0 214 7, av_a 121 1 (.iload_n 1), av_k 122 1 (.iconst 2) 2, av_a 123 1 (.aload_n 0), av_a 124 1 (.iload_n 2), av_f 125 3 (.invokevirtual 146) 169 1 1 206 7, av_a 128 1 .imul, av_a 129 1 .isub, av_f 130 3 (.invokestatic 301) 0 0 12 11 0, av_f 133 1 .ireturn 0 0 0 0 0]
def tX7_ends : List av_I := [av_a 0 1 (.aload_n 0), av_k 1 1 (.iconst 0) 0, av_f 2 3 (.putfield 3) 7 0 0 77 0, av_a 5 1 (.iload_n 1), av_a 6 1 .i2l, av_l 7 1 (.lconst 0) 0 0, av_l 8 3 (.ldc2_w 353) 7 11, av_f 11 3 (.invokestatic 123) 158 3 1 175 7, av_b 14 (.ifCond .eq 40) 54, av_a 17 1 (.iload_n 2), av_a 18 1 .i2l, av_l 19 1 (.lconst 0) 0 0, av_l 20 3 (.ldc2_w 353) 7 11, av_f 23 3 (.invokestatic 123) 158 3 1 175 7, av_b 26 (.ifCond .eq 28) 54, av_a 29 1 (.iload_n 3), av_a 30 1 .i2l, av_l 31 1 (.lconst 0) 0 0, av_l 32 3 (.ldc2_w 353) 7 11, av_f 35 3 (.invokestatic 123) 158 3 1 175 7, av_b 38 (.ifCond .eq 16) 54, av_a 41 2 (.iload 4), av_a 43 1 .i2l, av_l 44 1 (.lconst 0) 0 0, av_l 45 3 (.ldc2_w 353) 7 11, av_f 48 3 (.invokestatic 123) 158 3 1 175 7, av_b 51 (.ifCond .ne 5) 56, av_k 54 1 (.iconst (-1)) (-1), av_f 55 1 .ireturn 0 0 0 0 0, av_a 56 1 (.aload_n 0), av_f 57 3 (.invokevirtual 127) 165 0 1 200 7, av_a 60 1 (.aload_n 0), av_a 61 1 (.aload_n 0), av_f 62 3 (.getfield 35) 7 7 0 84 0, av_f 65 3 (.invokevirtual 131) 166 1 1 199 7, av_k 68 1 (.iconst (-1)) (-1), av_a 69 1 .ixor, av_a 70 1 .iand, av_a 71 2 (.istore 5), av_k 73 1 (.iconst 0) 0, av_a 74 2 (.istore 6), av_a 76 1 (.aload_n 0), av_k 77 1 (.iconst 0) 0, av_f 78 3 (.putfield 15) 7 1 0 78 0, av_k 81 1 (.iconst 0) 0, av_a 82 2 (.istore 7), av_a 84 2 (.iload 7), av_a 86 1 (.aload_n 0), av_f 87 3 (.invokevirtual 127) 165 0 1 200 7, av_b 90 (.if_icmp .gt 130) 220, av_a 93 2 (.iload 7), av_a 95 2 (.iload 5), av_k 97 1 (.iconst (-1)) (-1), av_a 98 1 .ixor, av_a 99 1 .iand, av_b 100 (.ifCond .ne 7) 107, av_k 103 1 (.iconst 1) 1, av_b 104 (.goto 4) 108, av_k 107 1 (.iconst 0) 0, av_a 108 2 (.istore 8), av_k 110 1 (.iconst 0) 0, av_a 111 2 (.istore 9), av_a 113 2 (.iload 9), av_k 115 1 (.iconst 4) 4, av_b 116 (.if_icmp .ge 71) 187, av_a 119 2 (.iload 9), av_b 121 (.ifCond .ne 7) 128, av_a 124 1 (.iload_n 1), av_b 125 (.goto 25) 150, av_a 128 2 (.iload 9), av_k 130 1 (.iconst 1) 1, av_b 131 (.if_icmp .ne 7) 138, av_a 134 1 (.iload_n 2), av_b 135 (.goto 15) 150, av_a 138 2 (.iload 9), av_k 140 1 (.iconst 2) 2, av_b 141 (.if_icmp .ne 7) 148, av_a 144 1 (.iload_n 3), av_b 145 (.goto 5) 150, av_a 148 2 (.iload 4), av_a 150 2 (.istore 10), av_a 152 2 (.iload 8), av_b 154 (.ifCond .eq 24) 178, av_a 157 2 (.iload 7), av_a 159 1 (.aload_n 0), av_a 160 2 (.iload 9), av_f 162 3 (.invokevirtual 262) 193 1 1 201 7, av_a 165 1 .iand, av_f 166 3 (.invokestatic 265) 275 1 1 202 8, av_a 169 2 (.iload 10), av_b 171 (.if_icmp .ne 7) 178, av_k 174 1 (.iconst 1) 1, av_b 175 (.goto 4) 179, av_k 178 1 (.iconst 0) 0, av_a 179 2 (.istore 8), av_k 181 3 (.iinc 9 1) 1, av_b 184 (.goto (-71)) 113, av_a 187 2 (.iload 8), av_b 189 (.ifCond .eq 15) 204, av_a 192 2 (.iload 6), av_b 194 (.ifCond .ne 10) 204, av_a 197 1 (.aload_n 0), av_a 198 2 (.iload 7), av_a 200 1 .i2l, av_f 201 3 (.invokevirtual 18) 162 1 0 214 7, av_a 204 2 (.iload 6), av_a 206 2 (.iload 8), av_f 208 3 (.invokestatic 168) 160 1 1 185 7, av_a 211 1 .iadd, av_a 212 2 (.istore 6), av_k 214 3 (.iinc 7 1) 1, av_b 217 (.goto (-133)) 84, av_a 220 2 (.iload 6), av_f 222 1 .ireturn 0 0 0 0 0]
def tX7_just : List av_I := [av_a 0 1 (.aload_n 0), av_k 1 1 (.iconst 0) 0, av_f 2 3 (.putfield 3) 7 0 0 77 0, av_a 5 1 (.iload_n 1), av_a 6 1 .i2l, av_l 7 1 (.lconst 0) 0 0, av_l 8 3 (.ldc2_w 378) 9999 12, av_f 11 3 (.invokestatic 123) 158 3 1 175 7, av_b 14 (.ifCond .ne 5) 19, av_k 17 1 (.iconst (-1)) (-1), av_f 18 1 .ireturn 0 0 0 0 0, av_k 19 1 (.iconst (-1)) (-1), av_a 20 1 (.istore_n 2), av_k 21 1 (.iconst 0) 0, av_a 22 1 (.istore_n 3), av_k 23 1 (.iconst 0) 0, av_a 24 2 (.istore 4), av_a 26 2 (.iload 4), av_a 28 1 (.aload_n 0), av_f 29 3 (.invokevirtual 127) 165 0 1 200 7, av_b 32 (.if_icmp .gt 98) 130, av_k 35 1 (.iconst 0) 0, av_a 36 2 (.istore 5), av_k 38 1 (.iconst 0) 0, av_a 39 2 (.istore 6), av_a 41 2 (.iload 6), av_a 43 1 (.aload_n 0), av_f 44 3 (.getfield 120) 7 3 0 80 0, av_b 47 (.if_icmp .ge 38) 85, av_a 50 2 (.iload 5), av_a 52 2 (.iload 4), av_a 54 2 (.iload 6), av_f 56 3 (.invokestatic 135) 159 2 1 196 7, av_b 59 (.ifCond .eq 16) 75, av_a 62 1 (.aload_n 0), av_f 63 3 (.getfield 35) 7 7 0 84 0, av_k 66 2 (.bipush 21) 21, av_a 68 2 (.iload 6), av_a 70 1 .iadd, av_a 71 1 .iaload, av_b 72 (.goto 4) 76, av_k 75 1 (.iconst 0) 0, av_a 76 1 .iadd, av_a 77 2 (.istore 5), av_k 79 3 (.iinc 6 1) 1, av_b 82 (.goto (-41)) 41, av_a 85 2 (.iload 5), av_a 87 1 (.iload_n 1), av_b 88 (.if_icmp .ne 17) 105, av_a 91 2 (.iload 4), av_a 93 1 (.iload_n 2), av_f 94 3 (.invokestatic 358) 229 2 1 244 7, av_b 97 (.ifCond .eq 8) 105, av_a 100 2 (.iload 4), av_b 102 (.goto 4) 106, av_a 105 1 (.iload_n 2), av_a 106 1 (.istore_n 2), av_a 107 1 (.iload_n 3), av_a 108 2 (.iload 5), av_a 110 1 (.iload_n 1), av_b 111 (.if_icmp .ne 7) 118, av_k 114 1 (.iconst 1) 1, av_b 115 (.goto 4) 119, av_k 118 1 (.iconst 0) 0, av_f 119 3 (.invokestatic 168) 160 1 1 185 7, av_a 122 1 .iadd, av_a 123 1 (.istore_n 3), av_k 124 3 (.iinc 4 1) 1, av_b 127 (.goto (-101)) 26, av_a 130 1 (.aload_n 0), av_a 131 1 (.iload_n 2), av_f 132 3 (.invokevirtual 361) 230 1 1 245 7, av_a 135 2 (.istore 4), av_a 137 1 (.iload_n 2), av_b 138 (.ifCond .lt 9) 147, av_a 141 1 (.aload_n 0), av_a 142 1 (.iload_n 3), av_a 143 1 .i2l, av_f 144 3 (.invokevirtual 18) 162 1 0 214 7, av_a 147 2 (.iload 4), av_f 149 1 .ireturn 0 0 0 0 0]
def tX7_seen : List av_I := [av_a 0 1 (.aload_n 0), av_k 1 1 (.iconst 0) 0, av_f 2 3 (.putfield 3) 7 0 0 77 0, av_a 5 1 (.aload_n 0), av_a 6 1 (.iload_n 1), av_f 7 3 (.invokevirtual 276) 164 1 1 194 7, av_b 10 (.ifCond .eq 36) 46, av_a 13 1 (.iload_n 2), av_a 14 1 .i2l, av_l 15 3 (.ldc2_w 380) (-99) 13, av_l 18 3 (.ldc2_w 307) 99 10, av_f 21 3 (.invokestatic 123) 158 3 1 175 7, av_b 24 (.ifCond .eq 22) 46, av_a 27 1 (.iload_n 3), av_a 28 1 .i2l, av_l 29 1 (.lconst 0) 0 0, av_l 30 1 (.lconst 1) 1 0, av_f 31 3 (.invokestatic 123) 158 3 1 175 7, av_b 34 (.ifCond .eq 12) 46, av_a 37 1 (.aload_n 0), av_f 38 3 (.getfield 382) 7 28 0 105 0, av_k 41 2 (.bipush 10) 10, av_b 43 (.if_icmp .ne 5) 48, av_k 46 1 (.iconst (-1)) (-1), av_f 47 1 .ireturn 0 0 0 0 0, av_a 48 1 (.aload_n 0), av_f 49 3 (.getfield 71) 7 29 0 106 0, av_a 52 1 (.aload_n 0), av_f 53 3 (.getfield 382) 7 28 0 105 0, av_a 56 1 (.iload_n 1), av_a 57 1 .iastore, av_a 58 1 (.aload_n 0), av_f 59 3 (.getfield 74) 7 30 0 107 0, av_a 62 1 (.aload_n 0), av_f 63 3 (.getfield 382) 7 28 0 105 0, av_a 66 1 (.iload_n 2), av_a 67 1 .iastore, av_a 68 1 (.aload_n 0), av_f 69 3 (.getfield 77) 7 31 0 108 0, av_a 72 1 (.aload_n 0), av_f 73 3 (.getfield 382) 7 28 0 105 0, av_a 76 1 (.iload_n 3), av_a 77 1 .iastore, av_a 78 1 (.aload_n 0), av_a 79 1 .dup, av_f 80 3 (.getfield 382) 7 28 0 105 0, av_k 83 1 (.iconst 1) 1, av_a 84 1 .iadd, av_f 85 3 (.putfield 382) 7 28 0 105 0, av_a 88 1 (.aload_n 0), av_f 89 3 (.getfield 382) 7 28 0 105 0, av_f 92 1 .ireturn 0 0 0 0 0]
def tX7_forget : List av_I := [av_a 0 1 (.aload_n 0), av_k 1 1 (.iconst 0) 0, av_f 2 3 (.putfield 3) 7 0 0 77 0, av_a 5 1 (.aload_n 0), av_f 6 3 (.getfield 382) 7 28 0 105 0, av_a 9 1 (.istore_n 1), av_a 10 1 (.aload_n 0), av_k 11 1 (.iconst 0) 0, av_f 12 3 (.putfield 382) 7 28 0 105 0, av_a 15 1 (.iload_n 1), av_f 16 1 .ireturn 0 0 0 0 0]
def tX7_lacks : List av_I := [av_a 0 1 (.iload_n 1), av_a 1 1 (.aload_n 0), av_f 2 3 (.getfield 35) 7 7 0 84 0, av_k 5 2 (.bipush 14) 14, av_a 7 1 (.iload_n 2), av_a 8 1 .iadd, av_a 9 1 .iaload, av_a 10 1 .isub, av_a 11 1 (.aload_n 0), av_f 12 3 (.getfield 35) 7 7 0 84 0, av_k 15 2 (.bipush 21) 21, av_a 17 1 (.iload_n 2), av_a 18 1 .iadd, av_a 19 1 .iaload, av_a 20 1 .isub, av_a 21 1 (.iload_n 3), av_b 22 (.if_icmp .lt 7) 29, av_k 25 1 (.iconst 1) 1, av_b 26 (.goto 4) 30, av_k 29 1 (.iconst 0) 0, av_f 30 1 .ireturn 1 0 0 0 0]
def tX7_isAsSeen : List av_I := [av_k 0 1 (.iconst 1) 1, av_a 1 1 (.istore_n 2), av_k 2 1 (.iconst 0) 0, av_a 3 1 (.istore_n 3), av_a 4 1 (.iload_n 3), av_a 5 1 (.aload_n 0), av_f 6 3 (.getfield 382) 7 28 0 105 0, av_b 9 (.if_icmp .ge 48) 57, av_a 12 1 (.iload_n 2), av_b 13 (.ifCond .eq 36) 49, av_a 16 1 (.aload_n 0), av_a 17 1 (.iload_n 1), av_a 18 1 (.aload_n 0), av_f 19 3 (.getfield 71) 7 29 0 106 0, av_a 22 1 (.iload_n 3), av_a 23 1 .iaload, av_a 24 1 (.aload_n 0), av_f 25 3 (.getfield 74) 7 30 0 107 0, av_a 28 1 (.iload_n 3), av_a 29 1 .iaload, av_f 30 3 (.invokevirtual 385) 244 3 1 262 7, av_f 33 3 (.invokestatic 168) 160 1 1 185 7, av_a 36 1 (.aload_n 0), av_f 37 3 (.getfield 77) 7 31 0 108 0, av_a 40 1 (.iload_n 3), av_a 41 1 .iaload, av_b 42 (.if_icmp .ne 7) 49, av_k 45 1 (.iconst 1) 1, av_b 46 (.goto 4) 50, av_k 49 1 (.iconst 0) 0, av_a 50 1 (.istore_n 2), av_k 51 3 (.iinc 3 1) 1, av_b 54 (.goto (-50)) 4, av_a 57 1 (.iload_n 2), av_f 58 1 .ireturn 1 0 0 0 0]
def tX7_guess : List av_I := [av_a 0 1 (.aload_n 0), av_k 1 1 (.iconst 0) 0, av_f 2 3 (.putfield 3) 7 0 0 77 0, av_k 5 1 (.iconst 0) 0, av_a 6 1 (.istore_n 1), av_k 7 1 (.iconst 0) 0, av_a 8 1 (.istore_n 2), av_k 9 1 (.iconst 0) 0, av_a 10 1 (.istore_n 3), av_k 11 1 (.iconst 0) 0, av_a 12 2 (.istore 4), av_a 14 2 (.iload 4), av_k 16 2 (.bipush 59) 59, av_b 18 (.if_icmp .gt 53) 71, av_a 21 1 (.aload_n 0), av_a 22 2 (.iload 4), av_f 24 3 (.invokevirtual 389) 245 1 1 261 7, av_a 27 2 (.istore 5), av_a 29 2 (.iload 5), av_b 31 (.ifCond .eq 12) 43, av_a 34 1 (.iload_n 1), av_b 35 (.ifCond .ne 8) 43, av_a 38 2 (.iload 4), av_b 40 (.goto 4) 44, av_a 43 1 (.iload_n 2), av_a 44 1 (.istore_n 2), av_a 45 2 (.iload 5), av_b 47 (.ifCond .eq 8) 55, av_a 50 2 (.iload 4), av_b 52 (.goto 4) 56, av_a 55 1 (.iload_n 3), av_a 56 1 (.istore_n 3), av_a 57 1 (.iload_n 1), av_a 58 2 (.iload 5), av_f 60 3 (.invokestatic 168) 160 1 1 185 7, av_a 63 1 .iadd, av_a 64 1 (.istore_n 1), av_k 65 3 (.iinc 4 1) 1, av_b 68 (.goto (-54)) 14, av_a 71 1 (.aload_n 0), av_k 72 1 (.iconst 0) 0, av_f 73 3 (.putfield 15) 7 1 0 78 0, av_a 76 1 (.aload_n 0), av_a 77 1 (.aload_n 0), av_a 78 1 (.aload_n 0), av_f 79 3 (.getfield 35) 7 7 0 84 0, av_k 82 2 (.bipush 30) 30, av_a 84 1 .iaload, av_f 85 3 (.invokevirtual 389) 245 1 1 261 7, av_f 88 3 (.invokestatic 168) 160 1 1 185 7, av_a 91 1 .i2l, av_f 92 3 (.invokevirtual 18) 162 1 0 214 7, av_a 95 1 (.iload_n 1), av_b 96 (.ifCond .le 15) 111, av_a 99 1 (.aload_n 0), av_a 100 1 (.iload_n 2), av_a 101 1 .i2l, av_f 102 3 (.invokevirtual 18) 162 1 0 214 7, av_a 105 1 (.aload_n 0), av_a 106 1 (.iload_n 3), av_a 107 1 .i2l, av_f 108 3 (.invokevirtual 18) 162 1 0 214 7, av_a 111 1 (.iload_n 1), av_f 112 1 .ireturn 0 0 0 0 0]
def tX7_looks : List av_I := [av_a 0 1 (.aload_n 0), av_k 1 1 (.iconst 0) 0, av_f 2 3 (.putfield 3) 7 0 0 77 0, av_k 5 1 (.iconst 0) 0, av_a 6 1 (.istore_n 1), av_k 7 1 (.iconst 0) 0, av_a 8 1 (.istore_n 2), av_a 9 1 (.iload_n 2), av_k 10 2 (.bipush 59) 59, av_b 12 (.if_icmp .gt 32) 44, av_a 15 1 (.aload_n 0), av_f 16 3 (.getfield 80) 7 32 0 109 0, av_a 19 1 (.iload_n 2), av_a 20 1 (.aload_n 0), av_a 21 1 (.iload_n 2), av_f 22 3 (.invokevirtual 389) 245 1 1 261 7, av_a 25 1 .bastore, av_a 26 1 (.iload_n 1), av_a 27 1 (.aload_n 0), av_f 28 3 (.getfield 80) 7 32 0 109 0, av_a 31 1 (.iload_n 2), av_a 32 1 .baload, av_f 33 3 (.invokestatic 168) 160 1 1 185 7, av_a 36 1 .iadd, av_a 37 1 (.istore_n 1), av_k 38 3 (.iinc 2 1) 1, av_b 41 (.goto (-32)) 9, av_a 44 1 (.iload_n 1), av_b 45 (.ifCond .eq 10) 55, av_a 48 1 (.aload_n 0), av_f 49 3 (.getfield 120) 7 3 0 80 0, av_b 52 (.ifCond .ne 6) 58, av_k 55 2 (.bipush (-2)) (-2), av_f 57 1 .ireturn 0 0 0 0 0, av_k 58 1 (.iconst (-1)) (-1), av_a 59 1 (.istore_n 2), av_kk 60 3 (.ldc_w 392) 1000000 4, av_a 63 1 (.istore_n 3), av_k 64 1 (.iconst 0) 0, av_a 65 2 (.istore 4), av_a 67 2 (.iload 4), av_a 69 1 (.aload_n 0), av_f 70 3 (.getfield 120) 7 3 0 80 0, av_b 73 (.if_icmp .ge 122) 195, av_k 76 2 (.bipush (-99)) (-99), av_a 78 2 (.istore 5), av_a 80 2 (.iload 5), av_k 82 2 (.bipush 99) 99, av_b 84 (.if_icmp .gt 105) 189, av_k 87 1 (.iconst 0) 0, av_a 88 2 (.istore 6), av_k 90 1 (.iconst 0) 0, av_a 91 2 (.istore 7), av_a 93 2 (.iload 7), av_k 95 2 (.bipush 59) 59, av_b 97 (.if_icmp .gt 45) 142, av_a 100 2 (.iload 6), av_a 102 1 (.aload_n 0), av_f 103 3 (.getfield 80) 7 32 0 109 0, av_a 106 2 (.iload 7), av_a 108 1 .baload, av_b 109 (.ifCond .eq 20) 129, av_a 112 1 (.aload_n 0), av_a 113 2 (.iload 7), av_a 115 2 (.iload 4), av_a 117 2 (.iload 5), av_f 119 3 (.invokevirtual 385) 244 3 1 262 7, av_b 122 (.ifCond .eq 7) 129, av_k 125 1 (.iconst 1) 1, av_b 126 (.goto 4) 130, av_k 129 1 (.iconst 0) 0, av_f 130 3 (.invokestatic 168) 160 1 1 185 7, av_a 133 1 .iadd, av_a 134 2 (.istore 6), av_k 136 3 (.iinc 7 1) 1, av_b 139 (.goto (-46)) 93, av_a 142 2 (.iload 6), av_a 144 1 (.iload_n 1), av_a 145 2 (.iload 6), av_a 147 1 .isub, av_f 148 3 (.invokestatic 273) 0 0 10 10 0, av_a 151 2 (.istore 7), av_a 153 2 (.iload 7), av_a 155 1 (.iload_n 3), av_b 156 (.if_icmp .ge 18) 174, av_k 159 3 (.sipush 200) 200, av_a 162 2 (.iload 4), av_a 164 1 .imul, av_k 165 2 (.bipush 99) 99, av_a 167 1 .iadd, av_a 168 2 (.iload 5), av_a 170 1 .iadd, av_b 171 (.goto 4) 175, av_a 174 1 (.iload_n 2), av_a 175 1 (.istore_n 2), av_a 176 1 (.iload_n 3), av_a 177 2 (.iload 7), av_f 179 3 (.invokestatic 159) 0 0 11 7 0, av_a 182 1 (.istore_n 3), av_k 183 3 (.iinc 5 1) 1, av_b 186 (.goto (-106)) 80, av_k 189 3 (.iinc 4 1) 1, av_b 192 (.goto (-125)) 67, av_a 195 1 (.aload_n 0), av_k 196 1 (.iconst 0) 0, av_f 197 3 (.putfield 15) 7 1 0 78 0, av_a 200 1 (.aload_n 0), av_a 201 1 (.iload_n 3), av_a 202 1 .i2l, av_f 203 3 (.invokevirtual 18) 162 1 0 214 7, av_a 206 1 (.iload_n 2), av_f 207 1 .ireturn 0 0 0 0 0]
def tX7_lowest : List av_I := [av_a 0 1 (.iload_n 0), av_k 1 1 (.iconst 1) 1, av_b 2 (.if_icmp .ne 7) 9, av_k 5 1 (.iconst 1) 1, av_b 6 (.goto 4) 10, av_k 9 1 (.iconst 0) 0, av_f 10 3 (.invokestatic 168) 160 1 1 185 7, av_f 13 1 .ireturn 0 0 0 0 0]
def tX7_highest : List av_I := [av_a 0 1 (.iload_n 0), av_b 1 (.ifCond .ne 7) 8, av_k 4 1 (.iconst 3) 3, av_b 5 (.goto 19) 24, av_a 8 1 (.iload_n 0), av_k 9 1 (.iconst 1) 1, av_b 10 (.if_icmp .eq 8) 18, av_a 13 1 (.iload_n 0), av_k 14 1 (.iconst 3) 3, av_b 15 (.if_icmp .ne 8) 23, av_k 18 2 (.bipush 9) 9, av_b 20 (.goto 4) 24, av_k 23 1 (.iconst 1) 1, av_f 24 1 .ireturn 0 0 0 0 0]
def tX7_heard : List av_I := [av_a 0 1 (.aload_n 0), av_k 1 1 (.iconst 0) 0, av_f 2 3 (.putfield 3) 7 0 0 77 0, av_a 5 1 (.iload_n 1), av_a 6 1 .i2l, av_l 7 1 (.lconst 0) 0 0, av_l 8 3 (.ldc2_w 393) 4 14, av_f 11 3 (.invokestatic 123) 158 3 1 175 7, av_b 14 (.ifCond .eq 30) 44, av_a 17 1 (.iload_n 2), av_a 18 1 .i2l, av_a 19 1 (.iload_n 1), av_f 20 3 (.invokestatic 395) 248 1 1 265 7, av_a 23 1 .i2l, av_a 24 1 (.iload_n 1), av_f 25 3 (.invokestatic 398) 249 1 1 266 7, av_a 28 1 .i2l, av_f 29 3 (.invokestatic 123) 158 3 1 175 7, av_b 32 (.ifCond .eq 12) 44, av_a 35 1 (.aload_n 0), av_f 36 3 (.getfield 401) 7 33 0 110 0, av_k 39 2 (.bipush 12) 12, av_b 41 (.if_icmp .ne 5) 46, av_k 44 1 (.iconst (-1)) (-1), av_f 45 1 .ireturn 0 0 0 0 0, av_a 46 1 (.aload_n 0), av_f 47 3 (.getfield 84) 7 34 0 111 0, av_a 50 1 (.aload_n 0), av_f 51 3 (.getfield 401) 7 33 0 110 0, av_a 54 1 (.iload_n 1), av_a 55 1 .iastore, av_a 56 1 (.aload_n 0), av_f 57 3 (.getfield 87) 7 35 0 112 0, av_a 60 1 (.aload_n 0), av_f 61 3 (.getfield 401) 7 33 0 110 0, av_a 64 1 (.iload_n 2), av_a 65 1 .iastore, av_a 66 1 (.aload_n 0), av_a 67 1 .dup, av_f 68 3 (.getfield 401) 7 33 0 110 0, av_k 71 1 (.iconst 1) 1, av_a 72 1 .iadd, av_f 73 3 (.putfield 401) 7 33 0 110 0, av_a 76 1 (.aload_n 0), av_f 77 3 (.getfield 401) 7 33 0 110 0, av_f 80 1 .ireturn 0 0 0 0 0]
def tX7_denies : List av_I := [av_a 0 1 (.aload_n 0), av_k 1 1 (.iconst 0) 0, av_f 2 3 (.putfield 3) 7 0 0 77 0, av_a 5 1 (.aload_n 0), av_f 6 3 (.getfield 401) 7 33 0 110 0, av_a 9 1 (.istore_n 1), av_a 10 1 (.aload_n 0), av_k 11 1 (.iconst 0) 0, av_f 12 3 (.putfield 401) 7 33 0 110 0, av_a 15 1 (.iload_n 1), av_f 16 1 .ireturn 0 0 0 0 0]
def tX7_isSo : List av_I := [av_a 0 1 (.iload_n 2), av_w 1 31 (.tableswitch 107 0 3 #[31, 47, 63, 88]) 108 [(0, 32), (1, 48), (2, 64), (3, 89)], av_a 32 1 (.aload_n 0), av_f 33 3 (.getfield 28) 7 5 0 82 0, av_a 36 1 (.iload_n 1), av_a 37 1 .iaload, av_a 38 1 (.iload_n 3), av_b 39 (.if_icmp .ne 7) 46, av_k 42 1 (.iconst 1) 1, av_b 43 (.goto 4) 47, av_k 46 1 (.iconst 0) 0, av_f 47 1 .ireturn 1 0 0 0 0, av_a 48 1 (.aload_n 0), av_f 49 3 (.getfield 32) 7 6 0 83 0, av_a 52 1 (.iload_n 1), av_a 53 1 .iaload, av_a 54 1 (.iload_n 3), av_b 55 (.if_icmp .lt 7) 62, av_k 58 1 (.iconst 1) 1, av_b 59 (.goto 4) 63, av_k 62 1 (.iconst 0) 0, av_f 63 1 .ireturn 1 0 0 0 0, av_a 64 1 (.aload_n 0), av_a 65 1 (.aload_n 0), av_f 66 3 (.getfield 35) 7 7 0 84 0, av_f 69 3 (.invokevirtual 131) 166 1 1 199 7, av_a 72 1 (.iload_n 1), av_f 73 3 (.invokestatic 135) 159 2 1 196 7, av_f 76 3 (.invokestatic 168) 160 1 1 185 7, av_a 79 1 (.iload_n 3), av_b 80 (.if_icmp .ne 7) 87, av_k 83 1 (.iconst 1) 1, av_b 84 (.goto 4) 88, av_k 87 1 (.iconst 0) 0, av_f 88 1 .ireturn 1 0 0 0 0, av_a 89 1 (.aload_n 0), av_f 90 3 (.getfield 35) 7 7 0 84 0, av_k 93 2 (.bipush 14) 14, av_a 95 1 (.iload_n 1), av_a 96 1 .iadd, av_a 97 1 .iaload, av_a 98 1 (.iload_n 3), av_b 99 (.if_icmp .lt 7) 106, av_k 102 1 (.iconst 1) 1, av_b 103 (.goto 4) 107, av_k 106 1 (.iconst 0) 0, av_f 107 1 .ireturn 1 0 0 0 0, av_a 108 1 (.aload_n 0), av_a 109 1 (.aload_n 0), av_f 110 3 (.getfield 35) 7 7 0 84 0, av_f 113 3 (.invokevirtual 143) 168 1 1 213 7, av_a 116 1 (.iload_n 1), av_f 117 3 (.invokestatic 135) 159 2 1 196 7, av_f 120 3 (.invokestatic 168) 160 1 1 185 7, av_a 123 1 (.iload_n 3), av_b 124 (.if_icmp .ne 7) 131, av_k 127 1 (.iconst 1) 1, av_b 128 (.goto 4) 132, av_k 131 1 (.iconst 0) 0, av_f 132 1 .ireturn 1 0 0 0 0]
def tX7_fitting : List av_I := [av_k 0 1 (.iconst 0) 0, av_a 1 1 (.istore_n 1), av_k 2 1 (.iconst 0) 0, av_a 3 1 (.istore_n 2), av_a 4 1 (.iload_n 2), av_a 5 1 (.aload_n 0), av_f 6 3 (.getfield 120) 7 3 0 80 0, av_b 9 (.if_icmp .ge 75) 84, av_k 12 1 (.iconst 1) 1, av_a 13 1 (.istore_n 3), av_k 14 1 (.iconst 0) 0, av_a 15 2 (.istore 4), av_a 17 2 (.iload 4), av_a 19 1 (.aload_n 0), av_f 20 3 (.getfield 401) 7 33 0 110 0, av_b 23 (.if_icmp .ge 41) 64, av_a 26 1 (.iload_n 3), av_b 27 (.ifCond .eq 29) 56, av_a 30 1 (.aload_n 0), av_a 31 1 (.iload_n 2), av_a 32 1 (.aload_n 0), av_f 33 3 (.getfield 84) 7 34 0 111 0, av_a 36 2 (.iload 4), av_a 38 1 .iaload, av_a 39 1 (.aload_n 0), av_f 40 3 (.getfield 87) 7 35 0 112 0, av_a 43 2 (.iload 4), av_a 45 1 .iaload, av_f 46 3 (.invokevirtual 404) 252 3 1 270 7, av_b 49 (.ifCond .eq 7) 56, av_k 52 1 (.iconst 1) 1, av_b 53 (.goto 4) 57, av_k 56 1 (.iconst 0) 0, av_a 57 1 (.istore_n 3), av_k 58 3 (.iinc 4 1) 1, av_b 61 (.goto (-44)) 17, av_a 64 1 (.iload_n 1), av_a 65 1 (.iload_n 3), av_b 66 (.ifCond .eq 9) 75, av_k 69 1 (.iconst 1) 1, av_a 70 1 (.iload_n 2), av_a 71 1 .ishl, av_b 72 (.goto 4) 76, av_k 75 1 (.iconst 0) 0, av_a 76 1 .ior, av_a 77 1 (.istore_n 1), av_k 78 3 (.iinc 2 1) 1, av_b 81 (.goto (-77)) 4, av_a 84 1 (.iload_n 1), av_f 85 1 .ireturn 0 0 0 0 0]
def tX7_fits : List av_I := [av_a 0 1 (.aload_n 0), av_k 1 1 (.iconst 0) 0, av_f 2 3 (.putfield 3) 7 0 0 77 0, av_a 5 1 (.aload_n 0), av_f 6 3 (.invokevirtual 407) 253 0 1 269 7, av_a 9 1 (.istore_n 1), av_a 10 1 (.aload_n 0), av_k 11 1 (.iconst 0) 0, av_f 12 3 (.putfield 15) 7 1 0 78 0, av_a 15 1 (.aload_n 0), av_a 16 1 (.iload_n 1), av_f 17 3 (.invokestatic 265) 275 1 1 202 8, av_a 20 1 .i2l, av_f 21 3 (.invokevirtual 18) 162 1 0 214 7, av_a 24 1 (.iload_n 1), av_f 25 1 .ireturn 0 0 0 0 0]
def tX7_asks : List av_I := [av_a 0 1 (.aload_n 0), av_k 1 1 (.iconst 0) 0, av_f 2 3 (.putfield 3) 7 0 0 77 0, av_a 5 1 (.aload_n 0), av_f 6 3 (.invokevirtual 407) 253 0 1 269 7, av_a 9 1 (.istore_n 1), av_a 10 1 (.iload_n 1), av_b 11 (.ifCond .ne 6) 17, av_k 14 2 (.bipush (-2)) (-2), av_f 16 1 .ireturn 0 0 0 0 0, av_k 17 1 (.iconst (-1)) (-1), av_a 18 1 (.istore_n 2), av_kk 19 3 (.ldc_w 392) 1000000 4, av_a 22 1 (.istore_n 3), av_k 23 1 (.iconst 0) 0, av_a 24 2 (.istore 4), av_a 26 2 (.iload 4), av_k 28 1 (.iconst 5) 5, av_b 29 (.if_icmp .ge 128) 157, av_a 32 2 (.iload 4), av_f 34 3 (.invokestatic 395) 248 1 1 265 7, av_a 37 2 (.istore 5), av_a 39 2 (.iload 5), av_a 41 2 (.iload 4), av_f 43 3 (.invokestatic 398) 249 1 1 266 7, av_b 46 (.if_icmp .gt 105) 151, av_k 49 1 (.iconst 0) 0, av_a 50 2 (.istore 6), av_k 52 1 (.iconst 0) 0, av_a 53 2 (.istore 7), av_a 55 2 (.iload 7), av_a 57 1 (.aload_n 0), av_f 58 3 (.getfield 120) 7 3 0 80 0, av_b 61 (.if_icmp .ge 44) 105, av_a 64 2 (.iload 6), av_a 66 1 (.iload_n 1), av_a 67 2 (.iload 7), av_f 69 3 (.invokestatic 135) 159 2 1 196 7, av_b 72 (.ifCond .eq 20) 92, av_a 75 1 (.aload_n 0), av_a 76 2 (.iload 7), av_a 78 2 (.iload 4), av_a 80 2 (.iload 5), av_f 82 3 (.invokevirtual 404) 252 3 1 270 7, av_b 85 (.ifCond .eq 7) 92, av_k 88 1 (.iconst 1) 1, av_b 89 (.goto 4) 93, av_k 92 1 (.iconst 0) 0, av_f 93 3 (.invokestatic 168) 160 1 1 185 7, av_a 96 1 .iadd, av_a 97 2 (.istore 6), av_k 99 3 (.iinc 7 1) 1, av_b 102 (.goto (-47)) 55, av_a 105 2 (.iload 6), av_a 107 1 (.iload_n 1), av_f 108 3 (.invokestatic 265) 275 1 1 202 8, av_a 111 2 (.iload 6), av_a 113 1 .isub, av_f 114 3 (.invokestatic 273) 0 0 10 10 0, av_a 117 2 (.istore 7), av_a 119 2 (.iload 7), av_a 121 1 (.iload_n 3), av_b 122 (.if_icmp .ge 14) 136, av_k 125 2 (.bipush 10) 10, av_a 127 2 (.iload 4), av_a 129 1 .imul, av_a 130 2 (.iload 5), av_a 132 1 .iadd, av_b 133 (.goto 4) 137, av_a 136 1 (.iload_n 2), av_a 137 1 (.istore_n 2), av_a 138 1 (.iload_n 3), av_a 139 2 (.iload 7), av_f 141 3 (.invokestatic 159) 0 0 11 7 0, av_a 144 1 (.istore_n 3), av_k 145 3 (.iinc 5 1) 1, av_b 148 (.goto (-109)) 39, av_k 151 3 (.iinc 4 1) 1, av_b 154 (.goto (-128)) 26, av_a 157 1 (.aload_n 0), av_k 158 1 (.iconst 0) 0, av_f 159 3 (.putfield 15) 7 1 0 78 0, av_a 162 1 (.aload_n 0), av_a 163 1 (.iload_n 3), av_a 164 1 .i2l, av_f 165 3 (.invokevirtual 18) 162 1 0 214 7, av_a 168 1 (.iload_n 2), av_f 169 1 .ireturn 0 0 0 0 0]
def tX7_odds : List av_I := [av_a 0 1 (.aload_n 0), av_k 1 1 (.iconst 0) 0, av_f 2 3 (.putfield 3) 7 0 0 77 0, av_a 5 1 (.iload_n 1), av_a 6 1 .i2l, av_l 7 1 (.lconst 0) 0 0, av_l 8 3 (.ldc2_w 410) 10 15, av_f 11 3 (.invokestatic 123) 158 3 1 175 7, av_b 14 (.ifCond .eq 15) 29, av_a 17 1 (.iload_n 2), av_a 18 1 .i2l, av_l 19 1 (.lconst 0) 0 0, av_l 20 3 (.ldc2_w 412) 63 16, av_f 23 3 (.invokestatic 123) 158 3 1 175 7, av_b 26 (.ifCond .ne 5) 31, av_k 29 1 (.iconst (-1)) (-1), av_f 30 1 .ireturn 0 0 0 0 0, av_a 31 1 (.aload_n 0), av_a 32 1 (.aload_n 0), av_f 33 3 (.getfield 35) 7 7 0 84 0, av_f 36 3 (.invokevirtual 131) 166 1 1 199 7, av_a 39 1 (.istore_n 3), av_l 40 1 (.lconst 0) 0 0, av_a 41 2 (.lstore 4), av_l 43 1 (.lconst 1) 1 0, av_a 44 2 (.lstore 6), av_k 46 1 (.iconst 0) 0, av_a 47 2 (.istore 8), av_a 49 2 (.iload 8), av_a 51 1 (.iload_n 3), av_f 52 3 (.invokestatic 265) 275 1 1 202 8, av_b 55 (.if_icmp .ge 17) 72, av_a 58 2 (.lload 6), av_l 60 3 (.ldc2_w 410) 10 15, av_a 63 1 .lmul, av_a 64 2 (.lstore 6), av_k 66 3 (.iinc 8 1) 1, av_b 69 (.goto (-20)) 49, av_k 72 1 (.iconst 0) 0, av_a 73 2 (.istore 8), av_a 75 2 (.iload 8), av_a 77 1 (.iload_n 3), av_b 78 (.if_icmp .gt 109) 187, av_a 81 2 (.iload 8), av_a 83 1 (.iload_n 3), av_k 84 1 (.iconst (-1)) (-1), av_a 85 1 .ixor, av_a 86 1 .iand, av_b 87 (.ifCond .ne 17) 104, av_a 90 1 (.aload_n 0), av_a 91 2 (.iload 8), av_f 93 3 (.invokevirtual 146) 169 1 1 206 7, av_a 96 1 (.iload_n 2), av_b 97 (.if_icmp .lt 7) 104, av_k 100 1 (.iconst 1) 1, av_b 101 (.goto 4) 105, av_k 104 1 (.iconst 0) 0, av_f 105 3 (.invokestatic 168) 160 1 1 185 7, av_a 108 1 .i2l, av_a 109 2 (.lstore 9), av_k 111 1 (.iconst 0) 0, av_a 112 2 (.istore 11), av_a 114 2 (.iload 11), av_a 116 1 (.aload_n 0), av_f 117 3 (.getfield 120) 7 3 0 80 0, av_b 120 (.if_icmp .ge 54) 174, av_a 123 2 (.lload 9), av_l 125 1 (.lconst 0) 0 0, av_a 126 1 .lcmp, av_b 127 (.ifCond .le 47) 174, av_a 130 2 (.lload 9), av_a 132 1 (.iload_n 3), av_a 133 2 (.iload 11), av_f 135 3 (.invokestatic 135) 159 2 1 196 7, av_b 138 (.ifCond .ne 7) 145, av_l 141 1 (.lconst 1) 1 0, av_b 142 (.goto 23) 165, av_a 145 2 (.iload 8), av_a 147 2 (.iload 11), av_f 149 3 (.invokestatic 135) 159 2 1 196 7, av_b 152 (.ifCond .eq 11) 163, av_k 155 2 (.bipush 10) 10, av_a 157 1 (.iload_n 1), av_a 158 1 .isub, av_a 159 1 .i2l, av_b 160 (.goto 5) 165, av_a 163 1 (.iload_n 1), av_a 164 1 .i2l, av_a 165 1 .lmul, av_a 166 2 (.lstore 9), av_k 168 3 (.iinc 11 1) 1, av_b 171 (.goto (-57)) 114, av_a 174 2 (.lload 4), av_a 176 2 (.lload 9), av_a 178 1 .ladd, av_a 179 2 (.lstore 4), av_k 181 3 (.iinc 8 1) 1, av_b 184 (.goto (-109)) 75, av_a 187 1 (.aload_n 0), av_a 188 2 (.lload 4), av_a 190 2 (.lload 6), av_f 192 3 (.invokevirtual 374) 163 2 1 250 7, av_f 195 1 .ireturn 0 0 0 0 0]
def tX7_saw : List av_I := [av_a 0 1 (.aload_n 0), av_k 1 1 (.iconst 0) 0, av_f 2 3 (.putfield 3) 7 0 0 77 0, av_a 5 1 (.iload_n 1), av_a 6 1 .i2l, av_l 7 1 (.lconst 0) 0 0, av_l 8 3 (.ldc2_w 414) 20 17, av_f 11 3 (.invokestatic 123) 158 3 1 175 7, av_b 14 (.ifCond .eq 34) 48, av_a 17 1 (.iload_n 2), av_a 18 1 .i2l, av_l 19 1 (.lconst 1) 1 0, av_l 20 3 (.ldc2_w 299) 9 9, av_f 23 3 (.invokestatic 123) 158 3 1 175 7, av_b 26 (.ifCond .eq 22) 48, av_a 29 1 (.iload_n 3), av_a 30 1 .i2l, av_l 31 1 (.lconst 0) 0 0, av_l 32 1 (.lconst 1) 1 0, av_f 33 3 (.invokestatic 123) 158 3 1 175 7, av_b 36 (.ifCond .eq 12) 48, av_a 39 1 (.aload_n 0), av_f 40 3 (.getfield 416) 7 36 0 113 0, av_k 43 2 (.bipush 10) 10, av_b 45 (.if_icmp .ne 5) 50, av_k 48 1 (.iconst (-1)) (-1), av_f 49 1 .ireturn 0 0 0 0 0, av_a 50 1 (.aload_n 0), av_f 51 3 (.getfield 90) 7 37 0 114 0, av_a 54 1 (.aload_n 0), av_f 55 3 (.getfield 416) 7 36 0 113 0, av_a 58 1 (.iload_n 1), av_a 59 1 .iastore, av_a 60 1 (.aload_n 0), av_f 61 3 (.getfield 93) 7 38 0 115 0, av_a 64 1 (.aload_n 0), av_f 65 3 (.getfield 416) 7 36 0 113 0, av_a 68 1 (.iload_n 2), av_a 69 1 .iastore, av_a 70 1 (.aload_n 0), av_f 71 3 (.getfield 96) 7 39 0 116 0, av_a 74 1 (.aload_n 0), av_f 75 3 (.getfield 416) 7 36 0 113 0, av_a 78 1 (.iload_n 3), av_a 79 1 .iastore, av_a 80 1 (.aload_n 0), av_a 81 1 .dup, av_f 82 3 (.getfield 416) 7 36 0 113 0, av_k 85 1 (.iconst 1) 1, av_a 86 1 .iadd, av_f 87 3 (.putfield 416) 7 36 0 113 0, av_a 90 1 (.aload_n 0), av_f 91 3 (.getfield 416) 7 36 0 113 0, av_f 94 1 .ireturn 0 0 0 0 0]
def tX7_clears : List av_I := [av_a 0 1 (.aload_n 0), av_k 1 1 (.iconst 0) 0, av_f 2 3 (.putfield 3) 7 0 0 77 0, av_a 5 1 (.aload_n 0), av_f 6 3 (.getfield 416) 7 36 0 113 0, av_a 9 1 (.istore_n 1), av_a 10 1 (.aload_n 0), av_k 11 1 (.iconst 0) 0, av_f 12 3 (.putfield 416) 7 36 0 113 0, av_a 15 1 (.iload_n 1), av_f 16 1 .ireturn 0 0 0 0 0]
def tX7_breaksBy : List av_I := [av_k 0 1 (.iconst 1) 1, av_a 1 1 (.iload_n 0), av_k 2 2 (.bipush 10) 10, av_a 4 1 .idiv, av_a 5 1 .iadd, av_a 6 1 (.iload_n 1), av_a 7 1 .imul, av_a 8 1 (.iload_n 2), av_a 9 1 (.iload_n 0), av_k 10 2 (.bipush 10) 10, av_a 12 1 .irem, av_a 13 1 .iadd, av_b 14 (.if_icmp .le 7) 21, av_k 17 1 (.iconst 1) 1, av_b 18 (.goto 4) 22, av_k 21 1 (.iconst 0) 0, av_f 22 3 (.invokestatic 168) 160 1 1 185 7, av_f 25 1 .ireturn 0 0 0 0 0]
def tX7_isLaw : List av_I := [av_k 0 1 (.iconst 1) 1, av_a 1 1 (.istore_n 2), av_k 2 1 (.iconst 0) 0, av_a 3 1 (.istore_n 3), av_a 4 1 (.iload_n 3), av_a 5 1 (.aload_n 0), av_f 6 3 (.getfield 416) 7 36 0 113 0, av_b 9 (.if_icmp .ge 44) 53, av_a 12 1 (.iload_n 2), av_b 13 (.ifCond .eq 32) 45, av_a 16 1 (.iload_n 1), av_a 17 1 (.aload_n 0), av_f 18 3 (.getfield 90) 7 37 0 114 0, av_a 21 1 (.iload_n 3), av_a 22 1 .iaload, av_a 23 1 (.aload_n 0), av_f 24 3 (.getfield 93) 7 38 0 115 0, av_a 27 1 (.iload_n 3), av_a 28 1 .iaload, av_f 29 3 (.invokestatic 419) 259 3 1 277 7, av_a 32 1 (.aload_n 0), av_f 33 3 (.getfield 96) 7 39 0 116 0, av_a 36 1 (.iload_n 3), av_a 37 1 .iaload, av_b 38 (.if_icmp .ne 7) 45, av_k 41 1 (.iconst 1) 1, av_b 42 (.goto 4) 46, av_k 45 1 (.iconst 0) 0, av_a 46 1 (.istore_n 2), av_k 47 3 (.iinc 3 1) 1, av_b 50 (.goto (-46)) 4, av_a 53 1 (.iload_n 2), av_f 54 1 .ireturn 1 0 0 0 0]
def tX7_laws : List av_I := [av_a 0 1 (.aload_n 0), av_k 1 1 (.iconst 0) 0, av_f 2 3 (.putfield 3) 7 0 0 77 0, av_k 5 1 (.iconst 0) 0, av_a 6 1 (.istore_n 1), av_a 7 1 (.aload_n 0), av_k 8 1 (.iconst 0) 0, av_f 9 3 (.putfield 15) 7 1 0 78 0, av_k 12 1 (.iconst 0) 0, av_a 13 1 (.istore_n 2), av_a 14 1 (.iload_n 2), av_k 15 2 (.bipush 40) 40, av_b 17 (.if_icmp .ge 50) 67, av_a 20 1 (.aload_n 0), av_a 21 1 (.iload_n 2), av_f 22 3 (.invokevirtual 422) 260 1 1 276 7, av_a 25 1 (.istore_n 3), av_a 26 1 (.iload_n 3), av_b 27 (.ifCond .eq 27) 54, av_a 30 1 (.iload_n 1), av_b 31 (.ifCond .ne 23) 54, av_a 34 1 (.aload_n 0), av_k 35 1 (.iconst 1) 1, av_a 36 1 (.iload_n 2), av_k 37 2 (.bipush 10) 10, av_a 39 1 .idiv, av_a 40 1 .iadd, av_a 41 1 .i2l, av_f 42 3 (.invokevirtual 18) 162 1 0 214 7, av_a 45 1 (.aload_n 0), av_a 46 1 (.iload_n 2), av_k 47 2 (.bipush 10) 10, av_a 49 1 .irem, av_a 50 1 .i2l, av_f 51 3 (.invokevirtual 18) 162 1 0 214 7, av_a 54 1 (.iload_n 1), av_a 55 1 (.iload_n 3), av_f 56 3 (.invokestatic 168) 160 1 1 185 7, av_a 59 1 .iadd, av_a 60 1 (.istore_n 1), av_k 61 3 (.iinc 2 1) 1, av_b 64 (.goto (-50)) 14, av_a 67 1 (.iload_n 1), av_f 68 1 .ireturn 0 0 0 0 0]
def tX7_tries : List av_I := [av_a 0 1 (.aload_n 0), av_k 1 1 (.iconst 0) 0, av_f 2 3 (.putfield 3) 7 0 0 77 0, av_k 5 1 (.iconst 0) 0, av_a 6 1 (.istore_n 1), av_k 7 1 (.iconst 0) 0, av_a 8 1 (.istore_n 2), av_a 9 1 (.iload_n 2), av_k 10 2 (.bipush 40) 40, av_b 12 (.if_icmp .ge 32) 44, av_a 15 1 (.aload_n 0), av_f 16 3 (.getfield 99) 7 40 0 117 0, av_a 19 1 (.iload_n 2), av_a 20 1 (.aload_n 0), av_a 21 1 (.iload_n 2), av_f 22 3 (.invokevirtual 422) 260 1 1 276 7, av_a 25 1 .bastore, av_a 26 1 (.iload_n 1), av_a 27 1 (.aload_n 0), av_f 28 3 (.getfield 99) 7 40 0 117 0, av_a 31 1 (.iload_n 2), av_a 32 1 .baload, av_f 33 3 (.invokestatic 168) 160 1 1 185 7, av_a 36 1 .iadd, av_a 37 1 (.istore_n 1), av_k 38 3 (.iinc 2 1) 1, av_b 41 (.goto (-32)) 9, av_a 44 1 (.iload_n 1), av_b 45 (.ifCond .ne 6) 51, av_k 48 2 (.bipush (-2)) (-2), av_f 50 1 .ireturn 0 0 0 0 0, av_k 51 1 (.iconst (-1)) (-1), av_a 52 1 (.istore_n 2), av_kk 53 3 (.ldc_w 392) 1000000 4, av_a 56 1 (.istore_n 3), av_k 57 1 (.iconst 0) 0, av_a 58 2 (.istore 4), av_a 60 2 (.iload 4), av_k 62 2 (.bipush 20) 20, av_b 64 (.if_icmp .gt 109) 173, av_k 67 1 (.iconst 1) 1, av_a 68 2 (.istore 5), av_a 70 2 (.iload 5), av_k 72 2 (.bipush 9) 9, av_b 74 (.if_icmp .gt 93) 167, av_k 77 1 (.iconst 0) 0, av_a 78 2 (.istore 6), av_k 80 1 (.iconst 0) 0, av_a 81 2 (.istore 7), av_a 83 2 (.iload 7), av_k 85 2 (.bipush 40) 40, av_b 87 (.if_icmp .ge 37) 124, av_a 90 2 (.iload 6), av_a 92 1 (.aload_n 0), av_f 93 3 (.getfield 99) 7 40 0 117 0, av_a 96 2 (.iload 7), av_a 98 1 .baload, av_b 99 (.ifCond .eq 15) 114, av_a 102 2 (.iload 7), av_a 104 2 (.iload 4), av_a 106 2 (.iload 5), av_f 108 3 (.invokestatic 419) 259 3 1 277 7, av_b 111 (.goto 4) 115, av_k 114 1 (.iconst 0) 0, av_a 115 1 .iadd, av_a 116 2 (.istore 6), av_k 118 3 (.iinc 7 1) 1, av_b 121 (.goto (-38)) 83, av_a 124 2 (.iload 6), av_a 126 1 (.iload_n 1), av_a 127 2 (.iload 6), av_a 129 1 .isub, av_f 130 3 (.invokestatic 273) 0 0 10 10 0, av_a 133 2 (.istore 7), av_a 135 2 (.iload 7), av_a 137 1 (.iload_n 3), av_b 138 (.if_icmp .ge 14) 152, av_k 141 2 (.bipush 10) 10, av_a 143 2 (.iload 4), av_a 145 1 .imul, av_a 146 2 (.iload 5), av_a 148 1 .iadd, av_b 149 (.goto 4) 153, av_a 152 1 (.iload_n 2), av_a 153 1 (.istore_n 2), av_a 154 1 (.iload_n 3), av_a 155 2 (.iload 7), av_f 157 3 (.invokestatic 159) 0 0 11 7 0, av_a 160 1 (.istore_n 3), av_k 161 3 (.iinc 5 1) 1, av_b 164 (.goto (-94)) 70, av_k 167 3 (.iinc 4 1) 1, av_b 170 (.goto (-110)) 60, av_a 173 1 (.aload_n 0), av_k 174 1 (.iconst 0) 0, av_f 175 3 (.putfield 15) 7 1 0 78 0, av_a 178 1 (.aload_n 0), av_a 179 1 (.iload_n 3), av_a 180 1 .i2l, av_f 181 3 (.invokevirtual 18) 162 1 0 214 7, av_a 184 1 (.iload_n 2), av_f 185 1 .ireturn 0 0 0 0 0]
def tX7_laysWorth : List av_I := [av_k 0 1 (.iconst 0) 0, av_a 1 1 (.istore_n 2), av_a 2 1 (.iload_n 2), av_a 3 1 (.iload_n 1), av_b 4 (.if_icmp .gt 112) 116, av_k 7 1 (.iconst 0) 0, av_a 8 1 (.istore_n 3), av_a 9 1 (.iload_n 3), av_a 10 1 (.aload_n 0), av_f 11 3 (.getfield 105) 7 42 0 119 0, av_a 14 1 .arraylength, av_b 15 (.if_icmp .ge 16) 31, av_a 18 1 (.aload_n 0), av_f 19 3 (.getfield 105) 7 42 0 119 0, av_a 22 1 (.iload_n 3), av_k 23 1 (.iconst 0) 0, av_a 24 1 .bastore, av_k 25 3 (.iinc 3 1) 1, av_b 28 (.goto (-19)) 9, av_k 31 1 (.iconst 1) 1, av_a 32 1 (.istore_n 3), av_a 33 1 (.iload_n 3), av_k 34 1 (.iconst 3) 3, av_b 35 (.if_icmp .ge 51) 86, av_k 38 1 (.iconst 0) 0, av_a 39 2 (.istore 4), av_a 41 2 (.iload 4), av_a 43 1 (.iload_n 3), av_a 44 1 .iadd, av_a 45 1 (.iload_n 2), av_b 46 (.if_icmp .gt 34) 80, av_a 49 1 (.aload_n 0), av_f 50 3 (.getfield 105) 7 42 0 119 0, av_a 53 1 (.aload_n 0), av_f 54 3 (.getfield 102) 7 41 0 118 0, av_a 57 2 (.iload 4), av_a 59 1 .iaload, av_a 60 1 (.aload_n 0), av_f 61 3 (.getfield 102) 7 41 0 118 0, av_a 64 1 (.iload_n 2), av_a 65 1 (.iload_n 3), av_a 66 1 .isub, av_a 67 2 (.iload 4), av_a 69 1 .isub, av_a 70 1 .iaload, av_a 71 1 .ixor, av_k 72 1 (.iconst 1) 1, av_a 73 1 .bastore, av_k 74 3 (.iinc 4 1) 1, av_b 77 (.goto (-36)) 41, av_k 80 3 (.iinc 3 1) 1, av_b 83 (.goto (-50)) 33, av_k 86 1 (.iconst 0) 0, av_a 87 1 (.istore_n 3), av_a 88 1 (.aload_n 0), av_f 89 3 (.getfield 105) 7 42 0 119 0, av_a 92 1 (.iload_n 3), av_a 93 1 .baload, av_b 94 (.ifCond .eq 9) 103, av_k 97 3 (.iinc 3 1) 1, av_b 100 (.goto (-12)) 88, av_a 103 1 (.aload_n 0), av_f 104 3 (.getfield 102) 7 41 0 118 0, av_a 107 1 (.iload_n 2), av_a 108 1 (.iload_n 3), av_a 109 1 .iastore, av_k 110 3 (.iinc 2 1) 1, av_b 113 (.goto (-111)) 2, av_a 116 1 .return_]
def tX7_letting : List av_I := [av_a 0 1 (.aload_n 0), av_k 1 1 (.iconst 0) 0, av_f 2 3 (.putfield 3) 7 0 0 77 0, av_a 5 1 (.iload_n 1), av_a 6 1 .i2l, av_l 7 1 (.lconst 0) 0 0, av_l 8 3 (.ldc2_w 309) 60 8, av_f 11 3 (.invokestatic 123) 158 3 1 175 7, av_b 14 (.ifCond .ne 5) 19, av_k 17 1 (.iconst (-1)) (-1), av_f 18 1 .ireturn 0 0 0 0 0, av_a 19 1 (.aload_n 0), av_a 20 1 (.iload_n 1), av_f 21 3 (.invokevirtual 425) 263 1 0 280 7, av_a 24 1 (.aload_n 0), av_k 25 1 (.iconst 0) 0, av_f 26 3 (.putfield 15) 7 1 0 78 0, av_k 29 1 (.iconst 1) 1, av_a 30 1 (.istore_n 2), av_a 31 1 (.iload_n 2), av_k 32 1 (.iconst 3) 3, av_b 33 (.if_icmp .ge 57) 90, av_k 36 1 (.iconst 0) 0, av_a 37 1 (.istore_n 3), av_a 38 1 (.iload_n 3), av_a 39 1 (.iload_n 2), av_a 40 1 .iadd, av_a 41 1 (.iload_n 1), av_b 42 (.if_icmp .gt 42) 84, av_a 45 1 (.aload_n 0), av_f 46 3 (.getfield 102) 7 41 0 118 0, av_a 49 1 (.iload_n 3), av_a 50 1 .iaload, av_a 51 1 (.aload_n 0), av_f 52 3 (.getfield 102) 7 41 0 118 0, av_a 55 1 (.iload_n 1), av_a 56 1 (.iload_n 2), av_a 57 1 .isub, av_a 58 1 (.iload_n 3), av_a 59 1 .isub, av_a 60 1 .iaload, av_b 61 (.if_icmp .ne 17) 78, av_a 64 1 (.aload_n 0), av_a 65 1 (.iload_n 2), av_a 66 1 .i2l, av_f 67 3 (.invokevirtual 18) 162 1 0 214 7, av_a 70 1 (.aload_n 0), av_a 71 1 (.iload_n 3), av_a 72 1 .i2l, av_f 73 3 (.invokevirtual 18) 162 1 0 214 7, av_k 76 1 (.iconst 1) 1, av_f 77 1 .ireturn 0 0 0 0 0, av_k 78 3 (.iinc 3 1) 1, av_b 81 (.goto (-43)) 38, av_k 84 3 (.iinc 2 1) 1, av_b 87 (.goto (-56)) 31, av_k 90 1 (.iconst 0) 0, av_f 91 1 .ireturn 0 0 0 0 0]
def tX7_law : List av_I := [av_a 0 1 (.aload_n 0), av_k 1 1 (.iconst 0) 0, av_f 2 3 (.putfield 3) 7 0 0 77 0, av_a 5 1 (.aload_n 0), av_f 6 3 (.invokevirtual 251) 188 0 1 188 7, av_a 9 1 (.istore_n 1), av_a 10 1 (.iload_n 1), av_b 11 (.ifCond .ge 11) 22, av_a 14 1 (.iload_n 1), av_k 15 1 (.iconst 1) 1, av_a 16 1 .iadd, av_k 17 3 (.sipush 10000) 10000, av_a 20 1 .isub, av_f 21 1 .ireturn 0 0 0 0 0, av_a 22 1 (.aload_n 0), av_a 23 1 (.aload_n 0), av_f 24 3 (.getfield 35) 7 7 0 84 0, av_k 27 2 (.bipush 31) 31, av_a 29 1 .iaload, av_k 30 2 (.bipush 20) 20, av_f 32 3 (.invokevirtual 355) 227 2 1 242 7, av_a 35 1 (.istore_n 2), av_a 36 1 (.aload_n 0), av_f 37 3 (.getfield 38) 7 8 0 85 0, av_k 40 2 (.bipush 30) 30, av_a 42 1 .iaload, av_a 43 1 (.istore_n 3), av_a 44 1 (.aload_n 0), av_f 45 3 (.getfield 248) 7 18 0 95 0, av_a 48 2 (.istore 4), av_k 50 1 (.iconst 0) 0, av_a 51 2 (.istore 5), av_a 53 2 (.iload 5), av_a 55 1 (.aload_n 0), av_f 56 3 (.getfield 248) 7 18 0 95 0, av_b 59 (.if_icmp .ge 23) 82, av_a 62 1 (.aload_n 0), av_f 63 3 (.getfield 108) 7 43 0 120 0, av_a 66 2 (.iload 5), av_a 68 1 (.aload_n 0), av_f 69 3 (.getfield 47) 7 16 0 93 0, av_a 72 2 (.iload 5), av_a 74 1 .iaload, av_a 75 1 .iastore, av_k 76 3 (.iinc 5 1) 1, av_b 79 (.goto (-26)) 53, av_a 82 1 (.aload_n 0), av_a 83 1 (.aload_n 0), av_f 84 3 (.getfield 50) 7 17 0 94 0, av_a 87 1 (.aload_n 0), av_f 88 3 (.getfield 227) 7 19 0 96 0, av_f 91 3 (.invokevirtual 254) 189 2 0 192 7, av_a 94 1 (.aload_n 0), av_a 95 1 (.aload_n 0), av_f 96 3 (.getfield 35) 7 7 0 84 0, av_k 99 2 (.bipush 31) 31, av_a 101 1 .iaload, av_k 102 2 (.bipush 20) 20, av_f 104 3 (.invokevirtual 355) 227 2 1 242 7, av_a 107 2 (.istore 5), av_a 109 1 (.aload_n 0), av_a 110 1 (.aload_n 0), av_f 111 3 (.getfield 108) 7 43 0 120 0, av_a 114 2 (.iload 4), av_f 116 3 (.invokevirtual 254) 189 2 0 192 7, av_a 119 1 (.aload_n 0), av_k 120 1 (.iconst 0) 0, av_f 121 3 (.putfield 15) 7 1 0 78 0, av_a 124 1 (.aload_n 0), av_a 125 2 (.iload 5), av_a 127 1 .i2l, av_f 128 3 (.invokevirtual 18) 162 1 0 214 7, av_a 131 1 (.aload_n 0), av_a 132 1 (.iload_n 2), av_a 133 1 .i2l, av_f 134 3 (.invokevirtual 18) 162 1 0 214 7, av_a 137 1 (.aload_n 0), av_a 138 1 (.aload_n 0), av_f 139 3 (.getfield 38) 7 8 0 85 0, av_k 142 2 (.bipush 30) 30, av_a 144 1 .iaload, av_a 145 1 .i2l, av_f 146 3 (.invokevirtual 18) 162 1 0 214 7, av_a 149 1 (.aload_n 0), av_a 150 1 (.iload_n 3), av_a 151 1 .i2l, av_f 152 3 (.invokevirtual 18) 162 1 0 214 7, av_a 155 2 (.iload 5), av_a 157 1 (.iload_n 2), av_a 158 1 .isub, av_f 159 1 .ireturn 0 0 0 0 0]
def tX7_gets : List av_I := [av_a 0 1 (.iload_n 0), av_a 1 1 (.iload_n 1), av_b 2 (.if_icmp .le 13) 15, av_a 5 1 (.iload_n 2), av_a 6 1 (.iload_n 0), av_a 7 1 (.iload_n 1), av_a 8 1 .isub, av_k 9 1 (.iconst 3) 3, av_a 10 1 .idiv, av_a 11 1 .isub, av_b 12 (.goto 15) 27, av_a 15 1 (.iload_n 0), av_a 16 1 (.iload_n 1), av_b 17 (.if_icmp .ne 9) 26, av_a 20 1 (.iload_n 2), av_k 21 1 (.iconst 2) 2, av_a 22 1 .idiv, av_b 23 (.goto 4) 27, av_k 26 1 (.iconst 0) 0, av_a 27 1 (.istore_n 3), av_a 28 1 (.iload_n 3), av_a 29 1 (.iload_n 0), av_a 30 1 (.iload_n 1), av_f 31 3 (.invokestatic 159) 0 0 11 7 0, av_a 34 1 .isub, av_f 35 1 .ireturn 0 0 0 0 0]
def tX7_isRest : List av_I := [av_k 0 1 (.iconst 1) 1, av_a 1 1 (.istore_n 3), av_k 2 1 (.iconst 0) 0, av_a 3 2 (.istore 4), av_a 5 2 (.iload 4), av_k 7 2 (.bipush 9) 9, av_b 9 (.if_icmp .gt 35) 44, av_a 12 1 (.iload_n 3), av_b 13 (.ifCond .eq 23) 36, av_a 16 2 (.iload 4), av_a 18 1 (.iload_n 1), av_a 19 1 (.iload_n 2), av_f 20 3 (.invokestatic 428) 266 3 1 284 7, av_a 23 1 (.iload_n 0), av_a 24 1 (.iload_n 1), av_a 25 1 (.iload_n 2), av_f 26 3 (.invokestatic 428) 266 3 1 284 7, av_b 29 (.if_icmp .gt 7) 36, av_k 32 1 (.iconst 1) 1, av_b 33 (.goto 4) 37, av_k 36 1 (.iconst 0) 0, av_a 37 1 (.istore_n 3), av_k 38 3 (.iinc 4 1) 1, av_b 41 (.goto (-36)) 5, av_a 44 1 (.iload_n 3), av_f 45 1 .ireturn 1 0 0 0 0]
def tX7_wars : List av_I := [av_a 0 1 (.aload_n 0), av_k 1 1 (.iconst 0) 0, av_f 2 3 (.putfield 3) 7 0 0 77 0, av_a 5 1 (.iload_n 1), av_a 6 1 .i2l, av_l 7 1 (.lconst 0) 0 0, av_l 8 3 (.ldc2_w 414) 20 17, av_f 11 3 (.invokestatic 123) 158 3 1 175 7, av_b 14 (.ifCond .ne 5) 19, av_k 17 1 (.iconst (-1)) (-1), av_f 18 1 .ireturn 0 0 0 0 0, av_k 19 1 (.iconst 0) 0, av_a 20 1 (.istore_n 2), av_a 21 1 (.aload_n 0), av_k 22 1 (.iconst 0) 0, av_f 23 3 (.putfield 15) 7 1 0 78 0, av_k 26 1 (.iconst 0) 0, av_a 27 1 (.istore_n 3), av_a 28 1 (.iload_n 3), av_k 29 2 (.bipush 9) 9, av_b 31 (.if_icmp .gt 65) 96, av_k 34 1 (.iconst 0) 0, av_a 35 2 (.istore 4), av_a 37 2 (.iload 4), av_k 39 2 (.bipush 9) 9, av_b 41 (.if_icmp .gt 49) 90, av_a 44 1 (.iload_n 3), av_a 45 2 (.iload 4), av_a 47 1 (.iload_n 1), av_f 48 3 (.invokestatic 431) 267 3 1 283 7, av_b 51 (.ifCond .eq 33) 84, av_a 54 2 (.iload 4), av_a 56 1 (.iload_n 3), av_a 57 1 (.iload_n 1), av_f 58 3 (.invokestatic 431) 267 3 1 283 7, av_b 61 (.ifCond .eq 23) 84, av_a 64 1 (.iload_n 2), av_b 65 (.ifCond .ne 16) 81, av_a 68 1 (.aload_n 0), av_a 69 1 (.iload_n 3), av_a 70 1 .i2l, av_f 71 3 (.invokevirtual 18) 162 1 0 214 7, av_a 74 1 (.aload_n 0), av_a 75 2 (.iload 4), av_a 77 1 .i2l, av_f 78 3 (.invokevirtual 18) 162 1 0 214 7, av_k 81 3 (.iinc 2 1) 1, av_k 84 3 (.iinc 4 1) 1, av_b 87 (.goto (-50)) 37, av_k 90 3 (.iinc 3 1) 1, av_b 93 (.goto (-65)) 28, av_a 96 1 (.iload_n 2), av_f 97 1 .ireturn 0 0 0 0 0]
def tX7_draws : List av_I := [av_a 0 1 (.aload_n 0), av_a 1 1 (.aload_n 0), av_f 2 3 (.getfield 434) 7 44 0 121 0, av_kk 5 3 (.ldc_w 437) 1103515245 5, av_a 8 1 .imul, av_k 9 3 (.sipush 12345) 12345, av_a 12 1 .iadd, av_f 13 3 (.putfield 434) 7 44 0 121 0, av_a 16 1 (.aload_n 0), av_f 17 3 (.getfield 434) 7 44 0 121 0, av_k 20 2 (.bipush 16) 16, av_a 22 1 .iushr, av_a 23 1 (.iload_n 1), av_a 24 1 .irem, av_f 25 1 .ireturn 0 0 0 0 0]
def tX7_years : List av_I := [av_a 0 1 (.aload_n 0), av_k 1 1 (.iconst 0) 0, av_f 2 3 (.putfield 3) 7 0 0 77 0, av_a 5 1 (.iload_n 2), av_a 6 1 .i2l, av_l 7 1 (.lconst 1) 1 0, av_l 8 3 (.ldc2_w 309) 60 8, av_f 11 3 (.invokestatic 123) 158 3 1 175 7, av_b 14 (.ifCond .ne 5) 19, av_k 17 1 (.iconst (-1)) (-1), av_f 18 1 .ireturn 0 0 0 0 0, av_a 19 1 (.aload_n 0), av_a 20 1 (.iload_n 1), av_f 21 3 (.putfield 434) 7 44 0 121 0, av_a 24 1 (.aload_n 0), av_f 25 3 (.getfield 38) 7 8 0 85 0, av_a 28 1 (.aload_n 0), av_f 29 3 (.getfield 35) 7 7 0 84 0, av_f 32 3 (.invokestatic 346) 172 2 0 232 7, av_k 35 1 (.iconst 0) 0, av_a 36 1 (.istore_n 3), av_a 37 1 (.iload_n 3), av_a 38 1 (.iload_n 2), av_b 39 (.if_icmp .ge 77) 116, av_a 42 1 (.aload_n 0), av_k 43 1 (.iconst 4) 4, av_f 44 3 (.invokevirtual 438) 269 1 1 286 7, av_a 47 2 (.istore 4), av_a 49 2 (.iload 4), av_k 51 1 (.iconst 2) 2, av_b 52 (.if_icmp .ge 14) 66, av_a 55 1 (.aload_n 0), av_a 56 1 (.aload_n 0), av_f 57 3 (.getfield 38) 7 8 0 85 0, av_f 60 3 (.invokevirtual 295) 201 1 0 211 7, av_b 63 (.goto 47) 110, av_a 66 1 (.aload_n 0), av_f 67 3 (.getfield 120) 7 3 0 80 0, av_b 70 (.ifCond .le 40) 110, av_a 73 1 (.aload_n 0), av_a 74 1 (.aload_n 0), av_f 75 3 (.getfield 120) 7 3 0 80 0, av_f 78 3 (.invokevirtual 438) 269 1 1 286 7, av_a 81 2 (.istore 5), av_a 83 1 (.aload_n 0), av_f 84 3 (.getfield 38) 7 8 0 85 0, av_a 87 2 (.iload 4), av_k 89 1 (.iconst 2) 2, av_b 90 (.if_icmp .ne 8) 98, av_k 93 2 (.bipush 7) 7, av_b 95 (.goto 5) 100, av_k 98 2 (.bipush 14) 14, av_a 100 2 (.iload 5), av_a 102 1 .iadd, av_a 103 1 (.aload_n 0), av_k 104 2 (.bipush 10) 10, av_f 106 3 (.invokevirtual 438) 269 1 1 286 7, av_a 109 1 .iastore, av_k 110 3 (.iinc 3 1) 1, av_b 113 (.goto (-76)) 37, av_a 116 1 (.aload_n 0), av_k 117 1 (.iconst 0) 0, av_f 118 3 (.putfield 15) 7 1 0 78 0, av_a 121 1 (.aload_n 0), av_a 122 1 (.aload_n 0), av_a 123 1 (.aload_n 0), av_f 124 3 (.getfield 38) 7 8 0 85 0, av_f 127 3 (.invokevirtual 131) 166 1 1 199 7, av_a 130 1 .i2l, av_f 131 3 (.invokevirtual 18) 162 1 0 214 7, av_a 134 1 (.aload_n 0), av_a 135 1 (.aload_n 0), av_a 136 1 (.aload_n 0), av_f 137 3 (.getfield 38) 7 8 0 85 0, av_f 140 3 (.invokevirtual 441) 171 1 1 287 7, av_a 143 1 .i2l, av_f 144 3 (.invokevirtual 18) 162 1 0 214 7, av_a 147 1 (.aload_n 0), av_f 148 3 (.getfield 38) 7 8 0 85 0, av_k 151 2 (.bipush 30) 30, av_a 153 1 .iaload, av_f 154 1 .ireturn 0 0 0 0 0]
def tX7_keep : List av_I := [av_a 0 1 (.aload_n 0), av_k 1 1 (.iconst 0) 0, av_f 2 3 (.putfield 3) 7 0 0 77 0, av_a 5 1 (.iload_n 1), av_a 6 1 .i2l, av_l 7 1 (.lconst 0) 0 0, av_l 8 3 (.ldc2_w 444) 2 18, av_f 11 3 (.invokestatic 123) 158 3 1 175 7, av_b 14 (.ifCond .ne 5) 19, av_k 17 1 (.iconst 0) 0, av_f 18 1 .ireturn 1 0 0 0 0, av_a 19 1 (.aload_n 0), av_f 20 3 (.getfield 111) 7 45 0 122 0, av_a 23 1 (.iload_n 1), av_k 24 1 (.iconst 1) 1, av_a 25 1 .bastore, av_a 26 1 (.aload_n 0), av_f 27 3 (.getfield 114) 7 46 0 123 0, av_a 30 1 (.iload_n 1), av_a 31 1 (.aload_n 0), av_f 32 3 (.getfield 224) 7 4 0 81 0, av_a 35 1 .iastore, av_k 36 1 (.iconst 0) 0, av_a 37 1 (.istore_n 2), av_a 38 1 (.iload_n 2), av_k 39 2 (.bipush 33) 33, av_b 41 (.if_icmp .ge 26) 67, av_a 44 1 (.aload_n 0), av_f 45 3 (.getfield 117) 7 47 0 124 0, av_k 48 2 (.bipush 33) 33, av_a 50 1 (.iload_n 1), av_a 51 1 .imul, av_a 52 1 (.iload_n 2), av_a 53 1 .iadd, av_a 54 1 (.aload_n 0), av_f 55 3 (.getfield 35) 7 7 0 84 0, av_a 58 1 (.iload_n 2), av_a 59 1 .iaload, av_a 60 1 .iastore, av_k 61 3 (.iinc 2 1) 1, av_b 64 (.goto (-26)) 38, av_k 67 1 (.iconst 1) 1, av_f 68 1 .ireturn 1 0 0 0 0]
def tX7_again : List av_I := [av_a 0 1 (.aload_n 0), av_k 1 1 (.iconst 0) 0, av_f 2 3 (.putfield 3) 7 0 0 77 0, av_a 5 1 (.iload_n 1), av_a 6 1 .i2l, av_l 7 1 (.lconst 0) 0 0, av_l 8 3 (.ldc2_w 444) 2 18, av_f 11 3 (.invokestatic 123) 158 3 1 175 7, av_b 14 (.ifCond .eq 25) 39, av_a 17 1 (.aload_n 0), av_f 18 3 (.getfield 111) 7 45 0 122 0, av_a 21 1 (.iload_n 1), av_a 22 1 .baload, av_b 23 (.ifCond .eq 16) 39, av_a 26 1 (.aload_n 0), av_f 27 3 (.getfield 114) 7 46 0 123 0, av_a 30 1 (.iload_n 1), av_a 31 1 .iaload, av_a 32 1 (.aload_n 0), av_f 33 3 (.getfield 224) 7 4 0 81 0, av_b 36 (.if_icmp .eq 5) 41, av_k 39 1 (.iconst 0) 0, av_f 40 1 .ireturn 1 0 0 0 0, av_k 41 1 (.iconst 0) 0, av_a 42 1 (.istore_n 2), av_a 43 1 (.iload_n 2), av_k 44 2 (.bipush 33) 33, av_b 46 (.if_icmp .ge 26) 72, av_a 49 1 (.aload_n 0), av_f 50 3 (.getfield 35) 7 7 0 84 0, av_a 53 1 (.iload_n 2), av_a 54 1 (.aload_n 0), av_f 55 3 (.getfield 117) 7 47 0 124 0, av_k 58 2 (.bipush 33) 33, av_a 60 1 (.iload_n 1), av_a 61 1 .imul, av_a 62 1 (.iload_n 2), av_a 63 1 .iadd, av_a 64 1 .iaload, av_a 65 1 .iastore, av_k 66 3 (.iinc 2 1) 1, av_b 69 (.goto (-26)) 43, av_a 72 1 (.aload_n 0), av_k 73 1 (.iconst 0) 0, av_f 74 3 (.putfield 221) 7 22 0 99 0, av_k 77 1 (.iconst 1) 1, av_f 78 1 .ireturn 1 0 0 0 0]
def tX7_count : List av_I := [av_a 0 1 (.aload_n 0), av_k 1 1 (.iconst 0) 0, av_f 2 3 (.putfield 3) 7 0 0 77 0, av_a 5 1 (.iload_n 1), av_w 6 66 (.tableswitch 151 0 12 #[66, 71, 80, 88, 96, 104, 112, 121, 126, 131, 136, 141, 146]) 157 [(0, 72), (1, 77), (2, 86), (3, 94), (4, 102), (5, 110), (6, 118), (7, 127), (8, 132), (9, 137), (10, 142), (11, 147), (12, 152)], av_a 72 1 (.aload_n 0), av_f 73 3 (.getfield 120) 7 3 0 80 0, av_f 76 1 .ireturn 0 0 0 0 0, av_a 77 1 (.aload_n 0), av_a 78 1 (.aload_n 0), av_f 79 3 (.getfield 35) 7 7 0 84 0, av_f 82 3 (.invokevirtual 131) 166 1 1 199 7, av_f 85 1 .ireturn 0 0 0 0 0, av_a 86 1 (.aload_n 0), av_f 87 3 (.getfield 35) 7 7 0 84 0, av_k 90 2 (.bipush 30) 30, av_a 92 1 .iaload, av_f 93 1 .ireturn 0 0 0 0 0, av_a 94 1 (.aload_n 0), av_f 95 3 (.getfield 35) 7 7 0 84 0, av_k 98 2 (.bipush 31) 31, av_a 100 1 .iaload, av_f 101 1 .ireturn 0 0 0 0 0, av_a 102 1 (.aload_n 0), av_f 103 3 (.getfield 35) 7 7 0 84 0, av_k 106 2 (.bipush 32) 32, av_a 108 1 .iaload, av_f 109 1 .ireturn 0 0 0 0 0, av_a 110 1 (.aload_n 0), av_f 111 3 (.getfield 35) 7 7 0 84 0, av_k 114 2 (.bipush 28) 28, av_a 116 1 .iaload, av_f 117 1 .ireturn 0 0 0 0 0, av_a 118 1 (.aload_n 0), av_a 119 1 (.aload_n 0), av_f 120 3 (.getfield 35) 7 7 0 84 0, av_f 123 3 (.invokevirtual 441) 171 1 1 287 7, av_f 126 1 .ireturn 0 0 0 0 0, av_a 127 1 (.aload_n 0), av_f 128 3 (.getfield 382) 7 28 0 105 0, av_f 131 1 .ireturn 0 0 0 0 0, av_a 132 1 (.aload_n 0), av_f 133 3 (.getfield 416) 7 36 0 113 0, av_f 136 1 .ireturn 0 0 0 0 0, av_a 137 1 (.aload_n 0), av_f 138 3 (.getfield 401) 7 33 0 110 0, av_f 141 1 .ireturn 0 0 0 0 0, av_a 142 1 (.aload_n 0), av_f 143 3 (.getfield 221) 7 22 0 99 0, av_f 146 1 .ireturn 0 0 0 0 0, av_a 147 1 (.aload_n 0), av_f 148 3 (.getfield 15) 7 1 0 78 0, av_f 151 1 .ireturn 0 0 0 0 0, av_a 152 1 (.aload_n 0), av_f 153 3 (.getfield 150) 7 10 0 87 0, av_f 156 1 .ireturn 0 0 0 0 0, av_k 157 2 (.bipush (-100)) (-100), av_f 159 1 .ireturn 0 0 0 0 0]
def tX7_row : List av_I := [av_a 0 1 (.aload_n 0), av_k 1 1 (.iconst 0) 0, av_f 2 3 (.putfield 3) 7 0 0 77 0, av_a 5 1 (.iload_n 1), av_a 6 1 .i2l, av_l 7 1 (.lconst 0) 0 0, av_a 8 1 (.aload_n 0), av_f 9 3 (.getfield 15) 7 1 0 78 0, av_k 12 1 (.iconst 1) 1, av_a 13 1 .isub, av_a 14 1 .i2l, av_f 15 3 (.invokestatic 123) 158 3 1 175 7, av_b 18 (.ifCond .ne 10) 28, av_a 21 1 (.aload_n 0), av_k 22 1 (.iconst 1) 1, av_f 23 3 (.putfield 3) 7 0 0 77 0, av_l 26 1 (.lconst 0) 0 0, av_a 27 1 .lreturn, av_a 28 1 (.aload_n 0), av_f 29 3 (.getfield 11) 7 2 0 79 0, av_a 32 1 (.iload_n 1), av_a 33 1 .laload, av_a 34 1 .lreturn]
def tJ6_bitCount_0f7a4 : List av_I := [av_a 0 1 (.iload_n 0), av_a 1 1 (.iload_n 0), av_k 2 1 (.iconst 1) 1, av_a 3 1 .iushr, av_kk 4 3 (.ldc_w 265) 1431655765 0, av_a 7 1 .iand, av_a 8 1 .isub, av_a 9 1 (.istore_n 0), av_a 10 1 (.iload_n 0), av_kk 11 3 (.ldc_w 266) 858993459 1, av_a 14 1 .iand, av_a 15 1 (.iload_n 0), av_k 16 1 (.iconst 2) 2, av_a 17 1 .iushr, av_kk 18 3 (.ldc_w 266) 858993459 1, av_a 21 1 .iand, av_a 22 1 .iadd, av_a 23 1 (.istore_n 0), av_a 24 1 (.iload_n 0), av_a 25 1 (.iload_n 0), av_k 26 1 (.iconst 4) 4, av_a 27 1 .iushr, av_a 28 1 .iadd, av_kk 29 3 (.ldc_w 267) 252645135 2, av_a 32 1 .iand, av_a 33 1 (.istore_n 0), av_a 34 1 (.iload_n 0), av_a 35 1 (.iload_n 0), av_k 36 2 (.bipush 8) 8, av_a 38 1 .iushr, av_a 39 1 .iadd, av_a 40 1 (.istore_n 0), av_a 41 1 (.iload_n 0), av_a 42 1 (.iload_n 0), av_k 43 2 (.bipush 16) 16, av_a 45 1 .iushr, av_a 46 1 .iadd, av_a 47 1 (.istore_n 0), av_a 48 1 (.iload_n 0), av_k 49 2 (.bipush 63) 63, av_a 51 1 .iand, av_f 52 1 .ireturn 0 0 0 0 0]
def tJ13_bitCount_95d88 : List av_I := [av_a 0 1 (.lload_n 0), av_a 1 1 (.lload_n 0), av_k 2 1 (.iconst 1) 1, av_a 3 1 .lushr, av_l 4 3 (.ldc2_w 314) 6148914691236517205 1, av_a 7 1 .land, av_a 8 1 .lsub, av_a 9 1 (.lstore_n 0), av_a 10 1 (.lload_n 0), av_l 11 3 (.ldc2_w 316) 3689348814741910323 2, av_a 14 1 .land, av_a 15 1 (.lload_n 0), av_k 16 1 (.iconst 2) 2, av_a 17 1 .lushr, av_l 18 3 (.ldc2_w 316) 3689348814741910323 2, av_a 21 1 .land, av_a 22 1 .ladd, av_a 23 1 (.lstore_n 0), av_a 24 1 (.lload_n 0), av_a 25 1 (.lload_n 0), av_k 26 1 (.iconst 4) 4, av_a 27 1 .lushr, av_a 28 1 .ladd, av_l 29 3 (.ldc2_w 318) 1085102592571150095 3, av_a 32 1 .land, av_a 33 1 (.lstore_n 0), av_a 34 1 (.lload_n 0), av_a 35 1 (.lload_n 0), av_k 36 2 (.bipush 8) 8, av_a 38 1 .lushr, av_a 39 1 .ladd, av_a 40 1 (.lstore_n 0), av_a 41 1 (.lload_n 0), av_a 42 1 (.lload_n 0), av_k 43 2 (.bipush 16) 16, av_a 45 1 .lushr, av_a 46 1 .ladd, av_a 47 1 (.lstore_n 0), av_a 48 1 (.lload_n 0), av_a 49 1 (.lload_n 0), av_k 50 2 (.bipush 32) 32, av_a 52 1 .lushr, av_a 53 1 .ladd, av_a 54 1 (.lstore_n 0), av_a 55 1 (.lload_n 0), av_a 56 1 .l2i, av_k 57 2 (.bipush 127) 127, av_a 59 1 .iand, av_f 60 1 .ireturn 0 0 0 0 0]
def tL_law_0 : List av_I := [av_a 0 3 (.new 8), av_a 3 1 .dup, av_a 4 3 (.invokespecial 19), av_a 7 1 (.astore_n 1), av_a 8 3 (.new 20), av_a 11 1 .dup, av_a 12 3 (.invokespecial 22), av_a 15 1 (.astore_n 2), av_k 16 1 (.iconst 1) 1, av_a 17 2 (.newarray .long), av_a 19 1 (.astore_n 3), av_k 20 1 (.iconst 0) 0, av_a 21 2 (.istore 4), av_a 23 2 (.iload 4), av_a 25 1 (.aload_n 0), av_a 26 1 .arraylength, av_k 27 1 (.iconst 5) 5, av_a 28 1 .isub, av_b 29 (.if_icmp .gt 1598) 1627, av_a 32 1 (.aload_n 0), av_a 33 2 (.iload 4), av_a 35 1 .iaload, av_k 36 2 (.bipush 63) 63, av_a 38 1 .iand, av_w 39 221 (.tableswitch 1582 0 51 #[221, 246, 271, 284, 297, 365, 426, 451, 488, 525, 562, 587, 612, 625, 638, 663, 688, 701, 714, 727, 740, 777, 814, 851, 864, 901, 926, 951, 964, 977, 1038, 1063, 1112, 1125, 1138, 1151, 1188, 1201, 1214, 1227, 1264, 1313, 1326, 1339, 1352, 1377, 1390, 1415, 1452, 1477, 1502, 1527]) 1621 [(0, 260), (1, 285), (2, 310), (3, 323), (4, 336), (5, 404), (6, 465), (7, 490), (8, 527), (9, 564), (10, 601), (11, 626), (12, 651), (13, 664), (14, 677), (15, 702), (16, 727), (17, 740), (18, 753), (19, 766), (20, 779), (21, 816), (22, 853), (23, 890), (24, 903), (25, 940), (26, 965), (27, 990), (28, 1003), (29, 1016), (30, 1077), (31, 1102), (32, 1151), (33, 1164), (34, 1177), (35, 1190), (36, 1227), (37, 1240), (38, 1253), (39, 1266), (40, 1303), (41, 1352), (42, 1365), (43, 1378), (44, 1391), (45, 1416), (46, 1429), (47, 1454), (48, 1491), (49, 1516), (50, 1541), (51, 1566)], av_a 260 1 (.aload_n 1), av_a 261 1 (.aload_n 0), av_a 262 2 (.iload 4), av_k 264 1 (.iconst 1) 1, av_a 265 1 .iadd, av_a 266 1 .iaload, av_f 267 3 (.invokevirtual 23) 52 1 1 0 6, av_a 270 1 (.aload_n 2), av_a 271 1 (.aload_n 0), av_a 272 2 (.iload 4), av_k 274 1 (.iconst 1) 1, av_a 275 1 .iadd, av_a 276 1 .iaload, av_f 277 3 (.invokevirtual 27) 173 1 1 173 7, av_b 280 (.if_icmp .eq 1341) 1621, av_k 283 1 (.iconst 0) 0, av_f 284 1 .ireturn 1 0 0 0 0, av_a 285 1 (.aload_n 1), av_a 286 1 (.aload_n 0), av_a 287 2 (.iload 4), av_k 289 1 (.iconst 1) 1, av_a 290 1 .iadd, av_a 291 1 .iaload, av_f 292 3 (.invokevirtual 28) 53 1 1 2 6, av_a 295 1 (.aload_n 2), av_a 296 1 (.aload_n 0), av_a 297 2 (.iload 4), av_k 299 1 (.iconst 1) 1, av_a 300 1 .iadd, av_a 301 1 .iaload, av_f 302 3 (.invokevirtual 32) 174 1 1 174 7, av_b 305 (.if_icmp .eq 1316) 1621, av_k 308 1 (.iconst 0) 0, av_f 309 1 .ireturn 1 0 0 0 0, av_a 310 1 (.aload_n 1)]
def tL_law_1 : List av_I := [av_f 311 3 (.invokevirtual 33) 54 0 1 4 6, av_a 314 1 (.aload_n 2), av_f 315 3 (.invokevirtual 37) 184 0 1 176 7, av_b 318 (.if_icmp .eq 1303) 1621, av_k 321 1 (.iconst 0) 0, av_f 322 1 .ireturn 1 0 0 0 0, av_a 323 1 (.aload_n 1), av_f 324 3 (.invokevirtual 38) 55 0 1 14 6, av_a 327 1 (.aload_n 2), av_f 328 3 (.invokevirtual 41) 190 0 1 187 7, av_b 331 (.if_icmp .eq 1290) 1621, av_k 334 1 (.iconst 0) 0, av_f 335 1 .ireturn 1 0 0 0 0, av_a 336 1 (.aload_n 1), av_a 337 1 (.aload_n 0), av_a 338 2 (.iload 4), av_k 340 1 (.iconst 1) 1, av_a 341 1 .iadd, av_a 342 1 .iaload, av_a 343 1 (.aload_n 0), av_a 344 2 (.iload 4), av_k 346 1 (.iconst 2) 2, av_a 347 1 .iadd, av_a 348 1 .iaload, av_a 349 1 (.aload_n 3), av_f 350 3 (.invokestatic 42) 0 0 20 0 0, av_a 353 2 (.istore 5), av_a 355 1 (.aload_n 2), av_a 356 1 (.aload_n 0), av_a 357 2 (.iload 4), av_k 359 1 (.iconst 1) 1, av_a 360 1 .iadd, av_a 361 1 .iaload, av_a 362 1 (.aload_n 0), av_a 363 2 (.iload 4), av_k 365 1 (.iconst 2) 2, av_a 366 1 .iadd, av_a 367 1 .iaload, av_f 368 3 (.invokevirtual 47) 195 2 1 193 7, av_a 371 2 (.istore 6), av_a 373 1 (.aload_n 2), av_f 374 3 (.invokevirtual 48) 156 0 1 172 7, av_a 377 2 (.iload 5), av_b 379 (.if_icmp .eq 5) 384, av_k 382 1 (.iconst 0) 0, av_f 383 1 .ireturn 1 0 0 0 0, av_a 384 2 (.iload 5), av_b 386 (.ifCond .ne 15) 401, av_a 389 1 (.aload_n 3), av_k 390 1 (.iconst 0) 0, av_a 391 1 .laload, av_a 392 2 (.iload 6), av_a 394 1 .i2l, av_a 395 1 .lcmp, av_b 396 (.ifCond .eq 5) 401, av_k 399 1 (.iconst 0) 0, av_f 400 1 .ireturn 1 0 0 0 0, av_b 401 (.goto 1220) 1621, av_a 404 1 (.aload_n 1), av_a 405 1 (.aload_n 0)]
def tL_law_2 : List av_I := [av_a 406 2 (.iload 4), av_k 408 1 (.iconst 1) 1, av_a 409 1 .iadd, av_a 410 1 .iaload, av_a 411 1 (.aload_n 0), av_a 412 2 (.iload 4), av_k 414 1 (.iconst 2) 2, av_a 415 1 .iadd, av_a 416 1 .iaload, av_a 417 1 (.aload_n 0), av_a 418 2 (.iload 4), av_k 420 1 (.iconst 3) 3, av_a 421 1 .iadd, av_a 422 1 .iaload, av_a 423 1 (.aload_n 0), av_a 424 2 (.iload 4), av_k 426 1 (.iconst 4) 4, av_a 427 1 .iadd, av_a 428 1 .iaload, av_f 429 3 (.invokevirtual 51) 57 4 1 30 6, av_a 432 1 (.aload_n 2), av_a 433 1 (.aload_n 0), av_a 434 2 (.iload 4), av_k 436 1 (.iconst 1) 1, av_a 437 1 .iadd, av_a 438 1 .iaload, av_a 439 1 (.aload_n 0), av_a 440 2 (.iload 4), av_k 442 1 (.iconst 2) 2, av_a 443 1 .iadd, av_a 444 1 .iaload, av_a 445 1 (.aload_n 0), av_a 446 2 (.iload 4), av_k 448 1 (.iconst 3) 3, av_a 449 1 .iadd, av_a 450 1 .iaload, av_a 451 1 (.aload_n 0), av_a 452 2 (.iload 4), av_k 454 1 (.iconst 4) 4, av_a 455 1 .iadd, av_a 456 1 .iaload, av_f 457 3 (.invokevirtual 55) 196 4 1 205 7, av_b 460 (.if_icmp .eq 1161) 1621, av_k 463 1 (.iconst 0) 0, av_f 464 1 .ireturn 1 0 0 0 0, av_a 465 1 (.aload_n 1), av_a 466 1 (.aload_n 0), av_a 467 2 (.iload 4), av_k 469 1 (.iconst 1) 1, av_a 470 1 .iadd, av_a 471 1 .iaload, av_f 472 3 (.invokevirtual 56) 58 1 1 33 6, av_a 475 1 (.aload_n 2), av_a 476 1 (.aload_n 0), av_a 477 2 (.iload 4), av_k 479 1 (.iconst 1) 1, av_a 480 1 .iadd, av_a 481 1 .iaload, av_f 482 3 (.invokevirtual 59) 209 1 1 208 7, av_b 485 (.if_icmp .eq 1136) 1621]
def tL_law_3 : List av_I := [av_k 488 1 (.iconst 0) 0, av_f 489 1 .ireturn 1 0 0 0 0, av_a 490 1 (.aload_n 1), av_a 491 1 (.aload_n 0), av_a 492 2 (.iload 4), av_k 494 1 (.iconst 1) 1, av_a 495 1 .iadd, av_a 496 1 .iaload, av_a 497 1 (.aload_n 0), av_a 498 2 (.iload 4), av_k 500 1 (.iconst 2) 2, av_a 501 1 .iadd, av_a 502 1 .iaload, av_f 503 3 (.invokevirtual 60) 59 2 1 58 6, av_a 506 1 (.aload_n 2), av_a 507 1 (.aload_n 0), av_a 508 2 (.iload 4), av_k 510 1 (.iconst 1) 1, av_a 511 1 .iadd, av_a 512 1 .iaload, av_a 513 1 (.aload_n 0), av_a 514 2 (.iload 4), av_k 516 1 (.iconst 2) 2, av_a 517 1 .iadd, av_a 518 1 .iaload, av_f 519 3 (.invokevirtual 63) 210 2 1 216 7, av_b 522 (.if_icmp .eq 1099) 1621, av_k 525 1 (.iconst 0) 0, av_f 526 1 .ireturn 1 0 0 0 0, av_a 527 1 (.aload_n 1), av_a 528 1 (.aload_n 0), av_a 529 2 (.iload 4), av_k 531 1 (.iconst 1) 1, av_a 532 1 .iadd, av_a 533 1 .iaload, av_a 534 1 (.aload_n 0), av_a 535 2 (.iload 4), av_k 537 1 (.iconst 2) 2, av_a 538 1 .iadd, av_a 539 1 .iaload, av_f 540 3 (.invokevirtual 64) 60 2 1 62 6, av_a 543 1 (.aload_n 2), av_a 544 1 (.aload_n 0), av_a 545 2 (.iload 4), av_k 547 1 (.iconst 1) 1, av_a 548 1 .iadd, av_a 549 1 .iaload, av_a 550 1 (.aload_n 0), av_a 551 2 (.iload 4), av_k 553 1 (.iconst 2) 2, av_a 554 1 .iadd, av_a 555 1 .iaload, av_f 556 3 (.invokevirtual 67) 211 2 1 219 7, av_b 559 (.if_icmp .eq 1062) 1621, av_k 562 1 (.iconst 0) 0, av_f 563 1 .ireturn 1 0 0 0 0, av_a 564 1 (.aload_n 1), av_a 565 1 (.aload_n 0), av_a 566 2 (.iload 4), av_k 568 1 (.iconst 1) 1]
def tL_law_4 : List av_I := [av_a 569 1 .iadd, av_a 570 1 .iaload, av_a 571 1 (.aload_n 0), av_a 572 2 (.iload 4), av_k 574 1 (.iconst 2) 2, av_a 575 1 .iadd, av_a 576 1 .iaload, av_f 577 3 (.invokevirtual 68) 61 2 1 64 6, av_a 580 1 (.aload_n 2), av_a 581 1 (.aload_n 0), av_a 582 2 (.iload 4), av_k 584 1 (.iconst 1) 1, av_a 585 1 .iadd, av_a 586 1 .iaload, av_a 587 1 (.aload_n 0), av_a 588 2 (.iload 4), av_k 590 1 (.iconst 2) 2, av_a 591 1 .iadd, av_a 592 1 .iaload, av_f 593 3 (.invokevirtual 71) 212 2 1 222 7, av_b 596 (.if_icmp .eq 1025) 1621, av_k 599 1 (.iconst 0) 0, av_f 600 1 .ireturn 1 0 0 0 0, av_a 601 1 (.aload_n 1), av_a 602 1 (.aload_n 0), av_a 603 2 (.iload 4), av_k 605 1 (.iconst 1) 1, av_a 606 1 .iadd, av_a 607 1 .iaload, av_f 608 3 (.invokevirtual 72) 62 1 1 66 6, av_a 611 1 (.aload_n 2), av_a 612 1 (.aload_n 0), av_a 613 2 (.iload 4), av_k 615 1 (.iconst 1) 1, av_a 616 1 .iadd, av_a 617 1 .iaload, av_f 618 3 (.invokevirtual 75) 213 1 1 224 7, av_b 621 (.if_icmp .eq 1000) 1621, av_k 624 1 (.iconst 0) 0, av_f 625 1 .ireturn 1 0 0 0 0, av_a 626 1 (.aload_n 1), av_a 627 1 (.aload_n 0), av_a 628 2 (.iload 4), av_k 630 1 (.iconst 1) 1, av_a 631 1 .iadd, av_a 632 1 .iaload, av_f 633 3 (.invokevirtual 76) 63 1 1 69 6, av_a 636 1 (.aload_n 2), av_a 637 1 (.aload_n 0), av_a 638 2 (.iload 4), av_k 640 1 (.iconst 1) 1, av_a 641 1 .iadd, av_a 642 1 .iaload, av_f 643 3 (.invokevirtual 79) 214 1 1 226 7, av_b 646 (.if_icmp .eq 975) 1621, av_k 649 1 (.iconst 0) 0, av_f 650 1 .ireturn 1 0 0 0 0, av_a 651 1 (.aload_n 1), av_f 652 3 (.invokevirtual 80) 64 0 1 71 6, av_a 655 1 (.aload_n 2)]
def tL_law_5 : List av_I := [av_f 656 3 (.invokevirtual 83) 217 0 1 228 7, av_b 659 (.if_icmp .eq 962) 1621, av_k 662 1 (.iconst 0) 0, av_f 663 1 .ireturn 1 0 0 0 0, av_a 664 1 (.aload_n 1), av_f 665 3 (.invokevirtual 84) 65 0 1 75 6, av_a 668 1 (.aload_n 2), av_f 669 3 (.invokevirtual 87) 200 0 1 207 7, av_b 672 (.if_icmp .eq 949) 1621, av_k 675 1 (.iconst 0) 0, av_f 676 1 .ireturn 1 0 0 0 0, av_a 677 1 (.aload_n 1), av_a 678 1 (.aload_n 0), av_a 679 2 (.iload 4), av_k 681 1 (.iconst 1) 1, av_a 682 1 .iadd, av_a 683 1 .iaload, av_f 684 3 (.invokevirtual 88) 66 1 1 78 6, av_a 687 1 (.aload_n 2), av_a 688 1 (.aload_n 0), av_a 689 2 (.iload 4), av_k 691 1 (.iconst 1) 1, av_a 692 1 .iadd, av_a 693 1 .iaload, av_f 694 3 (.invokevirtual 91) 218 1 1 231 7, av_b 697 (.if_icmp .eq 924) 1621, av_k 700 1 (.iconst 0) 0, av_f 701 1 .ireturn 1 0 0 0 0, av_a 702 1 (.aload_n 1), av_a 703 1 (.aload_n 0), av_a 704 2 (.iload 4), av_k 706 1 (.iconst 1) 1, av_a 707 1 .iadd, av_a 708 1 .iaload, av_f 709 3 (.invokevirtual 92) 67 1 1 84 6, av_a 712 1 (.aload_n 2), av_a 713 1 (.aload_n 0), av_a 714 2 (.iload 4), av_k 716 1 (.iconst 1) 1, av_a 717 1 .iadd, av_a 718 1 .iaload, av_f 719 3 (.invokevirtual 95) 219 1 1 233 7, av_b 722 (.if_icmp .eq 899) 1621, av_k 725 1 (.iconst 0) 0, av_f 726 1 .ireturn 1 0 0 0 0, av_a 727 1 (.aload_n 1), av_f 728 3 (.invokevirtual 96) 68 0 1 86 6, av_a 731 1 (.aload_n 2), av_f 732 3 (.invokevirtual 99) 220 0 1 234 7, av_b 735 (.if_icmp .eq 886) 1621, av_k 738 1 (.iconst 0) 0, av_f 739 1 .ireturn 1 0 0 0 0, av_a 740 1 (.aload_n 1), av_f 741 3 (.invokevirtual 100) 69 0 1 87 6, av_a 744 1 (.aload_n 2), av_f 745 3 (.invokevirtual 103) 221 0 1 235 7, av_b 748 (.if_icmp .eq 873) 1621, av_k 751 1 (.iconst 0) 0, av_f 752 1 .ireturn 1 0 0 0 0, av_a 753 1 (.aload_n 1)]
def tL_law_6 : List av_I := [av_f 754 3 (.invokevirtual 104) 70 0 1 89 6, av_a 757 1 (.aload_n 2), av_f 758 3 (.invokevirtual 107) 222 0 1 236 7, av_b 761 (.if_icmp .eq 860) 1621, av_k 764 1 (.iconst 0) 0, av_f 765 1 .ireturn 1 0 0 0 0, av_a 766 1 (.aload_n 1), av_f 767 3 (.invokevirtual 108) 71 0 1 90 6, av_a 770 1 (.aload_n 2), av_f 771 3 (.invokevirtual 111) 223 0 1 237 7, av_b 774 (.if_icmp .eq 847) 1621, av_k 777 1 (.iconst 0) 0, av_f 778 1 .ireturn 1 0 0 0 0, av_a 779 1 (.aload_n 1), av_a 780 1 (.aload_n 0), av_a 781 2 (.iload 4), av_k 783 1 (.iconst 1) 1, av_a 784 1 .iadd, av_a 785 1 .iaload, av_a 786 1 (.aload_n 0), av_a 787 2 (.iload 4), av_k 789 1 (.iconst 2) 2, av_a 790 1 .iadd, av_a 791 1 .iaload, av_f 792 3 (.invokevirtual 112) 72 2 1 93 6, av_a 795 1 (.aload_n 2), av_a 796 1 (.aload_n 0), av_a 797 2 (.iload 4), av_k 799 1 (.iconst 1) 1, av_a 800 1 .iadd, av_a 801 1 .iaload, av_a 802 1 (.aload_n 0), av_a 803 2 (.iload 4), av_k 805 1 (.iconst 2) 2, av_a 806 1 .iadd, av_a 807 1 .iaload, av_f 808 3 (.invokevirtual 115) 224 2 1 238 7, av_b 811 (.if_icmp .eq 810) 1621, av_k 814 1 (.iconst 0) 0, av_f 815 1 .ireturn 1 0 0 0 0, av_a 816 1 (.aload_n 1), av_a 817 1 (.aload_n 0), av_a 818 2 (.iload 4), av_k 820 1 (.iconst 1) 1, av_a 821 1 .iadd, av_a 822 1 .iaload, av_a 823 1 (.aload_n 0), av_a 824 2 (.iload 4), av_k 826 1 (.iconst 2) 2, av_a 827 1 .iadd, av_a 828 1 .iaload, av_f 829 3 (.invokevirtual 116) 73 2 1 96 6, av_a 832 1 (.aload_n 2), av_a 833 1 (.aload_n 0), av_a 834 2 (.iload 4), av_k 836 1 (.iconst 1) 1, av_a 837 1 .iadd, av_a 838 1 .iaload, av_a 839 1 (.aload_n 0), av_a 840 2 (.iload 4)]
def tL_law_7 : List av_I := [av_k 842 1 (.iconst 2) 2, av_a 843 1 .iadd, av_a 844 1 .iaload, av_f 845 3 (.invokevirtual 119) 226 2 1 239 7, av_b 848 (.if_icmp .eq 773) 1621, av_k 851 1 (.iconst 0) 0, av_f 852 1 .ireturn 1 0 0 0 0, av_a 853 1 (.aload_n 1), av_a 854 1 (.aload_n 0), av_a 855 2 (.iload 4), av_k 857 1 (.iconst 1) 1, av_a 858 1 .iadd, av_a 859 1 .iaload, av_a 860 1 (.aload_n 0), av_a 861 2 (.iload 4), av_k 863 1 (.iconst 2) 2, av_a 864 1 .iadd, av_a 865 1 .iaload, av_f 866 3 (.invokevirtual 120) 74 2 1 97 6, av_a 869 1 (.aload_n 2), av_a 870 1 (.aload_n 0), av_a 871 2 (.iload 4), av_k 873 1 (.iconst 1) 1, av_a 874 1 .iadd, av_a 875 1 .iaload, av_a 876 1 (.aload_n 0), av_a 877 2 (.iload 4), av_k 879 1 (.iconst 2) 2, av_a 880 1 .iadd, av_a 881 1 .iaload, av_f 882 3 (.invokevirtual 123) 228 2 1 241 7, av_b 885 (.if_icmp .eq 736) 1621, av_k 888 1 (.iconst 0) 0, av_f 889 1 .ireturn 1 0 0 0 0, av_a 890 1 (.aload_n 1), av_f 891 3 (.invokevirtual 124) 75 0 1 99 6, av_a 894 1 (.aload_n 2), av_f 895 3 (.invokevirtual 127) 231 0 1 243 7, av_b 898 (.if_icmp .eq 723) 1621, av_k 901 1 (.iconst 0) 0, av_f 902 1 .ireturn 1 0 0 0 0, av_a 903 1 (.aload_n 1), av_a 904 1 (.aload_n 0), av_a 905 2 (.iload 4), av_k 907 1 (.iconst 1) 1, av_a 908 1 .iadd, av_a 909 1 .iaload, av_a 910 1 (.aload_n 0), av_a 911 2 (.iload 4), av_k 913 1 (.iconst 2) 2, av_a 914 1 .iadd, av_a 915 1 .iaload, av_f 916 3 (.invokevirtual 128) 76 2 1 102 6, av_a 919 1 (.aload_n 2), av_a 920 1 (.aload_n 0), av_a 921 2 (.iload 4), av_k 923 1 (.iconst 1) 1, av_a 924 1 .iadd, av_a 925 1 .iaload, av_a 926 1 (.aload_n 0)]
def tL_law_8 : List av_I := [av_a 927 2 (.iload 4), av_k 929 1 (.iconst 2) 2, av_a 930 1 .iadd, av_a 931 1 .iaload, av_f 932 3 (.invokevirtual 131) 232 2 1 246 7, av_b 935 (.if_icmp .eq 686) 1621, av_k 938 1 (.iconst 0) 0, av_f 939 1 .ireturn 1 0 0 0 0, av_a 940 1 (.aload_n 1), av_a 941 1 (.aload_n 0), av_a 942 2 (.iload 4), av_k 944 1 (.iconst 1) 1, av_a 945 1 .iadd, av_a 946 1 .iaload, av_f 947 3 (.invokevirtual 132) 77 1 1 104 6, av_a 950 1 (.aload_n 2), av_a 951 1 (.aload_n 0), av_a 952 2 (.iload 4), av_k 954 1 (.iconst 1) 1, av_a 955 1 .iadd, av_a 956 1 .iaload, av_f 957 3 (.invokevirtual 135) 236 1 1 247 7, av_b 960 (.if_icmp .eq 661) 1621, av_k 963 1 (.iconst 0) 0, av_f 964 1 .ireturn 1 0 0 0 0, av_a 965 1 (.aload_n 1), av_a 966 1 (.aload_n 0), av_a 967 2 (.iload 4), av_k 969 1 (.iconst 1) 1, av_a 970 1 .iadd, av_a 971 1 .iaload, av_f 972 3 (.invokevirtual 136) 78 1 1 108 6, av_a 975 1 (.aload_n 2), av_a 976 1 (.aload_n 0), av_a 977 2 (.iload 4), av_k 979 1 (.iconst 1) 1, av_a 980 1 .iadd, av_a 981 1 .iaload, av_f 982 3 (.invokevirtual 139) 237 1 1 252 7, av_b 985 (.if_icmp .eq 636) 1621, av_k 988 1 (.iconst 0) 0, av_f 989 1 .ireturn 1 0 0 0 0, av_a 990 1 (.aload_n 1), av_f 991 3 (.invokevirtual 140) 79 0 1 110 6, av_a 994 1 (.aload_n 2), av_f 995 3 (.invokevirtual 143) 238 0 1 254 7, av_b 998 (.if_icmp .eq 623) 1621, av_k 1001 1 (.iconst 0) 0, av_f 1002 1 .ireturn 1 0 0 0 0, av_a 1003 1 (.aload_n 1), av_f 1004 3 (.invokevirtual 144) 80 0 1 112 6, av_a 1007 1 (.aload_n 2), av_f 1008 3 (.invokevirtual 147) 239 0 1 255 7, av_b 1011 (.if_icmp .eq 610) 1621, av_k 1014 1 (.iconst 0) 0, av_f 1015 1 .ireturn 1 0 0 0 0, av_a 1016 1 (.aload_n 1), av_a 1017 1 (.aload_n 0), av_a 1018 2 (.iload 4), av_k 1020 1 (.iconst 1) 1]
def tL_law_9 : List av_I := [av_a 1021 1 .iadd, av_a 1022 1 .iaload, av_a 1023 1 (.aload_n 0), av_a 1024 2 (.iload 4), av_k 1026 1 (.iconst 2) 2, av_a 1027 1 .iadd, av_a 1028 1 .iaload, av_a 1029 1 (.aload_n 0), av_a 1030 2 (.iload 4), av_k 1032 1 (.iconst 3) 3, av_a 1033 1 .iadd, av_a 1034 1 .iaload, av_a 1035 1 (.aload_n 0), av_a 1036 2 (.iload 4), av_k 1038 1 (.iconst 4) 4, av_a 1039 1 .iadd, av_a 1040 1 .iaload, av_f 1041 3 (.invokevirtual 148) 81 4 1 113 6, av_a 1044 1 (.aload_n 2), av_a 1045 1 (.aload_n 0), av_a 1046 2 (.iload 4), av_k 1048 1 (.iconst 1) 1, av_a 1049 1 .iadd, av_a 1050 1 .iaload, av_a 1051 1 (.aload_n 0), av_a 1052 2 (.iload 4), av_k 1054 1 (.iconst 2) 2, av_a 1055 1 .iadd, av_a 1056 1 .iaload, av_a 1057 1 (.aload_n 0), av_a 1058 2 (.iload 4), av_k 1060 1 (.iconst 3) 3, av_a 1061 1 .iadd, av_a 1062 1 .iaload, av_a 1063 1 (.aload_n 0), av_a 1064 2 (.iload 4), av_k 1066 1 (.iconst 4) 4, av_a 1067 1 .iadd, av_a 1068 1 .iaload, av_f 1069 3 (.invokevirtual 151) 240 4 1 256 7, av_b 1072 (.if_icmp .eq 549) 1621, av_k 1075 1 (.iconst 0) 0, av_f 1076 1 .ireturn 1 0 0 0 0, av_a 1077 1 (.aload_n 1), av_a 1078 1 (.aload_n 0), av_a 1079 2 (.iload 4), av_k 1081 1 (.iconst 1) 1, av_a 1082 1 .iadd, av_a 1083 1 .iaload, av_f 1084 3 (.invokevirtual 152) 82 1 1 116 6, av_a 1087 1 (.aload_n 2), av_a 1088 1 (.aload_n 0), av_a 1089 2 (.iload 4), av_k 1091 1 (.iconst 1) 1, av_a 1092 1 .iadd, av_a 1093 1 .iaload, av_f 1094 3 (.invokevirtual 155) 241 1 1 257 7, av_b 1097 (.if_icmp .eq 524) 1621, av_k 1100 1 (.iconst 0) 0, av_f 1101 1 .ireturn 1 0 0 0 0]
def tL_law_10 : List av_I := [av_a 1102 1 (.aload_n 1), av_a 1103 1 (.aload_n 0), av_a 1104 2 (.iload 4), av_k 1106 1 (.iconst 1) 1, av_a 1107 1 .iadd, av_a 1108 1 .iaload, av_a 1109 1 (.aload_n 0), av_a 1110 2 (.iload 4), av_k 1112 1 (.iconst 2) 2, av_a 1113 1 .iadd, av_a 1114 1 .iaload, av_a 1115 1 (.aload_n 0), av_a 1116 2 (.iload 4), av_k 1118 1 (.iconst 3) 3, av_a 1119 1 .iadd, av_a 1120 1 .iaload, av_f 1121 3 (.invokevirtual 156) 83 3 1 118 6, av_a 1124 1 (.aload_n 2), av_a 1125 1 (.aload_n 0), av_a 1126 2 (.iload 4), av_k 1128 1 (.iconst 1) 1, av_a 1129 1 .iadd, av_a 1130 1 .iaload, av_a 1131 1 (.aload_n 0), av_a 1132 2 (.iload 4), av_k 1134 1 (.iconst 2) 2, av_a 1135 1 .iadd, av_a 1136 1 .iaload, av_a 1137 1 (.aload_n 0), av_a 1138 2 (.iload 4), av_k 1140 1 (.iconst 3) 3, av_a 1141 1 .iadd, av_a 1142 1 .iaload, av_f 1143 3 (.invokevirtual 160) 242 3 1 258 7, av_b 1146 (.if_icmp .eq 475) 1621, av_k 1149 1 (.iconst 0) 0, av_f 1150 1 .ireturn 1 0 0 0 0, av_a 1151 1 (.aload_n 1), av_f 1152 3 (.invokevirtual 161) 84 0 1 121 6, av_a 1155 1 (.aload_n 2), av_f 1156 3 (.invokevirtual 164) 243 0 1 259 7, av_b 1159 (.if_icmp .eq 462) 1621, av_k 1162 1 (.iconst 0) 0, av_f 1163 1 .ireturn 1 0 0 0 0, av_a 1164 1 (.aload_n 1), av_f 1165 3 (.invokevirtual 165) 85 0 1 123 6, av_a 1168 1 (.aload_n 2), av_f 1169 3 (.invokevirtual 168) 246 0 1 260 7, av_b 1172 (.if_icmp .eq 449) 1621, av_k 1175 1 (.iconst 0) 0, av_f 1176 1 .ireturn 1 0 0 0 0, av_a 1177 1 (.aload_n 1), av_f 1178 3 (.invokevirtual 169) 86 0 1 126 6, av_a 1181 1 (.aload_n 2), av_f 1182 3 (.invokevirtual 172) 247 0 1 263 7, av_b 1185 (.if_icmp .eq 436) 1621, av_k 1188 1 (.iconst 0) 0, av_f 1189 1 .ireturn 1 0 0 0 0, av_a 1190 1 (.aload_n 1), av_a 1191 1 (.aload_n 0)]
def tL_law_11 : List av_I := [av_a 1192 2 (.iload 4), av_k 1194 1 (.iconst 1) 1, av_a 1195 1 .iadd, av_a 1196 1 .iaload, av_a 1197 1 (.aload_n 0), av_a 1198 2 (.iload 4), av_k 1200 1 (.iconst 2) 2, av_a 1201 1 .iadd, av_a 1202 1 .iaload, av_f 1203 3 (.invokevirtual 173) 87 2 1 128 6, av_a 1206 1 (.aload_n 2), av_a 1207 1 (.aload_n 0), av_a 1208 2 (.iload 4), av_k 1210 1 (.iconst 1) 1, av_a 1211 1 .iadd, av_a 1212 1 .iaload, av_a 1213 1 (.aload_n 0), av_a 1214 2 (.iload 4), av_k 1216 1 (.iconst 2) 2, av_a 1217 1 .iadd, av_a 1218 1 .iaload, av_f 1219 3 (.invokevirtual 176) 250 2 1 264 7, av_b 1222 (.if_icmp .eq 399) 1621, av_k 1225 1 (.iconst 0) 0, av_f 1226 1 .ireturn 1 0 0 0 0, av_a 1227 1 (.aload_n 1), av_f 1228 3 (.invokevirtual 177) 88 0 1 130 6, av_a 1231 1 (.aload_n 2), av_f 1232 3 (.invokevirtual 180) 251 0 1 267 7, av_b 1235 (.if_icmp .eq 386) 1621, av_k 1238 1 (.iconst 0) 0, av_f 1239 1 .ireturn 1 0 0 0 0, av_a 1240 1 (.aload_n 1), av_f 1241 3 (.invokevirtual 181) 89 0 1 131 6, av_a 1244 1 (.aload_n 2), av_f 1245 3 (.invokevirtual 184) 254 0 1 268 7, av_b 1248 (.if_icmp .eq 373) 1621, av_k 1251 1 (.iconst 0) 0, av_f 1252 1 .ireturn 1 0 0 0 0, av_a 1253 1 (.aload_n 1), av_f 1254 3 (.invokevirtual 185) 90 0 1 136 6, av_a 1257 1 (.aload_n 2), av_f 1258 3 (.invokevirtual 188) 255 0 1 271 7, av_b 1261 (.if_icmp .eq 360) 1621, av_k 1264 1 (.iconst 0) 0, av_f 1265 1 .ireturn 1 0 0 0 0, av_a 1266 1 (.aload_n 1), av_a 1267 1 (.aload_n 0), av_a 1268 2 (.iload 4), av_k 1270 1 (.iconst 1) 1, av_a 1271 1 .iadd, av_a 1272 1 .iaload, av_a 1273 1 (.aload_n 0), av_a 1274 2 (.iload 4), av_k 1276 1 (.iconst 2) 2, av_a 1277 1 .iadd, av_a 1278 1 .iaload, av_f 1279 3 (.invokevirtual 189) 91 2 1 137 6, av_a 1282 1 (.aload_n 2), av_a 1283 1 (.aload_n 0)]
def tL_law_12 : List av_I := [av_a 1284 2 (.iload 4), av_k 1286 1 (.iconst 1) 1, av_a 1287 1 .iadd, av_a 1288 1 .iaload, av_a 1289 1 (.aload_n 0), av_a 1290 2 (.iload 4), av_k 1292 1 (.iconst 2) 2, av_a 1293 1 .iadd, av_a 1294 1 .iaload, av_f 1295 3 (.invokevirtual 192) 256 2 1 272 7, av_b 1298 (.if_icmp .eq 323) 1621, av_k 1301 1 (.iconst 0) 0, av_f 1302 1 .ireturn 1 0 0 0 0, av_a 1303 1 (.aload_n 1), av_a 1304 1 (.aload_n 0), av_a 1305 2 (.iload 4), av_k 1307 1 (.iconst 1) 1, av_a 1308 1 .iadd, av_a 1309 1 .iaload, av_a 1310 1 (.aload_n 0), av_a 1311 2 (.iload 4), av_k 1313 1 (.iconst 2) 2, av_a 1314 1 .iadd, av_a 1315 1 .iaload, av_a 1316 1 (.aload_n 0), av_a 1317 2 (.iload 4), av_k 1319 1 (.iconst 3) 3, av_a 1320 1 .iadd, av_a 1321 1 .iaload, av_f 1322 3 (.invokevirtual 193) 92 3 1 139 6, av_a 1325 1 (.aload_n 2), av_a 1326 1 (.aload_n 0), av_a 1327 2 (.iload 4), av_k 1329 1 (.iconst 1) 1, av_a 1330 1 .iadd, av_a 1331 1 .iaload, av_a 1332 1 (.aload_n 0), av_a 1333 2 (.iload 4), av_k 1335 1 (.iconst 2) 2, av_a 1336 1 .iadd, av_a 1337 1 .iaload, av_a 1338 1 (.aload_n 0), av_a 1339 2 (.iload 4), av_k 1341 1 (.iconst 3) 3, av_a 1342 1 .iadd, av_a 1343 1 .iaload, av_f 1344 3 (.invokevirtual 196) 257 3 1 273 7, av_b 1347 (.if_icmp .eq 274) 1621, av_k 1350 1 (.iconst 0) 0, av_f 1351 1 .ireturn 1 0 0 0 0, av_a 1352 1 (.aload_n 1), av_f 1353 3 (.invokevirtual 197) 93 0 1 140 6, av_a 1356 1 (.aload_n 2), av_f 1357 3 (.invokevirtual 200) 258 0 1 274 7, av_b 1360 (.if_icmp .eq 261) 1621, av_k 1363 1 (.iconst 0) 0, av_f 1364 1 .ireturn 1 0 0 0 0, av_a 1365 1 (.aload_n 1), av_f 1366 3 (.invokevirtual 201) 94 0 1 141 6, av_a 1369 1 (.aload_n 2)]
def tL_law_13 : List av_I := [av_f 1370 3 (.invokevirtual 204) 261 0 1 275 7, av_b 1373 (.if_icmp .eq 248) 1621, av_k 1376 1 (.iconst 0) 0, av_f 1377 1 .ireturn 1 0 0 0 0, av_a 1378 1 (.aload_n 1), av_f 1379 3 (.invokevirtual 205) 95 0 1 146 6, av_a 1382 1 (.aload_n 2), av_f 1383 3 (.invokevirtual 208) 262 0 1 278 7, av_b 1386 (.if_icmp .eq 235) 1621, av_k 1389 1 (.iconst 0) 0, av_f 1390 1 .ireturn 1 0 0 0 0, av_a 1391 1 (.aload_n 1), av_a 1392 1 (.aload_n 0), av_a 1393 2 (.iload 4), av_k 1395 1 (.iconst 1) 1, av_a 1396 1 .iadd, av_a 1397 1 .iaload, av_f 1398 3 (.invokevirtual 209) 96 1 1 150 6, av_a 1401 1 (.aload_n 2), av_a 1402 1 (.aload_n 0), av_a 1403 2 (.iload 4), av_k 1405 1 (.iconst 1) 1, av_a 1406 1 .iadd, av_a 1407 1 .iaload, av_f 1408 3 (.invokevirtual 212) 264 1 1 279 7, av_b 1411 (.if_icmp .eq 210) 1621, av_k 1414 1 (.iconst 0) 0, av_f 1415 1 .ireturn 1 0 0 0 0, av_a 1416 1 (.aload_n 1), av_f 1417 3 (.invokevirtual 213) 97 0 1 153 6, av_a 1420 1 (.aload_n 2), av_f 1421 3 (.invokevirtual 216) 265 0 1 281 7, av_b 1424 (.if_icmp .eq 197) 1621, av_k 1427 1 (.iconst 0) 0, av_f 1428 1 .ireturn 1 0 0 0 0, av_a 1429 1 (.aload_n 1), av_a 1430 1 (.aload_n 0), av_a 1431 2 (.iload 4), av_k 1433 1 (.iconst 1) 1, av_a 1434 1 .iadd, av_a 1435 1 .iaload, av_f 1436 3 (.invokevirtual 217) 98 1 1 154 6, av_a 1439 1 (.aload_n 2), av_a 1440 1 (.aload_n 0), av_a 1441 2 (.iload 4), av_k 1443 1 (.iconst 1) 1, av_a 1444 1 .iadd, av_a 1445 1 .iaload, av_f 1446 3 (.invokevirtual 220) 268 1 1 282 7, av_b 1449 (.if_icmp .eq 172) 1621, av_k 1452 1 (.iconst 0) 0, av_f 1453 1 .ireturn 1 0 0 0 0, av_a 1454 1 (.aload_n 1), av_a 1455 1 (.aload_n 0), av_a 1456 2 (.iload 4), av_k 1458 1 (.iconst 1) 1, av_a 1459 1 .iadd, av_a 1460 1 .iaload, av_a 1461 1 (.aload_n 0), av_a 1462 2 (.iload 4)]
def tL_law_14 : List av_I := [av_k 1464 1 (.iconst 2) 2, av_a 1465 1 .iadd, av_a 1466 1 .iaload, av_f 1467 3 (.invokevirtual 221) 99 2 1 157 6, av_a 1470 1 (.aload_n 2), av_a 1471 1 (.aload_n 0), av_a 1472 2 (.iload 4), av_k 1474 1 (.iconst 1) 1, av_a 1475 1 .iadd, av_a 1476 1 .iaload, av_a 1477 1 (.aload_n 0), av_a 1478 2 (.iload 4), av_k 1480 1 (.iconst 2) 2, av_a 1481 1 .iadd, av_a 1482 1 .iaload, av_f 1483 3 (.invokevirtual 224) 270 2 1 285 7, av_b 1486 (.if_icmp .eq 135) 1621, av_k 1489 1 (.iconst 0) 0, av_f 1490 1 .ireturn 1 0 0 0 0, av_a 1491 1 (.aload_n 1), av_a 1492 1 (.aload_n 0), av_a 1493 2 (.iload 4), av_k 1495 1 (.iconst 1) 1, av_a 1496 1 .iadd, av_a 1497 1 .iaload, av_f 1498 3 (.invokevirtual 225) 100 1 1 161 6, av_a 1501 1 (.aload_n 2), av_a 1502 1 (.aload_n 0), av_a 1503 2 (.iload 4), av_k 1505 1 (.iconst 1) 1, av_a 1506 1 .iadd, av_a 1507 1 .iaload, av_f 1508 3 (.invokevirtual 228) 271 1 1 288 7, av_b 1511 (.if_icmp .eq 110) 1621, av_k 1514 1 (.iconst 0) 0, av_f 1515 1 .ireturn 1 0 0 0 0, av_a 1516 1 (.aload_n 1), av_a 1517 1 (.aload_n 0), av_a 1518 2 (.iload 4), av_k 1520 1 (.iconst 1) 1, av_a 1521 1 .iadd, av_a 1522 1 .iaload, av_f 1523 3 (.invokevirtual 229) 101 1 1 163 6, av_a 1526 1 (.aload_n 2), av_a 1527 1 (.aload_n 0), av_a 1528 2 (.iload 4), av_k 1530 1 (.iconst 1) 1, av_a 1531 1 .iadd, av_a 1532 1 .iaload, av_f 1533 3 (.invokevirtual 232) 272 1 1 289 7, av_b 1536 (.if_icmp .eq 85) 1621, av_k 1539 1 (.iconst 0) 0, av_f 1540 1 .ireturn 1 0 0 0 0, av_a 1541 1 (.aload_n 1), av_a 1542 1 (.aload_n 0), av_a 1543 2 (.iload 4), av_k 1545 1 (.iconst 1) 1, av_a 1546 1 .iadd, av_a 1547 1 .iaload, av_f 1548 3 (.invokevirtual 233) 102 1 1 166 6]
def tL_law_15 : List av_I := [av_a 1551 1 (.aload_n 2), av_a 1552 1 (.aload_n 0), av_a 1553 2 (.iload 4), av_k 1555 1 (.iconst 1) 1, av_a 1556 1 .iadd, av_a 1557 1 .iaload, av_f 1558 3 (.invokevirtual 236) 273 1 1 290 7, av_b 1561 (.if_icmp .eq 60) 1621, av_k 1564 1 (.iconst 0) 0, av_f 1565 1 .ireturn 1 0 0 0 0, av_a 1566 1 (.aload_n 1), av_a 1567 1 (.aload_n 0), av_a 1568 2 (.iload 4), av_k 1570 1 (.iconst 1) 1, av_a 1571 1 .iadd, av_a 1572 1 .iaload, av_a 1573 1 (.aload_n 3), av_f 1574 3 (.invokestatic 237) 0 0 20 0 0, av_a 1577 2 (.istore 5), av_a 1579 1 (.aload_n 2), av_a 1580 1 (.aload_n 0), av_a 1581 2 (.iload 4), av_k 1583 1 (.iconst 1) 1, av_a 1584 1 .iadd, av_a 1585 1 .iaload, av_f 1586 3 (.invokevirtual 240) 274 1 2 291 7, av_a 1589 2 (.lstore 6), av_a 1591 1 (.aload_n 2), av_f 1592 3 (.invokevirtual 48) 156 0 1 172 7, av_a 1595 2 (.iload 5), av_b 1597 (.if_icmp .eq 5) 1602, av_k 1600 1 (.iconst 0) 0, av_f 1601 1 .ireturn 1 0 0 0 0, av_a 1602 2 (.iload 5), av_b 1604 (.ifCond .ne 14) 1618, av_a 1607 1 (.aload_n 3), av_k 1608 1 (.iconst 0) 0, av_a 1609 1 .laload, av_a 1610 2 (.lload 6), av_a 1612 1 .lcmp, av_b 1613 (.ifCond .eq 5) 1618, av_k 1616 1 (.iconst 0) 0, av_f 1617 1 .ireturn 1 0 0 0 0, av_b 1618 (.goto 3) 1621, av_k 1621 3 (.iinc 4 5) 5, av_b 1624 (.goto (-1601)) 23, av_k 1627 1 (.iconst 1) 1, av_f 1628 1 .ireturn 1 0 0 0 0]
def tL_law : List av_I := tL_law_0 ++ (tL_law_1 ++ (tL_law_2 ++ (tL_law_3 ++ (tL_law_4 ++ (tL_law_5 ++ (tL_law_6 ++ (tL_law_7 ++ (tL_law_8 ++ (tL_law_9 ++ (tL_law_10 ++ (tL_law_11 ++ (tL_law_12 ++ (tL_law_13 ++ (tL_law_14 ++ (tL_law_15)))))))))))))))
end
section
/-! THE METHODS -/
abbrev av_ME : Type := Nat × MethodName × ByteArray × Nat × Option FieldType × Nat × Bool × Nat × Nat × Nat × Nat × List av_I
def av_mt_0 : List av_ME := [(0, yX0_add, cX0_add, 4, some .int, 3, false, 796, 794, 795, 103, tX0_add), (0, yX0_drop, cX0_drop, 2, some .int, 0, false, 804, 802, 803, 103, tX0_drop), (1, yX1_mark, cX1_mark, 2, none, 1, false, 480, 478, 479, 102, tX1_mark), (1, yX1_confirm, cX1_confirm, 1, none, 0, false, 562, 560, 561, 102, tX1_confirm), (1, yX1_bringBack, cX1_bringBack, 2, some .boolean, 1, false, 637, 635, 636, 102, tX1_bringBack), (1, yX1_keepUnder, cX1_keepUnder, 3, some .boolean, 2, false, 960, 958, 959, 102, tX1_keepUnder), (1, yX1_bringKept, cX1_bringKept, 3, some .boolean, 2, false, 968, 966, 967, 102, tX1_bringKept), (1, yX1_loseAll, cX1_loseAll, 1, none, 0, false, 396, 394, 395, 102, tX1_loseAll), (2, yX2_clear, cX2_clear, 1, none, 0, false, 550, 548, 549, 99, tX2_clear), (2, yX2_add, cX2_add, 3, none, 1, false, 554, 552, 553, 99, tX2_add), (3, yX3_copy, cX3_copy, 3, none, 1, false, 459, 457, 458, 101, tX3_copy), (3, yX3_read, cX3_read, 4, some .int, 1, false, 408, 406, 407, 101, tX3_read), (3, yX3_take, cX3_take, 2, some .boolean, 1, false, 433, 432, 7, 101, tX3_take), (3, yX3_takeThing, cX3_takeThing, 3, some .boolean, 1, false, 412, 411, 3, 101, tX3_takeThing), (3, yX3_takeDigit, cX3_takeDigit, 2, some .boolean, 1, false, 437, 436, 8, 101, tX3_takeDigit), (3, yX3_takeBetween, cX3_takeBetween, 3, some .boolean, 1, false, 452, 451, 11, 101, tX3_takeBetween), (3, yX3_open, cX3_open, 1, some .boolean, 0, false, 420, 419, 5, 101, tX3_open), (3, yX3_close, cX3_close, 1, some .boolean, 0, false, 441, 440, 9, 101, tX3_close), (3, yX3_release, cX3_release, 2, none, 1, false, 445, 444, 10, 101, tX3_release), (3, yX3_hold, cX3_hold, 2, none, 1, false, 416, 415, 4, 101, tX3_hold)]
def av_mt_1 : List av_ME := [(3, yX3_emit, cX3_emit, 2, none, 1, false, 427, 426, 6, 101, tX3_emit), (3, yX3_isName, cX3_isName, 1, some .boolean, 1, true, 423, 422, 0, 101, tX3_isName), (3, yX3_bindingOf, cX3_bindingOf, 1, some .int, 1, true, 448, 447, 0, 101, tX3_bindingOf), (3, yX3_pull, cX3_pull, 6, some .int, 2, false, 523, 521, 522, 101, tX3_pull), (3, yX3_valueOf, cX3_valueOf, 3, some .int, 3, true, 526, 525, 0, 101, tX3_valueOf), (3, yX3_join, cX3_join, 3, some .int, 3, true, 534, 533, 0, 101, tX3_join), (4, yX4_knows, cX4_knows, 2, some .boolean, 1, false, 575, 573, 574, 100, tX4_knows), (4, yX4_come, cX4_come, 6, none, 5, false, 400, 398, 399, 100, tX4_come), (4, yX4_holding, cX4_holding, 1, some .int, 0, false, 500, 498, 499, 100, tX4_holding), (4, yX4_holds, cX4_holds, 2, some .boolean, 1, false, 667, 665, 666, 100, tX4_holds), (4, yX4_fate, cX4_fate, 2, some .int, 1, false, 1046, 1044, 1045, 100, tX4_fate), (4, yX4_reach, cX4_reach, 2, some .int, 1, false, 816, 814, 815, 100, tX4_reach), (4, yX4_lack, cX4_lack, 2, some .int, 1, false, 514, 512, 513, 100, tX4_lack), (4, yX4_taut, cX4_taut, 3, some .int, 0, false, 510, 508, 509, 100, tX4_taut), (4, yX4_ofColour, cX4_ofColour, 4, some .int, 1, false, 762, 760, 761, 100, tX4_ofColour), (4, yX4_asStrong, cX4_asStrong, 4, some .int, 1, false, 851, 849, 850, 100, tX4_asStrong), (4, yX4_asFarAlong, cX4_asFarAlong, 4, some .int, 1, false, 855, 853, 854, 100, tX4_asFarAlong), (4, yX4_companions, cX4_companions, 5, some .int, 1, false, 531, 529, 530, 100, tX4_companions), (4, yX4_weight, cX4_weight, 4, some .int, 1, false, 518, 516, 517, 100, tX4_weight), (4, yX4_lengths, cX4_lengths, 4, some .int, 1, false, 785, 783, 784, 100, tX4_lengths)]
def av_mt_2 : List av_ME := [(4, yX4_reelsTogether, cX4_reelsTogether, 3, some .int, 0, false, 952, 950, 951, 100, tX4_reelsTogether), (4, yX4_heldBack, cX4_heldBack, 1, some .int, 0, false, 506, 504, 505, 100, tX4_heldBack), (4, yX4_passHours, cX4_passHours, 4, none, 2, false, 657, 655, 656, 100, tX4_passHours), (4, yX4_passHour, cX4_passHour, 5, none, 1, false, 492, 490, 491, 100, tX4_passHour), (4, yX4_payOut, cX4_payOut, 4, none, 0, false, 496, 495, 13, 100, tX4_payOut), (4, yX4_copy, cX4_copy, 3, none, 1, false, 653, 651, 652, 100, tX4_copy), (4, yX4_write, cX4_write, 5, none, 2, false, 484, 482, 483, 100, tX4_write), (4, yX4_readBack, cX4_readBack, 5, none, 2, false, 641, 639, 640, 100, tX4_readBack), (5, yX5_append, cX5_append, 3, some .int, 1, false, 353, 351, 352, 98, tX5_append), (5, yX5_shorten, cX5_shorten, 2, some .boolean, 1, false, 361, 359, 360, 98, tX5_shorten), (5, yX5_at, cX5_at, 2, some .int, 1, false, 380, 378, 379, 98, tX5_at), (5, yX5_digit, cX5_digit, 3, some .int, 1, false, 387, 385, 386, 98, tX5_digit), (6, yX6_sign, cX6_sign, 2, some .int, 1, false, 349, 347, 348, 97, tX6_sign), (6, yX6_end, cX6_end, 2, some .boolean, 1, false, 357, 355, 356, 97, tX6_end), (6, yX6_streamers, cX6_streamers, 3, some .int, 0, false, 365, 363, 364, 97, tX6_streamers), (6, yX6_rule, cX6_rule, 2, some .int, 0, false, 404, 402, 403, 97, tX6_rule), (6, yX6_streamer, cX6_streamer, 3, some .int, 2, false, 981, 979, 980, 97, tX6_streamer), (6, yX6_sheet, cX6_sheet, 9, some .int, 4, false, 463, 461, 462, 97, tX6_sheet), (6, yX6_hours, cX6_hours, 2, some .int, 1, false, 476, 474, 475, 97, tX6_hours), (6, yX6_runs, cX6_runs, 3, some .int, 2, false, 567, 565, 566, 97, tX6_runs)]
def av_mt_3 : List av_ME := [(6, yX6_rates, cX6_rates, 3, some .int, 2, false, 585, 583, 584, 97, tX6_rates), (6, yX6_reels, cX6_reels, 3, some .int, 2, false, 593, 591, 592, 97, tX6_reels), (6, yX6_drops, cX6_drops, 2, some .int, 1, false, 601, 599, 600, 97, tX6_drops), (6, yX6_speed, cX6_speed, 2, some .int, 1, false, 610, 608, 609, 97, tX6_speed), (6, yX6_sailing, cX6_sailing, 5, some .int, 0, false, 618, 616, 617, 97, tX6_sailing), (6, yX6_undo, cX6_undo, 1, some .int, 0, false, 633, 631, 632, 97, tX6_undo), (6, yX6_later, cX6_later, 2, some .int, 1, false, 645, 643, 644, 97, tX6_later), (6, yX6_when, cX6_when, 3, some .int, 1, false, 663, 661, 662, 97, tX6_when), (6, yX6_order, cX6_order, 6, some .int, 0, false, 671, 669, 670, 97, tX6_order), (6, yX6_gone, cX6_gone, 2, some .int, 0, false, 675, 673, 674, 97, tX6_gone), (6, yX6_stopped, cX6_stopped, 6, some .int, 0, false, 683, 681, 682, 97, tX6_stopped), (6, yX6_drag, cX6_drag, 1, some .int, 0, false, 687, 685, 686, 97, tX6_drag), (6, yX6_thrift, cX6_thrift, 6, some .int, 2, false, 693, 691, 692, 97, tX6_thrift), (6, yX6_mole, cX6_mole, 7, some .int, 2, false, 704, 702, 703, 97, tX6_mole), (6, yX6_slows, cX6_slows, 5, some .int, 2, false, 708, 706, 707, 97, tX6_slows), (6, yX6_halts, cX6_halts, 6, some .int, 0, false, 716, 714, 715, 97, tX6_halts), (6, yX6_frees, cX6_frees, 8, some .int, 2, false, 727, 725, 726, 97, tX6_frees), (6, yX6_power, cX6_power, 5, some .int, 1, false, 735, 733, 734, 97, tX6_power), (6, yX6_pivots, cX6_pivots, 8, some .int, 1, false, 751, 749, 750, 97, tX6_pivots), (6, yX6_colours, cX6_colours, 5, some .int, 0, false, 758, 756, 757, 97, tX6_colours)]
def av_mt_4 : List av_ME := [(6, yX6_parties, cX6_parties, 7, some .int, 0, false, 766, 764, 765, 97, tX6_parties), (6, yX6_ends, cX6_ends, 8, some .int, 4, false, 770, 768, 769, 97, tX6_ends), (6, yX6_just, cX6_just, 6, some .int, 1, false, 781, 779, 780, 97, tX6_just), (6, yX6_seen, cX6_seen, 5, some .int, 3, false, 789, 787, 788, 97, tX6_seen), (6, yX6_forget, cX6_forget, 1, some .int, 0, false, 800, 798, 799, 97, tX6_forget), (6, yX6_guess, cX6_guess, 5, some .int, 0, false, 808, 806, 807, 97, tX6_guess), (6, yX6_looks, cX6_looks, 8, some .int, 0, false, 820, 818, 819, 97, tX6_looks), (6, yX6_heard, cX6_heard, 3, some .int, 2, false, 828, 826, 827, 97, tX6_heard), (6, yX6_denies, cX6_denies, 1, some .int, 0, false, 835, 833, 834, 97, tX6_denies), (6, yX6_fits, cX6_fits, 2, some .int, 0, false, 839, 837, 838, 97, tX6_fits), (6, yX6_asks, cX6_asks, 10, some .int, 0, false, 859, 857, 858, 97, tX6_asks), (6, yX6_odds, cX6_odds, 9, some .int, 2, false, 863, 861, 862, 97, tX6_odds), (6, yX6_saw, cX6_saw, 5, some .int, 3, false, 871, 869, 870, 97, tX6_saw), (6, yX6_clears, cX6_clears, 1, some .int, 0, false, 875, 873, 874, 97, tX6_clears), (6, yX6_laws, cX6_laws, 3, some .int, 0, false, 879, 877, 878, 97, tX6_laws), (6, yX6_tries, cX6_tries, 10, some .int, 0, false, 896, 894, 895, 97, tX6_tries), (6, yX6_letting, cX6_letting, 4, some .int, 1, false, 913, 911, 912, 97, tX6_letting), (6, yX6_law, cX6_law, 5, some .int, 0, false, 925, 923, 924, 97, tX6_law), (6, yX6_wars, cX6_wars, 5, some .int, 1, false, 929, 927, 928, 97, tX6_wars), (6, yX6_years, cX6_years, 4, some .int, 2, false, 939, 937, 938, 97, tX6_years)]
def av_mt_5 : List av_ME := [(6, yX6_keep, cX6_keep, 2, some .boolean, 1, false, 956, 954, 955, 97, tX6_keep), (6, yX6_again, cX6_again, 2, some .boolean, 1, false, 964, 962, 963, 97, tX6_again), (6, yX6_count, cX6_count, 2, some .int, 1, false, 973, 971, 972, 97, tX6_count), (6, yX6_row, cX6_row, 2, some .long, 1, false, 1055, 1053, 1054, 97, tX6_row), (6, yX6_within, cX6_within, 3, some .int, 3, true, 469, 468, 0, 97, tX6_within), (6, yX6_isBit, cX6_isBit, 1, some .boolean, 1, true, 792, 791, 0, 97, tX6_isBit), (6, yX6_isDigit, cX6_isDigit, 1, some .boolean, 1, true, 578, 577, 0, 97, tX6_isDigit), (6, yX6_isSpan, cX6_isSpan, 1, some .boolean, 1, true, 696, 695, 0, 97, tX6_isSpan), (6, yX6_isIn, cX6_isIn, 2, some .boolean, 2, true, 455, 454, 0, 97, tX6_isIn), (6, yX6_isWithin, cX6_isWithin, 2, some .boolean, 2, true, 719, 718, 0, 97, tX6_isWithin), (6, yX6_tell, cX6_tell, 3, none, 1, false, 679, 678, 24, 97, tX6_tell), (6, yX6_tell_, cX6_tell_, 5, none, 2, false, 546, 545, 14, 97, tX6_tell_), (6, yX6_tellFraction, cX6_tellFraction, 12, none, 2, false, 747, 746, 31, 97, tX6_tellFraction), (6, yX6_tellSet, cX6_tellSet, 3, some .int, 2, false, 723, 722, 27, 97, tX6_tellSet), (6, yX6_foresee, cX6_foresee, 2, none, 1, false, 649, 648, 23, 97, tX6_foresee), (6, yX6_badLineSign, cX6_badLineSign, 3, some .int, 0, false, 369, 368, 0, 97, tX6_badLineSign), (6, yX6_fitsLine, cX6_fitsLine, 3, some .boolean, 1, false, 376, 375, 1, 97, tX6_fitsLine), (6, yX6_addLines, cX6_addLines, 6, none, 0, false, 392, 391, 2, 97, tX6_addLines), (6, yX6_colourOf, cX6_colourOf, 1, some .int, 1, true, 383, 382, 0, 97, tX6_colourOf), (6, yX6_asKind, cX6_asKind, 2, some .int, 2, true, 466, 465, 0, 97, tX6_asKind)]
def av_mt_6 : List av_ME := [(6, yX6_badActSign, cX6_badActSign, 4, some .int, 0, false, 622, 621, 21, 97, tX6_badActSign), (6, yX6_digitsBehind, cX6_digitsBehind, 1, some .int, 1, true, 625, 624, 0, 97, tX6_digitsBehind), (6, yX6_settled, cX6_settled, 2, some .int, 1, false, 558, 557, 15, 97, tX6_settled), (6, yX6_act, cX6_act, 4, some .int, 1, false, 629, 628, 22, 97, tX6_act), (6, yX6_goHours, cX6_goHours, 4, some .int, 1, false, 488, 487, 12, 97, tX6_goHours), (6, yX6_runTo, cX6_runTo, 4, some .int, 2, false, 571, 570, 16, 97, tX6_runTo), (6, yX6_setRate, cX6_setRate, 4, some .int, 2, false, 589, 588, 17, 97, tX6_setRate), (6, yX6_fillReel, cX6_fillReel, 4, some .int, 2, false, 597, 596, 18, 97, tX6_fillReel), (6, yX6_turnEnd, cX6_turnEnd, 2, some .int, 1, false, 605, 604, 19, 97, tX6_turnEnd), (6, yX6_setSpeed, cX6_setSpeed, 3, some .int, 1, false, 614, 613, 20, 97, tX6_setSpeed), (6, yX6_hoursHeld, cX6_hoursHeld, 5, some .int, 2, false, 700, 699, 25, 97, tX6_hoursHeld), (6, yX6_holdBySpeed, cX6_holdBySpeed, 3, some .int, 2, false, 712, 711, 26, 97, tX6_holdBySpeed), (6, yX6_holdsWithout, cX6_holdsWithout, 4, some .boolean, 3, false, 731, 730, 28, 97, tX6_holdsWithout), (6, yX6_tips, cX6_tips, 3, some .boolean, 2, false, 739, 738, 29, 97, tX6_tips), (6, yX6_decides, cX6_decides, 2, some .boolean, 1, false, 743, 742, 30, 97, tX6_decides), (6, yX6_orders, cX6_orders, 4, some .long, 1, true, 754, 753, 0, 97, tX6_orders), (6, yX6_times, cX6_times, 6, some .long, 2, true, 866, 865, 0, 97, tX6_times), (6, yX6_mayBeEnds, cX6_mayBeEnds, 1, some .boolean, 1, true, 773, 772, 0, 97, tX6_mayBeEnds), (6, yX6_coloursAre, cX6_coloursAre, 6, some .boolean, 5, false, 777, 776, 32, 97, tX6_coloursAre), (6, yX6_fitsSights, cX6_fitsSights, 4, some .boolean, 1, false, 812, 811, 33, 97, tX6_fitsSights)]
def av_mt_7 : List av_ME := [(6, yX6_countWaysFrom, cX6_countWaysFrom, 2, some .int, 0, false, 824, 823, 34, 97, tX6_countWaysFrom), (6, yX6_mayBeHeard, cX6_mayBeHeard, 2, some .boolean, 2, true, 831, 830, 0, 97, tX6_mayBeHeard), (6, yX6_fitRumours, cX6_fitRumours, 3, some .int, 0, false, 843, 842, 35, 97, tX6_fitRumours), (6, yX6_ofWhom, cX6_ofWhom, 3, some .int, 2, false, 847, 846, 36, 97, tX6_ofWhom), (6, yX6_factorOf, cX6_factorOf, 1, some .int, 1, true, 889, 888, 0, 97, tX6_factorOf), (6, yX6_slackOf, cX6_slackOf, 1, some .int, 1, true, 892, 891, 0, 97, tX6_slackOf), (6, yX6_breaks, cX6_breaks, 3, some .boolean, 3, true, 886, 885, 0, 97, tX6_breaks), (6, yX6_fitsPartings, cX6_fitsPartings, 4, some .boolean, 1, false, 883, 882, 37, 97, tX6_fitsPartings), (6, yX6_fittingLaws, cX6_fittingLaws, 4, some .long, 0, false, 900, 899, 38, 97, tX6_fittingLaws), (6, yX6_breakingLaws, cX6_breakingLaws, 5, some .long, 2, true, 909, 908, 0, 97, tX6_breakingLaws), (6, yX6_learnNimbers, cX6_learnNimbers, 2, none, 1, false, 917, 916, 39, 97, tX6_learnNimbers), (6, yX6_nimberOf, cX6_nimberOf, 5, some .int, 1, false, 921, 920, 40, 97, tX6_nimberOf), (6, yX6_isBestAgainst, cX6_isBestAgainst, 5, some .boolean, 3, true, 932, 931, 0, 97, tX6_isBestAgainst), (6, yX6_gain, cX6_gain, 3, some .int, 3, true, 935, 934, 0, 97, tX6_gain), (6, yX6_draw, cX6_draw, 2, some .int, 1, false, 947, 946, 42, 97, tX6_draw), (6, yX6_drawOne, cX6_drawOne, 4, none, 0, false, 943, 942, 41, 97, tX6_drawOne), (7, yX7_thrown, cX7_thrown, 1, some .int, 0, false, 1059, 1057, 1058, 104, tX7_thrown), (7, yX7_refuse, cX7_refuse, 1, some .int, 0, false, 1359, 1358, 59, 104, tX7_refuse), (7, yX7_in, cX7_in, 6, some .boolean, 3, true, 1222, 1221, 0, 104, tX7_in), (7, yX7_has, cX7_has, 2, some .boolean, 2, true, 1362, 1361, 0, 104, tX7_has)]
def av_mt_8 : List av_ME := [(7, yX7_flag, cX7_flag, 1, some .int, 1, true, 1313, 1312, 0, 104, tX7_flag), (7, yX7_common, cX7_common, 4, some .long, 2, true, 1582, 1581, 0, 104, tX7_common), (7, yX7_enters, cX7_enters, 3, none, 1, false, 1432, 1431, 71, 104, tX7_enters), (7, yX7_entersFraction, cX7_entersFraction, 7, some .int, 2, false, 1579, 1578, 87, 104, tX7_entersFraction), (7, yX7_isOne, cX7_isOne, 2, some .boolean, 1, false, 1354, 1353, 58, 104, tX7_isOne), (7, yX7_all, cX7_all, 1, some .int, 0, false, 1377, 1376, 62, 104, tX7_all), (7, yX7_holding, cX7_holding, 2, some .int, 1, false, 1373, 1372, 61, 104, tX7_holding), (7, yX7_lack, cX7_lack, 2, some .int, 2, true, 1365, 1364, 0, 104, tX7_lack), (7, yX7_taut, cX7_taut, 4, some .int, 1, false, 1428, 1427, 70, 104, tX7_taut), (7, yX7_counts, cX7_counts, 4, some .int, 1, false, 1399, 1398, 65, 104, tX7_counts), (7, yX7_dragOf, cX7_dragOf, 2, some .int, 1, false, 1424, 1423, 69, 104, tX7_dragOf), (7, yX7_reelsOf, cX7_reelsOf, 4, some .int, 1, false, 1728, 1727, 95, 104, tX7_reelsOf), (7, yX7_copies, cX7_copies, 3, none, 2, true, 1507, 1506, 0, 104, tX7_copies), (7, yX7_sign, cX7_sign, 3, some .int, 1, false, 1215, 1213, 1214, 104, tX7_sign), (7, yX7_end, cX7_end, 2, some .boolean, 1, false, 1219, 1217, 1218, 104, tX7_end), (7, yX7_begins, cX7_begins, 3, some .int, 1, false, 1230, 1229, 44, 104, tX7_begins), (7, yX7_takes, cX7_takes, 3, some .boolean, 1, false, 1310, 1309, 51, 104, tX7_takes), (7, yX7_isDigit, cX7_isDigit, 1, some .boolean, 0, false, 1304, 1303, 50, 104, tX7_isDigit), (7, yX7_takesOf, cX7_takesOf, 3, some .int, 1, false, 1240, 1239, 46, 104, tX7_takesOf), (7, yX7_number, cX7_number, 4, some .int, 1, false, 1300, 1299, 49, 104, tX7_number)]
def av_mt_9 : List av_ME := [(7, yX7_digitIn, cX7_digitIn, 3, some .int, 2, false, 1292, 1291, 47, 104, tX7_digitIn), (7, yX7_twoDigits, cX7_twoDigits, 3, some .int, 0, false, 1296, 1295, 48, 104, tX7_twoDigits), (7, yX7_faultOf, cX7_faultOf, 5, some .int, 3, false, 1317, 1316, 52, 104, tX7_faultOf), (7, yX7_readsOne, cX7_readsOne, 2, some .boolean, 0, false, 1235, 1234, 45, 104, tX7_readsOne), (7, yX7_streamers, cX7_streamers, 6, some .int, 0, false, 1226, 1224, 1225, 104, tX7_streamers), (7, yX7_codes, cX7_codes, 2, none, 1, false, 1338, 1337, 56, 104, tX7_codes), (7, yX7_readsThing, cX7_readsThing, 2, some .boolean, 0, false, 1334, 1333, 55, 104, tX7_readsThing), (7, yX7_readsRank, cX7_readsRank, 4, some .boolean, 1, false, 1330, 1329, 54, 104, tX7_readsRank), (7, yX7_readsRule, cX7_readsRule, 3, some .int, 0, false, 1326, 1325, 53, 104, tX7_readsRule), (7, yX7_laysCode, cX7_laysCode, 4, none, 2, false, 1346, 1345, 57, 104, tX7_laysCode), (7, yX7_rule, cX7_rule, 2, some .int, 0, false, 1322, 1320, 1321, 104, tX7_rule), (7, yX7_worked, cX7_worked, 3, some .int, 3, true, 1389, 1388, 0, 104, tX7_worked), (7, yX7_ruled, cX7_ruled, 4, some .int, 0, false, 1386, 1385, 64, 104, tX7_ruled), (7, yX7_ofColour, cX7_ofColour, 4, some .int, 1, false, 1381, 1380, 63, 104, tX7_ofColour), (7, yX7_pull, cX7_pull, 3, some .int, 2, false, 1369, 1368, 60, 104, tX7_pull), (7, yX7_streamer, cX7_streamer, 3, some .int, 2, false, 1350, 1348, 1349, 104, tX7_streamer), (7, yX7_sheet, cX7_sheet, 8, some .int, 4, false, 1394, 1392, 1393, 104, tX7_sheet), (7, yX7_putsBy, cX7_putsBy, 2, none, 0, false, 1412, 1411, 66, 104, tX7_putsBy), (7, yX7_adds, cX7_adds, 3, some .int, 1, false, 1436, 1435, 72, 104, tX7_adds), (7, yX7_counted, cX7_counted, 2, some .int, 1, false, 1450, 1449, 74, 104, tX7_counted)]
def av_mt_10 : List av_ME := [(7, yX7_undo, cX7_undo, 2, some .int, 0, false, 1403, 1401, 1402, 104, tX7_undo), (7, yX7_hourGoes, cX7_hourGoes, 5, none, 1, false, 1420, 1419, 68, 104, tX7_hourGoes), (7, yX7_goesOn, cX7_goesOn, 4, none, 2, false, 1416, 1415, 67, 104, tX7_goesOn), (7, yX7_becomes, cX7_becomes, 5, some .int, 3, false, 1462, 1461, 76, 104, tX7_becomes), (7, yX7_runsTo, cX7_runsTo, 4, some .int, 2, false, 1444, 1443, 73, 104, tX7_runsTo), (7, yX7_ratesTo, cX7_ratesTo, 3, some .int, 2, false, 1458, 1457, 75, 104, tX7_ratesTo), (7, yX7_reelsMore, cX7_reelsMore, 3, some .int, 2, false, 1470, 1469, 77, 104, tX7_reelsMore), (7, yX7_dropsOne, cX7_dropsOne, 2, some .int, 1, false, 1479, 1478, 78, 104, tX7_dropsOne), (7, yX7_speedsTo, cX7_speedsTo, 2, some .int, 1, false, 1487, 1486, 79, 104, tX7_speedsTo), (7, yX7_hours, cX7_hours, 3, some .int, 1, false, 1407, 1405, 1406, 104, tX7_hours), (7, yX7_runs, cX7_runs, 3, some .int, 2, false, 1440, 1438, 1439, 104, tX7_runs), (7, yX7_rates, cX7_rates, 3, some .int, 2, false, 1454, 1452, 1453, 104, tX7_rates), (7, yX7_reels, cX7_reels, 3, some .int, 2, false, 1466, 1464, 1465, 104, tX7_reels), (7, yX7_drops, cX7_drops, 2, some .int, 1, false, 1475, 1473, 1474, 104, tX7_drops), (7, yX7_speed, cX7_speed, 2, some .int, 1, false, 1483, 1481, 1482, 104, tX7_speed), (7, yX7_readsAct, cX7_readsAct, 2, some .boolean, 0, false, 1495, 1494, 80, 104, tX7_readsAct), (7, yX7_does, cX7_does, 3, some .boolean, 1, false, 1500, 1499, 81, 104, tX7_does), (7, yX7_sailing, cX7_sailing, 5, some .int, 0, false, 1491, 1489, 1490, 104, tX7_sailing), (7, yX7_later, cX7_later, 2, some .int, 1, false, 1504, 1502, 1503, 104, tX7_later), (7, yX7_when, cX7_when, 3, some .int, 1, false, 1511, 1509, 1510, 104, tX7_when)]
def av_mt_11 : List av_ME := [(7, yX7_order, cX7_order, 4, some .int, 0, false, 1515, 1513, 1514, 104, tX7_order), (7, yX7_gone, cX7_gone, 2, some .int, 0, false, 1519, 1517, 1518, 104, tX7_gone), (7, yX7_stopped, cX7_stopped, 7, some .int, 0, false, 1523, 1521, 1522, 104, tX7_stopped), (7, yX7_drag, cX7_drag, 1, some .int, 0, false, 1527, 1525, 1526, 104, tX7_drag), (7, yX7_thrift, cX7_thrift, 7, some .int, 2, false, 1531, 1529, 1530, 104, tX7_thrift), (7, yX7_heldAt, cX7_heldAt, 6, some .int, 3, false, 1539, 1538, 82, 104, tX7_heldAt), (7, yX7_mole, cX7_mole, 5, some .int, 2, false, 1535, 1533, 1534, 104, tX7_mole), (7, yX7_heldBy, cX7_heldBy, 3, some .int, 2, false, 1548, 1547, 83, 104, tX7_heldBy), (7, yX7_slows, cX7_slows, 4, some .int, 2, false, 1543, 1541, 1542, 104, tX7_slows), (7, yX7_isFewer, cX7_isFewer, 2, some .boolean, 2, true, 1555, 1554, 0, 104, tX7_isFewer), (7, yX7_entersFewest, cX7_entersFewest, 2, some .int, 1, false, 1559, 1558, 84, 104, tX7_entersFewest), (7, yX7_halts, cX7_halts, 4, some .int, 0, false, 1552, 1550, 1551, 104, tX7_halts), (7, yX7_frees, cX7_frees, 6, some .int, 2, false, 1563, 1561, 1562, 104, tX7_frees), (7, yX7_decides, cX7_decides, 2, some .boolean, 1, false, 1575, 1574, 86, 104, tX7_decides), (7, yX7_turnsIt, cX7_turnsIt, 3, some .boolean, 2, false, 1571, 1570, 85, 104, tX7_turnsIt), (7, yX7_ordersOf, cX7_ordersOf, 1, some .long, 1, true, 1589, 1588, 0, 104, tX7_ordersOf), (7, yX7_power, cX7_power, 4, some .int, 1, false, 1567, 1565, 1566, 104, tX7_power), (7, yX7_pivots, cX7_pivots, 7, some .int, 1, false, 1586, 1584, 1585, 104, tX7_pivots), (7, yX7_colours, cX7_colours, 4, some .int, 0, false, 1593, 1591, 1592, 104, tX7_colours), (7, yX7_parties, cX7_parties, 5, some .int, 0, false, 1597, 1595, 1596, 104, tX7_parties)]
def av_mt_12 : List av_ME := [(7, yX7_ends, cX7_ends, 11, some .int, 4, false, 1601, 1599, 1600, 104, tX7_ends), (7, yX7_just, cX7_just, 7, some .int, 1, false, 1605, 1603, 1604, 104, tX7_just), (7, yX7_seen, cX7_seen, 4, some .int, 3, false, 1610, 1608, 1609, 104, tX7_seen), (7, yX7_forget, cX7_forget, 2, some .int, 0, false, 1615, 1613, 1614, 104, tX7_forget), (7, yX7_lacks, cX7_lacks, 4, some .boolean, 3, false, 1627, 1626, 89, 104, tX7_lacks), (7, yX7_isAsSeen, cX7_isAsSeen, 4, some .boolean, 1, false, 1623, 1622, 88, 104, tX7_isAsSeen), (7, yX7_guess, cX7_guess, 6, some .int, 0, false, 1619, 1617, 1618, 104, tX7_guess), (7, yX7_looks, cX7_looks, 8, some .int, 0, false, 1631, 1629, 1630, 104, tX7_looks), (7, yX7_lowest, cX7_lowest, 1, some .int, 1, true, 1640, 1639, 0, 104, tX7_lowest), (7, yX7_highest, cX7_highest, 1, some .int, 1, true, 1643, 1642, 0, 104, tX7_highest), (7, yX7_heard, cX7_heard, 3, some .int, 2, false, 1636, 1634, 1635, 104, tX7_heard), (7, yX7_denies, cX7_denies, 2, some .int, 0, false, 1647, 1645, 1646, 104, tX7_denies), (7, yX7_isSo, cX7_isSo, 4, some .boolean, 3, false, 1659, 1658, 91, 104, tX7_isSo), (7, yX7_fitting, cX7_fitting, 5, some .int, 0, false, 1655, 1654, 90, 104, tX7_fitting), (7, yX7_fits, cX7_fits, 2, some .int, 0, false, 1651, 1649, 1650, 104, tX7_fits), (7, yX7_asks, cX7_asks, 8, some .int, 0, false, 1663, 1661, 1662, 104, tX7_asks), (7, yX7_odds, cX7_odds, 12, some .int, 2, false, 1667, 1665, 1666, 104, tX7_odds), (7, yX7_saw, cX7_saw, 4, some .int, 3, false, 1673, 1671, 1672, 104, tX7_saw), (7, yX7_clears, cX7_clears, 2, some .int, 0, false, 1678, 1676, 1677, 104, tX7_clears), (7, yX7_breaksBy, cX7_breaksBy, 3, some .int, 3, true, 1689, 1688, 0, 104, tX7_breaksBy)]
def av_mt_13 : List av_ME := [(7, yX7_isLaw, cX7_isLaw, 4, some .boolean, 1, false, 1686, 1685, 92, 104, tX7_isLaw), (7, yX7_laws, cX7_laws, 4, some .int, 0, false, 1682, 1680, 1681, 104, tX7_laws), (7, yX7_tries, cX7_tries, 8, some .int, 0, false, 1693, 1691, 1692, 104, tX7_tries), (7, yX7_laysWorth, cX7_laysWorth, 5, none, 1, false, 1701, 1700, 93, 104, tX7_laysWorth), (7, yX7_letting, cX7_letting, 4, some .int, 1, false, 1697, 1695, 1696, 104, tX7_letting), (7, yX7_law, cX7_law, 6, some .int, 0, false, 1705, 1703, 1704, 104, tX7_law), (7, yX7_gets, cX7_gets, 4, some .int, 3, true, 1715, 1714, 0, 104, tX7_gets), (7, yX7_isRest, cX7_isRest, 5, some .boolean, 3, true, 1712, 1711, 0, 104, tX7_isRest), (7, yX7_wars, cX7_wars, 5, some .int, 1, false, 1709, 1707, 1708, 104, tX7_wars), (7, yX7_draws, cX7_draws, 2, some .int, 1, false, 1723, 1722, 94, 104, tX7_draws), (7, yX7_years, cX7_years, 6, some .int, 2, false, 1719, 1717, 1718, 104, tX7_years), (7, yX7_keep, cX7_keep, 3, some .boolean, 1, false, 1732, 1730, 1731, 104, tX7_keep), (7, yX7_again, cX7_again, 3, some .boolean, 1, false, 1737, 1735, 1736, 104, tX7_again), (7, yX7_count, cX7_count, 2, some .int, 1, false, 1741, 1739, 1740, 104, tX7_count), (7, yX7_row, cX7_row, 2, some .long, 1, false, 1745, 1743, 1744, 104, tX7_row), (8, yJ6_bitCount_0f7a4, cJ6_bitCount_0f7a4, 1, some .int, 1, true, 539, 538, 0, 114, tJ6_bitCount_0f7a4), (9, yJ13_bitCount_95d88, cJ13_bitCount_95d88, 2, some .int, 1, true, 903, 902, 0, 115, tJ13_bitCount_95d88), (10, x, code, 8, ret, 1, true, 0, 0, 0, 0, tL_law)]
def av_mt : List av_ME := av_mt_0 ++ (av_mt_1 ++ (av_mt_2 ++ (av_mt_3 ++ (av_mt_4 ++ (av_mt_5 ++ (av_mt_6 ++ (av_mt_7 ++ (av_mt_8 ++ (av_mt_9 ++ (av_mt_10 ++ (av_mt_11 ++ (av_mt_12 ++ (av_mt_13)))))))))))))
end
section
/-! THE TABLES CHECKED: each row is the code's, each link is among the words. -/
def av_tbl : List Cond := lw_tbl.filter goodWord
theorem av_tbl_of {p : Nat} {w : Cond} (h : lw_tbl[p]? = some w) (g : goodWord w = true) : w ∈ av_tbl := List.mem_filter.mpr ⟨List.mem_of_getElem? h, g⟩
def av_word (p : Nat) (w : Cond) : Bool := decide (lw_tbl[p]? = some w) && goodWord w
theorem av_word_of {p : Nat} {w : Cond} (h : av_word p w = true) : w ∈ av_tbl := by
  simp only [av_word, Bool.and_eq_true, decide_eq_true_eq] at h
  exact av_tbl_of h.1 h.2
def av_nest : Cond → Bool
  | .fieldLinkNest _ _ _ _ _ _ => true
  | .methodLinkNest _ _ _ _ => true
  | _ => false
def av_nst : List Cond := lw_tbl.filter av_nest
def av_wordN (nest : Bool) (p : Nat) (w : Cond) : Bool := match nest with
  | true => decide (lw_tbl[p]? = some w) && av_nest w
  | false => av_word p w
theorem av_wordN_of {p : Nat} {w : Cond} (h : av_wordN true p w = true) : w ∈ av_nst := by
  simp only [av_wordN, Bool.and_eq_true, decide_eq_true_eq] at h
  exact List.mem_filter.mpr ⟨List.mem_of_getElem? h.1, h.2⟩
def av_fw (own idx : Nat) (nest : Bool) (c k : Nat) : Cond := match nest with
  | true => .fieldLinkNest (av_cn own) idx (av_cn c) (av_Tt c k).2.1 (av_Tt c k).2.2.1 RX6
  | false => .fieldLink (av_cn own) idx (av_cn c) (av_Tt c k).2.1 (av_Tt c k).2.2.1
def av_fchk (e : Nat × Nat × Bool × Nat × Nat × Nat) : Bool := match e with
  | (own, idx, nest, c, k, p) => av_wordN nest p (av_fw own idx nest c k) && Nat.blt k (av_nf c) && Nat.blt c 8 && decide ((av_Tt c k).1 = av_cn c)
def av_mn (k : Nat) : av_ME := av_mt.getD k (10, x, code, 8, ret, 1, true, 0, 0, 0, 0, [])
def av_mw (own idx : Nat) (nest : Bool) (y : MethodName) : Cond := match nest with
  | true => .methodLinkNest (av_cn own) idx y RX6
  | false => .methodLink (av_cn own) idx y
def av_rk (ret : Option FieldType) (z : Nat) : Bool := match z with
  | 0 => decide (ret = none)
  | 1 => decide (ret = some .int) || decide (ret = some .boolean)
  | 2 => decide (ret = some .long)
  | _ => false
def av_cchk (e : Nat × Nat × Bool × Nat × Nat × Bool × Nat × Nat × Nat) : Bool := match e with
  | (own, idx, nest, k, p, st, n, z, o) => match av_mn k with
    | (c, y, _, _, ret, n', st', _) => av_wordN nest p (av_mw own idx nest y) && Nat.blt k 277 && (st == st') && Nat.beq n n' && Nat.beq c o && av_rk ret z
def av_py (z : Nat) : MethodName := match z with
  | 10 => Lib.Math.max.name
  | 11 => Lib.Math.min.name
  | 12 => Lib.Math.abs.name
  | 13 => ⟨"java/lang/String", "length", "()I"⟩
  | _ => ⟨"java/lang/String", "charAt", "(I)C"⟩
def av_pchk (e : Nat × Nat × Nat × Nat) : Bool := match e with
  | (own, idx, z, p) => av_word p (.methodLink (av_cn own) idx (av_py z))
def av_kchk (e : Nat × Nat × Int32 × Nat) : Bool := match e with
  | (own, idx, v, p) => av_word p (.constant (av_cn own) idx v)
def av_lchk (e : Nat × Nat × Int64 × Nat) : Bool := match e with
  | (own, idx, v, p) => av_word p (.constantLong (av_cn own) idx v)
/-- the String constants: index in the reference's file, which text -/
def av_sx : List Nat := [195, 237, 242, 244, 246, 338]
def av_so (w : Nat) : Nat := ([0, 1, 2, 3, 4, 5] : List Nat).getD w 0
/-- a row of a method of class own, code cc, that returns ret -/
def av_chk (own : Nat) (cc : ByteArray) (ret : Option FieldType) (q : av_I) : Bool := match q with
  | (pc, len, i, x, y, z, w, o, v, u, sw) => decide (decode cc pc = .ok (i, len)) && (match i with
    | .iload _ => Nat.beq len 2
    | .lload _ => Nat.beq len 2
    | .aload _ => Nat.beq len 2
    | .istore _ => Nat.beq len 2
    | .lstore _ => Nat.beq len 2
    | .iinc _ c => Nat.beq len 3 && decide (Int32.ofInt c = v)
    | .iconst c => Nat.beq len 1 && decide (Int32.ofInt c = v)
    | .bipush c => Nat.beq len 2 && decide ((Int8.ofInt c).toInt32 = v)
    | .sipush c => Nat.beq len 3 && decide ((Int16.ofInt c).toInt32 = v)
    | .lconst c => Nat.beq len 1 && decide (Int64.ofNat (c : Nat) = u)
    | .ldc idx => Nat.beq len 2 && (match z with
      | 0 => match av_kt[w]? with
        | some (a, b, c, _) => Nat.beq a own && Nat.beq b idx && decide (c = v)
        | none => false
      | _ => Nat.beq own 7 && Nat.blt w 6 && decide (av_sx[w]? = some idx) && Nat.beq x (92 + av_so w))
    | .ldc_w idx => Nat.beq len 3 && (match z with
      | 0 => match av_kt[w]? with
        | some (a, b, c, _) => Nat.beq a own && Nat.beq b idx && decide (c = v)
        | none => false
      | _ => Nat.beq own 7 && Nat.blt w 6 && decide (av_sx[w]? = some idx) && Nat.beq x (92 + av_so w))
    | .ldc2_w idx => Nat.beq len 3 && (match av_lt[w]? with
      | some (a, b, c, _) => Nat.beq a own && Nat.beq b idx && decide (c = u)
      | none => false)
    | .ifCond _ f => Nat.beq len 3 && decide ((pc : Int) + f = (x : Int))
    | .if_icmp _ f => Nat.beq len 3 && decide ((pc : Int) + f = (x : Int))
    | .goto f => Nat.beq len 3 && decide ((pc : Int) + f = (x : Int))
    | .tableswitch d lo hi offs => decide ((pc : Int) + d = (x : Int)) && decide (hi = lo + (offs.toList.length : Int) - 1) && decide (sw.map (fun s => s.1.toInt) = (List.range offs.toList.length).map (fun (k : Nat) => lo + (k : Int))) && decide (sw.map (fun s => (s.2 : Int)) = offs.toList.map (fun f => (pc : Int) + f))
    | .lookupswitch d ps => decide ((pc : Int) + d = (x : Int)) && (ps.toList.zip (ps.toList.drop 1)).all (fun (a, next) => a.1 < next.1) && decide (sw.map (fun s => (s.1.toInt, (s.2 : Int))) = ps.toList.map (fun f => (f.1, (pc : Int) + f.2)))
    | .getfield idx => Nat.beq len 3 && (match av_ft[w]? with
      | some (a, b, _, c, k, _) => Nat.beq a own && Nat.beq b idx && Nat.beq c x && Nat.beq k y
      | none => false)
    | .putfield idx => Nat.beq len 3 && (match av_ft[w]? with
      | some (a, b, _, c, k, _) => Nat.beq a own && Nat.beq b idx && Nat.beq c x && Nat.beq k y && !(av_Tt c k).2.2.2 && (match z with
        | 0 => decide (av_ty c k = .int)
        | _ => decide (av_ty c k = .boolean))
      | none => false)
    | .invokestatic idx => Nat.beq len 3 && (match z with
      | 20 => true
      | 10 => match av_pt[w]? with
        | some (a, b, c, _) => Nat.beq a own && Nat.beq b idx && Nat.beq c 10
        | none => false
      | 11 => match av_pt[w]? with
        | some (a, b, c, _) => Nat.beq a own && Nat.beq b idx && Nat.beq c 11
        | none => false
      | 12 => match av_pt[w]? with
        | some (a, b, c, _) => Nat.beq a own && Nat.beq b idx && Nat.beq c 12
        | none => false
      | z => match av_ct[w]? with
        | some (a, b, _, k, _, st, n, z', _) => Nat.beq a own && Nat.beq b idx && Nat.beq k x && st && Nat.beq n y && Nat.beq z' z
        | none => false)
    | .invokevirtual idx => Nat.beq len 3 && (match z with
      | 13 => match av_pt[w]? with
        | some (a, b, c, _) => Nat.beq a own && Nat.beq b idx && Nat.beq c 13
        | none => false
      | 14 => match av_pt[w]? with
        | some (a, b, c, _) => Nat.beq a own && Nat.beq b idx && Nat.beq c 14
        | none => false
      | z => match av_ct[w]? with
        | some (a, b, _, k, _, st, n, z', o') => Nat.beq a own && Nat.beq b idx && Nat.beq k x && !st && Nat.beq n y && Nat.beq z' z && Nat.beq o' o && Nat.blt o 8
        | none => false)
    | .ireturn => Nat.beq len 1 && (match x with
      | 0 => decide (ret = some .int)
      | _ => decide (ret = some .boolean))
    | .lreturn => Nat.beq len 1 && decide (ret = some .long)
    | .return_ => Nat.beq len 1 && decide (ret = none)
    | .new _ => true
    | .newarray _ => true
    | .invokespecial _ => true
    | _ => Nat.beq len 1)
/-- a method is as the tables say -/
def av_gd (e : av_ME) : Prop := match e with
  | (c, y, cc, nL, ret, n, st, p1, p2, p3, p4, T) => av_wf T = true ∧ T.all (av_chk c cc ret) = true ∧ Nat.ble nL 12 = true ∧ (c = 10 ∨ (Cond.code y cc nL ret ∈ av_tbl ∧ (match st with
    | true => Cond.static y ∈ av_tbl
    | false => Cond.instanceMethod y ∈ av_tbl ∧ Cond.selects (av_cn c) y y ∈ av_tbl) ∧ Cond.initialized y.cls ∈ av_tbl ∧ y.cls = av_cn c ∧ plainName y.cls = true ∧ (y.cls ≠ "java/lang/invoke/MethodHandle" ∧ y.cls ≠ "java/lang/invoke/VarHandle" ∧ (parseMethodDescriptor y.desc).map (fun d => d.parameters.length) = some n)))
theorem av_tbl_t {p : Nat} {w : Cond} (h : tables_1[p]? = some w) (g : goodWord w = true) : w ∈ av_tbl := List.mem_filter.mpr ⟨List.mem_append_right _ (List.mem_of_getElem? h), g⟩
theorem av_all2 {α : Type} {f : α → Bool} {a b : List α} (ha : a.all f = true) (hb : b.all f = true) : (a ++ b).all f = true := by
  rw [List.all_append, ha, hb]; rfl

theorem av_lays0 : u_ws RX0 TX0 5 = [292, 294, 296, 298, 300].filterMap (fun i => lw_tbl[i]?) ∧ (u_ws RX0 TX0 5).all goodWord = true := by decide +kernel
theorem av_lays1 : u_ws RX1 TX1 5 = [266, 268, 270, 272, 274].filterMap (fun i => lw_tbl[i]?) ∧ (u_ws RX1 TX1 5).all goodWord = true := by decide +kernel
theorem av_lays2 : u_ws RX2 TX2 2 = [150, 152].filterMap (fun i => lw_tbl[i]?) ∧ (u_ws RX2 TX2 2).all goodWord = true := by decide +kernel
theorem av_lays3 : u_ws RX3 TX3 9 = [235, 237, 239, 241, 243, 245, 247, 249, 251].filterMap (fun i => lw_tbl[i]?) ∧ (u_ws RX3 TX3 9).all goodWord = true := by decide +kernel
theorem av_lays4 : u_ws RX4 TX4 13 = [193, 195, 197, 199, 201, 203, 205, 207, 209, 211, 213, 215, 217].filterMap (fun i => lw_tbl[i]?) ∧ (u_ws RX4 TX4 13).all goodWord = true := by decide +kernel
theorem av_lays5 : u_ws RX5 TX5 2 = [134, 136].filterMap (fun i => lw_tbl[i]?) ∧ (u_ws RX5 TX5 2).all goodWord = true := by decide +kernel
theorem av_lays6 : u_ws RX6 TX6 14 = [317, 319, 321, 323, 325, 327, 329, 331, 333, 335, 337, 339, 341, 343].filterMap (fun i => lw_tbl[i]?) ∧ (u_ws RX6 TX6 14).all goodWord = true := by decide +kernel
theorem av_lays7 : u_ws RX7 TX7 48 = [1114, 1116, 1118, 1120, 1122, 1124, 1126, 1128, 1130, 1132, 1134, 1136, 1138, 1140, 1142, 1144, 1146, 1148, 1150, 1152, 1154, 1156, 1158, 1160, 1162, 1164, 1166, 1168, 1170, 1172, 1174, 1176, 1178, 1180, 1182, 1184, 1186, 1188, 1190, 1192, 1194, 1196, 1198, 1200, 1202, 1204, 1206, 1208].filterMap (fun i => lw_tbl[i]?) ∧ (u_ws RX7 TX7 48).all goodWord = true := by decide +kernel
theorem av_ft_ok : av_ft.all av_fchk = true := by decide +kernel
theorem av_ct_ok : av_ct.all av_cchk = true := by decide +kernel
theorem av_pt_ok : av_pt.all av_pchk = true := by decide +kernel
theorem av_kt_ok : av_kt.all av_kchk = true := by decide +kernel
theorem av_lt_ok : av_lt.all av_lchk = true := by decide +kernel
end
section
/-! SOUNDNESS: what the abstract machine answers, the machine answers. -/
def av_c (ad : Nat → Nat) : Value → Value
  | .ref k => .ref (ad k)
  | v => v
theorem av_c_cat (ad : Nat → Nat) (v : Value) : (av_c ad v).category = v.category := by cases v <;> rfl
def av_fe (ad : Nat → Nat) (x : Int32) (r : Nat) : Value := match r with
  | 0 => .int x
  | c + 1 => .ref (ad c)
def av_fv (ad : Nat → Nat) (f : Nat → Int32) : List Nat → Nat → List Value
  | [], _ => []
  | r :: l, k => av_fe ad (f k) r :: av_fv ad f l (k + 1)
def av_en (ad : Nat → Nat) (cI cJ cZ : ClassId) (f : Nat → Int32) (q : Nat × Nat × List Nat) : va_E := match q.1 with
  | 8 => .inl (cI, q.2.1, .inl f)
  | 9 => .inl (cJ, q.2.1, .inr (.inl (fun i => av_jn (f (2 * i)) (f (2 * i + 1)))))
  | 10 => .inl (cZ, q.2.1, .inl f)
  | c => .inr (c, av_fv ad f q.2.2 0)
def av_ws (ad : Nat → Nat) (cI cJ cZ : ClassId) (h : av_M) : va_W := (List.range av_N).map fun a => (ad a, av_en ad cI cJ cZ (h a) (av_nth av_shp a))
theorem av_ws_get {ad : Nat → Nat} {cI cJ cZ : ClassId} {h : av_M} {a : Nat} (ha : a < av_N) : (av_ws ad cI cJ cZ h)[a]? = some (ad a, av_en ad cI cJ cZ (h a) (av_nth av_shp a)) := by
  unfold av_ws
  rw [List.getElem?_map, List.getElem?_range ha]
  rfl
theorem av_ws_set {ad : Nat → Nat} {cI cJ cZ : ClassId} {h h' : av_M} {a : Nat} (ha : a < av_N) (hk : ∀ b, b ≠ a → h' b = h b) :
    (av_ws ad cI cJ cZ h).set a (ad a, av_en ad cI cJ cZ (h' a) (av_nth av_shp a)) = av_ws ad cI cJ cZ h' := by
  apply List.ext_getElem?
  intro i
  by_cases hi : i < av_N
  · rw [av_ws_get hi]
    by_cases e : a = i
    · subst e
      rw [List.getElem?_set_self (by unfold av_ws; rw [List.length_map, List.length_range]; exact hi)]
    · rw [List.getElem?_set_ne e, av_ws_get hi, hk i (fun q => e q.symm)]
  · have h1 : (av_ws ad cI cJ cZ h').length ≤ i := by unfold av_ws; rw [List.length_map, List.length_range]; omega
    have h2 : ((av_ws ad cI cJ cZ h).set a (ad a, av_en ad cI cJ cZ (h' a) (av_nth av_shp a))).length ≤ i := by rw [List.length_set]; unfold av_ws; rw [List.length_map, List.length_range]; omega
    rw [List.getElem?_eq_none h1, List.getElem?_eq_none h2]
theorem av_u_ne {h : av_M} {a k : Nat} {v : Int32} {b : Nat} (e : b ≠ a) : av_u h a k v b = h b := by unfold av_u; rw [if_neg e]
theorem av_u_eq {h : av_M} {a k : Nat} {v : Int32} : av_u h a k v a = upd (h a) k v := by unfold av_u; rw [if_pos rfl]
theorem av_nth_ge : ∀ (l : List (Nat × Nat × List Nat)) (a : Nat), l.length ≤ a → av_nth l a = (99, 0, []) := by
  intro l
  induction l with
  | nil => intro a _; rfl
  | cons q l ih =>
    intro a ha
    cases a with
    | zero => simp at ha
    | succ a => exact ih a (by simpa using ha)
theorem av_shp_98 : av_shp.length = 98 := by decide +kernel
theorem av_kd_lt {a : Nat} (h : av_kd a ≤ 10) : a < av_N := by
  by_cases ha : a < 98
  · have : ∀ a, a < 98 → av_kd a ≤ 10 → a < av_N := by decide +kernel
    exact this a ha h
  · unfold av_kd at h
    rw [av_nth_ge av_shp a (by rw [av_shp_98]; omega)] at h
    exact absurd h (by decide)
theorem av_kd_11 {a : Nat} (h : av_kd a = 11) : a = 90 := by
  by_cases ha : a < 98
  · have : ∀ a, a < 98 → av_kd a = 11 → a = 90 := by decide +kernel
    exact this a ha h
  · unfold av_kd at h
    rw [av_nth_ge av_shp a (by rw [av_shp_98]; omega)] at h
    exact absurd h (by decide)
theorem av_kd_12 {a : Nat} (h : av_kd a = 12) : ∃ i, i < 6 ∧ a = 92 + i := by
  by_cases ha : a < 98
  · have : ∀ a, a < 98 → av_kd a = 12 → 92 ≤ a := by decide +kernel
    exact ⟨a - 92, by have := this a ha h; omega, by have := this a ha h; omega⟩
  · unfold av_kd at h
    rw [av_nth_ge av_shp a (by rw [av_shp_98]; omega)] at h
    exact absurd h (by decide)
theorem av_shp_len : ∀ a, a < av_N → av_kd a < 8 → (av_nth av_shp a).2.2.length = av_nf (av_kd a) := by decide +kernel
theorem av_fv_get (ad : Nat → Nat) (f : Nat → Int32) : ∀ (l : List Nat) (j k : Nat), k < l.length → (av_fv ad f l j)[k]? = some (av_fe ad (f (j + k)) (av_nn l k)) := by
  intro l
  induction l with
  | nil => intro j k h; simp at h
  | cons r l ih =>
    intro j k h
    cases k with
    | zero => rfl
    | succ k =>
      show (av_fv ad f l (j + 1))[k]? = some (av_fe ad (f (j + (k + 1))) (av_nn l k))
      rw [ih (j + 1) k (by simpa using h), show j + 1 + k = j + (k + 1) by omega]
theorem av_fv_len (ad : Nat → Nat) (f : Nat → Int32) : ∀ (l : List Nat) (j : Nat), (av_fv ad f l j).length = l.length := by
  intro l
  induction l with
  | nil => intro j; rfl
  | cons r l ih => intro j; simp [av_fv, ih]
theorem av_fv_up (ad : Nat → Nat) (f : Nat → Int32) (v : Int32) : ∀ (l : List Nat) (i j : Nat), i < j → av_fv ad (upd f i v) l j = av_fv ad f l j := by
  intro l
  induction l with
  | nil => intro i j _; rfl
  | cons r l ih =>
    intro i j hij
    have h1 : upd f i v j = f j := by unfold upd; rw [if_neg (by omega)]
    unfold av_fv
    rw [ih i (j + 1) (by omega), h1]
theorem av_fv_set (ad : Nat → Nat) (f : Nat → Int32) (v : Int32) : ∀ (l : List Nat) (j k : Nat), av_nn l k = 0 → k < l.length → (av_fv ad f l j).set k (.int v) = av_fv ad (upd f (j + k) v) l j := by
  intro l
  induction l with
  | nil => intro j k _ h; simp at h
  | cons r l ih =>
    intro j k h0 h
    cases k with
    | zero =>
      have hr : r = 0 := h0
      subst hr
      show Value.int v :: av_fv ad f l (j + 1) = Value.int (upd f j v j) :: av_fv ad (upd f j v) l (j + 1)
      have h1 : upd f j v j = v := by unfold upd; rw [if_pos rfl]
      rw [av_fv_up ad f v l j (j + 1) (by omega), h1]
    | succ k =>
      show av_fe ad (f j) r :: (av_fv ad f l (j + 1)).set k (.int v) = av_fe ad (upd f (j + (k + 1)) v j) r :: av_fv ad (upd f (j + (k + 1)) v) l (j + 1)
      have h1 : upd f (j + (k + 1)) v j = f j := by unfold upd; rw [if_neg (by omega)]
      rw [ih (j + 1) k h0 (by simpa using h), h1, show j + 1 + k = j + (k + 1) by omega]
theorem av_en_obj {ad : Nat → Nat} {cI cJ cZ : ClassId} {f : Nat → Int32} {q : Nat × Nat × List Nat} (h : q.1 < 8) : av_en ad cI cJ cZ f q = .inr (q.1, av_fv ad f q.2.2 0) := by
  obtain ⟨c, n, rs⟩ := q
  have h : c < 8 := h
  unfold av_en
  dsimp only
  split <;> first | omega | rfl
/-! the locals -/
def av_lv (ad : Nat → Nat) (nL : Nat) (lv : Array Slot) (ls : List Value) : Prop := ls.length = nL ∧ ∃ l, lv_has lv nL l ∧ ∀ (i : Nat) (v : Value), av_gl ls i = v → v ≠ .null → (i, av_c ad v) ∈ l
theorem av_lv_get {ad : Nat → Nat} {nL : Nat} {lv : Array Slot} {ls : List Value} {n : Nat} {v : Value} (h : av_lv ad nL lv ls) (hg : av_gl ls n = v) (hv : v ≠ .null) : lv[n]? = some (.val (av_c ad v)) := by
  obtain ⟨-, l, hl, hm⟩ := h
  exact hl.2.2 _ (hm n v hg hv)
theorem av_gl_st : ∀ (ls : List Value) (n i : Nat) (v : Value), av_gl (av_st ls n v) i = if i = n ∧ n < ls.length then v else av_gl ls i := by
  intro ls
  induction ls with
  | nil => intro n i v; simp [av_st, av_gl]
  | cons q l ih =>
    intro n i v
    cases n with
    | zero =>
      cases i with
      | zero => simp [av_st, av_gl]
      | succ i => simp [av_st, av_gl]
    | succ n =>
      cases i with
      | zero => simp [av_st, av_gl]
      | succ i =>
        show av_gl (av_st l n v) i = _
        rw [ih n i v]
        simp [av_gl]
theorem av_st_len : ∀ (ls : List Value) (n : Nat) (v : Value), (av_st ls n v).length = ls.length := by
  intro ls
  induction ls with
  | nil => intro n v; rfl
  | cons q l ih =>
    intro n v
    cases n with
    | zero => rfl
    | succ n => simp [av_st, ih n v]
theorem av_kp_len (ls : List Value) (n : Nat) : (av_kp ls n).length = ls.length := by
  unfold av_kp
  split
  · rfl
  · split
    · exact av_st_len _ _ _
    · exact av_st_len _ _ _
    · rfl
theorem av_gl_lt : ∀ (l : List Value) (k : Nat), av_gl l k ≠ .null → k < l.length := by
  intro l
  induction l with
  | nil => intro k hk; exact absurd rfl hk
  | cons q l ih =>
    intro k hk
    cases k with
    | zero => simp
    | succ k => simp; exact ih k hk
theorem av_kp_gl {ls : List Value} {n i : Nat} {v : Value} (h : av_gl (av_kp ls n) i = v) (hv : v ≠ .null) (hi : i ≠ n) : av_gl ls i = v ∧ ¬ (i + 1 = n ∧ v.category = 2) := by
  cases n with
  | zero => exact ⟨h, fun q => by omega⟩
  | succ k =>
    unfold av_kp at h
    dsimp only at h
    split at h
    · rename_i x hx
      rw [av_gl_st] at h
      split at h
      · exact absurd h.symm hv
      · rename_i hc
        exact ⟨h, fun q => hc ⟨by omega, av_gl_lt ls k (by rw [hx]; intro z; cases z)⟩⟩
    · rename_i x hx
      rw [av_gl_st] at h
      split at h
      · exact absurd h.symm hv
      · rename_i hc
        exact ⟨h, fun q => hc ⟨by omega, av_gl_lt ls k (by rw [hx]; intro z; cases z)⟩⟩
    · rename_i h1 h2
      refine ⟨h, fun q => ?_⟩
      obtain ⟨q1, q2⟩ := q
      have e : i = k := by omega
      subst e
      cases v with
      | long x => exact h1 x h
      | double x => exact h2 x h
      | int x => exact absurd (show (1 : Nat) = 2 from q2) (by decide)
      | float x => exact absurd (show (1 : Nat) = 2 from q2) (by decide)
      | null => exact absurd (show (1 : Nat) = 2 from q2) (by decide)
      | ref x => exact absurd (show (1 : Nat) = 2 from q2) (by decide)
      | retAddr x => exact absurd (show (1 : Nat) = 2 from q2) (by decide)
theorem av_lv_s1 {ad : Nat → Nat} {ls : List Value} {n : Nat} {v : Value} {l : List (Nat × Value)} (hm : ∀ (i : Nat) (v : Value), av_gl ls i = v → v ≠ .null → (i, av_c ad v) ∈ l) (hn : n < ls.length) :
    ∀ (i : Nat) (w : Value), av_gl (av_s1 ls n v) i = w → w ≠ .null → (i, av_c ad w) ∈ (n, av_c ad v) :: l.filter (fun q => !(q.1 == n) && !(q.1 + 1 == n && q.2.category == 2)) := by
  intro i w hg hw
  unfold av_s1 at hg
  rw [av_gl_st, av_kp_len] at hg
  by_cases e : i = n
  · rw [if_pos ⟨e, hn⟩] at hg
    rw [e, hg]
    exact List.mem_cons_self
  · rw [if_neg (fun q => e q.1)] at hg
    obtain ⟨h1, h2⟩ := av_kp_gl hg hw e
    refine List.mem_cons_of_mem _ (List.mem_filter.mpr ⟨hm i w h1 hw, ?_⟩)
    rw [Bool.and_eq_true, Bool.not_eq_true', Bool.not_eq_true', Bool.and_eq_false_iff]
    refine ⟨by simpa using e, ?_⟩
    by_cases e2 : i + 1 = n
    · refine Or.inr ?_
      show ((av_c ad w).category == 2) = false
      rw [av_c_cat]
      simpa using fun q => h2 ⟨e2, q⟩
    · exact Or.inl (by simpa using e2)
theorem av_lv_s2 {ad : Nat → Nat} {ls : List Value} {n : Nat} {v : Value} {l : List (Nat × Value)} (hm : ∀ (i : Nat) (v : Value), av_gl ls i = v → v ≠ .null → (i, av_c ad v) ∈ l) (hn : n + 1 < ls.length) :
    ∀ (i : Nat) (w : Value), av_gl (av_s2 ls n v) i = w → w ≠ .null → (i, av_c ad w) ∈ (n, av_c ad v) :: l.filter (fun q => !(q.1 == n) && (!(q.1 == n + 1) && !(q.1 + 1 == n && q.2.category == 2))) := by
  intro i w hg hw
  unfold av_s2 at hg
  rw [av_gl_st, av_st_len, av_kp_len] at hg
  by_cases e1 : i = n + 1
  · rw [if_pos ⟨e1, hn⟩] at hg
    exact absurd hg.symm hw
  · rw [if_neg (fun q => e1 q.1), av_gl_st, av_kp_len] at hg
    by_cases e : i = n
    · rw [if_pos ⟨e, by omega⟩] at hg
      rw [e, hg]
      exact List.mem_cons_self
    · rw [if_neg (fun q => e q.1)] at hg
      obtain ⟨h1, h2⟩ := av_kp_gl hg hw e
      refine List.mem_cons_of_mem _ (List.mem_filter.mpr ⟨hm i w h1 hw, ?_⟩)
      rw [Bool.and_eq_true, Bool.and_eq_true, Bool.not_eq_true', Bool.not_eq_true', Bool.not_eq_true', Bool.and_eq_false_iff]
      refine ⟨by simpa using e, by simpa using e1, ?_⟩
      by_cases e2 : i + 1 = n
      · refine Or.inr ?_
        show ((av_c ad w).category == 2) = false
        rw [av_c_cat]
        simpa using fun q => h2 ⟨e2, q⟩
      · exact Or.inl (by simpa using e2)
theorem av_s1_len (ls : List Value) (n : Nat) (v : Value) : (av_s1 ls n v).length = ls.length := by unfold av_s1; rw [av_st_len, av_kp_len]
theorem av_s2_len (ls : List Value) (n : Nat) (v : Value) : (av_s2 ls n v).length = ls.length := by unfold av_s2; rw [av_st_len, av_st_len, av_kp_len]
/-! the entry's locals -/
theorem av_lv_in {ad : Nat → Nat} : ∀ (as : List Value) (k i : Nat) (v : Value), av_gl (av_in as) i = v → v ≠ .null → (k + i, av_c ad v) ∈ lv_args k (as.map (av_c ad)) := by
  intro as
  induction as with
  | nil => intro k i v h hv; exact absurd h.symm hv
  | cons a l ih =>
    intro k i v h hv
    have two : ∀ x : Value, (∀ i v, av_gl (.null :: av_in l) i = v → v ≠ .null → (k + 1 + i, av_c ad v) ∈ lv_args (k + 2) (l.map (av_c ad))) := by
      intro x i v h hv
      cases i with
      | zero => exact absurd h.symm hv
      | succ i => rw [show k + 1 + (i + 1) = k + 2 + i by omega]; exact ih (k + 2) i v h hv
    have fin : ∀ (m : Nat) (r : List Value), (∀ i v, av_gl r i = v → v ≠ .null → (k + 1 + i, av_c ad v) ∈ lv_args m (l.map (av_c ad))) → av_gl (a :: r) i = v → (k + i, av_c ad v) ∈ (k, av_c ad a) :: lv_args m (l.map (av_c ad)) := by
      intro m r hr hg
      cases i with
      | zero => rw [show v = a from hg.symm]; exact List.mem_cons_self
      | succ i => exact List.mem_cons_of_mem _ (by rw [show k + (i + 1) = k + 1 + i by omega]; exact hr i v hg hv)
    have one : ∀ i v, av_gl (av_in l) i = v → v ≠ .null → (k + 1 + i, av_c ad v) ∈ lv_args (k + 1) (l.map (av_c ad)) := fun i v h hv => ih (k + 1) i v h hv
    cases a with
    | long x => exact fin (k + 2) (.null :: av_in l) (two .null) h
    | double x => exact fin (k + 2) (.null :: av_in l) (two .null) h
    | int x => exact fin (k + 1) (av_in l) one h
    | float x => exact fin (k + 1) (av_in l) one h
    | null => exact fin (k + 1) (av_in l) one h
    | ref x => exact fin (k + 1) (av_in l) one h
    | retAddr x => exact fin (k + 1) (av_in l) one h
theorem av_pad_gl : ∀ (n : Nat) (l : List Value) (i : Nat) (v : Value), av_gl (av_pad n l) i = v → v ≠ .null → av_gl l i = v := by
  intro n
  induction n with
  | zero => intro l i v h hv; exact absurd h.symm hv
  | succ n ih =>
    intro l i v h hv
    cases l with
    | nil =>
      cases i with
      | zero => exact absurd h.symm hv
      | succ i => exact ih [] i v h hv
    | cons a l =>
      cases i with
      | zero => exact h
      | succ i => exact ih l i v h hv
theorem av_pad_len : ∀ (n : Nat) (l : List Value), (av_pad n l).length = n := by
  intro n
  induction n with
  | zero => intro l; rfl
  | succ n ih =>
    intro l
    cases l with
    | nil => simp [av_pad, ih]
    | cons a l => simp [av_pad, ih]
end
section
/-! SOUNDNESS, 2: the world around, calls -/
def av_ss (w : Nat) : String := (["pgby", "ksrpvcn", "<>=", "+-", "*/", "ndsprm"] : List String).getD w ""
def av_Sx (ad : Nat → Nat) (A : Nat → Prop) (U : State) (H : Heap) : Prop := ∃ adV : Nat → Nat, vk_S 6 [4, 7, 3, 2, 2, 6] av_txt (fun i => ad (92 + i)) adV A U H ∧ ∀ w, w < 6 → vk_R RX7 (av_sx.getD w 0) (av_ss w) (ad (92 + w)) U
def av_Cx (ad : Nat → Nat) (D : va_G) (cI cJ cZ : ClassId) (A : Nat → Prop) (scr : Nat → Int32) (L : Nat) (U : State) (H : Heap) : Prop :=
  va_K D vwCl [(cI, .int), (cJ, .long), (cZ, .boolean)] U ∧ (∀ w ∈ av_nst, va_Nw w U) ∧ (va_X (ad 90) L scr U H ∧ ad 90 < H.size ∧ ¬ A (ad 90) ∧ L < 2147483648) ∧ av_Sx ad A U H
theorem av_nst_warm {w : Cond} (hw : w ∈ av_nst) {s U : State} (hW : s.WarmedH U.vm) (h : va_Nw w s) : va_Nw w U := by
  have h1 := (List.mem_filter.mp hw).2
  cases w <;> first | exact va_Nw.warmF hW h | exact va_Nw.warmM hW h | (exfalso; revert h1; simp [av_nest]; done)
theorem av_nst_same {w : Cond} (hw : w ∈ av_nst) {u U : State} (hv : u.vm = U.vm) (h : va_Nw w u) : va_Nw w U := by
  have h1 := (List.mem_filter.mp hw).2
  cases w <;> first | exact va_Nw.same rfl hv h | (exfalso; revert h1; simp [av_nest]; done)
theorem av_nst_use {w : Cond} (hw : w ∈ av_nst) {U : State} {A : Array Value} (h : va_Nw w U) : w.before A U = true := by
  have h1 := (List.mem_filter.mp hw).2
  cases w <;> first | exact va_Nw.use rfl h | (exfalso; revert h1; simp [av_nest]; done)
section AVS
variable {ad : Nat → Nat} {D : va_G} {cI cJ cZ : ClassId} {A : Nat → Prop} {scr : Nat → Int32} {L : Nat}
theorem av_Cx_at {s U : State} {H : Heap} {locs : List Loc} (h : av_Cx ad D cI cJ cZ A scr L s s.heap) (hS : va_S A s.heap H locs) (hW : s.WarmedH U.vm) (hU : U.heap = H) : av_Cx ad D cI cJ cZ A scr L U U.heap := by
  obtain ⟨h1, h2, ⟨h3, h4, h5, h6⟩, adV, h7, h8⟩ := h
  subst hU
  refine ⟨va_K.moved hW.alike h1, fun w hw => av_nst_warm hw hW (h2 w hw), ⟨va_X.moved hW.alike (h3.kept (hS.2.1 _ h4 h5)), Nat.lt_of_lt_of_le h4 hS.1, h5, h6⟩, adV, vk_S.moved hW.alike (h7.kept hS.2.1), fun w hw => (h8 w hw).warm hW⟩
theorem av_Cx_calling {U : State} {g : JFrame} {mk : MethodId} {a : Array Value} (h : av_Cx ad D cI cJ cZ A scr L U U.heap) : av_Cx ad D cI cJ cZ A scr L (U.calling g mk a) (U.calling g mk a).heap := by
  obtain ⟨h1, h2, ⟨h3, h4, h5, h6⟩, adV, h7, h8⟩ := h
  exact ⟨va_K.moved (u := U) (U := U.calling g mk a) (Vm.Alike.refl U.vm) h1, fun w hw => av_nst_same hw (u := U) (U := U.calling g mk a) rfl (h2 w hw), ⟨va_X.moved (u := U) (U := U.calling g mk a) (Vm.Alike.refl U.vm) h3, h4, h5, h6⟩, adV, vk_S.moved (u := U) (U := U.calling g mk a) (Vm.Alike.refl U.vm) h7, fun w hw => vk_R.same (u := U) (U := U.calling g mk a) rfl (h8 w hw)⟩
variable (ad D cI cJ cZ A scr L)
def av_Pc (as : List Value) (h : av_M) : Array Value → State → Prop := fun v U => v = (as.map (av_c ad)).toArray ∧ va_P D vwCl (av_ws ad cI cJ cZ h) U.heap ∧ av_Cx ad D cI cJ cZ A scr L U U.heap ∧ h 90 = scr ∧ h 91 0 = nI L
def av_rv (ret : Option FieldType) (r : av_R) : Option Value := match ret with
  | none => none
  | some .long => some (.long r.2.1)
  | some _ => some (.int r.1)
def av_Qc (ret : Option FieldType) (r : av_R) : Array Value → State → Outcome → State → Prop := fun _ st o t => o = .returned (av_rv ret r) ∧ va_P D vwCl (av_ws ad cI cJ cZ r.2.2) t.heap ∧ va_F A st t ∧ r.2.2 90 = scr ∧ r.2.2 91 0 = nI L
def av_rm (d : Nat) : Room := { frames := d, cells := 0, slots := 0, locals := 40 * d }
def av_mws (k : Nat) : List Cond := Cond.code (av_mn k).2.1 (av_mn k).2.2.1 (av_mn k).2.2.2.1 (av_mn k).2.2.2.2.1 :: av_tbl
def av_Me (l : Launch) (d k : Nat) (as : List Value) (h : av_M) (r : av_R) : Prop :=
  Met l (av_mn k).2.1 (av_mws k) (av_rm d) (av_Pc ad D cI cJ cZ A scr L as h) (av_Qc ad D cI cJ cZ A scr L (av_mn k).2.2.2.2.1 r) 0 0 A
variable {ad D cI cJ cZ A scr L}
theorem av_Pc_blind (as : List Value) (h : av_M) : FrameBlind (av_Pc ad D cI cJ cZ A scr L as h) := fun a U g mk q => ⟨q.1, q.2.1, av_Cx_calling q.2.2.1, q.2.2.2⟩
theorem av_mn_mem {k : Nat} (hk : k < 277) : av_mn k ∈ av_mt := by
  have h1 : av_mt.length = 278 := by decide +kernel
  unfold av_mn
  rw [List.getD_eq_getElem?_getD, List.getElem?_eq_getElem (by omega)]
  exact List.getElem_mem _
theorem av_mem_of {α : Type} {l : List α} {f : α → Bool} (h : l.all f = true) {w : Nat} {e : α} (he : l[w]? = some e) : f e = true := List.all_eq_true.mp h e (List.mem_of_getElem? he)
section AVC
variable {p : Program} {l : Launch} {e : Env} {R : Room} {s : State} {m : MethodId} {args : Array Value} {below : List Frame} {meth : Method} {c : Code} {H : Heap} {locs : List Loc} {cells slots : Nat} {Q : State → Prop}
theorem av_call {pc : Nat} {lv : Array Slot} {st0 rest : List Value} {ret : Option FieldType} {r : av_R} {a : Array Value} (hr : va_Run p l e R s m args below meth c H locs cells slots 0 0 (F0 m pc lv st0) rest (av_Qc ad D cI cJ cZ A scr L ret r a) A) (hS : va_S A s.heap H locs)
    (kk : ∀ (H1 : Heap) (locs1 : List Loc), va_P D vwCl (av_ws ad cI cJ cZ r.2.2) H1 → va_S A s.heap H1 locs1 → r.2.2 90 = scr → r.2.2 91 0 = nI L → W p l e R s m args below meth c H1 locs1 cells slots Q (F0 m (pc + 3) lv ((av_rv ret r).toList ++ rest))) : W p l e R s m args below meth c H locs cells slots Q (F0 m pc lv st0) := by
  intro T hT X
  obtain ⟨v, st₀, t, T', Ls, h0, X', hL, e1, e2, ⟨hv, hp, ⟨hz, hk⟩, hs1, hs2⟩, st⟩ := hr T hT X
  cases hv
  rw [h0] at hz hk
  obtain ⟨t2, a1, b1⟩ := kk T'.heap (locs ++ Ls) (by rw [e1]; exact hp)
    ⟨Nat.le_trans hS.1 (by rw [e1]; exact hz), fun q h1 h2 => by rw [e1, hk q (Nat.lt_of_lt_of_le h1 hS.1) h2]; exact hS.2.1 q h1 h2, fun q hq => by
      rcases List.mem_append.mp hq with h | h
      · exact hS.2.2 q h
      · exact hL q h⟩ hs1 hs2 T' rfl X'
  exact ⟨t2, st t2 a1, b1⟩
/-- what a row of the table of calls says -/
theorem av_ct_spec (hM : ∀ e ∈ av_mt, av_gd e) {w own idx k n z o : Nat} {nest st : Bool} {pl : Nat} (h : av_ct[w]? = some (own, idx, nest, k, pl, st, n, z, o)) {args : Array Value} {s : State} (hts : ∀ w ∈ av_tbl, w.before args s = true) (hns : ∀ w ∈ av_nst, va_Nw w s) {d : Nat} {R : Room} (hRf : d + 1 ≤ R.frames) (hRl : 40 * (d + 1) ≤ R.locals) :
    (match nest with
    | true => va_CN R s args (av_cn own) idx (av_mn k).2.1 RX6 (av_mn k).2.2.1 (av_mn k).2.2.2.1 (av_mn k).2.2.2.2.1 (av_mws k) (av_rm d) 0 0 n
    | false => CallB R s args (av_cn own) idx (av_mn k).2.1 (av_mn k).2.2.1 (av_mn k).2.2.2.1 (av_mn k).2.2.2.2.1 (av_mws k) (av_rm d) 0 0 n) ∧ (match st with
    | true => (Cond.static (av_mn k).2.1).before args s = true
    | false => (Cond.instanceMethod (av_mn k).2.1).before args s = true ∧ (Cond.selects (av_cn o) (av_mn k).2.1 (av_mn k).2.1).before args s = true) ∧ av_rk (av_mn k).2.2.2.2.1 z = true := by
  have h1 := av_mem_of av_ct_ok h
  unfold av_cchk at h1
  dsimp only at h1
  generalize hmk : av_mn k = E at h1 ⊢
  obtain ⟨c, y, cc, nL, ret, n', st', p1, p2, p3, p4, T⟩ := E
  dsimp only at h1 ⊢
  simp only [Bool.and_eq_true, beq_iff_eq] at h1
  obtain ⟨⟨⟨⟨⟨g1, g2⟩, g3⟩, g4⟩, g5⟩, g6⟩ := h1
  have g4 := Nat.eq_of_beq_eq_true g4
  have g5 := Nat.eq_of_beq_eq_true g5
  subst g3 g4 g5
  have hk : k < 277 := by simpa using g2
  have hg := hM _ (av_mn_mem hk)
  rw [hmk] at hg
  obtain ⟨q1, q2, q3, q4⟩ := hg
  have hc10 : c ≠ 10 := by
    have : ∀ k, k < 277 → (av_mn k).1 ≠ 10 := by decide +kernel
    have h9 := this k hk
    rw [hmk] at h9
    exact h9
  obtain ⟨q4, q5, q6, q7, q8, q9, q10, q11⟩ := q4.resolve_left hc10
  have hnL : nL ≤ 12 := by simpa using q3
  have hmws : av_mws k = Cond.code y cc nL ret :: av_tbl := by unfold av_mws; rw [hmk]
  have hcode := hts _ q4
  have hroom : 8 + (nL + 11) + (av_rm d).locals ≤ R.locals := by
    show 8 + (nL + 11) + 40 * d ≤ R.locals
    omega
  have hpay : ∀ w ∈ av_mws k, ∀ (a' : Array Value) (U : State), s.WarmedH U.vm → w.before a' U = true := by
    intro w hw a' U hW
    rw [hmws] at hw
    rcases List.mem_cons.mp hw with rfl | hw
    · exact word_at hW (good_of_word (List.mem_filter.mp q4).2) hcode
    · exact word_at hW (good_of_word (List.mem_filter.mp hw).2) (hts w hw)
  have hmem : Cond.code y cc nL ret ∈ av_mws k := by rw [hmws]; exact List.mem_cons_self
  have hpar : ∀ sig, parseMethodDescriptor y.desc = some sig → n = sig.parameters.length := by
    intro sig hs
    rw [hs] at q11
    exact (Option.some.inj q11).symm
  refine ⟨?_, ?_, g6⟩
  · cases nest with
    | false => exact ⟨rfl, rfl, hRf, hroom, hpay, hmem, hcode, hts _ q6, ⟨q9, q10⟩, hpar, hts _ (av_word_of g1)⟩
    | true => exact ⟨⟨rfl, rfl, hRf, hroom, hpay, hmem⟩, hcode, hts _ q6, ⟨q9, q10⟩, hpar, va_Nw.use rfl (hns _ (av_wordN_of g1))⟩
  · cases st with
    | true => exact hts _ q5
    | false => exact ⟨hts _ q5.1, hts _ q5.2⟩
end AVC
end AVS
end
section
/-! SOUNDNESS, 3: an instruction -/
theorem av_w_max : Cond.static Lib.Math.max.name ∈ av_tbl ∧ Cond.code Lib.Math.max.name Lib.Math.max.code 2 (some .int) ∈ av_tbl ∧ Cond.initialized "java/lang/Math" ∈ av_tbl := ⟨av_tbl_t (p := 375) (by decide +kernel) (by decide +kernel), av_tbl_t (p := 376) (by decide +kernel) (by decide +kernel), av_tbl_t (p := 9) (by decide +kernel) (by decide +kernel)⟩
theorem av_w_min : Cond.static Lib.Math.min.name ∈ av_tbl ∧ Cond.code Lib.Math.min.name Lib.Math.min.code 2 (some .int) ∈ av_tbl ∧ Cond.initialized "java/lang/Math" ∈ av_tbl := ⟨av_tbl_t (p := 275) (by decide +kernel) (by decide +kernel), av_tbl_t (p := 276) (by decide +kernel) (by decide +kernel), av_tbl_t (p := 9) (by decide +kernel) (by decide +kernel)⟩
theorem av_w_abs : Cond.static Lib.Math.abs.name ∈ av_tbl ∧ Cond.code Lib.Math.abs.name Lib.Math.abs.code 1 (some .int) ∈ av_tbl ∧ Cond.initialized "java/lang/Math" ∈ av_tbl := ⟨av_tbl_t (p := 484) (by decide +kernel) (by decide +kernel), av_tbl_t (p := 485) (by decide +kernel) (by decide +kernel), av_tbl_t (p := 9) (by decide +kernel) (by decide +kernel)⟩
theorem av_lays : ∀ c, c < 8 → ∀ w ∈ u_ws (av_cn c) (av_Tt c) (av_nf c), w ∈ av_tbl := by
  have key : ∀ {ws : List Cond} {ps : List Nat}, (ws = ps.filterMap (fun i => lw_tbl[i]?) ∧ ws.all goodWord = true) → ∀ w ∈ ws, w ∈ av_tbl := by
    intro ws ps h w hw
    have g := List.all_eq_true.mp h.2 w hw
    rw [h.1] at hw
    obtain ⟨i, -, hi⟩ := List.mem_filterMap.mp hw
    exact av_tbl_of hi g
  intro c hc
  match c, hc with
  | 0, _ => exact key av_lays0
  | 1, _ => exact key av_lays1
  | 2, _ => exact key av_lays2
  | 3, _ => exact key av_lays3
  | 4, _ => exact key av_lays4
  | 5, _ => exact key av_lays5
  | 6, _ => exact key av_lays6
  | 7, _ => exact key av_lays7
theorem av_nms : ∀ c, c < 8 → ∀ a, a < av_nf c → ∀ b, b < av_nf c → a ≠ b → (av_Tt c a).2.1 ≠ (av_Tt c b).2.1 := by
  intro c hc
  match c, hc with
  | 0, _ => exact nmX0
  | 1, _ => exact nmX1
  | 2, _ => exact nmX2
  | 3, _ => exact nmX3
  | 4, _ => exact nmX4
  | 5, _ => exact nmX5
  | 6, _ => exact nmX6
  | 7, _ => exact nmX7
theorem av_tys : ∀ c, c < 8 → ∀ k, k < av_nf c → parseFieldDescriptor (av_Tt c k).2.2.1 = some (av_ty c k) := by
  intro c hc
  match c, hc with
  | 0, _ => exact tyX0_ok
  | 1, _ => exact tyX1_ok
  | 2, _ => exact tyX2_ok
  | 3, _ => exact tyX3_ok
  | 4, _ => exact tyX4_ok
  | 5, _ => exact tyX5_ok
  | 6, _ => exact tyX6_ok
  | 7, _ => exact tyX7_ok
theorem av_cls : ∀ c, c < 8 → vwCl[c]? = some (av_cn c, av_Tt c, av_nf c) := by
  intro c hc
  match c, hc with
  | 0, _ => rfl
  | 1, _ => rfl
  | 2, _ => rfl
  | 3, _ => rfl
  | 4, _ => rfl
  | 5, _ => rfl
  | 6, _ => rfl
  | 7, _ => rfl
theorem av_so_id : ∀ w, w < 6 → av_so w = w := by decide
theorem av_cat_map (ad : Nat → Nat) : ∀ (r : List Value), ((r.map (av_c ad)).map fun v => v.category).sum = av_cat r := by
  intro r
  induction r with
  | nil => rfl
  | cons v r ih =>
    simp only [List.map_cons, List.sum_cons, av_c_cat, ih, av_cat]
theorem av_lv_size {ad : Nat → Nat} {nL : Nat} {lv : Array Slot} {ls : List Value} (h : av_lv ad nL lv ls) : lv.size = nL := by
  obtain ⟨-, l, hl, -⟩ := h
  exact hl.1
theorem av_sw_spec {β : Type} {J : Nat → Option β} {b : β} (x : Int32) (d : Nat) : ∀ (sw : List (Int32 × Nat)), av_sw J x d sw = some b → ∃ t, J t = some b ∧ ((∃ k : Nat, sw[k]? = some (x, t)) ∨ ((∀ (k : Nat) (c : Int32) (t : Nat), sw[k]? = some (c, t) → c ≠ x) ∧ t = d)) := by
  intro sw
  induction sw with
  | nil => intro h; exact ⟨d, h, Or.inr ⟨fun k c t z => by simp at z, rfl⟩⟩
  | cons q r ih =>
    intro h
    obtain ⟨c, t⟩ := q
    unfold av_sw at h
    by_cases hc : x = c
    · rw [if_pos hc] at h
      exact ⟨t, h, Or.inl ⟨0, by rw [hc]; rfl⟩⟩
    · rw [if_neg hc] at h
      obtain ⟨t1, h1, h2⟩ := ih h
      refine ⟨t1, h1, ?_⟩
      rcases h2 with ⟨k, hk⟩ | ⟨hn, ht⟩
      · exact Or.inl ⟨k + 1, hk⟩
      · refine Or.inr ⟨fun k c1 t1 z => ?_, ht⟩
        cases k with
        | zero =>
          have : (c, t) = (c1, t1) := Option.some.inj z
          cases this
          exact fun e => hc e.symm
        | succ k => exact hn k c1 t1 z
theorem av_tsw {pc : Nat} {lo hi : Int} {offs : Array Int} {sw : List (Int32 × Nat)} {a : Int32} {t k : Nat} (g2 : hi = lo + (offs.toList.length : Int) - 1) (g3 : sw.map (fun s => s.1.toInt) = (List.range offs.toList.length).map (fun (k : Nat) => lo + (k : Int)))
    (g4 : sw.map (fun s => (s.2 : Int)) = offs.toList.map (fun f => (pc : Int) + f)) (hk : sw[k]? = some (a, t)) : ∃ off : Int, True ∧ True ∧ ¬ a.toInt < lo ∧ ¬ hi < a.toInt ∧ offs[(a.toInt - lo).toNat]? = some off ∧ (pc : Int) + off = (t : Int) := by
  have e1 : (sw.map (fun s => s.1.toInt))[k]? = some a.toInt := by rw [List.getElem?_map, hk]; rfl
  have e2 : (sw.map (fun s => (s.2 : Int)))[k]? = some (t : Int) := by rw [List.getElem?_map, hk]; rfl
  rw [g3, List.getElem?_map] at e1
  rw [g4, List.getElem?_map] at e2
  cases hr : (List.range offs.toList.length)[k]? with
  | none => rw [hr] at e1; cases e1
  | some j =>
    rw [hr] at e1
    have e3 : lo + (j : Int) = a.toInt := Option.some.inj e1
    obtain ⟨h5, h6⟩ := List.getElem?_eq_some_iff.mp hr
    rw [List.length_range] at h5
    rw [List.getElem_range] at h6
    subst h6
    cases ho : offs.toList[k]? with
    | none => rw [ho] at e2; cases e2
    | some off =>
      rw [ho] at e2
      refine ⟨off, trivial, trivial, by omega, by omega, ?_, Option.some.inj e2⟩
      rw [show (a.toInt - lo).toNat = k by omega, ← Array.getElem?_toList]
      exact ho
theorem av_tsw_out {lo hi : Int} {offs : Array Int} {sw : List (Int32 × Nat)} {a : Int32} (g2 : hi = lo + (offs.toList.length : Int) - 1) (g3 : sw.map (fun s => s.1.toInt) = (List.range offs.toList.length).map (fun (k : Nat) => lo + (k : Int)))
    (hn : ∀ (k : Nat) (c : Int32) (t : Nat), sw[k]? = some (c, t) → c ≠ a) : a.toInt < lo ∨ hi < a.toInt := by
  by_cases h : a.toInt < lo ∨ hi < a.toInt
  · exact h
  · exfalso
    have hlen : sw.length = offs.toList.length := by
      have := congrArg List.length g3
      rw [List.length_map, List.length_map, List.length_range] at this
      exact this
    have hk : (a.toInt - lo).toNat < sw.length := by omega
    have e0 := List.getElem?_eq_getElem hk
    have e1 : (sw.map (fun s => s.1.toInt))[(a.toInt - lo).toNat]? = some (sw[(a.toInt - lo).toNat].1.toInt) := by rw [List.getElem?_map, e0]; rfl
    rw [g3, List.getElem?_map, List.getElem?_range (by omega)] at e1
    have e2 : lo + ((a.toInt - lo).toNat : Int) = sw[(a.toInt - lo).toNat].1.toInt := Option.some.inj e1
    refine hn _ sw[(a.toInt - lo).toNat].1 sw[(a.toInt - lo).toNat].2 e0 (Int32.toInt_inj.mp ?_)
    omega
theorem av_lsw {β : Type} {J : Nat → Option β} {b : β} : ∀ (ps : List (Int × Int)) (sw : List (Int32 × Nat)) (a : Int32) (x : Nat) (dd : Int) (pc : Nat), (pc : Int) + dd = (x : Int) → sw.map (fun s => (s.1.toInt, (s.2 : Int))) = ps.map (fun f => (f.1, (pc : Int) + f.2)) → av_sw J a x sw = some b → ∃ t, J t = some b ∧ (pc : Int) + Op.lookupswitch.offset ps dd a.toInt = (t : Int) := by
  intro ps
  induction ps with
  | nil =>
    intro sw a x dd pc hd hm h
    cases sw with
    | nil => exact ⟨x, h, hd⟩
    | cons q r => simp at hm
  | cons q ps ih =>
    intro sw a x dd pc hd hm h
    cases sw with
    | nil => simp at hm
    | cons q1 r =>
      obtain ⟨k1, o1⟩ := q
      obtain ⟨c1, t1⟩ := q1
      rw [List.map_cons, List.map_cons] at hm
      injection hm with e1 e2
      injection e1 with e3 e4
      unfold av_sw at h
      rw [Op.lookupswitch.offset_cons]
      by_cases hc : a = c1
      · rw [if_pos hc] at h
        rw [if_pos (by rw [hc]; exact e3.symm)]
        exact ⟨t1, h, e4.symm⟩
      · rw [if_neg hc] at h
        rw [if_neg (fun z => hc (Int32.toInt_inj.mp (by rw [← z]; exact e3.symm)))]
        exact ih r a x dd pc hd e2 h
theorem av_en_i {ad : Nat → Nat} {cI cJ cZ : ClassId} {f : Nat → Int32} {a : Nat} (h : av_kd a = 8) : av_en ad cI cJ cZ f (av_nth av_shp a) = .inl (cI, av_sz a, .inl f) := by
  unfold av_en
  rw [show (av_nth av_shp a).1 = 8 from h]
  rfl
theorem av_en_l {ad : Nat → Nat} {cI cJ cZ : ClassId} {f : Nat → Int32} {a : Nat} (h : av_kd a = 9) : av_en ad cI cJ cZ f (av_nth av_shp a) = .inl (cJ, av_sz a, .inr (.inl (fun i => av_jn (f (2 * i)) (f (2 * i + 1))))) := by
  unfold av_en
  rw [show (av_nth av_shp a).1 = 9 from h]
  rfl
theorem av_en_z {ad : Nat → Nat} {cI cJ cZ : ClassId} {f : Nat → Int32} {a : Nat} (h : av_kd a = 10) : av_en ad cI cJ cZ f (av_nth av_shp a) = .inl (cZ, av_sz a, .inl f) := by
  unfold av_en
  rw [show (av_nth av_shp a).1 = 10 from h]
  rfl
theorem av_jn_split (v : Int64) : av_jn (av_hi v) (av_lo v) = v := by
  unfold av_jn av_hi av_lo
  have h : v.toUInt64.toNat < 18446744073709551616 := v.toUInt64.toNat_lt
  have e : ∀ n, (Int32.ofNat n).toUInt32.toNat = n % 4294967296 := fun n => UInt32.toNat_ofNat
  rw [e, e, show v.toUInt64.toNat / 4294967296 % 4294967296 * 4294967296 + v.toUInt64.toNat % 4294967296 % 4294967296 = v.toUInt64.toNat by omega]
  show (⟨UInt64.ofNat v.toUInt64.toNat⟩ : Int64) = v
  rw [UInt64.ofNat_toNat]
theorem av_jn_upd (f : Nat → Int32) (k : Nat) (v : Int64) : (fun i => av_jn (upd (upd f (2 * k) (av_hi v)) (2 * k + 1) (av_lo v) (2 * i)) (upd (upd f (2 * k) (av_hi v)) (2 * k + 1) (av_lo v) (2 * i + 1))) = vp_updL (fun i => av_jn (f (2 * i)) (f (2 * i + 1))) k v := by
  funext i
  unfold upd vp_updL
  by_cases e : i = k
  · subst e
    rw [if_neg (by omega), if_pos rfl, if_pos rfl, if_pos rfl]
    exact av_jn_split v
  · rw [if_neg (by omega), if_neg (by omega), if_neg (by omega), if_neg (by omega), if_neg e]
theorem av_ft_lt {w own idx c k pl : Nat} {nest : Bool} (h : av_ft[w]? = some (own, idx, nest, c, k, pl)) : c < 8 ∧ k < av_nf c ∧ (av_Tt c k).1 = av_cn c := by
  have h1 := av_mem_of av_ft_ok h
  unfold av_fchk at h1
  simp only [Bool.and_eq_true, decide_eq_true_eq] at h1
  obtain ⟨⟨⟨-, g2⟩, g3⟩, g4⟩ := h1
  exact ⟨Nat.blt_eq.mp g3, Nat.blt_eq.mp g2, g4⟩
theorem av_pop_spec : ∀ (n : Nat) (acc st as r : List Value), av_pop n acc st = (as, r) → acc.reverse ++ st = as.reverse ++ r := by
  intro n
  induction n with
  | zero => intro acc st as r h; cases h; rfl
  | succ n ih =>
    intro acc st as r h
    cases st with
    | nil => cases h; rfl
    | cons v st =>
      have := ih (v :: acc) st as r h
      rw [← this]
      simp
theorem av_push_map {ad : Nat → Nat} {ret : Option FieldType} {z : Nat} (h : av_rk ret z = true) (r1 : av_R) (r : List Value) : (av_push z r1 r).map (av_c ad) = (av_rv ret r1).toList ++ r.map (av_c ad) := by
  unfold av_rk at h
  split at h
  · rw [of_decide_eq_true h]; rfl
  · rw [Bool.or_eq_true] at h
    rcases h with h | h <;> rw [of_decide_eq_true h] <;> rfl
  · rw [of_decide_eq_true h]; rfl
  · cases h
theorem av_ct_lt {w own idx k n z o pl : Nat} {nest st : Bool} (h : av_ct[w]? = some (own, idx, nest, k, pl, st, n, z, o)) : k < 277 := by
  have h1 := av_mem_of av_ct_ok h
  unfold av_cchk at h1
  dsimp only at h1
  simp only [Bool.and_eq_true] at h1
  exact Nat.blt_eq.mp h1.1.1.1.1.2
theorem av_inb_of {j : Int32} {n : Nat} (h : av_inb j n = true) : ¬ (j < 0 ∨ n ≤ j.toNatClampNeg) := by
  unfold av_inb at h
  simpa using h
theorem av_ins_of {j n : Int32} (h : av_ins j n = true) : ¬ (j < 0 ∨ n ≤ j) := by
  unfold av_ins at h
  simpa using h
theorem av_nz_of {j : Int32} (h : av_nz j = true) : ¬ j = 0 := by
  unfold av_nz at h
  simpa using h
theorem av_nzl_of {j : Int64} (h : av_nzl j = true) : ¬ j = 0 := by
  unfold av_nzl at h
  simpa using h
section AVT
variable {p : Program} {l : Launch} {e : Env} {R : Room} {s : State} {m : MethodId} {args : Array Value} {below : List Frame} {meth : Method} {c : Code} {H : Heap} {locs : List Loc} {cells slots : Nat} {Q : State → Prop}
variable {cc : ByteArray} {pc : Nat} {lv : Array Slot} {rest : List Value}
variable {ad : Nat → Nat} {D : va_G} {cI cJ cZ : ClassId} {A : Nat → Prop} {scr : Nat → Int32} {L : Nat}
theorem av_ldcSW (hexec : p.tables.exec = Jvm.exec) (hb : c.code = cc) {own tx : String} {index q : Nat} (hown : s.vm.findClass own = some m.cls) (hZ : vk_R own index tx q s) (hdg : decode cc pc = .ok (.ldc_w index, 3))
    (k : W p l e R s m args below meth c H locs cells slots Q (F0 m (pc + 3) lv (.ref q :: rest))) : W p l e R s m args below meth c H locs cells slots Q (F0 m pc lv rest) := by
  intro T hT X
  obtain ⟨t, a1, b1⟩ := k T hT X
  exact ⟨t, X.ldcStringW hexec hown (text := tx) (a := q) hZ.1 hZ.2 (g := F0 m pc lv rest) rfl (by rw [hb]; exact hdg) t a1, b1⟩
theorem av_getf (hx : p.tables.exec = Jvm.exec) (hb : c.code = cc) {own idx ci k pl w a : Nat} {nest : Bool} (hown : s.vm.findClass (av_cn own) = some m.cls) (hts : ∀ w ∈ av_tbl, w.before args s = true) (hCx : av_Cx ad D cI cJ cZ A scr L s s.heap) {h : av_M} (hP : va_P D vwCl (av_ws ad cI cJ cZ h) H)
    (hw : av_ft[w]? = some (own, idx, nest, ci, k, pl)) (hk : av_kd a = ci) (hdg : decode cc pc = .ok (.getfield idx, 3))
    (kk : W p l e R s m args below meth c H locs cells slots Q (F0 m (pc + 3) lv (av_fe ad (h a k) (av_rf a k) :: rest))) : W p l e R s m args below meth c H locs cells slots Q (F0 m pc lv (.ref (ad a) :: rest)) := by
  obtain ⟨f1, f2, f3⟩ := av_ft_lt hw
  have hkN := av_kd_lt (a := a) (by omega)
  have hent : (av_ws ad cI cJ cZ h)[a]? = some (ad a, .inr (ci, av_fv ad (h a) (av_nth av_shp a).2.2 0)) := by
    rw [av_ws_get hkN, av_en_obj (by show av_kd a < 8; omega)]
    show some (ad a, Sum.inr (av_kd a, _)) = _
    rw [hk]
  have hlen := av_shp_len a hkN (by omega)
  have hget : (av_fv ad (h a) (av_nth av_shp a).2.2 0)[k]? = some (av_fe ad (h a k) (av_rf a k)) := by
    rw [av_fv_get ad (h a) _ 0 k (by rw [hlen, hk]; exact f2), Nat.zero_add]
    rfl
  have h1 := av_mem_of av_ft_ok hw
  unfold av_fchk at h1
  simp only [Bool.and_eq_true] at h1
  have hwd := h1.1.1.1
  cases nest with
  | false => exact va_get hx hb hts (av_lays ci f1) hown hCx.1 hP a hent (av_cls ci f1) k f2 (hts _ (av_word_of hwd)) (fun x hxx => by rw [f3] at hxx; exact hxx) hget hdg kk
  | true => exact va_getN hx hb hts (av_lays ci f1) hown hCx.1 hP a hent (av_cls ci f1) k f2 (va_Nw.use rfl (hCx.2.1 _ (av_wordN_of hwd))) (fun x hxx => by rw [f3] at hxx; exact hxx) hget hdg kk
theorem av_putf (hx : p.tables.exec = Jvm.exec) (hb : c.code = cc) {own idx ci k pl w a : Nat} {nest : Bool} (hown : s.vm.findClass (av_cn own) = some m.cls) (hts : ∀ w ∈ av_tbl, w.before args s = true) (hCx : av_Cx ad D cI cJ cZ A scr L s s.heap) {h : av_M} (hP : va_P D vwCl (av_ws ad cI cJ cZ h) H) (hD : va_D A (av_ws ad cI cJ cZ h)) (hS : va_S A s.heap H locs)
    (hw : av_ft[w]? = some (own, idx, nest, ci, k, pl)) (hk : av_kd a = ci) (hfin : (av_Tt ci k).2.2.2 = false) (hrf : av_rf a k = 0) (hdg : decode cc pc = .ok (.putfield idx, 3)) {ty : FieldType} {v : Int32} (hty : av_ty ci k = ty) (hn : narrow ty (.int v) = .int v) (hfit : fits ty (.int v) = true)
    (kk : ∀ (H1 : Heap) (locs1 : List Loc), va_P D vwCl (av_ws ad cI cJ cZ (av_u h a k v)) H1 → va_S A s.heap H1 locs1 → W p l e R s m args below meth c H1 locs1 cells slots Q (F0 m (pc + 3) lv rest)) : W p l e R s m args below meth c H locs cells slots Q (F0 m pc lv (.int v :: .ref (ad a) :: rest)) := by
  obtain ⟨f1, f2, f3⟩ := av_ft_lt hw
  have hkN := av_kd_lt (a := a) (by omega)
  have hent : ∀ h : av_M, (av_ws ad cI cJ cZ h)[a]? = some (ad a, .inr (ci, av_fv ad (h a) (av_nth av_shp a).2.2 0)) := by
    intro h
    rw [av_ws_get hkN, av_en_obj (by show av_kd a < 8; omega)]
    show some (ad a, Sum.inr (av_kd a, _)) = _
    rw [hk]
  have hlen := av_shp_len a hkN (by omega)
  have hset : (av_ws ad cI cJ cZ h).set a (ad a, .inr (ci, (av_fv ad (h a) (av_nth av_shp a).2.2 0).set k (.int v))) = av_ws ad cI cJ cZ (av_u h a k v) := by
    rw [av_fv_set ad (h a) v _ 0 k hrf (by rw [hlen, hk]; exact f2), Nat.zero_add, ← av_ws_set (h := h) (h' := av_u h a k v) hkN (fun b hb => av_u_ne hb), av_u_eq, av_en_obj (by show av_kd a < 8; omega)]
    show _ = (av_ws ad cI cJ cZ h).set a (ad a, Sum.inr (av_kd a, _))
    rw [hk]
  have h1 := av_mem_of av_ft_ok hw
  unfold av_fchk at h1
  simp only [Bool.and_eq_true] at h1
  have hwd := h1.1.1.1
  have hd : parseFieldDescriptor (av_Tt ci k).2.2.1 = some ty := by rw [av_tys ci f1 k f2, hty]
  have hl9 : k < (av_fv ad (h a) (av_nth av_shp a).2.2 0).length := by rw [av_fv_len, hlen, hk]; exact f2
  cases nest with
  | false => exact va_put hx hb hts (av_lays ci f1) (av_ty ci) (av_tys ci f1) (av_nms ci f1) hown hCx.1 hP hD hS a (hent h) (av_cls ci f1) k f2 (hts _ (av_word_of hwd)) (fun x hxx => by rw [f3] at hxx; exact hxx) hfin hd hn hfit hl9 hdg (fun H1 locs1 hP1 hD1 hS1 => kk H1 locs1 (by rw [← hset]; exact hP1) hS1)
  | true => exact va_putN hx hb hts (av_lays ci f1) (av_ty ci) (av_tys ci f1) (av_nms ci f1) hown hCx.1 hP hD hS a (hent h) (av_cls ci f1) k f2 (va_Nw.use rfl (hCx.2.1 _ (av_wordN_of hwd))) (fun x hxx => by rw [f3] at hxx; exact hxx) hfin hd hn hfit hl9 hdg (fun H1 locs1 hP1 hD1 hS1 => kk H1 locs1 (by rw [← hset]; exact hP1) hS1)
theorem av_scr (hx : p.tables.exec = Jvm.exec) (hb : c.code = cc) (hCx : av_Cx ad D cI cJ cZ A scr L s s.heap) {h : av_M} (hS : va_S A s.heap H locs) (h1 : h 90 = scr) (h2 : h 91 0 = nI L) {j : Int32} (hin : ¬ (j < 0 ∨ h (90 + 1) 0 ≤ j)) (hdg : decode cc pc = .ok (.iaload, 1))
    (kk : W p l e R s m args below meth c H locs cells slots Q (F0 m (pc + 1) lv (.int (h 90 j.toNatClampNeg) :: rest))) : W p l e R s m args below meth c H locs cells slots Q (F0 m pc lv (.int j :: .ref (ad 90) :: rest)) := by
  obtain ⟨-, -, ⟨x1, x2, x3, x4⟩, -⟩ := hCx
  rw [h1] at kk
  refine va_sld hx hb x1 x2 x3 hS ?_ hdg kk
  rw [show h (90 + 1) 0 = nI L from h2] at hin
  obtain ⟨n, hn, rfl⟩ := nI_of (fun q => hin (Or.inl q))
  refine vp_in_nI ?_ x4
  have h5 : ¬ nI L ≤ nI n := fun q => hin (Or.inr q)
  rw [nI_leI x4 hn] at h5
  omega
theorem av_strlen (hx : p.tables.exec = Jvm.exec) (hb : c.code = cc) {nL : Nat} (hml : c.maxLocals = nL) {own idx d : Nat} (hown : s.vm.findClass (av_cn own) = some m.cls) (hts : ∀ w ∈ av_tbl, w.before args s = true) (hCx : av_Cx ad D cI cJ cZ A scr L s s.heap) (hS : va_S A s.heap H locs)
    (hRf : d + 1 ≤ R.frames) (hRl0 : 40 * (d + 1) ≤ R.locals) (hc : cells ≤ R.cells) (hs : slots ≤ R.slots) (hsz : lv.size = nL) {a : Nat} (hk : av_kd a = 12) {r : List Value} (hcat : av_cat r ≤ 8) (hlink : (Cond.methodLink (av_cn own) idx (av_py 13)).before args s = true) (hdg : decode cc pc = .ok (.invokevirtual idx, 3))
    (kk : W p l e R s m args below meth c H locs cells slots Q (F0 m (pc + 3) lv (.int (nI (av_txl a)) :: r.map (av_c ad)))) : W p l e R s m args below meth c H locs cells slots Q (F0 m pc lv (.ref (ad a) :: r.map (av_c ad))) := by
  sorry
theorem av_strchr (hx : p.tables.exec = Jvm.exec) (hb : c.code = cc) {nL : Nat} (hml : c.maxLocals = nL) {own idx d : Nat} (hown : s.vm.findClass (av_cn own) = some m.cls) (hts : ∀ w ∈ av_tbl, w.before args s = true) (hCx : av_Cx ad D cI cJ cZ A scr L s s.heap) (hS : va_S A s.heap H locs)
    (hRf : d + 1 ≤ R.frames) (hRl0 : 40 * (d + 1) ≤ R.locals) (hc : cells ≤ R.cells) (hs : slots ≤ R.slots) (hsz : lv.size = nL) {a : Nat} (hk : av_kd a = 12) {j : Int32} (hin : ¬ (j < 0 ∨ av_txl a ≤ j.toNatClampNeg)) {r : List Value} (hcat : av_cat r ≤ 8) (hlink : (Cond.methodLink (av_cn own) idx (av_py 14)).before args s = true) (hdg : decode cc pc = .ok (.invokevirtual idx, 3))
    (kk : W p l e R s m args below meth c H locs cells slots Q (F0 m (pc + 3) lv (.int (av_txc a j.toNatClampNeg) :: r.map (av_c ad)))) : W p l e R s m args below meth c H locs cells slots Q (F0 m pc lv (.int j :: .ref (ad a) :: r.map (av_c ad))) := by
  sorry
def av_WA (p : Program) (l : Launch) (e : Env) (R : Room) (s : State) (m : MethodId) (args : Array Value) (below : List Frame) (meth : Method) (c : Code) (cells slots : Nat) (Q : State → Prop) (ad : Nat → Nat) (D : va_G) (cI cJ cZ : ClassId) (A : Nat → Prop) (scr : Nat → Int32) (L nL : Nat) (pc : Nat) (ls st : List Value) (h : av_M) : Prop :=
  ∀ (H : Heap) (locs : List Loc) (lv : Array Slot), va_P D vwCl (av_ws ad cI cJ cZ h) H → va_S A s.heap H locs → av_lv ad nL lv ls → h 90 = scr → h 91 0 = nI L → W p l e R s m args below meth c H locs cells slots Q (F0 m pc lv (st.map (av_c ad)))
set_option maxHeartbeats 40000000 in
set_option maxRecDepth 4000 in
theorem av_sound {β : Type} {E : Nat → List Value → av_M → Option av_R} {rt : av_R → Option β} {N : List Value → List Value → av_M → Option β} {J : Nat → List Value → List Value → av_M → Option β} {q : av_I} {ls st : List Value} {h : av_M} {b : β} {own nL d : Nat} {ret : Option FieldType}
    (hM : ∀ e ∈ av_mt, av_gd e) (hx : p.tables.exec = Jvm.exec) (hb : c.code = cc) (hml : c.maxLocals = nL) (hown : s.vm.findClass (av_cn own) = some m.cls) (hts : ∀ w ∈ av_tbl, w.before args s = true) (hCx : av_Cx ad D cI cJ cZ A scr L s s.heap) (hD : ∀ h : av_M, va_D A (av_ws ad cI cJ cZ h))
    (hRf : d + 1 ≤ R.frames) (hRl0 : 40 * (d + 1) ≤ R.locals) (hc : cells ≤ R.cells) (hs : slots ≤ R.slots)
    (hE : ∀ (k : Nat) (as : List Value) (h : av_M) (r : av_R), k < 277 → E k as h = some r → av_Me ad D cI cJ cZ A scr L l d k as h r)
    (hq : av_chk own cc ret q = true) (h0 : av_stp E rt N J q ls st h = some b)
    (hN : ∀ ls st h, N ls st h = some b → av_WA p l e R s m args below meth c cells slots Q ad D cI cJ cZ A scr L nL (q.1 + q.2.1) ls st h)
    (hJ : ∀ pc ls st h, J pc ls st h = some b → av_WA p l e R s m args below meth c cells slots Q ad D cI cJ cZ A scr L nL pc ls st h)
    (hRi : ∀ (a v : Int32) (h : av_M) (pc : Nat) (lv : Array Slot) (H : Heap) (locs : List Loc) (ty : FieldType), rt (a, 0, h) = some b → decode cc pc = .ok (.ireturn, 1) → ret = some ty → narrow ty (.int v) = .int a → va_P D vwCl (av_ws ad cI cJ cZ h) H → va_S A s.heap H locs → h 90 = scr → h 91 0 = nI L → W p l e R s m args below meth c H locs cells slots Q (F0 m pc lv [.int v]))
    (hRl : ∀ (v : Int64) (h : av_M) (pc : Nat) (lv : Array Slot) (H : Heap) (locs : List Loc), rt (0, v, h) = some b → decode cc pc = .ok (.lreturn, 1) → ret = some .long → va_P D vwCl (av_ws ad cI cJ cZ h) H → va_S A s.heap H locs → h 90 = scr → h 91 0 = nI L → W p l e R s m args below meth c H locs cells slots Q (F0 m pc lv [.long v]))
    (hRv : ∀ (h : av_M) (pc : Nat) (lv : Array Slot) (H : Heap) (locs : List Loc), rt (0, 0, h) = some b → decode cc pc = .ok (.return_, 1) → ret = none → va_P D vwCl (av_ws ad cI cJ cZ h) H → va_S A s.heap H locs → h 90 = scr → h 91 0 = nI L → W p l e R s m args below meth c H locs cells slots Q (F0 m pc lv [])) :
    av_WA p l e R s m args below meth c cells slots Q ad D cI cJ cZ A scr L nL q.1 ls st h := by
  intro H locs lv hP hS hl h1 h2
  obtain ⟨pc, len, i, x, y, z, w, o, v, u, sw⟩ := q
  dsimp only at hN ⊢
  cases i

  case iload n =>
    simp only [av_chk, Bool.and_eq_true, decide_eq_true_eq] at hq
    obtain ⟨hdec, hi⟩ := hq
    dsimp only [av_stp] at h0
    have hlen : len = 2 := Nat.eq_of_beq_eq_true hi
    subst hlen
    split at h0
    · rename_i a hg
      exact lv_iload hx hb hdec (av_lv_get hl hg (fun z => by cases z)) (hN _ _ _ h0 H locs lv hP hS hl h1 h2)
    · cases h0
  case iload_n n =>
    simp only [av_chk, Bool.and_eq_true, decide_eq_true_eq] at hq
    obtain ⟨hdec, hi⟩ := hq
    dsimp only [av_stp] at h0
    have hlen : len = 1 := Nat.eq_of_beq_eq_true hi
    subst hlen
    split at h0
    · rename_i a hg
      exact lv_iload_n hx hb hdec rfl (av_lv_get hl hg (fun z => by cases z)) (hN _ _ _ h0 H locs lv hP hS hl h1 h2)
    · cases h0
  case lload n =>
    simp only [av_chk, Bool.and_eq_true, decide_eq_true_eq] at hq
    obtain ⟨hdec, hi⟩ := hq
    dsimp only [av_stp] at h0
    have hlen : len = 2 := Nat.eq_of_beq_eq_true hi
    subst hlen
    split at h0
    · rename_i a hg
      exact lv_lload hx hb hdec (av_lv_get hl hg (fun z => by cases z)) (hN _ _ _ h0 H locs lv hP hS hl h1 h2)
    · cases h0
  case lload_n n =>
    simp only [av_chk, Bool.and_eq_true, decide_eq_true_eq] at hq
    obtain ⟨hdec, hi⟩ := hq
    dsimp only [av_stp] at h0
    have hlen : len = 1 := Nat.eq_of_beq_eq_true hi
    subst hlen
    split at h0
    · rename_i a hg
      exact lv_lload_n hx hb hdec rfl (av_lv_get hl hg (fun z => by cases z)) (hN _ _ _ h0 H locs lv hP hS hl h1 h2)
    · cases h0
  case aload n =>
    simp only [av_chk, Bool.and_eq_true, decide_eq_true_eq] at hq
    obtain ⟨hdec, hi⟩ := hq
    dsimp only [av_stp] at h0
    have hlen : len = 2 := Nat.eq_of_beq_eq_true hi
    subst hlen
    split at h0
    · rename_i a hg
      exact lv_aload hx hb hdec (av_lv_get hl hg (fun z => by cases z)) (hN _ _ _ h0 H locs lv hP hS hl h1 h2)
    · cases h0
  case aload_n n =>
    simp only [av_chk, Bool.and_eq_true, decide_eq_true_eq] at hq
    obtain ⟨hdec, hi⟩ := hq
    dsimp only [av_stp] at h0
    have hlen : len = 1 := Nat.eq_of_beq_eq_true hi
    subst hlen
    split at h0
    · rename_i a hg
      exact lv_aload_n hx hb hdec rfl (av_lv_get hl hg (fun z => by cases z)) (hN _ _ _ h0 H locs lv hP hS hl h1 h2)
    · cases h0
  case istore n =>
    simp only [av_chk, Bool.and_eq_true, decide_eq_true_eq] at hq
    obtain ⟨hdec, hi⟩ := hq
    dsimp only [av_stp] at h0
    have hlen : len = 2 := Nat.eq_of_beq_eq_true hi
    subst hlen
    split at h0
    · split at h0
      · rename_i hlt
        obtain ⟨hle, lst, hl1, hl2⟩ := hl
        have hlt := Nat.blt_eq.mp hlt
        rw [av_fo_eq] at h0
        refine lv_istore hx hb hdec hl1 (by omega) rfl (fun lv1 hv1 => hN _ _ _ h0 H locs lv1 hP hS ⟨by rw [av_s1_len]; exact hle, _, hv1, av_lv_s1 hl2 hlt⟩ h1 h2)
      · cases h0
    · cases h0
  case istore_n n =>
    simp only [av_chk, Bool.and_eq_true, decide_eq_true_eq] at hq
    obtain ⟨hdec, hi⟩ := hq
    dsimp only [av_stp] at h0
    have hlen : len = 1 := Nat.eq_of_beq_eq_true hi
    subst hlen
    split at h0
    · split at h0
      · rename_i hlt
        obtain ⟨hle, lst, hl1, hl2⟩ := hl
        have hlt := Nat.blt_eq.mp hlt
        rw [av_fo_eq] at h0
        refine lv_istore_n hx hb hdec rfl hl1 (by omega) rfl (fun lv1 hv1 => hN _ _ _ h0 H locs lv1 hP hS ⟨by rw [av_s1_len]; exact hle, _, hv1, av_lv_s1 hl2 hlt⟩ h1 h2)
      · cases h0
    · cases h0
  case lstore n =>
    simp only [av_chk, Bool.and_eq_true, decide_eq_true_eq] at hq
    obtain ⟨hdec, hi⟩ := hq
    dsimp only [av_stp] at h0
    have hlen : len = 2 := Nat.eq_of_beq_eq_true hi
    subst hlen
    split at h0
    · split at h0
      · rename_i hlt
        obtain ⟨hle, lst, hl1, hl2⟩ := hl
        have hlt := Nat.blt_eq.mp hlt
        rw [av_fo_eq] at h0
        refine lv_lstore hx hb hdec hl1 (by omega) rfl (fun lv1 hv1 => hN _ _ _ h0 H locs lv1 hP hS ⟨by rw [av_s2_len]; exact hle, _, hv1, av_lv_s2 hl2 hlt⟩ h1 h2)
      · cases h0
    · cases h0
  case lstore_n n =>
    simp only [av_chk, Bool.and_eq_true, decide_eq_true_eq] at hq
    obtain ⟨hdec, hi⟩ := hq
    dsimp only [av_stp] at h0
    have hlen : len = 1 := Nat.eq_of_beq_eq_true hi
    subst hlen
    split at h0
    · split at h0
      · rename_i hlt
        obtain ⟨hle, lst, hl1, hl2⟩ := hl
        have hlt := Nat.blt_eq.mp hlt
        rw [av_fo_eq] at h0
        refine lv_lstore_n hx hb hdec rfl hl1 (by omega) rfl (fun lv1 hv1 => hN _ _ _ h0 H locs lv1 hP hS ⟨by rw [av_s2_len]; exact hle, _, hv1, av_lv_s2 hl2 hlt⟩ h1 h2)
      · cases h0
    · cases h0
  case iinc n cst =>
    simp only [av_chk, Bool.and_eq_true, decide_eq_true_eq] at hq
    obtain ⟨hdec, hi⟩ := hq
    dsimp only [av_stp] at h0
    obtain ⟨hi, hv⟩ := hi
    have hlen : len = 3 := Nat.eq_of_beq_eq_true hi
    subst hlen
    split at h0
    · rename_i a hg
      split at h0
      · rename_i hlt
        obtain ⟨hle, lst, hl1, hl2⟩ := hl
        have hlt := Nat.blt_eq.mp hlt
        rw [av_fo_eq] at h0
        obtain ⟨k, hk⟩ := List.getElem?_of_mem (hl2 n _ hg (fun z => by cases z))
        refine lv_iinc hx hb hdec hl1 hk (by rw [hv]) (by omega) rfl (fun lv1 hv1 => hN _ _ _ h0 H locs lv1 hP hS ⟨by rw [av_s1_len]; exact hle, _, hv1, av_lv_s1 hl2 hlt⟩ h1 h2)
      · cases h0
    · cases h0
  case iconst k =>
    simp only [av_chk, Bool.and_eq_true, decide_eq_true_eq] at hq
    obtain ⟨hdec, hi⟩ := hq
    dsimp only [av_stp] at h0
    obtain ⟨hi, hv⟩ := hi
    have hlen : len = 1 := Nat.eq_of_beq_eq_true hi
    subst hlen
    exact lv_iconst hx hb hdec hv (hN _ _ _ h0 H locs lv hP hS hl h1 h2)
  case bipush k =>
    simp only [av_chk, Bool.and_eq_true, decide_eq_true_eq] at hq
    obtain ⟨hdec, hi⟩ := hq
    dsimp only [av_stp] at h0
    obtain ⟨hi, hv⟩ := hi
    have hlen : len = 2 := Nat.eq_of_beq_eq_true hi
    subst hlen
    exact lv_bipush hx hb hdec hv (hN _ _ _ h0 H locs lv hP hS hl h1 h2)
  case sipush k =>
    simp only [av_chk, Bool.and_eq_true, decide_eq_true_eq] at hq
    obtain ⟨hdec, hi⟩ := hq
    dsimp only [av_stp] at h0
    obtain ⟨hi, hv⟩ := hi
    have hlen : len = 3 := Nat.eq_of_beq_eq_true hi
    subst hlen
    exact lv_sipush hx hb hdec hv (hN _ _ _ h0 H locs lv hP hS hl h1 h2)
  case lconst k =>
    simp only [av_chk, Bool.and_eq_true, decide_eq_true_eq] at hq
    obtain ⟨hdec, hi⟩ := hq
    dsimp only [av_stp] at h0
    obtain ⟨hi, hv⟩ := hi
    have hlen : len = 1 := Nat.eq_of_beq_eq_true hi
    subst hlen
    exact lv_lconst hx hb hdec hv (hN _ _ _ h0 H locs lv hP hS hl h1 h2)
  case ldc idx =>
    simp only [av_chk, Bool.and_eq_true, decide_eq_true_eq] at hq
    obtain ⟨hdec, hi⟩ := hq
    dsimp only [av_stp] at h0
    obtain ⟨hi, hv⟩ := hi
    have hlen : len = 2 := Nat.eq_of_beq_eq_true hi
    subst hlen
    split at h0
    · split at hv
      · split at hv
        · rename_i hw
          simp only [Bool.and_eq_true, decide_eq_true_eq] at hv
          obtain ⟨⟨g1, g2⟩, rfl⟩ := hv
          have g1 := Nat.eq_of_beq_eq_true g1
          have g2 := Nat.eq_of_beq_eq_true g2
          subst g1 g2
          exact lv_ldc hx hb hown (hts _ (av_word_of (av_mem_of av_kt_ok hw))) hdec (hN _ _ _ h0 H locs lv hP hS hl h1 h2)
        · cases hv
      · rename_i hz; exact absurd rfl hz
    · rename_i hz
      split at hv
      · exact absurd rfl hz
      · simp only [Bool.and_eq_true, decide_eq_true_eq] at hv
        obtain ⟨⟨⟨g1, g2⟩, g3⟩, g4⟩ := hv
        have g1 := Nat.eq_of_beq_eq_true g1
        have g4 := Nat.eq_of_beq_eq_true g4
        have g2 := Nat.blt_eq.mp g2
        subst g1
        have hS2 := hCx.2.2.2
        obtain ⟨adV, -, hR⟩ := hS2
        have hR := hR w g2
        rw [show av_sx.getD w 0 = idx by rw [List.getD_eq_getElem?_getD, g3]; rfl] at hR
        rw [show 92 + w = x by rw [g4]; congr 1; exact (av_so_id w g2).symm] at hR
        exact va_ldcS hx hb hown hR hdec (hN _ _ _ h0 H locs lv hP hS hl h1 h2)
  case ldc_w idx =>
    simp only [av_chk, Bool.and_eq_true, decide_eq_true_eq] at hq
    obtain ⟨hdec, hi⟩ := hq
    dsimp only [av_stp] at h0
    obtain ⟨hi, hv⟩ := hi
    have hlen : len = 3 := Nat.eq_of_beq_eq_true hi
    subst hlen
    split at h0
    · split at hv
      · split at hv
        · rename_i hw
          simp only [Bool.and_eq_true, decide_eq_true_eq] at hv
          obtain ⟨⟨g1, g2⟩, rfl⟩ := hv
          have g1 := Nat.eq_of_beq_eq_true g1
          have g2 := Nat.eq_of_beq_eq_true g2
          subst g1 g2
          exact lv_ldcw hx hb hown (hts _ (av_word_of (av_mem_of av_kt_ok hw))) hdec (hN _ _ _ h0 H locs lv hP hS hl h1 h2)
        · cases hv
      · rename_i hz; exact absurd rfl hz
    · rename_i hz
      split at hv
      · exact absurd rfl hz
      · simp only [Bool.and_eq_true, decide_eq_true_eq] at hv
        obtain ⟨⟨⟨g1, g2⟩, g3⟩, g4⟩ := hv
        have g1 := Nat.eq_of_beq_eq_true g1
        have g4 := Nat.eq_of_beq_eq_true g4
        have g2 := Nat.blt_eq.mp g2
        subst g1
        have hS2 := hCx.2.2.2
        obtain ⟨adV, -, hR⟩ := hS2
        have hR := hR w g2
        rw [show av_sx.getD w 0 = idx by rw [List.getD_eq_getElem?_getD, g3]; rfl] at hR
        rw [show 92 + w = x by rw [g4]; congr 1; exact (av_so_id w g2).symm] at hR
        exact av_ldcSW hx hb hown hR hdec (hN _ _ _ h0 H locs lv hP hS hl h1 h2)
  case ldc2_w idx =>
    simp only [av_chk, Bool.and_eq_true, decide_eq_true_eq] at hq
    obtain ⟨hdec, hi⟩ := hq
    dsimp only [av_stp] at h0
    obtain ⟨hi, hv⟩ := hi
    have hlen : len = 3 := Nat.eq_of_beq_eq_true hi
    subst hlen
    split at hv
    · rename_i hw
      simp only [Bool.and_eq_true, decide_eq_true_eq] at hv
      obtain ⟨⟨g1, g2⟩, rfl⟩ := hv
      have g1 := Nat.eq_of_beq_eq_true g1
      have g2 := Nat.eq_of_beq_eq_true g2
      subst g1 g2
      exact lv_ldc2 hx hb hown (hts _ (av_word_of (av_mem_of av_lt_ok hw))) hdec (hN _ _ _ h0 H locs lv hP hS hl h1 h2)
    · cases hv
  case iadd =>
    simp only [av_chk, Bool.and_eq_true, decide_eq_true_eq] at hq
    obtain ⟨hdec, hi⟩ := hq
    dsimp only [av_stp] at h0
    have hlen : len = 1 := Nat.eq_of_beq_eq_true hi
    subst hlen
    split at h0
    · exact lv_iadd hx hb hdec (hN _ _ _ h0 H locs lv hP hS hl h1 h2)
    · cases h0
  case isub =>
    simp only [av_chk, Bool.and_eq_true, decide_eq_true_eq] at hq
    obtain ⟨hdec, hi⟩ := hq
    dsimp only [av_stp] at h0
    have hlen : len = 1 := Nat.eq_of_beq_eq_true hi
    subst hlen
    split at h0
    · exact lv_isub hx hb hdec (hN _ _ _ h0 H locs lv hP hS hl h1 h2)
    · cases h0
  case imul =>
    simp only [av_chk, Bool.and_eq_true, decide_eq_true_eq] at hq
    obtain ⟨hdec, hi⟩ := hq
    dsimp only [av_stp] at h0
    have hlen : len = 1 := Nat.eq_of_beq_eq_true hi
    subst hlen
    split at h0
    · exact lv_imul hx hb hdec (hN _ _ _ h0 H locs lv hP hS hl h1 h2)
    · cases h0
  case iand =>
    simp only [av_chk, Bool.and_eq_true, decide_eq_true_eq] at hq
    obtain ⟨hdec, hi⟩ := hq
    dsimp only [av_stp] at h0
    have hlen : len = 1 := Nat.eq_of_beq_eq_true hi
    subst hlen
    split at h0
    · exact lv_iand hx hb hdec (hN _ _ _ h0 H locs lv hP hS hl h1 h2)
    · cases h0
  case ior =>
    simp only [av_chk, Bool.and_eq_true, decide_eq_true_eq] at hq
    obtain ⟨hdec, hi⟩ := hq
    dsimp only [av_stp] at h0
    have hlen : len = 1 := Nat.eq_of_beq_eq_true hi
    subst hlen
    split at h0
    · exact lv_ior hx hb hdec (hN _ _ _ h0 H locs lv hP hS hl h1 h2)
    · cases h0
  case ixor =>
    simp only [av_chk, Bool.and_eq_true, decide_eq_true_eq] at hq
    obtain ⟨hdec, hi⟩ := hq
    dsimp only [av_stp] at h0
    have hlen : len = 1 := Nat.eq_of_beq_eq_true hi
    subst hlen
    split at h0
    · exact lv_ixor hx hb hdec (hN _ _ _ h0 H locs lv hP hS hl h1 h2)
    · cases h0
  case ishl =>
    simp only [av_chk, Bool.and_eq_true, decide_eq_true_eq] at hq
    obtain ⟨hdec, hi⟩ := hq
    dsimp only [av_stp] at h0
    have hlen : len = 1 := Nat.eq_of_beq_eq_true hi
    subst hlen
    split at h0
    · exact lv_ishl hx hb hdec (hN _ _ _ h0 H locs lv hP hS hl h1 h2)
    · cases h0
  case ishr =>
    simp only [av_chk, Bool.and_eq_true, decide_eq_true_eq] at hq
    obtain ⟨hdec, hi⟩ := hq
    dsimp only [av_stp] at h0
    have hlen : len = 1 := Nat.eq_of_beq_eq_true hi
    subst hlen
    split at h0
    · exact lv_ishr hx hb hdec (hN _ _ _ h0 H locs lv hP hS hl h1 h2)
    · cases h0
  case ladd =>
    simp only [av_chk, Bool.and_eq_true, decide_eq_true_eq] at hq
    obtain ⟨hdec, hi⟩ := hq
    dsimp only [av_stp] at h0
    have hlen : len = 1 := Nat.eq_of_beq_eq_true hi
    subst hlen
    split at h0
    · exact lv_ladd hx hb hdec (hN _ _ _ h0 H locs lv hP hS hl h1 h2)
    · cases h0
  case lsub =>
    simp only [av_chk, Bool.and_eq_true, decide_eq_true_eq] at hq
    obtain ⟨hdec, hi⟩ := hq
    dsimp only [av_stp] at h0
    have hlen : len = 1 := Nat.eq_of_beq_eq_true hi
    subst hlen
    split at h0
    · exact lv_lsub hx hb hdec (hN _ _ _ h0 H locs lv hP hS hl h1 h2)
    · cases h0
  case lmul =>
    simp only [av_chk, Bool.and_eq_true, decide_eq_true_eq] at hq
    obtain ⟨hdec, hi⟩ := hq
    dsimp only [av_stp] at h0
    have hlen : len = 1 := Nat.eq_of_beq_eq_true hi
    subst hlen
    split at h0
    · exact lv_lmul hx hb hdec (hN _ _ _ h0 H locs lv hP hS hl h1 h2)
    · cases h0
  case land =>
    simp only [av_chk, Bool.and_eq_true, decide_eq_true_eq] at hq
    obtain ⟨hdec, hi⟩ := hq
    dsimp only [av_stp] at h0
    have hlen : len = 1 := Nat.eq_of_beq_eq_true hi
    subst hlen
    split at h0
    · exact lv_land hx hb hdec (hN _ _ _ h0 H locs lv hP hS hl h1 h2)
    · cases h0
  case lor =>
    simp only [av_chk, Bool.and_eq_true, decide_eq_true_eq] at hq
    obtain ⟨hdec, hi⟩ := hq
    dsimp only [av_stp] at h0
    have hlen : len = 1 := Nat.eq_of_beq_eq_true hi
    subst hlen
    split at h0
    · exact lv_lor hx hb hdec (hN _ _ _ h0 H locs lv hP hS hl h1 h2)
    · cases h0
  case iushr =>
    simp only [av_chk, Bool.and_eq_true, decide_eq_true_eq] at hq
    obtain ⟨hdec, hi⟩ := hq
    dsimp only [av_stp] at h0
    have hlen : len = 1 := Nat.eq_of_beq_eq_true hi
    subst hlen
    split at h0
    · exact lv_iushr hx hb hdec rfl (hN _ _ _ h0 H locs lv hP hS hl h1 h2)
    · cases h0
  case lshl =>
    simp only [av_chk, Bool.and_eq_true, decide_eq_true_eq] at hq
    obtain ⟨hdec, hi⟩ := hq
    dsimp only [av_stp] at h0
    have hlen : len = 1 := Nat.eq_of_beq_eq_true hi
    subst hlen
    split at h0
    · exact lv_lshl hx hb hdec rfl (hN _ _ _ h0 H locs lv hP hS hl h1 h2)
    · cases h0
  case lushr =>
    simp only [av_chk, Bool.and_eq_true, decide_eq_true_eq] at hq
    obtain ⟨hdec, hi⟩ := hq
    dsimp only [av_stp] at h0
    have hlen : len = 1 := Nat.eq_of_beq_eq_true hi
    subst hlen
    split at h0
    · exact lv_lushr hx hb hdec rfl (hN _ _ _ h0 H locs lv hP hS hl h1 h2)
    · cases h0
  case i2l =>
    simp only [av_chk, Bool.and_eq_true, decide_eq_true_eq] at hq
    obtain ⟨hdec, hi⟩ := hq
    dsimp only [av_stp] at h0
    have hlen : len = 1 := Nat.eq_of_beq_eq_true hi
    subst hlen
    split at h0
    · exact lv_i2l hx hb hdec rfl (hN _ _ _ h0 H locs lv hP hS hl h1 h2)
    · cases h0
  case l2i =>
    simp only [av_chk, Bool.and_eq_true, decide_eq_true_eq] at hq
    obtain ⟨hdec, hi⟩ := hq
    dsimp only [av_stp] at h0
    have hlen : len = 1 := Nat.eq_of_beq_eq_true hi
    subst hlen
    split at h0
    · exact lv_l2i hx hb hdec rfl (hN _ _ _ h0 H locs lv hP hS hl h1 h2)
    · cases h0
  case i2b =>
    simp only [av_chk, Bool.and_eq_true, decide_eq_true_eq] at hq
    obtain ⟨hdec, hi⟩ := hq
    dsimp only [av_stp] at h0
    have hlen : len = 1 := Nat.eq_of_beq_eq_true hi
    subst hlen
    split at h0
    · exact lv_i2b hx hb hdec rfl (hN _ _ _ h0 H locs lv hP hS hl h1 h2)
    · cases h0
  case i2s =>
    simp only [av_chk, Bool.and_eq_true, decide_eq_true_eq] at hq
    obtain ⟨hdec, hi⟩ := hq
    dsimp only [av_stp] at h0
    have hlen : len = 1 := Nat.eq_of_beq_eq_true hi
    subst hlen
    split at h0
    · exact lv_i2s hx hb hdec rfl (hN _ _ _ h0 H locs lv hP hS hl h1 h2)
    · cases h0
  case ineg =>
    simp only [av_chk, Bool.and_eq_true, decide_eq_true_eq] at hq
    obtain ⟨hdec, hi⟩ := hq
    dsimp only [av_stp] at h0
    have hlen : len = 1 := Nat.eq_of_beq_eq_true hi
    subst hlen
    split at h0
    · exact lv_ineg hx hb hdec (hN _ _ _ h0 H locs lv hP hS hl h1 h2)
    · cases h0
  case lcmp =>
    simp only [av_chk, Bool.and_eq_true, decide_eq_true_eq] at hq
    obtain ⟨hdec, hi⟩ := hq
    dsimp only [av_stp] at h0
    have hlen : len = 1 := Nat.eq_of_beq_eq_true hi
    subst hlen
    split at h0
    · exact W.lcmp hx hb hdec (hN _ _ _ h0 H locs lv hP hS hl h1 h2)
    · cases h0
  case idiv =>
    simp only [av_chk, Bool.and_eq_true, decide_eq_true_eq] at hq
    obtain ⟨hdec, hi⟩ := hq
    dsimp only [av_stp] at h0
    have hlen : len = 1 := Nat.eq_of_beq_eq_true hi
    subst hlen
    split at h0
    · rename_i bb aa r
      cases hz : av_nz bb with
      | false => rw [hz] at h0; cases h0
      | true =>
        rw [hz] at h0
        exact lv_idiv hx hb hdec (av_nz_of hz) (hN _ _ _ h0 H locs lv hP hS hl h1 h2)
    · cases h0
  case irem =>
    simp only [av_chk, Bool.and_eq_true, decide_eq_true_eq] at hq
    obtain ⟨hdec, hi⟩ := hq
    dsimp only [av_stp] at h0
    have hlen : len = 1 := Nat.eq_of_beq_eq_true hi
    subst hlen
    split at h0
    · rename_i bb aa r
      cases hz : av_nz bb with
      | false => rw [hz] at h0; cases h0
      | true =>
        rw [hz] at h0
        exact lv_irem hx hb hdec (av_nz_of hz) (hN _ _ _ h0 H locs lv hP hS hl h1 h2)
    · cases h0
  case ldiv =>
    simp only [av_chk, Bool.and_eq_true, decide_eq_true_eq] at hq
    obtain ⟨hdec, hi⟩ := hq
    dsimp only [av_stp] at h0
    have hlen : len = 1 := Nat.eq_of_beq_eq_true hi
    subst hlen
    split at h0
    · rename_i bb aa r
      cases hz : av_nzl bb with
      | false => rw [hz] at h0; cases h0
      | true =>
        rw [hz] at h0
        exact lv_ldiv hx hb hdec (av_nzl_of hz) (hN _ _ _ h0 H locs lv hP hS hl h1 h2)
    · cases h0
  case lrem =>
    simp only [av_chk, Bool.and_eq_true, decide_eq_true_eq] at hq
    obtain ⟨hdec, hi⟩ := hq
    dsimp only [av_stp] at h0
    have hlen : len = 1 := Nat.eq_of_beq_eq_true hi
    subst hlen
    split at h0
    · rename_i bb aa r
      cases hz : av_nzl bb with
      | false => rw [hz] at h0; cases h0
      | true =>
        rw [hz] at h0
        exact lv_lrem hx hb hdec (av_nzl_of hz) (hN _ _ _ h0 H locs lv hP hS hl h1 h2)
    · cases h0
  case dup =>
    simp only [av_chk, Bool.and_eq_true, decide_eq_true_eq] at hq
    obtain ⟨hdec, hi⟩ := hq
    dsimp only [av_stp] at h0
    have hlen : len = 1 := Nat.eq_of_beq_eq_true hi
    subst hlen
    split at h0
    · split at h0
      · rename_i hc
        exact lv_dup hx hb hdec (by rw [av_c_cat]; exact Nat.eq_of_beq_eq_true hc) (hN _ _ _ h0 H locs lv hP hS hl h1 h2)
      · cases h0
    · cases h0
  case pop =>
    simp only [av_chk, Bool.and_eq_true, decide_eq_true_eq] at hq
    obtain ⟨hdec, hi⟩ := hq
    dsimp only [av_stp] at h0
    have hlen : len = 1 := Nat.eq_of_beq_eq_true hi
    subst hlen
    split at h0
    · split at h0
      · rename_i hc
        exact lv_pop hx hb hdec (by rw [av_c_cat]; exact Nat.eq_of_beq_eq_true hc) (hN _ _ _ h0 H locs lv hP hS hl h1 h2)
      · cases h0
    · cases h0
  case dup2 =>
    simp only [av_chk, Bool.and_eq_true, decide_eq_true_eq] at hq
    obtain ⟨hdec, hi⟩ := hq
    dsimp only [av_stp] at h0
    have hlen : len = 1 := Nat.eq_of_beq_eq_true hi
    subst hlen
    split at h0
    · rename_i va vb r
      split at h0
      · rename_i hc
        have hc := Nat.eq_of_beq_eq_true hc
        have c1 := lv_cat va
        have c2 := lv_cat vb
        exact lv_dup2_11 hx hb hdec (by rw [av_c_cat]; omega) (by rw [av_c_cat]; omega) (hN _ _ _ h0 H locs lv hP hS hl h1 h2)
      · cases h0
    · cases h0
  case ifCond cond off =>
    cases cond
    case eq =>
      simp only [av_chk, Bool.and_eq_true, decide_eq_true_eq] at hq
      obtain ⟨hdec, hi, hv⟩ := hq
      dsimp only [av_stp] at h0
      have hlen : len = 3 := Nat.eq_of_beq_eq_true hi
      subst hlen
      split at h0
      · exact lv_if_eq hx hb hdec hv (fun hc => (hJ _ _ _ _ (by first | (rw [if_pos hc] at h0; exact h0) | (rw [if_neg hc] at h0; exact h0)) H locs lv hP hS hl h1 h2)) (fun hc => (hN _ _ _ (by first | (rw [if_pos hc] at h0; exact h0) | (rw [if_neg hc] at h0; exact h0)) H locs lv hP hS hl h1 h2))
      · cases h0
    case ne =>
      simp only [av_chk, Bool.and_eq_true, decide_eq_true_eq] at hq
      obtain ⟨hdec, hi, hv⟩ := hq
      dsimp only [av_stp] at h0
      have hlen : len = 3 := Nat.eq_of_beq_eq_true hi
      subst hlen
      split at h0
      · exact lv_if_ne hx hb hdec hv (fun hc => (hJ _ _ _ _ (by first | (rw [if_pos hc] at h0; exact h0) | (rw [if_neg hc] at h0; exact h0)) H locs lv hP hS hl h1 h2)) (fun hc => (hN _ _ _ (by first | (rw [if_pos hc] at h0; exact h0) | (rw [if_neg hc] at h0; exact h0)) H locs lv hP hS hl h1 h2))
      · cases h0
    case lt =>
      simp only [av_chk, Bool.and_eq_true, decide_eq_true_eq] at hq
      obtain ⟨hdec, hi, hv⟩ := hq
      dsimp only [av_stp] at h0
      have hlen : len = 3 := Nat.eq_of_beq_eq_true hi
      subst hlen
      split at h0
      · exact lv_if_lt hx hb hdec hv (fun hc => (hJ _ _ _ _ (by first | (rw [if_pos hc] at h0; exact h0) | (rw [if_neg hc] at h0; exact h0)) H locs lv hP hS hl h1 h2)) (fun hc => (hN _ _ _ (by first | (rw [if_pos hc] at h0; exact h0) | (rw [if_neg hc] at h0; exact h0)) H locs lv hP hS hl h1 h2))
      · cases h0
    case ge =>
      simp only [av_chk, Bool.and_eq_true, decide_eq_true_eq] at hq
      obtain ⟨hdec, hi, hv⟩ := hq
      dsimp only [av_stp] at h0
      have hlen : len = 3 := Nat.eq_of_beq_eq_true hi
      subst hlen
      split at h0
      · exact lv_if_ge hx hb hdec hv (fun hc => (hJ _ _ _ _ (by first | (rw [if_pos hc] at h0; exact h0) | (rw [if_neg hc] at h0; exact h0)) H locs lv hP hS hl h1 h2)) (fun hc => (hN _ _ _ (by first | (rw [if_pos hc] at h0; exact h0) | (rw [if_neg hc] at h0; exact h0)) H locs lv hP hS hl h1 h2))
      · cases h0
    case gt =>
      simp only [av_chk, Bool.and_eq_true, decide_eq_true_eq] at hq
      obtain ⟨hdec, hi, hv⟩ := hq
      dsimp only [av_stp] at h0
      have hlen : len = 3 := Nat.eq_of_beq_eq_true hi
      subst hlen
      split at h0
      · exact lv_if_gt hx hb hdec hv (fun hc => (hJ _ _ _ _ (by first | (rw [if_pos hc] at h0; exact h0) | (rw [if_neg hc] at h0; exact h0)) H locs lv hP hS hl h1 h2)) (fun hc => (hN _ _ _ (by first | (rw [if_pos hc] at h0; exact h0) | (rw [if_neg hc] at h0; exact h0)) H locs lv hP hS hl h1 h2))
      · cases h0
    case le =>
      simp only [av_chk, Bool.and_eq_true, decide_eq_true_eq] at hq
      obtain ⟨hdec, hi, hv⟩ := hq
      dsimp only [av_stp] at h0
      have hlen : len = 3 := Nat.eq_of_beq_eq_true hi
      subst hlen
      split at h0
      · exact lv_if_le hx hb hdec hv (fun hc => (hJ _ _ _ _ (by first | (rw [if_pos hc] at h0; exact h0) | (rw [if_neg hc] at h0; exact h0)) H locs lv hP hS hl h1 h2)) (fun hc => (hN _ _ _ (by first | (rw [if_pos hc] at h0; exact h0) | (rw [if_neg hc] at h0; exact h0)) H locs lv hP hS hl h1 h2))
      · cases h0
  case if_icmp cond off =>
    cases cond
    case eq =>
      simp only [av_chk, Bool.and_eq_true, decide_eq_true_eq] at hq
      obtain ⟨hdec, hi, hv⟩ := hq
      dsimp only [av_stp] at h0
      have hlen : len = 3 := Nat.eq_of_beq_eq_true hi
      subst hlen
      split at h0
      · exact lv_icmp_eq hx hb hdec hv (fun hc => (hJ _ _ _ _ (by first | (rw [if_pos hc] at h0; exact h0) | (rw [if_neg hc] at h0; exact h0)) H locs lv hP hS hl h1 h2)) (fun hc => (hN _ _ _ (by first | (rw [if_pos hc] at h0; exact h0) | (rw [if_neg hc] at h0; exact h0)) H locs lv hP hS hl h1 h2))
      · cases h0
    case ne =>
      simp only [av_chk, Bool.and_eq_true, decide_eq_true_eq] at hq
      obtain ⟨hdec, hi, hv⟩ := hq
      dsimp only [av_stp] at h0
      have hlen : len = 3 := Nat.eq_of_beq_eq_true hi
      subst hlen
      split at h0
      · exact lv_icmp_ne hx hb hdec hv (fun hc => (hJ _ _ _ _ (by first | (rw [if_pos hc] at h0; exact h0) | (rw [if_neg hc] at h0; exact h0)) H locs lv hP hS hl h1 h2)) (fun hc => (hN _ _ _ (by first | (rw [if_pos hc] at h0; exact h0) | (rw [if_neg hc] at h0; exact h0)) H locs lv hP hS hl h1 h2))
      · cases h0
    case lt =>
      simp only [av_chk, Bool.and_eq_true, decide_eq_true_eq] at hq
      obtain ⟨hdec, hi, hv⟩ := hq
      dsimp only [av_stp] at h0
      have hlen : len = 3 := Nat.eq_of_beq_eq_true hi
      subst hlen
      split at h0
      · exact lv_icmp_lt hx hb hdec hv (fun hc => (hJ _ _ _ _ (by first | (rw [if_pos hc] at h0; exact h0) | (rw [if_neg hc] at h0; exact h0)) H locs lv hP hS hl h1 h2)) (fun hc => (hN _ _ _ (by first | (rw [if_pos hc] at h0; exact h0) | (rw [if_neg hc] at h0; exact h0)) H locs lv hP hS hl h1 h2))
      · cases h0
    case ge =>
      simp only [av_chk, Bool.and_eq_true, decide_eq_true_eq] at hq
      obtain ⟨hdec, hi, hv⟩ := hq
      dsimp only [av_stp] at h0
      have hlen : len = 3 := Nat.eq_of_beq_eq_true hi
      subst hlen
      split at h0
      · exact lv_icmp_ge hx hb hdec hv (fun hc => (hJ _ _ _ _ (by first | (rw [if_pos hc] at h0; exact h0) | (rw [if_neg hc] at h0; exact h0)) H locs lv hP hS hl h1 h2)) (fun hc => (hN _ _ _ (by first | (rw [if_pos hc] at h0; exact h0) | (rw [if_neg hc] at h0; exact h0)) H locs lv hP hS hl h1 h2))
      · cases h0
    case gt =>
      simp only [av_chk, Bool.and_eq_true, decide_eq_true_eq] at hq
      obtain ⟨hdec, hi, hv⟩ := hq
      dsimp only [av_stp] at h0
      have hlen : len = 3 := Nat.eq_of_beq_eq_true hi
      subst hlen
      split at h0
      · exact lv_icmp_gt hx hb hdec hv (fun hc => (hJ _ _ _ _ (by first | (rw [if_pos hc] at h0; exact h0) | (rw [if_neg hc] at h0; exact h0)) H locs lv hP hS hl h1 h2)) (fun hc => (hN _ _ _ (by first | (rw [if_pos hc] at h0; exact h0) | (rw [if_neg hc] at h0; exact h0)) H locs lv hP hS hl h1 h2))
      · cases h0
    case le =>
      simp only [av_chk, Bool.and_eq_true, decide_eq_true_eq] at hq
      obtain ⟨hdec, hi, hv⟩ := hq
      dsimp only [av_stp] at h0
      have hlen : len = 3 := Nat.eq_of_beq_eq_true hi
      subst hlen
      split at h0
      · exact lv_icmp_le hx hb hdec hv (fun hc => (hJ _ _ _ _ (by first | (rw [if_pos hc] at h0; exact h0) | (rw [if_neg hc] at h0; exact h0)) H locs lv hP hS hl h1 h2)) (fun hc => (hN _ _ _ (by first | (rw [if_pos hc] at h0; exact h0) | (rw [if_neg hc] at h0; exact h0)) H locs lv hP hS hl h1 h2))
      · cases h0
  case goto off =>
    simp only [av_chk, Bool.and_eq_true, decide_eq_true_eq] at hq
    obtain ⟨hdec, hi⟩ := hq
    dsimp only [av_stp] at h0
    obtain ⟨hi, hv⟩ := hi
    have hlen : len = 3 := Nat.eq_of_beq_eq_true hi
    subst hlen
    exact lv_goto hx hb hdec hv (hJ _ _ _ _ h0 H locs lv hP hS hl h1 h2)
  case tableswitch dd lo hi1 offs =>
    simp only [av_chk, Bool.and_eq_true, decide_eq_true_eq] at hq
    obtain ⟨hdec, hi⟩ := hq
    dsimp only [av_stp] at h0
    obtain ⟨⟨⟨g1, g2⟩, g3⟩, g4⟩ := hi
    split at h0
    · rename_i a r
      obtain ⟨t, ht, hsw⟩ := av_sw_spec _ _ _ h0
      rcases hsw with ⟨k, hk⟩ | ⟨hn, rfl⟩
      · obtain ⟨off, -, -, o1, o2, o4, o5⟩ := av_tsw g2 g3 g4 hk
        exact lv_tableIn hx hb hdec o1 o2 o4 o5 (hJ _ _ _ _ ht H locs lv hP hS hl h1 h2)
      · exact lv_tableOut hx hb hdec (av_tsw_out g2 g3 hn) g1 (hJ _ _ _ _ ht H locs lv hP hS hl h1 h2)
    · cases h0
  case lookupswitch dd ps =>
    simp only [av_chk, Bool.and_eq_true, decide_eq_true_eq] at hq
    obtain ⟨hdec, hi⟩ := hq
    dsimp only [av_stp] at h0
    obtain ⟨⟨g1, g2⟩, g3⟩ := hi
    split at h0
    · rename_i a r
      obtain ⟨t, ht, hsw⟩ := av_lsw (ps.toList) sw a x dd pc g1 g3 h0
      exact lv_lookup hx hb hdec g2 rfl hsw (hJ _ _ _ _ ht H locs lv hP hS hl h1 h2)
    · cases h0
  case getfield idx =>
    simp only [av_chk, Bool.and_eq_true, decide_eq_true_eq] at hq
    obtain ⟨hdec, hi⟩ := hq
    dsimp only [av_stp] at h0
    obtain ⟨hi, hv⟩ := hi
    have hlen : len = 3 := Nat.eq_of_beq_eq_true hi
    subst hlen
    split at hv
    · rename_i own1 idx1 nest cc1 k1 pl1 hw
      simp only [Bool.and_eq_true] at hv
      obtain ⟨⟨⟨g1, g2⟩, g3⟩, g4⟩ := hv
      have g1 := Nat.eq_of_beq_eq_true g1
      have g2 := Nat.eq_of_beq_eq_true g2
      have g3 := Nat.eq_of_beq_eq_true g3
      have g4 := Nat.eq_of_beq_eq_true g4
      subst g1 g2 g3 g4
      split at h0
      · rename_i a r
        split at h0
        · rename_i hk
          have hk := Nat.eq_of_beq_eq_true hk
          refine av_getf hx hb hown hts hCx hP hw hk hdec ?_
          split at h0
          · rename_i h9; rw [h9]; exact hN _ _ _ h0 H locs lv hP hS hl h1 h2
          · rename_i h9; rw [h9]; exact hN _ _ _ h0 H locs lv hP hS hl h1 h2
        · cases h0
      · cases h0
    · cases hv
  case putfield idx =>
    simp only [av_chk, Bool.and_eq_true, decide_eq_true_eq] at hq
    obtain ⟨hdec, hi⟩ := hq
    dsimp only [av_stp] at h0
    obtain ⟨hi, hv⟩ := hi
    have hlen : len = 3 := Nat.eq_of_beq_eq_true hi
    subst hlen
    split at hv
    · rename_i own1 idx1 nest cc1 k1 pl1 hw
      simp only [Bool.and_eq_true, Bool.not_eq_true'] at hv
      obtain ⟨⟨⟨⟨⟨g1, g2⟩, g3⟩, g4⟩, g5⟩, g6⟩ := hv
      have g1 := Nat.eq_of_beq_eq_true g1
      have g2 := Nat.eq_of_beq_eq_true g2
      have g3 := Nat.eq_of_beq_eq_true g3
      have g4 := Nat.eq_of_beq_eq_true g4
      subst g1 g2 g3 g4
      split at h0
      · rename_i bb a r
        split at h0
        · rename_i hk
          have hk := Nat.eq_of_beq_eq_true hk
          split at h0
          · rename_i hrf
            have hkN := av_kd_lt (a := a) (by have := (av_ft_lt hw).1; omega)
            have h3 : ∀ (v : Int32), av_u h a k1 v 90 = scr := fun v => by rw [av_u_ne (by unfold av_N at hkN; omega)]; exact h1
            have h4 : ∀ (v : Int32), av_u h a k1 v 91 0 = nI L := fun v => by rw [av_u_ne (by unfold av_N at hkN; omega)]; exact h2
            split at h0
            · split at g6
              · refine av_putf hx hb hown hts hCx hP (hD h) hS hw hk g5 hrf hdec (ty := .int) (of_decide_eq_true g6) rfl rfl (fun H1 locs1 hP1 hS1 => hN _ _ _ h0 H1 locs1 lv hP1 hS1 hl (h3 _) (h4 _))
              · rename_i hz; exact absurd rfl hz
            · rename_i hz
              split at g6
              · exact absurd rfl hz
              · cases hb0 : av_01 bb with
                | true =>
                  rw [hb0] at h0
                  have hb01 : bb = 0 ∨ bb = 1 := of_decide_eq_true hb0
                  refine av_putf hx hb hown hts hCx hP (hD h) hS hw hk g5 hrf hdec (ty := .boolean) (of_decide_eq_true g6) (by rcases hb01 with rfl | rfl <;> rfl) (by rcases hb01 with rfl | rfl <;> rfl) (fun H1 locs1 hP1 hS1 => hN _ _ _ h0 H1 locs1 lv hP1 hS1 hl (h3 _) (h4 _))
                | false => rw [hb0] at h0; cases h0
          · cases h0
        · cases h0
      · cases h0
    · cases hv
  case iaload =>
    simp only [av_chk, Bool.and_eq_true, decide_eq_true_eq] at hq
    obtain ⟨hdec, hi⟩ := hq
    dsimp only [av_stp] at h0
    have hlen : len = 1 := Nat.eq_of_beq_eq_true hi
    subst hlen
    split at h0
    · rename_i j a r
      split at h0
      · rename_i hk
        cases hin0 : av_inb j (av_sz a) with
        | false => rw [hin0] at h0; cases h0
        | true =>
          rw [hin0] at h0
          have hin := av_inb_of hin0
          have hkN := av_kd_lt (a := a) (by omega)
          exact va_iald hx hb hCx.1 hP a 0 (by rw [av_ws_get hkN, av_en_i hk]) rfl hin hdec (hN _ _ _ h0 H locs lv hP hS hl h1 h2)
      · rename_i hk
        cases hin0 : av_ins j (h (a + 1) 0) with
        | false => rw [hin0] at h0; cases h0
        | true =>
          rw [hin0] at h0
          have hin := av_ins_of hin0
          have e9 := av_kd_11 hk
          subst e9
          exact av_scr hx hb hCx hS h1 h2 hin hdec (hN _ _ _ h0 H locs lv hP hS hl h1 h2)
      · cases h0
    · cases h0
  case laload =>
    simp only [av_chk, Bool.and_eq_true, decide_eq_true_eq] at hq
    obtain ⟨hdec, hi⟩ := hq
    dsimp only [av_stp] at h0
    have hlen : len = 1 := Nat.eq_of_beq_eq_true hi
    subst hlen
    split at h0
    · rename_i j a r
      split at h0
      · rename_i hk
        cases hin0 : av_inb j (av_sz a) with
        | false => rw [hin0] at h0; cases h0
        | true =>
          rw [hin0] at h0
          have hin := av_inb_of hin0
          have hkN := av_kd_lt (a := a) (by omega)
          exact va_lald (f := fun i => av_jn (h a (2 * i)) (h a (2 * i + 1))) hx hb hCx.1 hP a 1 (by rw [av_ws_get hkN, av_en_l hk]) rfl hin hdec (hN _ _ _ h0 H locs lv hP hS hl h1 h2)
      · cases h0
    · cases h0
  case baload =>
    simp only [av_chk, Bool.and_eq_true, decide_eq_true_eq] at hq
    obtain ⟨hdec, hi⟩ := hq
    dsimp only [av_stp] at h0
    have hlen : len = 1 := Nat.eq_of_beq_eq_true hi
    subst hlen
    split at h0
    · rename_i j a r
      split at h0
      · rename_i hk
        cases hin0 : av_inb j (av_sz a) with
        | false => rw [hin0] at h0; cases h0
        | true =>
          rw [hin0] at h0
          have hin := av_inb_of hin0
          have hkN := av_kd_lt (a := a) (by omega)
          exact va_zald hx hb hCx.1 hP a 2 (by rw [av_ws_get hkN, av_en_z hk]) rfl hin hdec (hN _ _ _ h0 H locs lv hP hS hl h1 h2)
      · cases h0
    · cases h0
  case iastore =>
    simp only [av_chk, Bool.and_eq_true, decide_eq_true_eq] at hq
    obtain ⟨hdec, hi⟩ := hq
    dsimp only [av_stp] at h0
    have hlen : len = 1 := Nat.eq_of_beq_eq_true hi
    subst hlen
    split at h0
    · rename_i bb j a r
      split at h0
      · rename_i hk
        cases hin0 : av_inb j (av_sz a) with
        | false => rw [hin0] at h0; cases h0
        | true =>
          rw [hin0] at h0
          have hin := av_inb_of hin0
          have hkN := av_kd_lt (a := a) (by omega)
          refine va_iast hx hb hCx.1 hP (hD h) hS a 0 (by rw [av_ws_get hkN, av_en_i hk]) rfl hin hdec (fun H1 locs1 hP1 hD1 hS1 => hN _ _ _ h0 H1 locs1 lv ?_ hS1 hl ?_ ?_)
          · rw [← av_ws_set (h := h) hkN (fun b hb => av_u_ne hb), av_en_i hk, av_u_eq]; exact hP1
          · rw [av_u_ne (by unfold av_N at hkN; omega)]; exact h1
          · rw [av_u_ne (by unfold av_N at hkN; omega)]; exact h2
      · cases h0
    · cases h0
  case bastore =>
    simp only [av_chk, Bool.and_eq_true, decide_eq_true_eq] at hq
    obtain ⟨hdec, hi⟩ := hq
    dsimp only [av_stp] at h0
    have hlen : len = 1 := Nat.eq_of_beq_eq_true hi
    subst hlen
    split at h0
    · rename_i bb j a r
      split at h0
      · rename_i hk
        cases hin0 : av_inb j (av_sz a) with
        | false => rw [hin0] at h0; cases h0
        | true =>
          rw [hin0] at h0
          have hin := av_inb_of hin0
          have hkN := av_kd_lt (a := a) (by omega)
          refine va_zast hx hb hCx.1 hP (hD h) hS a 2 (by rw [av_ws_get hkN, av_en_z hk]) rfl hin hdec (fun H1 locs1 hP1 hD1 hS1 => hN _ _ _ h0 H1 locs1 lv ?_ hS1 hl ?_ ?_)
          · rw [← av_ws_set (h := h) hkN (fun b hb => av_u_ne hb), av_en_z hk, av_u_eq]; exact hP1
          · rw [av_u_ne (by unfold av_N at hkN; omega)]; exact h1
          · rw [av_u_ne (by unfold av_N at hkN; omega)]; exact h2
      · cases h0
    · cases h0
  case lastore =>
    simp only [av_chk, Bool.and_eq_true, decide_eq_true_eq] at hq
    obtain ⟨hdec, hi⟩ := hq
    dsimp only [av_stp] at h0
    have hlen : len = 1 := Nat.eq_of_beq_eq_true hi
    subst hlen
    split at h0
    · rename_i bb j a r
      split at h0
      · rename_i hk
        cases hin0 : av_inb j (av_sz a) with
        | false => rw [hin0] at h0; cases h0
        | true =>
          rw [hin0] at h0
          have hin := av_inb_of hin0
          have hkN := av_kd_lt (a := a) (by omega)
          refine va_last hx hb hCx.1 hP (hD h) hS a 1 (by rw [av_ws_get hkN, av_en_l hk]) rfl hin hdec (fun H1 locs1 hP1 hD1 hS1 => hN _ _ _ h0 H1 locs1 lv ?_ hS1 hl ?_ ?_)
          · rw [← av_ws_set (h := h) hkN (fun b hb => by rw [av_u_ne hb, av_u_ne hb]), av_en_l hk, av_u_eq, av_u_eq, av_jn_upd]; exact hP1
          · rw [av_u_ne (by unfold av_N at hkN; omega), av_u_ne (by unfold av_N at hkN; omega)]; exact h1
          · rw [av_u_ne (by unfold av_N at hkN; omega), av_u_ne (by unfold av_N at hkN; omega)]; exact h2
      · cases h0
    · cases h0
  case arraylength =>
    simp only [av_chk, Bool.and_eq_true, decide_eq_true_eq] at hq
    obtain ⟨hdec, hi⟩ := hq
    dsimp only [av_stp] at h0
    have hlen : len = 1 := Nat.eq_of_beq_eq_true hi
    subst hlen
    split at h0
    · rename_i a r
      split at h0
      · rename_i hk
        have hkN := av_kd_lt (a := a) (by omega)
        exact va_alen (x := (av_sz a, .inl (h a))) hx hb hCx.1 hP a 0 (by rw [av_ws_get hkN, av_en_i hk]) rfl rfl hdec (hN _ _ _ h0 H locs lv hP hS hl h1 h2)
      · rename_i hk
        have hkN := av_kd_lt (a := a) (by omega)
        exact va_alen (x := (av_sz a, .inr (.inl (fun i => av_jn (h a (2 * i)) (h a (2 * i + 1)))))) hx hb hCx.1 hP a 1 (by rw [av_ws_get hkN, av_en_l hk]) rfl rfl hdec (hN _ _ _ h0 H locs lv hP hS hl h1 h2)
      · rename_i hk
        have hkN := av_kd_lt (a := a) (by omega)
        exact va_alen (x := (av_sz a, .inl (h a))) hx hb hCx.1 hP a 2 (by rw [av_ws_get hkN, av_en_z hk]) rfl rfl hdec (hN _ _ _ h0 H locs lv hP hS hl h1 h2)
      · rename_i hk
        have e9 := av_kd_11 hk
        subst e9
        obtain ⟨-, -, ⟨x1, x2, x3, x4⟩, -⟩ := hCx
        have hN1 := hN _ _ _ h0 H locs lv hP hS hl h1 h2
        rw [show h (90 + 1) 0 = nI L from h2] at hN1
        exact va_slen hx hb x1 x2 x3 hS hdec hN1
      · cases h0
    · cases h0
  case ireturn =>
    simp only [av_chk, Bool.and_eq_true, decide_eq_true_eq] at hq
    obtain ⟨hdec, hi⟩ := hq
    dsimp only [av_stp] at h0
    obtain ⟨hi, hv⟩ := hi
    have hlen : len = 1 := Nat.eq_of_beq_eq_true hi
    subst hlen
    split at h0
    · split at h0
      · split at hv
        · exact hRi _ _ _ _ _ _ _ .int h0 hdec (of_decide_eq_true hv) rfl hP hS h1 h2
        · rename_i hz; exact absurd rfl hz
      · rename_i hz
        split at hv
        · exact absurd rfl hz
        · exact hRi _ _ _ _ _ _ _ .boolean h0 hdec (of_decide_eq_true hv) rfl hP hS h1 h2
    · cases h0
  case lreturn =>
    simp only [av_chk, Bool.and_eq_true, decide_eq_true_eq] at hq
    obtain ⟨hdec, hi⟩ := hq
    dsimp only [av_stp] at h0
    obtain ⟨hi, hv⟩ := hi
    have hlen : len = 1 := Nat.eq_of_beq_eq_true hi
    subst hlen
    split at h0
    · exact hRl _ _ _ _ _ _ h0 hdec hv hP hS h1 h2
    · cases h0
  case return_ =>
    simp only [av_chk, Bool.and_eq_true, decide_eq_true_eq] at hq
    obtain ⟨hdec, hi⟩ := hq
    dsimp only [av_stp] at h0
    obtain ⟨hi, hv⟩ := hi
    have hlen : len = 1 := Nat.eq_of_beq_eq_true hi
    subst hlen
    split at h0
    · exact hRv _ _ _ _ _ h0 hdec hv hP hS h1 h2
    · cases h0
  case invokestatic idx =>
    simp only [av_chk, Bool.and_eq_true, decide_eq_true_eq] at hq
    obtain ⟨hdec, hi, hv⟩ := hq
    dsimp only [av_stp] at h0
    have hlen : len = 3 := Nat.eq_of_beq_eq_true hi
    subst hlen
    split at h0
    · split at h0
      · split at h0
        · rename_i hcat
          change (match av_pt[w]? with
            | some (a, b, c, _) => Nat.beq a own && Nat.beq b idx && Nat.beq c 10
            | none => false) = true at hv
          split at hv
          · rename_i own1 idx1 z1 pl1 hw
            simp only [Bool.and_eq_true] at hv
            obtain ⟨⟨g1, g2⟩, g3⟩ := hv
            have g1 := Nat.eq_of_beq_eq_true g1
            have g2 := Nat.eq_of_beq_eq_true g2
            have g3 := Nat.eq_of_beq_eq_true g3
            subst g1 g2 g3
            have hcat := Nat.ble_eq.mp hcat
            exact va_mmax hx hb (by rw [hml]; exact (av_lv_size hl).symm) hown (hts _ (av_word_of (av_mem_of av_pt_ok hw))) (hts _ av_w_max.1) (hts _ av_w_max.2.2) (hts _ av_w_max.2.1) (by omega) (by rw [av_cat_map]; omega) hc hs hdec (hN _ _ _ h0 H locs lv hP hS hl h1 h2)
          · cases hv
        · cases h0
      · cases h0
    · split at h0
      · split at h0
        · rename_i hcat
          change (match av_pt[w]? with
            | some (a, b, c, _) => Nat.beq a own && Nat.beq b idx && Nat.beq c 11
            | none => false) = true at hv
          split at hv
          · rename_i own1 idx1 z1 pl1 hw
            simp only [Bool.and_eq_true] at hv
            obtain ⟨⟨g1, g2⟩, g3⟩ := hv
            have g1 := Nat.eq_of_beq_eq_true g1
            have g2 := Nat.eq_of_beq_eq_true g2
            have g3 := Nat.eq_of_beq_eq_true g3
            subst g1 g2 g3
            have hcat := Nat.ble_eq.mp hcat
            exact va_mmin hx hb (by rw [hml]; exact (av_lv_size hl).symm) hown (hts _ (av_word_of (av_mem_of av_pt_ok hw))) (hts _ av_w_min.1) (hts _ av_w_min.2.2) (hts _ av_w_min.2.1) (by omega) (by rw [av_cat_map]; omega) hc hs hdec (hN _ _ _ h0 H locs lv hP hS hl h1 h2)
          · cases hv
        · cases h0
      · cases h0
    · split at h0
      · split at h0
        · rename_i hcat
          change (match av_pt[w]? with
            | some (a, b, c, _) => Nat.beq a own && Nat.beq b idx && Nat.beq c 12
            | none => false) = true at hv
          split at hv
          · rename_i own1 idx1 z1 pl1 hw
            simp only [Bool.and_eq_true] at hv
            obtain ⟨⟨g1, g2⟩, g3⟩ := hv
            have g1 := Nat.eq_of_beq_eq_true g1
            have g2 := Nat.eq_of_beq_eq_true g2
            have g3 := Nat.eq_of_beq_eq_true g3
            subst g1 g2 g3
            have hcat := Nat.ble_eq.mp hcat
            exact va_mabs hx hb (by rw [hml]; exact (av_lv_size hl).symm) hown (hts _ (av_word_of (av_mem_of av_pt_ok hw))) (hts _ av_w_abs.1) (hts _ av_w_abs.2.2) (hts _ av_w_abs.2.1) (by omega) (by rw [av_cat_map]; omega) hc hs hdec (hN _ _ _ h0 H locs lv hP hS hl h1 h2)
          · cases hv
        · cases h0
      · cases h0
    · cases h0
    · rename_i z z10 z11 z12 z20
      split at hv
      · exact absurd rfl z20
      · exact absurd rfl z10
      · exact absurd rfl z11
      · exact absurd rfl z12
      · split at hv
        · rename_i own1 idx1 nest k1 pl1 st1 n1 z1 o1 hw
          simp only [Bool.and_eq_true] at hv
          obtain ⟨⟨⟨⟨⟨g1, g2⟩, g3⟩, g4⟩, g5⟩, g6⟩ := hv
          have g1 := Nat.eq_of_beq_eq_true g1
          have g2 := Nat.eq_of_beq_eq_true g2
          have g3 := Nat.eq_of_beq_eq_true g3
          have g5 := Nat.eq_of_beq_eq_true g5
          have g6 := Nat.eq_of_beq_eq_true g6
          subst g1 g2 g3 g4 g5 g6
          obtain ⟨s1, s2, s3⟩ := av_ct_spec hM hw hts hCx.2.1 hRf hRl0
          generalize hpop : av_pop n1 [] st = P at h0
          obtain ⟨as, r⟩ := P
          dsimp only at h0
          split at h0
          · rename_i hcat
            simp only [Bool.and_eq_true] at hcat
            have hcat1 := Nat.ble_eq.mp hcat.1
            have hcat2 := Nat.eq_of_beq_eq_true hcat.2
            cases hEx : E k1 as h with
            | none => rw [hEx] at h0; cases h0
            | some r1 =>
              rw [hEx] at h0
              have h0 : N ls (av_push z1 r1 r) r1.2.2 = some b := h0
              have hst : st.map (av_c ad) = (as.map (av_c ad)).reverse ++ r.map (av_c ad) := by
                have := av_pop_spec _ _ _ _ _ hpop
                rw [show st = as.reverse ++ r from this, List.map_append, List.map_reverse]
              have hmet := hE k1 as h r1 (av_ct_lt hw) hEx
              have hpre : PreS s H (av_Pc ad D cI cJ cZ A scr L as h) (as.map (av_c ad)) := ⟨av_Pc_blind as h, fun U hU hW => ⟨rfl, by rw [hU]; exact hP, av_Cx_at hCx hS hW hU, h1, h2⟩⟩
              cases nest with
              | false => exact av_call (rest := r.map (av_c ad)) (va_runS (As := as.map (av_c ad)) ⟨hx, hb, hml, hown, hts⟩ hmet ⟨s1, s2⟩ hpre rfl (by rw [List.length_map]; exact hcat2) (av_lv_size hl) hst (lv_room (by rw [av_cat_map]; exact hcat1)) hdec ⟨hc, hs⟩) hS (fun H1 locs1 hP1 hS1 e1 e2 => by rw [← av_push_map s3]; exact hN _ _ _ h0 H1 locs1 lv hP1 hS1 hl e1 e2)
              | true => exact av_call (rest := r.map (av_c ad)) (va_runSN (As := as.map (av_c ad)) ⟨hx, hb, hml, hown, hts⟩ hmet ⟨s1, s2, trivial⟩ hpre rfl (by rw [List.length_map]; exact hcat2) (av_lv_size hl) hst (lv_room (by rw [av_cat_map]; exact hcat1)) hdec ⟨hc, hs⟩) hS (fun H1 locs1 hP1 hS1 e1 e2 => by rw [← av_push_map s3]; exact hN _ _ _ h0 H1 locs1 lv hP1 hS1 hl e1 e2)
          · cases h0
        · cases hv
  case invokevirtual idx =>
    simp only [av_chk, Bool.and_eq_true, decide_eq_true_eq] at hq
    obtain ⟨hdec, hi, hv⟩ := hq
    dsimp only [av_stp] at h0
    have hlen : len = 3 := Nat.eq_of_beq_eq_true hi
    subst hlen
    split at h0
    · split at h0
      · rename_i a r
        split at h0
        · rename_i hcat
          simp only [Bool.and_eq_true] at hcat
          have hcat1 := Nat.ble_eq.mp hcat.1
          have hk := Nat.eq_of_beq_eq_true hcat.2
          change (match av_pt[w]? with
            | some (a, b, c, _) => Nat.beq a own && Nat.beq b idx && Nat.beq c 13
            | none => false) = true at hv
          split at hv
          · rename_i own1 idx1 z1 pl1 hw
            simp only [Bool.and_eq_true] at hv
            obtain ⟨⟨g1, g2⟩, g3⟩ := hv
            have g1 := Nat.eq_of_beq_eq_true g1
            have g2 := Nat.eq_of_beq_eq_true g2
            have g3 := Nat.eq_of_beq_eq_true g3
            subst g1 g2 g3
            exact av_strlen hx hb hml hown hts hCx hS hRf hRl0 hc hs (av_lv_size hl) hk hcat1 (hts _ (av_word_of (av_mem_of av_pt_ok hw))) hdec (hN _ _ _ h0 H locs lv hP hS hl h1 h2)
          · cases hv
        · cases h0
      · cases h0
    · split at h0
      · rename_i j a r
        split at h0
        · rename_i hcat
          simp only [Bool.and_eq_true] at hcat
          have hcat1 := Nat.ble_eq.mp hcat.1
          have hk := Nat.eq_of_beq_eq_true hcat.2
          cases hin0 : av_inb j (av_txl a) with
          | false => rw [hin0] at h0; cases h0
          | true =>
            rw [hin0] at h0
            have hin := av_inb_of hin0
            change (match av_pt[w]? with
              | some (a, b, c, _) => Nat.beq a own && Nat.beq b idx && Nat.beq c 14
              | none => false) = true at hv
            split at hv
            · rename_i own1 idx1 z1 pl1 hw
              simp only [Bool.and_eq_true] at hv
              obtain ⟨⟨g1, g2⟩, g3⟩ := hv
              have g1 := Nat.eq_of_beq_eq_true g1
              have g2 := Nat.eq_of_beq_eq_true g2
              have g3 := Nat.eq_of_beq_eq_true g3
              subst g1 g2 g3
              exact av_strchr hx hb hml hown hts hCx hS hRf hRl0 hc hs (av_lv_size hl) hk hin hcat1 (hts _ (av_word_of (av_mem_of av_pt_ok hw))) hdec (hN _ _ _ h0 H locs lv hP hS hl h1 h2)
            · cases hv
        · cases h0
      · cases h0
    · rename_i z z13 z14
      split at hv
      · exact absurd rfl z13
      · exact absurd rfl z14
      · split at hv
        · rename_i own1 idx1 nest k1 pl1 st1 n1 z1 o1 hw
          simp only [Bool.and_eq_true, Bool.not_eq_true'] at hv
          obtain ⟨⟨⟨⟨⟨⟨⟨g1, g2⟩, g3⟩, g4⟩, g5⟩, g6⟩, g7⟩, g8⟩ := hv
          have g1 := Nat.eq_of_beq_eq_true g1
          have g2 := Nat.eq_of_beq_eq_true g2
          have g3 := Nat.eq_of_beq_eq_true g3
          have g5 := Nat.eq_of_beq_eq_true g5
          have g6 := Nat.eq_of_beq_eq_true g6
          have g7 := Nat.eq_of_beq_eq_true g7
          have g8 := Nat.blt_eq.mp g8
          subst g1 g2 g3 g4 g5 g6 g7
          obtain ⟨s1, s2, s3⟩ := av_ct_spec hM hw hts hCx.2.1 hRf hRl0
          generalize hpop : av_pop n1 [] st = P at h0
          obtain ⟨as, r0⟩ := P
          split at h0
          · rename_i as a r heq
            cases heq
            split at h0
            · rename_i hcat
              simp only [Bool.and_eq_true] at hcat
              have hcat1 := Nat.ble_eq.mp hcat.1.1
              have hcat2 := Nat.eq_of_beq_eq_true hcat.1.2
              have hk := Nat.eq_of_beq_eq_true hcat.2
              cases hEx : E k1 (.ref a :: as) h with
              | none => rw [hEx] at h0; cases h0
              | some r1 =>
                rw [hEx] at h0
                have h0 : N ls (av_push z1 r1 r) r1.2.2 = some b := h0
                have hst : st.map (av_c ad) = (as.map (av_c ad)).reverse ++ Value.ref (ad a) :: r.map (av_c ad) := by
                  have := av_pop_spec _ _ _ _ _ hpop
                  rw [show st = as.reverse ++ Value.ref a :: r from this, List.map_append, List.map_reverse]
                  rfl
                have hmet := hE k1 (.ref a :: as) h r1 (av_ct_lt hw) hEx
                have hkN := av_kd_lt (a := a) (by omega)
                have hent : (av_ws ad cI cJ cZ h)[a]? = some (ad a, .inr (o1, av_fv ad (h a) (av_nth av_shp a).2.2 0)) := by
                  rw [av_ws_get hkN, av_en_obj (by show av_kd a < 8; omega)]
                  show some (ad a, Sum.inr (av_kd a, _)) = _
                  rw [hk]
                have hpre : PreV s H (av_cn o1) (ad a) (av_Pc ad D cI cJ cZ A scr L (.ref a :: as) h) (as.map (av_c ad)) := ⟨av_Pc_blind _ h, va_recv hCx.1 hP (av_cls o1 g8) hent, fun U hU hW => ⟨rfl, by rw [hU]; exact hP, av_Cx_at hCx hS hW hU, h1, h2⟩⟩
                cases nest with
                | false => exact av_call (rest := r.map (av_c ad)) (va_runV (As := as.map (av_c ad)) ⟨hx, hb, hml, hown, hts⟩ hmet ⟨s1, s2⟩ hpre rfl (by rw [List.length_map]; exact hcat2) (av_lv_size hl) hst (lv_room (by rw [av_cat_map]; exact hcat1)) hdec ⟨hc, hs⟩) hS (fun H1 locs1 hP1 hS1 e1 e2 => by rw [← av_push_map s3]; exact hN _ _ _ h0 H1 locs1 lv hP1 hS1 hl e1 e2)
                | true => exact av_call (rest := r.map (av_c ad)) (va_runVN (As := as.map (av_c ad)) ⟨hx, hb, hml, hown, hts⟩ hmet ⟨s1, s2⟩ hpre rfl (by rw [List.length_map]; exact hcat2) (av_lv_size hl) hst (lv_room (by rw [av_cat_map]; exact hcat1)) hdec ⟨hc, hs⟩) hS (fun H1 locs1 hP1 hS1 e1 e2 => by rw [← av_push_map s3]; exact hN _ _ _ h0 H1 locs1 lv hP1 hS1 hl e1 e2)
            · cases h0
          · cases h0
        · cases hv
  all_goals exact absurd (show (none : Option β) = some b from h0) (fun z => by cases z)
end AVT
end
section
/-! EQUATIONS: each segment of each method, as a tree of tests and calls -/
def av_tab (k : Nat) : av_MT := ((av_mn k).2.2.2.2.2.2.2.2.2.2.2, (av_mn k).2.2.2.1)
noncomputable def av_x (d k : Nat) (as : List Value) (h : av_M) : Option av_R := av_X av_tab d k as h
noncomputable def av_xp (d k pc : Nat) (ls st : List Value) (h : av_M) : Option av_R := av_XP (fun k as h => av_x d k as h) (av_tab k).1 pc ls st h
def av_hd (T : List av_I) (pc : Nat) : Bool := match av_at T pc with
  | [] => false
  | _ :: _ => true
theorem av_eq {d k : Nat} (T : List av_I) (nL : Nat) (S : List Nat) (n pc : Nat) (ls st : List Value) (h : av_M) (hT : av_tab k = (T, nL)) (hw : av_wf T = true) (hq : av_hd T pc = true) :
    av_xp d k pc ls st h = av_seg (fun k as h => av_x d k as h) some (fun pc ls st h => av_xp d k pc ls st h) T S n (av_at T pc) ls st h := by
  unfold av_hd at hq
  cases ha : av_at T pc with
  | nil => rw [ha] at hq; cases hq
  | cons q tl =>
    have e := av_at_hd T pc q tl ha
    subst e
    unfold av_xp
    rw [hT]
    exact (av_seg_XP S hw n q tl ls st h ha).symm
theorem av_ent (d k : Nat) (T : List av_I) (nL : Nat) (as : List Value) (h : av_M) (hT : av_tab k = (T, nL)) : av_x (d + 1) k as h = av_xp d k 0 (av_pad nL (av_in as)) [] h := by
  show av_XP (av_X av_tab d) (av_tab k).1 0 (av_pad (av_tab k).2 (av_in as)) [] h = av_XP (fun k as h => av_x d k as h) (av_tab k).1 0 _ [] h
  rw [hT]
  rfl
end
section
theorem tabX6_sign : av_tab 52 = (tX6_sign, 2) := rfl
theorem wfX6_sign : av_wf tX6_sign = true := by decide +kernel
set_option maxHeartbeats 40000 in
set_option maxRecDepth 8000 in
theorem eX6_sign_r0_in (d : Nat) (h : av_M) (p1 : Int32) : av_x (d + 1) 52 [.ref 0, .int p1] h = ((av_x d 48 [.ref 1, .int p1] h).bind fun q1 => some ((q1.1 : Int32), (0 : Int64), q1.2.2)) := (av_ent d 52 tX6_sign 2 _ h tabX6_sign).trans ((av_eq tX6_sign 2 [] 6 0 _ _ h tabX6_sign wfX6_sign rfl).trans rfl)
theorem tabX6_end : av_tab 53 = (tX6_end, 2) := rfl
theorem wfX6_end : av_wf tX6_end = true := by decide +kernel
set_option maxHeartbeats 40000 in
set_option maxRecDepth 8000 in
theorem eX6_end_r0_in (d : Nat) (h : av_M) (p1 : Int32) : av_x (d + 1) 53 [.ref 0, .int p1] h = ((av_x d 49 [.ref 1, .int p1] h).bind fun q1 => some (((q1.1 &&& 1) : Int32), (0 : Int64), q1.2.2)) := (av_ent d 53 tX6_end 2 _ h tabX6_end).trans ((av_eq tX6_end 2 [] 6 0 _ _ h tabX6_end wfX6_end rfl).trans rfl)
theorem tabX6_streamers : av_tab 54 = (tX6_streamers, 3) := rfl
theorem wfX6_streamers : av_wf tX6_streamers = true := by decide +kernel
set_option maxHeartbeats 40000 in
set_option maxRecDepth 8000 in
theorem eX6_streamers_r0_in (d : Nat) (h : av_M) : av_x (d + 1) 54 [.ref 0] h = ((av_x d 115 [.ref 0] h).bind fun q1 => (if 0 ≤ q1.1 then (if q1.1 < 0 then some (((((h 1 1) + 1) / 7) : Int32), (0 : Int64), (av_u q1.2.2 1 1 0)) else some ((((-1) - q1.1) : Int32), (0 : Int64), (av_u q1.2.2 1 1 0))) else ((av_x d 117 [.ref 0] q1.2.2).bind fun q2 => (if q1.1 < 0 then some (((((h 1 1) + 1) / 7) : Int32), (0 : Int64), (av_u q2.2.2 1 1 0)) else some ((((-1) - q1.1) : Int32), (0 : Int64), (av_u q2.2.2 1 1 0)))))) := (av_ent d 54 tX6_streamers 3 _ h tabX6_streamers).trans ((av_eq tX6_streamers 3 [] 24 0 _ _ h tabX6_streamers wfX6_streamers rfl).trans rfl)
theorem tabX6_rule : av_tab 55 = (tX6_rule, 2) := rfl
theorem wfX6_rule : av_wf tX6_rule = true := by decide +kernel
set_option maxHeartbeats 40000 in
set_option maxRecDepth 8000 in
theorem eX6_rule_r0_in (d : Nat) (h : av_M) : av_x (d + 1) 55 [.ref 0] h = ((av_x d 11 [.ref 23, .ref 1] h).bind fun q1 => (if q1.1 < 0 then ((av_x d 10 [.ref 19, .ref 23] (av_u q1.2.2 1 1 0)).bind fun q2 => some ((0 : Int32), (0 : Int64), q2.2.2)) else some ((((-1) - q1.1) : Int32), (0 : Int64), (av_u q1.2.2 1 1 0)))) := (av_ent d 55 tX6_rule 2 _ h tabX6_rule).trans ((av_eq tX6_rule 2 [] 20 0 _ _ h tabX6_rule wfX6_rule rfl).trans rfl)
theorem tabX6_sheet : av_tab 57 = (tX6_sheet, 9) := rfl
theorem wfX6_sheet : av_wf tX6_sheet = true := by decide +kernel
set_option maxHeartbeats 40000 in
set_option maxRecDepth 8000 in
theorem eX6_sheet_r0_in (d : Nat) (h : av_M) (p1 : Int32) (p2 : Int32) (p3 : Int32) (p4 : Int32) : av_x (d + 1) 57 [.ref 0, .int p1, .int p2, .int p3, .int p4] h = (if p1 < 0 then some (((-1) : Int32), (0 : Int64), h) else (if 3 < p1 then some (((-1) : Int32), (0 : Int64), h) else (if p2 ≤ 7 then (if p1 = 3 then av_xp d 57 47 [.ref 0, .int p1, .int p2, .int p3, .int p4, .int 1, .int 0, .int 0, .null] [] h else (if 0 ≤ p2 then av_xp d 57 47 [.ref 0, .int p1, .int p2, .int p3, .int p4, .int 0, .int 0, .int 0, .null] [] h else some (((-2) : Int32), (0 : Int64), h))) else some (((-1) : Int32), (0 : Int64), h)))) := (av_ent d 57 tX6_sheet 9 _ h tabX6_sheet).trans ((av_eq tX6_sheet 9 [47] 22 0 _ _ h tabX6_sheet wfX6_sheet rfl).trans rfl)
set_option maxHeartbeats 40000 in
set_option maxRecDepth 8000 in
theorem eX6_sheet_r0_47 (d : Nat) (h : av_M) (a1 : Int32) (a2 : Int32) (a3 : Int32) (a4 : Int32) (a5 : Int32) (a6 : Int32) (a7 : Int32) : av_xp d 57 47 [.ref 0, .int a1, .int a2, .int a3, .int a4, .int a5, .int a6, .int a7, .null] [] h = (if (h 5 6) ≤ a7 then (if a5 = 0 then some ((a6 : Int32), (0 : Int64), h) else some (((-3) : Int32), (0 : Int64), h)) else (if a5 = 0 then (if a2 ≤ a7 then (cond (av_inb a7 7) ((cond (av_inb a7 7) (av_xp d 57 47 [.ref 0, .int a1, .int a2, .int a3, .int a4, .int a5, .int (a6 + ((av_u h 7 (Int32.toNatClampNeg a7) 1) 7 (Int32.toNatClampNeg a7))), .int (a7 + 1), .int 0] [] (av_u h 7 (Int32.toNatClampNeg a7) 1)) none)) none) else ((av_x d 119 [.int a1, .int (a3 + (a7 * a4))] h).bind fun q1 => ((av_x d 104 [.int q1.1, .int 1, .int 9] q1.2.2).bind fun q2 => (cond (av_inb a7 7) ((cond (av_inb a7 7) (av_xp d 57 47 [.ref 0, .int a1, .int a2, .int a3, .int a4, .int a5, .int (a6 + ((av_u q2.2.2 7 (Int32.toNatClampNeg a7) q2.1) 7 (Int32.toNatClampNeg a7))), .int (a7 + 1), .int 1] [] (av_u q2.2.2 7 (Int32.toNatClampNeg a7) q2.1)) none)) none)))) else (cond (av_inb a7 7) ((cond (av_inb a7 7) (av_xp d 57 47 [.ref 0, .int a1, .int a2, .int a3, .int a4, .int a5, .int (a6 + ((av_u h 7 (Int32.toNatClampNeg a7) 1) 7 (Int32.toNatClampNeg a7))), .int (a7 + 1), .int 0] [] (av_u h 7 (Int32.toNatClampNeg a7) 1)) none)) none))) := (av_eq tX6_sheet 9 [47] 42 47 _ _ h tabX6_sheet wfX6_sheet rfl).trans rfl
set_option maxHeartbeats 40000 in
set_option maxRecDepth 8000 in
theorem eX6_sheet_r0_47_2 (d : Nat) (h : av_M) (a1 : Int32) (a2 : Int32) (a3 : Int32) (a4 : Int32) (a5 : Int32) (a6 : Int32) (a7 : Int32) (a8 : Int32) : av_xp d 57 47 [.ref 0, .int a1, .int a2, .int a3, .int a4, .int a5, .int a6, .int a7, .int a8] [] h = (if (h 5 6) ≤ a7 then (if a5 = 0 then some ((a6 : Int32), (0 : Int64), h) else some (((-3) : Int32), (0 : Int64), h)) else (if a5 = 0 then (if a2 ≤ a7 then (cond (av_inb a7 7) ((cond (av_inb a7 7) (av_xp d 57 47 [.ref 0, .int a1, .int a2, .int a3, .int a4, .int a5, .int (a6 + ((av_u h 7 (Int32.toNatClampNeg a7) 1) 7 (Int32.toNatClampNeg a7))), .int (a7 + 1), .int 0] [] (av_u h 7 (Int32.toNatClampNeg a7) 1)) none)) none) else ((av_x d 119 [.int a1, .int (a3 + (a7 * a4))] h).bind fun q1 => ((av_x d 104 [.int q1.1, .int 1, .int 9] q1.2.2).bind fun q2 => (cond (av_inb a7 7) ((cond (av_inb a7 7) (av_xp d 57 47 [.ref 0, .int a1, .int a2, .int a3, .int a4, .int a5, .int (a6 + ((av_u q2.2.2 7 (Int32.toNatClampNeg a7) q2.1) 7 (Int32.toNatClampNeg a7))), .int (a7 + 1), .int 1] [] (av_u q2.2.2 7 (Int32.toNatClampNeg a7) q2.1)) none)) none)))) else (cond (av_inb a7 7) ((cond (av_inb a7 7) (av_xp d 57 47 [.ref 0, .int a1, .int a2, .int a3, .int a4, .int a5, .int (a6 + ((av_u h 7 (Int32.toNatClampNeg a7) 1) 7 (Int32.toNatClampNeg a7))), .int (a7 + 1), .int 0] [] (av_u h 7 (Int32.toNatClampNeg a7) 1)) none)) none))) := (av_eq tX6_sheet 9 [47] 42 47 _ _ h tabX6_sheet wfX6_sheet rfl).trans rfl
theorem tabX6_hours : av_tab 58 = (tX6_hours, 2) := rfl
theorem wfX6_hours : av_wf tX6_hours = true := by decide +kernel
set_option maxHeartbeats 40000 in
set_option maxRecDepth 8000 in
theorem eX6_hours_r0_in (d : Nat) (h : av_M) (p1 : Int32) : av_x (d + 1) 58 [.ref 0, .int p1] h = ((av_x d 2 [.ref 27, .ref 5] h).bind fun q1 => ((av_x d 124 [.ref 0, .int p1] q1.2.2).bind fun q2 => ((av_x d 122 [.ref 0, .int q2.1] q2.2.2).bind fun q3 => some ((q3.1 : Int32), (0 : Int64), q3.2.2)))) := (av_ent d 58 tX6_hours 2 _ h tabX6_hours).trans ((av_eq tX6_hours 2 [] 12 0 _ _ h tabX6_hours wfX6_hours rfl).trans rfl)
theorem tabX6_runs : av_tab 59 = (tX6_runs, 3) := rfl
theorem wfX6_runs : av_wf tX6_runs = true := by decide +kernel
set_option maxHeartbeats 40000 in
set_option maxRecDepth 8000 in
theorem eX6_runs_r0_in (d : Nat) (h : av_M) (p1 : Int32) (p2 : Int32) : av_x (d + 1) 59 [.ref 0, .int p1, .int p2] h = ((av_x d 2 [.ref 27, .ref 5] h).bind fun q1 => ((av_x d 125 [.ref 0, .int p1, .int p2] q1.2.2).bind fun q2 => ((av_x d 122 [.ref 0, .int q2.1] q2.2.2).bind fun q3 => some ((q3.1 : Int32), (0 : Int64), q3.2.2)))) := (av_ent d 59 tX6_runs 3 _ h tabX6_runs).trans ((av_eq tX6_runs 3 [] 13 0 _ _ h tabX6_runs wfX6_runs rfl).trans rfl)
theorem tabX6_rates : av_tab 60 = (tX6_rates, 3) := rfl
theorem wfX6_rates : av_wf tX6_rates = true := by decide +kernel
set_option maxHeartbeats 40000 in
set_option maxRecDepth 8000 in
theorem eX6_rates_r0_in (d : Nat) (h : av_M) (p1 : Int32) (p2 : Int32) : av_x (d + 1) 60 [.ref 0, .int p1, .int p2] h = ((av_x d 2 [.ref 27, .ref 5] h).bind fun q1 => ((av_x d 126 [.ref 0, .int p1, .int p2] q1.2.2).bind fun q2 => ((av_x d 122 [.ref 0, .int q2.1] q2.2.2).bind fun q3 => some ((q3.1 : Int32), (0 : Int64), q3.2.2)))) := (av_ent d 60 tX6_rates 3 _ h tabX6_rates).trans ((av_eq tX6_rates 3 [] 13 0 _ _ h tabX6_rates wfX6_rates rfl).trans rfl)
theorem tabX6_reels : av_tab 61 = (tX6_reels, 3) := rfl
theorem wfX6_reels : av_wf tX6_reels = true := by decide +kernel
set_option maxHeartbeats 40000 in
set_option maxRecDepth 8000 in
theorem eX6_reels_r0_in (d : Nat) (h : av_M) (p1 : Int32) (p2 : Int32) : av_x (d + 1) 61 [.ref 0, .int p1, .int p2] h = ((av_x d 2 [.ref 27, .ref 5] h).bind fun q1 => ((av_x d 127 [.ref 0, .int p1, .int p2] q1.2.2).bind fun q2 => ((av_x d 122 [.ref 0, .int q2.1] q2.2.2).bind fun q3 => some ((q3.1 : Int32), (0 : Int64), q3.2.2)))) := (av_ent d 61 tX6_reels 3 _ h tabX6_reels).trans ((av_eq tX6_reels 3 [] 13 0 _ _ h tabX6_reels wfX6_reels rfl).trans rfl)
theorem tabX6_drops : av_tab 62 = (tX6_drops, 2) := rfl
theorem wfX6_drops : av_wf tX6_drops = true := by decide +kernel
set_option maxHeartbeats 40000 in
set_option maxRecDepth 8000 in
theorem eX6_drops_r0_in (d : Nat) (h : av_M) (p1 : Int32) : av_x (d + 1) 62 [.ref 0, .int p1] h = ((av_x d 2 [.ref 27, .ref 5] h).bind fun q1 => ((av_x d 128 [.ref 0, .int p1] q1.2.2).bind fun q2 => ((av_x d 122 [.ref 0, .int q2.1] q2.2.2).bind fun q3 => some ((q3.1 : Int32), (0 : Int64), q3.2.2)))) := (av_ent d 62 tX6_drops 2 _ h tabX6_drops).trans ((av_eq tX6_drops 2 [] 12 0 _ _ h tabX6_drops wfX6_drops rfl).trans rfl)
theorem tabX6_speed : av_tab 63 = (tX6_speed, 2) := rfl
theorem wfX6_speed : av_wf tX6_speed = true := by decide +kernel
set_option maxHeartbeats 40000 in
set_option maxRecDepth 8000 in
theorem eX6_speed_r0_in (d : Nat) (h : av_M) (p1 : Int32) : av_x (d + 1) 63 [.ref 0, .int p1] h = ((av_x d 2 [.ref 27, .ref 5] h).bind fun q1 => ((av_x d 129 [.ref 0, .int p1] q1.2.2).bind fun q2 => ((av_x d 122 [.ref 0, .int q2.1] q2.2.2).bind fun q3 => some ((q3.1 : Int32), (0 : Int64), q3.2.2)))) := (av_ent d 63 tX6_speed 2 _ h tabX6_speed).trans ((av_eq tX6_speed 2 [] 12 0 _ _ h tabX6_speed wfX6_speed rfl).trans rfl)
theorem tabX6_sailing : av_tab 64 = (tX6_sailing, 5) := rfl
theorem wfX6_sailing : av_wf tX6_sailing = true := by decide +kernel
set_option maxHeartbeats 40000 in
set_option maxRecDepth 8000 in
theorem eX6_sailing_r0_in (d : Nat) (h : av_M) : av_x (d + 1) 64 [.ref 0] h = ((av_x d 120 [.ref 0] h).bind fun q1 => (if q1.1 < 0 then ((av_x d 2 [.ref 27, .ref 5] q1.2.2).bind fun q2 => av_xp d 64 39 [.ref 0, .int q1.1, .int 0, .int 0, .int 0] [] q2.2.2) else some ((((-1) - q1.1) : Int32), (0 : Int64), (av_u q1.2.2 1 1 0)))) := (av_ent d 64 tX6_sailing 5 _ h tabX6_sailing).trans ((av_eq tX6_sailing 5 [39] 17 0 _ _ h tabX6_sailing wfX6_sailing rfl).trans rfl)
set_option maxHeartbeats 40000 in
set_option maxRecDepth 8000 in
theorem eX6_sailing_r0_39 (d : Nat) (h : av_M) (a1 : Int32) (a2 : Int32) (a3 : Int32) (a4 : Int32) : av_xp d 64 39 [.ref 0, .int a1, .int a2, .int a3, .int a4] [] h = (if (h 1 1) ≤ a4 then (if a2 ≤ 0 then (if a3 = 0 then ((av_x d 111 [.ref 0, .long 0, .long (Int32.toInt64 (h 5 10))] (av_u h 1 1 0)).bind fun q1 => some ((a2 : Int32), (0 : Int64), q1.2.2)) else ((av_x d 111 [.ref 0, .long 1, .long (Int32.toInt64 (h 5 10))] (av_u h 1 1 0)).bind fun q2 => some ((a2 : Int32), (0 : Int64), q2.2.2))) else ((av_x d 3 [.ref 27] h).bind fun q3 => (if a3 = 0 then ((av_x d 111 [.ref 0, .long 0, .long (Int32.toInt64 (q3.2.2 5 10))] (av_u q3.2.2 1 1 0)).bind fun q4 => some ((a2 : Int32), (0 : Int64), q4.2.2)) else ((av_x d 111 [.ref 0, .long 1, .long (Int32.toInt64 (q3.2.2 5 10))] (av_u q3.2.2 1 1 0)).bind fun q5 => some ((a2 : Int32), (0 : Int64), q5.2.2))))) else (if a3 = 0 then ((av_x d 123 [.ref 0, .int a4] h).bind fun q11 => (if 0 ≤ q11.1 then ((av_x d 50 [.ref 1, .int a4] q11.2.2).bind fun q12 => ((av_x d 121 [.int q12.1] q12.2.2).bind fun q13 => av_xp d 64 39 [.ref 0, .int a1, .int (a2 + 1), .int 0, .int (a4 + (1 + q13.1))] [] q13.2.2)) else ((av_x d 50 [.ref 1, .int a4] q11.2.2).bind fun q14 => ((av_x d 121 [.int q14.1] q14.2.2).bind fun q15 => av_xp d 64 39 [.ref 0, .int a1, .int a2, .int 1, .int (a4 + (1 + q15.1))] [] q15.2.2)))) else (if a2 ≤ 0 then (if a3 = 0 then ((av_x d 111 [.ref 0, .long 0, .long (Int32.toInt64 (h 5 10))] (av_u h 1 1 0)).bind fun q6 => some ((a2 : Int32), (0 : Int64), q6.2.2)) else ((av_x d 111 [.ref 0, .long 1, .long (Int32.toInt64 (h 5 10))] (av_u h 1 1 0)).bind fun q7 => some ((a2 : Int32), (0 : Int64), q7.2.2))) else ((av_x d 3 [.ref 27] h).bind fun q8 => (if a3 = 0 then ((av_x d 111 [.ref 0, .long 0, .long (Int32.toInt64 (q8.2.2 5 10))] (av_u q8.2.2 1 1 0)).bind fun q9 => some ((a2 : Int32), (0 : Int64), q9.2.2)) else ((av_x d 111 [.ref 0, .long 1, .long (Int32.toInt64 (q8.2.2 5 10))] (av_u q8.2.2 1 1 0)).bind fun q10 => some ((a2 : Int32), (0 : Int64), q10.2.2))))))) := (av_eq tX6_sailing 5 [39] 29 39 _ _ h tabX6_sailing wfX6_sailing rfl).trans rfl
theorem tabX6_undo : av_tab 65 = (tX6_undo, 1) := rfl
theorem wfX6_undo : av_wf tX6_undo = true := by decide +kernel
set_option maxHeartbeats 40000 in
set_option maxRecDepth 8000 in
theorem eX6_undo_r0_in (d : Nat) (h : av_M) : av_x (d + 1) 65 [.ref 0] h = ((av_x d 4 [.ref 27, .ref 5] h).bind fun q1 => (if q1.1 = 0 then some (((-1) : Int32), (0 : Int64), q1.2.2) else some (((q1.2.2 27 3) : Int32), (0 : Int64), q1.2.2))) := (av_ent d 65 tX6_undo 1 _ h tabX6_undo).trans ((av_eq tX6_undo 1 [] 12 0 _ _ h tabX6_undo wfX6_undo rfl).trans rfl)
theorem tabX6_later : av_tab 66 = (tX6_later, 2) := rfl
theorem wfX6_later : av_wf tX6_later = true := by decide +kernel
set_option maxHeartbeats 40000 in
set_option maxRecDepth 8000 in
theorem eX6_later_r0_in (d : Nat) (h : av_M) (p1 : Int32) : av_x (d + 1) 66 [.ref 0, .int p1] h = (if p1 < 0 then some (((-1) : Int32), (0 : Int64), h) else (if p1 ≤ 99 then ((av_x d 114 [.ref 0, .int p1] h).bind fun q1 => ((av_x d 28 [.ref 12] q1.2.2).bind fun q2 => ((av_x d 33 [.ref 12] q2.2.2).bind fun q3 => ((av_x d 111 [.ref 0, .long (Int32.toInt64 q2.1), .long (Int32.toInt64 q3.1)] q3.2.2).bind fun q4 => some (((q4.2.2 12 10) : Int32), (0 : Int64), q4.2.2))))) else some (((-1) : Int32), (0 : Int64), h))) := (av_ent d 66 tX6_later 2 _ h tabX6_later).trans ((av_eq tX6_later 2 [] 23 0 _ _ h tabX6_later wfX6_later rfl).trans rfl)
theorem tabX6_when : av_tab 67 = (tX6_when, 3) := rfl
theorem wfX6_when : av_wf tX6_when = true := by decide +kernel
set_option maxHeartbeats 40000 in
set_option maxRecDepth 8000 in
theorem eX6_when_r0_in (d : Nat) (h : av_M) (p1 : Int32) : av_x (d + 1) 67 [.ref 0, .int p1] h = ((av_x d 26 [.ref 5, .int p1] h).bind fun q1 => (if q1.1 = 0 then some (((-1) : Int32), (0 : Int64), q1.2.2) else ((av_x d 45 [.ref 12, .ref 5] q1.2.2).bind fun q2 => av_xp d 67 26 [.ref 0, .int p1, .int 0] [] q2.2.2))) := (av_ent d 67 tX6_when 3 _ h tabX6_when).trans ((av_eq tX6_when 3 [26] 13 0 _ _ h tabX6_when wfX6_when rfl).trans rfl)
set_option maxHeartbeats 40000 in
set_option maxRecDepth 8000 in
theorem eX6_when_r0_26 (d : Nat) (h : av_M) (a1 : Int32) (a2 : Int32) : av_xp d 67 26 [.ref 0, .int a1, .int a2] [] h = (if 99 < a2 then some (((-2) : Int32), (0 : Int64), h) else ((av_x d 29 [.ref 12, .int a1] h).bind fun q1 => (if q1.1 = 0 then (cond (av_inb a1 7) (((av_x d 111 [.ref 0, .long (Int32.toInt64 (q1.2.2 12 10)), .long (Int32.toInt64 (q1.2.2 18 (Int32.toNatClampNeg a1)))] q1.2.2).bind fun q3 => some ((a2 : Int32), (0 : Int64), q3.2.2))) none) else ((av_x d 43 [.ref 12, .ref 19] q1.2.2).bind fun q2 => av_xp d 67 26 [.ref 0, .int a1, .int (a2 + 1)] [] q2.2.2)))) := (av_eq tX6_when 3 [26] 23 26 _ _ h tabX6_when wfX6_when rfl).trans rfl
theorem tabX6_order : av_tab 68 = (tX6_order, 6) := rfl
theorem wfX6_order : av_wf tX6_order = true := by decide +kernel
set_option maxHeartbeats 40000 in
set_option maxRecDepth 8000 in
theorem eX6_order_r0_in (d : Nat) (h : av_M) : av_x (d + 1) 68 [.ref 0] h = ((av_x d 45 [.ref 12, .ref 5] h).bind fun q1 => ((av_x d 8 [.ref 3] q1.2.2).bind fun q2 => av_xp d 68 22 [.ref 0, .int 0, .int 1, .null, .null, .null] [] q2.2.2)) := (av_ent d 68 tX6_order 6 _ h tabX6_order).trans ((av_eq tX6_order 6 [22, 63] 13 0 _ _ h tabX6_order wfX6_order rfl).trans rfl)
set_option maxHeartbeats 40000 in
set_option maxRecDepth 8000 in
theorem eX6_order_r0_22 (d : Nat) (h : av_M) (a1 : Int32) (a2 : Int32) : av_xp d 68 22 [.ref 0, .int a1, .int a2, .null, .null, .null] [] h = (if 99 < a2 then some ((a1 : Int32), (0 : Int64), h) else ((av_x d 43 [.ref 12, .ref 19] h).bind fun q1 => av_xp d 68 63 [.ref 0, .int a1, .int a2, .int (h 12 8), .int ((q1.2.2 12 8) &&& ((h 12 8) ^^^ (-1))), .int 0] [] q1.2.2)) := (av_eq tX6_order 6 [22, 63] 23 22 _ _ h tabX6_order wfX6_order rfl).trans rfl
set_option maxHeartbeats 40000 in
set_option maxRecDepth 8000 in
theorem eX6_order_r0_63 (d : Nat) (h : av_M) (a1 : Int32) (a2 : Int32) (a3 : Int32) (a4 : Int32) (a5 : Int32) : av_xp d 68 63 [.ref 0, .int a1, .int a2, .int a3, .int a4, .int a5] [] h = (if (h 12 6) ≤ a5 then av_xp d 68 22 [.ref 0, .int a1, .int (a2 + 1), .int a3, .int a4, .int a5] [] h else ((av_x d 108 [.int a4, .int a5] h).bind fun q1 => (if q1.1 = 0 then av_xp d 68 63 [.ref 0, .int a1, .int a2, .int a3, .int a4, .int (a5 + 1)] [] q1.2.2 else ((av_x d 9 [.ref 3, .long (Int32.toInt64 a5)] q1.2.2).bind fun q2 => av_xp d 68 63 [.ref 0, .int (a1 + 1), .int a2, .int a3, .int a4, .int (a5 + 1)] [] q2.2.2)))) := (av_eq tX6_order 6 [22, 63] 18 63 _ _ h tabX6_order wfX6_order rfl).trans rfl
set_option maxHeartbeats 40000 in
set_option maxRecDepth 8000 in
theorem eX6_order_r0_22_2 (d : Nat) (h : av_M) (a1 : Int32) (a2 : Int32) (a3 : Int32) (a4 : Int32) (a5 : Int32) : av_xp d 68 22 [.ref 0, .int a1, .int a2, .int a3, .int a4, .int a5] [] h = (if 99 < a2 then some ((a1 : Int32), (0 : Int64), h) else ((av_x d 43 [.ref 12, .ref 19] h).bind fun q1 => av_xp d 68 63 [.ref 0, .int a1, .int a2, .int (h 12 8), .int ((q1.2.2 12 8) &&& ((h 12 8) ^^^ (-1))), .int 0] [] q1.2.2)) := (av_eq tX6_order 6 [22, 63] 23 22 _ _ h tabX6_order wfX6_order rfl).trans rfl
theorem tabX6_gone : av_tab 69 = (tX6_gone, 2) := rfl
theorem wfX6_gone : av_wf tX6_gone = true := by decide +kernel
set_option maxHeartbeats 40000 in
set_option maxRecDepth 8000 in
theorem eX6_gone_r0_in (d : Nat) (h : av_M) : av_x (d + 1) 69 [.ref 0] h = ((av_x d 45 [.ref 12, .ref 5] h).bind fun q1 => av_xp d 69 13 [.ref 0, .int 0] [] q1.2.2) := (av_ent d 69 tX6_gone 2 _ h tabX6_gone).trans ((av_eq tX6_gone 2 [13] 8 0 _ _ h tabX6_gone wfX6_gone rfl).trans rfl)
set_option maxHeartbeats 40000 in
set_option maxRecDepth 8000 in
theorem eX6_gone_r0_13 (d : Nat) (h : av_M) (a1 : Int32) : av_xp d 69 13 [.ref 0, .int a1] [] h = (if 99 < a1 then some (((-2) : Int32), (0 : Int64), h) else ((av_x d 28 [.ref 12] h).bind fun q1 => (if q1.1 = 0 then ((av_x d 110 [.ref 0, .long (Int32.toInt64 (q1.2.2 12 10))] q1.2.2).bind fun q3 => some ((a1 : Int32), (0 : Int64), q3.2.2)) else ((av_x d 43 [.ref 12, .ref 19] q1.2.2).bind fun q2 => av_xp d 69 13 [.ref 0, .int (a1 + 1)] [] q2.2.2)))) := (av_eq tX6_gone 2 [13] 16 13 _ _ h tabX6_gone wfX6_gone rfl).trans rfl
theorem tabX6_stopped : av_tab 70 = (tX6_stopped, 6) := rfl
theorem wfX6_stopped : av_wf tX6_stopped = true := by decide +kernel
set_option maxHeartbeats 40000 in
set_option maxRecDepth 8000 in
theorem eX6_stopped_r0_in (d : Nat) (h : av_M) : av_x (d + 1) 70 [.ref 0] h = ((av_x d 45 [.ref 12, .ref 5] h).bind fun q1 => av_xp d 70 20 [.ref 0, .int 0, .int 0, .int 0, .int 1, .null] [] q1.2.2) := (av_ent d 70 tX6_stopped 6 _ h tabX6_stopped).trans ((av_eq tX6_stopped 6 [20] 14 0 _ _ h tabX6_stopped wfX6_stopped rfl).trans rfl)
set_option maxHeartbeats 40000 in
set_option maxRecDepth 8000 in
theorem eX6_stopped_r0_20 (d : Nat) (h : av_M) (a1 : Int32) (a2 : Int32) (a3 : Int32) (a4 : Int32) : av_xp d 70 20 [.ref 0, .int a1, .int a2, .int a3, .int a4, .null] [] h = (if 99 < a4 then (if a3 = 0 then some (((-2) : Int32), (0 : Int64), h) else ((av_x d 111 [.ref 0, .long (Int32.toInt64 a3), .long (Int32.toInt64 a2)] h).bind fun q1 => some ((a1 : Int32), (0 : Int64), q1.2.2))) else ((av_x d 43 [.ref 12, .ref 19] h).bind fun q2 => (if (h 12 10) < (q2.2.2 12 10) then av_xp d 70 20 [.ref 0, .int a1, .int a2, .int a3, .int (a4 + 1), .int (h 12 10)] [] q2.2.2 else (if (a3 + 1) = 1 then av_xp d 70 20 [.ref 0, .int a4, .int (q2.2.2 12 10), .int (a3 + 1), .int (a4 + 1), .int (h 12 10)] [] q2.2.2 else av_xp d 70 20 [.ref 0, .int a1, .int a2, .int (a3 + 1), .int (a4 + 1), .int (h 12 10)] [] q2.2.2)))) := (av_eq tX6_stopped 6 [20] 30 20 _ _ h tabX6_stopped wfX6_stopped rfl).trans rfl
set_option maxHeartbeats 40000 in
set_option maxRecDepth 8000 in
theorem eX6_stopped_r0_20_2 (d : Nat) (h : av_M) (a1 : Int32) (a2 : Int32) (a3 : Int32) (a4 : Int32) (a5 : Int32) : av_xp d 70 20 [.ref 0, .int a1, .int a2, .int a3, .int a4, .int a5] [] h = (if 99 < a4 then (if a3 = 0 then some (((-2) : Int32), (0 : Int64), h) else ((av_x d 111 [.ref 0, .long (Int32.toInt64 a3), .long (Int32.toInt64 a2)] h).bind fun q1 => some ((a1 : Int32), (0 : Int64), q1.2.2))) else ((av_x d 43 [.ref 12, .ref 19] h).bind fun q2 => (if (h 12 10) < (q2.2.2 12 10) then av_xp d 70 20 [.ref 0, .int a1, .int a2, .int a3, .int (a4 + 1), .int (h 12 10)] [] q2.2.2 else (if (a3 + 1) = 1 then av_xp d 70 20 [.ref 0, .int a4, .int (q2.2.2 12 10), .int (a3 + 1), .int (a4 + 1), .int (h 12 10)] [] q2.2.2 else av_xp d 70 20 [.ref 0, .int a1, .int a2, .int (a3 + 1), .int (a4 + 1), .int (h 12 10)] [] q2.2.2)))) := (av_eq tX6_stopped 6 [20] 30 20 _ _ h tabX6_stopped wfX6_stopped rfl).trans rfl
theorem tabX6_drag : av_tab 71 = (tX6_drag, 1) := rfl
theorem wfX6_drag : av_wf tX6_drag = true := by decide +kernel
set_option maxHeartbeats 40000 in
set_option maxRecDepth 8000 in
theorem eX6_drag_r0_in (d : Nat) (h : av_M) : av_x (d + 1) 71 [.ref 0] h = ((av_x d 33 [.ref 5] h).bind fun q1 => ((av_x d 28 [.ref 5] q1.2.2).bind fun q2 => ((av_x d 38 [.ref 5, .int q2.1] q2.2.2).bind fun q3 => ((av_x d 111 [.ref 0, .long (Int32.toInt64 q1.1), .long (Int32.toInt64 q3.1)] q3.2.2).bind fun q4 => ((av_x d 41 [.ref 5] q4.2.2).bind fun q5 => some ((q5.1 : Int32), (0 : Int64), q5.2.2)))))) := (av_ent d 71 tX6_drag 1 _ h tabX6_drag).trans ((av_eq tX6_drag 1 [] 18 0 _ _ h tabX6_drag wfX6_drag rfl).trans rfl)
theorem tabX6_thrift : av_tab 72 = (tX6_thrift, 6) := rfl
theorem wfX6_thrift : av_wf tX6_thrift = true := by decide +kernel
set_option maxHeartbeats 40000 in
set_option maxRecDepth 8000 in
theorem eX6_thrift_r0_in (d : Nat) (h : av_M) (p1 : Int32) (p2 : Int32) : av_x (d + 1) 72 [.ref 0, .int p1, .int p2] h = ((av_x d 26 [.ref 5, .int p1] h).bind fun q1 => (if q1.1 = 0 then some (((-1) : Int32), (0 : Int64), q1.2.2) else ((av_x d 107 [.int p2] q1.2.2).bind fun q2 => (if q2.1 = 0 then some (((-1) : Int32), (0 : Int64), q2.2.2) else av_xp d 72 30 [.ref 0, .int p1, .int p2, .int (-2), .int 0, .int 9] [] q2.2.2)))) := (av_ent d 72 tX6_thrift 6 _ h tabX6_thrift).trans ((av_eq tX6_thrift 6 [30] 15 0 _ _ h tabX6_thrift wfX6_thrift rfl).trans rfl)
set_option maxHeartbeats 40000 in
set_option maxRecDepth 8000 in
theorem eX6_thrift_r0_30 (d : Nat) (h : av_M) (a1 : Int32) (a2 : Int32) (a3 : Int32) (a4 : Int32) (a5 : Int32) : av_xp d 72 30 [.ref 0, .int a1, .int a2, .int a3, .int a4, .int a5] [] h = (if a5 < 0 then (if a4 ≤ 0 then some ((a3 : Int32), (0 : Int64), h) else ((av_x d 110 [.ref 0, .long (Int32.toInt64 a4)] h).bind fun q1 => some ((a3 : Int32), (0 : Int64), q1.2.2))) else ((av_x d 45 [.ref 12, .ref 5] h).bind fun q2 => (cond (av_inb a1 7) (((av_x d 130 [.ref 0, .int a1, .int a2] (av_u q2.2.2 16 (Int32.toNatClampNeg a1) a5)).bind fun q3 => (if q3.1 = a2 then av_xp d 72 30 [.ref 0, .int a1, .int a2, .int a5, .int (a4 + 1), .int (a5 + (-1))] [] q3.2.2 else av_xp d 72 30 [.ref 0, .int a1, .int a2, .int a3, .int a4, .int (a5 + (-1))] [] q3.2.2))) none))) := (av_eq tX6_thrift 6 [30] 25 30 _ _ h tabX6_thrift wfX6_thrift rfl).trans rfl
theorem tabX6_mole : av_tab 73 = (tX6_mole, 7) := rfl
theorem wfX6_mole : av_wf tX6_mole = true := by decide +kernel
set_option maxHeartbeats 40000 in
set_option maxRecDepth 8000 in
theorem eX6_mole_r0_in (d : Nat) (h : av_M) (p1 : Int32) (p2 : Int32) : av_x (d + 1) 73 [.ref 0, .int p1, .int p2] h = ((av_x d 26 [.ref 5, .int p1] h).bind fun q1 => (if q1.1 = 0 then some (((-1) : Int32), (0 : Int64), q1.2.2) else ((av_x d 107 [.int p2] q1.2.2).bind fun q2 => (if q2.1 = 0 then some (((-1) : Int32), (0 : Int64), q2.2.2) else av_xp d 73 28 [.ref 0, .int p1, .int p2, .int 0, .int (-1), .int 0, .null] [] q2.2.2)))) := (av_ent d 73 tX6_mole 7 _ h tabX6_mole).trans ((av_eq tX6_mole 7 [28] 15 0 _ _ h tabX6_mole wfX6_mole rfl).trans rfl)
set_option maxHeartbeats 40000 in
set_option maxRecDepth 8000 in
theorem eX6_mole_r0_28 (d : Nat) (h : av_M) (a1 : Int32) (a2 : Int32) (a3 : Int32) (a4 : Int32) (a5 : Int32) : av_xp d 73 28 [.ref 0, .int a1, .int a2, .int a3, .int a4, .int a5, .null] [] h = (if 9 < a5 then ((av_x d 45 [.ref 12, .ref 5] h).bind fun q1 => ((av_x d 130 [.ref 0, .int a1, .int a2] q1.2.2).bind fun q2 => ((av_x d 111 [.ref 0, .long (Int32.toInt64 a4), .long (Int32.toInt64 q2.1)] q2.2.2).bind fun q3 => some ((a3 : Int32), (0 : Int64), q3.2.2)))) else ((av_x d 45 [.ref 12, .ref 5] h).bind fun q4 => (cond (av_inb a1 7) (((av_x d 130 [.ref 0, .int a1, .int a2] (av_u q4.2.2 17 (Int32.toNatClampNeg a1) a5)).bind fun q5 => (if q5.1 ≤ a4 then av_xp d 73 28 [.ref 0, .int a1, .int a2, .int a3, .int a4, .int (a5 + 1), .int q5.1] [] q5.2.2 else av_xp d 73 28 [.ref 0, .int a1, .int a2, .int a5, .int q5.1, .int (a5 + 1), .int q5.1] [] q5.2.2))) none))) := (av_eq tX6_mole 7 [28] 29 28 _ _ h tabX6_mole wfX6_mole rfl).trans rfl
set_option maxHeartbeats 40000 in
set_option maxRecDepth 8000 in
theorem eX6_mole_r0_28_2 (d : Nat) (h : av_M) (a1 : Int32) (a2 : Int32) (a3 : Int32) (a4 : Int32) (a5 : Int32) (a6 : Int32) : av_xp d 73 28 [.ref 0, .int a1, .int a2, .int a3, .int a4, .int a5, .int a6] [] h = (if 9 < a5 then ((av_x d 45 [.ref 12, .ref 5] h).bind fun q1 => ((av_x d 130 [.ref 0, .int a1, .int a2] q1.2.2).bind fun q2 => ((av_x d 111 [.ref 0, .long (Int32.toInt64 a4), .long (Int32.toInt64 q2.1)] q2.2.2).bind fun q3 => some ((a3 : Int32), (0 : Int64), q3.2.2)))) else ((av_x d 45 [.ref 12, .ref 5] h).bind fun q4 => (cond (av_inb a1 7) (((av_x d 130 [.ref 0, .int a1, .int a2] (av_u q4.2.2 17 (Int32.toNatClampNeg a1) a5)).bind fun q5 => (if q5.1 ≤ a4 then av_xp d 73 28 [.ref 0, .int a1, .int a2, .int a3, .int a4, .int (a5 + 1), .int q5.1] [] q5.2.2 else av_xp d 73 28 [.ref 0, .int a1, .int a2, .int a5, .int q5.1, .int (a5 + 1), .int q5.1] [] q5.2.2))) none))) := (av_eq tX6_mole 7 [28] 29 28 _ _ h tabX6_mole wfX6_mole rfl).trans rfl
theorem tabX6_slows : av_tab 74 = (tX6_slows, 5) := rfl
theorem wfX6_slows : av_wf tX6_slows = true := by decide +kernel
set_option maxHeartbeats 40000 in
set_option maxRecDepth 8000 in
theorem eX6_slows_r0_in (d : Nat) (h : av_M) (p1 : Int32) (p2 : Int32) : av_x (d + 1) 74 [.ref 0, .int p1, .int p2] h = (if p1 < 0 then some (((-1) : Int32), (0 : Int64), h) else (if 7 < p1 then some (((-1) : Int32), (0 : Int64), h) else ((av_x d 107 [.int p2] h).bind fun q1 => (if q1.1 = 0 then some (((-1) : Int32), (0 : Int64), q1.2.2) else av_xp d 74 22 [.ref 0, .int p1, .int p2, .int 9, .null] [] q1.2.2)))) := (av_ent d 74 tX6_slows 5 _ h tabX6_slows).trans ((av_eq tX6_slows 5 [22] 11 0 _ _ h tabX6_slows wfX6_slows rfl).trans rfl)
set_option maxHeartbeats 40000 in
set_option maxRecDepth 8000 in
theorem eX6_slows_r0_22 (d : Nat) (h : av_M) (a1 : Int32) (a2 : Int32) (a3 : Int32) : av_xp d 74 22 [.ref 0, .int a1, .int a2, .int a3, .null] [] h = (if a3 < 0 then some (((-2) : Int32), (0 : Int64), h) else ((av_x d 131 [.ref 0, .int a3, .int a2] h).bind fun q1 => (if q1.1 < a1 then av_xp d 74 22 [.ref 0, .int a1, .int a2, .int (a3 + (-1)), .int q1.1] [] q1.2.2 else ((av_x d 131 [.ref 0, .int (q1.2.2 5 11), .int a2] q1.2.2).bind fun q2 => ((av_x d 111 [.ref 0, .long (Int32.toInt64 q1.1), .long (Int32.toInt64 q2.1)] q2.2.2).bind fun q3 => some ((a3 : Int32), (0 : Int64), q3.2.2)))))) := (av_eq tX6_slows 5 [22] 24 22 _ _ h tabX6_slows wfX6_slows rfl).trans rfl
set_option maxHeartbeats 40000 in
set_option maxRecDepth 8000 in
theorem eX6_slows_r0_22_2 (d : Nat) (h : av_M) (a1 : Int32) (a2 : Int32) (a3 : Int32) (a4 : Int32) : av_xp d 74 22 [.ref 0, .int a1, .int a2, .int a3, .int a4] [] h = (if a3 < 0 then some (((-2) : Int32), (0 : Int64), h) else ((av_x d 131 [.ref 0, .int a3, .int a2] h).bind fun q1 => (if q1.1 < a1 then av_xp d 74 22 [.ref 0, .int a1, .int a2, .int (a3 + (-1)), .int q1.1] [] q1.2.2 else ((av_x d 131 [.ref 0, .int (q1.2.2 5 11), .int a2] q1.2.2).bind fun q2 => ((av_x d 111 [.ref 0, .long (Int32.toInt64 q1.1), .long (Int32.toInt64 q2.1)] q2.2.2).bind fun q3 => some ((a3 : Int32), (0 : Int64), q3.2.2)))))) := (av_eq tX6_slows 5 [22] 24 22 _ _ h tabX6_slows wfX6_slows rfl).trans rfl
theorem tabX6_halts : av_tab 75 = (tX6_halts, 6) := rfl
theorem wfX6_halts : av_wf tX6_halts = true := by decide +kernel
set_option maxHeartbeats 40000 in
set_option maxRecDepth 8000 in
theorem eX6_halts_r0_in (d : Nat) (h : av_M) : av_x (d + 1) 75 [.ref 0] h = ((av_x d 28 [.ref 5] h).bind fun q1 => av_xp d 75 16 [.ref 0, .int q1.1, .int 8, .int 0, .int 0, .null] [] q1.2.2) := (av_ent d 75 tX6_halts 6 _ h tabX6_halts).trans ((av_eq tX6_halts 6 [16] 11 0 _ _ h tabX6_halts wfX6_halts rfl).trans rfl)
set_option maxHeartbeats 40000 in
set_option maxRecDepth 8000 in
theorem eX6_halts_r0_16 (d : Nat) (h : av_M) (a1 : Int32) (a2 : Int32) (a3 : Int32) (a4 : Int32) : av_xp d 75 16 [.ref 0, .int a1, .int a2, .int a3, .int a4, .null] [] h = (if 128 ≤ a4 then ((av_x d 113 [.ref 0, .int a2, .int a3] h).bind fun q1 => some ((q1.1 : Int32), (0 : Int64), q1.2.2)) else ((av_x d 109 [.int a4, .int a1] h).bind fun q2 => (if q2.1 = 0 then av_xp d 75 16 [.ref 0, .int a1, .int a2, .int a3, .int (a4 + 1), .int 0] [] q2.2.2 else ((av_x d 275 [.int a4] q2.2.2).bind fun q3 => (if a2 ≤ q3.1 then av_xp d 75 16 [.ref 0, .int a1, .int a2, .int a3, .int (a4 + 1), .int 0] [] q3.2.2 else ((av_x d 38 [.ref 5, .int a4] q3.2.2).bind fun q4 => (if (q4.1 / 5) < (q4.2.2 5 11) then av_xp d 75 16 [.ref 0, .int a1, .int a2, .int a3, .int (a4 + 1), .int 1] [] q4.2.2 else ((av_x d 275 [.int a4] q4.2.2).bind fun q5 => av_xp d 75 16 [.ref 0, .int a1, .int q5.1, .int a4, .int (a4 + 1), .int 1] [] q5.2.2)))))))) := (av_eq tX6_halts 6 [16] 34 16 _ _ h tabX6_halts wfX6_halts rfl).trans rfl
set_option maxHeartbeats 40000 in
set_option maxRecDepth 8000 in
theorem eX6_halts_r0_16_2 (d : Nat) (h : av_M) (a1 : Int32) (a2 : Int32) (a3 : Int32) (a4 : Int32) (a5 : Int32) : av_xp d 75 16 [.ref 0, .int a1, .int a2, .int a3, .int a4, .int a5] [] h = (if 128 ≤ a4 then ((av_x d 113 [.ref 0, .int a2, .int a3] h).bind fun q1 => some ((q1.1 : Int32), (0 : Int64), q1.2.2)) else ((av_x d 109 [.int a4, .int a1] h).bind fun q2 => (if q2.1 = 0 then av_xp d 75 16 [.ref 0, .int a1, .int a2, .int a3, .int (a4 + 1), .int 0] [] q2.2.2 else ((av_x d 275 [.int a4] q2.2.2).bind fun q3 => (if a2 ≤ q3.1 then av_xp d 75 16 [.ref 0, .int a1, .int a2, .int a3, .int (a4 + 1), .int 0] [] q3.2.2 else ((av_x d 38 [.ref 5, .int a4] q3.2.2).bind fun q4 => (if (q4.1 / 5) < (q4.2.2 5 11) then av_xp d 75 16 [.ref 0, .int a1, .int a2, .int a3, .int (a4 + 1), .int 1] [] q4.2.2 else ((av_x d 275 [.int a4] q4.2.2).bind fun q5 => av_xp d 75 16 [.ref 0, .int a1, .int q5.1, .int a4, .int (a4 + 1), .int 1] [] q5.2.2)))))))) := (av_eq tX6_halts 6 [16] 34 16 _ _ h tabX6_halts wfX6_halts rfl).trans rfl
theorem tabX6_frees : av_tab 76 = (tX6_frees, 8) := rfl
theorem wfX6_frees : av_wf tX6_frees = true := by decide +kernel
set_option maxHeartbeats 40000 in
set_option maxRecDepth 8000 in
theorem eX6_frees_r0_in (d : Nat) (h : av_M) (p1 : Int32) (p2 : Int32) : av_x (d + 1) 76 [.ref 0, .int p1, .int p2] h = ((av_x d 26 [.ref 5, .int p1] h).bind fun q1 => (if q1.1 = 0 then some (((-1) : Int32), (0 : Int64), q1.2.2) else ((av_x d 107 [.int p2] q1.2.2).bind fun q2 => (if q2.1 = 0 then some (((-1) : Int32), (0 : Int64), q2.2.2) else ((av_x d 28 [.ref 5] q2.2.2).bind fun q3 => av_xp d 76 44 [.ref 0, .int p1, .int p2, .int (q3.1 &&& ((1 <<< (p1 &&& 31)) ^^^ (-1))), .int 8, .int 0, .int 0, .null] [] q3.2.2))))) := (av_ent d 76 tX6_frees 8 _ h tabX6_frees).trans ((av_eq tX6_frees 8 [44] 25 0 _ _ h tabX6_frees wfX6_frees rfl).trans rfl)
set_option maxHeartbeats 40000 in
set_option maxRecDepth 8000 in
theorem eX6_frees_r0_44 (d : Nat) (h : av_M) (a1 : Int32) (a2 : Int32) (a3 : Int32) (a4 : Int32) (a5 : Int32) (a6 : Int32) : av_xp d 76 44 [.ref 0, .int a1, .int a2, .int a3, .int a4, .int a5, .int a6, .null] [] h = (if 128 ≤ a6 then ((av_x d 113 [.ref 0, .int a4, .int a5] h).bind fun q1 => some ((q1.1 : Int32), (0 : Int64), q1.2.2)) else ((av_x d 109 [.int a6, .int a3] h).bind fun q2 => (if q2.1 = 0 then av_xp d 76 44 [.ref 0, .int a1, .int a2, .int a3, .int a4, .int a5, .int (a6 + 1), .int 0] [] q2.2.2 else ((av_x d 275 [.int a6] q2.2.2).bind fun q3 => (if a4 ≤ q3.1 then av_xp d 76 44 [.ref 0, .int a1, .int a2, .int a3, .int a4, .int a5, .int (a6 + 1), .int 0] [] q3.2.2 else ((av_x d 132 [.ref 0, .int a1, .int a6, .int a2] q3.2.2).bind fun q4 => (if q4.1 = 0 then av_xp d 76 44 [.ref 0, .int a1, .int a2, .int a3, .int a4, .int a5, .int (a6 + 1), .int 1] [] q4.2.2 else ((av_x d 275 [.int a6] q4.2.2).bind fun q5 => av_xp d 76 44 [.ref 0, .int a1, .int a2, .int a3, .int q5.1, .int a6, .int (a6 + 1), .int 1] [] q5.2.2)))))))) := (av_eq tX6_frees 8 [44] 30 44 _ _ h tabX6_frees wfX6_frees rfl).trans rfl
set_option maxHeartbeats 40000 in
set_option maxRecDepth 8000 in
theorem eX6_frees_r0_44_2 (d : Nat) (h : av_M) (a1 : Int32) (a2 : Int32) (a3 : Int32) (a4 : Int32) (a5 : Int32) (a6 : Int32) (a7 : Int32) : av_xp d 76 44 [.ref 0, .int a1, .int a2, .int a3, .int a4, .int a5, .int a6, .int a7] [] h = (if 128 ≤ a6 then ((av_x d 113 [.ref 0, .int a4, .int a5] h).bind fun q1 => some ((q1.1 : Int32), (0 : Int64), q1.2.2)) else ((av_x d 109 [.int a6, .int a3] h).bind fun q2 => (if q2.1 = 0 then av_xp d 76 44 [.ref 0, .int a1, .int a2, .int a3, .int a4, .int a5, .int (a6 + 1), .int 0] [] q2.2.2 else ((av_x d 275 [.int a6] q2.2.2).bind fun q3 => (if a4 ≤ q3.1 then av_xp d 76 44 [.ref 0, .int a1, .int a2, .int a3, .int a4, .int a5, .int (a6 + 1), .int 0] [] q3.2.2 else ((av_x d 132 [.ref 0, .int a1, .int a6, .int a2] q3.2.2).bind fun q4 => (if q4.1 = 0 then av_xp d 76 44 [.ref 0, .int a1, .int a2, .int a3, .int a4, .int a5, .int (a6 + 1), .int 1] [] q4.2.2 else ((av_x d 275 [.int a6] q4.2.2).bind fun q5 => av_xp d 76 44 [.ref 0, .int a1, .int a2, .int a3, .int q5.1, .int a6, .int (a6 + 1), .int 1] [] q5.2.2)))))))) := (av_eq tX6_frees 8 [44] 30 44 _ _ h tabX6_frees wfX6_frees rfl).trans rfl
theorem tabX6_power : av_tab 77 = (tX6_power, 5) := rfl
theorem wfX6_power : av_wf tX6_power = true := by decide +kernel
set_option maxHeartbeats 40000 in
set_option maxRecDepth 8000 in
theorem eX6_power_r0_in (d : Nat) (h : av_M) (p1 : Int32) : av_x (d + 1) 77 [.ref 0, .int p1] h = ((av_x d 26 [.ref 5, .int p1] h).bind fun q1 => (if q1.1 = 0 then some (((-1) : Int32), (0 : Int64), q1.2.2) else ((av_x d 29 [.ref 5, .int p1] q1.2.2).bind fun q2 => (if q2.1 = 0 then some (((-2) : Int32), (0 : Int64), q2.2.2) else ((av_x d 28 [.ref 5] q2.2.2).bind fun q3 => av_xp d 77 46 [.ref 0, .int p1, .int (q3.1 &&& ((1 <<< (p1 &&& 31)) ^^^ (-1))), .int 0, .int 0] [] q3.2.2))))) := (av_ent d 77 tX6_power 5 _ h tabX6_power).trans ((av_eq tX6_power 5 [46] 25 0 _ _ h tabX6_power wfX6_power rfl).trans rfl)
set_option maxHeartbeats 40000 in
set_option maxRecDepth 8000 in
theorem eX6_power_r0_46 (d : Nat) (h : av_M) (a1 : Int32) (a2 : Int32) (a3 : Int32) (a4 : Int32) : av_xp d 77 46 [.ref 0, .int a1, .int a2, .int a3, .int a4] [] h = (if 128 ≤ a4 then ((av_x d 275 [.int a2] h).bind fun q1 => ((av_x d 112 [.ref 0, .long (Int32.toInt64 a3), .long (1 <<< (Int32.toInt64 q1.1 &&& 63))] q1.2.2).bind fun q2 => some ((0 : Int32), (0 : Int64), q2.2.2))) else ((av_x d 109 [.int a4, .int a2] h).bind fun q3 => (if q3.1 = 0 then av_xp d 77 46 [.ref 0, .int a1, .int a2, .int a3, .int (a4 + 1)] [] q3.2.2 else ((av_x d 133 [.ref 0, .int a4, .int a1] q3.2.2).bind fun q4 => (if q4.1 = 0 then av_xp d 77 46 [.ref 0, .int a1, .int a2, .int a3, .int (a4 + 1)] [] q4.2.2 else av_xp d 77 46 [.ref 0, .int a1, .int a2, .int (a3 + 1), .int (a4 + 1)] [] q4.2.2))))) := (av_eq tX6_power 5 [46] 16 46 _ _ h tabX6_power wfX6_power rfl).trans rfl
theorem tabX6_pivots : av_tab 78 = (tX6_pivots, 8) := rfl
theorem wfX6_pivots : av_wf tX6_pivots = true := by decide +kernel
set_option maxHeartbeats 40000 in
set_option maxRecDepth 8000 in
theorem eX6_pivots_r0_in (d : Nat) (h : av_M) (p1 : Int32) : av_x (d + 1) 78 [.ref 0, .int p1] h = ((av_x d 26 [.ref 5, .int p1] h).bind fun q1 => (if q1.1 = 0 then some (((-1) : Int32), (0 : Int64), q1.2.2) else ((av_x d 29 [.ref 5, .int p1] q1.2.2).bind fun q2 => (if q2.1 = 0 then some (((-2) : Int32), (0 : Int64), q2.2.2) else ((av_x d 28 [.ref 5] q2.2.2).bind fun q3 => ((av_x d 275 [.int (q3.1 &&& ((1 <<< (p1 &&& 31)) ^^^ (-1)))] q3.2.2).bind fun q4 => av_xp d 78 52 [.ref 0, .int p1, .int (q3.1 &&& ((1 <<< (p1 &&& 31)) ^^^ (-1))), .int q4.1, .long 0, .null, .int 0, .null] [] q4.2.2)))))) := (av_ent d 78 tX6_pivots 8 _ h tabX6_pivots).trans ((av_eq tX6_pivots 8 [52] 28 0 _ _ h tabX6_pivots wfX6_pivots rfl).trans rfl)
set_option maxHeartbeats 40000 in
set_option maxRecDepth 8000 in
theorem eX6_pivots_r0_52 (d : Nat) (h : av_M) (a1 : Int32) (a2 : Int32) (a3 : Int32) (a4 : Int64) (a6 : Int32) : av_xp d 78 52 [.ref 0, .int a1, .int a2, .int a3, .long a4, .null, .int a6, .null] [] h = (if 128 ≤ a6 then ((av_x d 135 [.int (a3 + 1)] h).bind fun q1 => ((av_x d 112 [.ref 0, .long a4, .long q1.2.1] q1.2.2).bind fun q2 => some ((0 : Int32), (0 : Int64), q2.2.2))) else ((av_x d 109 [.int a6, .int a2] h).bind fun q3 => (if q3.1 = 0 then av_xp d 78 52 [.ref 0, .int a1, .int a2, .int a3, .long a4, .null, .int (a6 + 1), .null] [] q3.2.2 else ((av_x d 133 [.ref 0, .int a6, .int a1] q3.2.2).bind fun q4 => (if q4.1 = 0 then av_xp d 78 52 [.ref 0, .int a1, .int a2, .int a3, .long a4, .null, .int (a6 + 1), .null] [] q4.2.2 else ((av_x d 275 [.int a6] q4.2.2).bind fun q5 => ((av_x d 135 [.int q5.1] q5.2.2).bind fun q6 => ((av_x d 135 [.int (a3 - q5.1)] q6.2.2).bind fun q7 => av_xp d 78 52 [.ref 0, .int a1, .int a2, .int a3, .long (a4 + (q6.2.1 * q7.2.1)), .null, .int (a6 + 1), .int q5.1] [] q7.2.2)))))))) := (av_eq tX6_pivots 8 [52] 28 52 _ _ h tabX6_pivots wfX6_pivots rfl).trans rfl
set_option maxHeartbeats 40000 in
set_option maxRecDepth 8000 in
theorem eX6_pivots_r0_52_2 (d : Nat) (h : av_M) (a1 : Int32) (a2 : Int32) (a3 : Int32) (a4 : Int64) (a6 : Int32) (a7 : Int32) : av_xp d 78 52 [.ref 0, .int a1, .int a2, .int a3, .long a4, .null, .int a6, .int a7] [] h = (if 128 ≤ a6 then ((av_x d 135 [.int (a3 + 1)] h).bind fun q1 => ((av_x d 112 [.ref 0, .long a4, .long q1.2.1] q1.2.2).bind fun q2 => some ((0 : Int32), (0 : Int64), q2.2.2))) else ((av_x d 109 [.int a6, .int a2] h).bind fun q3 => (if q3.1 = 0 then av_xp d 78 52 [.ref 0, .int a1, .int a2, .int a3, .long a4, .null, .int (a6 + 1), .int a7] [] q3.2.2 else ((av_x d 133 [.ref 0, .int a6, .int a1] q3.2.2).bind fun q4 => (if q4.1 = 0 then av_xp d 78 52 [.ref 0, .int a1, .int a2, .int a3, .long a4, .null, .int (a6 + 1), .int a7] [] q4.2.2 else ((av_x d 275 [.int a6] q4.2.2).bind fun q5 => ((av_x d 135 [.int q5.1] q5.2.2).bind fun q6 => ((av_x d 135 [.int (a3 - q5.1)] q6.2.2).bind fun q7 => av_xp d 78 52 [.ref 0, .int a1, .int a2, .int a3, .long (a4 + (q6.2.1 * q7.2.1)), .null, .int (a6 + 1), .int q5.1] [] q7.2.2)))))))) := (av_eq tX6_pivots 8 [52] 28 52 _ _ h tabX6_pivots wfX6_pivots rfl).trans rfl
theorem tabX6_colours : av_tab 79 = (tX6_colours, 5) := rfl
theorem wfX6_colours : av_wf tX6_colours = true := by decide +kernel
set_option maxHeartbeats 40000 in
set_option maxRecDepth 8000 in
theorem eX6_colours_r0_in (d : Nat) (h : av_M) : av_x (d + 1) 79 [.ref 0] h = ((av_x d 8 [.ref 3] h).bind fun q1 => av_xp d 79 13 [.ref 0, .int 0, .int (-1), .int 0, .null] [] q1.2.2) := (av_ent d 79 tX6_colours 5 _ h tabX6_colours).trans ((av_eq tX6_colours 5 [13] 10 0 _ _ h tabX6_colours wfX6_colours rfl).trans rfl)
set_option maxHeartbeats 40000 in
set_option maxRecDepth 8000 in
theorem eX6_colours_r0_13 (d : Nat) (h : av_M) (a1 : Int32) (a2 : Int32) (a3 : Int32) : av_xp d 79 13 [.ref 0, .int a1, .int a2, .int a3, .null] [] h = (if 4 ≤ a3 then some ((a1 : Int32), (0 : Int64), h) else ((av_x d 28 [.ref 5] h).bind fun q1 => ((av_x d 34 [.ref 5, .int a3] q1.2.2).bind fun q2 => ((av_x d 38 [.ref 5, .int (q1.1 &&& q2.1)] q2.2.2).bind fun q3 => ((av_x d 9 [.ref 3, .long (Int32.toInt64 q3.1)] q3.2.2).bind fun q4 => (if q3.1 ≤ a2 then av_xp d 79 13 [.ref 0, .int a1, .int a2, .int (a3 + 1), .int q3.1] [] q4.2.2 else av_xp d 79 13 [.ref 0, .int a3, .int q3.1, .int (a3 + 1), .int q3.1] [] q4.2.2)))))) := (av_eq tX6_colours 5 [13] 30 13 _ _ h tabX6_colours wfX6_colours rfl).trans rfl
set_option maxHeartbeats 40000 in
set_option maxRecDepth 8000 in
theorem eX6_colours_r0_13_2 (d : Nat) (h : av_M) (a1 : Int32) (a2 : Int32) (a3 : Int32) (a4 : Int32) : av_xp d 79 13 [.ref 0, .int a1, .int a2, .int a3, .int a4] [] h = (if 4 ≤ a3 then some ((a1 : Int32), (0 : Int64), h) else ((av_x d 28 [.ref 5] h).bind fun q1 => ((av_x d 34 [.ref 5, .int a3] q1.2.2).bind fun q2 => ((av_x d 38 [.ref 5, .int (q1.1 &&& q2.1)] q2.2.2).bind fun q3 => ((av_x d 9 [.ref 3, .long (Int32.toInt64 q3.1)] q3.2.2).bind fun q4 => (if q3.1 ≤ a2 then av_xp d 79 13 [.ref 0, .int a1, .int a2, .int (a3 + 1), .int q3.1] [] q4.2.2 else av_xp d 79 13 [.ref 0, .int a3, .int q3.1, .int (a3 + 1), .int q3.1] [] q4.2.2)))))) := (av_eq tX6_colours 5 [13] 30 13 _ _ h tabX6_colours wfX6_colours rfl).trans rfl
theorem tabX6_parties : av_tab 80 = (tX6_parties, 7) := rfl
theorem wfX6_parties : av_wf tX6_parties = true := by decide +kernel
set_option maxHeartbeats 40000 in
set_option maxRecDepth 8000 in
theorem eX6_parties_r0_in (d : Nat) (h : av_M) : av_x (d + 1) 80 [.ref 0] h = ((av_x d 28 [.ref 5] h).bind fun q1 => ((av_x d 38 [.ref 5, .int q1.1] q1.2.2).bind fun q2 => av_xp d 80 27 [.ref 0, .int q1.1, .int q2.1, .int (q2.1 + 1), .int 0, .int 0, .null] [] q2.2.2)) := (av_ent d 80 tX6_parties 7 _ h tabX6_parties).trans ((av_eq tX6_parties 7 [27] 18 0 _ _ h tabX6_parties wfX6_parties rfl).trans rfl)
set_option maxHeartbeats 40000 in
set_option maxRecDepth 8000 in
theorem eX6_parties_r0_27 (d : Nat) (h : av_M) (a1 : Int32) (a2 : Int32) (a3 : Int32) (a4 : Int32) (a5 : Int32) : av_xp d 80 27 [.ref 0, .int a1, .int a2, .int a3, .int a4, .int a5, .null] [] h = (if 128 ≤ a5 then ((av_x d 38 [.ref 5, .int a4] h).bind fun q1 => ((av_x d 111 [.ref 0, .long (Int32.toInt64 a4), .long (Int32.toInt64 q1.1)] q1.2.2).bind fun q2 => some ((a3 : Int32), (0 : Int64), q2.2.2))) else ((av_x d 109 [.int a5, .int a1] h).bind fun q3 => (if q3.1 = 0 then av_xp d 80 27 [.ref 0, .int a1, .int a2, .int a3, .int a4, .int (a5 + 1), .null] [] q3.2.2 else ((av_x d 38 [.ref 5, .int a5] q3.2.2).bind fun q4 => (if a3 ≤ (av_abs (a2 - (2 * q4.1))) then av_xp d 80 27 [.ref 0, .int a1, .int a2, .int a3, .int a4, .int (a5 + 1), .int (av_abs (a2 - (2 * q4.1)))] [] q4.2.2 else av_xp d 80 27 [.ref 0, .int a1, .int a2, .int (av_abs (a2 - (2 * q4.1))), .int a5, .int (a5 + 1), .int (av_abs (a2 - (2 * q4.1)))] [] q4.2.2))))) := (av_eq tX6_parties 7 [27] 27 27 _ _ h tabX6_parties wfX6_parties rfl).trans rfl
set_option maxHeartbeats 40000 in
set_option maxRecDepth 8000 in
theorem eX6_parties_r0_27_2 (d : Nat) (h : av_M) (a1 : Int32) (a2 : Int32) (a3 : Int32) (a4 : Int32) (a5 : Int32) (a6 : Int32) : av_xp d 80 27 [.ref 0, .int a1, .int a2, .int a3, .int a4, .int a5, .int a6] [] h = (if 128 ≤ a5 then ((av_x d 38 [.ref 5, .int a4] h).bind fun q1 => ((av_x d 111 [.ref 0, .long (Int32.toInt64 a4), .long (Int32.toInt64 q1.1)] q1.2.2).bind fun q2 => some ((a3 : Int32), (0 : Int64), q2.2.2))) else ((av_x d 109 [.int a5, .int a1] h).bind fun q3 => (if q3.1 = 0 then av_xp d 80 27 [.ref 0, .int a1, .int a2, .int a3, .int a4, .int (a5 + 1), .int a6] [] q3.2.2 else ((av_x d 38 [.ref 5, .int a5] q3.2.2).bind fun q4 => (if a3 ≤ (av_abs (a2 - (2 * q4.1))) then av_xp d 80 27 [.ref 0, .int a1, .int a2, .int a3, .int a4, .int (a5 + 1), .int (av_abs (a2 - (2 * q4.1)))] [] q4.2.2 else av_xp d 80 27 [.ref 0, .int a1, .int a2, .int (av_abs (a2 - (2 * q4.1))), .int a5, .int (a5 + 1), .int (av_abs (a2 - (2 * q4.1)))] [] q4.2.2))))) := (av_eq tX6_parties 7 [27] 27 27 _ _ h tabX6_parties wfX6_parties rfl).trans rfl
theorem tabX6_ends : av_tab 81 = (tX6_ends, 8) := rfl
theorem wfX6_ends : av_wf tX6_ends = true := by decide +kernel
set_option maxHeartbeats 40000 in
set_option maxRecDepth 8000 in
theorem eX6_ends_r0_in (d : Nat) (h : av_M) (p1 : Int32) (p2 : Int32) (p3 : Int32) (p4 : Int32) : av_x (d + 1) 81 [.ref 0, .int p1, .int p2, .int p3, .int p4] h = ((av_x d 137 [.int p1] h).bind fun q1 => (if q1.1 = 0 then some (((-1) : Int32), (0 : Int64), q1.2.2) else ((av_x d 137 [.int p2] q1.2.2).bind fun q2 => (if q2.1 = 0 then some (((-1) : Int32), (0 : Int64), q2.2.2) else ((av_x d 137 [.int p3] q2.2.2).bind fun q3 => (if q3.1 = 0 then some (((-1) : Int32), (0 : Int64), q3.2.2) else ((av_x d 137 [.int p4] q3.2.2).bind fun q4 => (if q4.1 = 0 then some (((-1) : Int32), (0 : Int64), q4.2.2) else ((av_x d 28 [.ref 5] q4.2.2).bind fun q5 => ((av_x d 8 [.ref 3] q5.2.2).bind fun q6 => av_xp d 81 63 [.ref 0, .int p1, .int p2, .int p3, .int p4, .int ((q4.2.2 5 7) &&& (q5.1 ^^^ (-1))), .int 0, .int 0] [] q6.2.2)))))))))) := (av_ent d 81 tX6_ends 8 _ h tabX6_ends).trans ((av_eq tX6_ends 8 [63] 30 0 _ _ h tabX6_ends wfX6_ends rfl).trans rfl)
set_option maxHeartbeats 40000 in
set_option maxRecDepth 8000 in
theorem eX6_ends_r0_63 (d : Nat) (h : av_M) (a1 : Int32) (a2 : Int32) (a3 : Int32) (a4 : Int32) (a5 : Int32) (a6 : Int32) (a7 : Int32) : av_xp d 81 63 [.ref 0, .int a1, .int a2, .int a3, .int a4, .int a5, .int a6, .int a7] [] h = (if 128 ≤ a7 then some ((a6 : Int32), (0 : Int64), h) else ((av_x d 109 [.int a7, .int a5] h).bind fun q1 => (if q1.1 = 0 then av_xp d 81 63 [.ref 0, .int a1, .int a2, .int a3, .int a4, .int a5, .int a6, .int (a7 + 1)] [] q1.2.2 else ((av_x d 138 [.ref 0, .int a7, .int a1, .int a2, .int a3, .int a4] q1.2.2).bind fun q2 => (if q2.1 = 0 then av_xp d 81 63 [.ref 0, .int a1, .int a2, .int a3, .int a4, .int a5, .int a6, .int (a7 + 1)] [] q2.2.2 else (if a6 = 0 then ((av_x d 9 [.ref 3, .long (Int32.toInt64 a7)] q2.2.2).bind fun q3 => av_xp d 81 63 [.ref 0, .int a1, .int a2, .int a3, .int a4, .int a5, .int (a6 + 1), .int (a7 + 1)] [] q3.2.2) else av_xp d 81 63 [.ref 0, .int a1, .int a2, .int a3, .int a4, .int a5, .int (a6 + 1), .int (a7 + 1)] [] q2.2.2)))))) := (av_eq tX6_ends 8 [63] 26 63 _ _ h tabX6_ends wfX6_ends rfl).trans rfl
theorem tabX6_just : av_tab 82 = (tX6_just, 6) := rfl
theorem wfX6_just : av_wf tX6_just = true := by decide +kernel
set_option maxHeartbeats 40000 in
set_option maxRecDepth 8000 in
theorem eX6_just_r0_in (d : Nat) (h : av_M) (p1 : Int32) : av_x (d + 1) 82 [.ref 0, .int p1] h = (if p1 < 0 then some (((-1) : Int32), (0 : Int64), h) else (if p1 ≤ 9999 then av_xp d 82 24 [.ref 0, .int p1, .int 8, .int 0, .int 0, .int 0] [] h else some (((-1) : Int32), (0 : Int64), h))) := (av_ent d 82 tX6_just 6 _ h tabX6_just).trans ((av_eq tX6_just 6 [24] 14 0 _ _ h tabX6_just wfX6_just rfl).trans rfl)
set_option maxHeartbeats 40000 in
set_option maxRecDepth 8000 in
theorem eX6_just_r0_24 (d : Nat) (h : av_M) (a1 : Int32) (a2 : Int32) (a3 : Int32) (a4 : Int32) (a5 : Int32) : av_xp d 82 24 [.ref 0, .int a1, .int a2, .int a3, .int a4, .int a5] [] h = (if 128 ≤ a5 then (if a4 = 0 then some (((-2) : Int32), (0 : Int64), h) else ((av_x d 111 [.ref 0, .long (Int32.toInt64 a3), .long (Int32.toInt64 a4)] h).bind fun q1 => some ((a2 : Int32), (0 : Int64), q1.2.2))) else ((av_x d 109 [.int a5, .int (h 5 7)] h).bind fun q2 => (if q2.1 = 0 then av_xp d 82 24 [.ref 0, .int a1, .int a2, .int a3, .int a4, .int (a5 + 1)] [] q2.2.2 else ((av_x d 39 [.ref 5, .int a5] q2.2.2).bind fun q3 => (if q3.1 = a1 then ((av_x d 275 [.int a5] q3.2.2).bind fun q4 => (if a2 ≤ q4.1 then av_xp d 82 24 [.ref 0, .int a1, .int a2, .int a3, .int (a4 + 1), .int (a5 + 1)] [] q4.2.2 else ((av_x d 275 [.int a5] q4.2.2).bind fun q5 => av_xp d 82 24 [.ref 0, .int a1, .int q5.1, .int a5, .int (a4 + 1), .int (a5 + 1)] [] q5.2.2))) else av_xp d 82 24 [.ref 0, .int a1, .int a2, .int a3, .int a4, .int (a5 + 1)] [] q3.2.2))))) := (av_eq tX6_just 6 [24] 28 24 _ _ h tabX6_just wfX6_just rfl).trans rfl
theorem tabX6_seen : av_tab 83 = (tX6_seen, 5) := rfl
theorem wfX6_seen : av_wf tX6_seen = true := by decide +kernel
set_option maxHeartbeats 40000 in
set_option maxRecDepth 8000 in
theorem eX6_seen_r0_in (d : Nat) (h : av_M) (p1 : Int32) (p2 : Int32) (p3 : Int32) : av_x (d + 1) 83 [.ref 0, .int p1, .int p2, .int p3] h = ((av_x d 26 [.ref 5, .int p1] h).bind fun q1 => (if q1.1 = 0 then some (((-1) : Int32), (0 : Int64), q1.2.2) else ((av_x d 105 [.int p3] q1.2.2).bind fun q2 => (if q2.1 = 0 then some (((-1) : Int32), (0 : Int64), q2.2.2) else (if p2 < (-99) then some (((-1) : Int32), (0 : Int64), q2.2.2) else (if p2 ≤ 99 then ((av_x d 0 [.ref 30, .int p1, .int p2, .int p3] q2.2.2).bind fun q3 => some ((q3.1 : Int32), (0 : Int64), q3.2.2)) else some (((-1) : Int32), (0 : Int64), q2.2.2))))))) := (av_ent d 83 tX6_seen 5 _ h tabX6_seen).trans ((av_eq tX6_seen 5 [] 27 0 _ _ h tabX6_seen wfX6_seen rfl).trans rfl)
theorem tabX6_forget : av_tab 84 = (tX6_forget, 1) := rfl
theorem wfX6_forget : av_wf tX6_forget = true := by decide +kernel
set_option maxHeartbeats 40000 in
set_option maxRecDepth 8000 in
theorem eX6_forget_r0_in (d : Nat) (h : av_M) : av_x (d + 1) 84 [.ref 0] h = ((av_x d 1 [.ref 30] h).bind fun q1 => some ((q1.1 : Int32), (0 : Int64), q1.2.2)) := (av_ent d 84 tX6_forget 1 _ h tabX6_forget).trans ((av_eq tX6_forget 1 [] 5 0 _ _ h tabX6_forget wfX6_forget rfl).trans rfl)
theorem tabX6_guess : av_tab 85 = (tX6_guess, 5) := rfl
theorem wfX6_guess : av_wf tX6_guess = true := by decide +kernel
set_option maxHeartbeats 40000 in
set_option maxRecDepth 8000 in
theorem eX6_guess_r0_in (d : Nat) (h : av_M) : av_x (d + 1) 85 [.ref 0] h = av_xp d 85 9 [.ref 0, .int 0, .int 0, .int 0, .int 0] [] h := (av_ent d 85 tX6_guess 5 _ h tabX6_guess).trans ((av_eq tX6_guess 5 [9] 9 0 _ _ h tabX6_guess wfX6_guess rfl).trans rfl)
set_option maxHeartbeats 40000 in
set_option maxRecDepth 8000 in
theorem eX6_guess_r0_9 (d : Nat) (h : av_M) (a1 : Int32) (a2 : Int32) (a3 : Int32) (a4 : Int32) : av_xp d 85 9 [.ref 0, .int a1, .int a2, .int a3, .int a4] [] h = (if 60 ≤ a4 then ((av_x d 139 [.ref 0, .int (h 5 10)] h).bind fun q1 => (if q1.1 = 0 then ((av_x d 110 [.ref 0, .long 0] q1.2.2).bind fun q2 => (if a1 ≤ 0 then some ((a1 : Int32), (0 : Int64), q2.2.2) else ((av_x d 9 [.ref 3, .long (Int32.toInt64 a2)] q2.2.2).bind fun q3 => ((av_x d 9 [.ref 3, .long (Int32.toInt64 a3)] q3.2.2).bind fun q4 => some ((a1 : Int32), (0 : Int64), q4.2.2))))) else ((av_x d 110 [.ref 0, .long 1] q1.2.2).bind fun q5 => (if a1 ≤ 0 then some ((a1 : Int32), (0 : Int64), q5.2.2) else ((av_x d 9 [.ref 3, .long (Int32.toInt64 a2)] q5.2.2).bind fun q6 => ((av_x d 9 [.ref 3, .long (Int32.toInt64 a3)] q6.2.2).bind fun q7 => some ((a1 : Int32), (0 : Int64), q7.2.2))))))) else ((av_x d 139 [.ref 0, .int a4] h).bind fun q8 => (if q8.1 = 0 then av_xp d 85 9 [.ref 0, .int a1, .int a2, .int a3, .int (a4 + 1)] [] q8.2.2 else (if a1 = 0 then av_xp d 85 9 [.ref 0, .int (a1 + 1), .int a4, .int a4, .int (a4 + 1)] [] q8.2.2 else av_xp d 85 9 [.ref 0, .int (a1 + 1), .int a2, .int a4, .int (a4 + 1)] [] q8.2.2)))) := (av_eq tX6_guess 5 [9] 28 9 _ _ h tabX6_guess wfX6_guess rfl).trans rfl
theorem tabX6_looks : av_tab 86 = (tX6_looks, 8) := rfl
theorem wfX6_looks : av_wf tX6_looks = true := by decide +kernel
set_option maxHeartbeats 40000 in
set_option maxRecDepth 8000 in
theorem eX6_looks_r0_in (d : Nat) (h : av_M) : av_x (d + 1) 86 [.ref 0] h = ((av_x d 140 [.ref 0] h).bind fun q1 => (if q1.1 = 0 then some (((-2) : Int32), (0 : Int64), q1.2.2) else (if (q1.2.2 5 6) = 0 then some (((-2) : Int32), (0 : Int64), q1.2.2) else av_xp d 86 31 [.ref 0, .int q1.1, .int (q1.1 + 1), .int 0, .int 0, .null, .null, .null] [] q1.2.2))) := (av_ent d 86 tX6_looks 8 _ h tabX6_looks).trans ((av_eq tX6_looks 8 [31, 47] 18 0 _ _ h tabX6_looks wfX6_looks rfl).trans rfl)
set_option maxHeartbeats 40000 in
set_option maxRecDepth 8000 in
theorem eX6_looks_r0_31 (d : Nat) (h : av_M) (a1 : Int32) (a2 : Int32) (a3 : Int32) (a4 : Int32) : av_xp d 86 31 [.ref 0, .int a1, .int a2, .int a3, .int a4, .null, .null, .null] [] h = (if (h 5 6) ≤ a4 then ((av_x d 110 [.ref 0, .long (Int32.toInt64 a2)] h).bind fun q1 => some ((a3 : Int32), (0 : Int64), q1.2.2)) else av_xp d 86 47 [.ref 0, .int a1, .int a2, .int a3, .int a4, .int (-99), .null, .null] [] h) := (av_eq tX6_looks 8 [31, 47] 12 31 _ _ h tabX6_looks wfX6_looks rfl).trans rfl
set_option maxHeartbeats 40000 in
set_option maxRecDepth 8000 in
theorem eX6_looks_r0_47 (d : Nat) (h : av_M) (a1 : Int32) (a2 : Int32) (a3 : Int32) (a4 : Int32) (a5 : Int32) : av_xp d 86 47 [.ref 0, .int a1, .int a2, .int a3, .int a4, .int a5, .null, .null] [] h = (if 99 < a5 then av_xp d 86 31 [.ref 0, .int a1, .int a2, .int a3, .int (a4 + 1), .int a5, .null, .null] [] h else ((av_x d 31 [.ref 5, .int a4] h).bind fun q1 => ((av_x d 104 [.int (a5 + q1.1), .int 0, .int 60] q1.2.2).bind fun q2 => (cond (av_inb q2.1 61) ((if a2 ≤ (av_max (q2.2.2 42 (Int32.toNatClampNeg q2.1)) (a1 - (q2.2.2 42 (Int32.toNatClampNeg q2.1)))) then av_xp d 86 47 [.ref 0, .int a1, .int a2, .int a3, .int a4, .int (a5 + 1), .int (q2.2.2 42 (Int32.toNatClampNeg q2.1)), .int (av_max (q2.2.2 42 (Int32.toNatClampNeg q2.1)) (a1 - (q2.2.2 42 (Int32.toNatClampNeg q2.1))))] [] q2.2.2 else av_xp d 86 47 [.ref 0, .int a1, .int (av_max (q2.2.2 42 (Int32.toNatClampNeg q2.1)) (a1 - (q2.2.2 42 (Int32.toNatClampNeg q2.1)))), .int (((200 * a4) + 99) + a5), .int a4, .int (a5 + 1), .int (q2.2.2 42 (Int32.toNatClampNeg q2.1)), .int (av_max (q2.2.2 42 (Int32.toNatClampNeg q2.1)) (a1 - (q2.2.2 42 (Int32.toNatClampNeg q2.1))))] [] q2.2.2)) none)))) := (av_eq tX6_looks 8 [31, 47] 38 47 _ _ h tabX6_looks wfX6_looks rfl).trans rfl
set_option maxHeartbeats 40000 in
set_option maxRecDepth 8000 in
theorem eX6_looks_r0_31_2 (d : Nat) (h : av_M) (a1 : Int32) (a2 : Int32) (a3 : Int32) (a4 : Int32) (a5 : Int32) : av_xp d 86 31 [.ref 0, .int a1, .int a2, .int a3, .int a4, .int a5, .null, .null] [] h = (if (h 5 6) ≤ a4 then ((av_x d 110 [.ref 0, .long (Int32.toInt64 a2)] h).bind fun q1 => some ((a3 : Int32), (0 : Int64), q1.2.2)) else av_xp d 86 47 [.ref 0, .int a1, .int a2, .int a3, .int a4, .int (-99), .null, .null] [] h) := (av_eq tX6_looks 8 [31, 47] 12 31 _ _ h tabX6_looks wfX6_looks rfl).trans rfl
set_option maxHeartbeats 40000 in
set_option maxRecDepth 8000 in
theorem eX6_looks_r0_47_2 (d : Nat) (h : av_M) (a1 : Int32) (a2 : Int32) (a3 : Int32) (a4 : Int32) (a5 : Int32) (a6 : Int32) (a7 : Int32) : av_xp d 86 47 [.ref 0, .int a1, .int a2, .int a3, .int a4, .int a5, .int a6, .int a7] [] h = (if 99 < a5 then av_xp d 86 31 [.ref 0, .int a1, .int a2, .int a3, .int (a4 + 1), .int a5, .int a6, .int a7] [] h else ((av_x d 31 [.ref 5, .int a4] h).bind fun q1 => ((av_x d 104 [.int (a5 + q1.1), .int 0, .int 60] q1.2.2).bind fun q2 => (cond (av_inb q2.1 61) ((if a2 ≤ (av_max (q2.2.2 42 (Int32.toNatClampNeg q2.1)) (a1 - (q2.2.2 42 (Int32.toNatClampNeg q2.1)))) then av_xp d 86 47 [.ref 0, .int a1, .int a2, .int a3, .int a4, .int (a5 + 1), .int (q2.2.2 42 (Int32.toNatClampNeg q2.1)), .int (av_max (q2.2.2 42 (Int32.toNatClampNeg q2.1)) (a1 - (q2.2.2 42 (Int32.toNatClampNeg q2.1))))] [] q2.2.2 else av_xp d 86 47 [.ref 0, .int a1, .int (av_max (q2.2.2 42 (Int32.toNatClampNeg q2.1)) (a1 - (q2.2.2 42 (Int32.toNatClampNeg q2.1)))), .int (((200 * a4) + 99) + a5), .int a4, .int (a5 + 1), .int (q2.2.2 42 (Int32.toNatClampNeg q2.1)), .int (av_max (q2.2.2 42 (Int32.toNatClampNeg q2.1)) (a1 - (q2.2.2 42 (Int32.toNatClampNeg q2.1))))] [] q2.2.2)) none)))) := (av_eq tX6_looks 8 [31, 47] 38 47 _ _ h tabX6_looks wfX6_looks rfl).trans rfl
set_option maxHeartbeats 40000 in
set_option maxRecDepth 8000 in
theorem eX6_looks_r0_31_3 (d : Nat) (h : av_M) (a1 : Int32) (a2 : Int32) (a3 : Int32) (a4 : Int32) (a5 : Int32) (a6 : Int32) (a7 : Int32) : av_xp d 86 31 [.ref 0, .int a1, .int a2, .int a3, .int a4, .int a5, .int a6, .int a7] [] h = (if (h 5 6) ≤ a4 then ((av_x d 110 [.ref 0, .long (Int32.toInt64 a2)] h).bind fun q1 => some ((a3 : Int32), (0 : Int64), q1.2.2)) else av_xp d 86 47 [.ref 0, .int a1, .int a2, .int a3, .int a4, .int (-99), .int a6, .int a7] [] h) := (av_eq tX6_looks 8 [31, 47] 12 31 _ _ h tabX6_looks wfX6_looks rfl).trans rfl
theorem tabX6_heard : av_tab 87 = (tX6_heard, 3) := rfl
theorem wfX6_heard : av_wf tX6_heard = true := by decide +kernel
set_option maxHeartbeats 40000 in
set_option maxRecDepth 8000 in
theorem eX6_heard_r0_in (d : Nat) (h : av_M) (p1 : Int32) (p2 : Int32) : av_x (d + 1) 87 [.ref 0, .int p1, .int p2] h = ((av_x d 141 [.int p1, .int p2] h).bind fun q1 => (if q1.1 = 0 then some (((-1) : Int32), (0 : Int64), q1.2.2) else ((av_x d 0 [.ref 34, .int p1, .int p2, .int 1] q1.2.2).bind fun q2 => some ((q2.1 : Int32), (0 : Int64), q2.2.2)))) := (av_ent d 87 tX6_heard 3 _ h tabX6_heard).trans ((av_eq tX6_heard 3 [] 13 0 _ _ h tabX6_heard wfX6_heard rfl).trans rfl)
theorem tabX6_denies : av_tab 88 = (tX6_denies, 1) := rfl
theorem wfX6_denies : av_wf tX6_denies = true := by decide +kernel
set_option maxHeartbeats 40000 in
set_option maxRecDepth 8000 in
theorem eX6_denies_r0_in (d : Nat) (h : av_M) : av_x (d + 1) 88 [.ref 0] h = ((av_x d 1 [.ref 34] h).bind fun q1 => some ((q1.1 : Int32), (0 : Int64), q1.2.2)) := (av_ent d 88 tX6_denies 1 _ h tabX6_denies).trans ((av_eq tX6_denies 1 [] 5 0 _ _ h tabX6_denies wfX6_denies rfl).trans rfl)
theorem tabX6_fits : av_tab 89 = (tX6_fits, 2) := rfl
theorem wfX6_fits : av_wf tX6_fits = true := by decide +kernel
set_option maxHeartbeats 40000 in
set_option maxRecDepth 8000 in
theorem eX6_fits_r0_in (d : Nat) (h : av_M) : av_x (d + 1) 89 [.ref 0] h = ((av_x d 142 [.ref 0] h).bind fun q1 => ((av_x d 275 [.int q1.1] q1.2.2).bind fun q2 => ((av_x d 110 [.ref 0, .long (Int32.toInt64 q2.1)] q2.2.2).bind fun q3 => some ((q1.1 : Int32), (0 : Int64), q3.2.2)))) := (av_ent d 89 tX6_fits 2 _ h tabX6_fits).trans ((av_eq tX6_fits 2 [] 11 0 _ _ h tabX6_fits wfX6_fits rfl).trans rfl)
theorem tabX6_asks : av_tab 90 = (tX6_asks, 10) := rfl
theorem wfX6_asks : av_wf tX6_asks = true := by decide +kernel
set_option maxHeartbeats 40000 in
set_option maxRecDepth 8000 in
theorem eX6_asks_r0_in (d : Nat) (h : av_M) : av_x (d + 1) 90 [.ref 0] h = ((av_x d 142 [.ref 0] h).bind fun q1 => ((av_x d 275 [.int q1.1] q1.2.2).bind fun q2 => (if q2.1 = 0 then some (((-2) : Int32), (0 : Int64), q2.2.2) else av_xp d 90 27 [.ref 0, .int q1.1, .int q2.1, .int (q2.1 + 1), .int 0, .int 0, .null, .null, .null, .null] [] q2.2.2))) := (av_ent d 90 tX6_asks 10 _ h tabX6_asks).trans ((av_eq tX6_asks 10 [27] 17 0 _ _ h tabX6_asks wfX6_asks rfl).trans rfl)
set_option maxHeartbeats 40000 in
set_option maxRecDepth 8000 in
theorem eX6_asks_r0_27 (d : Nat) (h : av_M) (a1 : Int32) (a2 : Int32) (a3 : Int32) (a4 : Int32) (a5 : Int32) : av_xp d 90 27 [.ref 0, .int a1, .int a2, .int a3, .int a4, .int a5, .null, .null, .null, .null] [] h = (if 50 ≤ a5 then ((av_x d 110 [.ref 0, .long (Int32.toInt64 a3)] h).bind fun q1 => some ((a4 : Int32), (0 : Int64), q1.2.2)) else ((av_x d 141 [.int (a5 / 10), .int (a5 - a5 / 10 * 10)] h).bind fun q2 => (if q2.1 = 0 then av_xp d 90 27 [.ref 0, .int a1, .int a2, .int a3, .int a4, .int (a5 + 1), .int (a5 / 10), .int (a5 - a5 / 10 * 10), .null, .null] [] q2.2.2 else ((av_x d 143 [.ref 0, .int (a5 / 10), .int (a5 - a5 / 10 * 10)] q2.2.2).bind fun q3 => ((av_x d 275 [.int (a1 &&& q3.1)] q3.2.2).bind fun q4 => (if a3 ≤ (av_max q4.1 (a2 - q4.1)) then av_xp d 90 27 [.ref 0, .int a1, .int a2, .int a3, .int a4, .int (a5 + 1), .int (a5 / 10), .int (a5 - a5 / 10 * 10), .int q4.1, .int (av_max q4.1 (a2 - q4.1))] [] q4.2.2 else av_xp d 90 27 [.ref 0, .int a1, .int a2, .int (av_max q4.1 (a2 - q4.1)), .int a5, .int (a5 + 1), .int (a5 / 10), .int (a5 - a5 / 10 * 10), .int q4.1, .int (av_max q4.1 (a2 - q4.1))] [] q4.2.2)))))) := (av_eq tX6_asks 10 [27] 39 27 _ _ h tabX6_asks wfX6_asks rfl).trans rfl
set_option maxHeartbeats 40000 in
set_option maxRecDepth 8000 in
theorem eX6_asks_r0_27_2 (d : Nat) (h : av_M) (a1 : Int32) (a2 : Int32) (a3 : Int32) (a4 : Int32) (a5 : Int32) (a6 : Int32) (a7 : Int32) : av_xp d 90 27 [.ref 0, .int a1, .int a2, .int a3, .int a4, .int a5, .int a6, .int a7, .null, .null] [] h = (if 50 ≤ a5 then ((av_x d 110 [.ref 0, .long (Int32.toInt64 a3)] h).bind fun q1 => some ((a4 : Int32), (0 : Int64), q1.2.2)) else ((av_x d 141 [.int (a5 / 10), .int (a5 - a5 / 10 * 10)] h).bind fun q2 => (if q2.1 = 0 then av_xp d 90 27 [.ref 0, .int a1, .int a2, .int a3, .int a4, .int (a5 + 1), .int (a5 / 10), .int (a5 - a5 / 10 * 10), .null, .null] [] q2.2.2 else ((av_x d 143 [.ref 0, .int (a5 / 10), .int (a5 - a5 / 10 * 10)] q2.2.2).bind fun q3 => ((av_x d 275 [.int (a1 &&& q3.1)] q3.2.2).bind fun q4 => (if a3 ≤ (av_max q4.1 (a2 - q4.1)) then av_xp d 90 27 [.ref 0, .int a1, .int a2, .int a3, .int a4, .int (a5 + 1), .int (a5 / 10), .int (a5 - a5 / 10 * 10), .int q4.1, .int (av_max q4.1 (a2 - q4.1))] [] q4.2.2 else av_xp d 90 27 [.ref 0, .int a1, .int a2, .int (av_max q4.1 (a2 - q4.1)), .int a5, .int (a5 + 1), .int (a5 / 10), .int (a5 - a5 / 10 * 10), .int q4.1, .int (av_max q4.1 (a2 - q4.1))] [] q4.2.2)))))) := (av_eq tX6_asks 10 [27] 39 27 _ _ h tabX6_asks wfX6_asks rfl).trans rfl
set_option maxHeartbeats 40000 in
set_option maxRecDepth 8000 in
theorem eX6_asks_r0_27_3 (d : Nat) (h : av_M) (a1 : Int32) (a2 : Int32) (a3 : Int32) (a4 : Int32) (a5 : Int32) (a6 : Int32) (a7 : Int32) (a8 : Int32) (a9 : Int32) : av_xp d 90 27 [.ref 0, .int a1, .int a2, .int a3, .int a4, .int a5, .int a6, .int a7, .int a8, .int a9] [] h = (if 50 ≤ a5 then ((av_x d 110 [.ref 0, .long (Int32.toInt64 a3)] h).bind fun q1 => some ((a4 : Int32), (0 : Int64), q1.2.2)) else ((av_x d 141 [.int (a5 / 10), .int (a5 - a5 / 10 * 10)] h).bind fun q2 => (if q2.1 = 0 then av_xp d 90 27 [.ref 0, .int a1, .int a2, .int a3, .int a4, .int (a5 + 1), .int (a5 / 10), .int (a5 - a5 / 10 * 10), .int a8, .int a9] [] q2.2.2 else ((av_x d 143 [.ref 0, .int (a5 / 10), .int (a5 - a5 / 10 * 10)] q2.2.2).bind fun q3 => ((av_x d 275 [.int (a1 &&& q3.1)] q3.2.2).bind fun q4 => (if a3 ≤ (av_max q4.1 (a2 - q4.1)) then av_xp d 90 27 [.ref 0, .int a1, .int a2, .int a3, .int a4, .int (a5 + 1), .int (a5 / 10), .int (a5 - a5 / 10 * 10), .int q4.1, .int (av_max q4.1 (a2 - q4.1))] [] q4.2.2 else av_xp d 90 27 [.ref 0, .int a1, .int a2, .int (av_max q4.1 (a2 - q4.1)), .int a5, .int (a5 + 1), .int (a5 / 10), .int (a5 - a5 / 10 * 10), .int q4.1, .int (av_max q4.1 (a2 - q4.1))] [] q4.2.2)))))) := (av_eq tX6_asks 10 [27] 39 27 _ _ h tabX6_asks wfX6_asks rfl).trans rfl
theorem tabX6_odds : av_tab 91 = (tX6_odds, 9) := rfl
theorem wfX6_odds : av_wf tX6_odds = true := by decide +kernel
set_option maxHeartbeats 40000 in
set_option maxRecDepth 8000 in
theorem eX6_odds_r0_in (d : Nat) (h : av_M) (p1 : Int32) (p2 : Int32) : av_x (d + 1) 91 [.ref 0, .int p1, .int p2] h = (if p1 < 0 then some (((-1) : Int32), (0 : Int64), h) else (if 10 < p1 then some (((-1) : Int32), (0 : Int64), h) else (if p2 < 0 then some (((-1) : Int32), (0 : Int64), h) else (if p2 ≤ 63 then ((av_x d 28 [.ref 5] h).bind fun q1 => ((av_x d 275 [.int q1.1] q1.2.2).bind fun q2 => av_xp d 91 42 [.ref 0, .int p1, .int p2, .int q1.1, .int q2.1, .long 0, .null, .int 0, .null] [] q2.2.2)) else some (((-1) : Int32), (0 : Int64), h))))) := (av_ent d 91 tX6_odds 9 _ h tabX6_odds).trans ((av_eq tX6_odds 9 [42] 22 0 _ _ h tabX6_odds wfX6_odds rfl).trans rfl)
set_option maxHeartbeats 40000 in
set_option maxRecDepth 8000 in
theorem eX6_odds_r0_42 (d : Nat) (h : av_M) (a1 : Int32) (a2 : Int32) (a3 : Int32) (a4 : Int32) (a5 : Int64) (a7 : Int32) : av_xp d 91 42 [.ref 0, .int a1, .int a2, .int a3, .int a4, .long a5, .null, .int a7, .null] [] h = (if 128 ≤ a7 then ((av_x d 136 [.long 10, .int a4] h).bind fun q1 => ((av_x d 112 [.ref 0, .long a5, .long q1.2.1] q1.2.2).bind fun q2 => some ((0 : Int32), (0 : Int64), q2.2.2))) else ((av_x d 109 [.int a7, .int a3] h).bind fun q3 => (if q3.1 = 0 then av_xp d 91 42 [.ref 0, .int a1, .int a2, .int a3, .int a4, .long a5, .null, .int (a7 + 1), .null] [] q3.2.2 else ((av_x d 38 [.ref 5, .int a7] q3.2.2).bind fun q4 => (if q4.1 < a2 then av_xp d 91 42 [.ref 0, .int a1, .int a2, .int a3, .int a4, .long a5, .null, .int (a7 + 1), .null] [] q4.2.2 else ((av_x d 275 [.int a7] q4.2.2).bind fun q5 => ((av_x d 136 [.long (Int32.toInt64 (10 - a1)), .int q5.1] q5.2.2).bind fun q6 => ((av_x d 136 [.long (Int32.toInt64 a1), .int (a4 - q5.1)] q6.2.2).bind fun q7 => av_xp d 91 42 [.ref 0, .int a1, .int a2, .int a3, .int a4, .long (a5 + (q6.2.1 * q7.2.1)), .null, .int (a7 + 1), .int q5.1] [] q7.2.2)))))))) := (av_eq tX6_odds 9 [42] 35 42 _ _ h tabX6_odds wfX6_odds rfl).trans rfl
set_option maxHeartbeats 40000 in
set_option maxRecDepth 8000 in
theorem eX6_odds_r0_42_2 (d : Nat) (h : av_M) (a1 : Int32) (a2 : Int32) (a3 : Int32) (a4 : Int32) (a5 : Int64) (a7 : Int32) (a8 : Int32) : av_xp d 91 42 [.ref 0, .int a1, .int a2, .int a3, .int a4, .long a5, .null, .int a7, .int a8] [] h = (if 128 ≤ a7 then ((av_x d 136 [.long 10, .int a4] h).bind fun q1 => ((av_x d 112 [.ref 0, .long a5, .long q1.2.1] q1.2.2).bind fun q2 => some ((0 : Int32), (0 : Int64), q2.2.2))) else ((av_x d 109 [.int a7, .int a3] h).bind fun q3 => (if q3.1 = 0 then av_xp d 91 42 [.ref 0, .int a1, .int a2, .int a3, .int a4, .long a5, .null, .int (a7 + 1), .int a8] [] q3.2.2 else ((av_x d 38 [.ref 5, .int a7] q3.2.2).bind fun q4 => (if q4.1 < a2 then av_xp d 91 42 [.ref 0, .int a1, .int a2, .int a3, .int a4, .long a5, .null, .int (a7 + 1), .int a8] [] q4.2.2 else ((av_x d 275 [.int a7] q4.2.2).bind fun q5 => ((av_x d 136 [.long (Int32.toInt64 (10 - a1)), .int q5.1] q5.2.2).bind fun q6 => ((av_x d 136 [.long (Int32.toInt64 a1), .int (a4 - q5.1)] q6.2.2).bind fun q7 => av_xp d 91 42 [.ref 0, .int a1, .int a2, .int a3, .int a4, .long (a5 + (q6.2.1 * q7.2.1)), .null, .int (a7 + 1), .int q5.1] [] q7.2.2)))))))) := (av_eq tX6_odds 9 [42] 35 42 _ _ h tabX6_odds wfX6_odds rfl).trans rfl
theorem tabX6_saw : av_tab 92 = (tX6_saw, 5) := rfl
theorem wfX6_saw : av_wf tX6_saw = true := by decide +kernel
set_option maxHeartbeats 40000 in
set_option maxRecDepth 8000 in
theorem eX6_saw_r0_in (d : Nat) (h : av_M) (p1 : Int32) (p2 : Int32) (p3 : Int32) : av_x (d + 1) 92 [.ref 0, .int p1, .int p2, .int p3] h = (if p1 < 0 then some (((-1) : Int32), (0 : Int64), h) else (if 20 < p1 then some (((-1) : Int32), (0 : Int64), h) else (if p2 < 1 then some (((-1) : Int32), (0 : Int64), h) else (if 9 < p2 then some (((-1) : Int32), (0 : Int64), h) else ((av_x d 105 [.int p3] h).bind fun q1 => (if q1.1 = 0 then some (((-1) : Int32), (0 : Int64), q1.2.2) else ((av_x d 0 [.ref 38, .int p1, .int p2, .int p3] q1.2.2).bind fun q2 => some ((q2.1 : Int32), (0 : Int64), q2.2.2)))))))) := (av_ent d 92 tX6_saw 5 _ h tabX6_saw).trans ((av_eq tX6_saw 5 [] 28 0 _ _ h tabX6_saw wfX6_saw rfl).trans rfl)
theorem tabX6_clears : av_tab 93 = (tX6_clears, 1) := rfl
theorem wfX6_clears : av_wf tX6_clears = true := by decide +kernel
set_option maxHeartbeats 40000 in
set_option maxRecDepth 8000 in
theorem eX6_clears_r0_in (d : Nat) (h : av_M) : av_x (d + 1) 93 [.ref 0] h = ((av_x d 1 [.ref 38] h).bind fun q1 => some ((q1.1 : Int32), (0 : Int64), q1.2.2)) := (av_ent d 93 tX6_clears 1 _ h tabX6_clears).trans ((av_eq tX6_clears 1 [] 5 0 _ _ h tabX6_clears wfX6_clears rfl).trans rfl)
theorem tabX6_laws : av_tab 94 = (tX6_laws, 3) := rfl
theorem wfX6_laws : av_wf tX6_laws = true := by decide +kernel
set_option maxHeartbeats 40000 in
set_option maxRecDepth 8000 in
theorem eX6_laws_r0_in (d : Nat) (h : av_M) : av_x (d + 1) 94 [.ref 0] h = ((av_x d 8 [.ref 3] h).bind fun q1 => av_xp d 94 11 [.ref 0, .int 0, .int 0] [] q1.2.2) := (av_ent d 94 tX6_laws 3 _ h tabX6_laws).trans ((av_eq tX6_laws 3 [11] 8 0 _ _ h tabX6_laws wfX6_laws rfl).trans rfl)
set_option maxHeartbeats 40000 in
set_option maxRecDepth 8000 in
theorem eX6_laws_r0_11 (d : Nat) (h : av_M) (a1 : Int32) (a2 : Int32) : av_xp d 94 11 [.ref 0, .int a1, .int a2] [] h = (if 40 ≤ a2 then some ((a1 : Int32), (0 : Int64), h) else ((av_x d 147 [.ref 0, .int a2] h).bind fun q1 => (if q1.1 = 0 then av_xp d 94 11 [.ref 0, .int a1, .int (a2 + 1)] [] q1.2.2 else (if a1 = 0 then ((av_x d 144 [.int a2] q1.2.2).bind fun q2 => ((av_x d 9 [.ref 3, .long (Int32.toInt64 q2.1)] q2.2.2).bind fun q3 => ((av_x d 145 [.int a2] q3.2.2).bind fun q4 => ((av_x d 9 [.ref 3, .long (Int32.toInt64 q4.1)] q4.2.2).bind fun q5 => av_xp d 94 11 [.ref 0, .int (a1 + 1), .int (a2 + 1)] [] q5.2.2)))) else av_xp d 94 11 [.ref 0, .int (a1 + 1), .int (a2 + 1)] [] q1.2.2)))) := (av_eq tX6_laws 3 [11] 25 11 _ _ h tabX6_laws wfX6_laws rfl).trans rfl
theorem tabX6_tries : av_tab 95 = (tX6_tries, 10) := rfl
theorem wfX6_tries : av_wf tX6_tries = true := by decide +kernel
set_option maxHeartbeats 40000 in
set_option maxRecDepth 8000 in
theorem eX6_tries_r0_in (d : Nat) (h : av_M) : av_x (d + 1) 95 [.ref 0] h = ((av_x d 148 [.ref 0] h).bind fun q1 => ((av_x d 276 [.long q1.2.1] q1.2.2).bind fun q2 => (if q2.1 = 0 then some (((-2) : Int32), (0 : Int64), q2.2.2) else av_xp d 95 28 [.ref 0, .long q1.2.1, .null, .int q2.1, .int (q2.1 + 1), .int 0, .int 0, .null, .null, .null] [] q2.2.2))) := (av_ent d 95 tX6_tries 10 _ h tabX6_tries).trans ((av_eq tX6_tries 10 [28, 38] 17 0 _ _ h tabX6_tries wfX6_tries rfl).trans rfl)
set_option maxHeartbeats 40000 in
set_option maxRecDepth 8000 in
theorem eX6_tries_r0_28 (d : Nat) (h : av_M) (a1 : Int64) (a3 : Int32) (a4 : Int32) (a5 : Int32) (a6 : Int32) : av_xp d 95 28 [.ref 0, .long a1, .null, .int a3, .int a4, .int a5, .int a6, .null, .null, .null] [] h = (if 20 < a6 then ((av_x d 110 [.ref 0, .long (Int32.toInt64 a4)] h).bind fun q1 => some ((a5 : Int32), (0 : Int64), q1.2.2)) else av_xp d 95 38 [.ref 0, .long a1, .null, .int a3, .int a4, .int a5, .int a6, .int 1, .null, .null] [] h) := (av_eq tX6_tries 10 [28, 38] 10 28 _ _ h tabX6_tries wfX6_tries rfl).trans rfl
set_option maxHeartbeats 40000 in
set_option maxRecDepth 8000 in
theorem eX6_tries_r0_38 (d : Nat) (h : av_M) (a1 : Int64) (a3 : Int32) (a4 : Int32) (a5 : Int32) (a6 : Int32) (a7 : Int32) : av_xp d 95 38 [.ref 0, .long a1, .null, .int a3, .int a4, .int a5, .int a6, .int a7, .null, .null] [] h = (if 9 < a7 then av_xp d 95 28 [.ref 0, .long a1, .null, .int a3, .int a4, .int a5, .int (a6 + 1), .int a7, .null, .null] [] h else ((av_x d 149 [.int a6, .int a7] h).bind fun q1 => ((av_x d 276 [.long (a1 &&& q1.2.1)] q1.2.2).bind fun q2 => (if a4 ≤ (av_max q2.1 (a3 - q2.1)) then av_xp d 95 38 [.ref 0, .long a1, .null, .int a3, .int a4, .int a5, .int a6, .int (a7 + 1), .int q2.1, .int (av_max q2.1 (a3 - q2.1))] [] q2.2.2 else av_xp d 95 38 [.ref 0, .long a1, .null, .int a3, .int (av_max q2.1 (a3 - q2.1)), .int ((10 * a6) + a7), .int a6, .int (a7 + 1), .int q2.1, .int (av_max q2.1 (a3 - q2.1))] [] q2.2.2)))) := (av_eq tX6_tries 10 [28, 38] 30 38 _ _ h tabX6_tries wfX6_tries rfl).trans rfl
set_option maxHeartbeats 40000 in
set_option maxRecDepth 8000 in
theorem eX6_tries_r0_28_2 (d : Nat) (h : av_M) (a1 : Int64) (a3 : Int32) (a4 : Int32) (a5 : Int32) (a6 : Int32) (a7 : Int32) : av_xp d 95 28 [.ref 0, .long a1, .null, .int a3, .int a4, .int a5, .int a6, .int a7, .null, .null] [] h = (if 20 < a6 then ((av_x d 110 [.ref 0, .long (Int32.toInt64 a4)] h).bind fun q1 => some ((a5 : Int32), (0 : Int64), q1.2.2)) else av_xp d 95 38 [.ref 0, .long a1, .null, .int a3, .int a4, .int a5, .int a6, .int 1, .null, .null] [] h) := (av_eq tX6_tries 10 [28, 38] 10 28 _ _ h tabX6_tries wfX6_tries rfl).trans rfl
set_option maxHeartbeats 40000 in
set_option maxRecDepth 8000 in
theorem eX6_tries_r0_38_2 (d : Nat) (h : av_M) (a1 : Int64) (a3 : Int32) (a4 : Int32) (a5 : Int32) (a6 : Int32) (a7 : Int32) (a8 : Int32) (a9 : Int32) : av_xp d 95 38 [.ref 0, .long a1, .null, .int a3, .int a4, .int a5, .int a6, .int a7, .int a8, .int a9] [] h = (if 9 < a7 then av_xp d 95 28 [.ref 0, .long a1, .null, .int a3, .int a4, .int a5, .int (a6 + 1), .int a7, .int a8, .int a9] [] h else ((av_x d 149 [.int a6, .int a7] h).bind fun q1 => ((av_x d 276 [.long (a1 &&& q1.2.1)] q1.2.2).bind fun q2 => (if a4 ≤ (av_max q2.1 (a3 - q2.1)) then av_xp d 95 38 [.ref 0, .long a1, .null, .int a3, .int a4, .int a5, .int a6, .int (a7 + 1), .int q2.1, .int (av_max q2.1 (a3 - q2.1))] [] q2.2.2 else av_xp d 95 38 [.ref 0, .long a1, .null, .int a3, .int (av_max q2.1 (a3 - q2.1)), .int ((10 * a6) + a7), .int a6, .int (a7 + 1), .int q2.1, .int (av_max q2.1 (a3 - q2.1))] [] q2.2.2)))) := (av_eq tX6_tries 10 [28, 38] 30 38 _ _ h tabX6_tries wfX6_tries rfl).trans rfl
set_option maxHeartbeats 40000 in
set_option maxRecDepth 8000 in
theorem eX6_tries_r0_28_3 (d : Nat) (h : av_M) (a1 : Int64) (a3 : Int32) (a4 : Int32) (a5 : Int32) (a6 : Int32) (a7 : Int32) (a8 : Int32) (a9 : Int32) : av_xp d 95 28 [.ref 0, .long a1, .null, .int a3, .int a4, .int a5, .int a6, .int a7, .int a8, .int a9] [] h = (if 20 < a6 then ((av_x d 110 [.ref 0, .long (Int32.toInt64 a4)] h).bind fun q1 => some ((a5 : Int32), (0 : Int64), q1.2.2)) else av_xp d 95 38 [.ref 0, .long a1, .null, .int a3, .int a4, .int a5, .int a6, .int 1, .int a8, .int a9] [] h) := (av_eq tX6_tries 10 [28, 38] 10 28 _ _ h tabX6_tries wfX6_tries rfl).trans rfl
theorem tabX6_letting : av_tab 96 = (tX6_letting, 4) := rfl
theorem wfX6_letting : av_wf tX6_letting = true := by decide +kernel
set_option maxHeartbeats 40000 in
set_option maxRecDepth 8000 in
theorem eX6_letting_r0_in (d : Nat) (h : av_M) (p1 : Int32) : av_x (d + 1) 96 [.ref 0, .int p1] h = (if p1 < 0 then some (((-1) : Int32), (0 : Int64), h) else (if p1 ≤ 60 then ((av_x d 150 [.ref 0, .int p1] h).bind fun q1 => ((av_x d 8 [.ref 3] q1.2.2).bind fun q2 => av_xp d 96 26 [.ref 0, .int p1, .int 1, .null] [] q2.2.2)) else some (((-1) : Int32), (0 : Int64), h))) := (av_ent d 96 tX6_letting 4 _ h tabX6_letting).trans ((av_eq tX6_letting 4 [26, 33] 14 0 _ _ h tabX6_letting wfX6_letting rfl).trans rfl)
set_option maxHeartbeats 40000 in
set_option maxRecDepth 8000 in
theorem eX6_letting_r0_26 (d : Nat) (h : av_M) (a1 : Int32) (a2 : Int32) : av_xp d 96 26 [.ref 0, .int a1, .int a2, .null] [] h = (if 2 < a2 then some ((0 : Int32), (0 : Int64), h) else av_xp d 96 33 [.ref 0, .int a1, .int a2, .int 0] [] h) := (av_eq tX6_letting 4 [26, 33] 6 26 _ _ h tabX6_letting wfX6_letting rfl).trans rfl
set_option maxHeartbeats 40000 in
set_option maxRecDepth 8000 in
theorem eX6_letting_r0_33 (d : Nat) (h : av_M) (a1 : Int32) (a2 : Int32) (a3 : Int32) : av_xp d 96 33 [.ref 0, .int a1, .int a2, .int a3] [] h = (if (a1 - a2) < a3 then av_xp d 96 26 [.ref 0, .int a1, .int (a2 + 1), .int a3] [] h else (cond (av_inb a3 61) ((cond (av_inb ((a1 - a2) - a3) 61) ((if (h 43 (Int32.toNatClampNeg a3)) = (h 43 (Int32.toNatClampNeg ((a1 - a2) - a3))) then ((av_x d 111 [.ref 0, .long (Int32.toInt64 a2), .long (Int32.toInt64 a3)] h).bind fun q1 => some ((1 : Int32), (0 : Int64), q1.2.2)) else av_xp d 96 33 [.ref 0, .int a1, .int a2, .int (a3 + 1)] [] h)) none)) none)) := (av_eq tX6_letting 4 [26, 33] 27 33 _ _ h tabX6_letting wfX6_letting rfl).trans rfl
set_option maxHeartbeats 40000 in
set_option maxRecDepth 8000 in
theorem eX6_letting_r0_26_2 (d : Nat) (h : av_M) (a1 : Int32) (a2 : Int32) (a3 : Int32) : av_xp d 96 26 [.ref 0, .int a1, .int a2, .int a3] [] h = (if 2 < a2 then some ((0 : Int32), (0 : Int64), h) else av_xp d 96 33 [.ref 0, .int a1, .int a2, .int 0] [] h) := (av_eq tX6_letting 4 [26, 33] 6 26 _ _ h tabX6_letting wfX6_letting rfl).trans rfl
theorem tabX6_law : av_tab 97 = (tX6_law, 5) := rfl
theorem wfX6_law : av_wf tX6_law = true := by decide +kernel
set_option maxHeartbeats 40000 in
set_option maxRecDepth 8000 in
theorem eX6_law_r0_in (d : Nat) (h : av_M) : av_x (d + 1) 97 [.ref 0] h = ((av_x d 11 [.ref 23, .ref 1] h).bind fun q1 => (if q1.1 < 0 then ((av_x d 45 [.ref 12, .ref 5] (av_u q1.2.2 1 1 0)).bind fun q2 => ((av_x d 42 [.ref 12, .ref 23, .int 20] q2.2.2).bind fun q3 => ((av_x d 28 [.ref 12] q3.2.2).bind fun q4 => ((av_x d 275 [.int q4.1] q4.2.2).bind fun q5 => ((av_x d 114 [.ref 0, .int 20] q5.2.2).bind fun q6 => ((av_x d 28 [.ref 12] q6.2.2).bind fun q7 => ((av_x d 275 [.int q7.1] q7.2.2).bind fun q8 => ((av_x d 111 [.ref 0, .long (Int32.toInt64 q5.1), .long (Int32.toInt64 q8.1)] q8.2.2).bind fun q9 => ((av_x d 9 [.ref 3, .long (Int32.toInt64 (q5.2.2 12 10))] q9.2.2).bind fun q10 => ((av_x d 9 [.ref 3, .long (Int32.toInt64 (q10.2.2 12 10))] q10.2.2).bind fun q11 => some (((q5.1 - q8.1) : Int32), (0 : Int64), q11.2.2))))))))))) else some ((((-10000) - q1.1) : Int32), (0 : Int64), (av_u q1.2.2 1 1 0)))) := (av_ent d 97 tX6_law 5 _ h tabX6_law).trans ((av_eq tX6_law 5 [] 63 0 _ _ h tabX6_law wfX6_law rfl).trans rfl)
theorem tabX6_wars : av_tab 98 = (tX6_wars, 5) := rfl
theorem wfX6_wars : av_wf tX6_wars = true := by decide +kernel
set_option maxHeartbeats 40000 in
set_option maxRecDepth 8000 in
theorem eX6_wars_r0_in (d : Nat) (h : av_M) (p1 : Int32) : av_x (d + 1) 98 [.ref 0, .int p1] h = (if p1 < 0 then some (((-1) : Int32), (0 : Int64), h) else (if p1 ≤ 20 then ((av_x d 8 [.ref 3] h).bind fun q1 => av_xp d 98 23 [.ref 0, .int p1, .int 0, .int 0, .null] [] q1.2.2) else some (((-1) : Int32), (0 : Int64), h))) := (av_ent d 98 tX6_wars 5 _ h tabX6_wars).trans ((av_eq tX6_wars 5 [23, 32] 13 0 _ _ h tabX6_wars wfX6_wars rfl).trans rfl)
set_option maxHeartbeats 40000 in
set_option maxRecDepth 8000 in
theorem eX6_wars_r0_23 (d : Nat) (h : av_M) (a1 : Int32) (a2 : Int32) (a3 : Int32) : av_xp d 98 23 [.ref 0, .int a1, .int a2, .int a3, .null] [] h = (if 9 < a3 then some ((a2 : Int32), (0 : Int64), h) else av_xp d 98 32 [.ref 0, .int a1, .int a2, .int a3, .int 0] [] h) := (av_eq tX6_wars 5 [23, 32] 6 23 _ _ h tabX6_wars wfX6_wars rfl).trans rfl
set_option maxHeartbeats 40000 in
set_option maxRecDepth 8000 in
theorem eX6_wars_r0_32 (d : Nat) (h : av_M) (a1 : Int32) (a2 : Int32) (a3 : Int32) (a4 : Int32) : av_xp d 98 32 [.ref 0, .int a1, .int a2, .int a3, .int a4] [] h = (if 9 < a4 then av_xp d 98 23 [.ref 0, .int a1, .int a2, .int (a3 + 1), .int a4] [] h else ((av_x d 152 [.int a3, .int a4, .int a1] h).bind fun q1 => (if q1.1 = 0 then av_xp d 98 32 [.ref 0, .int a1, .int a2, .int a3, .int (a4 + 1)] [] q1.2.2 else ((av_x d 152 [.int a4, .int a3, .int a1] q1.2.2).bind fun q2 => (if q2.1 = 0 then av_xp d 98 32 [.ref 0, .int a1, .int a2, .int a3, .int (a4 + 1)] [] q2.2.2 else (if a2 = 0 then ((av_x d 111 [.ref 0, .long (Int32.toInt64 a3), .long (Int32.toInt64 a4)] q2.2.2).bind fun q3 => av_xp d 98 32 [.ref 0, .int a1, .int (a2 + 1), .int a3, .int (a4 + 1)] [] q3.2.2) else av_xp d 98 32 [.ref 0, .int a1, .int (a2 + 1), .int a3, .int (a4 + 1)] [] q2.2.2)))))) := (av_eq tX6_wars 5 [23, 32] 25 32 _ _ h tabX6_wars wfX6_wars rfl).trans rfl
set_option maxHeartbeats 40000 in
set_option maxRecDepth 8000 in
theorem eX6_wars_r0_23_2 (d : Nat) (h : av_M) (a1 : Int32) (a2 : Int32) (a3 : Int32) (a4 : Int32) : av_xp d 98 23 [.ref 0, .int a1, .int a2, .int a3, .int a4] [] h = (if 9 < a3 then some ((a2 : Int32), (0 : Int64), h) else av_xp d 98 32 [.ref 0, .int a1, .int a2, .int a3, .int 0] [] h) := (av_eq tX6_wars 5 [23, 32] 6 23 _ _ h tabX6_wars wfX6_wars rfl).trans rfl
theorem tabX6_years : av_tab 99 = (tX6_years, 4) := rfl
theorem wfX6_years : av_wf tX6_years = true := by decide +kernel
set_option maxHeartbeats 40000 in
set_option maxRecDepth 8000 in
theorem eX6_years_r0_in (d : Nat) (h : av_M) (p1 : Int32) (p2 : Int32) : av_x (d + 1) 99 [.ref 0, .int p1, .int p2] h = ((av_x d 107 [.int p2] h).bind fun q1 => (if q1.1 = 0 then some (((-1) : Int32), (0 : Int64), q1.2.2) else ((av_x d 45 [.ref 12, .ref 5] q1.2.2).bind fun q2 => av_xp d 99 27 [.ref 0, .int p1, .int p2, .int 0] [] (av_u q2.2.2 0 13 p1)))) := (av_ent d 99 tX6_years 4 _ h tabX6_years).trans ((av_eq tX6_years 4 [27] 14 0 _ _ h tabX6_years wfX6_years rfl).trans rfl)
set_option maxHeartbeats 40000 in
set_option maxRecDepth 8000 in
theorem eX6_years_r0_27 (d : Nat) (h : av_M) (a1 : Int32) (a2 : Int32) (a3 : Int32) : av_xp d 99 27 [.ref 0, .int a1, .int a2, .int a3] [] h = (if a2 ≤ a3 then ((av_x d 28 [.ref 12] h).bind fun q1 => ((av_x d 40 [.ref 12] q1.2.2).bind fun q2 => ((av_x d 111 [.ref 0, .long (Int32.toInt64 q1.1), .long (Int32.toInt64 q2.1)] q2.2.2).bind fun q3 => some (((q3.2.2 12 10) : Int32), (0 : Int64), q3.2.2)))) else ((av_x d 155 [.ref 0] h).bind fun q4 => av_xp d 99 27 [.ref 0, .int a1, .int a2, .int (a3 + 1)] [] q4.2.2)) := (av_eq tX6_years 4 [27] 18 27 _ _ h tabX6_years wfX6_years rfl).trans rfl
theorem tabX6_keep : av_tab 100 = (tX6_keep, 2) := rfl
theorem wfX6_keep : av_wf tX6_keep = true := by decide +kernel
set_option maxHeartbeats 40000 in
set_option maxRecDepth 8000 in
theorem eX6_keep_r0_in (d : Nat) (h : av_M) (p1 : Int32) : av_x (d + 1) 100 [.ref 0, .int p1] h = ((av_x d 5 [.ref 27, .int p1, .ref 5] h).bind fun q1 => some (((q1.1 &&& 1) : Int32), (0 : Int64), q1.2.2)) := (av_ent d 100 tX6_keep 2 _ h tabX6_keep).trans ((av_eq tX6_keep 2 [] 8 0 _ _ h tabX6_keep wfX6_keep rfl).trans rfl)
theorem tabX6_again : av_tab 101 = (tX6_again, 2) := rfl
theorem wfX6_again : av_wf tX6_again = true := by decide +kernel
set_option maxHeartbeats 40000 in
set_option maxRecDepth 8000 in
theorem eX6_again_r0_in (d : Nat) (h : av_M) (p1 : Int32) : av_x (d + 1) 101 [.ref 0, .int p1] h = ((av_x d 6 [.ref 27, .int p1, .ref 5] h).bind fun q1 => some (((q1.1 &&& 1) : Int32), (0 : Int64), q1.2.2)) := (av_ent d 101 tX6_again 2 _ h tabX6_again).trans ((av_eq tX6_again 2 [] 8 0 _ _ h tabX6_again wfX6_again rfl).trans rfl)
theorem tabX6_count : av_tab 102 = (tX6_count, 2) := rfl
theorem wfX6_count : av_wf tX6_count = true := by decide +kernel
set_option maxHeartbeats 40000 in
set_option maxRecDepth 8000 in
theorem eX6_count_r0_in (d : Nat) (h : av_M) (p1 : Int32) : av_x (d + 1) 102 [.ref 0, .int p1] h = (if p1 = 0 then some (((h 5 6) : Int32), (0 : Int64), h) else (if p1 = 1 then ((av_x d 28 [.ref 5] h).bind fun q2 => some ((q2.1 : Int32), (0 : Int64), q2.2.2)) else (if p1 = 2 then some (((h 5 10) : Int32), (0 : Int64), h) else (if p1 = 3 then some (((h 5 11) : Int32), (0 : Int64), h) else (if p1 = 4 then some (((h 5 12) : Int32), (0 : Int64), h) else (if p1 = 5 then some (((h 5 8) : Int32), (0 : Int64), h) else (if p1 = 6 then ((av_x d 40 [.ref 5] h).bind fun q1 => some ((q1.1 : Int32), (0 : Int64), q1.2.2)) else (if p1 = 7 then some (((h 30 4) : Int32), (0 : Int64), h) else (if p1 = 8 then some (((h 38 4) : Int32), (0 : Int64), h) else (if p1 = 9 then some (((h 34 4) : Int32), (0 : Int64), h) else (if p1 = 10 then some (((h 27 3) : Int32), (0 : Int64), h) else (if p1 = 11 then some (((h 3 1) : Int32), (0 : Int64), h) else (if p1 = 12 then some (((h 1 1) : Int32), (0 : Int64), h) else some (((-100) : Int32), (0 : Int64), h)))))))))))))) := (av_ent d 102 tX6_count 2 _ h tabX6_count).trans ((av_eq tX6_count 2 [] 7 0 _ _ h tabX6_count wfX6_count rfl).trans rfl)
theorem tabX6_streamer : av_tab 56 = (tX6_streamer, 3) := rfl
theorem wfX6_streamer : av_wf tX6_streamer = true := by decide +kernel
set_option maxHeartbeats 40000 in
set_option maxRecDepth 8000 in
theorem eX6_streamer_r0_in (d : Nat) (h : av_M) (p1 : Int32) (p2 : Int32) : av_x (d + 1) 56 [.ref 0, .int p1, .int p2] h = ((av_x d 26 [.ref 5, .int p1] h).bind fun q1 => (if q1.1 = 0 then none else (if p2 = 0 then (cond (av_inb p1 7) (some (((q1.2.2 6 (Int32.toNatClampNeg p1)) : Int32), (0 : Int64), q1.2.2)) none) else (if p2 = 1 then (cond (av_inb p1 7) (some (((q1.2.2 7 (Int32.toNatClampNeg p1)) : Int32), (0 : Int64), q1.2.2)) none) else (if p2 = 2 then (cond (av_inb p1 7) (some (((q1.2.2 8 (Int32.toNatClampNeg p1)) : Int32), (0 : Int64), q1.2.2)) none) else (if p2 = 3 then (cond (av_inb p1 7) (some (((q1.2.2 9 (Int32.toNatClampNeg p1)) : Int32), (0 : Int64), q1.2.2)) none) else (if p2 = 4 then (cond (av_inb p1 7) (some (((q1.2.2 10 (Int32.toNatClampNeg p1)) : Int32), (0 : Int64), q1.2.2)) none) else (if p2 = 5 then (cond (av_inb p1 7) (some (((q1.2.2 11 (Int32.toNatClampNeg p1)) : Int32), (0 : Int64), q1.2.2)) none) else (if p2 = 6 then ((av_x d 30 [.ref 5, .int p1] q1.2.2).bind fun q4 => some ((q4.1 : Int32), (0 : Int64), q4.2.2)) else (if p2 = 7 then ((av_x d 32 [.ref 5, .int p1] q1.2.2).bind fun q3 => some (((20000 + q3.1) : Int32), (0 : Int64), q3.2.2)) else (if p2 = 8 then ((av_x d 23 [.ref 19, .ref 5, .int p1] q1.2.2).bind fun q2 => some (((100 + q2.1) : Int32), (0 : Int64), q2.2.2)) else none))))))))))) := (av_ent d 56 tX6_streamer 3 _ h tabX6_streamer).trans ((av_eq tX6_streamer 3 [] 17 0 _ _ h tabX6_streamer wfX6_streamer rfl).trans rfl)
theorem tabX6_row : av_tab 103 = (tX6_row, 2) := rfl
theorem wfX6_row : av_wf tX6_row = true := by decide +kernel
set_option maxHeartbeats 40000 in
set_option maxRecDepth 8000 in
theorem eX6_row_r0_in (d : Nat) (h : av_M) (p1 : Int32) : av_x (d + 1) 103 [.ref 0, .int p1] h = (if p1 < 0 then none else (if (h 3 1) ≤ p1 then none else (if p1 < 7 then (cond (av_inb p1 7) (some ((0 : Int32), ((av_jn (h 4 (2 * Int32.toNatClampNeg p1)) (h 4 (2 * Int32.toNatClampNeg p1 + 1))) : Int64), h)) none) else none))) := (av_ent d 103 tX6_row 2 _ h tabX6_row).trans ((av_eq tX6_row 2 [] 20 0 _ _ h tabX6_row wfX6_row rfl).trans rfl)
theorem tabX6_badLineSign : av_tab 115 = (tX6_badLineSign, 3) := rfl
theorem wfX6_badLineSign : av_wf tX6_badLineSign = true := by decide +kernel
set_option maxHeartbeats 40000 in
set_option maxRecDepth 8000 in
theorem eX6_badLineSign_r0_in (d : Nat) (h : av_M) : av_x (d + 1) 115 [.ref 0] h = av_xp d 115 15 [.ref 0, .int (av_min (h 1 1) 48), .int 0] [] h := (av_ent d 115 tX6_badLineSign 3 _ h tabX6_badLineSign).trans ((av_eq tX6_badLineSign 3 [15] 9 0 _ _ h tabX6_badLineSign wfX6_badLineSign rfl).trans rfl)
set_option maxHeartbeats 40000 in
set_option maxRecDepth 8000 in
theorem eX6_badLineSign_r0_15 (d : Nat) (h : av_M) (a1 : Int32) (a2 : Int32) : av_xp d 115 15 [.ref 0, .int a1, .int a2] [] h = (if a1 ≤ a2 then (if a1 = 0 then (if (h 1 1) = a1 then some (((-1) : Int32), (0 : Int64), h) else some ((a1 : Int32), (0 : Int64), h)) else (if (a1 - a1 / 7 * 7) = 6 then (if (h 1 1) = a1 then some (((-1) : Int32), (0 : Int64), h) else some ((a1 : Int32), (0 : Int64), h)) else some ((a1 : Int32), (0 : Int64), h))) else ((av_x d 116 [.ref 0, .int a2] h).bind fun q1 => (if q1.1 = 0 then some ((a2 : Int32), (0 : Int64), q1.2.2) else av_xp d 115 15 [.ref 0, .int a1, .int (a2 + 1)] [] q1.2.2))) := (av_eq tX6_badLineSign 3 [15] 24 15 _ _ h tabX6_badLineSign wfX6_badLineSign rfl).trans rfl
theorem tabX6_addLines : av_tab 117 = (tX6_addLines, 6) := rfl
theorem wfX6_addLines : av_wf tX6_addLines = true := by decide +kernel
set_option maxHeartbeats 40000 in
set_option maxRecDepth 8000 in
theorem eX6_addLines_r0_in (d : Nat) (h : av_M) : av_x (d + 1) 117 [.ref 0] h = (if (h 1 1) ≤ 0 then av_xp d 117 19 [.ref 0, .int 0, .null, .null, .null, .null] [] h else ((av_x d 7 [.ref 27] h).bind fun q1 => av_xp d 117 19 [.ref 0, .int 0, .null, .null, .null, .null] [] q1.2.2)) := (av_ent d 117 tX6_addLines 6 _ h tabX6_addLines).trans ((av_eq tX6_addLines 6 [19] 10 0 _ _ h tabX6_addLines wfX6_addLines rfl).trans rfl)
set_option maxHeartbeats 40000 in
set_option maxRecDepth 8000 in
theorem eX6_addLines_r0_19 (d : Nat) (h : av_M) (a1 : Int32) : av_xp d 117 19 [.ref 0, .int a1, .null, .null, .null, .null] [] h = (if (h 1 1) ≤ a1 then some ((0 : Int32), (0 : Int64), h) else ((av_x d 51 [.ref 1, .int (a1 + 1)] h).bind fun q1 => ((av_x d 51 [.ref 1, .int (a1 + 2)] q1.2.2).bind fun q2 => ((av_x d 51 [.ref 1, .int (a1 + 3)] q2.2.2).bind fun q3 => ((av_x d 51 [.ref 1, .int (a1 + 4)] q3.2.2).bind fun q4 => ((av_x d 51 [.ref 1, .int (a1 + 5)] q4.2.2).bind fun q5 => ((av_x d 50 [.ref 1, .int a1] q5.2.2).bind fun q6 => ((av_x d 118 [.int q6.1] q6.2.2).bind fun q7 => ((av_x d 27 [.ref 5, .int q7.1, .int q1.1, .int ((10 * q2.1) + q3.1), .int q4.1, .int q5.1] q7.2.2).bind fun q8 => av_xp d 117 19 [.ref 0, .int (a1 + 7), .int q1.1, .int ((10 * q2.1) + q3.1), .int q4.1, .int q5.1] [] q8.2.2))))))))) := (av_eq tX6_addLines 6 [19] 57 19 _ _ h tabX6_addLines wfX6_addLines rfl).trans rfl
set_option maxHeartbeats 40000 in
set_option maxRecDepth 8000 in
theorem eX6_addLines_r0_19_2 (d : Nat) (h : av_M) (a1 : Int32) (a2 : Int32) (a3 : Int32) (a4 : Int32) (a5 : Int32) : av_xp d 117 19 [.ref 0, .int a1, .int a2, .int a3, .int a4, .int a5] [] h = (if (h 1 1) ≤ a1 then some ((0 : Int32), (0 : Int64), h) else ((av_x d 51 [.ref 1, .int (a1 + 1)] h).bind fun q1 => ((av_x d 51 [.ref 1, .int (a1 + 2)] q1.2.2).bind fun q2 => ((av_x d 51 [.ref 1, .int (a1 + 3)] q2.2.2).bind fun q3 => ((av_x d 51 [.ref 1, .int (a1 + 4)] q3.2.2).bind fun q4 => ((av_x d 51 [.ref 1, .int (a1 + 5)] q4.2.2).bind fun q5 => ((av_x d 50 [.ref 1, .int a1] q5.2.2).bind fun q6 => ((av_x d 118 [.int q6.1] q6.2.2).bind fun q7 => ((av_x d 27 [.ref 5, .int q7.1, .int q1.1, .int ((10 * q2.1) + q3.1), .int q4.1, .int q5.1] q7.2.2).bind fun q8 => av_xp d 117 19 [.ref 0, .int (a1 + 7), .int q1.1, .int ((10 * q2.1) + q3.1), .int q4.1, .int q5.1] [] q8.2.2))))))))) := (av_eq tX6_addLines 6 [19] 57 19 _ _ h tabX6_addLines wfX6_addLines rfl).trans rfl
theorem tabX6_asKind : av_tab 119 = (tX6_asKind, 2) := rfl
theorem wfX6_asKind : av_wf tX6_asKind = true := by decide +kernel
set_option maxHeartbeats 40000 in
set_option maxRecDepth 8000 in
theorem eX6_asKind_in (d : Nat) (h : av_M) (p0 : Int32) (p1 : Int32) : av_x (d + 1) 119 [.int p0, .int p1] h = (if p0 = 0 then some ((((Int32.toInt8 p1).toInt32) : Int32), (0 : Int64), h) else (if p0 = 1 then some ((((Int32.toInt16 p1).toInt32) : Int32), (0 : Int64), h) else some ((p1 : Int32), (0 : Int64), h))) := (av_ent d 119 tX6_asKind 2 _ h tabX6_asKind).trans ((av_eq tX6_asKind 2 [] 6 0 _ _ h tabX6_asKind wfX6_asKind rfl).trans rfl)
theorem tabX6_within : av_tab 104 = (tX6_within, 3) := rfl
theorem wfX6_within : av_wf tX6_within = true := by decide +kernel
set_option maxHeartbeats 40000 in
set_option maxRecDepth 8000 in
theorem eX6_within_in (d : Nat) (h : av_M) (p0 : Int32) (p1 : Int32) (p2 : Int32) : av_x (d + 1) 104 [.int p0, .int p1, .int p2] h = some (((av_max p1 (av_min p2 p0)) : Int32), (0 : Int64), h) := (av_ent d 104 tX6_within 3 _ h tabX6_within).trans ((av_eq tX6_within 3 [] 7 0 _ _ h tabX6_within wfX6_within rfl).trans rfl)
theorem tabX6_goHours : av_tab 124 = (tX6_goHours, 4) := rfl
theorem wfX6_goHours : av_wf tX6_goHours = true := by decide +kernel
set_option maxHeartbeats 40000 in
set_option maxRecDepth 8000 in
theorem eX6_goHours_r0_in (d : Nat) (h : av_M) (p1 : Int32) : av_x (d + 1) 124 [.ref 0, .int p1] h = (if p1 < 0 then some (((-1) : Int32), (0 : Int64), h) else (if p1 ≤ 60 then av_xp d 124 22 [.ref 0, .int p1, .int (h 5 8), .int 0] [] h else some (((-1) : Int32), (0 : Int64), h))) := (av_ent d 124 tX6_goHours 4 _ h tabX6_goHours).trans ((av_eq tX6_goHours 4 [22] 12 0 _ _ h tabX6_goHours wfX6_goHours rfl).trans rfl)
set_option maxHeartbeats 40000 in
set_option maxRecDepth 8000 in
theorem eX6_goHours_r0_22 (d : Nat) (h : av_M) (a1 : Int32) (a2 : Int32) (a3 : Int32) : av_xp d 124 22 [.ref 0, .int a1, .int a2, .int a3] [] h = (if a1 ≤ a3 then ((av_x d 28 [.ref 5] h).bind fun q1 => ((av_x d 275 [.int q1.1] q1.2.2).bind fun q2 => ((av_x d 111 [.ref 0, .long (Int32.toInt64 ((h 5 8) &&& (a2 ^^^ (-1)))), .long (Int32.toInt64 q2.1)] q2.2.2).bind fun q3 => some (((q3.2.2 5 10) : Int32), (0 : Int64), q3.2.2)))) else ((av_x d 43 [.ref 5, .ref 19] h).bind fun q4 => av_xp d 124 22 [.ref 0, .int a1, .int a2, .int (a3 + 1)] [] q4.2.2)) := (av_eq tX6_goHours 4 [22] 23 22 _ _ h tabX6_goHours wfX6_goHours rfl).trans rfl
theorem tabX6_settled : av_tab 122 = (tX6_settled, 2) := rfl
theorem wfX6_settled : av_wf tX6_settled = true := by decide +kernel
set_option maxHeartbeats 40000 in
set_option maxRecDepth 8000 in
theorem eX6_settled_r0_in (d : Nat) (h : av_M) (p1 : Int32) : av_x (d + 1) 122 [.ref 0, .int p1] h = (if p1 < 0 then some ((p1 : Int32), (0 : Int64), h) else ((av_x d 3 [.ref 27] h).bind fun q1 => some ((p1 : Int32), (0 : Int64), q1.2.2))) := (av_ent d 122 tX6_settled 2 _ h tabX6_settled).trans ((av_eq tX6_settled 2 [] 8 0 _ _ h tabX6_settled wfX6_settled rfl).trans rfl)
theorem tabX6_runTo : av_tab 125 = (tX6_runTo, 4) := rfl
theorem wfX6_runTo : av_wf tX6_runTo = true := by decide +kernel
set_option maxHeartbeats 40000 in
set_option maxRecDepth 8000 in
theorem eX6_runTo_r0_in (d : Nat) (h : av_M) (p1 : Int32) (p2 : Int32) : av_x (d + 1) 125 [.ref 0, .int p1, .int p2] h = ((av_x d 26 [.ref 5, .int p1] h).bind fun q1 => (if q1.1 = 0 then some (((-1) : Int32), (0 : Int64), q1.2.2) else ((av_x d 106 [.int p2] q1.2.2).bind fun q2 => (if q2.1 = 0 then some (((-1) : Int32), (0 : Int64), q2.2.2) else (cond (av_inb p1 7) ((cond (av_inb p1 7) ((if (av_abs (p2 - (q2.2.2 10 (Int32.toNatClampNeg p1)))) = 0 then some (((-2) : Int32), (0 : Int64), (av_u q2.2.2 10 (Int32.toNatClampNeg p1) p2)) else some (((av_abs (p2 - (q2.2.2 10 (Int32.toNatClampNeg p1)))) : Int32), (0 : Int64), (av_u q2.2.2 10 (Int32.toNatClampNeg p1) p2)))) none)) none))))) := (av_ent d 125 tX6_runTo 4 _ h tabX6_runTo).trans ((av_eq tX6_runTo 4 [] 29 0 _ _ h tabX6_runTo wfX6_runTo rfl).trans rfl)
theorem tabX6_setRate : av_tab 126 = (tX6_setRate, 4) := rfl
theorem wfX6_setRate : av_wf tX6_setRate = true := by decide +kernel
set_option maxHeartbeats 40000 in
set_option maxRecDepth 8000 in
theorem eX6_setRate_r0_in (d : Nat) (h : av_M) (p1 : Int32) (p2 : Int32) : av_x (d + 1) 126 [.ref 0, .int p1, .int p2] h = ((av_x d 26 [.ref 5, .int p1] h).bind fun q1 => (if q1.1 = 0 then some (((-1) : Int32), (0 : Int64), q1.2.2) else ((av_x d 106 [.int p2] q1.2.2).bind fun q2 => (if q2.1 = 0 then some (((-1) : Int32), (0 : Int64), q2.2.2) else (cond (av_inb p1 7) ((cond (av_inb p1 7) ((if (q2.2.2 9 (Int32.toNatClampNeg p1)) = p2 then some (((-2) : Int32), (0 : Int64), (av_u q2.2.2 9 (Int32.toNatClampNeg p1) p2)) else some (((10 + (q2.2.2 9 (Int32.toNatClampNeg p1))) : Int32), (0 : Int64), (av_u q2.2.2 9 (Int32.toNatClampNeg p1) p2)))) none)) none))))) := (av_ent d 126 tX6_setRate 4 _ h tabX6_setRate).trans ((av_eq tX6_setRate 4 [] 28 0 _ _ h tabX6_setRate wfX6_setRate rfl).trans rfl)
theorem tabX6_fillReel : av_tab 127 = (tX6_fillReel, 4) := rfl
theorem wfX6_fillReel : av_wf tX6_fillReel = true := by decide +kernel
set_option maxHeartbeats 40000 in
set_option maxRecDepth 8000 in
theorem eX6_fillReel_r0_in (d : Nat) (h : av_M) (p1 : Int32) (p2 : Int32) : av_x (d + 1) 127 [.ref 0, .int p1, .int p2] h = ((av_x d 26 [.ref 5, .int p1] h).bind fun q1 => (if q1.1 = 0 then some (((-1) : Int32), (0 : Int64), q1.2.2) else (if p2 < 1 then some (((-1) : Int32), (0 : Int64), q1.2.2) else (if p2 ≤ 99 then (cond (av_inb p1 7) ((if ((q1.2.2 8 (Int32.toNatClampNeg p1)) + p2) ≤ 99 then (cond (av_inb p1 7) (some ((((q1.2.2 8 (Int32.toNatClampNeg p1)) + p2) : Int32), (0 : Int64), (av_u q1.2.2 8 (Int32.toNatClampNeg p1) ((q1.2.2 8 (Int32.toNatClampNeg p1)) + p2)))) none) else some (((-2) : Int32), (0 : Int64), q1.2.2))) none) else some (((-1) : Int32), (0 : Int64), q1.2.2))))) := (av_ent d 127 tX6_fillReel 4 _ h tabX6_fillReel).trans ((av_eq tX6_fillReel 4 [] 31 0 _ _ h tabX6_fillReel wfX6_fillReel rfl).trans rfl)
theorem tabX6_turnEnd : av_tab 128 = (tX6_turnEnd, 2) := rfl
theorem wfX6_turnEnd : av_wf tX6_turnEnd = true := by decide +kernel
set_option maxHeartbeats 40000 in
set_option maxRecDepth 8000 in
theorem eX6_turnEnd_r0_in (d : Nat) (h : av_M) (p1 : Int32) : av_x (d + 1) 128 [.ref 0, .int p1] h = ((av_x d 26 [.ref 5, .int p1] h).bind fun q1 => (if q1.1 = 0 then some (((-1) : Int32), (0 : Int64), q1.2.2) else ((av_x d 108 [.int (q1.2.2 5 8), .int p1] q1.2.2).bind fun q2 => (if q2.1 = 0 then ((av_x d 28 [.ref 5] (av_u q2.2.2 5 9 ((q2.2.2 5 9) ^^^ (1 <<< (p1 &&& 31))))).bind fun q3 => ((av_x d 275 [.int q3.1] q3.2.2).bind fun q4 => some ((q4.1 : Int32), (0 : Int64), q4.2.2))) else some (((-2) : Int32), (0 : Int64), q2.2.2))))) := (av_ent d 128 tX6_turnEnd 2 _ h tabX6_turnEnd).trans ((av_eq tX6_turnEnd 2 [] 26 0 _ _ h tabX6_turnEnd wfX6_turnEnd rfl).trans rfl)
theorem tabX6_setSpeed : av_tab 129 = (tX6_setSpeed, 3) := rfl
theorem wfX6_setSpeed : av_wf tX6_setSpeed = true := by decide +kernel
set_option maxHeartbeats 40000 in
set_option maxRecDepth 8000 in
theorem eX6_setSpeed_r0_in (d : Nat) (h : av_M) (p1 : Int32) : av_x (d + 1) 129 [.ref 0, .int p1] h = ((av_x d 106 [.int p1] h).bind fun q1 => (if q1.1 = 0 then some (((-1) : Int32), (0 : Int64), q1.2.2) else (if (q1.2.2 5 11) = p1 then some (((-2) : Int32), (0 : Int64), (av_u q1.2.2 5 11 p1)) else some (((10 + (q1.2.2 5 11)) : Int32), (0 : Int64), (av_u q1.2.2 5 11 p1))))) := (av_ent d 129 tX6_setSpeed 3 _ h tabX6_setSpeed).trans ((av_eq tX6_setSpeed 3 [] 19 0 _ _ h tabX6_setSpeed wfX6_setSpeed rfl).trans rfl)
theorem tabX6_badActSign : av_tab 120 = (tX6_badActSign, 4) := rfl
theorem wfX6_badActSign : av_wf tX6_badActSign = true := by decide +kernel
set_option maxHeartbeats 40000 in
set_option maxRecDepth 8000 in
theorem eX6_badActSign_r0_in (d : Nat) (h : av_M) : av_x (d + 1) 120 [.ref 0] h = av_xp d 120 17 [.ref 0, .int (av_min (h 1 1) 60), .int 0, .int 0] [] h := (av_ent d 120 tX6_badActSign 4 _ h tabX6_badActSign).trans ((av_eq tX6_badActSign 4 [17] 11 0 _ _ h tabX6_badActSign wfX6_badActSign rfl).trans rfl)
set_option maxHeartbeats 40000 in
set_option maxRecDepth 8000 in
theorem eX6_badActSign_r0_17 (d : Nat) (h : av_M) (a1 : Int32) (a2 : Int32) (a3 : Int32) : av_xp d 120 17 [.ref 0, .int a1, .int a2, .int a3] [] h = (if a1 ≤ a3 then (if a2 = 0 then (if (h 1 1) = a1 then some (((-1) : Int32), (0 : Int64), h) else some ((a1 : Int32), (0 : Int64), h)) else some ((a1 : Int32), (0 : Int64), h)) else (if a2 ≤ 0 then ((av_x d 50 [.ref 1, .int a3] h).bind fun q1 => ((av_x d 121 [.int q1.1] q1.2.2).bind fun q2 => (if q2.1 = 0 then some ((a3 : Int32), (0 : Int64), q2.2.2) else av_xp d 120 17 [.ref 0, .int a1, .int q2.1, .int (a3 + 1)] [] q2.2.2))) else ((av_x d 51 [.ref 1, .int a3] h).bind fun q3 => (if 0 ≤ q3.1 then av_xp d 120 17 [.ref 0, .int a1, .int (a2 + (-1)), .int (a3 + 1)] [] q3.2.2 else some ((a3 : Int32), (0 : Int64), q3.2.2))))) := (av_eq tX6_badActSign 4 [17] 16 17 _ _ h tabX6_badActSign wfX6_badActSign rfl).trans rfl
theorem tabX6_tell_ : av_tab 111 = (tX6_tell_, 5) := rfl
theorem wfX6_tell_ : av_wf tX6_tell_ = true := by decide +kernel
set_option maxHeartbeats 40000 in
set_option maxRecDepth 8000 in
theorem eX6_tell__r0_in (d : Nat) (h : av_M) (p1 : Int64) (p2 : Int64) : av_x (d + 1) 111 [.ref 0, .long p1, .long p2] h = ((av_x d 8 [.ref 3] h).bind fun q1 => ((av_x d 9 [.ref 3, .long p1] q1.2.2).bind fun q2 => ((av_x d 9 [.ref 3, .long p2] q2.2.2).bind fun q3 => some ((0 : Int32), (0 : Int64), q3.2.2)))) := (av_ent d 111 tX6_tell_ 5 _ h tabX6_tell_).trans ((av_eq tX6_tell_ 5 [] 13 0 _ _ h tabX6_tell_ wfX6_tell_ rfl).trans rfl)
theorem tabX6_act : av_tab 123 = (tX6_act, 4) := rfl
theorem wfX6_act : av_wf tX6_act = true := by decide +kernel
set_option maxHeartbeats 40000 in
set_option maxRecDepth 8000 in
theorem eX6_act_r0_in (d : Nat) (h : av_M) (p1 : Int32) : av_x (d + 1) 123 [.ref 0, .int p1] h = ((av_x d 51 [.ref 1, .int (p1 + 1)] h).bind fun q1 => ((av_x d 51 [.ref 1, .int (p1 + 2)] q1.2.2).bind fun q2 => ((av_x d 50 [.ref 1, .int p1] q2.2.2).bind fun q3 => (if q3.1 = 100 then ((av_x d 128 [.ref 0, .int q1.1] q3.2.2).bind fun q10 => some ((q10.1 : Int32), (0 : Int64), q10.2.2)) else (if q3.1 = 101 then some (((-1) : Int32), (0 : Int64), q3.2.2) else (if q3.1 = 102 then some (((-1) : Int32), (0 : Int64), q3.2.2) else (if q3.1 = 103 then some (((-1) : Int32), (0 : Int64), q3.2.2) else (if q3.1 = 104 then some (((-1) : Int32), (0 : Int64), q3.2.2) else (if q3.1 = 105 then some (((-1) : Int32), (0 : Int64), q3.2.2) else (if q3.1 = 106 then some (((-1) : Int32), (0 : Int64), q3.2.2) else (if q3.1 = 107 then some (((-1) : Int32), (0 : Int64), q3.2.2) else (if q3.1 = 108 then some (((-1) : Int32), (0 : Int64), q3.2.2) else (if q3.1 = 109 then ((av_x d 51 [.ref 1, .int (p1 + 3)] q3.2.2).bind fun q8 => ((av_x d 127 [.ref 0, .int q1.1, .int ((10 * q2.1) + q8.1)] q8.2.2).bind fun q9 => some ((q9.1 : Int32), (0 : Int64), q9.2.2))) else (if q3.1 = 110 then ((av_x d 124 [.ref 0, .int q1.1] q3.2.2).bind fun q7 => some ((q7.1 : Int32), (0 : Int64), q7.2.2)) else (if q3.1 = 111 then some (((-1) : Int32), (0 : Int64), q3.2.2) else (if q3.1 = 112 then ((av_x d 125 [.ref 0, .int q1.1, .int q2.1] q3.2.2).bind fun q6 => some ((q6.1 : Int32), (0 : Int64), q6.2.2)) else (if q3.1 = 113 then some (((-1) : Int32), (0 : Int64), q3.2.2) else (if q3.1 = 114 then ((av_x d 126 [.ref 0, .int q1.1, .int q2.1] q3.2.2).bind fun q5 => some ((q5.1 : Int32), (0 : Int64), q5.2.2)) else (if q3.1 = 115 then ((av_x d 129 [.ref 0, .int q1.1] q3.2.2).bind fun q4 => some ((q4.1 : Int32), (0 : Int64), q4.2.2)) else some (((-1) : Int32), (0 : Int64), q3.2.2)))))))))))))))))))) := (av_ent d 123 tX6_act 4 _ h tabX6_act).trans ((av_eq tX6_act 4 [] 34 0 _ _ h tabX6_act wfX6_act rfl).trans rfl)
theorem tabX6_digitsBehind : av_tab 121 = (tX6_digitsBehind, 1) := rfl
theorem wfX6_digitsBehind : av_wf tX6_digitsBehind = true := by decide +kernel
set_option maxHeartbeats 40000 in
set_option maxRecDepth 8000 in
theorem eX6_digitsBehind_in (d : Nat) (h : av_M) (p0 : Int32) : av_x (d + 1) 121 [.int p0] h = (if p0 = 100 then some ((1 : Int32), (0 : Int64), h) else (if p0 = 101 then some ((0 : Int32), (0 : Int64), h) else (if p0 = 102 then some ((0 : Int32), (0 : Int64), h) else (if p0 = 103 then some ((0 : Int32), (0 : Int64), h) else (if p0 = 104 then some ((0 : Int32), (0 : Int64), h) else (if p0 = 105 then some ((0 : Int32), (0 : Int64), h) else (if p0 = 106 then some ((0 : Int32), (0 : Int64), h) else (if p0 = 107 then some ((0 : Int32), (0 : Int64), h) else (if p0 = 108 then some ((0 : Int32), (0 : Int64), h) else (if p0 = 109 then some ((3 : Int32), (0 : Int64), h) else (if p0 = 110 then some ((1 : Int32), (0 : Int64), h) else (if p0 = 111 then some ((0 : Int32), (0 : Int64), h) else (if p0 = 112 then some ((2 : Int32), (0 : Int64), h) else (if p0 = 113 then some ((0 : Int32), (0 : Int64), h) else (if p0 = 114 then some ((2 : Int32), (0 : Int64), h) else (if p0 = 115 then some ((1 : Int32), (0 : Int64), h) else some ((0 : Int32), (0 : Int64), h))))))))))))))))) := (av_ent d 121 tX6_digitsBehind 1 _ h tabX6_digitsBehind).trans ((av_eq tX6_digitsBehind 1 [] 5 0 _ _ h tabX6_digitsBehind wfX6_digitsBehind rfl).trans rfl)
theorem tabX6_foresee : av_tab 114 = (tX6_foresee, 2) := rfl
theorem wfX6_foresee : av_wf tX6_foresee = true := by decide +kernel
set_option maxHeartbeats 40000 in
set_option maxRecDepth 8000 in
theorem eX6_foresee_r0_in (d : Nat) (h : av_M) (p1 : Int32) : av_x (d + 1) 114 [.ref 0, .int p1] h = ((av_x d 45 [.ref 12, .ref 5] h).bind fun q1 => ((av_x d 42 [.ref 12, .ref 19, .int p1] q1.2.2).bind fun q2 => some ((0 : Int32), (0 : Int64), q2.2.2))) := (av_ent d 114 tX6_foresee 2 _ h tabX6_foresee).trans ((av_eq tX6_foresee 2 [] 13 0 _ _ h tabX6_foresee wfX6_foresee rfl).trans rfl)
theorem tabX6_isIn : av_tab 108 = (tX6_isIn, 2) := rfl
theorem wfX6_isIn : av_wf tX6_isIn = true := by decide +kernel
set_option maxHeartbeats 40000 in
set_option maxRecDepth 8000 in
theorem eX6_isIn_in (d : Nat) (h : av_M) (p0 : Int32) (p1 : Int32) : av_x (d + 1) 108 [.int p0, .int p1] h = (if ((p0 >>> (p1 &&& 31)) &&& 1) = 0 then some (((0 &&& 1) : Int32), (0 : Int64), h) else some (((1 &&& 1) : Int32), (0 : Int64), h)) := (av_ent d 108 tX6_isIn 2 _ h tabX6_isIn).trans ((av_eq tX6_isIn 2 [] 10 0 _ _ h tabX6_isIn wfX6_isIn rfl).trans rfl)
theorem tabX6_tell : av_tab 110 = (tX6_tell, 3) := rfl
theorem wfX6_tell : av_wf tX6_tell = true := by decide +kernel
set_option maxHeartbeats 40000 in
set_option maxRecDepth 8000 in
theorem eX6_tell_r0_in (d : Nat) (h : av_M) (p1 : Int64) : av_x (d + 1) 110 [.ref 0, .long p1] h = ((av_x d 8 [.ref 3] h).bind fun q1 => ((av_x d 9 [.ref 3, .long p1] q1.2.2).bind fun q2 => some ((0 : Int32), (0 : Int64), q2.2.2))) := (av_ent d 110 tX6_tell 3 _ h tabX6_tell).trans ((av_eq tX6_tell 3 [] 9 0 _ _ h tabX6_tell wfX6_tell rfl).trans rfl)
theorem tabX6_isSpan : av_tab 107 = (tX6_isSpan, 1) := rfl
theorem wfX6_isSpan : av_wf tX6_isSpan = true := by decide +kernel
set_option maxHeartbeats 40000 in
set_option maxRecDepth 8000 in
theorem eX6_isSpan_in (d : Nat) (h : av_M) (p0 : Int32) : av_x (d + 1) 107 [.int p0] h = (if p0 < 1 then some (((0 &&& 1) : Int32), (0 : Int64), h) else (if 60 < p0 then some (((0 &&& 1) : Int32), (0 : Int64), h) else some (((1 &&& 1) : Int32), (0 : Int64), h))) := (av_ent d 107 tX6_isSpan 1 _ h tabX6_isSpan).trans ((av_eq tX6_isSpan 1 [] 10 0 _ _ h tabX6_isSpan wfX6_isSpan rfl).trans rfl)
theorem tabX6_hoursHeld : av_tab 130 = (tX6_hoursHeld, 5) := rfl
theorem wfX6_hoursHeld : av_wf tX6_hoursHeld = true := by decide +kernel
set_option maxHeartbeats 40000 in
set_option maxRecDepth 8000 in
theorem eX6_hoursHeld_r0_in (d : Nat) (h : av_M) (p1 : Int32) (p2 : Int32) : av_x (d + 1) 130 [.ref 0, .int p1, .int p2] h = av_xp d 130 5 [.ref 0, .int p1, .int p2, .int 0, .int 0] [] h := (av_ent d 130 tX6_hoursHeld 5 _ h tabX6_hoursHeld).trans ((av_eq tX6_hoursHeld 5 [5] 5 0 _ _ h tabX6_hoursHeld wfX6_hoursHeld rfl).trans rfl)
set_option maxHeartbeats 40000 in
set_option maxRecDepth 8000 in
theorem eX6_hoursHeld_r0_5 (d : Nat) (h : av_M) (a1 : Int32) (a2 : Int32) (a3 : Int32) (a4 : Int32) : av_xp d 130 5 [.ref 0, .int a1, .int a2, .int a3, .int a4] [] h = (if a2 ≤ a4 then some ((a3 : Int32), (0 : Int64), h) else ((av_x d 29 [.ref 12, .int a1] h).bind fun q1 => (if q1.1 = 0 then some ((a3 : Int32), (0 : Int64), q1.2.2) else ((av_x d 43 [.ref 12, .ref 19] q1.2.2).bind fun q2 => ((av_x d 29 [.ref 12, .int a1] q2.2.2).bind fun q3 => (if q3.1 = 0 then av_xp d 130 5 [.ref 0, .int a1, .int a2, .int a3, .int (a4 + 1)] [] q3.2.2 else av_xp d 130 5 [.ref 0, .int a1, .int a2, .int (a3 + 1), .int (a4 + 1)] [] q3.2.2)))))) := (av_eq tX6_hoursHeld 5 [5] 22 5 _ _ h tabX6_hoursHeld wfX6_hoursHeld rfl).trans rfl
theorem tabX6_holdBySpeed : av_tab 131 = (tX6_holdBySpeed, 3) := rfl
theorem wfX6_holdBySpeed : av_wf tX6_holdBySpeed = true := by decide +kernel
set_option maxHeartbeats 40000 in
set_option maxRecDepth 8000 in
theorem eX6_holdBySpeed_r0_in (d : Nat) (h : av_M) (p1 : Int32) (p2 : Int32) : av_x (d + 1) 131 [.ref 0, .int p1, .int p2] h = ((av_x d 45 [.ref 12, .ref 5] h).bind fun q1 => ((av_x d 42 [.ref 12, .ref 19, .int p2] (av_u q1.2.2 12 11 p1)).bind fun q2 => ((av_x d 28 [.ref 12] q2.2.2).bind fun q3 => ((av_x d 275 [.int q3.1] q3.2.2).bind fun q4 => some ((q4.1 : Int32), (0 : Int64), q4.2.2))))) := (av_ent d 131 tX6_holdBySpeed 3 _ h tabX6_holdBySpeed).trans ((av_eq tX6_holdBySpeed 3 [] 21 0 _ _ h tabX6_holdBySpeed wfX6_holdBySpeed rfl).trans rfl)
theorem tabX6_tellSet : av_tab 113 = (tX6_tellSet, 3) := rfl
theorem wfX6_tellSet : av_wf tX6_tellSet = true := by decide +kernel
set_option maxHeartbeats 40000 in
set_option maxRecDepth 8000 in
theorem eX6_tellSet_r0_in (d : Nat) (h : av_M) (p1 : Int32) (p2 : Int32) : av_x (d + 1) 113 [.ref 0, .int p1, .int p2] h = (if p1 ≤ 7 then ((av_x d 110 [.ref 0, .long (Int32.toInt64 p2)] h).bind fun q1 => some ((p1 : Int32), (0 : Int64), q1.2.2)) else some (((-2) : Int32), (0 : Int64), h)) := (av_ent d 113 tX6_tellSet 3 _ h tabX6_tellSet).trans ((av_eq tX6_tellSet 3 [] 10 0 _ _ h tabX6_tellSet wfX6_tellSet rfl).trans rfl)
theorem tabX6_isWithin : av_tab 109 = (tX6_isWithin, 2) := rfl
theorem wfX6_isWithin : av_wf tX6_isWithin = true := by decide +kernel
set_option maxHeartbeats 40000 in
set_option maxRecDepth 8000 in
theorem eX6_isWithin_in (d : Nat) (h : av_M) (p0 : Int32) (p1 : Int32) : av_x (d + 1) 109 [.int p0, .int p1] h = (if (p0 &&& (p1 ^^^ (-1))) = 0 then some (((1 &&& 1) : Int32), (0 : Int64), h) else some (((0 &&& 1) : Int32), (0 : Int64), h)) := (av_ent d 109 tX6_isWithin 2 _ h tabX6_isWithin).trans ((av_eq tX6_isWithin 2 [] 10 0 _ _ h tabX6_isWithin wfX6_isWithin rfl).trans rfl)
theorem tabX6_holdsWithout : av_tab 132 = (tX6_holdsWithout, 4) := rfl
theorem wfX6_holdsWithout : av_wf tX6_holdsWithout = true := by decide +kernel
set_option maxHeartbeats 40000 in
set_option maxRecDepth 8000 in
theorem eX6_holdsWithout_r0_in (d : Nat) (h : av_M) (p1 : Int32) (p2 : Int32) (p3 : Int32) : av_x (d + 1) 132 [.ref 0, .int p1, .int p2, .int p3] h = ((av_x d 45 [.ref 12, .ref 5] h).bind fun q1 => ((av_x d 130 [.ref 0, .int p1, .int p3] (av_u q1.2.2 12 9 ((q1.2.2 12 9) ||| p2))).bind fun q2 => (if q2.1 = p3 then some (((1 &&& 1) : Int32), (0 : Int64), q2.2.2) else some (((0 &&& 1) : Int32), (0 : Int64), q2.2.2)))) := (av_ent d 132 tX6_holdsWithout 4 _ h tabX6_holdsWithout).trans ((av_eq tX6_holdsWithout 4 [] 22 0 _ _ h tabX6_holdsWithout wfX6_holdsWithout rfl).trans rfl)
theorem tabX6_tellFraction : av_tab 112 = (tX6_tellFraction, 12) := rfl
theorem wfX6_tellFraction : av_wf tX6_tellFraction = true := by decide +kernel
set_option maxHeartbeats 40000 in
set_option maxRecDepth 8000 in
theorem eX6_tellFraction_r0_in (d : Nat) (h : av_M) (p1 : Int64) (p2 : Int64) : av_x (d + 1) 112 [.ref 0, .long p1, .long p2] h = av_xp d 112 9 [.ref 0, .long p1, .null, .long p2, .null, .long p2, .null, .long p1, .null, .int 0, .null, .null] [] h := (av_ent d 112 tX6_tellFraction 12 _ h tabX6_tellFraction).trans ((av_eq tX6_tellFraction 12 [9] 7 0 _ _ h tabX6_tellFraction wfX6_tellFraction rfl).trans rfl)
set_option maxHeartbeats 40000 in
set_option maxRecDepth 8000 in
theorem eX6_tellFraction_r0_9 (d : Nat) (h : av_M) (a1 : Int64) (a3 : Int64) (a5 : Int64) (a7 : Int64) (a9 : Int32) : av_xp d 112 9 [.ref 0, .long a1, .null, .long a3, .null, .long a5, .null, .long a7, .null, .int a9, .null, .null] [] h = (if 100 ≤ a9 then (if (lg_cmp a5 0) = 0 then ((av_x d 111 [.ref 0, .long (a1 / 1), .long (a3 / 1)] h).bind fun q2 => some ((0 : Int32), (0 : Int64), q2.2.2)) else (cond (av_nzl a5) ((cond (av_nzl a5) (((av_x d 111 [.ref 0, .long (a1 / a5), .long (a3 / a5)] h).bind fun q1 => some ((0 : Int32), (0 : Int64), q1.2.2))) none)) none)) else (if (lg_cmp a7 0) = 0 then (if (lg_cmp a5 0) = 0 then ((av_x d 111 [.ref 0, .long (a1 / 1), .long (a3 / 1)] h).bind fun q4 => some ((0 : Int32), (0 : Int64), q4.2.2)) else (cond (av_nzl a5) ((cond (av_nzl a5) (((av_x d 111 [.ref 0, .long (a1 / a5), .long (a3 / a5)] h).bind fun q3 => some ((0 : Int32), (0 : Int64), q3.2.2))) none)) none)) else (cond (av_nzl a7) (av_xp d 112 9 [.ref 0, .long a1, .null, .long a3, .null, .long a7, .null, .long (a5 - a5 / a7 * a7), .null, .int (a9 + 1), .long (a5 - a5 / a7 * a7), .null] [] h) none))) := (av_eq tX6_tellFraction 12 [9] 23 9 _ _ h tabX6_tellFraction wfX6_tellFraction rfl).trans rfl
set_option maxHeartbeats 40000 in
set_option maxRecDepth 8000 in
theorem eX6_tellFraction_r0_9_2 (d : Nat) (h : av_M) (a1 : Int64) (a3 : Int64) (a5 : Int64) (a7 : Int64) (a9 : Int32) (a10 : Int64) : av_xp d 112 9 [.ref 0, .long a1, .null, .long a3, .null, .long a5, .null, .long a7, .null, .int a9, .long a10, .null] [] h = (if 100 ≤ a9 then (if (lg_cmp a5 0) = 0 then ((av_x d 111 [.ref 0, .long (a1 / 1), .long (a3 / 1)] h).bind fun q2 => some ((0 : Int32), (0 : Int64), q2.2.2)) else (cond (av_nzl a5) ((cond (av_nzl a5) (((av_x d 111 [.ref 0, .long (a1 / a5), .long (a3 / a5)] h).bind fun q1 => some ((0 : Int32), (0 : Int64), q1.2.2))) none)) none)) else (if (lg_cmp a7 0) = 0 then (if (lg_cmp a5 0) = 0 then ((av_x d 111 [.ref 0, .long (a1 / 1), .long (a3 / 1)] h).bind fun q4 => some ((0 : Int32), (0 : Int64), q4.2.2)) else (cond (av_nzl a5) ((cond (av_nzl a5) (((av_x d 111 [.ref 0, .long (a1 / a5), .long (a3 / a5)] h).bind fun q3 => some ((0 : Int32), (0 : Int64), q3.2.2))) none)) none)) else (cond (av_nzl a7) (av_xp d 112 9 [.ref 0, .long a1, .null, .long a3, .null, .long a7, .null, .long (a5 - a5 / a7 * a7), .null, .int (a9 + 1), .long (a5 - a5 / a7 * a7), .null] [] h) none))) := (av_eq tX6_tellFraction 12 [9] 23 9 _ _ h tabX6_tellFraction wfX6_tellFraction rfl).trans rfl
theorem tabX6_tips : av_tab 133 = (tX6_tips, 3) := rfl
theorem wfX6_tips : av_wf tX6_tips = true := by decide +kernel
set_option maxHeartbeats 40000 in
set_option maxRecDepth 8000 in
theorem eX6_tips_r0_in (d : Nat) (h : av_M) (p1 : Int32) (p2 : Int32) : av_x (d + 1) 133 [.ref 0, .int p1, .int p2] h = ((av_x d 134 [.ref 0, .int p1] h).bind fun q1 => (if q1.1 = 0 then ((av_x d 134 [.ref 0, .int (p1 ||| (1 <<< (p2 &&& 31)))] q1.2.2).bind fun q2 => (if q2.1 = 0 then some (((0 &&& 1) : Int32), (0 : Int64), q2.2.2) else some (((1 &&& 1) : Int32), (0 : Int64), q2.2.2))) else some (((0 &&& 1) : Int32), (0 : Int64), q1.2.2))) := (av_ent d 133 tX6_tips 3 _ h tabX6_tips).trans ((av_eq tX6_tips 3 [] 16 0 _ _ h tabX6_tips wfX6_tips rfl).trans rfl)
theorem tabX6_orders : av_tab 135 = (tX6_orders, 4) := rfl
theorem wfX6_orders : av_wf tX6_orders = true := by decide +kernel
set_option maxHeartbeats 40000 in
set_option maxRecDepth 8000 in
theorem eX6_orders_in (d : Nat) (h : av_M) (p0 : Int32) : av_x (d + 1) 135 [.int p0] h = av_xp d 135 4 [.int p0, .long 1, .null, .int 2] [] h := (av_ent d 135 tX6_orders 4 _ h tabX6_orders).trans ((av_eq tX6_orders 4 [4] 5 0 _ _ h tabX6_orders wfX6_orders rfl).trans rfl)
set_option maxHeartbeats 40000 in
set_option maxRecDepth 8000 in
theorem eX6_orders_4 (d : Nat) (h : av_M) (a0 : Int32) (a1 : Int64) (a3 : Int32) : av_xp d 135 4 [.int a0, .long a1, .null, .int a3] [] h = (if a0 < a3 then some ((0 : Int32), (a1 : Int64), h) else av_xp d 135 4 [.int a0, .long (a1 * (Int32.toInt64 a3)), .null, .int (a3 + 1)] [] h) := (av_eq tX6_orders 4 [4] 11 4 _ _ h tabX6_orders wfX6_orders rfl).trans rfl
theorem tabX6_mayBeEnds : av_tab 137 = (tX6_mayBeEnds, 1) := rfl
theorem wfX6_mayBeEnds : av_wf tX6_mayBeEnds = true := by decide +kernel
set_option maxHeartbeats 40000 in
set_option maxRecDepth 8000 in
theorem eX6_mayBeEnds_in (d : Nat) (h : av_M) (p0 : Int32) : av_x (d + 1) 137 [.int p0] h = (if p0 < 0 then some (((0 &&& 1) : Int32), (0 : Int64), h) else (if 7 < p0 then some (((0 &&& 1) : Int32), (0 : Int64), h) else some (((1 &&& 1) : Int32), (0 : Int64), h))) := (av_ent d 137 tX6_mayBeEnds 1 _ h tabX6_mayBeEnds).trans ((av_eq tX6_mayBeEnds 1 [] 9 0 _ _ h tabX6_mayBeEnds wfX6_mayBeEnds rfl).trans rfl)
theorem tabX6_coloursAre : av_tab 138 = (tX6_coloursAre, 6) := rfl
theorem wfX6_coloursAre : av_wf tX6_coloursAre = true := by decide +kernel
set_option maxHeartbeats 40000 in
set_option maxRecDepth 8000 in
theorem eX6_coloursAre_r0_in (d : Nat) (h : av_M) (p1 : Int32) (p2 : Int32) (p3 : Int32) (p4 : Int32) (p5 : Int32) : av_x (d + 1) 138 [.ref 0, .int p1, .int p2, .int p3, .int p4, .int p5] h = ((av_x d 34 [.ref 5, .int 0] h).bind fun q1 => ((av_x d 275 [.int (p1 &&& q1.1)] q1.2.2).bind fun q2 => (if q2.1 = p2 then ((av_x d 34 [.ref 5, .int 1] q2.2.2).bind fun q3 => ((av_x d 275 [.int (p1 &&& q3.1)] q3.2.2).bind fun q4 => (if q4.1 = p3 then ((av_x d 34 [.ref 5, .int 2] q4.2.2).bind fun q5 => ((av_x d 275 [.int (p1 &&& q5.1)] q5.2.2).bind fun q6 => (if q6.1 = p4 then ((av_x d 34 [.ref 5, .int 3] q6.2.2).bind fun q7 => ((av_x d 275 [.int (p1 &&& q7.1)] q7.2.2).bind fun q8 => (if q8.1 = p5 then some (((1 &&& 1) : Int32), (0 : Int64), q8.2.2) else some (((0 &&& 1) : Int32), (0 : Int64), q8.2.2)))) else some (((0 &&& 1) : Int32), (0 : Int64), q6.2.2)))) else some (((0 &&& 1) : Int32), (0 : Int64), q4.2.2)))) else some (((0 &&& 1) : Int32), (0 : Int64), q2.2.2)))) := (av_ent d 138 tX6_coloursAre 6 _ h tabX6_coloursAre).trans ((av_eq tX6_coloursAre 6 [] 40 0 _ _ h tabX6_coloursAre wfX6_coloursAre rfl).trans rfl)
theorem tabX6_isBit : av_tab 105 = (tX6_isBit, 1) := rfl
theorem wfX6_isBit : av_wf tX6_isBit = true := by decide +kernel
set_option maxHeartbeats 40000 in
set_option maxRecDepth 8000 in
theorem eX6_isBit_in (d : Nat) (h : av_M) (p0 : Int32) : av_x (d + 1) 105 [.int p0] h = (if p0 = 0 then some (((1 &&& 1) : Int32), (0 : Int64), h) else (if p0 = 1 then some (((1 &&& 1) : Int32), (0 : Int64), h) else some (((0 &&& 1) : Int32), (0 : Int64), h))) := (av_ent d 105 tX6_isBit 1 _ h tabX6_isBit).trans ((av_eq tX6_isBit 1 [] 9 0 _ _ h tabX6_isBit wfX6_isBit rfl).trans rfl)
theorem tabX6_fitsSights : av_tab 139 = (tX6_fitsSights, 4) := rfl
theorem wfX6_fitsSights : av_wf tX6_fitsSights = true := by decide +kernel
set_option maxHeartbeats 40000 in
set_option maxRecDepth 8000 in
theorem eX6_fitsSights_r0_in (d : Nat) (h : av_M) (p1 : Int32) : av_x (d + 1) 139 [.ref 0, .int p1] h = av_xp d 139 2 [.ref 0, .int p1, .int 0, .null] [] h := (av_ent d 139 tX6_fitsSights 4 _ h tabX6_fitsSights).trans ((av_eq tX6_fitsSights 4 [2] 3 0 _ _ h tabX6_fitsSights wfX6_fitsSights rfl).trans rfl)
set_option maxHeartbeats 40000 in
set_option maxRecDepth 8000 in
theorem eX6_fitsSights_r0_2 (d : Nat) (h : av_M) (a1 : Int32) (a2 : Int32) : av_xp d 139 2 [.ref 0, .int a1, .int a2, .null] [] h = (if (h 30 4) ≤ a2 then some (((1 &&& 1) : Int32), (0 : Int64), h) else (cond (av_inb a2 12) (((av_x d 31 [.ref 5, .int (h 31 (Int32.toNatClampNeg a2))] h).bind fun q1 => (cond (av_inb a2 12) ((if (a1 - q1.1) < (q1.2.2 32 (Int32.toNatClampNeg a2)) then (cond (av_inb a2 12) ((if (q1.2.2 33 (Int32.toNatClampNeg a2)) = 1 then some (((0 &&& 1) : Int32), (0 : Int64), q1.2.2) else av_xp d 139 2 [.ref 0, .int a1, .int (a2 + 1), .int 0] [] q1.2.2)) none) else (cond (av_inb a2 12) ((if (q1.2.2 33 (Int32.toNatClampNeg a2)) = 1 then av_xp d 139 2 [.ref 0, .int a1, .int (a2 + 1), .int 1] [] q1.2.2 else some (((0 &&& 1) : Int32), (0 : Int64), q1.2.2))) none))) none))) none)) := (av_eq tX6_fitsSights 4 [2] 38 2 _ _ h tabX6_fitsSights wfX6_fitsSights rfl).trans rfl
set_option maxHeartbeats 40000 in
set_option maxRecDepth 8000 in
theorem eX6_fitsSights_r0_2_2 (d : Nat) (h : av_M) (a1 : Int32) (a2 : Int32) (a3 : Int32) : av_xp d 139 2 [.ref 0, .int a1, .int a2, .int a3] [] h = (if (h 30 4) ≤ a2 then some (((1 &&& 1) : Int32), (0 : Int64), h) else (cond (av_inb a2 12) (((av_x d 31 [.ref 5, .int (h 31 (Int32.toNatClampNeg a2))] h).bind fun q1 => (cond (av_inb a2 12) ((if (a1 - q1.1) < (q1.2.2 32 (Int32.toNatClampNeg a2)) then (cond (av_inb a2 12) ((if (q1.2.2 33 (Int32.toNatClampNeg a2)) = 1 then some (((0 &&& 1) : Int32), (0 : Int64), q1.2.2) else av_xp d 139 2 [.ref 0, .int a1, .int (a2 + 1), .int 0] [] q1.2.2)) none) else (cond (av_inb a2 12) ((if (q1.2.2 33 (Int32.toNatClampNeg a2)) = 1 then av_xp d 139 2 [.ref 0, .int a1, .int (a2 + 1), .int 1] [] q1.2.2 else some (((0 &&& 1) : Int32), (0 : Int64), q1.2.2))) none))) none))) none)) := (av_eq tX6_fitsSights 4 [2] 38 2 _ _ h tabX6_fitsSights wfX6_fitsSights rfl).trans rfl
theorem tabX6_countWaysFrom : av_tab 140 = (tX6_countWaysFrom, 2) := rfl
theorem wfX6_countWaysFrom : av_wf tX6_countWaysFrom = true := by decide +kernel
set_option maxHeartbeats 40000 in
set_option maxRecDepth 8000 in
theorem eX6_countWaysFrom_r0_in (d : Nat) (h : av_M) : av_x (d + 1) 140 [.ref 0] h = av_xp d 140 11 [.ref 0, .int 59] [] (av_u h 42 60 0) := (av_ent d 140 tX6_countWaysFrom 2 _ h tabX6_countWaysFrom).trans ((av_eq tX6_countWaysFrom 2 [11] 8 0 _ _ h tabX6_countWaysFrom wfX6_countWaysFrom rfl).trans rfl)
set_option maxHeartbeats 40000 in
set_option maxRecDepth 8000 in
theorem eX6_countWaysFrom_r0_11 (d : Nat) (h : av_M) (a1 : Int32) : av_xp d 140 11 [.ref 0, .int a1] [] h = (if a1 < 0 then some (((h 42 0) : Int32), (0 : Int64), h) else (cond (av_inb (a1 + 1) 61) (((av_x d 139 [.ref 0, .int a1] h).bind fun q1 => (if q1.1 = 0 then (cond (av_inb a1 61) (av_xp d 140 11 [.ref 0, .int (a1 + (-1))] [] (av_u q1.2.2 42 (Int32.toNatClampNeg a1) ((h 42 (Int32.toNatClampNeg (a1 + 1))) + 0))) none) else (cond (av_inb a1 61) (av_xp d 140 11 [.ref 0, .int (a1 + (-1))] [] (av_u q1.2.2 42 (Int32.toNatClampNeg a1) ((h 42 (Int32.toNatClampNeg (a1 + 1))) + 1))) none)))) none)) := (av_eq tX6_countWaysFrom 2 [11] 22 11 _ _ h tabX6_countWaysFrom wfX6_countWaysFrom rfl).trans rfl
theorem tabX6_mayBeHeard : av_tab 141 = (tX6_mayBeHeard, 2) := rfl
theorem wfX6_mayBeHeard : av_wf tX6_mayBeHeard = true := by decide +kernel
set_option maxHeartbeats 40000 in
set_option maxRecDepth 8000 in
theorem eX6_mayBeHeard_in (d : Nat) (h : av_M) (p0 : Int32) (p1 : Int32) : av_x (d + 1) 141 [.int p0, .int p1] h = (if p0 = 0 then (if p1 < 0 then some (((0 &&& 1) : Int32), (0 : Int64), h) else (if 4 ≤ p1 then some (((0 &&& 1) : Int32), (0 : Int64), h) else some (((1 &&& 1) : Int32), (0 : Int64), h))) else (if p0 = 1 then (if p1 < 1 then some (((0 &&& 1) : Int32), (0 : Int64), h) else (if 9 < p1 then some (((0 &&& 1) : Int32), (0 : Int64), h) else some (((1 &&& 1) : Int32), (0 : Int64), h))) else (if p0 = 2 then ((av_x d 105 [.int p1] h).bind fun q3 => some (((q3.1 &&& 1) : Int32), (0 : Int64), q3.2.2)) else (if p0 = 3 then ((av_x d 106 [.int p1] h).bind fun q2 => some (((q2.1 &&& 1) : Int32), (0 : Int64), q2.2.2)) else (if p0 = 4 then ((av_x d 105 [.int p1] h).bind fun q1 => some (((q1.1 &&& 1) : Int32), (0 : Int64), q1.2.2)) else some (((0 &&& 1) : Int32), (0 : Int64), h)))))) := (av_ent d 141 tX6_mayBeHeard 2 _ h tabX6_mayBeHeard).trans ((av_eq tX6_mayBeHeard 2 [] 12 0 _ _ h tabX6_mayBeHeard wfX6_mayBeHeard rfl).trans rfl)
theorem tabX6_fitRumours : av_tab 142 = (tX6_fitRumours, 3) := rfl
theorem wfX6_fitRumours : av_wf tX6_fitRumours = true := by decide +kernel
set_option maxHeartbeats 40000 in
set_option maxRecDepth 8000 in
theorem eX6_fitRumours_r0_in (d : Nat) (h : av_M) : av_x (d + 1) 142 [.ref 0] h = av_xp d 142 10 [.ref 0, .int (h 5 7), .int 0] [] h := (av_ent d 142 tX6_fitRumours 3 _ h tabX6_fitRumours).trans ((av_eq tX6_fitRumours 3 [10] 7 0 _ _ h tabX6_fitRumours wfX6_fitRumours rfl).trans rfl)
set_option maxHeartbeats 40000 in
set_option maxRecDepth 8000 in
theorem eX6_fitRumours_r0_10 (d : Nat) (h : av_M) (a1 : Int32) (a2 : Int32) : av_xp d 142 10 [.ref 0, .int a1, .int a2] [] h = (if (h 34 4) ≤ a2 then some ((a1 : Int32), (0 : Int64), h) else (cond (av_inb a2 12) ((cond (av_inb a2 12) (((av_x d 143 [.ref 0, .int (h 35 (Int32.toNatClampNeg a2)), .int (h 36 (Int32.toNatClampNeg a2))] h).bind fun q1 => av_xp d 142 10 [.ref 0, .int (a1 &&& q1.1), .int (a2 + 1)] [] q1.2.2)) none)) none)) := (av_eq tX6_fitRumours 3 [10] 23 10 _ _ h tabX6_fitRumours wfX6_fitRumours rfl).trans rfl
theorem tabX6_ofWhom : av_tab 143 = (tX6_ofWhom, 3) := rfl
theorem wfX6_ofWhom : av_wf tX6_ofWhom = true := by decide +kernel
set_option maxHeartbeats 40000 in
set_option maxRecDepth 8000 in
theorem eX6_ofWhom_r0_in (d : Nat) (h : av_M) (p1 : Int32) (p2 : Int32) : av_x (d + 1) 143 [.ref 0, .int p1, .int p2] h = (if p1 = 0 then ((av_x d 34 [.ref 5, .int p2] h).bind fun q7 => some ((q7.1 : Int32), (0 : Int64), q7.2.2)) else (if p1 = 1 then ((av_x d 35 [.ref 5, .int p2] h).bind fun q6 => some ((q6.1 : Int32), (0 : Int64), q6.2.2)) else (if p1 = 2 then (if p2 = 1 then ((av_x d 28 [.ref 5] h).bind fun q5 => some ((q5.1 : Int32), (0 : Int64), q5.2.2)) else ((av_x d 28 [.ref 5] h).bind fun q4 => some ((((h 5 7) &&& (q4.1 ^^^ (-1))) : Int32), (0 : Int64), q4.2.2))) else (if p1 = 3 then ((av_x d 36 [.ref 5, .int p2] h).bind fun q3 => some ((q3.1 : Int32), (0 : Int64), q3.2.2)) else (if p2 = 1 then ((av_x d 33 [.ref 5] h).bind fun q2 => some ((q2.1 : Int32), (0 : Int64), q2.2.2)) else ((av_x d 33 [.ref 5] h).bind fun q1 => some ((((h 5 7) &&& (q1.1 ^^^ (-1))) : Int32), (0 : Int64), q1.2.2))))))) := (av_ent d 143 tX6_ofWhom 3 _ h tabX6_ofWhom).trans ((av_eq tX6_ofWhom 3 [] 16 0 _ _ h tabX6_ofWhom wfX6_ofWhom rfl).trans rfl)
theorem tabX6_times : av_tab 136 = (tX6_times, 6) := rfl
theorem wfX6_times : av_wf tX6_times = true := by decide +kernel
set_option maxHeartbeats 40000 in
set_option maxRecDepth 8000 in
theorem eX6_times_in (d : Nat) (h : av_M) (p0 : Int64) (p1 : Int32) : av_x (d + 1) 136 [.long p0, .int p1] h = av_xp d 136 5 [.long p0, .null, .int p1, .long 1, .null, .int 0] [] h := (av_ent d 136 tX6_times 6 _ h tabX6_times).trans ((av_eq tX6_times 6 [5] 5 0 _ _ h tabX6_times wfX6_times rfl).trans rfl)
set_option maxHeartbeats 40000 in
set_option maxRecDepth 8000 in
theorem eX6_times_5 (d : Nat) (h : av_M) (a0 : Int64) (a2 : Int32) (a3 : Int64) (a5 : Int32) : av_xp d 136 5 [.long a0, .null, .int a2, .long a3, .null, .int a5] [] h = (if a2 ≤ a5 then some ((0 : Int32), (a3 : Int64), h) else av_xp d 136 5 [.long a0, .null, .int a2, .long (a3 * a0), .null, .int (a5 + 1)] [] h) := (av_eq tX6_times 6 [5] 10 5 _ _ h tabX6_times wfX6_times rfl).trans rfl
theorem tabX6_fitsPartings : av_tab 147 = (tX6_fitsPartings, 4) := rfl
theorem wfX6_fitsPartings : av_wf tX6_fitsPartings = true := by decide +kernel
set_option maxHeartbeats 40000 in
set_option maxRecDepth 8000 in
theorem eX6_fitsPartings_r0_in (d : Nat) (h : av_M) (p1 : Int32) : av_x (d + 1) 147 [.ref 0, .int p1] h = av_xp d 147 2 [.ref 0, .int p1, .int 0, .null] [] h := (av_ent d 147 tX6_fitsPartings 4 _ h tabX6_fitsPartings).trans ((av_eq tX6_fitsPartings 4 [2] 3 0 _ _ h tabX6_fitsPartings wfX6_fitsPartings rfl).trans rfl)
set_option maxHeartbeats 40000 in
set_option maxRecDepth 8000 in
theorem eX6_fitsPartings_r0_2 (d : Nat) (h : av_M) (a1 : Int32) (a2 : Int32) : av_xp d 147 2 [.ref 0, .int a1, .int a2, .null] [] h = (if (h 38 4) ≤ a2 then some (((1 &&& 1) : Int32), (0 : Int64), h) else (cond (av_inb a2 12) ((cond (av_inb a2 12) (((av_x d 146 [.int a1, .int (h 39 (Int32.toNatClampNeg a2)), .int (h 40 (Int32.toNatClampNeg a2))] h).bind fun q1 => (cond (av_inb a2 12) ((if (q1.2.2 41 (Int32.toNatClampNeg a2)) = 1 then (if q1.1 = 1 then av_xp d 147 2 [.ref 0, .int a1, .int (a2 + 1), .int q1.1] [] q1.2.2 else some (((0 &&& 1) : Int32), (0 : Int64), q1.2.2)) else (if q1.1 = 0 then av_xp d 147 2 [.ref 0, .int a1, .int (a2 + 1), .int q1.1] [] q1.2.2 else some (((0 &&& 1) : Int32), (0 : Int64), q1.2.2)))) none))) none)) none)) := (av_eq tX6_fitsPartings 4 [2] 32 2 _ _ h tabX6_fitsPartings wfX6_fitsPartings rfl).trans rfl
set_option maxHeartbeats 40000 in
set_option maxRecDepth 8000 in
theorem eX6_fitsPartings_r0_2_2 (d : Nat) (h : av_M) (a1 : Int32) (a2 : Int32) (a3 : Int32) : av_xp d 147 2 [.ref 0, .int a1, .int a2, .int a3] [] h = (if (h 38 4) ≤ a2 then some (((1 &&& 1) : Int32), (0 : Int64), h) else (cond (av_inb a2 12) ((cond (av_inb a2 12) (((av_x d 146 [.int a1, .int (h 39 (Int32.toNatClampNeg a2)), .int (h 40 (Int32.toNatClampNeg a2))] h).bind fun q1 => (cond (av_inb a2 12) ((if (q1.2.2 41 (Int32.toNatClampNeg a2)) = 1 then (if q1.1 = 1 then av_xp d 147 2 [.ref 0, .int a1, .int (a2 + 1), .int q1.1] [] q1.2.2 else some (((0 &&& 1) : Int32), (0 : Int64), q1.2.2)) else (if q1.1 = 0 then av_xp d 147 2 [.ref 0, .int a1, .int (a2 + 1), .int q1.1] [] q1.2.2 else some (((0 &&& 1) : Int32), (0 : Int64), q1.2.2)))) none))) none)) none)) := (av_eq tX6_fitsPartings 4 [2] 32 2 _ _ h tabX6_fitsPartings wfX6_fitsPartings rfl).trans rfl
theorem tabX6_factorOf : av_tab 144 = (tX6_factorOf, 1) := rfl
theorem wfX6_factorOf : av_wf tX6_factorOf = true := by decide +kernel
set_option maxHeartbeats 40000 in
set_option maxRecDepth 8000 in
theorem eX6_factorOf_in (d : Nat) (h : av_M) (p0 : Int32) : av_x (d + 1) 144 [.int p0] h = some (((1 + (p0 / 10)) : Int32), (0 : Int64), h) := (av_ent d 144 tX6_factorOf 1 _ h tabX6_factorOf).trans ((av_eq tX6_factorOf 1 [] 7 0 _ _ h tabX6_factorOf wfX6_factorOf rfl).trans rfl)
theorem tabX6_slackOf : av_tab 145 = (tX6_slackOf, 1) := rfl
theorem wfX6_slackOf : av_wf tX6_slackOf = true := by decide +kernel
set_option maxHeartbeats 40000 in
set_option maxRecDepth 8000 in
theorem eX6_slackOf_in (d : Nat) (h : av_M) (p0 : Int32) : av_x (d + 1) 145 [.int p0] h = some (((p0 - p0 / 10 * 10) : Int32), (0 : Int64), h) := (av_ent d 145 tX6_slackOf 1 _ h tabX6_slackOf).trans ((av_eq tX6_slackOf 1 [] 5 0 _ _ h tabX6_slackOf wfX6_slackOf rfl).trans rfl)
theorem tabX6_fittingLaws : av_tab 148 = (tX6_fittingLaws, 4) := rfl
theorem wfX6_fittingLaws : av_wf tX6_fittingLaws = true := by decide +kernel
set_option maxHeartbeats 40000 in
set_option maxRecDepth 8000 in
theorem eX6_fittingLaws_r0_in (d : Nat) (h : av_M) : av_x (d + 1) 148 [.ref 0] h = av_xp d 148 4 [.ref 0, .long 0, .null, .int 0] [] h := (av_ent d 148 tX6_fittingLaws 4 _ h tabX6_fittingLaws).trans ((av_eq tX6_fittingLaws 4 [4] 5 0 _ _ h tabX6_fittingLaws wfX6_fittingLaws rfl).trans rfl)
set_option maxHeartbeats 40000 in
set_option maxRecDepth 8000 in
theorem eX6_fittingLaws_r0_4 (d : Nat) (h : av_M) (a1 : Int64) (a3 : Int32) : av_xp d 148 4 [.ref 0, .long a1, .null, .int a3] [] h = (if 40 ≤ a3 then some ((0 : Int32), (a1 : Int64), h) else ((av_x d 147 [.ref 0, .int a3] h).bind fun q1 => (if q1.1 = 0 then av_xp d 148 4 [.ref 0, .long a1, .null, .int (a3 + 1)] [] q1.2.2 else av_xp d 148 4 [.ref 0, .long (a1 ||| (1 <<< (Int32.toInt64 a3 &&& 63))), .null, .int (a3 + 1)] [] q1.2.2))) := (av_eq tX6_fittingLaws 4 [4] 16 4 _ _ h tabX6_fittingLaws wfX6_fittingLaws rfl).trans rfl
theorem tabX6_breakingLaws : av_tab 149 = (tX6_breakingLaws, 5) := rfl
theorem wfX6_breakingLaws : av_wf tX6_breakingLaws = true := by decide +kernel
set_option maxHeartbeats 40000 in
set_option maxRecDepth 8000 in
theorem eX6_breakingLaws_in (d : Nat) (h : av_M) (p0 : Int32) (p1 : Int32) : av_x (d + 1) 149 [.int p0, .int p1] h = av_xp d 149 5 [.int p0, .int p1, .long 0, .null, .int 0] [] h := (av_ent d 149 tX6_breakingLaws 5 _ h tabX6_breakingLaws).trans ((av_eq tX6_breakingLaws 5 [5] 5 0 _ _ h tabX6_breakingLaws wfX6_breakingLaws rfl).trans rfl)
set_option maxHeartbeats 40000 in
set_option maxRecDepth 8000 in
theorem eX6_breakingLaws_5 (d : Nat) (h : av_M) (a0 : Int32) (a1 : Int32) (a2 : Int64) (a4 : Int32) : av_xp d 149 5 [.int a0, .int a1, .long a2, .null, .int a4] [] h = (if 40 ≤ a4 then some ((0 : Int32), (a2 : Int64), h) else ((av_x d 146 [.int a4, .int a0, .int a1] h).bind fun q1 => (if q1.1 = 0 then av_xp d 149 5 [.int a0, .int a1, .long a2, .null, .int (a4 + 1)] [] q1.2.2 else av_xp d 149 5 [.int a0, .int a1, .long (a2 ||| (1 <<< (Int32.toInt64 a4 &&& 63))), .null, .int (a4 + 1)] [] q1.2.2))) := (av_eq tX6_breakingLaws 5 [5] 17 5 _ _ h tabX6_breakingLaws wfX6_breakingLaws rfl).trans rfl
theorem tabX6_learnNimbers : av_tab 150 = (tX6_learnNimbers, 2) := rfl
theorem wfX6_learnNimbers : av_wf tX6_learnNimbers = true := by decide +kernel
set_option maxHeartbeats 40000 in
set_option maxRecDepth 8000 in
theorem eX6_learnNimbers_r0_in (d : Nat) (h : av_M) (p1 : Int32) : av_x (d + 1) 150 [.ref 0, .int p1] h = av_xp d 150 0 [.ref 0, .int p1] [] h := av_ent d 150 tX6_learnNimbers 2 _ h tabX6_learnNimbers
set_option maxHeartbeats 40000 in
set_option maxRecDepth 8000 in
theorem eX6_learnNimbers_r0_0 (d : Nat) (h : av_M) (a1 : Int32) : av_xp d 150 0 [.ref 0, .int a1] [] h = (if a1 < (h 0 12) then some ((0 : Int32), (0 : Int64), h) else (if 61 ≤ (h 0 12) then some ((0 : Int32), (0 : Int64), h) else ((av_x d 151 [.ref 0, .int (h 0 12)] h).bind fun q1 => (cond (av_inb (h 0 12) 61) (av_xp d 150 0 [.ref 0, .int a1] [] (av_u (av_u q1.2.2 43 (Int32.toNatClampNeg (h 0 12)) q1.1) 0 12 ((q1.2.2 0 12) + 1))) none)))) := (av_eq tX6_learnNimbers 2 [0] 27 0 _ _ h tabX6_learnNimbers wfX6_learnNimbers rfl).trans rfl
theorem tabX6_isBestAgainst : av_tab 152 = (tX6_isBestAgainst, 5) := rfl
theorem wfX6_isBestAgainst : av_wf tX6_isBestAgainst = true := by decide +kernel
set_option maxHeartbeats 40000 in
set_option maxRecDepth 8000 in
theorem eX6_isBestAgainst_in (d : Nat) (h : av_M) (p0 : Int32) (p1 : Int32) (p2 : Int32) : av_x (d + 1) 152 [.int p0, .int p1, .int p2] h = ((av_x d 153 [.int p0, .int p1, .int p2] h).bind fun q1 => av_xp d 152 10 [.int p0, .int p1, .int p2, .int q1.1, .int 0] [] q1.2.2) := (av_ent d 152 tX6_isBestAgainst 5 _ h tabX6_isBestAgainst).trans ((av_eq tX6_isBestAgainst 5 [10] 8 0 _ _ h tabX6_isBestAgainst wfX6_isBestAgainst rfl).trans rfl)
set_option maxHeartbeats 40000 in
set_option maxRecDepth 8000 in
theorem eX6_isBestAgainst_10 (d : Nat) (h : av_M) (a0 : Int32) (a1 : Int32) (a2 : Int32) (a3 : Int32) (a4 : Int32) : av_xp d 152 10 [.int a0, .int a1, .int a2, .int a3, .int a4] [] h = (if 9 < a4 then some (((1 &&& 1) : Int32), (0 : Int64), h) else ((av_x d 153 [.int a4, .int a1, .int a2] h).bind fun q1 => (if q1.1 ≤ a3 then av_xp d 152 10 [.int a0, .int a1, .int a2, .int a3, .int (a4 + 1)] [] q1.2.2 else some (((0 &&& 1) : Int32), (0 : Int64), q1.2.2)))) := (av_eq tX6_isBestAgainst 5 [10] 12 10 _ _ h tabX6_isBestAgainst wfX6_isBestAgainst rfl).trans rfl
theorem tabX6_drawOne : av_tab 155 = (tX6_drawOne, 4) := rfl
theorem wfX6_drawOne : av_wf tX6_drawOne = true := by decide +kernel
set_option maxHeartbeats 40000 in
set_option maxRecDepth 8000 in
theorem eX6_drawOne_r0_in (d : Nat) (h : av_M) : av_x (d + 1) 155 [.ref 0] h = ((av_x d 154 [.ref 0, .int 4] h).bind fun q1 => (if 2 ≤ q1.1 then (if (q1.2.2 12 6) ≤ 0 then some ((0 : Int32), (0 : Int64), q1.2.2) else ((av_x d 154 [.ref 0, .int (q1.2.2 12 6)] q1.2.2).bind fun q2 => ((av_x d 154 [.ref 0, .int 10] q2.2.2).bind fun q3 => (if q1.1 = 2 then (cond (av_inb q2.1 7) (some ((0 : Int32), (0 : Int64), (av_u q3.2.2 16 (Int32.toNatClampNeg q2.1) q3.1))) none) else (cond (av_inb q2.1 7) (some ((0 : Int32), (0 : Int64), (av_u q3.2.2 17 (Int32.toNatClampNeg q2.1) q3.1))) none))))) else ((av_x d 43 [.ref 12, .ref 19] q1.2.2).bind fun q4 => some ((0 : Int32), (0 : Int64), q4.2.2)))) := (av_ent d 155 tX6_drawOne 4 _ h tabX6_drawOne).trans ((av_eq tX6_drawOne 4 [] 33 0 _ _ h tabX6_drawOne wfX6_drawOne rfl).trans rfl)
theorem tabX6_fitsLine : av_tab 116 = (tX6_fitsLine, 3) := rfl
theorem wfX6_fitsLine : av_wf tX6_fitsLine = true := by decide +kernel
set_option maxHeartbeats 40000 in
set_option maxRecDepth 8000 in
theorem eX6_fitsLine_r0_in (d : Nat) (h : av_M) (p1 : Int32) : av_x (d + 1) 116 [.ref 0, .int p1] h = (if (p1 - p1 / 7 * 7) = 0 then (if 7 ≤ ((h 5 6) + (p1 / 7)) then some (((0 &&& 1) : Int32), (0 : Int64), h) else ((av_x d 50 [.ref 1, .int p1] h).bind fun q4 => ((av_x d 118 [.int q4.1] q4.2.2).bind fun q5 => (if q5.1 < 0 then some (((0 &&& 1) : Int32), (0 : Int64), q5.2.2) else some (((1 &&& 1) : Int32), (0 : Int64), q5.2.2))))) else (if (p1 - p1 / 7 * 7) = 1 then ((av_x d 51 [.ref 1, .int p1] h).bind fun q3 => (if q3.1 < 1 then some (((0 &&& 1) : Int32), (0 : Int64), q3.2.2) else some (((1 &&& 1) : Int32), (0 : Int64), q3.2.2))) else (if (p1 - p1 / 7 * 7) = 6 then ((av_x d 50 [.ref 1, .int p1] h).bind fun q2 => (if q2.1 = 59 then some (((1 &&& 1) : Int32), (0 : Int64), q2.2.2) else some (((0 &&& 1) : Int32), (0 : Int64), q2.2.2))) else ((av_x d 51 [.ref 1, .int p1] h).bind fun q1 => (if q1.1 < 0 then some (((0 &&& 1) : Int32), (0 : Int64), q1.2.2) else some (((1 &&& 1) : Int32), (0 : Int64), q1.2.2)))))) := (av_ent d 116 tX6_fitsLine 3 _ h tabX6_fitsLine).trans ((av_eq tX6_fitsLine 3 [] 25 0 _ _ h tabX6_fitsLine wfX6_fitsLine rfl).trans rfl)
theorem tabX6_colourOf : av_tab 118 = (tX6_colourOf, 1) := rfl
theorem wfX6_colourOf : av_wf tX6_colourOf = true := by decide +kernel
set_option maxHeartbeats 40000 in
set_option maxRecDepth 8000 in
theorem eX6_colourOf_in (d : Nat) (h : av_M) (p0 : Int32) : av_x (d + 1) 118 [.int p0] h = (if p0 = 98 then some ((2 : Int32), (0 : Int64), h) else (if p0 = 103 then some ((1 : Int32), (0 : Int64), h) else (if p0 = 112 then some ((0 : Int32), (0 : Int64), h) else (if p0 = 121 then some ((3 : Int32), (0 : Int64), h) else some (((-1) : Int32), (0 : Int64), h))))) := (av_ent d 118 tX6_colourOf 1 _ h tabX6_colourOf).trans ((av_eq tX6_colourOf 1 [] 5 0 _ _ h tabX6_colourOf wfX6_colourOf rfl).trans rfl)
theorem tabX6_isDigit : av_tab 106 = (tX6_isDigit, 1) := rfl
theorem wfX6_isDigit : av_wf tX6_isDigit = true := by decide +kernel
set_option maxHeartbeats 40000 in
set_option maxRecDepth 8000 in
theorem eX6_isDigit_in (d : Nat) (h : av_M) (p0 : Int32) : av_x (d + 1) 106 [.int p0] h = (if p0 < 0 then some (((0 &&& 1) : Int32), (0 : Int64), h) else (if 9 < p0 then some (((0 &&& 1) : Int32), (0 : Int64), h) else some (((1 &&& 1) : Int32), (0 : Int64), h))) := (av_ent d 106 tX6_isDigit 1 _ h tabX6_isDigit).trans ((av_eq tX6_isDigit 1 [] 9 0 _ _ h tabX6_isDigit wfX6_isDigit rfl).trans rfl)
theorem tabX6_decides : av_tab 134 = (tX6_decides, 2) := rfl
theorem wfX6_decides : av_wf tX6_decides = true := by decide +kernel
set_option maxHeartbeats 40000 in
set_option maxRecDepth 8000 in
theorem eX6_decides_r0_in (d : Nat) (h : av_M) (p1 : Int32) : av_x (d + 1) 134 [.ref 0, .int p1] h = ((av_x d 38 [.ref 5, .int p1] h).bind fun q1 => ((av_x d 28 [.ref 5] q1.2.2).bind fun q2 => ((av_x d 38 [.ref 5, .int q2.1] q2.2.2).bind fun q3 => (if (2 * q1.1) ≤ q3.1 then some (((0 &&& 1) : Int32), (0 : Int64), q3.2.2) else some (((1 &&& 1) : Int32), (0 : Int64), q3.2.2))))) := (av_ent d 134 tX6_decides 2 _ h tabX6_decides).trans ((av_eq tX6_decides 2 [] 17 0 _ _ h tabX6_decides wfX6_decides rfl).trans rfl)
theorem tabX6_breaks : av_tab 146 = (tX6_breaks, 3) := rfl
theorem wfX6_breaks : av_wf tX6_breaks = true := by decide +kernel
set_option maxHeartbeats 40000 in
set_option maxRecDepth 8000 in
theorem eX6_breaks_in (d : Nat) (h : av_M) (p0 : Int32) (p1 : Int32) (p2 : Int32) : av_x (d + 1) 146 [.int p0, .int p1, .int p2] h = ((av_x d 144 [.int p0] h).bind fun q1 => ((av_x d 145 [.int p0] q1.2.2).bind fun q2 => (if (q1.1 * p1) ≤ (p2 + q2.1) then some (((0 &&& 1) : Int32), (0 : Int64), q2.2.2) else some (((1 &&& 1) : Int32), (0 : Int64), q2.2.2)))) := (av_ent d 146 tX6_breaks 3 _ h tabX6_breaks).trans ((av_eq tX6_breaks 3 [] 13 0 _ _ h tabX6_breaks wfX6_breaks rfl).trans rfl)
theorem tabX6_nimberOf : av_tab 151 = (tX6_nimberOf, 5) := rfl
theorem wfX6_nimberOf : av_wf tX6_nimberOf = true := by decide +kernel
set_option maxHeartbeats 40000 in
set_option maxRecDepth 8000 in
theorem eX6_nimberOf_r0_in (d : Nat) (h : av_M) (p1 : Int32) : av_x (d + 1) 151 [.ref 0, .int p1] h = av_xp d 151 4 [.ref 0, .int p1, .int 0, .int 1, .null] [] h := (av_ent d 151 tX6_nimberOf 5 _ h tabX6_nimberOf).trans ((av_eq tX6_nimberOf 5 [4, 12, 61] 5 0 _ _ h tabX6_nimberOf wfX6_nimberOf rfl).trans rfl)
set_option maxHeartbeats 40000 in
set_option maxRecDepth 8000 in
theorem eX6_nimberOf_r0_4 (d : Nat) (h : av_M) (a1 : Int32) (a2 : Int32) (a3 : Int32) : av_xp d 151 4 [.ref 0, .int a1, .int a2, .int a3, .null] [] h = (if 2 < a3 then av_xp d 151 61 [.ref 0, .int a1, .int a2, .int 0, .int 0] [] h else av_xp d 151 12 [.ref 0, .int a1, .int a2, .int a3, .int 0] [] h) := (av_eq tX6_nimberOf 5 [4, 12, 61] 8 4 _ _ h tabX6_nimberOf wfX6_nimberOf rfl).trans rfl
set_option maxHeartbeats 40000 in
set_option maxRecDepth 8000 in
theorem eX6_nimberOf_r0_61 (d : Nat) (h : av_M) (a1 : Int32) (a2 : Int32) (a3 : Int32) (a4 : Int32) : av_xp d 151 61 [.ref 0, .int a1, .int a2, .int a3, .int a4] [] h = (if 31 ≤ a4 then some ((a3 : Int32), (0 : Int64), h) else ((av_x d 108 [.int a2, .int a3] h).bind fun q1 => (if q1.1 = 0 then some ((a3 : Int32), (0 : Int64), q1.2.2) else av_xp d 151 61 [.ref 0, .int a1, .int a2, .int (a3 + 1), .int (a4 + 1)] [] q1.2.2))) := (av_eq tX6_nimberOf 5 [4, 12, 61] 11 61 _ _ h tabX6_nimberOf wfX6_nimberOf rfl).trans rfl
set_option maxHeartbeats 40000 in
set_option maxRecDepth 8000 in
theorem eX6_nimberOf_r0_12 (d : Nat) (h : av_M) (a1 : Int32) (a2 : Int32) (a3 : Int32) (a4 : Int32) : av_xp d 151 12 [.ref 0, .int a1, .int a2, .int a3, .int a4] [] h = (if (a1 - a3) < a4 then av_xp d 151 4 [.ref 0, .int a1, .int a2, .int (a3 + 1), .int a4] [] h else (cond (av_inb a4 61) ((cond (av_inb ((a1 - a3) - a4) 61) (av_xp d 151 12 [.ref 0, .int a1, .int (a2 ||| (1 <<< (((h 43 (Int32.toNatClampNeg a4)) ^^^ (h 43 (Int32.toNatClampNeg ((a1 - a3) - a4)))) &&& 31))), .int a3, .int (a4 + 1)] [] h) none)) none)) := (av_eq tX6_nimberOf 5 [4, 12, 61] 26 12 _ _ h tabX6_nimberOf wfX6_nimberOf rfl).trans rfl
set_option maxHeartbeats 40000 in
set_option maxRecDepth 8000 in
theorem eX6_nimberOf_r0_4_2 (d : Nat) (h : av_M) (a1 : Int32) (a2 : Int32) (a3 : Int32) (a4 : Int32) : av_xp d 151 4 [.ref 0, .int a1, .int a2, .int a3, .int a4] [] h = (if 2 < a3 then av_xp d 151 61 [.ref 0, .int a1, .int a2, .int 0, .int 0] [] h else av_xp d 151 12 [.ref 0, .int a1, .int a2, .int a3, .int 0] [] h) := (av_eq tX6_nimberOf 5 [4, 12, 61] 8 4 _ _ h tabX6_nimberOf wfX6_nimberOf rfl).trans rfl
theorem tabX6_gain : av_tab 153 = (tX6_gain, 3) := rfl
theorem wfX6_gain : av_wf tX6_gain = true := by decide +kernel
set_option maxHeartbeats 40000 in
set_option maxRecDepth 8000 in
theorem eX6_gain_in (d : Nat) (h : av_M) (p0 : Int32) (p1 : Int32) (p2 : Int32) : av_x (d + 1) 153 [.int p0, .int p1, .int p2] h = (if p0 = p1 then some ((((p2 / 2) - p0) : Int32), (0 : Int64), h) else (if p1 ≤ p0 then some ((((p2 - p1) - ((p0 - p1) / 3)) : Int32), (0 : Int64), h) else some (((-p0) : Int32), (0 : Int64), h))) := (av_ent d 153 tX6_gain 3 _ h tabX6_gain).trans ((av_eq tX6_gain 3 [] 17 0 _ _ h tabX6_gain wfX6_gain rfl).trans rfl)
theorem tabX6_draw : av_tab 154 = (tX6_draw, 2) := rfl
theorem wfX6_draw : av_wf tX6_draw = true := by decide +kernel
set_option maxHeartbeats 40000 in
set_option maxRecDepth 8000 in
theorem eX6_draw_r0_in (d : Nat) (h : av_M) (p1 : Int32) : av_x (d + 1) 154 [.ref 0, .int p1] h = (if 1 ≤ p1 then (cond (av_nz p1) (some (((((Int32.toUInt32 (((h 0 13) * 1103515245) + 12345) >>> (Int32.toUInt32 16 &&& Int32.toUInt32 31)).toInt32) - ((Int32.toUInt32 (((h 0 13) * 1103515245) + 12345) >>> (Int32.toUInt32 16 &&& Int32.toUInt32 31)).toInt32) / p1 * p1) : Int32), (0 : Int64), (av_u h 0 13 (((h 0 13) * 1103515245) + 12345)))) none) else some ((0 : Int32), (0 : Int64), (av_u h 0 13 (((h 0 13) * 1103515245) + 12345)))) := (av_ent d 154 tX6_draw 2 _ h tabX6_draw).trans ((av_eq tX6_draw 2 [] 19 0 _ _ h tabX6_draw wfX6_draw rfl).trans rfl)
end
