section
-- ===== PART A: goes FIRST, ahead of the names: the tables' words, and 'selects' of the private methods out of them =====
/-- a private method of a class that the tables say can be made, by its rows of tables_1 -/
def lw_okq (q : MethodName × Nat) : Prop := (q.1.cls ≠ "java/lang/invoke/MethodHandle" ∧ q.1.cls ≠ "java/lang/invoke/VarHandle") ∧ Cond.instantiable q.1.cls q.2 ∈ tables_1 ∧ Cond.privateMethod q.1 ∈ tables_1 ∧ Cond.instanceMethod q.1 ∈ tables_1
theorem lw_p0 : lw_okq (⟨"SpinTops$Moment", "reset", "()V"⟩, 4) := ⟨⟨by decide +kernel, by decide +kernel⟩, List.mem_of_getElem? (i := 78) (by decide +kernel), List.mem_of_getElem? (i := 84) (by decide +kernel), List.mem_of_getElem? (i := 85) (by decide +kernel)⟩
theorem lw_p1 : lw_okq (⟨"SpinTops$Moment", "spins", "(II)V"⟩, 4) := ⟨⟨by decide +kernel, by decide +kernel⟩, List.mem_of_getElem? (i := 78) (by decide +kernel), List.mem_of_getElem? (i := 88) (by decide +kernel), List.mem_of_getElem? (i := 89) (by decide +kernel)⟩
theorem lw_p2 : lw_okq (⟨"SpinTops$Text", "add", "(I)Z"⟩, 2) := ⟨⟨by decide +kernel, by decide +kernel⟩, List.mem_of_getElem? (i := 23) (by decide +kernel), List.mem_of_getElem? (i := 266) (by decide +kernel), List.mem_of_getElem? (i := 267) (by decide +kernel)⟩
theorem lw_p3 : lw_okq (⟨"SpinTops$Reader", "read", "()I"⟩, 9) := ⟨⟨by decide +kernel, by decide +kernel⟩, List.mem_of_getElem? (i := 40) (by decide +kernel), List.mem_of_getElem? (i := 278) (by decide +kernel), List.mem_of_getElem? (i := 279) (by decide +kernel)⟩
theorem lw_p4 : lw_okq (⟨"SpinTops$Told", "reset", "()V"⟩, 4) := ⟨⟨by decide +kernel, by decide +kernel⟩, List.mem_of_getElem? (i := 46) (by decide +kernel), List.mem_of_getElem? (i := 282) (by decide +kernel), List.mem_of_getElem? (i := 283) (by decide +kernel)⟩
theorem lw_p5 : lw_okq (⟨"SpinTops$Reader", "nextToken", "()V"⟩, 9) := ⟨⟨by decide +kernel, by decide +kernel⟩, List.mem_of_getElem? (i := 40) (by decide +kernel), List.mem_of_getElem? (i := 287) (by decide +kernel), List.mem_of_getElem? (i := 288) (by decide +kernel)⟩
theorem lw_p6 : lw_okq (⟨"SpinTops$Reader", "behindBlanks", "()I"⟩, 9) := ⟨⟨by decide +kernel, by decide +kernel⟩, List.mem_of_getElem? (i := 40) (by decide +kernel), List.mem_of_getElem? (i := 291) (by decide +kernel), List.mem_of_getElem? (i := 292) (by decide +kernel)⟩
theorem lw_p7 : lw_okq (⟨"SpinTops$Reader", "takeNumber", "()V"⟩, 9) := ⟨⟨by decide +kernel, by decide +kernel⟩, List.mem_of_getElem? (i := 40) (by decide +kernel), List.mem_of_getElem? (i := 298) (by decide +kernel), List.mem_of_getElem? (i := 299) (by decide +kernel)⟩
theorem lw_p8 : lw_okq (⟨"SpinTops$Reader", "readPlaces", "()Z"⟩, 9) := ⟨⟨by decide +kernel, by decide +kernel⟩, List.mem_of_getElem? (i := 40) (by decide +kernel), List.mem_of_getElem? (i := 305) (by decide +kernel), List.mem_of_getElem? (i := 306) (by decide +kernel)⟩
theorem lw_p9 : lw_okq (⟨"SpinTops$Reader", "readNumber", "(II)Z"⟩, 9) := ⟨⟨by decide +kernel, by decide +kernel⟩, List.mem_of_getElem? (i := 40) (by decide +kernel), List.mem_of_getElem? (i := 309) (by decide +kernel), List.mem_of_getElem? (i := 310) (by decide +kernel)⟩
theorem lw_p10 : lw_okq (⟨"SpinTops$Reader", "readItemEnd", "()Z"⟩, 9) := ⟨⟨by decide +kernel, by decide +kernel⟩, List.mem_of_getElem? (i := 40) (by decide +kernel), List.mem_of_getElem? (i := 314) (by decide +kernel), List.mem_of_getElem? (i := 315) (by decide +kernel)⟩
theorem lw_p11 : lw_okq (⟨"SpinTops$Reader", "readTop", "()Z"⟩, 9) := ⟨⟨by decide +kernel, by decide +kernel⟩, List.mem_of_getElem? (i := 40) (by decide +kernel), List.mem_of_getElem? (i := 318) (by decide +kernel), List.mem_of_getElem? (i := 319) (by decide +kernel)⟩
theorem lw_p12 : lw_okq (⟨"SpinTops$Moment", "who", "(I)I"⟩, 4) := ⟨⟨by decide +kernel, by decide +kernel⟩, List.mem_of_getElem? (i := 78) (by decide +kernel), List.mem_of_getElem? (i := 322) (by decide +kernel), List.mem_of_getElem? (i := 323) (by decide +kernel)⟩
theorem lw_p13 : lw_okq (⟨"SpinTops$Moment", "stands", "(I)Z"⟩, 4) := ⟨⟨by decide +kernel, by decide +kernel⟩, List.mem_of_getElem? (i := 78) (by decide +kernel), List.mem_of_getElem? (i := 326) (by decide +kernel), List.mem_of_getElem? (i := 327) (by decide +kernel)⟩
theorem lw_p14 : lw_okq (⟨"SpinTops$Reader", "readSlow", "()Z"⟩, 9) := ⟨⟨by decide +kernel, by decide +kernel⟩, List.mem_of_getElem? (i := 40) (by decide +kernel), List.mem_of_getElem? (i := 330) (by decide +kernel), List.mem_of_getElem? (i := 331) (by decide +kernel)⟩
theorem lw_p15 : lw_okq (⟨"SpinTops$Told", "copy", "(LSpinTops$Told;)V"⟩, 4) := ⟨⟨by decide +kernel, by decide +kernel⟩, List.mem_of_getElem? (i := 46) (by decide +kernel), List.mem_of_getElem? (i := 334) (by decide +kernel), List.mem_of_getElem? (i := 335) (by decide +kernel)⟩
def lw_privs_1 : List (MethodName × Nat) := [(⟨"SpinTops$Moment", "reset", "()V"⟩, 4), (⟨"SpinTops$Moment", "spins", "(II)V"⟩, 4), (⟨"SpinTops$Text", "add", "(I)Z"⟩, 2), (⟨"SpinTops$Reader", "read", "()I"⟩, 9), (⟨"SpinTops$Told", "reset", "()V"⟩, 4), (⟨"SpinTops$Reader", "nextToken", "()V"⟩, 9), (⟨"SpinTops$Reader", "behindBlanks", "()I"⟩, 9), (⟨"SpinTops$Reader", "takeNumber", "()V"⟩, 9), (⟨"SpinTops$Reader", "readPlaces", "()Z"⟩, 9), (⟨"SpinTops$Reader", "readNumber", "(II)Z"⟩, 9), (⟨"SpinTops$Reader", "readItemEnd", "()Z"⟩, 9), (⟨"SpinTops$Reader", "readTop", "()Z"⟩, 9), (⟨"SpinTops$Moment", "who", "(I)I"⟩, 4), (⟨"SpinTops$Moment", "stands", "(I)Z"⟩, 4), (⟨"SpinTops$Reader", "readSlow", "()Z"⟩, 9), (⟨"SpinTops$Told", "copy", "(LSpinTops$Told;)V"⟩, 4)]
theorem lw_r1 : ∀ q ∈ lw_privs_1, lw_okq q := List.forall_mem_cons.mpr ⟨lw_p0, List.forall_mem_cons.mpr ⟨lw_p1, List.forall_mem_cons.mpr ⟨lw_p2, List.forall_mem_cons.mpr ⟨lw_p3, List.forall_mem_cons.mpr ⟨lw_p4, List.forall_mem_cons.mpr ⟨lw_p5, List.forall_mem_cons.mpr ⟨lw_p6, List.forall_mem_cons.mpr ⟨lw_p7, List.forall_mem_cons.mpr ⟨lw_p8, List.forall_mem_cons.mpr ⟨lw_p9, List.forall_mem_cons.mpr ⟨lw_p10, List.forall_mem_cons.mpr ⟨lw_p11, List.forall_mem_cons.mpr ⟨lw_p12, List.forall_mem_cons.mpr ⟨lw_p13, List.forall_mem_cons.mpr ⟨lw_p14, List.forall_mem_cons.mpr ⟨lw_p15, fun _ h => absurd h List.not_mem_nil⟩⟩⟩⟩⟩⟩⟩⟩⟩⟩⟩⟩⟩⟩⟩⟩
theorem lw_p16 : lw_okq (⟨"SpinTops$Moment", "copy", "(LSpinTops$Moment;)V"⟩, 4) := ⟨⟨by decide +kernel, by decide +kernel⟩, List.mem_of_getElem? (i := 78) (by decide +kernel), List.mem_of_getElem? (i := 341) (by decide +kernel), List.mem_of_getElem? (i := 342) (by decide +kernel)⟩
theorem lw_p17 : lw_okq (⟨"SpinTops", "isTop", "(I)Z"⟩, 10) := ⟨⟨by decide +kernel, by decide +kernel⟩, List.mem_of_getElem? (i := 15) (by decide +kernel), List.mem_of_getElem? (i := 350) (by decide +kernel), List.mem_of_getElem? (i := 351) (by decide +kernel)⟩
theorem lw_p18 : lw_okq (⟨"SpinTops$Future", "fall", "(LSpinTops$Told;LSpinTops$Moment;I)I"⟩, 5) := ⟨⟨by decide +kernel, by decide +kernel⟩, List.mem_of_getElem? (i := 168) (by decide +kernel), List.mem_of_getElem? (i := 355) (by decide +kernel), List.mem_of_getElem? (i := 356) (by decide +kernel)⟩
theorem lw_p19 : lw_okq (⟨"SpinTops$Moment", "goBy", "(LSpinTops$Told;I)I"⟩, 4) := ⟨⟨by decide +kernel, by decide +kernel⟩, List.mem_of_getElem? (i := 78) (by decide +kernel), List.mem_of_getElem? (i := 361) (by decide +kernel), List.mem_of_getElem? (i := 362) (by decide +kernel)⟩
theorem lw_p20 : lw_okq (⟨"SpinTops$Moment", "howMany", "()I"⟩, 4) := ⟨⟨by decide +kernel, by decide +kernel⟩, List.mem_of_getElem? (i := 78) (by decide +kernel), List.mem_of_getElem? (i := 365) (by decide +kernel), List.mem_of_getElem? (i := 366) (by decide +kernel)⟩
theorem lw_p21 : lw_okq (⟨"SpinTops$Moment", "standing", "()I"⟩, 4) := ⟨⟨by decide +kernel, by decide +kernel⟩, List.mem_of_getElem? (i := 78) (by decide +kernel), List.mem_of_getElem? (i := 369) (by decide +kernel), List.mem_of_getElem? (i := 370) (by decide +kernel)⟩
theorem lw_p22 : lw_okq (⟨"SpinTops$Moment", "slowDown", "(LSpinTops$Told;)V"⟩, 4) := ⟨⟨by decide +kernel, by decide +kernel⟩, List.mem_of_getElem? (i := 78) (by decide +kernel), List.mem_of_getElem? (i := 379) (by decide +kernel), List.mem_of_getElem? (i := 380) (by decide +kernel)⟩
theorem lw_p23 : lw_okq (⟨"SpinTops$Moment", "wander", "(LSpinTops$Told;)V"⟩, 4) := ⟨⟨by decide +kernel, by decide +kernel⟩, List.mem_of_getElem? (i := 78) (by decide +kernel), List.mem_of_getElem? (i := 383) (by decide +kernel), List.mem_of_getElem? (i := 384) (by decide +kernel)⟩
theorem lw_p24 : lw_okq (⟨"SpinTops$Moment", "neighbour", "(II)I"⟩, 4) := ⟨⟨by decide +kernel, by decide +kernel⟩, List.mem_of_getElem? (i := 78) (by decide +kernel), List.mem_of_getElem? (i := 387) (by decide +kernel), List.mem_of_getElem? (i := 388) (by decide +kernel)⟩
theorem lw_p25 : lw_okq (⟨"SpinTops$Moment", "meet", "(II)V"⟩, 4) := ⟨⟨by decide +kernel, by decide +kernel⟩, List.mem_of_getElem? (i := 78) (by decide +kernel), List.mem_of_getElem? (i := 392) (by decide +kernel), List.mem_of_getElem? (i := 393) (by decide +kernel)⟩
theorem lw_p26 : lw_okq (⟨"SpinTops", "isPlace", "(I)Z"⟩, 10) := ⟨⟨by decide +kernel, by decide +kernel⟩, List.mem_of_getElem? (i := 15) (by decide +kernel), List.mem_of_getElem? (i := 400) (by decide +kernel), List.mem_of_getElem? (i := 401) (by decide +kernel)⟩
theorem lw_p27 : lw_okq (⟨"SpinTops$Moment", "allSpins", "()I"⟩, 4) := ⟨⟨by decide +kernel, by decide +kernel⟩, List.mem_of_getElem? (i := 78) (by decide +kernel), List.mem_of_getElem? (i := 410) (by decide +kernel), List.mem_of_getElem? (i := 411) (by decide +kernel)⟩
theorem lw_p28 : lw_okq (⟨"SpinTops$Future", "last", "(LSpinTops$Told;LSpinTops$Moment;)I"⟩, 5) := ⟨⟨by decide +kernel, by decide +kernel⟩, List.mem_of_getElem? (i := 168) (by decide +kernel), List.mem_of_getElem? (i := 414) (by decide +kernel), List.mem_of_getElem? (i := 415) (by decide +kernel)⟩
theorem lw_p29 : lw_okq (⟨"SpinTops$Moment", "lowest", "()I"⟩, 4) := ⟨⟨by decide +kernel, by decide +kernel⟩, List.mem_of_getElem? (i := 78) (by decide +kernel), List.mem_of_getElem? (i := 418) (by decide +kernel), List.mem_of_getElem? (i := 419) (by decide +kernel)⟩
theorem lw_p30 : lw_okq (⟨"SpinTops$Past", "remember", "(LSpinTops$Moment;)V"⟩, 3) := ⟨⟨by decide +kernel, by decide +kernel⟩, List.mem_of_getElem? (i := 148) (by decide +kernel), List.mem_of_getElem? (i := 426) (by decide +kernel), List.mem_of_getElem? (i := 427) (by decide +kernel)⟩
theorem lw_p31 : lw_okq (⟨"SpinTops$Moment", "whipped", "(II)V"⟩, 4) := ⟨⟨by decide +kernel, by decide +kernel⟩, List.mem_of_getElem? (i := 78) (by decide +kernel), List.mem_of_getElem? (i := 440) (by decide +kernel), List.mem_of_getElem? (i := 441) (by decide +kernel)⟩
def lw_privs_2 : List (MethodName × Nat) := [(⟨"SpinTops$Moment", "copy", "(LSpinTops$Moment;)V"⟩, 4), (⟨"SpinTops", "isTop", "(I)Z"⟩, 10), (⟨"SpinTops$Future", "fall", "(LSpinTops$Told;LSpinTops$Moment;I)I"⟩, 5), (⟨"SpinTops$Moment", "goBy", "(LSpinTops$Told;I)I"⟩, 4), (⟨"SpinTops$Moment", "howMany", "()I"⟩, 4), (⟨"SpinTops$Moment", "standing", "()I"⟩, 4), (⟨"SpinTops$Moment", "slowDown", "(LSpinTops$Told;)V"⟩, 4), (⟨"SpinTops$Moment", "wander", "(LSpinTops$Told;)V"⟩, 4), (⟨"SpinTops$Moment", "neighbour", "(II)I"⟩, 4), (⟨"SpinTops$Moment", "meet", "(II)V"⟩, 4), (⟨"SpinTops", "isPlace", "(I)Z"⟩, 10), (⟨"SpinTops$Moment", "allSpins", "()I"⟩, 4), (⟨"SpinTops$Future", "last", "(LSpinTops$Told;LSpinTops$Moment;)I"⟩, 5), (⟨"SpinTops$Moment", "lowest", "()I"⟩, 4), (⟨"SpinTops$Past", "remember", "(LSpinTops$Moment;)V"⟩, 3), (⟨"SpinTops$Moment", "whipped", "(II)V"⟩, 4)]
theorem lw_r2 : ∀ q ∈ lw_privs_2, lw_okq q := List.forall_mem_cons.mpr ⟨lw_p16, List.forall_mem_cons.mpr ⟨lw_p17, List.forall_mem_cons.mpr ⟨lw_p18, List.forall_mem_cons.mpr ⟨lw_p19, List.forall_mem_cons.mpr ⟨lw_p20, List.forall_mem_cons.mpr ⟨lw_p21, List.forall_mem_cons.mpr ⟨lw_p22, List.forall_mem_cons.mpr ⟨lw_p23, List.forall_mem_cons.mpr ⟨lw_p24, List.forall_mem_cons.mpr ⟨lw_p25, List.forall_mem_cons.mpr ⟨lw_p26, List.forall_mem_cons.mpr ⟨lw_p27, List.forall_mem_cons.mpr ⟨lw_p28, List.forall_mem_cons.mpr ⟨lw_p29, List.forall_mem_cons.mpr ⟨lw_p30, List.forall_mem_cons.mpr ⟨lw_p31, fun _ h => absurd h List.not_mem_nil⟩⟩⟩⟩⟩⟩⟩⟩⟩⟩⟩⟩⟩⟩⟩⟩
theorem lw_p32 : lw_okq (⟨"SpinTops$Past", "recall", "(LSpinTops$Moment;)Z"⟩, 3) := ⟨⟨by decide +kernel, by decide +kernel⟩, List.mem_of_getElem? (i := 148) (by decide +kernel), List.mem_of_getElem? (i := 457) (by decide +kernel), List.mem_of_getElem? (i := 458) (by decide +kernel)⟩
theorem lw_p33 : lw_okq (⟨"SpinTops$Future", "standing", "(LSpinTops$Told;LSpinTops$Moment;I)I"⟩, 5) := ⟨⟨by decide +kernel, by decide +kernel⟩, List.mem_of_getElem? (i := 168) (by decide +kernel), List.mem_of_getElem? (i := 468) (by decide +kernel), List.mem_of_getElem? (i := 469) (by decide +kernel)⟩
theorem lw_p34 : lw_okq (⟨"SpinTops$Future", "bestWhip", "(LSpinTops$Told;LSpinTops$Moment;II)I"⟩, 5) := ⟨⟨by decide +kernel, by decide +kernel⟩, List.mem_of_getElem? (i := 168) (by decide +kernel), List.mem_of_getElem? (i := 477) (by decide +kernel), List.mem_of_getElem? (i := 478) (by decide +kernel)⟩
theorem lw_p35 : lw_okq (⟨"SpinTops$Future", "findRow", "(LSpinTops$Told;LSpinTops$Moment;I)V"⟩, 5) := ⟨⟨by decide +kernel, by decide +kernel⟩, List.mem_of_getElem? (i := 168) (by decide +kernel), List.mem_of_getElem? (i := 487) (by decide +kernel), List.mem_of_getElem? (i := 488) (by decide +kernel)⟩
theorem lw_p36 : lw_okq (⟨"SpinTops$Future", "tiltOf", "(III)I"⟩, 5) := ⟨⟨by decide +kernel, by decide +kernel⟩, List.mem_of_getElem? (i := 168) (by decide +kernel), List.mem_of_getElem? (i := 494) (by decide +kernel), List.mem_of_getElem? (i := 495) (by decide +kernel)⟩
theorem lw_p37 : lw_okq (⟨"SpinTops$Future", "findOdds", "(LSpinTops$Told;LSpinTops$Moment;III)V"⟩, 5) := ⟨⟨by decide +kernel, by decide +kernel⟩, List.mem_of_getElem? (i := 168) (by decide +kernel), List.mem_of_getElem? (i := 503) (by decide +kernel), List.mem_of_getElem? (i := 504) (by decide +kernel)⟩
theorem lw_p38 : lw_okq (⟨"SpinTops$Future", "standsIfHit", "(LSpinTops$Told;LSpinTops$Moment;III)Z"⟩, 5) := ⟨⟨by decide +kernel, by decide +kernel⟩, List.mem_of_getElem? (i := 168) (by decide +kernel), List.mem_of_getElem? (i := 508) (by decide +kernel), List.mem_of_getElem? (i := 509) (by decide +kernel)⟩
theorem lw_p39 : lw_okq (⟨"SpinTops$Future", "divideOddsBy2", "()V"⟩, 5) := ⟨⟨by decide +kernel, by decide +kernel⟩, List.mem_of_getElem? (i := 168) (by decide +kernel), List.mem_of_getElem? (i := 512) (by decide +kernel), List.mem_of_getElem? (i := 513) (by decide +kernel)⟩
theorem lw_p40 : lw_okq (⟨"SpinTops$Future", "divideOddsBy5", "()V"⟩, 5) := ⟨⟨by decide +kernel, by decide +kernel⟩, List.mem_of_getElem? (i := 168) (by decide +kernel), List.mem_of_getElem? (i := 516) (by decide +kernel), List.mem_of_getElem? (i := 517) (by decide +kernel)⟩
theorem lw_p41 : lw_okq (⟨"SpinTops$Seen", "add", "(III)Z"⟩, 4) := ⟨⟨by decide +kernel, by decide +kernel⟩, List.mem_of_getElem? (i := 197) (by decide +kernel), List.mem_of_getElem? (i := 527) (by decide +kernel), List.mem_of_getElem? (i := 528) (by decide +kernel)⟩
theorem lw_p42 : lw_okq (⟨"SpinTops$Seen", "howMany", "()I"⟩, 4) := ⟨⟨by decide +kernel, by decide +kernel⟩, List.mem_of_getElem? (i := 197) (by decide +kernel), List.mem_of_getElem? (i := 539) (by decide +kernel), List.mem_of_getElem? (i := 540) (by decide +kernel)⟩
theorem lw_p43 : lw_okq (⟨"SpinTops$Seen", "canBe", "(I)Z"⟩, 4) := ⟨⟨by decide +kernel, by decide +kernel⟩, List.mem_of_getElem? (i := 197) (by decide +kernel), List.mem_of_getElem? (i := 543) (by decide +kernel), List.mem_of_getElem? (i := 544) (by decide +kernel)⟩
theorem lw_p44 : lw_okq (⟨"SpinTops$Seen", "least", "()I"⟩, 4) := ⟨⟨by decide +kernel, by decide +kernel⟩, List.mem_of_getElem? (i := 197) (by decide +kernel), List.mem_of_getElem? (i := 553) (by decide +kernel), List.mem_of_getElem? (i := 554) (by decide +kernel)⟩
theorem lw_p45 : lw_okq (⟨"SpinTops$Seen", "greatest", "()I"⟩, 4) := ⟨⟨by decide +kernel, by decide +kernel⟩, List.mem_of_getElem? (i := 197) (by decide +kernel), List.mem_of_getElem? (i := 557) (by decide +kernel), List.mem_of_getElem? (i := 558) (by decide +kernel)⟩
theorem lw_p46 : lw_okq (⟨"SpinTops$Seen", "bestWait", "(I)I"⟩, 4) := ⟨⟨by decide +kernel, by decide +kernel⟩, List.mem_of_getElem? (i := 197) (by decide +kernel), List.mem_of_getElem? (i := 565) (by decide +kernel), List.mem_of_getElem? (i := 566) (by decide +kernel)⟩
theorem lw_p47 : lw_okq (⟨"SpinTops$Seen", "mostAlike", "(II)I"⟩, 4) := ⟨⟨by decide +kernel, by decide +kernel⟩, List.mem_of_getElem? (i := 197) (by decide +kernel), List.mem_of_getElem? (i := 570) (by decide +kernel), List.mem_of_getElem? (i := 571) (by decide +kernel)⟩
def lw_privs_3 : List (MethodName × Nat) := [(⟨"SpinTops$Past", "recall", "(LSpinTops$Moment;)Z"⟩, 3), (⟨"SpinTops$Future", "standing", "(LSpinTops$Told;LSpinTops$Moment;I)I"⟩, 5), (⟨"SpinTops$Future", "bestWhip", "(LSpinTops$Told;LSpinTops$Moment;II)I"⟩, 5), (⟨"SpinTops$Future", "findRow", "(LSpinTops$Told;LSpinTops$Moment;I)V"⟩, 5), (⟨"SpinTops$Future", "tiltOf", "(III)I"⟩, 5), (⟨"SpinTops$Future", "findOdds", "(LSpinTops$Told;LSpinTops$Moment;III)V"⟩, 5), (⟨"SpinTops$Future", "standsIfHit", "(LSpinTops$Told;LSpinTops$Moment;III)Z"⟩, 5), (⟨"SpinTops$Future", "divideOddsBy2", "()V"⟩, 5), (⟨"SpinTops$Future", "divideOddsBy5", "()V"⟩, 5), (⟨"SpinTops$Seen", "add", "(III)Z"⟩, 4), (⟨"SpinTops$Seen", "howMany", "()I"⟩, 4), (⟨"SpinTops$Seen", "canBe", "(I)Z"⟩, 4), (⟨"SpinTops$Seen", "least", "()I"⟩, 4), (⟨"SpinTops$Seen", "greatest", "()I"⟩, 4), (⟨"SpinTops$Seen", "bestWait", "(I)I"⟩, 4), (⟨"SpinTops$Seen", "mostAlike", "(II)I"⟩, 4)]
theorem lw_r3 : ∀ q ∈ lw_privs_3, lw_okq q := List.forall_mem_cons.mpr ⟨lw_p32, List.forall_mem_cons.mpr ⟨lw_p33, List.forall_mem_cons.mpr ⟨lw_p34, List.forall_mem_cons.mpr ⟨lw_p35, List.forall_mem_cons.mpr ⟨lw_p36, List.forall_mem_cons.mpr ⟨lw_p37, List.forall_mem_cons.mpr ⟨lw_p38, List.forall_mem_cons.mpr ⟨lw_p39, List.forall_mem_cons.mpr ⟨lw_p40, List.forall_mem_cons.mpr ⟨lw_p41, List.forall_mem_cons.mpr ⟨lw_p42, List.forall_mem_cons.mpr ⟨lw_p43, List.forall_mem_cons.mpr ⟨lw_p44, List.forall_mem_cons.mpr ⟨lw_p45, List.forall_mem_cons.mpr ⟨lw_p46, List.forall_mem_cons.mpr ⟨lw_p47, fun _ h => absurd h List.not_mem_nil⟩⟩⟩⟩⟩⟩⟩⟩⟩⟩⟩⟩⟩⟩⟩⟩
theorem lw_p48 : lw_okq (⟨"SpinTops$Seen", "howManyAlike", "(III)I"⟩, 4) := ⟨⟨by decide +kernel, by decide +kernel⟩, List.mem_of_getElem? (i := 197) (by decide +kernel), List.mem_of_getElem? (i := 574) (by decide +kernel), List.mem_of_getElem? (i := 575) (by decide +kernel)⟩
theorem lw_p49 : lw_okq (⟨"SpinTops$Kinds", "asTop", "(LSpinTops$Moment;I)I"⟩, 1) := ⟨⟨by decide +kernel, by decide +kernel⟩, List.mem_of_getElem? (i := 217) (by decide +kernel), List.mem_of_getElem? (i := 583) (by decide +kernel), List.mem_of_getElem? (i := 584) (by decide +kernel)⟩
theorem lw_p50 : lw_okq (⟨"SpinTops$Kinds", "asPeg", "(LSpinTops$Told;LSpinTops$Moment;I)I"⟩, 1) := ⟨⟨by decide +kernel, by decide +kernel⟩, List.mem_of_getElem? (i := 217) (by decide +kernel), List.mem_of_getElem? (i := 587) (by decide +kernel), List.mem_of_getElem? (i := 588) (by decide +kernel)⟩
theorem lw_p51 : lw_okq (⟨"SpinTops$Kinds", "asHummer", "(LSpinTops$Moment;I)I"⟩, 1) := ⟨⟨by decide +kernel, by decide +kernel⟩, List.mem_of_getElem? (i := 217) (by decide +kernel), List.mem_of_getElem? (i := 593) (by decide +kernel), List.mem_of_getElem? (i := 594) (by decide +kernel)⟩
theorem lw_p52 : lw_okq (⟨"SpinTops$Kinds", "asWhipper", "(LSpinTops$Told;LSpinTops$Moment;I)I"⟩, 1) := ⟨⟨by decide +kernel, by decide +kernel⟩, List.mem_of_getElem? (i := 217) (by decide +kernel), List.mem_of_getElem? (i := 599) (by decide +kernel), List.mem_of_getElem? (i := 600) (by decide +kernel)⟩
theorem lw_p53 : lw_okq (⟨"SpinTops$Kinds", "asDisc", "(LSpinTops$Moment;I)I"⟩, 1) := ⟨⟨by decide +kernel, by decide +kernel⟩, List.mem_of_getElem? (i := 217) (by decide +kernel), List.mem_of_getElem? (i := 605) (by decide +kernel), List.mem_of_getElem? (i := 606) (by decide +kernel)⟩
theorem lw_p54 : lw_okq (⟨"SpinTops$Kinds", "asAcorn", "(LSpinTops$Moment;I)I"⟩, 1) := ⟨⟨by decide +kernel, by decide +kernel⟩, List.mem_of_getElem? (i := 217) (by decide +kernel), List.mem_of_getElem? (i := 611) (by decide +kernel), List.mem_of_getElem? (i := 612) (by decide +kernel)⟩
theorem lw_p55 : lw_okq (⟨"SpinTopsModel", "token", "()I"⟩, 25) := ⟨⟨by decide +kernel, by decide +kernel⟩, List.mem_of_getElem? (i := 635) (by decide +kernel), List.mem_of_getElem? (i := 734) (by decide +kernel), List.mem_of_getElem? (i := 735) (by decide +kernel)⟩
theorem lw_p56 : lw_okq (⟨"SpinTopsModel", "letterAt", "(I)I"⟩, 25) := ⟨⟨by decide +kernel, by decide +kernel⟩, List.mem_of_getElem? (i := 635) (by decide +kernel), List.mem_of_getElem? (i := 738) (by decide +kernel), List.mem_of_getElem? (i := 739) (by decide +kernel)⟩
theorem lw_p57 : lw_okq (⟨"SpinTopsModel", "item", "(II)V"⟩, 25) := ⟨⟨by decide +kernel, by decide +kernel⟩, List.mem_of_getElem? (i := 635) (by decide +kernel), List.mem_of_getElem? (i := 744) (by decide +kernel), List.mem_of_getElem? (i := 745) (by decide +kernel)⟩
theorem lw_p58 : lw_okq (⟨"SpinTopsModel", "wants", "(II)I"⟩, 25) := ⟨⟨by decide +kernel, by decide +kernel⟩, List.mem_of_getElem? (i := 635) (by decide +kernel), List.mem_of_getElem? (i := 748) (by decide +kernel), List.mem_of_getElem? (i := 749) (by decide +kernel)⟩
theorem lw_p59 : lw_okq (⟨"SpinTopsModel", "topItem", "()V"⟩, 25) := ⟨⟨by decide +kernel, by decide +kernel⟩, List.mem_of_getElem? (i := 635) (by decide +kernel), List.mem_of_getElem? (i := 752) (by decide +kernel), List.mem_of_getElem? (i := 753) (by decide +kernel)⟩
theorem lw_p60 : lw_okq (⟨"SpinTopsModel", "settles", "()V"⟩, 25) := ⟨⟨by decide +kernel, by decide +kernel⟩, List.mem_of_getElem? (i := 635) (by decide +kernel), List.mem_of_getElem? (i := 756) (by decide +kernel), List.mem_of_getElem? (i := 757) (by decide +kernel)⟩
theorem lw_p61 : lw_okq (⟨"SpinTopsModel", "isTop", "(I)Z"⟩, 25) := ⟨⟨by decide +kernel, by decide +kernel⟩, List.mem_of_getElem? (i := 635) (by decide +kernel), List.mem_of_getElem? (i := 764) (by decide +kernel), List.mem_of_getElem? (i := 765) (by decide +kernel)⟩
theorem lw_p62 : lw_okq (⟨"SpinTopsModel", "stands", "(I)Z"⟩, 25) := ⟨⟨by decide +kernel, by decide +kernel⟩, List.mem_of_getElem? (i := 635) (by decide +kernel), List.mem_of_getElem? (i := 769) (by decide +kernel), List.mem_of_getElem? (i := 770) (by decide +kernel)⟩
theorem lw_p63 : lw_okq (⟨"SpinTopsModel", "fallOf", "(I)I"⟩, 25) := ⟨⟨by decide +kernel, by decide +kernel⟩, List.mem_of_getElem? (i := 635) (by decide +kernel), List.mem_of_getElem? (i := 776) (by decide +kernel), List.mem_of_getElem? (i := 777) (by decide +kernel)⟩
def lw_privs_4 : List (MethodName × Nat) := [(⟨"SpinTops$Seen", "howManyAlike", "(III)I"⟩, 4), (⟨"SpinTops$Kinds", "asTop", "(LSpinTops$Moment;I)I"⟩, 1), (⟨"SpinTops$Kinds", "asPeg", "(LSpinTops$Told;LSpinTops$Moment;I)I"⟩, 1), (⟨"SpinTops$Kinds", "asHummer", "(LSpinTops$Moment;I)I"⟩, 1), (⟨"SpinTops$Kinds", "asWhipper", "(LSpinTops$Told;LSpinTops$Moment;I)I"⟩, 1), (⟨"SpinTops$Kinds", "asDisc", "(LSpinTops$Moment;I)I"⟩, 1), (⟨"SpinTops$Kinds", "asAcorn", "(LSpinTops$Moment;I)I"⟩, 1), (⟨"SpinTopsModel", "token", "()I"⟩, 25), (⟨"SpinTopsModel", "letterAt", "(I)I"⟩, 25), (⟨"SpinTopsModel", "item", "(II)V"⟩, 25), (⟨"SpinTopsModel", "wants", "(II)I"⟩, 25), (⟨"SpinTopsModel", "topItem", "()V"⟩, 25), (⟨"SpinTopsModel", "settles", "()V"⟩, 25), (⟨"SpinTopsModel", "isTop", "(I)Z"⟩, 25), (⟨"SpinTopsModel", "stands", "(I)Z"⟩, 25), (⟨"SpinTopsModel", "fallOf", "(I)I"⟩, 25)]
theorem lw_r4 : ∀ q ∈ lw_privs_4, lw_okq q := List.forall_mem_cons.mpr ⟨lw_p48, List.forall_mem_cons.mpr ⟨lw_p49, List.forall_mem_cons.mpr ⟨lw_p50, List.forall_mem_cons.mpr ⟨lw_p51, List.forall_mem_cons.mpr ⟨lw_p52, List.forall_mem_cons.mpr ⟨lw_p53, List.forall_mem_cons.mpr ⟨lw_p54, List.forall_mem_cons.mpr ⟨lw_p55, List.forall_mem_cons.mpr ⟨lw_p56, List.forall_mem_cons.mpr ⟨lw_p57, List.forall_mem_cons.mpr ⟨lw_p58, List.forall_mem_cons.mpr ⟨lw_p59, List.forall_mem_cons.mpr ⟨lw_p60, List.forall_mem_cons.mpr ⟨lw_p61, List.forall_mem_cons.mpr ⟨lw_p62, List.forall_mem_cons.mpr ⟨lw_p63, fun _ h => absurd h List.not_mem_nil⟩⟩⟩⟩⟩⟩⟩⟩⟩⟩⟩⟩⟩⟩⟩⟩
theorem lw_p64 : lw_okq (⟨"SpinTopsModel", "copies", "(II)V"⟩, 25) := ⟨⟨by decide +kernel, by decide +kernel⟩, List.mem_of_getElem? (i := 635) (by decide +kernel), List.mem_of_getElem? (i := 780) (by decide +kernel), List.mem_of_getElem? (i := 781) (by decide +kernel)⟩
theorem lw_p65 : lw_okq (⟨"SpinTopsModel", "beat", "(I)V"⟩, 25) := ⟨⟨by decide +kernel, by decide +kernel⟩, List.mem_of_getElem? (i := 635) (by decide +kernel), List.mem_of_getElem? (i := 784) (by decide +kernel), List.mem_of_getElem? (i := 785) (by decide +kernel)⟩
theorem lw_p66 : lw_okq (⟨"SpinTopsModel", "falls", "(II)V"⟩, 25) := ⟨⟨by decide +kernel, by decide +kernel⟩, List.mem_of_getElem? (i := 635) (by decide +kernel), List.mem_of_getElem? (i := 788) (by decide +kernel), List.mem_of_getElem? (i := 789) (by decide +kernel)⟩
theorem lw_p67 : lw_okq (⟨"SpinTopsModel", "wanders", "(II)V"⟩, 25) := ⟨⟨by decide +kernel, by decide +kernel⟩, List.mem_of_getElem? (i := 635) (by decide +kernel), List.mem_of_getElem? (i := 792) (by decide +kernel), List.mem_of_getElem? (i := 793) (by decide +kernel)⟩
theorem lw_p68 : lw_okq (⟨"SpinTopsModel", "whoAt", "(III)I"⟩, 25) := ⟨⟨by decide +kernel, by decide +kernel⟩, List.mem_of_getElem? (i := 635) (by decide +kernel), List.mem_of_getElem? (i := 796) (by decide +kernel), List.mem_of_getElem? (i := 797) (by decide +kernel)⟩
theorem lw_p69 : lw_okq (⟨"SpinTopsModel", "spins", "()I"⟩, 25) := ⟨⟨by decide +kernel, by decide +kernel⟩, List.mem_of_getElem? (i := 635) (by decide +kernel), List.mem_of_getElem? (i := 809) (by decide +kernel), List.mem_of_getElem? (i := 810) (by decide +kernel)⟩
theorem lw_p70 : lw_okq (⟨"SpinTopsModel", "last", "()I"⟩, 25) := ⟨⟨by decide +kernel, by decide +kernel⟩, List.mem_of_getElem? (i := 635) (by decide +kernel), List.mem_of_getElem? (i := 813) (by decide +kernel), List.mem_of_getElem? (i := 814) (by decide +kernel)⟩
theorem lw_p71 : lw_okq (⟨"SpinTopsModel", "known", "()V"⟩, 25) := ⟨⟨by decide +kernel, by decide +kernel⟩, List.mem_of_getElem? (i := 635) (by decide +kernel), List.mem_of_getElem? (i := 824) (by decide +kernel), List.mem_of_getElem? (i := 825) (by decide +kernel)⟩
theorem lw_p72 : lw_okq (⟨"SpinTopsModel", "whipped", "(III)V"⟩, 25) := ⟨⟨by decide +kernel, by decide +kernel⟩, List.mem_of_getElem? (i := 635) (by decide +kernel), List.mem_of_getElem? (i := 836) (by decide +kernel), List.mem_of_getElem? (i := 837) (by decide +kernel)⟩
theorem lw_p73 : lw_okq (⟨"SpinTopsModel", "standBehind", "(I)I"⟩, 25) := ⟨⟨by decide +kernel, by decide +kernel⟩, List.mem_of_getElem? (i := 635) (by decide +kernel), List.mem_of_getElem? (i := 858) (by decide +kernel), List.mem_of_getElem? (i := 859) (by decide +kernel)⟩
theorem lw_p74 : lw_okq (⟨"SpinTopsModel", "isSo", "(I)Z"⟩, 25) := ⟨⟨by decide +kernel, by decide +kernel⟩, List.mem_of_getElem? (i := 635) (by decide +kernel), List.mem_of_getElem? (i := 888) (by decide +kernel), List.mem_of_getElem? (i := 889) (by decide +kernel)⟩
def lw_privs_5 : List (MethodName × Nat) := [(⟨"SpinTopsModel", "copies", "(II)V"⟩, 25), (⟨"SpinTopsModel", "beat", "(I)V"⟩, 25), (⟨"SpinTopsModel", "falls", "(II)V"⟩, 25), (⟨"SpinTopsModel", "wanders", "(II)V"⟩, 25), (⟨"SpinTopsModel", "whoAt", "(III)I"⟩, 25), (⟨"SpinTopsModel", "spins", "()I"⟩, 25), (⟨"SpinTopsModel", "last", "()I"⟩, 25), (⟨"SpinTopsModel", "known", "()V"⟩, 25), (⟨"SpinTopsModel", "whipped", "(III)V"⟩, 25), (⟨"SpinTopsModel", "standBehind", "(I)I"⟩, 25), (⟨"SpinTopsModel", "isSo", "(I)Z"⟩, 25)]
theorem lw_r5 : ∀ q ∈ lw_privs_5, lw_okq q := List.forall_mem_cons.mpr ⟨lw_p64, List.forall_mem_cons.mpr ⟨lw_p65, List.forall_mem_cons.mpr ⟨lw_p66, List.forall_mem_cons.mpr ⟨lw_p67, List.forall_mem_cons.mpr ⟨lw_p68, List.forall_mem_cons.mpr ⟨lw_p69, List.forall_mem_cons.mpr ⟨lw_p70, List.forall_mem_cons.mpr ⟨lw_p71, List.forall_mem_cons.mpr ⟨lw_p72, List.forall_mem_cons.mpr ⟨lw_p73, List.forall_mem_cons.mpr ⟨lw_p74, fun _ h => absurd h List.not_mem_nil⟩⟩⟩⟩⟩⟩⟩⟩⟩⟩⟩
def lw_privs : List (MethodName × Nat) := lw_privs_1 ++ (lw_privs_2 ++ (lw_privs_3 ++ (lw_privs_4 ++ (lw_privs_5))))
def lw_tbl : List Cond := k2_sels lw_privs ++ tables_1
theorem lw_privs_ok : ∀ q ∈ lw_privs, lw_okq q := by
  show ∀ q ∈ lw_privs_1 ++ (lw_privs_2 ++ (lw_privs_3 ++ (lw_privs_4 ++ (lw_privs_5)))), lw_okq q
  exact List.forall_mem_append.mpr ⟨lw_r1, List.forall_mem_append.mpr ⟨lw_r2, List.forall_mem_append.mpr ⟨lw_r3, List.forall_mem_append.mpr ⟨lw_r4, lw_r5⟩⟩⟩⟩
end
section
def RX0 : String := "SpinTops$Future"
def TX0 : u_T := fun k => match k with
  | 0 => ("SpinTops$Future", "trial", "LSpinTops$Moment;", true)
  | 1 => ("SpinTops$Future", "rowStands", "I", false)
  | 2 => ("SpinTops$Future", "rowBest", "I", false)
  | 3 => ("SpinTops$Future", "oddsUpper", "I", false)
  | _ => ("SpinTops$Future", "oddsLower", "I", false)
def tyX0 : Nat → FieldType := fun k => match k with
  | 0 => .object "SpinTops$Moment"
  | 1 => .int
  | 2 => .int
  | 3 => .int
  | _ => .int
abbrev wsX00 : List Cond := u_ws RX0 TX0 5
theorem nmX0 : ∀ a, a < 5 → ∀ b, b < 5 → a ≠ b → (TX0 a).2.1 ≠ (TX0 b).2.1 := by decide +kernel
theorem tyX0_ok : ∀ k, k < 5 → parseFieldDescriptor (TX0 k).2.2.1 = some (tyX0 k) := by decide +kernel
abbrev cX0_init : ByteArray := prog_2_method_1_code
def yX0_init : MethodName := ⟨RX0, "<init>", "()V"⟩
abbrev cX0_standing : ByteArray := prog_2_method_2_code
def yX0_standing : MethodName := ⟨RX0, "standing", "(LSpinTops$Told;LSpinTops$Moment;I)I"⟩
abbrev cX0_fall : ByteArray := prog_2_method_3_code
def yX0_fall : MethodName := ⟨RX0, "fall", "(LSpinTops$Told;LSpinTops$Moment;I)I"⟩
abbrev cX0_last : ByteArray := prog_2_method_4_code
def yX0_last : MethodName := ⟨RX0, "last", "(LSpinTops$Told;LSpinTops$Moment;)I"⟩
abbrev cX0_bestWhip : ByteArray := prog_2_method_5_code
def yX0_bestWhip : MethodName := ⟨RX0, "bestWhip", "(LSpinTops$Told;LSpinTops$Moment;II)I"⟩
abbrev cX0_findRow : ByteArray := prog_2_method_6_code
def yX0_findRow : MethodName := ⟨RX0, "findRow", "(LSpinTops$Told;LSpinTops$Moment;I)V"⟩
abbrev cX0_tiltOf : ByteArray := prog_2_method_7_code
def yX0_tiltOf : MethodName := ⟨RX0, "tiltOf", "(III)I"⟩
abbrev cX0_findOdds : ByteArray := prog_2_method_8_code
def yX0_findOdds : MethodName := ⟨RX0, "findOdds", "(LSpinTops$Told;LSpinTops$Moment;III)V"⟩
abbrev cX0_divideOddsBy2 : ByteArray := prog_2_method_9_code
def yX0_divideOddsBy2 : MethodName := ⟨RX0, "divideOddsBy2", "()V"⟩
abbrev cX0_divideOddsBy5 : ByteArray := prog_2_method_10_code
def yX0_divideOddsBy5 : MethodName := ⟨RX0, "divideOddsBy5", "()V"⟩
abbrev cX0_standsIfHit : ByteArray := prog_2_method_11_code
def yX0_standsIfHit : MethodName := ⟨RX0, "standsIfHit", "(LSpinTops$Told;LSpinTops$Moment;III)Z"⟩
def RX1 : String := "SpinTops$Kinds"
def TX1 : u_T := fun k => match k with
  | _ => ("SpinTops$Kinds", "trace", "J", false)
def tyX1 : Nat → FieldType := fun k => match k with
  | _ => .long
abbrev wsX10 : List Cond := u_ws RX1 TX1 1
theorem nmX1 : ∀ a, a < 1 → ∀ b, b < 1 → a ≠ b → (TX1 a).2.1 ≠ (TX1 b).2.1 := by decide +kernel
theorem tyX1_ok : ∀ k, k < 1 → parseFieldDescriptor (TX1 k).2.2.1 = some (tyX1 k) := by decide +kernel
abbrev cX1_init : ByteArray := prog_3_method_1_code
def yX1_init : MethodName := ⟨RX1, "<init>", "()V"⟩
abbrev cX1_asTop : ByteArray := prog_3_method_2_code
def yX1_asTop : MethodName := ⟨RX1, "asTop", "(LSpinTops$Moment;I)I"⟩
abbrev cX1_asPeg : ByteArray := prog_3_method_3_code
def yX1_asPeg : MethodName := ⟨RX1, "asPeg", "(LSpinTops$Told;LSpinTops$Moment;I)I"⟩
abbrev cX1_asHummer : ByteArray := prog_3_method_4_code
def yX1_asHummer : MethodName := ⟨RX1, "asHummer", "(LSpinTops$Moment;I)I"⟩
abbrev cX1_asWhipper : ByteArray := prog_3_method_5_code
def yX1_asWhipper : MethodName := ⟨RX1, "asWhipper", "(LSpinTops$Told;LSpinTops$Moment;I)I"⟩
abbrev cX1_asDisc : ByteArray := prog_3_method_6_code
def yX1_asDisc : MethodName := ⟨RX1, "asDisc", "(LSpinTops$Moment;I)I"⟩
abbrev cX1_asAcorn : ByteArray := prog_3_method_7_code
def yX1_asAcorn : MethodName := ⟨RX1, "asAcorn", "(LSpinTops$Moment;I)I"⟩
def RX2 : String := "SpinTops$Moment"
def TX2 : u_T := fun k => match k with
  | 0 => ("SpinTops$Moment", "place", "[I", true)
  | 1 => ("SpinTops$Moment", "spin", "[I", true)
  | 2 => ("SpinTops$Moment", "beat", "I", false)
  | _ => ("SpinTops$Moment", "tilt", "I", false)
def tyX2 : Nat → FieldType := fun k => match k with
  | 0 => .array .int
  | 1 => .array .int
  | 2 => .int
  | _ => .int
abbrev wsX20 : List Cond := u_ws RX2 TX2 4
theorem nmX2 : ∀ a, a < 4 → ∀ b, b < 4 → a ≠ b → (TX2 a).2.1 ≠ (TX2 b).2.1 := by decide +kernel
theorem tyX2_ok : ∀ k, k < 4 → parseFieldDescriptor (TX2 k).2.2.1 = some (tyX2 k) := by decide +kernel
abbrev cX2_init : ByteArray := prog_4_method_1_code
def yX2_init : MethodName := ⟨RX2, "<init>", "()V"⟩
abbrev cX2_reset : ByteArray := prog_4_method_2_code
def yX2_reset : MethodName := ⟨RX2, "reset", "()V"⟩
abbrev cX2_copy : ByteArray := prog_4_method_3_code
def yX2_copy : MethodName := ⟨RX2, "copy", "(LSpinTops$Moment;)V"⟩
abbrev cX2_stands : ByteArray := prog_4_method_4_code
def yX2_stands : MethodName := ⟨RX2, "stands", "(I)Z"⟩
abbrev cX2_who : ByteArray := prog_4_method_5_code
def yX2_who : MethodName := ⟨RX2, "who", "(I)I"⟩
abbrev cX2_standing : ByteArray := prog_4_method_6_code
def yX2_standing : MethodName := ⟨RX2, "standing", "()I"⟩
abbrev cX2_howMany : ByteArray := prog_4_method_7_code
def yX2_howMany : MethodName := ⟨RX2, "howMany", "()I"⟩
abbrev cX2_lowest : ByteArray := prog_4_method_8_code
def yX2_lowest : MethodName := ⟨RX2, "lowest", "()I"⟩
abbrev cX2_allSpins : ByteArray := prog_4_method_9_code
def yX2_allSpins : MethodName := ⟨RX2, "allSpins", "()I"⟩
abbrev cX2_whipped : ByteArray := prog_4_method_10_code
def yX2_whipped : MethodName := ⟨RX2, "whipped", "(II)V"⟩
abbrev cX2_spins : ByteArray := prog_4_method_11_code
def yX2_spins : MethodName := ⟨RX2, "spins", "(II)V"⟩
abbrev cX2_goBy : ByteArray := prog_4_method_12_code
def yX2_goBy : MethodName := ⟨RX2, "goBy", "(LSpinTops$Told;I)I"⟩
abbrev cX2_slowDown : ByteArray := prog_4_method_13_code
def yX2_slowDown : MethodName := ⟨RX2, "slowDown", "(LSpinTops$Told;)V"⟩
abbrev cX2_wander : ByteArray := prog_4_method_14_code
def yX2_wander : MethodName := ⟨RX2, "wander", "(LSpinTops$Told;)V"⟩
abbrev cX2_neighbour : ByteArray := prog_4_method_15_code
def yX2_neighbour : MethodName := ⟨RX2, "neighbour", "(II)I"⟩
abbrev cX2_meet : ByteArray := prog_4_method_16_code
def yX2_meet : MethodName := ⟨RX2, "meet", "(II)V"⟩
def RX3 : String := "SpinTops$Past"
def TX3 : u_T := fun k => match k with
  | 0 => ("SpinTops$Past", "moments", "[LSpinTops$Moment;", true)
  | 1 => ("SpinTops$Past", "next", "I", false)
  | _ => ("SpinTops$Past", "known", "I", false)
def tyX3 : Nat → FieldType := fun k => match k with
  | 0 => .array (.object "SpinTops$Moment")
  | 1 => .int
  | _ => .int
abbrev wsX30 : List Cond := u_ws RX3 TX3 3
theorem nmX3 : ∀ a, a < 3 → ∀ b, b < 3 → a ≠ b → (TX3 a).2.1 ≠ (TX3 b).2.1 := by decide +kernel
theorem tyX3_ok : ∀ k, k < 3 → parseFieldDescriptor (TX3 k).2.2.1 = some (tyX3 k) := by decide +kernel
abbrev cX3_init : ByteArray := prog_5_method_1_code
def yX3_init : MethodName := ⟨RX3, "<init>", "()V"⟩
abbrev cX3_remember : ByteArray := prog_5_method_2_code
def yX3_remember : MethodName := ⟨RX3, "remember", "(LSpinTops$Moment;)V"⟩
abbrev cX3_recall : ByteArray := prog_5_method_3_code
def yX3_recall : MethodName := ⟨RX3, "recall", "(LSpinTops$Moment;)Z"⟩
def RX4 : String := "SpinTops$Reader"
def TX4 : u_T := fun k => match k with
  | 0 => ("SpinTops$Reader", "text", "LSpinTops$Text;", true)
  | 1 => ("SpinTops$Reader", "draft", "LSpinTops$Told;", true)
  | 2 => ("SpinTops$Reader", "start", "LSpinTops$Moment;", true)
  | 3 => ("SpinTops$Reader", "items", "I", false)
  | 4 => ("SpinTops$Reader", "slowIsTold", "Z", false)
  | 5 => ("SpinTops$Reader", "token", "I", false)
  | 6 => ("SpinTops$Reader", "value", "I", false)
  | 7 => ("SpinTops$Reader", "begin", "I", false)
  | _ => ("SpinTops$Reader", "behind", "I", false)
def tyX4 : Nat → FieldType := fun k => match k with
  | 0 => .object "SpinTops$Text"
  | 1 => .object "SpinTops$Told"
  | 2 => .object "SpinTops$Moment"
  | 3 => .int
  | 4 => .boolean
  | 5 => .int
  | 6 => .int
  | 7 => .int
  | _ => .int
abbrev wsX40 : List Cond := u_ws RX4 TX4 9
theorem nmX4 : ∀ a, a < 9 → ∀ b, b < 9 → a ≠ b → (TX4 a).2.1 ≠ (TX4 b).2.1 := by decide +kernel
theorem tyX4_ok : ∀ k, k < 9 → parseFieldDescriptor (TX4 k).2.2.1 = some (tyX4 k) := by decide +kernel
abbrev cX4_init : ByteArray := prog_6_method_1_code
def yX4_init : MethodName := ⟨RX4, "<init>", "(LSpinTops$Text;)V"⟩
abbrev cX4_read : ByteArray := prog_6_method_2_code
def yX4_read : MethodName := ⟨RX4, "read", "()I"⟩
abbrev cX4_readPlaces : ByteArray := prog_6_method_3_code
def yX4_readPlaces : MethodName := ⟨RX4, "readPlaces", "()Z"⟩
abbrev cX4_readSlow : ByteArray := prog_6_method_4_code
def yX4_readSlow : MethodName := ⟨RX4, "readSlow", "()Z"⟩
abbrev cX4_readTop : ByteArray := prog_6_method_5_code
def yX4_readTop : MethodName := ⟨RX4, "readTop", "()Z"⟩
abbrev cX4_readNumber : ByteArray := prog_6_method_6_code
def yX4_readNumber : MethodName := ⟨RX4, "readNumber", "(II)Z"⟩
abbrev cX4_readItemEnd : ByteArray := prog_6_method_7_code
def yX4_readItemEnd : MethodName := ⟨RX4, "readItemEnd", "()Z"⟩
abbrev cX4_nextToken : ByteArray := prog_6_method_8_code
def yX4_nextToken : MethodName := ⟨RX4, "nextToken", "()V"⟩
abbrev cX4_behindBlanks : ByteArray := prog_6_method_9_code
def yX4_behindBlanks : MethodName := ⟨RX4, "behindBlanks", "()I"⟩
abbrev cX4_takeNumber : ByteArray := prog_6_method_10_code
def yX4_takeNumber : MethodName := ⟨RX4, "takeNumber", "()V"⟩
abbrev cX4_isDigit : ByteArray := prog_6_method_11_code
def yX4_isDigit : MethodName := ⟨RX4, "isDigit", "(I)Z"⟩
def RX5 : String := "SpinTops$Seen"
def TX5 : u_T := fun k => match k with
  | 0 => ("SpinTops$Seen", "first", "[I", true)
  | 1 => ("SpinTops$Seen", "beats", "[I", true)
  | 2 => ("SpinTops$Seen", "spun", "[I", true)
  | _ => ("SpinTops$Seen", "known", "I", false)
def tyX5 : Nat → FieldType := fun k => match k with
  | 0 => .array .int
  | 1 => .array .int
  | 2 => .array .int
  | _ => .int
abbrev wsX50 : List Cond := u_ws RX5 TX5 4
theorem nmX5 : ∀ a, a < 4 → ∀ b, b < 4 → a ≠ b → (TX5 a).2.1 ≠ (TX5 b).2.1 := by decide +kernel
theorem tyX5_ok : ∀ k, k < 4 → parseFieldDescriptor (TX5 k).2.2.1 = some (tyX5 k) := by decide +kernel
abbrev cX5_init : ByteArray := prog_7_method_1_code
def yX5_init : MethodName := ⟨RX5, "<init>", "()V"⟩
abbrev cX5_add : ByteArray := prog_7_method_2_code
def yX5_add : MethodName := ⟨RX5, "add", "(III)Z"⟩
abbrev cX5_spinBehind : ByteArray := prog_7_method_3_code
def yX5_spinBehind : MethodName := ⟨RX5, "spinBehind", "(III)I"⟩
abbrev cX5_canBe : ByteArray := prog_7_method_4_code
def yX5_canBe : MethodName := ⟨RX5, "canBe", "(I)Z"⟩
abbrev cX5_howMany : ByteArray := prog_7_method_5_code
def yX5_howMany : MethodName := ⟨RX5, "howMany", "()I"⟩
abbrev cX5_least : ByteArray := prog_7_method_6_code
def yX5_least : MethodName := ⟨RX5, "least", "()I"⟩
abbrev cX5_greatest : ByteArray := prog_7_method_7_code
def yX5_greatest : MethodName := ⟨RX5, "greatest", "()I"⟩
abbrev cX5_bestWait : ByteArray := prog_7_method_8_code
def yX5_bestWait : MethodName := ⟨RX5, "bestWait", "(I)I"⟩
abbrev cX5_mostAlike : ByteArray := prog_7_method_9_code
def yX5_mostAlike : MethodName := ⟨RX5, "mostAlike", "(II)I"⟩
abbrev cX5_howManyAlike : ByteArray := prog_7_method_10_code
def yX5_howManyAlike : MethodName := ⟨RX5, "howManyAlike", "(III)I"⟩
def RX6 : String := "SpinTops$Text"
def TX6 : u_T := fun k => match k with
  | 0 => ("SpinTops$Text", "letters", "[I", true)
  | _ => ("SpinTops$Text", "length", "I", false)
def tyX6 : Nat → FieldType := fun k => match k with
  | 0 => .array .int
  | _ => .int
abbrev wsX60 : List Cond := u_ws RX6 TX6 2
theorem nmX6 : ∀ a, a < 2 → ∀ b, b < 2 → a ≠ b → (TX6 a).2.1 ≠ (TX6 b).2.1 := by decide +kernel
theorem tyX6_ok : ∀ k, k < 2 → parseFieldDescriptor (TX6 k).2.2.1 = some (tyX6 k) := by decide +kernel
abbrev cX6_init : ByteArray := prog_8_method_1_code
def yX6_init : MethodName := ⟨RX6, "<init>", "()V"⟩
abbrev cX6_add : ByteArray := prog_8_method_2_code
def yX6_add : MethodName := ⟨RX6, "add", "(I)Z"⟩
def RX7 : String := "SpinTops$Told"
def TX7 : u_T := fun k => match k with
  | 0 => ("SpinTops$Told", "drag", "[I", true)
  | 1 => ("SpinTops$Told", "places", "I", false)
  | 2 => ("SpinTops$Told", "slow", "I", false)
  | _ => ("SpinTops$Told", "tops", "I", false)
def tyX7 : Nat → FieldType := fun k => match k with
  | 0 => .array .int
  | 1 => .int
  | 2 => .int
  | _ => .int
abbrev wsX70 : List Cond := u_ws RX7 TX7 4
theorem nmX7 : ∀ a, a < 4 → ∀ b, b < 4 → a ≠ b → (TX7 a).2.1 ≠ (TX7 b).2.1 := by decide +kernel
theorem tyX7_ok : ∀ k, k < 4 → parseFieldDescriptor (TX7 k).2.2.1 = some (tyX7 k) := by decide +kernel
abbrev cX7_init : ByteArray := prog_9_method_1_code
def yX7_init : MethodName := ⟨RX7, "<init>", "()V"⟩
abbrev cX7_copy : ByteArray := prog_9_method_2_code
def yX7_copy : MethodName := ⟨RX7, "copy", "(LSpinTops$Told;)V"⟩
abbrev cX7_reset : ByteArray := prog_9_method_3_code
def yX7_reset : MethodName := ⟨RX7, "reset", "()V"⟩
def RX8 : String := "SpinTops"
def TX8 : u_T := fun k => match k with
  | 0 => ("SpinTops", "text", "LSpinTops$Text;", true)
  | 1 => ("SpinTops", "reader", "LSpinTops$Reader;", true)
  | 2 => ("SpinTops", "told", "LSpinTops$Told;", true)
  | 3 => ("SpinTops", "now", "LSpinTops$Moment;", true)
  | 4 => ("SpinTops", "past", "LSpinTops$Past;", true)
  | 5 => ("SpinTops", "images", "[LSpinTops$Moment;", true)
  | 6 => ("SpinTops", "kept", "[Z", true)
  | 7 => ("SpinTops", "future", "LSpinTops$Future;", true)
  | 8 => ("SpinTops", "seen", "LSpinTops$Seen;", true)
  | _ => ("SpinTops", "kinds", "LSpinTops$Kinds;", true)
def tyX8 : Nat → FieldType := fun k => match k with
  | 0 => .object "SpinTops$Text"
  | 1 => .object "SpinTops$Reader"
  | 2 => .object "SpinTops$Told"
  | 3 => .object "SpinTops$Moment"
  | 4 => .object "SpinTops$Past"
  | 5 => .array (.object "SpinTops$Moment")
  | 6 => .array .boolean
  | 7 => .object "SpinTops$Future"
  | 8 => .object "SpinTops$Seen"
  | _ => .object "SpinTops$Kinds"
abbrev wsX80 : List Cond := u_ws RX8 TX8 10
theorem nmX8 : ∀ a, a < 10 → ∀ b, b < 10 → a ≠ b → (TX8 a).2.1 ≠ (TX8 b).2.1 := by decide +kernel
theorem tyX8_ok : ∀ k, k < 10 → parseFieldDescriptor (TX8 k).2.2.1 = some (tyX8 k) := by decide +kernel
abbrev cX8_init : ByteArray := prog_1_method_1_code
def yX8_init : MethodName := ⟨RX8, "<init>", "()V"⟩
abbrev cX8_type : ByteArray := prog_1_method_2_code
def yX8_type : MethodName := ⟨RX8, "type", "(I)I"⟩
abbrev cX8_clear : ByteArray := prog_1_method_3_code
def yX8_clear : MethodName := ⟨RX8, "clear", "()I"⟩
abbrev cX8_tray : ByteArray := prog_1_method_4_code
def yX8_tray : MethodName := ⟨RX8, "tray", "()I"⟩
abbrev cX8_top : ByteArray := prog_1_method_5_code
def yX8_top : MethodName := ⟨RX8, "top", "(II)I"⟩
abbrev cX8_at : ByteArray := prog_1_method_6_code
def yX8_at : MethodName := ⟨RX8, "at", "(I)I"⟩
abbrev cX8_now : ByteArray := prog_1_method_7_code
def yX8_now : MethodName := ⟨RX8, "now", "(I)I"⟩
abbrev cX8_beats : ByteArray := prog_1_method_8_code
def yX8_beats : MethodName := ⟨RX8, "beats", "()I"⟩
abbrev cX8_whips : ByteArray := prog_1_method_9_code
def yX8_whips : MethodName := ⟨RX8, "whips", "(II)I"⟩
abbrev cX8_tilts : ByteArray := prog_1_method_10_code
def yX8_tilts : MethodName := ⟨RX8, "tilts", "(I)I"⟩
abbrev cX8_sets : ByteArray := prog_1_method_11_code
def yX8_sets : MethodName := ⟨RX8, "sets", "(II)I"⟩
abbrev cX8_undo : ByteArray := prog_1_method_12_code
def yX8_undo : MethodName := ⟨RX8, "undo", "()I"⟩
abbrev cX8_stand : ByteArray := prog_1_method_13_code
def yX8_stand : MethodName := ⟨RX8, "stand", "(I)I"⟩
abbrev cX8_whip : ByteArray := prog_1_method_14_code
def yX8_whip : MethodName := ⟨RX8, "whip", "(II)I"⟩
abbrev cX8_row : ByteArray := prog_1_method_15_code
def yX8_row : MethodName := ⟨RX8, "row", "(II)I"⟩
abbrev cX8_odds : ByteArray := prog_1_method_16_code
def yX8_odds : MethodName := ⟨RX8, "odds", "(IIII)I"⟩
abbrev cX8_sees : ByteArray := prog_1_method_17_code
def yX8_sees : MethodName := ⟨RX8, "sees", "(III)I"⟩
abbrev cX8_forget : ByteArray := prog_1_method_18_code
def yX8_forget : MethodName := ⟨RX8, "forget", "()I"⟩
abbrev cX8_drags : ByteArray := prog_1_method_19_code
def yX8_drags : MethodName := ⟨RX8, "drags", "(I)I"⟩
abbrev cX8_look : ByteArray := prog_1_method_20_code
def yX8_look : MethodName := ⟨RX8, "look", "(I)I"⟩
abbrev cX8_rate : ByteArray := prog_1_method_21_code
def yX8_rate : MethodName := ⟨RX8, "rate", "(II)I"⟩
abbrev cX8_keep : ByteArray := prog_1_method_22_code
def yX8_keep : MethodName := ⟨RX8, "keep", "(I)I"⟩
abbrev cX8_back : ByteArray := prog_1_method_23_code
def yX8_back : MethodName := ⟨RX8, "back", "(I)I"⟩
abbrev cX8_count : ByteArray := prog_1_method_24_code
def yX8_count : MethodName := ⟨RX8, "count", "(I)I"⟩
abbrev cX8_trace : ByteArray := prog_1_method_25_code
def yX8_trace : MethodName := ⟨RX8, "trace", "()J"⟩
abbrev cX8_isTop : ByteArray := prog_1_method_26_code
def yX8_isTop : MethodName := ⟨RX8, "isTop", "(I)Z"⟩
abbrev cX8_isPlace : ByteArray := prog_1_method_27_code
def yX8_isPlace : MethodName := ⟨RX8, "isPlace", "(I)Z"⟩
abbrev cX8_isSpin : ByteArray := prog_1_method_28_code
def yX8_isSpin : MethodName := ⟨RX8, "isSpin", "(I)Z"⟩
abbrev cX8_isWhip : ByteArray := prog_1_method_29_code
def yX8_isWhip : MethodName := ⟨RX8, "isWhip", "(I)Z"⟩
abbrev cX8_isAhead : ByteArray := prog_1_method_30_code
def yX8_isAhead : MethodName := ⟨RX8, "isAhead", "(I)Z"⟩
abbrev cX8_isImage : ByteArray := prog_1_method_31_code
def yX8_isImage : MethodName := ⟨RX8, "isImage", "(I)Z"⟩
abbrev cX8_within : ByteArray := prog_1_method_32_code
def yX8_within : MethodName := ⟨RX8, "within", "(III)Z"⟩
abbrev cX8_power : ByteArray := prog_1_method_33_code
def yX8_power : MethodName := ⟨RX8, "power", "(II)I"⟩
def RX9 : String := "SpinTopsModel"
def TX9 : u_T := fun k => match k with
  | 0 => ("SpinTopsModel", "places", "I", false)
  | 1 => ("SpinTopsModel", "tops", "I", false)
  | 2 => ("SpinTopsModel", "slow", "I", false)
  | 3 => ("SpinTopsModel", "drag", "[I", true)
  | 4 => ("SpinTopsModel", "newPlaces", "I", false)
  | 5 => ("SpinTopsModel", "newTops", "I", false)
  | 6 => ("SpinTopsModel", "newSlow", "I", false)
  | 7 => ("SpinTopsModel", "newPlace", "[I", true)
  | 8 => ("SpinTopsModel", "newSpin", "[I", true)
  | 9 => ("SpinTopsModel", "newDrag", "[I", true)
  | 10 => ("SpinTopsModel", "slot", "[I", true)
  | 11 => ("SpinTopsModel", "acts", "I", false)
  | 12 => ("SpinTopsModel", "kept", "[I", true)
  | 13 => ("SpinTopsModel", "length", "I", false)
  | 14 => ("SpinTopsModel", "text", "[B", true)
  | 15 => ("SpinTopsModel", "next", "I", false)
  | 16 => ("SpinTopsModel", "place", "I", false)
  | 17 => ("SpinTopsModel", "value", "I", false)
  | 18 => ("SpinTopsModel", "isWrong", "Z", false)
  | 19 => ("SpinTopsModel", "isSlowTold", "Z", false)
  | 20 => ("SpinTopsModel", "seens", "I", false)
  | 21 => ("SpinTopsModel", "seenFirst", "[I", true)
  | 22 => ("SpinTopsModel", "seenBeats", "[I", true)
  | 23 => ("SpinTopsModel", "seenSpin", "[I", true)
  | _ => ("SpinTopsModel", "marks", "J", false)
def tyX9 : Nat → FieldType := fun k => match k with
  | 0 => .int
  | 1 => .int
  | 2 => .int
  | 3 => .array .int
  | 4 => .int
  | 5 => .int
  | 6 => .int
  | 7 => .array .int
  | 8 => .array .int
  | 9 => .array .int
  | 10 => .array .int
  | 11 => .int
  | 12 => .array .int
  | 13 => .int
  | 14 => .array .byte
  | 15 => .int
  | 16 => .int
  | 17 => .int
  | 18 => .boolean
  | 19 => .boolean
  | 20 => .int
  | 21 => .array .int
  | 22 => .array .int
  | 23 => .array .int
  | _ => .long
abbrev wsX90 : List Cond := u_ws RX9 TX9 25
theorem nmX9 : ∀ a, a < 25 → ∀ b, b < 25 → a ≠ b → (TX9 a).2.1 ≠ (TX9 b).2.1 := by decide +kernel
theorem tyX9_ok : ∀ k, k < 25 → parseFieldDescriptor (TX9 k).2.2.1 = some (tyX9 k) := by decide +kernel
abbrev cX9_init : ByteArray := prog_11_method_1_code
def yX9_init : MethodName := ⟨RX9, "<init>", "()V"⟩
abbrev cX9_in : ByteArray := prog_11_method_2_code
def yX9_in : MethodName := ⟨RX9, "in", "(JJJ)Z"⟩
abbrev cX9_has : ByteArray := prog_11_method_3_code
def yX9_has : MethodName := ⟨RX9, "has", "(II)Z"⟩
abbrev cX9_bits : ByteArray := prog_11_method_4_code
def yX9_bits : MethodName := ⟨RX9, "bits", "(I)I"⟩
abbrev cX9_larger : ByteArray := prog_11_method_5_code
def yX9_larger : MethodName := ⟨RX9, "larger", "(II)I"⟩
abbrev cX9_type : ByteArray := prog_11_method_6_code
def yX9_type : MethodName := ⟨RX9, "type", "(I)I"⟩
abbrev cX9_clear : ByteArray := prog_11_method_7_code
def yX9_clear : MethodName := ⟨RX9, "clear", "()I"⟩
abbrev cX9_letterAt : ByteArray := prog_11_method_8_code
def yX9_letterAt : MethodName := ⟨RX9, "letterAt", "(I)I"⟩
abbrev cX9_token : ByteArray := prog_11_method_9_code
def yX9_token : MethodName := ⟨RX9, "token", "()I"⟩
abbrev cX9_wants : ByteArray := prog_11_method_10_code
def yX9_wants : MethodName := ⟨RX9, "wants", "(II)I"⟩
abbrev cX9_topItem : ByteArray := prog_11_method_11_code
def yX9_topItem : MethodName := ⟨RX9, "topItem", "()V"⟩
abbrev cX9_item : ByteArray := prog_11_method_12_code
def yX9_item : MethodName := ⟨RX9, "item", "(II)V"⟩
abbrev cX9_tray : ByteArray := prog_11_method_13_code
def yX9_tray : MethodName := ⟨RX9, "tray", "()I"⟩
abbrev cX9_settles : ByteArray := prog_11_method_14_code
def yX9_settles : MethodName := ⟨RX9, "settles", "()V"⟩
abbrev cX9_falls : ByteArray := prog_11_method_15_code
def yX9_falls : MethodName := ⟨RX9, "falls", "(II)V"⟩
abbrev cX9_whoAt : ByteArray := prog_11_method_16_code
def yX9_whoAt : MethodName := ⟨RX9, "whoAt", "(III)I"⟩
abbrev cX9_wanders : ByteArray := prog_11_method_17_code
def yX9_wanders : MethodName := ⟨RX9, "wanders", "(II)V"⟩
abbrev cX9_beat : ByteArray := prog_11_method_18_code
def yX9_beat : MethodName := ⟨RX9, "beat", "(I)V"⟩
abbrev cX9_copies : ByteArray := prog_11_method_19_code
def yX9_copies : MethodName := ⟨RX9, "copies", "(II)V"⟩
abbrev cX9_known : ByteArray := prog_11_method_20_code
def yX9_known : MethodName := ⟨RX9, "known", "()V"⟩
abbrev cX9_isTop : ByteArray := prog_11_method_21_code
def yX9_isTop : MethodName := ⟨RX9, "isTop", "(I)Z"⟩
abbrev cX9_stands : ByteArray := prog_11_method_22_code
def yX9_stands : MethodName := ⟨RX9, "stands", "(I)Z"⟩
abbrev cX9_fallOf : ByteArray := prog_11_method_23_code
def yX9_fallOf : MethodName := ⟨RX9, "fallOf", "(I)I"⟩
abbrev cX9_last : ByteArray := prog_11_method_24_code
def yX9_last : MethodName := ⟨RX9, "last", "()I"⟩
abbrev cX9_top : ByteArray := prog_11_method_25_code
def yX9_top : MethodName := ⟨RX9, "top", "(II)I"⟩
abbrev cX9_at : ByteArray := prog_11_method_26_code
def yX9_at : MethodName := ⟨RX9, "at", "(I)I"⟩
abbrev cX9_spins : ByteArray := prog_11_method_27_code
def yX9_spins : MethodName := ⟨RX9, "spins", "()I"⟩
abbrev cX9_now : ByteArray := prog_11_method_28_code
def yX9_now : MethodName := ⟨RX9, "now", "(I)I"⟩
abbrev cX9_beats : ByteArray := prog_11_method_29_code
def yX9_beats : MethodName := ⟨RX9, "beats", "()I"⟩
abbrev cX9_whipped : ByteArray := prog_11_method_30_code
def yX9_whipped : MethodName := ⟨RX9, "whipped", "(III)V"⟩
abbrev cX9_whips : ByteArray := prog_11_method_31_code
def yX9_whips : MethodName := ⟨RX9, "whips", "(II)I"⟩
abbrev cX9_tilts : ByteArray := prog_11_method_32_code
def yX9_tilts : MethodName := ⟨RX9, "tilts", "(I)I"⟩
abbrev cX9_sets : ByteArray := prog_11_method_33_code
def yX9_sets : MethodName := ⟨RX9, "sets", "(II)I"⟩
abbrev cX9_undo : ByteArray := prog_11_method_34_code
def yX9_undo : MethodName := ⟨RX9, "undo", "()I"⟩
abbrev cX9_standBehind : ByteArray := prog_11_method_35_code
def yX9_standBehind : MethodName := ⟨RX9, "standBehind", "(I)I"⟩
abbrev cX9_stand : ByteArray := prog_11_method_36_code
def yX9_stand : MethodName := ⟨RX9, "stand", "(I)I"⟩
abbrev cX9_whip : ByteArray := prog_11_method_37_code
def yX9_whip : MethodName := ⟨RX9, "whip", "(II)I"⟩
abbrev cX9_row : ByteArray := prog_11_method_38_code
def yX9_row : MethodName := ⟨RX9, "row", "(II)I"⟩
abbrev cX9_odds : ByteArray := prog_11_method_39_code
def yX9_odds : MethodName := ⟨RX9, "odds", "(IIII)I"⟩
abbrev cX9_sees : ByteArray := prog_11_method_40_code
def yX9_sees : MethodName := ⟨RX9, "sees", "(III)I"⟩
abbrev cX9_forget : ByteArray := prog_11_method_41_code
def yX9_forget : MethodName := ⟨RX9, "forget", "()I"⟩
abbrev cX9_spun : ByteArray := prog_11_method_42_code
def yX9_spun : MethodName := ⟨RX9, "spun", "(III)I"⟩
abbrev cX9_isSo : ByteArray := prog_11_method_43_code
def yX9_isSo : MethodName := ⟨RX9, "isSo", "(I)Z"⟩
abbrev cX9_drags : ByteArray := prog_11_method_44_code
def yX9_drags : MethodName := ⟨RX9, "drags", "(I)I"⟩
abbrev cX9_look : ByteArray := prog_11_method_45_code
def yX9_look : MethodName := ⟨RX9, "look", "(I)I"⟩
abbrev cX9_rate : ByteArray := prog_11_method_46_code
def yX9_rate : MethodName := ⟨RX9, "rate", "(II)I"⟩
abbrev cX9_keep : ByteArray := prog_11_method_47_code
def yX9_keep : MethodName := ⟨RX9, "keep", "(I)I"⟩
abbrev cX9_back : ByteArray := prog_11_method_48_code
def yX9_back : MethodName := ⟨RX9, "back", "(I)I"⟩
abbrev cX9_count : ByteArray := prog_11_method_49_code
def yX9_count : MethodName := ⟨RX9, "count", "(I)I"⟩
abbrev cX9_trace : ByteArray := prog_11_method_50_code
def yX9_trace : MethodName := ⟨RX9, "trace", "()J"⟩
def RJ6 : String := "java/lang/Integer"
def TJ6 : u_T := fun k => match k with
  | _ => ("", "", "", false)
def tyJ6 : Nat → FieldType := fun k => match k with
  | _ => .int
abbrev wsJ60 : List Cond := u_ws RJ6 TJ6 0
theorem nmJ6 : ∀ a, a < 0 → ∀ b, b < 0 → a ≠ b → (TJ6 a).2.1 ≠ (TJ6 b).2.1 := by decide +kernel
theorem tyJ6_ok : ∀ k, k < 0 → parseFieldDescriptor (TJ6 k).2.2.1 = some (tyJ6 k) := by decide +kernel
abbrev cJ6_bitCount_0f7a4 : ByteArray := prog_12_method_49_code
def yJ6_bitCount_0f7a4 : MethodName := ⟨RJ6, "bitCount", "(I)I"⟩
def RJ9 : String := "java/lang/Math"
def TJ9 : u_T := fun k => match k with
  | _ => ("", "", "", false)
def tyJ9 : Nat → FieldType := fun k => match k with
  | _ => .int
abbrev wsJ90 : List Cond := u_ws RJ9 TJ9 0
theorem nmJ9 : ∀ a, a < 0 → ∀ b, b < 0 → a ≠ b → (TJ9 a).2.1 ≠ (TJ9 b).2.1 := by decide +kernel
theorem tyJ9_ok : ∀ k, k < 0 → parseFieldDescriptor (TJ9 k).2.2.1 = some (tyJ9 k) := by decide +kernel
abbrev cJ9_max_7cf53 : ByteArray := prog_13_method_65_code
def yJ9_max_7cf53 : MethodName := ⟨RJ9, "max", "(II)I"⟩
abbrev cJ9_min_7cf53 : ByteArray := prog_13_method_69_code
def yJ9_min_7cf53 : MethodName := ⟨RJ9, "min", "(II)I"⟩
def RJ10 : String := "java/lang/System"
def TJ10 : u_T := fun k => match k with
  | _ => ("", "", "", false)
def tyJ10 : Nat → FieldType := fun k => match k with
  | _ => .int
abbrev wsJ100 : List Cond := u_ws RJ10 TJ10 0
theorem nmJ10 : ∀ a, a < 0 → ∀ b, b < 0 → a ≠ b → (TJ10 a).2.1 ≠ (TJ10 b).2.1 := by decide +kernel
theorem tyJ10_ok : ∀ k, k < 0 → parseFieldDescriptor (TJ10 k).2.2.1 = some (tyJ10 k) := by decide +kernel
def RL : String := "SpinTopsLaw"
abbrev cL_law : ByteArray := code
def yL_law : MethodName := ⟨RL, "law", "([I)Z"⟩
abbrev vwCl : List vw_C := [(RX0, TX0, 5), (RX1, TX1, 1), (RX2, TX2, 4), (RX3, TX3, 3), (RX4, TX4, 9), (RX5, TX5, 4), (RX6, TX6, 2), (RX7, TX7, 4), (RX8, TX8, 10), (RX9, TX9, 25)]
end
section
theorem dX0_init_0 : decode cX0_init 0 = .ok (.aload_n 0, 1) := by decide +kernel
theorem dX0_init_1 : decode cX0_init 1 = .ok (.invokespecial 3, 3) := by decide +kernel
theorem dX0_init_4 : decode cX0_init 4 = .ok (.aload_n 0, 1) := by decide +kernel
theorem dX0_init_5 : decode cX0_init 5 = .ok (.new 9, 3) := by decide +kernel
theorem dX0_init_8 : decode cX0_init 8 = .ok (.dup, 1) := by decide +kernel
theorem dX0_init_9 : decode cX0_init 9 = .ok (.invokespecial 11, 3) := by decide +kernel
theorem dX0_init_12 : decode cX0_init 12 = .ok (.putfield 12, 3) := by decide +kernel
theorem dX0_init_15 : decode cX0_init 15 = .ok (.aload_n 0, 1) := by decide +kernel
theorem dX0_init_16 : decode cX0_init 16 = .ok (.iconst 0, 1) := by decide +kernel
theorem dX0_init_17 : decode cX0_init 17 = .ok (.putfield 18, 3) := by decide +kernel
theorem dX0_init_20 : decode cX0_init 20 = .ok (.aload_n 0, 1) := by decide +kernel
theorem dX0_init_21 : decode cX0_init 21 = .ok (.iconst 0, 1) := by decide +kernel
theorem dX0_init_22 : decode cX0_init 22 = .ok (.putfield 22, 3) := by decide +kernel
theorem dX0_init_25 : decode cX0_init 25 = .ok (.aload_n 0, 1) := by decide +kernel
theorem dX0_init_26 : decode cX0_init 26 = .ok (.iconst 0, 1) := by decide +kernel
theorem dX0_init_27 : decode cX0_init 27 = .ok (.putfield 25, 3) := by decide +kernel
theorem dX0_init_30 : decode cX0_init 30 = .ok (.aload_n 0, 1) := by decide +kernel
theorem dX0_init_31 : decode cX0_init 31 = .ok (.iconst 1, 1) := by decide +kernel
theorem dX0_init_32 : decode cX0_init 32 = .ok (.putfield 28, 3) := by decide +kernel
theorem dX0_init_35 : decode cX0_init 35 = .ok (.return_, 1) := by decide +kernel
theorem dX0_standing_0 : decode cX0_standing 0 = .ok (.aload_n 0, 1) := by decide +kernel
theorem dX0_standing_1 : decode cX0_standing 1 = .ok (.getfield 12, 3) := by decide +kernel
theorem dX0_standing_4 : decode cX0_standing 4 = .ok (.aload_n 2, 1) := by decide +kernel
theorem dX0_standing_5 : decode cX0_standing 5 = .ok (.invokevirtual 31, 3) := by decide +kernel
theorem dX0_standing_8 : decode cX0_standing 8 = .ok (.aload_n 0, 1) := by decide +kernel
theorem dX0_standing_9 : decode cX0_standing 9 = .ok (.getfield 12, 3) := by decide +kernel
theorem dX0_standing_12 : decode cX0_standing 12 = .ok (.aload_n 1, 1) := by decide +kernel
theorem dX0_standing_13 : decode cX0_standing 13 = .ok (.iload_n 3, 1) := by decide +kernel
theorem dX0_standing_14 : decode cX0_standing 14 = .ok (.invokevirtual 35, 3) := by decide +kernel
theorem dX0_standing_17 : decode cX0_standing 17 = .ok (.pop, 1) := by decide +kernel
theorem dX0_standing_18 : decode cX0_standing 18 = .ok (.aload_n 0, 1) := by decide +kernel
theorem dX0_standing_19 : decode cX0_standing 19 = .ok (.getfield 12, 3) := by decide +kernel
theorem dX0_standing_22 : decode cX0_standing 22 = .ok (.invokevirtual 39, 3) := by decide +kernel
theorem dX0_standing_25 : decode cX0_standing 25 = .ok (.ireturn, 1) := by decide +kernel
theorem dX0_fall_0 : decode cX0_fall 0 = .ok (.aload_n 0, 1) := by decide +kernel
theorem dX0_fall_1 : decode cX0_fall 1 = .ok (.getfield 12, 3) := by decide +kernel
theorem dX0_fall_4 : decode cX0_fall 4 = .ok (.aload_n 2, 1) := by decide +kernel
theorem dX0_fall_5 : decode cX0_fall 5 = .ok (.invokevirtual 31, 3) := by decide +kernel
theorem dX0_fall_8 : decode cX0_fall 8 = .ok (.iconst 0, 1) := by decide +kernel
theorem dX0_fall_9 : decode cX0_fall 9 = .ok (.istore 4, 2) := by decide +kernel
theorem dX0_fall_11 : decode cX0_fall 11 = .ok (.iload 4, 2) := by decide +kernel
theorem dX0_fall_13 : decode cX0_fall 13 = .ok (.bipush 60, 2) := by decide +kernel
theorem dX0_fall_15 : decode cX0_fall 15 = .ok (.if_icmp .ge 30, 3) := by decide +kernel
theorem dX0_fall_18 : decode cX0_fall 18 = .ok (.aload_n 0, 1) := by decide +kernel
theorem dX0_fall_19 : decode cX0_fall 19 = .ok (.getfield 12, 3) := by decide +kernel
theorem dX0_fall_22 : decode cX0_fall 22 = .ok (.iload_n 3, 1) := by decide +kernel
theorem dX0_fall_23 : decode cX0_fall 23 = .ok (.invokevirtual 43, 3) := by decide +kernel
theorem dX0_fall_26 : decode cX0_fall 26 = .ok (.ifCond .eq 19, 3) := by decide +kernel
theorem dX0_fall_29 : decode cX0_fall 29 = .ok (.aload_n 0, 1) := by decide +kernel
theorem dX0_fall_30 : decode cX0_fall 30 = .ok (.getfield 12, 3) := by decide +kernel
theorem dX0_fall_33 : decode cX0_fall 33 = .ok (.aload_n 1, 1) := by decide +kernel
theorem dX0_fall_34 : decode cX0_fall 34 = .ok (.iconst 1, 1) := by decide +kernel
theorem dX0_fall_35 : decode cX0_fall 35 = .ok (.invokevirtual 35, 3) := by decide +kernel
theorem dX0_fall_38 : decode cX0_fall 38 = .ok (.pop, 1) := by decide +kernel
theorem dX0_fall_39 : decode cX0_fall 39 = .ok (.iinc 4 1, 3) := by decide +kernel
theorem dX0_fall_42 : decode cX0_fall 42 = .ok (.goto (-31), 3) := by decide +kernel
theorem dX0_fall_45 : decode cX0_fall 45 = .ok (.iload 4, 2) := by decide +kernel
theorem dX0_fall_47 : decode cX0_fall 47 = .ok (.ireturn, 1) := by decide +kernel
theorem dX0_last_0 : decode cX0_last 0 = .ok (.aload_n 0, 1) := by decide +kernel
theorem dX0_last_1 : decode cX0_last 1 = .ok (.getfield 12, 3) := by decide +kernel
theorem dX0_last_4 : decode cX0_last 4 = .ok (.aload_n 2, 1) := by decide +kernel
theorem dX0_last_5 : decode cX0_last 5 = .ok (.invokevirtual 31, 3) := by decide +kernel
theorem dX0_last_8 : decode cX0_last 8 = .ok (.aload_n 0, 1) := by decide +kernel
theorem dX0_last_9 : decode cX0_last 9 = .ok (.getfield 12, 3) := by decide +kernel
theorem dX0_last_12 : decode cX0_last 12 = .ok (.invokevirtual 47, 3) := by decide +kernel
theorem dX0_last_15 : decode cX0_last 15 = .ok (.istore_n 3, 1) := by decide +kernel
theorem dX0_last_16 : decode cX0_last 16 = .ok (.iconst 0, 1) := by decide +kernel
theorem dX0_last_17 : decode cX0_last 17 = .ok (.istore 4, 2) := by decide +kernel
theorem dX0_last_19 : decode cX0_last 19 = .ok (.iload 4, 2) := by decide +kernel
theorem dX0_last_21 : decode cX0_last 21 = .ok (.bipush 60, 2) := by decide +kernel
theorem dX0_last_23 : decode cX0_last 23 = .ok (.if_icmp .ge 39, 3) := by decide +kernel
theorem dX0_last_26 : decode cX0_last 26 = .ok (.aload_n 0, 1) := by decide +kernel
theorem dX0_last_27 : decode cX0_last 27 = .ok (.getfield 12, 3) := by decide +kernel
theorem dX0_last_30 : decode cX0_last 30 = .ok (.invokevirtual 47, 3) := by decide +kernel
theorem dX0_last_33 : decode cX0_last 33 = .ok (.bipush (-9), 2) := by decide +kernel
theorem dX0_last_35 : decode cX0_last 35 = .ok (.if_icmp .eq 27, 3) := by decide +kernel
theorem dX0_last_38 : decode cX0_last 38 = .ok (.aload_n 0, 1) := by decide +kernel
theorem dX0_last_39 : decode cX0_last 39 = .ok (.getfield 12, 3) := by decide +kernel
theorem dX0_last_42 : decode cX0_last 42 = .ok (.invokevirtual 47, 3) := by decide +kernel
theorem dX0_last_45 : decode cX0_last 45 = .ok (.istore_n 3, 1) := by decide +kernel
theorem dX0_last_46 : decode cX0_last 46 = .ok (.aload_n 0, 1) := by decide +kernel
theorem dX0_last_47 : decode cX0_last 47 = .ok (.getfield 12, 3) := by decide +kernel
theorem dX0_last_50 : decode cX0_last 50 = .ok (.aload_n 1, 1) := by decide +kernel
theorem dX0_last_51 : decode cX0_last 51 = .ok (.iconst 1, 1) := by decide +kernel
theorem dX0_last_52 : decode cX0_last 52 = .ok (.invokevirtual 35, 3) := by decide +kernel
theorem dX0_last_55 : decode cX0_last 55 = .ok (.pop, 1) := by decide +kernel
theorem dX0_last_56 : decode cX0_last 56 = .ok (.iinc 4 1, 3) := by decide +kernel
theorem dX0_last_59 : decode cX0_last 59 = .ok (.goto (-40), 3) := by decide +kernel
theorem dX0_last_62 : decode cX0_last 62 = .ok (.iload_n 3, 1) := by decide +kernel
theorem dX0_last_63 : decode cX0_last 63 = .ok (.ireturn, 1) := by decide +kernel
theorem dX0_bestWhip_0 : decode cX0_bestWhip 0 = .ok (.bipush (-9), 2) := by decide +kernel
theorem dX0_bestWhip_2 : decode cX0_bestWhip 2 = .ok (.istore 5, 2) := by decide +kernel
theorem dX0_bestWhip_4 : decode cX0_bestWhip 4 = .ok (.iconst (-1), 1) := by decide +kernel
theorem dX0_bestWhip_5 : decode cX0_bestWhip 5 = .ok (.istore 6, 2) := by decide +kernel
theorem dX0_bestWhip_7 : decode cX0_bestWhip 7 = .ok (.iconst 0, 1) := by decide +kernel
theorem dX0_bestWhip_8 : decode cX0_bestWhip 8 = .ok (.istore 7, 2) := by decide +kernel
theorem dX0_bestWhip_10 : decode cX0_bestWhip 10 = .ok (.iload 7, 2) := by decide +kernel
theorem dX0_bestWhip_12 : decode cX0_bestWhip 12 = .ok (.aload_n 1, 1) := by decide +kernel
theorem dX0_bestWhip_13 : decode cX0_bestWhip 13 = .ok (.getfield 50, 3) := by decide +kernel
theorem dX0_bestWhip_16 : decode cX0_bestWhip 16 = .ok (.if_icmp .ge 75, 3) := by decide +kernel
theorem dX0_bestWhip_19 : decode cX0_bestWhip 19 = .ok (.aload_n 2, 1) := by decide +kernel
theorem dX0_bestWhip_20 : decode cX0_bestWhip 20 = .ok (.iload 7, 2) := by decide +kernel
theorem dX0_bestWhip_22 : decode cX0_bestWhip 22 = .ok (.invokevirtual 43, 3) := by decide +kernel
theorem dX0_bestWhip_25 : decode cX0_bestWhip 25 = .ok (.ifCond .ne 6, 3) := by decide +kernel
theorem dX0_bestWhip_28 : decode cX0_bestWhip 28 = .ok (.goto 57, 3) := by decide +kernel
theorem dX0_bestWhip_31 : decode cX0_bestWhip 31 = .ok (.aload_n 0, 1) := by decide +kernel
theorem dX0_bestWhip_32 : decode cX0_bestWhip 32 = .ok (.getfield 12, 3) := by decide +kernel
theorem dX0_bestWhip_35 : decode cX0_bestWhip 35 = .ok (.aload_n 2, 1) := by decide +kernel
theorem dX0_bestWhip_36 : decode cX0_bestWhip 36 = .ok (.invokevirtual 31, 3) := by decide +kernel
theorem dX0_bestWhip_39 : decode cX0_bestWhip 39 = .ok (.aload_n 0, 1) := by decide +kernel
theorem dX0_bestWhip_40 : decode cX0_bestWhip 40 = .ok (.getfield 12, 3) := by decide +kernel
theorem dX0_bestWhip_43 : decode cX0_bestWhip 43 = .ok (.iload 7, 2) := by decide +kernel
theorem dX0_bestWhip_45 : decode cX0_bestWhip 45 = .ok (.iload_n 3, 1) := by decide +kernel
theorem dX0_bestWhip_46 : decode cX0_bestWhip 46 = .ok (.invokevirtual 55, 3) := by decide +kernel
theorem dX0_bestWhip_49 : decode cX0_bestWhip 49 = .ok (.aload_n 0, 1) := by decide +kernel
theorem dX0_bestWhip_50 : decode cX0_bestWhip 50 = .ok (.getfield 12, 3) := by decide +kernel
theorem dX0_bestWhip_53 : decode cX0_bestWhip 53 = .ok (.aload_n 1, 1) := by decide +kernel
theorem dX0_bestWhip_54 : decode cX0_bestWhip 54 = .ok (.iload 4, 2) := by decide +kernel
theorem dX0_bestWhip_56 : decode cX0_bestWhip 56 = .ok (.invokevirtual 35, 3) := by decide +kernel
theorem dX0_bestWhip_59 : decode cX0_bestWhip 59 = .ok (.pop, 1) := by decide +kernel
theorem dX0_bestWhip_60 : decode cX0_bestWhip 60 = .ok (.aload_n 0, 1) := by decide +kernel
theorem dX0_bestWhip_61 : decode cX0_bestWhip 61 = .ok (.getfield 12, 3) := by decide +kernel
theorem dX0_bestWhip_64 : decode cX0_bestWhip 64 = .ok (.invokevirtual 59, 3) := by decide +kernel
theorem dX0_bestWhip_67 : decode cX0_bestWhip 67 = .ok (.iload 6, 2) := by decide +kernel
theorem dX0_bestWhip_69 : decode cX0_bestWhip 69 = .ok (.if_icmp .le 16, 3) := by decide +kernel
theorem dX0_bestWhip_72 : decode cX0_bestWhip 72 = .ok (.aload_n 0, 1) := by decide +kernel
theorem dX0_bestWhip_73 : decode cX0_bestWhip 73 = .ok (.getfield 12, 3) := by decide +kernel
theorem dX0_bestWhip_76 : decode cX0_bestWhip 76 = .ok (.invokevirtual 59, 3) := by decide +kernel
theorem dX0_bestWhip_79 : decode cX0_bestWhip 79 = .ok (.istore 6, 2) := by decide +kernel
theorem dX0_bestWhip_81 : decode cX0_bestWhip 81 = .ok (.iload 7, 2) := by decide +kernel
theorem dX0_bestWhip_83 : decode cX0_bestWhip 83 = .ok (.istore 5, 2) := by decide +kernel
theorem dX0_bestWhip_85 : decode cX0_bestWhip 85 = .ok (.iinc 7 1, 3) := by decide +kernel
theorem dX0_bestWhip_88 : decode cX0_bestWhip 88 = .ok (.goto (-78), 3) := by decide +kernel
theorem dX0_bestWhip_91 : decode cX0_bestWhip 91 = .ok (.iload 5, 2) := by decide +kernel
theorem dX0_bestWhip_93 : decode cX0_bestWhip 93 = .ok (.ireturn, 1) := by decide +kernel
theorem dX0_findRow_0 : decode cX0_findRow 0 = .ok (.aload_n 0, 1) := by decide +kernel
theorem dX0_findRow_1 : decode cX0_findRow 1 = .ok (.iconst (-1), 1) := by decide +kernel
theorem dX0_findRow_2 : decode cX0_findRow 2 = .ok (.putfield 18, 3) := by decide +kernel
theorem dX0_findRow_5 : decode cX0_findRow 5 = .ok (.aload_n 0, 1) := by decide +kernel
theorem dX0_findRow_6 : decode cX0_findRow 6 = .ok (.iconst 0, 1) := by decide +kernel
theorem dX0_findRow_7 : decode cX0_findRow 7 = .ok (.putfield 22, 3) := by decide +kernel
theorem dX0_findRow_10 : decode cX0_findRow 10 = .ok (.iconst 3, 1) := by decide +kernel
theorem dX0_findRow_11 : decode cX0_findRow 11 = .ok (.iload_n 3, 1) := by decide +kernel
theorem dX0_findRow_12 : decode cX0_findRow 12 = .ok (.invokestatic 62, 3) := by decide +kernel
theorem dX0_findRow_15 : decode cX0_findRow 15 = .ok (.istore 4, 2) := by decide +kernel
theorem dX0_findRow_17 : decode cX0_findRow 17 = .ok (.iconst 0, 1) := by decide +kernel
theorem dX0_findRow_18 : decode cX0_findRow 18 = .ok (.istore 5, 2) := by decide +kernel
theorem dX0_findRow_20 : decode cX0_findRow 20 = .ok (.iload 5, 2) := by decide +kernel
theorem dX0_findRow_22 : decode cX0_findRow 22 = .ok (.iload 4, 2) := by decide +kernel
theorem dX0_findRow_24 : decode cX0_findRow 24 = .ok (.if_icmp .ge 89, 3) := by decide +kernel
theorem dX0_findRow_27 : decode cX0_findRow 27 = .ok (.aload_n 0, 1) := by decide +kernel
theorem dX0_findRow_28 : decode cX0_findRow 28 = .ok (.getfield 12, 3) := by decide +kernel
theorem dX0_findRow_31 : decode cX0_findRow 31 = .ok (.aload_n 2, 1) := by decide +kernel
theorem dX0_findRow_32 : decode cX0_findRow 32 = .ok (.invokevirtual 31, 3) := by decide +kernel
theorem dX0_findRow_35 : decode cX0_findRow 35 = .ok (.iconst 0, 1) := by decide +kernel
theorem dX0_findRow_36 : decode cX0_findRow 36 = .ok (.istore 6, 2) := by decide +kernel
theorem dX0_findRow_38 : decode cX0_findRow 38 = .ok (.iload 6, 2) := by decide +kernel
theorem dX0_findRow_40 : decode cX0_findRow 40 = .ok (.iload_n 3, 1) := by decide +kernel
theorem dX0_findRow_41 : decode cX0_findRow 41 = .ok (.if_icmp .ge 35, 3) := by decide +kernel
theorem dX0_findRow_44 : decode cX0_findRow 44 = .ok (.aload_n 0, 1) := by decide +kernel
theorem dX0_findRow_45 : decode cX0_findRow 45 = .ok (.getfield 12, 3) := by decide +kernel
theorem dX0_findRow_48 : decode cX0_findRow 48 = .ok (.aload_n 0, 1) := by decide +kernel
theorem dX0_findRow_49 : decode cX0_findRow 49 = .ok (.iload 5, 2) := by decide +kernel
theorem dX0_findRow_51 : decode cX0_findRow 51 = .ok (.iload_n 3, 1) := by decide +kernel
theorem dX0_findRow_52 : decode cX0_findRow 52 = .ok (.iload 6, 2) := by decide +kernel
theorem dX0_findRow_54 : decode cX0_findRow 54 = .ok (.invokevirtual 66, 3) := by decide +kernel
theorem dX0_findRow_57 : decode cX0_findRow 57 = .ok (.putfield 70, 3) := by decide +kernel
theorem dX0_findRow_60 : decode cX0_findRow 60 = .ok (.aload_n 0, 1) := by decide +kernel
theorem dX0_findRow_61 : decode cX0_findRow 61 = .ok (.getfield 12, 3) := by decide +kernel
theorem dX0_findRow_64 : decode cX0_findRow 64 = .ok (.aload_n 1, 1) := by decide +kernel
theorem dX0_findRow_65 : decode cX0_findRow 65 = .ok (.iconst 1, 1) := by decide +kernel
theorem dX0_findRow_66 : decode cX0_findRow 66 = .ok (.invokevirtual 35, 3) := by decide +kernel
theorem dX0_findRow_69 : decode cX0_findRow 69 = .ok (.pop, 1) := by decide +kernel
theorem dX0_findRow_70 : decode cX0_findRow 70 = .ok (.iinc 6 1, 3) := by decide +kernel
theorem dX0_findRow_73 : decode cX0_findRow 73 = .ok (.goto (-35), 3) := by decide +kernel
theorem dX0_findRow_76 : decode cX0_findRow 76 = .ok (.aload_n 0, 1) := by decide +kernel
theorem dX0_findRow_77 : decode cX0_findRow 77 = .ok (.getfield 12, 3) := by decide +kernel
theorem dX0_findRow_80 : decode cX0_findRow 80 = .ok (.invokevirtual 59, 3) := by decide +kernel
theorem dX0_findRow_83 : decode cX0_findRow 83 = .ok (.aload_n 0, 1) := by decide +kernel
theorem dX0_findRow_84 : decode cX0_findRow 84 = .ok (.getfield 18, 3) := by decide +kernel
theorem dX0_findRow_87 : decode cX0_findRow 87 = .ok (.if_icmp .le 20, 3) := by decide +kernel
theorem dX0_findRow_90 : decode cX0_findRow 90 = .ok (.aload_n 0, 1) := by decide +kernel
theorem dX0_findRow_91 : decode cX0_findRow 91 = .ok (.aload_n 0, 1) := by decide +kernel
theorem dX0_findRow_92 : decode cX0_findRow 92 = .ok (.getfield 12, 3) := by decide +kernel
theorem dX0_findRow_95 : decode cX0_findRow 95 = .ok (.invokevirtual 59, 3) := by decide +kernel
theorem dX0_findRow_98 : decode cX0_findRow 98 = .ok (.putfield 18, 3) := by decide +kernel
theorem dX0_findRow_101 : decode cX0_findRow 101 = .ok (.aload_n 0, 1) := by decide +kernel
theorem dX0_findRow_102 : decode cX0_findRow 102 = .ok (.iload 5, 2) := by decide +kernel
theorem dX0_findRow_104 : decode cX0_findRow 104 = .ok (.putfield 22, 3) := by decide +kernel
theorem dX0_findRow_107 : decode cX0_findRow 107 = .ok (.iinc 5 1, 3) := by decide +kernel
theorem dX0_findRow_110 : decode cX0_findRow 110 = .ok (.goto (-90), 3) := by decide +kernel
theorem dX0_findRow_113 : decode cX0_findRow 113 = .ok (.return_, 1) := by decide +kernel
theorem dX0_tiltOf_0 : decode cX0_tiltOf 0 = .ok (.iload_n 1, 1) := by decide +kernel
theorem dX0_tiltOf_1 : decode cX0_tiltOf 1 = .ok (.istore 4, 2) := by decide +kernel
theorem dX0_tiltOf_3 : decode cX0_tiltOf 3 = .ok (.iload_n 2, 1) := by decide +kernel
theorem dX0_tiltOf_4 : decode cX0_tiltOf 4 = .ok (.iconst 1, 1) := by decide +kernel
theorem dX0_tiltOf_5 : decode cX0_tiltOf 5 = .ok (.isub, 1) := by decide +kernel
theorem dX0_tiltOf_6 : decode cX0_tiltOf 6 = .ok (.istore 5, 2) := by decide +kernel
theorem dX0_tiltOf_8 : decode cX0_tiltOf 8 = .ok (.iload 5, 2) := by decide +kernel
theorem dX0_tiltOf_10 : decode cX0_tiltOf 10 = .ok (.iload_n 3, 1) := by decide +kernel
theorem dX0_tiltOf_11 : decode cX0_tiltOf 11 = .ok (.if_icmp .le 15, 3) := by decide +kernel
theorem dX0_tiltOf_14 : decode cX0_tiltOf 14 = .ok (.iload 4, 2) := by decide +kernel
theorem dX0_tiltOf_16 : decode cX0_tiltOf 16 = .ok (.iconst 3, 1) := by decide +kernel
theorem dX0_tiltOf_17 : decode cX0_tiltOf 17 = .ok (.idiv, 1) := by decide +kernel
theorem dX0_tiltOf_18 : decode cX0_tiltOf 18 = .ok (.istore 4, 2) := by decide +kernel
theorem dX0_tiltOf_20 : decode cX0_tiltOf 20 = .ok (.iinc 5 (-1), 3) := by decide +kernel
theorem dX0_tiltOf_23 : decode cX0_tiltOf 23 = .ok (.goto (-15), 3) := by decide +kernel
theorem dX0_tiltOf_26 : decode cX0_tiltOf 26 = .ok (.iload 4, 2) := by decide +kernel
theorem dX0_tiltOf_28 : decode cX0_tiltOf 28 = .ok (.iconst 3, 1) := by decide +kernel
theorem dX0_tiltOf_29 : decode cX0_tiltOf 29 = .ok (.irem, 1) := by decide +kernel
theorem dX0_tiltOf_30 : decode cX0_tiltOf 30 = .ok (.ireturn, 1) := by decide +kernel
theorem dX0_findOdds_0 : decode cX0_findOdds 0 = .ok (.aload_n 2, 1) := by decide +kernel
theorem dX0_findOdds_1 : decode cX0_findOdds 1 = .ok (.invokevirtual 39, 3) := by decide +kernel
theorem dX0_findOdds_4 : decode cX0_findOdds 4 = .ok (.istore 6, 2) := by decide +kernel
theorem dX0_findOdds_6 : decode cX0_findOdds 6 = .ok (.aload_n 2, 1) := by decide +kernel
theorem dX0_findOdds_7 : decode cX0_findOdds 7 = .ok (.invokevirtual 59, 3) := by decide +kernel
theorem dX0_findOdds_10 : decode cX0_findOdds 10 = .ok (.istore 7, 2) := by decide +kernel
theorem dX0_findOdds_12 : decode cX0_findOdds 12 = .ok (.aload_n 0, 1) := by decide +kernel
theorem dX0_findOdds_13 : decode cX0_findOdds 13 = .ok (.iconst 0, 1) := by decide +kernel
theorem dX0_findOdds_14 : decode cX0_findOdds 14 = .ok (.putfield 25, 3) := by decide +kernel
theorem dX0_findOdds_17 : decode cX0_findOdds 17 = .ok (.aload_n 0, 1) := by decide +kernel
theorem dX0_findOdds_18 : decode cX0_findOdds 18 = .ok (.bipush 10, 2) := by decide +kernel
theorem dX0_findOdds_20 : decode cX0_findOdds 20 = .ok (.iload 7, 2) := by decide +kernel
theorem dX0_findOdds_22 : decode cX0_findOdds 22 = .ok (.invokestatic 62, 3) := by decide +kernel
theorem dX0_findOdds_25 : decode cX0_findOdds 25 = .ok (.putfield 28, 3) := by decide +kernel
theorem dX0_findOdds_28 : decode cX0_findOdds 28 = .ok (.iconst 0, 1) := by decide +kernel
theorem dX0_findOdds_29 : decode cX0_findOdds 29 = .ok (.istore 8, 2) := by decide +kernel
theorem dX0_findOdds_31 : decode cX0_findOdds 31 = .ok (.iload 8, 2) := by decide +kernel
theorem dX0_findOdds_33 : decode cX0_findOdds 33 = .ok (.bipush 64, 2) := by decide +kernel
theorem dX0_findOdds_35 : decode cX0_findOdds 35 = .ok (.if_icmp .ge 82, 3) := by decide +kernel
theorem dX0_findOdds_38 : decode cX0_findOdds 38 = .ok (.iload 8, 2) := by decide +kernel
theorem dX0_findOdds_40 : decode cX0_findOdds 40 = .ok (.iload 6, 2) := by decide +kernel
theorem dX0_findOdds_42 : decode cX0_findOdds 42 = .ok (.iconst (-1), 1) := by decide +kernel
theorem dX0_findOdds_43 : decode cX0_findOdds 43 = .ok (.ixor, 1) := by decide +kernel
theorem dX0_findOdds_44 : decode cX0_findOdds 44 = .ok (.iand, 1) := by decide +kernel
theorem dX0_findOdds_45 : decode cX0_findOdds 45 = .ok (.ifCond .eq 6, 3) := by decide +kernel
theorem dX0_findOdds_48 : decode cX0_findOdds 48 = .ok (.goto 63, 3) := by decide +kernel
theorem dX0_findOdds_51 : decode cX0_findOdds 51 = .ok (.iload 8, 2) := by decide +kernel
theorem dX0_findOdds_53 : decode cX0_findOdds 53 = .ok (.invokestatic 73, 3) := by decide +kernel
theorem dX0_findOdds_56 : decode cX0_findOdds 56 = .ok (.istore 9, 2) := by decide +kernel
theorem dX0_findOdds_58 : decode cX0_findOdds 58 = .ok (.iload 4, 2) := by decide +kernel
theorem dX0_findOdds_60 : decode cX0_findOdds 60 = .ok (.iload 9, 2) := by decide +kernel
theorem dX0_findOdds_62 : decode cX0_findOdds 62 = .ok (.invokestatic 62, 3) := by decide +kernel
theorem dX0_findOdds_65 : decode cX0_findOdds 65 = .ok (.bipush 10, 2) := by decide +kernel
theorem dX0_findOdds_67 : decode cX0_findOdds 67 = .ok (.iload 4, 2) := by decide +kernel
theorem dX0_findOdds_69 : decode cX0_findOdds 69 = .ok (.isub, 1) := by decide +kernel
theorem dX0_findOdds_70 : decode cX0_findOdds 70 = .ok (.iload 7, 2) := by decide +kernel
theorem dX0_findOdds_72 : decode cX0_findOdds 72 = .ok (.iload 9, 2) := by decide +kernel
theorem dX0_findOdds_74 : decode cX0_findOdds 74 = .ok (.isub, 1) := by decide +kernel
theorem dX0_findOdds_75 : decode cX0_findOdds 75 = .ok (.invokestatic 62, 3) := by decide +kernel
theorem dX0_findOdds_78 : decode cX0_findOdds 78 = .ok (.imul, 1) := by decide +kernel
theorem dX0_findOdds_79 : decode cX0_findOdds 79 = .ok (.istore 10, 2) := by decide +kernel
theorem dX0_findOdds_81 : decode cX0_findOdds 81 = .ok (.iload 10, 2) := by decide +kernel
theorem dX0_findOdds_83 : decode cX0_findOdds 83 = .ok (.ifCond .le 28, 3) := by decide +kernel
theorem dX0_findOdds_86 : decode cX0_findOdds 86 = .ok (.aload_n 0, 1) := by decide +kernel
theorem dX0_findOdds_87 : decode cX0_findOdds 87 = .ok (.aload_n 1, 1) := by decide +kernel
theorem dX0_findOdds_88 : decode cX0_findOdds 88 = .ok (.aload_n 2, 1) := by decide +kernel
theorem dX0_findOdds_89 : decode cX0_findOdds 89 = .ok (.iload_n 3, 1) := by decide +kernel
theorem dX0_findOdds_90 : decode cX0_findOdds 90 = .ok (.iload 8, 2) := by decide +kernel
theorem dX0_findOdds_92 : decode cX0_findOdds 92 = .ok (.iload 5, 2) := by decide +kernel
theorem dX0_findOdds_94 : decode cX0_findOdds 94 = .ok (.invokevirtual 79, 3) := by decide +kernel
theorem dX0_findOdds_97 : decode cX0_findOdds 97 = .ok (.ifCond .eq 14, 3) := by decide +kernel
theorem dX0_findOdds_100 : decode cX0_findOdds 100 = .ok (.aload_n 0, 1) := by decide +kernel
theorem dX0_findOdds_101 : decode cX0_findOdds 101 = .ok (.dup, 1) := by decide +kernel
theorem dX0_findOdds_102 : decode cX0_findOdds 102 = .ok (.getfield 25, 3) := by decide +kernel
theorem dX0_findOdds_105 : decode cX0_findOdds 105 = .ok (.iload 10, 2) := by decide +kernel
theorem dX0_findOdds_107 : decode cX0_findOdds 107 = .ok (.iadd, 1) := by decide +kernel
theorem dX0_findOdds_108 : decode cX0_findOdds 108 = .ok (.putfield 25, 3) := by decide +kernel
theorem dX0_findOdds_111 : decode cX0_findOdds 111 = .ok (.iinc 8 1, 3) := by decide +kernel
theorem dX0_findOdds_114 : decode cX0_findOdds 114 = .ok (.goto (-83), 3) := by decide +kernel
theorem dX0_findOdds_117 : decode cX0_findOdds 117 = .ok (.iconst 0, 1) := by decide +kernel
theorem dX0_findOdds_118 : decode cX0_findOdds 118 = .ok (.istore 8, 2) := by decide +kernel
theorem dX0_findOdds_120 : decode cX0_findOdds 120 = .ok (.iload 8, 2) := by decide +kernel
theorem dX0_findOdds_122 : decode cX0_findOdds 122 = .ok (.iload 7, 2) := by decide +kernel
theorem dX0_findOdds_124 : decode cX0_findOdds 124 = .ok (.if_icmp .ge 17, 3) := by decide +kernel
theorem dX0_findOdds_127 : decode cX0_findOdds 127 = .ok (.aload_n 0, 1) := by decide +kernel
theorem dX0_findOdds_128 : decode cX0_findOdds 128 = .ok (.invokevirtual 83, 3) := by decide +kernel
theorem dX0_findOdds_131 : decode cX0_findOdds 131 = .ok (.aload_n 0, 1) := by decide +kernel
theorem dX0_findOdds_132 : decode cX0_findOdds 132 = .ok (.invokevirtual 86, 3) := by decide +kernel
theorem dX0_findOdds_135 : decode cX0_findOdds 135 = .ok (.iinc 8 1, 3) := by decide +kernel
theorem dX0_findOdds_138 : decode cX0_findOdds 138 = .ok (.goto (-18), 3) := by decide +kernel
theorem dX0_findOdds_141 : decode cX0_findOdds 141 = .ok (.return_, 1) := by decide +kernel
theorem dX0_divideOddsBy2_0 : decode cX0_divideOddsBy2 0 = .ok (.aload_n 0, 1) := by decide +kernel
theorem dX0_divideOddsBy2_1 : decode cX0_divideOddsBy2 1 = .ok (.getfield 25, 3) := by decide +kernel
theorem dX0_divideOddsBy2_4 : decode cX0_divideOddsBy2 4 = .ok (.iconst 2, 1) := by decide +kernel
theorem dX0_divideOddsBy2_5 : decode cX0_divideOddsBy2 5 = .ok (.irem, 1) := by decide +kernel
theorem dX0_divideOddsBy2_6 : decode cX0_divideOddsBy2 6 = .ok (.ifCond .ne 32, 3) := by decide +kernel
theorem dX0_divideOddsBy2_9 : decode cX0_divideOddsBy2 9 = .ok (.aload_n 0, 1) := by decide +kernel
theorem dX0_divideOddsBy2_10 : decode cX0_divideOddsBy2 10 = .ok (.getfield 28, 3) := by decide +kernel
theorem dX0_divideOddsBy2_13 : decode cX0_divideOddsBy2 13 = .ok (.iconst 2, 1) := by decide +kernel
theorem dX0_divideOddsBy2_14 : decode cX0_divideOddsBy2 14 = .ok (.irem, 1) := by decide +kernel
theorem dX0_divideOddsBy2_15 : decode cX0_divideOddsBy2 15 = .ok (.ifCond .ne 23, 3) := by decide +kernel
theorem dX0_divideOddsBy2_18 : decode cX0_divideOddsBy2 18 = .ok (.aload_n 0, 1) := by decide +kernel
theorem dX0_divideOddsBy2_19 : decode cX0_divideOddsBy2 19 = .ok (.dup, 1) := by decide +kernel
theorem dX0_divideOddsBy2_20 : decode cX0_divideOddsBy2 20 = .ok (.getfield 25, 3) := by decide +kernel
theorem dX0_divideOddsBy2_23 : decode cX0_divideOddsBy2 23 = .ok (.iconst 2, 1) := by decide +kernel
theorem dX0_divideOddsBy2_24 : decode cX0_divideOddsBy2 24 = .ok (.idiv, 1) := by decide +kernel
theorem dX0_divideOddsBy2_25 : decode cX0_divideOddsBy2 25 = .ok (.putfield 25, 3) := by decide +kernel
theorem dX0_divideOddsBy2_28 : decode cX0_divideOddsBy2 28 = .ok (.aload_n 0, 1) := by decide +kernel
theorem dX0_divideOddsBy2_29 : decode cX0_divideOddsBy2 29 = .ok (.dup, 1) := by decide +kernel
theorem dX0_divideOddsBy2_30 : decode cX0_divideOddsBy2 30 = .ok (.getfield 28, 3) := by decide +kernel
theorem dX0_divideOddsBy2_33 : decode cX0_divideOddsBy2 33 = .ok (.iconst 2, 1) := by decide +kernel
theorem dX0_divideOddsBy2_34 : decode cX0_divideOddsBy2 34 = .ok (.idiv, 1) := by decide +kernel
theorem dX0_divideOddsBy2_35 : decode cX0_divideOddsBy2 35 = .ok (.putfield 28, 3) := by decide +kernel
theorem dX0_divideOddsBy2_38 : decode cX0_divideOddsBy2 38 = .ok (.return_, 1) := by decide +kernel
theorem dX0_divideOddsBy5_0 : decode cX0_divideOddsBy5 0 = .ok (.aload_n 0, 1) := by decide +kernel
theorem dX0_divideOddsBy5_1 : decode cX0_divideOddsBy5 1 = .ok (.getfield 25, 3) := by decide +kernel
theorem dX0_divideOddsBy5_4 : decode cX0_divideOddsBy5 4 = .ok (.iconst 5, 1) := by decide +kernel
theorem dX0_divideOddsBy5_5 : decode cX0_divideOddsBy5 5 = .ok (.irem, 1) := by decide +kernel
theorem dX0_divideOddsBy5_6 : decode cX0_divideOddsBy5 6 = .ok (.ifCond .ne 32, 3) := by decide +kernel
theorem dX0_divideOddsBy5_9 : decode cX0_divideOddsBy5 9 = .ok (.aload_n 0, 1) := by decide +kernel
theorem dX0_divideOddsBy5_10 : decode cX0_divideOddsBy5 10 = .ok (.getfield 28, 3) := by decide +kernel
theorem dX0_divideOddsBy5_13 : decode cX0_divideOddsBy5 13 = .ok (.iconst 5, 1) := by decide +kernel
theorem dX0_divideOddsBy5_14 : decode cX0_divideOddsBy5 14 = .ok (.irem, 1) := by decide +kernel
theorem dX0_divideOddsBy5_15 : decode cX0_divideOddsBy5 15 = .ok (.ifCond .ne 23, 3) := by decide +kernel
theorem dX0_divideOddsBy5_18 : decode cX0_divideOddsBy5 18 = .ok (.aload_n 0, 1) := by decide +kernel
theorem dX0_divideOddsBy5_19 : decode cX0_divideOddsBy5 19 = .ok (.dup, 1) := by decide +kernel
theorem dX0_divideOddsBy5_20 : decode cX0_divideOddsBy5 20 = .ok (.getfield 25, 3) := by decide +kernel
theorem dX0_divideOddsBy5_23 : decode cX0_divideOddsBy5 23 = .ok (.iconst 5, 1) := by decide +kernel
theorem dX0_divideOddsBy5_24 : decode cX0_divideOddsBy5 24 = .ok (.idiv, 1) := by decide +kernel
theorem dX0_divideOddsBy5_25 : decode cX0_divideOddsBy5 25 = .ok (.putfield 25, 3) := by decide +kernel
theorem dX0_divideOddsBy5_28 : decode cX0_divideOddsBy5 28 = .ok (.aload_n 0, 1) := by decide +kernel
theorem dX0_divideOddsBy5_29 : decode cX0_divideOddsBy5 29 = .ok (.dup, 1) := by decide +kernel
theorem dX0_divideOddsBy5_30 : decode cX0_divideOddsBy5 30 = .ok (.getfield 28, 3) := by decide +kernel
theorem dX0_divideOddsBy5_33 : decode cX0_divideOddsBy5 33 = .ok (.iconst 5, 1) := by decide +kernel
theorem dX0_divideOddsBy5_34 : decode cX0_divideOddsBy5 34 = .ok (.idiv, 1) := by decide +kernel
theorem dX0_divideOddsBy5_35 : decode cX0_divideOddsBy5 35 = .ok (.putfield 28, 3) := by decide +kernel
theorem dX0_divideOddsBy5_38 : decode cX0_divideOddsBy5 38 = .ok (.return_, 1) := by decide +kernel
theorem dX0_standsIfHit_0 : decode cX0_standsIfHit 0 = .ok (.aload_n 0, 1) := by decide +kernel
theorem dX0_standsIfHit_1 : decode cX0_standsIfHit 1 = .ok (.getfield 12, 3) := by decide +kernel
theorem dX0_standsIfHit_4 : decode cX0_standsIfHit 4 = .ok (.aload_n 2, 1) := by decide +kernel
theorem dX0_standsIfHit_5 : decode cX0_standsIfHit 5 = .ok (.invokevirtual 31, 3) := by decide +kernel
theorem dX0_standsIfHit_8 : decode cX0_standsIfHit 8 = .ok (.iconst 0, 1) := by decide +kernel
theorem dX0_standsIfHit_9 : decode cX0_standsIfHit 9 = .ok (.istore 6, 2) := by decide +kernel
theorem dX0_standsIfHit_11 : decode cX0_standsIfHit 11 = .ok (.iload 6, 2) := by decide +kernel
theorem dX0_standsIfHit_13 : decode cX0_standsIfHit 13 = .ok (.bipush 6, 2) := by decide +kernel
theorem dX0_standsIfHit_15 : decode cX0_standsIfHit 15 = .ok (.if_icmp .ge 29, 3) := by decide +kernel
theorem dX0_standsIfHit_18 : decode cX0_standsIfHit 18 = .ok (.iload 4, 2) := by decide +kernel
theorem dX0_standsIfHit_20 : decode cX0_standsIfHit 20 = .ok (.iload 6, 2) := by decide +kernel
theorem dX0_standsIfHit_22 : decode cX0_standsIfHit 22 = .ok (.ishr, 1) := by decide +kernel
theorem dX0_standsIfHit_23 : decode cX0_standsIfHit 23 = .ok (.iconst 1, 1) := by decide +kernel
theorem dX0_standsIfHit_24 : decode cX0_standsIfHit 24 = .ok (.iand, 1) := by decide +kernel
theorem dX0_standsIfHit_25 : decode cX0_standsIfHit 25 = .ok (.ifCond .eq 13, 3) := by decide +kernel
theorem dX0_standsIfHit_28 : decode cX0_standsIfHit 28 = .ok (.aload_n 0, 1) := by decide +kernel
theorem dX0_standsIfHit_29 : decode cX0_standsIfHit 29 = .ok (.getfield 12, 3) := by decide +kernel
theorem dX0_standsIfHit_32 : decode cX0_standsIfHit 32 = .ok (.iload 6, 2) := by decide +kernel
theorem dX0_standsIfHit_34 : decode cX0_standsIfHit 34 = .ok (.iconst 5, 1) := by decide +kernel
theorem dX0_standsIfHit_35 : decode cX0_standsIfHit 35 = .ok (.invokevirtual 55, 3) := by decide +kernel
theorem dX0_standsIfHit_38 : decode cX0_standsIfHit 38 = .ok (.iinc 6 1, 3) := by decide +kernel
theorem dX0_standsIfHit_41 : decode cX0_standsIfHit 41 = .ok (.goto (-30), 3) := by decide +kernel
theorem dX0_standsIfHit_44 : decode cX0_standsIfHit 44 = .ok (.aload_n 0, 1) := by decide +kernel
theorem dX0_standsIfHit_45 : decode cX0_standsIfHit 45 = .ok (.getfield 12, 3) := by decide +kernel
theorem dX0_standsIfHit_48 : decode cX0_standsIfHit 48 = .ok (.aload_n 1, 1) := by decide +kernel
theorem dX0_standsIfHit_49 : decode cX0_standsIfHit 49 = .ok (.iload 5, 2) := by decide +kernel
theorem dX0_standsIfHit_51 : decode cX0_standsIfHit 51 = .ok (.invokevirtual 35, 3) := by decide +kernel
theorem dX0_standsIfHit_54 : decode cX0_standsIfHit 54 = .ok (.pop, 1) := by decide +kernel
theorem dX0_standsIfHit_55 : decode cX0_standsIfHit 55 = .ok (.aload_n 0, 1) := by decide +kernel
theorem dX0_standsIfHit_56 : decode cX0_standsIfHit 56 = .ok (.getfield 12, 3) := by decide +kernel
theorem dX0_standsIfHit_59 : decode cX0_standsIfHit 59 = .ok (.iload_n 3, 1) := by decide +kernel
theorem dX0_standsIfHit_60 : decode cX0_standsIfHit 60 = .ok (.invokevirtual 43, 3) := by decide +kernel
theorem dX0_standsIfHit_63 : decode cX0_standsIfHit 63 = .ok (.ireturn, 1) := by decide +kernel
theorem dX1_init_0 : decode cX1_init 0 = .ok (.aload_n 0, 1) := by decide +kernel
theorem dX1_init_1 : decode cX1_init 1 = .ok (.invokespecial 1, 3) := by decide +kernel
theorem dX1_init_4 : decode cX1_init 4 = .ok (.aload_n 0, 1) := by decide +kernel
theorem dX1_init_5 : decode cX1_init 5 = .ok (.lconst 0, 1) := by decide +kernel
theorem dX1_init_6 : decode cX1_init 6 = .ok (.putfield 7, 3) := by decide +kernel
theorem dX1_init_9 : decode cX1_init 9 = .ok (.return_, 1) := by decide +kernel
theorem dX1_asTop_0 : decode cX1_asTop 0 = .ok (.aload_n 0, 1) := by decide +kernel
theorem dX1_asTop_1 : decode cX1_asTop 1 = .ok (.dup, 1) := by decide +kernel
theorem dX1_asTop_2 : decode cX1_asTop 2 = .ok (.getfield 7, 3) := by decide +kernel
theorem dX1_asTop_5 : decode cX1_asTop 5 = .ok (.lconst 1, 1) := by decide +kernel
theorem dX1_asTop_6 : decode cX1_asTop 6 = .ok (.ladd, 1) := by decide +kernel
theorem dX1_asTop_7 : decode cX1_asTop 7 = .ok (.putfield 7, 3) := by decide +kernel
theorem dX1_asTop_10 : decode cX1_asTop 10 = .ok (.aload_n 1, 1) := by decide +kernel
theorem dX1_asTop_11 : decode cX1_asTop 11 = .ok (.getfield 13, 3) := by decide +kernel
theorem dX1_asTop_14 : decode cX1_asTop 14 = .ok (.iload_n 2, 1) := by decide +kernel
theorem dX1_asTop_15 : decode cX1_asTop 15 = .ok (.iaload, 1) := by decide +kernel
theorem dX1_asTop_16 : decode cX1_asTop 16 = .ok (.ireturn, 1) := by decide +kernel
theorem dX1_asPeg_0 : decode cX1_asPeg 0 = .ok (.aload_n 0, 1) := by decide +kernel
theorem dX1_asPeg_1 : decode cX1_asPeg 1 = .ok (.dup, 1) := by decide +kernel
theorem dX1_asPeg_2 : decode cX1_asPeg 2 = .ok (.getfield 7, 3) := by decide +kernel
theorem dX1_asPeg_5 : decode cX1_asPeg 5 = .ok (.ldc2_w 19, 3) := by decide +kernel
theorem dX1_asPeg_8 : decode cX1_asPeg 8 = .ok (.ladd, 1) := by decide +kernel
theorem dX1_asPeg_9 : decode cX1_asPeg 9 = .ok (.putfield 7, 3) := by decide +kernel
theorem dX1_asPeg_12 : decode cX1_asPeg 12 = .ok (.aload_n 0, 1) := by decide +kernel
theorem dX1_asPeg_13 : decode cX1_asPeg 13 = .ok (.aload_n 2, 1) := by decide +kernel
theorem dX1_asPeg_14 : decode cX1_asPeg 14 = .ok (.iload_n 3, 1) := by decide +kernel
theorem dX1_asPeg_15 : decode cX1_asPeg 15 = .ok (.invokevirtual 21, 3) := by decide +kernel
theorem dX1_asPeg_18 : decode cX1_asPeg 18 = .ok (.aload_n 1, 1) := by decide +kernel
theorem dX1_asPeg_19 : decode cX1_asPeg 19 = .ok (.getfield 25, 3) := by decide +kernel
theorem dX1_asPeg_22 : decode cX1_asPeg 22 = .ok (.iload_n 3, 1) := by decide +kernel
theorem dX1_asPeg_23 : decode cX1_asPeg 23 = .ok (.iaload, 1) := by decide +kernel
theorem dX1_asPeg_24 : decode cX1_asPeg 24 = .ok (.iadd, 1) := by decide +kernel
theorem dX1_asPeg_25 : decode cX1_asPeg 25 = .ok (.ireturn, 1) := by decide +kernel
theorem dX1_asHummer_0 : decode cX1_asHummer 0 = .ok (.aload_n 0, 1) := by decide +kernel
theorem dX1_asHummer_1 : decode cX1_asHummer 1 = .ok (.dup, 1) := by decide +kernel
theorem dX1_asHummer_2 : decode cX1_asHummer 2 = .ok (.getfield 7, 3) := by decide +kernel
theorem dX1_asHummer_5 : decode cX1_asHummer 5 = .ok (.ldc2_w 30, 3) := by decide +kernel
theorem dX1_asHummer_8 : decode cX1_asHummer 8 = .ok (.ladd, 1) := by decide +kernel
theorem dX1_asHummer_9 : decode cX1_asHummer 9 = .ok (.putfield 7, 3) := by decide +kernel
theorem dX1_asHummer_12 : decode cX1_asHummer 12 = .ok (.aload_n 0, 1) := by decide +kernel
theorem dX1_asHummer_13 : decode cX1_asHummer 13 = .ok (.aload_n 1, 1) := by decide +kernel
theorem dX1_asHummer_14 : decode cX1_asHummer 14 = .ok (.iload_n 2, 1) := by decide +kernel
theorem dX1_asHummer_15 : decode cX1_asHummer 15 = .ok (.invokevirtual 21, 3) := by decide +kernel
theorem dX1_asHummer_18 : decode cX1_asHummer 18 = .ok (.aload_n 1, 1) := by decide +kernel
theorem dX1_asHummer_19 : decode cX1_asHummer 19 = .ok (.invokevirtual 32, 3) := by decide +kernel
theorem dX1_asHummer_22 : decode cX1_asHummer 22 = .ok (.isub, 1) := by decide +kernel
theorem dX1_asHummer_23 : decode cX1_asHummer 23 = .ok (.ireturn, 1) := by decide +kernel
theorem dX1_asWhipper_0 : decode cX1_asWhipper 0 = .ok (.aload_n 0, 1) := by decide +kernel
theorem dX1_asWhipper_1 : decode cX1_asWhipper 1 = .ok (.dup, 1) := by decide +kernel
theorem dX1_asWhipper_2 : decode cX1_asWhipper 2 = .ok (.getfield 7, 3) := by decide +kernel
theorem dX1_asWhipper_5 : decode cX1_asWhipper 5 = .ok (.ldc2_w 36, 3) := by decide +kernel
theorem dX1_asWhipper_8 : decode cX1_asWhipper 8 = .ok (.ladd, 1) := by decide +kernel
theorem dX1_asWhipper_9 : decode cX1_asWhipper 9 = .ok (.putfield 7, 3) := by decide +kernel
theorem dX1_asWhipper_12 : decode cX1_asWhipper 12 = .ok (.iconst 2, 1) := by decide +kernel
theorem dX1_asWhipper_13 : decode cX1_asWhipper 13 = .ok (.aload_n 0, 1) := by decide +kernel
theorem dX1_asWhipper_14 : decode cX1_asWhipper 14 = .ok (.aload_n 1, 1) := by decide +kernel
theorem dX1_asWhipper_15 : decode cX1_asWhipper 15 = .ok (.aload_n 2, 1) := by decide +kernel
theorem dX1_asWhipper_16 : decode cX1_asWhipper 16 = .ok (.iload_n 3, 1) := by decide +kernel
theorem dX1_asWhipper_17 : decode cX1_asWhipper 17 = .ok (.invokevirtual 38, 3) := by decide +kernel
theorem dX1_asWhipper_20 : decode cX1_asWhipper 20 = .ok (.imul, 1) := by decide +kernel
theorem dX1_asWhipper_21 : decode cX1_asWhipper 21 = .ok (.ireturn, 1) := by decide +kernel
theorem dX1_asDisc_0 : decode cX1_asDisc 0 = .ok (.aload_n 0, 1) := by decide +kernel
theorem dX1_asDisc_1 : decode cX1_asDisc 1 = .ok (.dup, 1) := by decide +kernel
theorem dX1_asDisc_2 : decode cX1_asDisc 2 = .ok (.getfield 7, 3) := by decide +kernel
theorem dX1_asDisc_5 : decode cX1_asDisc 5 = .ok (.ldc2_w 42, 3) := by decide +kernel
theorem dX1_asDisc_8 : decode cX1_asDisc 8 = .ok (.ladd, 1) := by decide +kernel
theorem dX1_asDisc_9 : decode cX1_asDisc 9 = .ok (.putfield 7, 3) := by decide +kernel
theorem dX1_asDisc_12 : decode cX1_asDisc 12 = .ok (.aload_n 0, 1) := by decide +kernel
theorem dX1_asDisc_13 : decode cX1_asDisc 13 = .ok (.aload_n 1, 1) := by decide +kernel
theorem dX1_asDisc_14 : decode cX1_asDisc 14 = .ok (.iload_n 2, 1) := by decide +kernel
theorem dX1_asDisc_15 : decode cX1_asDisc 15 = .ok (.invokevirtual 44, 3) := by decide +kernel
theorem dX1_asDisc_18 : decode cX1_asDisc 18 = .ok (.iload_n 2, 1) := by decide +kernel
theorem dX1_asDisc_19 : decode cX1_asDisc 19 = .ok (.iadd, 1) := by decide +kernel
theorem dX1_asDisc_20 : decode cX1_asDisc 20 = .ok (.ireturn, 1) := by decide +kernel
theorem dX1_asAcorn_0 : decode cX1_asAcorn 0 = .ok (.aload_n 0, 1) := by decide +kernel
theorem dX1_asAcorn_1 : decode cX1_asAcorn 1 = .ok (.dup, 1) := by decide +kernel
theorem dX1_asAcorn_2 : decode cX1_asAcorn 2 = .ok (.getfield 7, 3) := by decide +kernel
theorem dX1_asAcorn_5 : decode cX1_asAcorn 5 = .ok (.ldc2_w 47, 3) := by decide +kernel
theorem dX1_asAcorn_8 : decode cX1_asAcorn 8 = .ok (.ladd, 1) := by decide +kernel
theorem dX1_asAcorn_9 : decode cX1_asAcorn 9 = .ok (.putfield 7, 3) := by decide +kernel
theorem dX1_asAcorn_12 : decode cX1_asAcorn 12 = .ok (.aload_n 0, 1) := by decide +kernel
theorem dX1_asAcorn_13 : decode cX1_asAcorn 13 = .ok (.aload_n 1, 1) := by decide +kernel
theorem dX1_asAcorn_14 : decode cX1_asAcorn 14 = .ok (.iload_n 2, 1) := by decide +kernel
theorem dX1_asAcorn_15 : decode cX1_asAcorn 15 = .ok (.invokevirtual 21, 3) := by decide +kernel
theorem dX1_asAcorn_18 : decode cX1_asAcorn 18 = .ok (.aload_n 1, 1) := by decide +kernel
theorem dX1_asAcorn_19 : decode cX1_asAcorn 19 = .ok (.getfield 49, 3) := by decide +kernel
theorem dX1_asAcorn_22 : decode cX1_asAcorn 22 = .ok (.iadd, 1) := by decide +kernel
theorem dX1_asAcorn_23 : decode cX1_asAcorn 23 = .ok (.ireturn, 1) := by decide +kernel
theorem dX2_init_0 : decode cX2_init 0 = .ok (.aload_n 0, 1) := by decide +kernel
theorem dX2_init_1 : decode cX2_init 1 = .ok (.invokespecial 3, 3) := by decide +kernel
theorem dX2_init_4 : decode cX2_init 4 = .ok (.aload_n 0, 1) := by decide +kernel
theorem dX2_init_5 : decode cX2_init 5 = .ok (.bipush 6, 2) := by decide +kernel
theorem dX2_init_7 : decode cX2_init 7 = .ok (.newarray .int, 2) := by decide +kernel
theorem dX2_init_9 : decode cX2_init 9 = .ok (.putfield 9, 3) := by decide +kernel
theorem dX2_init_12 : decode cX2_init 12 = .ok (.aload_n 0, 1) := by decide +kernel
theorem dX2_init_13 : decode cX2_init 13 = .ok (.bipush 6, 2) := by decide +kernel
theorem dX2_init_15 : decode cX2_init 15 = .ok (.newarray .int, 2) := by decide +kernel
theorem dX2_init_17 : decode cX2_init 17 = .ok (.putfield 15, 3) := by decide +kernel
theorem dX2_init_20 : decode cX2_init 20 = .ok (.aload_n 0, 1) := by decide +kernel
theorem dX2_init_21 : decode cX2_init 21 = .ok (.iconst 0, 1) := by decide +kernel
theorem dX2_init_22 : decode cX2_init 22 = .ok (.putfield 18, 3) := by decide +kernel
theorem dX2_init_25 : decode cX2_init 25 = .ok (.aload_n 0, 1) := by decide +kernel
theorem dX2_init_26 : decode cX2_init 26 = .ok (.iconst 0, 1) := by decide +kernel
theorem dX2_init_27 : decode cX2_init 27 = .ok (.putfield 22, 3) := by decide +kernel
theorem dX2_init_30 : decode cX2_init 30 = .ok (.aload_n 0, 1) := by decide +kernel
theorem dX2_init_31 : decode cX2_init 31 = .ok (.invokevirtual 25, 3) := by decide +kernel
theorem dX2_init_34 : decode cX2_init 34 = .ok (.return_, 1) := by decide +kernel
theorem dX2_reset_0 : decode cX2_reset 0 = .ok (.aload_n 0, 1) := by decide +kernel
theorem dX2_reset_1 : decode cX2_reset 1 = .ok (.iconst 0, 1) := by decide +kernel
theorem dX2_reset_2 : decode cX2_reset 2 = .ok (.putfield 18, 3) := by decide +kernel
theorem dX2_reset_5 : decode cX2_reset 5 = .ok (.aload_n 0, 1) := by decide +kernel
theorem dX2_reset_6 : decode cX2_reset 6 = .ok (.iconst 0, 1) := by decide +kernel
theorem dX2_reset_7 : decode cX2_reset 7 = .ok (.putfield 22, 3) := by decide +kernel
theorem dX2_reset_10 : decode cX2_reset 10 = .ok (.iconst 0, 1) := by decide +kernel
theorem dX2_reset_11 : decode cX2_reset 11 = .ok (.istore_n 1, 1) := by decide +kernel
theorem dX2_reset_12 : decode cX2_reset 12 = .ok (.iload_n 1, 1) := by decide +kernel
theorem dX2_reset_13 : decode cX2_reset 13 = .ok (.bipush 6, 2) := by decide +kernel
theorem dX2_reset_15 : decode cX2_reset 15 = .ok (.if_icmp .ge 15, 3) := by decide +kernel
theorem dX2_reset_18 : decode cX2_reset 18 = .ok (.aload_n 0, 1) := by decide +kernel
theorem dX2_reset_19 : decode cX2_reset 19 = .ok (.iload_n 1, 1) := by decide +kernel
theorem dX2_reset_20 : decode cX2_reset 20 = .ok (.iconst 0, 1) := by decide +kernel
theorem dX2_reset_21 : decode cX2_reset 21 = .ok (.invokevirtual 28, 3) := by decide +kernel
theorem dX2_reset_24 : decode cX2_reset 24 = .ok (.iinc 1 1, 3) := by decide +kernel
theorem dX2_reset_27 : decode cX2_reset 27 = .ok (.goto (-15), 3) := by decide +kernel
theorem dX2_reset_30 : decode cX2_reset 30 = .ok (.return_, 1) := by decide +kernel
theorem dX2_copy_0 : decode cX2_copy 0 = .ok (.aload_n 0, 1) := by decide +kernel
theorem dX2_copy_1 : decode cX2_copy 1 = .ok (.aload_n 1, 1) := by decide +kernel
theorem dX2_copy_2 : decode cX2_copy 2 = .ok (.getfield 18, 3) := by decide +kernel
theorem dX2_copy_5 : decode cX2_copy 5 = .ok (.putfield 18, 3) := by decide +kernel
theorem dX2_copy_8 : decode cX2_copy 8 = .ok (.aload_n 0, 1) := by decide +kernel
theorem dX2_copy_9 : decode cX2_copy 9 = .ok (.aload_n 1, 1) := by decide +kernel
theorem dX2_copy_10 : decode cX2_copy 10 = .ok (.getfield 22, 3) := by decide +kernel
theorem dX2_copy_13 : decode cX2_copy 13 = .ok (.putfield 22, 3) := by decide +kernel
theorem dX2_copy_16 : decode cX2_copy 16 = .ok (.aload_n 1, 1) := by decide +kernel
theorem dX2_copy_17 : decode cX2_copy 17 = .ok (.getfield 9, 3) := by decide +kernel
theorem dX2_copy_20 : decode cX2_copy 20 = .ok (.iconst 0, 1) := by decide +kernel
theorem dX2_copy_21 : decode cX2_copy 21 = .ok (.aload_n 0, 1) := by decide +kernel
theorem dX2_copy_22 : decode cX2_copy 22 = .ok (.getfield 9, 3) := by decide +kernel
theorem dX2_copy_25 : decode cX2_copy 25 = .ok (.iconst 0, 1) := by decide +kernel
theorem dX2_copy_26 : decode cX2_copy 26 = .ok (.bipush 6, 2) := by decide +kernel
theorem dX2_copy_28 : decode cX2_copy 28 = .ok (.invokestatic 32, 3) := by decide +kernel
theorem dX2_copy_31 : decode cX2_copy 31 = .ok (.aload_n 1, 1) := by decide +kernel
theorem dX2_copy_32 : decode cX2_copy 32 = .ok (.getfield 15, 3) := by decide +kernel
theorem dX2_copy_35 : decode cX2_copy 35 = .ok (.iconst 0, 1) := by decide +kernel
theorem dX2_copy_36 : decode cX2_copy 36 = .ok (.aload_n 0, 1) := by decide +kernel
theorem dX2_copy_37 : decode cX2_copy 37 = .ok (.getfield 15, 3) := by decide +kernel
theorem dX2_copy_40 : decode cX2_copy 40 = .ok (.iconst 0, 1) := by decide +kernel
theorem dX2_copy_41 : decode cX2_copy 41 = .ok (.bipush 6, 2) := by decide +kernel
theorem dX2_copy_43 : decode cX2_copy 43 = .ok (.invokestatic 32, 3) := by decide +kernel
theorem dX2_copy_46 : decode cX2_copy 46 = .ok (.return_, 1) := by decide +kernel
theorem dX2_stands_0 : decode cX2_stands 0 = .ok (.aload_n 0, 1) := by decide +kernel
theorem dX2_stands_1 : decode cX2_stands 1 = .ok (.getfield 15, 3) := by decide +kernel
theorem dX2_stands_4 : decode cX2_stands 4 = .ok (.iload_n 1, 1) := by decide +kernel
theorem dX2_stands_5 : decode cX2_stands 5 = .ok (.iaload, 1) := by decide +kernel
theorem dX2_stands_6 : decode cX2_stands 6 = .ok (.ifCond .le 7, 3) := by decide +kernel
theorem dX2_stands_9 : decode cX2_stands 9 = .ok (.iconst 1, 1) := by decide +kernel
theorem dX2_stands_10 : decode cX2_stands 10 = .ok (.goto 4, 3) := by decide +kernel
theorem dX2_stands_13 : decode cX2_stands 13 = .ok (.iconst 0, 1) := by decide +kernel
theorem dX2_stands_14 : decode cX2_stands 14 = .ok (.ireturn, 1) := by decide +kernel
theorem dX2_who_0 : decode cX2_who 0 = .ok (.iconst 0, 1) := by decide +kernel
theorem dX2_who_1 : decode cX2_who 1 = .ok (.istore_n 2, 1) := by decide +kernel
theorem dX2_who_2 : decode cX2_who 2 = .ok (.iload_n 2, 1) := by decide +kernel
theorem dX2_who_3 : decode cX2_who 3 = .ok (.bipush 6, 2) := by decide +kernel
theorem dX2_who_5 : decode cX2_who 5 = .ok (.if_icmp .ge 29, 3) := by decide +kernel
theorem dX2_who_8 : decode cX2_who 8 = .ok (.aload_n 0, 1) := by decide +kernel
theorem dX2_who_9 : decode cX2_who 9 = .ok (.iload_n 2, 1) := by decide +kernel
theorem dX2_who_10 : decode cX2_who 10 = .ok (.invokevirtual 38, 3) := by decide +kernel
theorem dX2_who_13 : decode cX2_who 13 = .ok (.ifCond .eq 15, 3) := by decide +kernel
theorem dX2_who_16 : decode cX2_who 16 = .ok (.aload_n 0, 1) := by decide +kernel
theorem dX2_who_17 : decode cX2_who 17 = .ok (.getfield 9, 3) := by decide +kernel
theorem dX2_who_20 : decode cX2_who 20 = .ok (.iload_n 2, 1) := by decide +kernel
theorem dX2_who_21 : decode cX2_who 21 = .ok (.iaload, 1) := by decide +kernel
theorem dX2_who_22 : decode cX2_who 22 = .ok (.iload_n 1, 1) := by decide +kernel
theorem dX2_who_23 : decode cX2_who 23 = .ok (.if_icmp .ne 5, 3) := by decide +kernel
theorem dX2_who_26 : decode cX2_who 26 = .ok (.iload_n 2, 1) := by decide +kernel
theorem dX2_who_27 : decode cX2_who 27 = .ok (.ireturn, 1) := by decide +kernel
theorem dX2_who_28 : decode cX2_who 28 = .ok (.iinc 2 1, 3) := by decide +kernel
theorem dX2_who_31 : decode cX2_who 31 = .ok (.goto (-29), 3) := by decide +kernel
theorem dX2_who_34 : decode cX2_who 34 = .ok (.bipush (-9), 2) := by decide +kernel
theorem dX2_who_36 : decode cX2_who 36 = .ok (.ireturn, 1) := by decide +kernel
theorem dX2_standing_0 : decode cX2_standing 0 = .ok (.iconst 0, 1) := by decide +kernel
theorem dX2_standing_1 : decode cX2_standing 1 = .ok (.istore_n 1, 1) := by decide +kernel
theorem dX2_standing_2 : decode cX2_standing 2 = .ok (.iconst 0, 1) := by decide +kernel
theorem dX2_standing_3 : decode cX2_standing 3 = .ok (.istore_n 2, 1) := by decide +kernel
theorem dX2_standing_4 : decode cX2_standing 4 = .ok (.iload_n 2, 1) := by decide +kernel
theorem dX2_standing_5 : decode cX2_standing 5 = .ok (.bipush 6, 2) := by decide +kernel
theorem dX2_standing_7 : decode cX2_standing 7 = .ok (.if_icmp .ge 23, 3) := by decide +kernel
theorem dX2_standing_10 : decode cX2_standing 10 = .ok (.aload_n 0, 1) := by decide +kernel
theorem dX2_standing_11 : decode cX2_standing 11 = .ok (.iload_n 2, 1) := by decide +kernel
theorem dX2_standing_12 : decode cX2_standing 12 = .ok (.invokevirtual 38, 3) := by decide +kernel
theorem dX2_standing_15 : decode cX2_standing 15 = .ok (.ifCond .eq 9, 3) := by decide +kernel
theorem dX2_standing_18 : decode cX2_standing 18 = .ok (.iload_n 1, 1) := by decide +kernel
theorem dX2_standing_19 : decode cX2_standing 19 = .ok (.iconst 1, 1) := by decide +kernel
theorem dX2_standing_20 : decode cX2_standing 20 = .ok (.iload_n 2, 1) := by decide +kernel
theorem dX2_standing_21 : decode cX2_standing 21 = .ok (.ishl, 1) := by decide +kernel
theorem dX2_standing_22 : decode cX2_standing 22 = .ok (.ior, 1) := by decide +kernel
theorem dX2_standing_23 : decode cX2_standing 23 = .ok (.istore_n 1, 1) := by decide +kernel
theorem dX2_standing_24 : decode cX2_standing 24 = .ok (.iinc 2 1, 3) := by decide +kernel
theorem dX2_standing_27 : decode cX2_standing 27 = .ok (.goto (-23), 3) := by decide +kernel
theorem dX2_standing_30 : decode cX2_standing 30 = .ok (.iload_n 1, 1) := by decide +kernel
theorem dX2_standing_31 : decode cX2_standing 31 = .ok (.ireturn, 1) := by decide +kernel
theorem dX2_howMany_0 : decode cX2_howMany 0 = .ok (.aload_n 0, 1) := by decide +kernel
theorem dX2_howMany_1 : decode cX2_howMany 1 = .ok (.invokevirtual 42, 3) := by decide +kernel
theorem dX2_howMany_4 : decode cX2_howMany 4 = .ok (.invokestatic 46, 3) := by decide +kernel
theorem dX2_howMany_7 : decode cX2_howMany 7 = .ok (.ireturn, 1) := by decide +kernel
theorem dX2_lowest_0 : decode cX2_lowest 0 = .ok (.iconst 0, 1) := by decide +kernel
theorem dX2_lowest_1 : decode cX2_lowest 1 = .ok (.istore_n 1, 1) := by decide +kernel
theorem dX2_lowest_2 : decode cX2_lowest 2 = .ok (.iload_n 1, 1) := by decide +kernel
theorem dX2_lowest_3 : decode cX2_lowest 3 = .ok (.bipush 6, 2) := by decide +kernel
theorem dX2_lowest_5 : decode cX2_lowest 5 = .ok (.if_icmp .ge 19, 3) := by decide +kernel
theorem dX2_lowest_8 : decode cX2_lowest 8 = .ok (.aload_n 0, 1) := by decide +kernel
theorem dX2_lowest_9 : decode cX2_lowest 9 = .ok (.iload_n 1, 1) := by decide +kernel
theorem dX2_lowest_10 : decode cX2_lowest 10 = .ok (.invokevirtual 38, 3) := by decide +kernel
theorem dX2_lowest_13 : decode cX2_lowest 13 = .ok (.ifCond .eq 5, 3) := by decide +kernel
theorem dX2_lowest_16 : decode cX2_lowest 16 = .ok (.iload_n 1, 1) := by decide +kernel
theorem dX2_lowest_17 : decode cX2_lowest 17 = .ok (.ireturn, 1) := by decide +kernel
theorem dX2_lowest_18 : decode cX2_lowest 18 = .ok (.iinc 1 1, 3) := by decide +kernel
theorem dX2_lowest_21 : decode cX2_lowest 21 = .ok (.goto (-19), 3) := by decide +kernel
theorem dX2_lowest_24 : decode cX2_lowest 24 = .ok (.bipush (-9), 2) := by decide +kernel
theorem dX2_lowest_26 : decode cX2_lowest 26 = .ok (.ireturn, 1) := by decide +kernel
theorem dX2_allSpins_0 : decode cX2_allSpins 0 = .ok (.iconst 0, 1) := by decide +kernel
theorem dX2_allSpins_1 : decode cX2_allSpins 1 = .ok (.istore_n 1, 1) := by decide +kernel
theorem dX2_allSpins_2 : decode cX2_allSpins 2 = .ok (.iconst 0, 1) := by decide +kernel
theorem dX2_allSpins_3 : decode cX2_allSpins 3 = .ok (.istore_n 2, 1) := by decide +kernel
theorem dX2_allSpins_4 : decode cX2_allSpins 4 = .ok (.iload_n 2, 1) := by decide +kernel
theorem dX2_allSpins_5 : decode cX2_allSpins 5 = .ok (.bipush 6, 2) := by decide +kernel
theorem dX2_allSpins_7 : decode cX2_allSpins 7 = .ok (.if_icmp .ge 18, 3) := by decide +kernel
theorem dX2_allSpins_10 : decode cX2_allSpins 10 = .ok (.iload_n 1, 1) := by decide +kernel
theorem dX2_allSpins_11 : decode cX2_allSpins 11 = .ok (.aload_n 0, 1) := by decide +kernel
theorem dX2_allSpins_12 : decode cX2_allSpins 12 = .ok (.getfield 15, 3) := by decide +kernel
theorem dX2_allSpins_15 : decode cX2_allSpins 15 = .ok (.iload_n 2, 1) := by decide +kernel
theorem dX2_allSpins_16 : decode cX2_allSpins 16 = .ok (.iaload, 1) := by decide +kernel
theorem dX2_allSpins_17 : decode cX2_allSpins 17 = .ok (.iadd, 1) := by decide +kernel
theorem dX2_allSpins_18 : decode cX2_allSpins 18 = .ok (.istore_n 1, 1) := by decide +kernel
theorem dX2_allSpins_19 : decode cX2_allSpins 19 = .ok (.iinc 2 1, 3) := by decide +kernel
theorem dX2_allSpins_22 : decode cX2_allSpins 22 = .ok (.goto (-18), 3) := by decide +kernel
theorem dX2_allSpins_25 : decode cX2_allSpins 25 = .ok (.iload_n 1, 1) := by decide +kernel
theorem dX2_allSpins_26 : decode cX2_allSpins 26 = .ok (.ireturn, 1) := by decide +kernel
theorem dX2_whipped_0 : decode cX2_whipped 0 = .ok (.aload_n 0, 1) := by decide +kernel
theorem dX2_whipped_1 : decode cX2_whipped 1 = .ok (.getfield 15, 3) := by decide +kernel
theorem dX2_whipped_4 : decode cX2_whipped 4 = .ok (.iload_n 1, 1) := by decide +kernel
theorem dX2_whipped_5 : decode cX2_whipped 5 = .ok (.bipush 60, 2) := by decide +kernel
theorem dX2_whipped_7 : decode cX2_whipped 7 = .ok (.aload_n 0, 1) := by decide +kernel
theorem dX2_whipped_8 : decode cX2_whipped 8 = .ok (.getfield 15, 3) := by decide +kernel
theorem dX2_whipped_11 : decode cX2_whipped 11 = .ok (.iload_n 1, 1) := by decide +kernel
theorem dX2_whipped_12 : decode cX2_whipped 12 = .ok (.iaload, 1) := by decide +kernel
theorem dX2_whipped_13 : decode cX2_whipped 13 = .ok (.iload_n 2, 1) := by decide +kernel
theorem dX2_whipped_14 : decode cX2_whipped 14 = .ok (.iadd, 1) := by decide +kernel
theorem dX2_whipped_15 : decode cX2_whipped 15 = .ok (.invokestatic 52, 3) := by decide +kernel
theorem dX2_whipped_18 : decode cX2_whipped 18 = .ok (.iastore, 1) := by decide +kernel
theorem dX2_whipped_19 : decode cX2_whipped 19 = .ok (.return_, 1) := by decide +kernel
theorem dX2_spins_0 : decode cX2_spins 0 = .ok (.iload_n 2, 1) := by decide +kernel
theorem dX2_spins_1 : decode cX2_spins 1 = .ok (.ifCond .le 13, 3) := by decide +kernel
theorem dX2_spins_4 : decode cX2_spins 4 = .ok (.aload_n 0, 1) := by decide +kernel
theorem dX2_spins_5 : decode cX2_spins 5 = .ok (.getfield 15, 3) := by decide +kernel
theorem dX2_spins_8 : decode cX2_spins 8 = .ok (.iload_n 1, 1) := by decide +kernel
theorem dX2_spins_9 : decode cX2_spins 9 = .ok (.iload_n 2, 1) := by decide +kernel
theorem dX2_spins_10 : decode cX2_spins 10 = .ok (.iastore, 1) := by decide +kernel
theorem dX2_spins_11 : decode cX2_spins 11 = .ok (.goto 18, 3) := by decide +kernel
theorem dX2_spins_14 : decode cX2_spins 14 = .ok (.aload_n 0, 1) := by decide +kernel
theorem dX2_spins_15 : decode cX2_spins 15 = .ok (.getfield 15, 3) := by decide +kernel
theorem dX2_spins_18 : decode cX2_spins 18 = .ok (.iload_n 1, 1) := by decide +kernel
theorem dX2_spins_19 : decode cX2_spins 19 = .ok (.iconst 0, 1) := by decide +kernel
theorem dX2_spins_20 : decode cX2_spins 20 = .ok (.iastore, 1) := by decide +kernel
theorem dX2_spins_21 : decode cX2_spins 21 = .ok (.aload_n 0, 1) := by decide +kernel
theorem dX2_spins_22 : decode cX2_spins 22 = .ok (.getfield 9, 3) := by decide +kernel
theorem dX2_spins_25 : decode cX2_spins 25 = .ok (.iload_n 1, 1) := by decide +kernel
theorem dX2_spins_26 : decode cX2_spins 26 = .ok (.bipush (-9), 2) := by decide +kernel
theorem dX2_spins_28 : decode cX2_spins 28 = .ok (.iastore, 1) := by decide +kernel
theorem dX2_spins_29 : decode cX2_spins 29 = .ok (.return_, 1) := by decide +kernel
theorem dX2_goBy_0 : decode cX2_goBy 0 = .ok (.aload_n 0, 1) := by decide +kernel
theorem dX2_goBy_1 : decode cX2_goBy 1 = .ok (.invokevirtual 58, 3) := by decide +kernel
theorem dX2_goBy_4 : decode cX2_goBy 4 = .ok (.istore_n 3, 1) := by decide +kernel
theorem dX2_goBy_5 : decode cX2_goBy 5 = .ok (.iconst 0, 1) := by decide +kernel
theorem dX2_goBy_6 : decode cX2_goBy 6 = .ok (.istore 4, 2) := by decide +kernel
theorem dX2_goBy_8 : decode cX2_goBy 8 = .ok (.iload 4, 2) := by decide +kernel
theorem dX2_goBy_10 : decode cX2_goBy 10 = .ok (.iload_n 2, 1) := by decide +kernel
theorem dX2_goBy_11 : decode cX2_goBy 11 = .ok (.if_icmp .ge 36, 3) := by decide +kernel
theorem dX2_goBy_14 : decode cX2_goBy 14 = .ok (.aload_n 0, 1) := by decide +kernel
theorem dX2_goBy_15 : decode cX2_goBy 15 = .ok (.dup, 1) := by decide +kernel
theorem dX2_goBy_16 : decode cX2_goBy 16 = .ok (.getfield 18, 3) := by decide +kernel
theorem dX2_goBy_19 : decode cX2_goBy 19 = .ok (.iconst 1, 1) := by decide +kernel
theorem dX2_goBy_20 : decode cX2_goBy 20 = .ok (.iadd, 1) := by decide +kernel
theorem dX2_goBy_21 : decode cX2_goBy 21 = .ok (.putfield 18, 3) := by decide +kernel
theorem dX2_goBy_24 : decode cX2_goBy 24 = .ok (.aload_n 0, 1) := by decide +kernel
theorem dX2_goBy_25 : decode cX2_goBy 25 = .ok (.aload_n 1, 1) := by decide +kernel
theorem dX2_goBy_26 : decode cX2_goBy 26 = .ok (.invokevirtual 61, 3) := by decide +kernel
theorem dX2_goBy_29 : decode cX2_goBy 29 = .ok (.aload_n 0, 1) := by decide +kernel
theorem dX2_goBy_30 : decode cX2_goBy 30 = .ok (.getfield 22, 3) := by decide +kernel
theorem dX2_goBy_33 : decode cX2_goBy 33 = .ok (.ifCond .eq 8, 3) := by decide +kernel
theorem dX2_goBy_36 : decode cX2_goBy 36 = .ok (.aload_n 0, 1) := by decide +kernel
theorem dX2_goBy_37 : decode cX2_goBy 37 = .ok (.aload_n 1, 1) := by decide +kernel
theorem dX2_goBy_38 : decode cX2_goBy 38 = .ok (.invokevirtual 65, 3) := by decide +kernel
theorem dX2_goBy_41 : decode cX2_goBy 41 = .ok (.iinc 4 1, 3) := by decide +kernel
theorem dX2_goBy_44 : decode cX2_goBy 44 = .ok (.goto (-36), 3) := by decide +kernel
theorem dX2_goBy_47 : decode cX2_goBy 47 = .ok (.iload_n 3, 1) := by decide +kernel
theorem dX2_goBy_48 : decode cX2_goBy 48 = .ok (.aload_n 0, 1) := by decide +kernel
theorem dX2_goBy_49 : decode cX2_goBy 49 = .ok (.invokevirtual 58, 3) := by decide +kernel
theorem dX2_goBy_52 : decode cX2_goBy 52 = .ok (.isub, 1) := by decide +kernel
theorem dX2_goBy_53 : decode cX2_goBy 53 = .ok (.ireturn, 1) := by decide +kernel
theorem dX2_slowDown_0 : decode cX2_slowDown 0 = .ok (.iconst 0, 1) := by decide +kernel
theorem dX2_slowDown_1 : decode cX2_slowDown 1 = .ok (.istore_n 2, 1) := by decide +kernel
theorem dX2_slowDown_2 : decode cX2_slowDown 2 = .ok (.iload_n 2, 1) := by decide +kernel
theorem dX2_slowDown_3 : decode cX2_slowDown 3 = .ok (.bipush 6, 2) := by decide +kernel
theorem dX2_slowDown_5 : decode cX2_slowDown 5 = .ok (.if_icmp .ge 35, 3) := by decide +kernel
theorem dX2_slowDown_8 : decode cX2_slowDown 8 = .ok (.aload_n 0, 1) := by decide +kernel
theorem dX2_slowDown_9 : decode cX2_slowDown 9 = .ok (.iload_n 2, 1) := by decide +kernel
theorem dX2_slowDown_10 : decode cX2_slowDown 10 = .ok (.invokevirtual 38, 3) := by decide +kernel
theorem dX2_slowDown_13 : decode cX2_slowDown 13 = .ok (.ifCond .eq 21, 3) := by decide +kernel
theorem dX2_slowDown_16 : decode cX2_slowDown 16 = .ok (.aload_n 0, 1) := by decide +kernel
theorem dX2_slowDown_17 : decode cX2_slowDown 17 = .ok (.iload_n 2, 1) := by decide +kernel
theorem dX2_slowDown_18 : decode cX2_slowDown 18 = .ok (.aload_n 0, 1) := by decide +kernel
theorem dX2_slowDown_19 : decode cX2_slowDown 19 = .ok (.getfield 15, 3) := by decide +kernel
theorem dX2_slowDown_22 : decode cX2_slowDown 22 = .ok (.iload_n 2, 1) := by decide +kernel
theorem dX2_slowDown_23 : decode cX2_slowDown 23 = .ok (.iaload, 1) := by decide +kernel
theorem dX2_slowDown_24 : decode cX2_slowDown 24 = .ok (.aload_n 1, 1) := by decide +kernel
theorem dX2_slowDown_25 : decode cX2_slowDown 25 = .ok (.getfield 68, 3) := by decide +kernel
theorem dX2_slowDown_28 : decode cX2_slowDown 28 = .ok (.iload_n 2, 1) := by decide +kernel
theorem dX2_slowDown_29 : decode cX2_slowDown 29 = .ok (.iaload, 1) := by decide +kernel
theorem dX2_slowDown_30 : decode cX2_slowDown 30 = .ok (.isub, 1) := by decide +kernel
theorem dX2_slowDown_31 : decode cX2_slowDown 31 = .ok (.invokevirtual 28, 3) := by decide +kernel
theorem dX2_slowDown_34 : decode cX2_slowDown 34 = .ok (.iinc 2 1, 3) := by decide +kernel
theorem dX2_slowDown_37 : decode cX2_slowDown 37 = .ok (.goto (-35), 3) := by decide +kernel
theorem dX2_slowDown_40 : decode cX2_slowDown 40 = .ok (.return_, 1) := by decide +kernel
theorem dX2_wander_0 : decode cX2_wander 0 = .ok (.iconst 0, 1) := by decide +kernel
theorem dX2_wander_1 : decode cX2_wander 1 = .ok (.istore_n 2, 1) := by decide +kernel
theorem dX2_wander_2 : decode cX2_wander 2 = .ok (.iload_n 2, 1) := by decide +kernel
theorem dX2_wander_3 : decode cX2_wander 3 = .ok (.bipush 6, 2) := by decide +kernel
theorem dX2_wander_5 : decode cX2_wander 5 = .ok (.if_icmp .ge 84, 3) := by decide +kernel
theorem dX2_wander_8 : decode cX2_wander 8 = .ok (.aload_n 0, 1) := by decide +kernel
theorem dX2_wander_9 : decode cX2_wander 9 = .ok (.iload_n 2, 1) := by decide +kernel
theorem dX2_wander_10 : decode cX2_wander 10 = .ok (.invokevirtual 38, 3) := by decide +kernel
theorem dX2_wander_13 : decode cX2_wander 13 = .ok (.ifCond .eq 70, 3) := by decide +kernel
theorem dX2_wander_16 : decode cX2_wander 16 = .ok (.aload_n 0, 1) := by decide +kernel
theorem dX2_wander_17 : decode cX2_wander 17 = .ok (.getfield 15, 3) := by decide +kernel
theorem dX2_wander_20 : decode cX2_wander 20 = .ok (.iload_n 2, 1) := by decide +kernel
theorem dX2_wander_21 : decode cX2_wander 21 = .ok (.iaload, 1) := by decide +kernel
theorem dX2_wander_22 : decode cX2_wander 22 = .ok (.aload_n 1, 1) := by decide +kernel
theorem dX2_wander_23 : decode cX2_wander 23 = .ok (.getfield 73, 3) := by decide +kernel
theorem dX2_wander_26 : decode cX2_wander 26 = .ok (.if_icmp .le 6, 3) := by decide +kernel
theorem dX2_wander_29 : decode cX2_wander 29 = .ok (.goto 54, 3) := by decide +kernel
theorem dX2_wander_32 : decode cX2_wander 32 = .ok (.aload_n 0, 1) := by decide +kernel
theorem dX2_wander_33 : decode cX2_wander 33 = .ok (.aload_n 0, 1) := by decide +kernel
theorem dX2_wander_34 : decode cX2_wander 34 = .ok (.getfield 9, 3) := by decide +kernel
theorem dX2_wander_37 : decode cX2_wander 37 = .ok (.iload_n 2, 1) := by decide +kernel
theorem dX2_wander_38 : decode cX2_wander 38 = .ok (.iaload, 1) := by decide +kernel
theorem dX2_wander_39 : decode cX2_wander 39 = .ok (.aload_n 1, 1) := by decide +kernel
theorem dX2_wander_40 : decode cX2_wander 40 = .ok (.getfield 76, 3) := by decide +kernel
theorem dX2_wander_43 : decode cX2_wander 43 = .ok (.invokevirtual 79, 3) := by decide +kernel
theorem dX2_wander_46 : decode cX2_wander 46 = .ok (.istore_n 3, 1) := by decide +kernel
theorem dX2_wander_47 : decode cX2_wander 47 = .ok (.aload_n 0, 1) := by decide +kernel
theorem dX2_wander_48 : decode cX2_wander 48 = .ok (.iload_n 3, 1) := by decide +kernel
theorem dX2_wander_49 : decode cX2_wander 49 = .ok (.invokevirtual 82, 3) := by decide +kernel
theorem dX2_wander_52 : decode cX2_wander 52 = .ok (.istore 4, 2) := by decide +kernel
theorem dX2_wander_54 : decode cX2_wander 54 = .ok (.iload 4, 2) := by decide +kernel
theorem dX2_wander_56 : decode cX2_wander 56 = .ok (.bipush (-9), 2) := by decide +kernel
theorem dX2_wander_58 : decode cX2_wander 58 = .ok (.if_icmp .eq 10, 3) := by decide +kernel
theorem dX2_wander_61 : decode cX2_wander 61 = .ok (.aload_n 0, 1) := by decide +kernel
theorem dX2_wander_62 : decode cX2_wander 62 = .ok (.iload_n 2, 1) := by decide +kernel
theorem dX2_wander_63 : decode cX2_wander 63 = .ok (.iload 4, 2) := by decide +kernel
theorem dX2_wander_65 : decode cX2_wander 65 = .ok (.invokevirtual 85, 3) := by decide +kernel
theorem dX2_wander_68 : decode cX2_wander 68 = .ok (.aload_n 0, 1) := by decide +kernel
theorem dX2_wander_69 : decode cX2_wander 69 = .ok (.iload_n 2, 1) := by decide +kernel
theorem dX2_wander_70 : decode cX2_wander 70 = .ok (.invokevirtual 38, 3) := by decide +kernel
theorem dX2_wander_73 : decode cX2_wander 73 = .ok (.ifCond .eq 10, 3) := by decide +kernel
theorem dX2_wander_76 : decode cX2_wander 76 = .ok (.aload_n 0, 1) := by decide +kernel
theorem dX2_wander_77 : decode cX2_wander 77 = .ok (.getfield 9, 3) := by decide +kernel
theorem dX2_wander_80 : decode cX2_wander 80 = .ok (.iload_n 2, 1) := by decide +kernel
theorem dX2_wander_81 : decode cX2_wander 81 = .ok (.iload_n 3, 1) := by decide +kernel
theorem dX2_wander_82 : decode cX2_wander 82 = .ok (.iastore, 1) := by decide +kernel
theorem dX2_wander_83 : decode cX2_wander 83 = .ok (.iinc 2 1, 3) := by decide +kernel
theorem dX2_wander_86 : decode cX2_wander 86 = .ok (.goto (-84), 3) := by decide +kernel
theorem dX2_wander_89 : decode cX2_wander 89 = .ok (.return_, 1) := by decide +kernel
theorem dX2_neighbour_0 : decode cX2_neighbour 0 = .ok (.aload_n 0, 1) := by decide +kernel
theorem dX2_neighbour_1 : decode cX2_neighbour 1 = .ok (.getfield 22, 3) := by decide +kernel
theorem dX2_neighbour_4 : decode cX2_neighbour 4 = .ok (.iconst 1, 1) := by decide +kernel
theorem dX2_neighbour_5 : decode cX2_neighbour 5 = .ok (.if_icmp .ne 18, 3) := by decide +kernel
theorem dX2_neighbour_8 : decode cX2_neighbour 8 = .ok (.iload_n 1, 1) := by decide +kernel
theorem dX2_neighbour_9 : decode cX2_neighbour 9 = .ok (.iconst 1, 1) := by decide +kernel
theorem dX2_neighbour_10 : decode cX2_neighbour 10 = .ok (.iadd, 1) := by decide +kernel
theorem dX2_neighbour_11 : decode cX2_neighbour 11 = .ok (.iload_n 2, 1) := by decide +kernel
theorem dX2_neighbour_12 : decode cX2_neighbour 12 = .ok (.if_icmp .ge 9, 3) := by decide +kernel
theorem dX2_neighbour_15 : decode cX2_neighbour 15 = .ok (.iload_n 1, 1) := by decide +kernel
theorem dX2_neighbour_16 : decode cX2_neighbour 16 = .ok (.iconst 1, 1) := by decide +kernel
theorem dX2_neighbour_17 : decode cX2_neighbour 17 = .ok (.iadd, 1) := by decide +kernel
theorem dX2_neighbour_18 : decode cX2_neighbour 18 = .ok (.goto 4, 3) := by decide +kernel
theorem dX2_neighbour_21 : decode cX2_neighbour 21 = .ok (.iconst 0, 1) := by decide +kernel
theorem dX2_neighbour_22 : decode cX2_neighbour 22 = .ok (.ireturn, 1) := by decide +kernel
theorem dX2_neighbour_23 : decode cX2_neighbour 23 = .ok (.iload_n 1, 1) := by decide +kernel
theorem dX2_neighbour_24 : decode cX2_neighbour 24 = .ok (.ifCond .le 9, 3) := by decide +kernel
theorem dX2_neighbour_27 : decode cX2_neighbour 27 = .ok (.iload_n 1, 1) := by decide +kernel
theorem dX2_neighbour_28 : decode cX2_neighbour 28 = .ok (.iconst 1, 1) := by decide +kernel
theorem dX2_neighbour_29 : decode cX2_neighbour 29 = .ok (.isub, 1) := by decide +kernel
theorem dX2_neighbour_30 : decode cX2_neighbour 30 = .ok (.goto 6, 3) := by decide +kernel
theorem dX2_neighbour_33 : decode cX2_neighbour 33 = .ok (.iload_n 2, 1) := by decide +kernel
theorem dX2_neighbour_34 : decode cX2_neighbour 34 = .ok (.iconst 1, 1) := by decide +kernel
theorem dX2_neighbour_35 : decode cX2_neighbour 35 = .ok (.isub, 1) := by decide +kernel
theorem dX2_neighbour_36 : decode cX2_neighbour 36 = .ok (.ireturn, 1) := by decide +kernel
theorem dX2_meet_0 : decode cX2_meet 0 = .ok (.aload_n 0, 1) := by decide +kernel
theorem dX2_meet_1 : decode cX2_meet 1 = .ok (.getfield 15, 3) := by decide +kernel
theorem dX2_meet_4 : decode cX2_meet 4 = .ok (.iload_n 1, 1) := by decide +kernel
theorem dX2_meet_5 : decode cX2_meet 5 = .ok (.iaload, 1) := by decide +kernel
theorem dX2_meet_6 : decode cX2_meet 6 = .ok (.aload_n 0, 1) := by decide +kernel
theorem dX2_meet_7 : decode cX2_meet 7 = .ok (.getfield 15, 3) := by decide +kernel
theorem dX2_meet_10 : decode cX2_meet 10 = .ok (.iload_n 2, 1) := by decide +kernel
theorem dX2_meet_11 : decode cX2_meet 11 = .ok (.iaload, 1) := by decide +kernel
theorem dX2_meet_12 : decode cX2_meet 12 = .ok (.if_icmp .le 7, 3) := by decide +kernel
theorem dX2_meet_15 : decode cX2_meet 15 = .ok (.iconst 1, 1) := by decide +kernel
theorem dX2_meet_16 : decode cX2_meet 16 = .ok (.goto 4, 3) := by decide +kernel
theorem dX2_meet_19 : decode cX2_meet 19 = .ok (.iconst 0, 1) := by decide +kernel
theorem dX2_meet_20 : decode cX2_meet 20 = .ok (.istore_n 3, 1) := by decide +kernel
theorem dX2_meet_21 : decode cX2_meet 21 = .ok (.iload_n 3, 1) := by decide +kernel
theorem dX2_meet_22 : decode cX2_meet 22 = .ok (.ifCond .eq 7, 3) := by decide +kernel
theorem dX2_meet_25 : decode cX2_meet 25 = .ok (.iload_n 1, 1) := by decide +kernel
theorem dX2_meet_26 : decode cX2_meet 26 = .ok (.goto 4, 3) := by decide +kernel
theorem dX2_meet_29 : decode cX2_meet 29 = .ok (.iload_n 2, 1) := by decide +kernel
theorem dX2_meet_30 : decode cX2_meet 30 = .ok (.istore 4, 2) := by decide +kernel
theorem dX2_meet_32 : decode cX2_meet 32 = .ok (.aload_n 0, 1) := by decide +kernel
theorem dX2_meet_33 : decode cX2_meet 33 = .ok (.iload_n 3, 1) := by decide +kernel
theorem dX2_meet_34 : decode cX2_meet 34 = .ok (.ifCond .eq 7, 3) := by decide +kernel
theorem dX2_meet_37 : decode cX2_meet 37 = .ok (.iload_n 2, 1) := by decide +kernel
theorem dX2_meet_38 : decode cX2_meet 38 = .ok (.goto 4, 3) := by decide +kernel
theorem dX2_meet_41 : decode cX2_meet 41 = .ok (.iload_n 1, 1) := by decide +kernel
theorem dX2_meet_42 : decode cX2_meet 42 = .ok (.iconst 0, 1) := by decide +kernel
theorem dX2_meet_43 : decode cX2_meet 43 = .ok (.invokevirtual 28, 3) := by decide +kernel
theorem dX2_meet_46 : decode cX2_meet 46 = .ok (.aload_n 0, 1) := by decide +kernel
theorem dX2_meet_47 : decode cX2_meet 47 = .ok (.iload 4, 2) := by decide +kernel
theorem dX2_meet_49 : decode cX2_meet 49 = .ok (.aload_n 0, 1) := by decide +kernel
theorem dX2_meet_50 : decode cX2_meet 50 = .ok (.getfield 15, 3) := by decide +kernel
theorem dX2_meet_53 : decode cX2_meet 53 = .ok (.iload 4, 2) := by decide +kernel
theorem dX2_meet_55 : decode cX2_meet 55 = .ok (.iaload, 1) := by decide +kernel
theorem dX2_meet_56 : decode cX2_meet 56 = .ok (.iconst 5, 1) := by decide +kernel
theorem dX2_meet_57 : decode cX2_meet 57 = .ok (.isub, 1) := by decide +kernel
theorem dX2_meet_58 : decode cX2_meet 58 = .ok (.invokevirtual 28, 3) := by decide +kernel
theorem dX2_meet_61 : decode cX2_meet 61 = .ok (.return_, 1) := by decide +kernel
theorem dX3_init_0 : decode cX3_init 0 = .ok (.aload_n 0, 1) := by decide +kernel
theorem dX3_init_1 : decode cX3_init 1 = .ok (.invokespecial 3, 3) := by decide +kernel
theorem dX3_init_4 : decode cX3_init 4 = .ok (.aload_n 0, 1) := by decide +kernel
theorem dX3_init_5 : decode cX3_init 5 = .ok (.bipush 10, 2) := by decide +kernel
theorem dX3_init_7 : decode cX3_init 7 = .ok (.anewarray 9, 3) := by decide +kernel
theorem dX3_init_10 : decode cX3_init 10 = .ok (.putfield 11, 3) := by decide +kernel
theorem dX3_init_13 : decode cX3_init 13 = .ok (.aload_n 0, 1) := by decide +kernel
theorem dX3_init_14 : decode cX3_init 14 = .ok (.iconst 0, 1) := by decide +kernel
theorem dX3_init_15 : decode cX3_init 15 = .ok (.putfield 17, 3) := by decide +kernel
theorem dX3_init_18 : decode cX3_init 18 = .ok (.aload_n 0, 1) := by decide +kernel
theorem dX3_init_19 : decode cX3_init 19 = .ok (.iconst 0, 1) := by decide +kernel
theorem dX3_init_20 : decode cX3_init 20 = .ok (.putfield 21, 3) := by decide +kernel
theorem dX3_init_23 : decode cX3_init 23 = .ok (.iconst 0, 1) := by decide +kernel
theorem dX3_init_24 : decode cX3_init 24 = .ok (.istore_n 1, 1) := by decide +kernel
theorem dX3_init_25 : decode cX3_init 25 = .ok (.iload_n 1, 1) := by decide +kernel
theorem dX3_init_26 : decode cX3_init 26 = .ok (.bipush 10, 2) := by decide +kernel
theorem dX3_init_28 : decode cX3_init 28 = .ok (.if_icmp .ge 22, 3) := by decide +kernel
theorem dX3_init_31 : decode cX3_init 31 = .ok (.aload_n 0, 1) := by decide +kernel
theorem dX3_init_32 : decode cX3_init 32 = .ok (.getfield 11, 3) := by decide +kernel
theorem dX3_init_35 : decode cX3_init 35 = .ok (.iload_n 1, 1) := by decide +kernel
theorem dX3_init_36 : decode cX3_init 36 = .ok (.new 9, 3) := by decide +kernel
theorem dX3_init_39 : decode cX3_init 39 = .ok (.dup, 1) := by decide +kernel
theorem dX3_init_40 : decode cX3_init 40 = .ok (.invokespecial 24, 3) := by decide +kernel
theorem dX3_init_43 : decode cX3_init 43 = .ok (.aastore, 1) := by decide +kernel
theorem dX3_init_44 : decode cX3_init 44 = .ok (.iinc 1 1, 3) := by decide +kernel
theorem dX3_init_47 : decode cX3_init 47 = .ok (.goto (-22), 3) := by decide +kernel
theorem dX3_init_50 : decode cX3_init 50 = .ok (.return_, 1) := by decide +kernel
theorem dX3_remember_0 : decode cX3_remember 0 = .ok (.aload_n 0, 1) := by decide +kernel
theorem dX3_remember_1 : decode cX3_remember 1 = .ok (.getfield 11, 3) := by decide +kernel
theorem dX3_remember_4 : decode cX3_remember 4 = .ok (.aload_n 0, 1) := by decide +kernel
theorem dX3_remember_5 : decode cX3_remember 5 = .ok (.getfield 17, 3) := by decide +kernel
theorem dX3_remember_8 : decode cX3_remember 8 = .ok (.aaload, 1) := by decide +kernel
theorem dX3_remember_9 : decode cX3_remember 9 = .ok (.aload_n 1, 1) := by decide +kernel
theorem dX3_remember_10 : decode cX3_remember 10 = .ok (.invokevirtual 25, 3) := by decide +kernel
theorem dX3_remember_13 : decode cX3_remember 13 = .ok (.aload_n 0, 1) := by decide +kernel
theorem dX3_remember_14 : decode cX3_remember 14 = .ok (.aload_n 0, 1) := by decide +kernel
theorem dX3_remember_15 : decode cX3_remember 15 = .ok (.getfield 17, 3) := by decide +kernel
theorem dX3_remember_18 : decode cX3_remember 18 = .ok (.iconst 1, 1) := by decide +kernel
theorem dX3_remember_19 : decode cX3_remember 19 = .ok (.iadd, 1) := by decide +kernel
theorem dX3_remember_20 : decode cX3_remember 20 = .ok (.bipush 10, 2) := by decide +kernel
theorem dX3_remember_22 : decode cX3_remember 22 = .ok (.if_icmp .ge 12, 3) := by decide +kernel
theorem dX3_remember_25 : decode cX3_remember 25 = .ok (.aload_n 0, 1) := by decide +kernel
theorem dX3_remember_26 : decode cX3_remember 26 = .ok (.getfield 17, 3) := by decide +kernel
theorem dX3_remember_29 : decode cX3_remember 29 = .ok (.iconst 1, 1) := by decide +kernel
theorem dX3_remember_30 : decode cX3_remember 30 = .ok (.iadd, 1) := by decide +kernel
theorem dX3_remember_31 : decode cX3_remember 31 = .ok (.goto 4, 3) := by decide +kernel
theorem dX3_remember_34 : decode cX3_remember 34 = .ok (.iconst 0, 1) := by decide +kernel
theorem dX3_remember_35 : decode cX3_remember 35 = .ok (.putfield 17, 3) := by decide +kernel
theorem dX3_remember_38 : decode cX3_remember 38 = .ok (.aload_n 0, 1) := by decide +kernel
theorem dX3_remember_39 : decode cX3_remember 39 = .ok (.bipush 10, 2) := by decide +kernel
theorem dX3_remember_41 : decode cX3_remember 41 = .ok (.aload_n 0, 1) := by decide +kernel
theorem dX3_remember_42 : decode cX3_remember 42 = .ok (.getfield 21, 3) := by decide +kernel
theorem dX3_remember_45 : decode cX3_remember 45 = .ok (.iconst 1, 1) := by decide +kernel
theorem dX3_remember_46 : decode cX3_remember 46 = .ok (.iadd, 1) := by decide +kernel
theorem dX3_remember_47 : decode cX3_remember 47 = .ok (.invokestatic 29, 3) := by decide +kernel
theorem dX3_remember_50 : decode cX3_remember 50 = .ok (.putfield 21, 3) := by decide +kernel
theorem dX3_remember_53 : decode cX3_remember 53 = .ok (.return_, 1) := by decide +kernel
theorem dX3_recall_0 : decode cX3_recall 0 = .ok (.aload_n 0, 1) := by decide +kernel
theorem dX3_recall_1 : decode cX3_recall 1 = .ok (.getfield 21, 3) := by decide +kernel
theorem dX3_recall_4 : decode cX3_recall 4 = .ok (.ifCond .ne 5, 3) := by decide +kernel
theorem dX3_recall_7 : decode cX3_recall 7 = .ok (.iconst 0, 1) := by decide +kernel
theorem dX3_recall_8 : decode cX3_recall 8 = .ok (.ireturn, 1) := by decide +kernel
theorem dX3_recall_9 : decode cX3_recall 9 = .ok (.aload_n 0, 1) := by decide +kernel
theorem dX3_recall_10 : decode cX3_recall 10 = .ok (.aload_n 0, 1) := by decide +kernel
theorem dX3_recall_11 : decode cX3_recall 11 = .ok (.getfield 17, 3) := by decide +kernel
theorem dX3_recall_14 : decode cX3_recall 14 = .ok (.ifCond .le 12, 3) := by decide +kernel
theorem dX3_recall_17 : decode cX3_recall 17 = .ok (.aload_n 0, 1) := by decide +kernel
theorem dX3_recall_18 : decode cX3_recall 18 = .ok (.getfield 17, 3) := by decide +kernel
theorem dX3_recall_21 : decode cX3_recall 21 = .ok (.iconst 1, 1) := by decide +kernel
theorem dX3_recall_22 : decode cX3_recall 22 = .ok (.isub, 1) := by decide +kernel
theorem dX3_recall_23 : decode cX3_recall 23 = .ok (.goto 5, 3) := by decide +kernel
theorem dX3_recall_26 : decode cX3_recall 26 = .ok (.bipush 9, 2) := by decide +kernel
theorem dX3_recall_28 : decode cX3_recall 28 = .ok (.putfield 17, 3) := by decide +kernel
theorem dX3_recall_31 : decode cX3_recall 31 = .ok (.aload_n 1, 1) := by decide +kernel
theorem dX3_recall_32 : decode cX3_recall 32 = .ok (.aload_n 0, 1) := by decide +kernel
theorem dX3_recall_33 : decode cX3_recall 33 = .ok (.getfield 11, 3) := by decide +kernel
theorem dX3_recall_36 : decode cX3_recall 36 = .ok (.aload_n 0, 1) := by decide +kernel
theorem dX3_recall_37 : decode cX3_recall 37 = .ok (.getfield 17, 3) := by decide +kernel
theorem dX3_recall_40 : decode cX3_recall 40 = .ok (.aaload, 1) := by decide +kernel
theorem dX3_recall_41 : decode cX3_recall 41 = .ok (.invokevirtual 25, 3) := by decide +kernel
theorem dX3_recall_44 : decode cX3_recall 44 = .ok (.aload_n 0, 1) := by decide +kernel
theorem dX3_recall_45 : decode cX3_recall 45 = .ok (.dup, 1) := by decide +kernel
theorem dX3_recall_46 : decode cX3_recall 46 = .ok (.getfield 21, 3) := by decide +kernel
theorem dX3_recall_49 : decode cX3_recall 49 = .ok (.iconst 1, 1) := by decide +kernel
theorem dX3_recall_50 : decode cX3_recall 50 = .ok (.isub, 1) := by decide +kernel
theorem dX3_recall_51 : decode cX3_recall 51 = .ok (.putfield 21, 3) := by decide +kernel
theorem dX3_recall_54 : decode cX3_recall 54 = .ok (.iconst 1, 1) := by decide +kernel
theorem dX3_recall_55 : decode cX3_recall 55 = .ok (.ireturn, 1) := by decide +kernel
theorem dJ6_bitCount_0f7a4_0 : decode cJ6_bitCount_0f7a4 0 = .ok (.iload_n 0, 1) := by decide +kernel
theorem dJ6_bitCount_0f7a4_1 : decode cJ6_bitCount_0f7a4 1 = .ok (.iload_n 0, 1) := by decide +kernel
theorem dJ6_bitCount_0f7a4_2 : decode cJ6_bitCount_0f7a4 2 = .ok (.iconst 1, 1) := by decide +kernel
theorem dJ6_bitCount_0f7a4_3 : decode cJ6_bitCount_0f7a4 3 = .ok (.iushr, 1) := by decide +kernel
theorem dJ6_bitCount_0f7a4_4 : decode cJ6_bitCount_0f7a4 4 = .ok (.ldc_w 265, 3) := by decide +kernel
theorem dJ6_bitCount_0f7a4_7 : decode cJ6_bitCount_0f7a4 7 = .ok (.iand, 1) := by decide +kernel
theorem dJ6_bitCount_0f7a4_8 : decode cJ6_bitCount_0f7a4 8 = .ok (.isub, 1) := by decide +kernel
theorem dJ6_bitCount_0f7a4_9 : decode cJ6_bitCount_0f7a4 9 = .ok (.istore_n 0, 1) := by decide +kernel
theorem dJ6_bitCount_0f7a4_10 : decode cJ6_bitCount_0f7a4 10 = .ok (.iload_n 0, 1) := by decide +kernel
theorem dJ6_bitCount_0f7a4_11 : decode cJ6_bitCount_0f7a4 11 = .ok (.ldc_w 266, 3) := by decide +kernel
theorem dJ6_bitCount_0f7a4_14 : decode cJ6_bitCount_0f7a4 14 = .ok (.iand, 1) := by decide +kernel
theorem dJ6_bitCount_0f7a4_15 : decode cJ6_bitCount_0f7a4 15 = .ok (.iload_n 0, 1) := by decide +kernel
theorem dJ6_bitCount_0f7a4_16 : decode cJ6_bitCount_0f7a4 16 = .ok (.iconst 2, 1) := by decide +kernel
theorem dJ6_bitCount_0f7a4_17 : decode cJ6_bitCount_0f7a4 17 = .ok (.iushr, 1) := by decide +kernel
theorem dJ6_bitCount_0f7a4_18 : decode cJ6_bitCount_0f7a4 18 = .ok (.ldc_w 266, 3) := by decide +kernel
theorem dJ6_bitCount_0f7a4_21 : decode cJ6_bitCount_0f7a4 21 = .ok (.iand, 1) := by decide +kernel
theorem dJ6_bitCount_0f7a4_22 : decode cJ6_bitCount_0f7a4 22 = .ok (.iadd, 1) := by decide +kernel
theorem dJ6_bitCount_0f7a4_23 : decode cJ6_bitCount_0f7a4 23 = .ok (.istore_n 0, 1) := by decide +kernel
theorem dJ6_bitCount_0f7a4_24 : decode cJ6_bitCount_0f7a4 24 = .ok (.iload_n 0, 1) := by decide +kernel
theorem dJ6_bitCount_0f7a4_25 : decode cJ6_bitCount_0f7a4 25 = .ok (.iload_n 0, 1) := by decide +kernel
theorem dJ6_bitCount_0f7a4_26 : decode cJ6_bitCount_0f7a4 26 = .ok (.iconst 4, 1) := by decide +kernel
theorem dJ6_bitCount_0f7a4_27 : decode cJ6_bitCount_0f7a4 27 = .ok (.iushr, 1) := by decide +kernel
theorem dJ6_bitCount_0f7a4_28 : decode cJ6_bitCount_0f7a4 28 = .ok (.iadd, 1) := by decide +kernel
theorem dJ6_bitCount_0f7a4_29 : decode cJ6_bitCount_0f7a4 29 = .ok (.ldc_w 267, 3) := by decide +kernel
theorem dJ6_bitCount_0f7a4_32 : decode cJ6_bitCount_0f7a4 32 = .ok (.iand, 1) := by decide +kernel
theorem dJ6_bitCount_0f7a4_33 : decode cJ6_bitCount_0f7a4 33 = .ok (.istore_n 0, 1) := by decide +kernel
theorem dJ6_bitCount_0f7a4_34 : decode cJ6_bitCount_0f7a4 34 = .ok (.iload_n 0, 1) := by decide +kernel
theorem dJ6_bitCount_0f7a4_35 : decode cJ6_bitCount_0f7a4 35 = .ok (.iload_n 0, 1) := by decide +kernel
theorem dJ6_bitCount_0f7a4_36 : decode cJ6_bitCount_0f7a4 36 = .ok (.bipush 8, 2) := by decide +kernel
theorem dJ6_bitCount_0f7a4_38 : decode cJ6_bitCount_0f7a4 38 = .ok (.iushr, 1) := by decide +kernel
theorem dJ6_bitCount_0f7a4_39 : decode cJ6_bitCount_0f7a4 39 = .ok (.iadd, 1) := by decide +kernel
theorem dJ6_bitCount_0f7a4_40 : decode cJ6_bitCount_0f7a4 40 = .ok (.istore_n 0, 1) := by decide +kernel
theorem dJ6_bitCount_0f7a4_41 : decode cJ6_bitCount_0f7a4 41 = .ok (.iload_n 0, 1) := by decide +kernel
theorem dJ6_bitCount_0f7a4_42 : decode cJ6_bitCount_0f7a4 42 = .ok (.iload_n 0, 1) := by decide +kernel
theorem dJ6_bitCount_0f7a4_43 : decode cJ6_bitCount_0f7a4 43 = .ok (.bipush 16, 2) := by decide +kernel
theorem dJ6_bitCount_0f7a4_45 : decode cJ6_bitCount_0f7a4 45 = .ok (.iushr, 1) := by decide +kernel
theorem dJ6_bitCount_0f7a4_46 : decode cJ6_bitCount_0f7a4 46 = .ok (.iadd, 1) := by decide +kernel
theorem dJ6_bitCount_0f7a4_47 : decode cJ6_bitCount_0f7a4 47 = .ok (.istore_n 0, 1) := by decide +kernel
theorem dJ6_bitCount_0f7a4_48 : decode cJ6_bitCount_0f7a4 48 = .ok (.iload_n 0, 1) := by decide +kernel
theorem dJ6_bitCount_0f7a4_49 : decode cJ6_bitCount_0f7a4 49 = .ok (.bipush 63, 2) := by decide +kernel
theorem dJ6_bitCount_0f7a4_51 : decode cJ6_bitCount_0f7a4 51 = .ok (.iand, 1) := by decide +kernel
theorem dJ6_bitCount_0f7a4_52 : decode cJ6_bitCount_0f7a4 52 = .ok (.ireturn, 1) := by decide +kernel
end
section
theorem dX4_init_0 : decode cX4_init 0 = .ok (.aload_n 0, 1) := by decide +kernel
theorem dX4_init_1 : decode cX4_init 1 = .ok (.invokespecial 3, 3) := by decide +kernel
theorem dX4_init_4 : decode cX4_init 4 = .ok (.aload_n 0, 1) := by decide +kernel
theorem dX4_init_5 : decode cX4_init 5 = .ok (.new 9, 3) := by decide +kernel
theorem dX4_init_8 : decode cX4_init 8 = .ok (.dup, 1) := by decide +kernel
theorem dX4_init_9 : decode cX4_init 9 = .ok (.invokespecial 11, 3) := by decide +kernel
theorem dX4_init_12 : decode cX4_init 12 = .ok (.putfield 12, 3) := by decide +kernel
theorem dX4_init_15 : decode cX4_init 15 = .ok (.aload_n 0, 1) := by decide +kernel
theorem dX4_init_16 : decode cX4_init 16 = .ok (.new 18, 3) := by decide +kernel
theorem dX4_init_19 : decode cX4_init 19 = .ok (.dup, 1) := by decide +kernel
theorem dX4_init_20 : decode cX4_init 20 = .ok (.invokespecial 20, 3) := by decide +kernel
theorem dX4_init_23 : decode cX4_init 23 = .ok (.putfield 21, 3) := by decide +kernel
theorem dX4_init_26 : decode cX4_init 26 = .ok (.aload_n 0, 1) := by decide +kernel
theorem dX4_init_27 : decode cX4_init 27 = .ok (.iconst 0, 1) := by decide +kernel
theorem dX4_init_28 : decode cX4_init 28 = .ok (.putfield 25, 3) := by decide +kernel
theorem dX4_init_31 : decode cX4_init 31 = .ok (.aload_n 0, 1) := by decide +kernel
theorem dX4_init_32 : decode cX4_init 32 = .ok (.iconst 0, 1) := by decide +kernel
theorem dX4_init_33 : decode cX4_init 33 = .ok (.putfield 29, 3) := by decide +kernel
theorem dX4_init_36 : decode cX4_init 36 = .ok (.aload_n 0, 1) := by decide +kernel
theorem dX4_init_37 : decode cX4_init 37 = .ok (.iconst (-1), 1) := by decide +kernel
theorem dX4_init_38 : decode cX4_init 38 = .ok (.putfield 33, 3) := by decide +kernel
theorem dX4_init_41 : decode cX4_init 41 = .ok (.aload_n 0, 1) := by decide +kernel
theorem dX4_init_42 : decode cX4_init 42 = .ok (.iconst 0, 1) := by decide +kernel
theorem dX4_init_43 : decode cX4_init 43 = .ok (.putfield 36, 3) := by decide +kernel
theorem dX4_init_46 : decode cX4_init 46 = .ok (.aload_n 0, 1) := by decide +kernel
theorem dX4_init_47 : decode cX4_init 47 = .ok (.iconst 0, 1) := by decide +kernel
theorem dX4_init_48 : decode cX4_init 48 = .ok (.putfield 39, 3) := by decide +kernel
theorem dX4_init_51 : decode cX4_init 51 = .ok (.aload_n 0, 1) := by decide +kernel
theorem dX4_init_52 : decode cX4_init 52 = .ok (.iconst 0, 1) := by decide +kernel
theorem dX4_init_53 : decode cX4_init 53 = .ok (.putfield 42, 3) := by decide +kernel
theorem dX4_init_56 : decode cX4_init 56 = .ok (.aload_n 0, 1) := by decide +kernel
theorem dX4_init_57 : decode cX4_init 57 = .ok (.aload_n 1, 1) := by decide +kernel
theorem dX4_init_58 : decode cX4_init 58 = .ok (.putfield 45, 3) := by decide +kernel
theorem dX4_init_61 : decode cX4_init 61 = .ok (.return_, 1) := by decide +kernel
theorem dX4_read_0 : decode cX4_read 0 = .ok (.aload_n 0, 1) := by decide +kernel
theorem dX4_read_1 : decode cX4_read 1 = .ok (.getfield 12, 3) := by decide +kernel
theorem dX4_read_4 : decode cX4_read 4 = .ok (.invokevirtual 49, 3) := by decide +kernel
theorem dX4_read_7 : decode cX4_read 7 = .ok (.aload_n 0, 1) := by decide +kernel
theorem dX4_read_8 : decode cX4_read 8 = .ok (.getfield 21, 3) := by decide +kernel
theorem dX4_read_11 : decode cX4_read 11 = .ok (.invokevirtual 52, 3) := by decide +kernel
theorem dX4_read_14 : decode cX4_read 14 = .ok (.aload_n 0, 1) := by decide +kernel
theorem dX4_read_15 : decode cX4_read 15 = .ok (.iconst 0, 1) := by decide +kernel
theorem dX4_read_16 : decode cX4_read 16 = .ok (.putfield 25, 3) := by decide +kernel
theorem dX4_read_19 : decode cX4_read 19 = .ok (.aload_n 0, 1) := by decide +kernel
theorem dX4_read_20 : decode cX4_read 20 = .ok (.iconst 0, 1) := by decide +kernel
theorem dX4_read_21 : decode cX4_read 21 = .ok (.putfield 29, 3) := by decide +kernel
theorem dX4_read_24 : decode cX4_read 24 = .ok (.aload_n 0, 1) := by decide +kernel
theorem dX4_read_25 : decode cX4_read 25 = .ok (.iconst 0, 1) := by decide +kernel
theorem dX4_read_26 : decode cX4_read 26 = .ok (.putfield 42, 3) := by decide +kernel
theorem dX4_read_29 : decode cX4_read 29 = .ok (.aload_n 0, 1) := by decide +kernel
theorem dX4_read_30 : decode cX4_read 30 = .ok (.invokevirtual 53, 3) := by decide +kernel
theorem dX4_read_33 : decode cX4_read 33 = .ok (.iconst 0, 1) := by decide +kernel
theorem dX4_read_34 : decode cX4_read 34 = .ok (.istore_n 1, 1) := by decide +kernel
theorem dX4_read_35 : decode cX4_read 35 = .ok (.iload_n 1, 1) := by decide +kernel
theorem dX4_read_36 : decode cX4_read 36 = .ok (.bipush 120, 2) := by decide +kernel
theorem dX4_read_38 : decode cX4_read 38 = .ok (.if_icmp .ge 156, 3) := by decide +kernel
theorem dX4_read_41 : decode cX4_read 41 = .ok (.aload_n 0, 1) := by decide +kernel
theorem dX4_read_42 : decode cX4_read 42 = .ok (.getfield 33, 3) := by decide +kernel
theorem dX4_read_45 : decode cX4_read 45 = .ok (.iconst (-1), 1) := by decide +kernel
theorem dX4_read_46 : decode cX4_read 46 = .ok (.if_icmp .eq 148, 3) := by decide +kernel
theorem dX4_read_49 : decode cX4_read 49 = .ok (.iconst 0, 1) := by decide +kernel
theorem dX4_read_50 : decode cX4_read 50 = .ok (.istore_n 2, 1) := by decide +kernel
theorem dX4_read_51 : decode cX4_read 51 = .ok (.aload_n 0, 1) := by decide +kernel
theorem dX4_read_52 : decode cX4_read 52 = .ok (.getfield 33, 3) := by decide +kernel
theorem dX4_read_55 : decode cX4_read 55 = .ok (.lookupswitch 107 #[(108, 84), (110, 33), (116, 56)], 33) := by decide +kernel
theorem dX4_read_88 : decode cX4_read 88 = .ok (.aload_n 0, 1) := by decide +kernel
theorem dX4_read_89 : decode cX4_read 89 = .ok (.getfield 25, 3) := by decide +kernel
theorem dX4_read_92 : decode cX4_read 92 = .ok (.ifCond .ne 14, 3) := by decide +kernel
theorem dX4_read_95 : decode cX4_read 95 = .ok (.aload_n 0, 1) := by decide +kernel
theorem dX4_read_96 : decode cX4_read 96 = .ok (.invokevirtual 56, 3) := by decide +kernel
theorem dX4_read_99 : decode cX4_read 99 = .ok (.ifCond .eq 7, 3) := by decide +kernel
theorem dX4_read_102 : decode cX4_read 102 = .ok (.iconst 1, 1) := by decide +kernel
theorem dX4_read_103 : decode cX4_read 103 = .ok (.goto 4, 3) := by decide +kernel
theorem dX4_read_106 : decode cX4_read 106 = .ok (.iconst 0, 1) := by decide +kernel
theorem dX4_read_107 : decode cX4_read 107 = .ok (.istore_n 2, 1) := by decide +kernel
theorem dX4_read_108 : decode cX4_read 108 = .ok (.goto 54, 3) := by decide +kernel
theorem dX4_read_111 : decode cX4_read 111 = .ok (.aload_n 0, 1) := by decide +kernel
theorem dX4_read_112 : decode cX4_read 112 = .ok (.getfield 12, 3) := by decide +kernel
theorem dX4_read_115 : decode cX4_read 115 = .ok (.getfield 60, 3) := by decide +kernel
theorem dX4_read_118 : decode cX4_read 118 = .ok (.bipush 6, 2) := by decide +kernel
theorem dX4_read_120 : decode cX4_read 120 = .ok (.if_icmp .ge 14, 3) := by decide +kernel
theorem dX4_read_123 : decode cX4_read 123 = .ok (.aload_n 0, 1) := by decide +kernel
theorem dX4_read_124 : decode cX4_read 124 = .ok (.invokevirtual 63, 3) := by decide +kernel
theorem dX4_read_127 : decode cX4_read 127 = .ok (.ifCond .eq 7, 3) := by decide +kernel
theorem dX4_read_130 : decode cX4_read 130 = .ok (.iconst 1, 1) := by decide +kernel
theorem dX4_read_131 : decode cX4_read 131 = .ok (.goto 4, 3) := by decide +kernel
theorem dX4_read_134 : decode cX4_read 134 = .ok (.iconst 0, 1) := by decide +kernel
theorem dX4_read_135 : decode cX4_read 135 = .ok (.istore_n 2, 1) := by decide +kernel
theorem dX4_read_136 : decode cX4_read 136 = .ok (.goto 26, 3) := by decide +kernel
theorem dX4_read_139 : decode cX4_read 139 = .ok (.aload_n 0, 1) := by decide +kernel
theorem dX4_read_140 : decode cX4_read 140 = .ok (.getfield 29, 3) := by decide +kernel
theorem dX4_read_143 : decode cX4_read 143 = .ok (.ifCond .ne 14, 3) := by decide +kernel
theorem dX4_read_146 : decode cX4_read 146 = .ok (.aload_n 0, 1) := by decide +kernel
theorem dX4_read_147 : decode cX4_read 147 = .ok (.invokevirtual 66, 3) := by decide +kernel
theorem dX4_read_150 : decode cX4_read 150 = .ok (.ifCond .eq 7, 3) := by decide +kernel
theorem dX4_read_153 : decode cX4_read 153 = .ok (.iconst 1, 1) := by decide +kernel
theorem dX4_read_154 : decode cX4_read 154 = .ok (.goto 4, 3) := by decide +kernel
theorem dX4_read_157 : decode cX4_read 157 = .ok (.iconst 0, 1) := by decide +kernel
theorem dX4_read_158 : decode cX4_read 158 = .ok (.istore_n 2, 1) := by decide +kernel
theorem dX4_read_159 : decode cX4_read 159 = .ok (.goto 3, 3) := by decide +kernel
theorem dX4_read_162 : decode cX4_read 162 = .ok (.iload_n 2, 1) := by decide +kernel
theorem dX4_read_163 : decode cX4_read 163 = .ok (.ifCond .ne 11, 3) := by decide +kernel
theorem dX4_read_166 : decode cX4_read 166 = .ok (.bipush (-10), 2) := by decide +kernel
theorem dX4_read_168 : decode cX4_read 168 = .ok (.aload_n 0, 1) := by decide +kernel
theorem dX4_read_169 : decode cX4_read 169 = .ok (.getfield 39, 3) := by decide +kernel
theorem dX4_read_172 : decode cX4_read 172 = .ok (.isub, 1) := by decide +kernel
theorem dX4_read_173 : decode cX4_read 173 = .ok (.ireturn, 1) := by decide +kernel
theorem dX4_read_174 : decode cX4_read 174 = .ok (.aload_n 0, 1) := by decide +kernel
theorem dX4_read_175 : decode cX4_read 175 = .ok (.dup, 1) := by decide +kernel
theorem dX4_read_176 : decode cX4_read 176 = .ok (.getfield 25, 3) := by decide +kernel
theorem dX4_read_179 : decode cX4_read 179 = .ok (.iconst 1, 1) := by decide +kernel
theorem dX4_read_180 : decode cX4_read 180 = .ok (.iadd, 1) := by decide +kernel
theorem dX4_read_181 : decode cX4_read 181 = .ok (.putfield 25, 3) := by decide +kernel
theorem dX4_read_184 : decode cX4_read 184 = .ok (.aload_n 0, 1) := by decide +kernel
theorem dX4_read_185 : decode cX4_read 185 = .ok (.invokevirtual 53, 3) := by decide +kernel
theorem dX4_read_188 : decode cX4_read 188 = .ok (.iinc 1 1, 3) := by decide +kernel
theorem dX4_read_191 : decode cX4_read 191 = .ok (.goto (-156), 3) := by decide +kernel
theorem dX4_read_194 : decode cX4_read 194 = .ok (.aload_n 0, 1) := by decide +kernel
theorem dX4_read_195 : decode cX4_read 195 = .ok (.getfield 25, 3) := by decide +kernel
theorem dX4_read_198 : decode cX4_read 198 = .ok (.ireturn, 1) := by decide +kernel
theorem dX4_readPlaces_0 : decode cX4_readPlaces 0 = .ok (.aload_n 0, 1) := by decide +kernel
theorem dX4_readPlaces_1 : decode cX4_readPlaces 1 = .ok (.iconst 4, 1) := by decide +kernel
theorem dX4_readPlaces_2 : decode cX4_readPlaces 2 = .ok (.bipush 10, 2) := by decide +kernel
theorem dX4_readPlaces_4 : decode cX4_readPlaces 4 = .ok (.invokevirtual 69, 3) := by decide +kernel
theorem dX4_readPlaces_7 : decode cX4_readPlaces 7 = .ok (.ifCond .ne 5, 3) := by decide +kernel
theorem dX4_readPlaces_10 : decode cX4_readPlaces 10 = .ok (.iconst 0, 1) := by decide +kernel
theorem dX4_readPlaces_11 : decode cX4_readPlaces 11 = .ok (.ireturn, 1) := by decide +kernel
theorem dX4_readPlaces_12 : decode cX4_readPlaces 12 = .ok (.aload_n 0, 1) := by decide +kernel
theorem dX4_readPlaces_13 : decode cX4_readPlaces 13 = .ok (.getfield 12, 3) := by decide +kernel
theorem dX4_readPlaces_16 : decode cX4_readPlaces 16 = .ok (.aload_n 0, 1) := by decide +kernel
theorem dX4_readPlaces_17 : decode cX4_readPlaces 17 = .ok (.getfield 36, 3) := by decide +kernel
theorem dX4_readPlaces_20 : decode cX4_readPlaces 20 = .ok (.putfield 73, 3) := by decide +kernel
theorem dX4_readPlaces_23 : decode cX4_readPlaces 23 = .ok (.aload_n 0, 1) := by decide +kernel
theorem dX4_readPlaces_24 : decode cX4_readPlaces 24 = .ok (.invokevirtual 76, 3) := by decide +kernel
theorem dX4_readPlaces_27 : decode cX4_readPlaces 27 = .ok (.ireturn, 1) := by decide +kernel
theorem dX4_readSlow_0 : decode cX4_readSlow 0 = .ok (.aload_n 0, 1) := by decide +kernel
theorem dX4_readSlow_1 : decode cX4_readSlow 1 = .ok (.iconst 0, 1) := by decide +kernel
theorem dX4_readSlow_2 : decode cX4_readSlow 2 = .ok (.bipush 30, 2) := by decide +kernel
theorem dX4_readSlow_4 : decode cX4_readSlow 4 = .ok (.invokevirtual 69, 3) := by decide +kernel
theorem dX4_readSlow_7 : decode cX4_readSlow 7 = .ok (.ifCond .ne 5, 3) := by decide +kernel
theorem dX4_readSlow_10 : decode cX4_readSlow 10 = .ok (.iconst 0, 1) := by decide +kernel
theorem dX4_readSlow_11 : decode cX4_readSlow 11 = .ok (.ireturn, 1) := by decide +kernel
theorem dX4_readSlow_12 : decode cX4_readSlow 12 = .ok (.aload_n 0, 1) := by decide +kernel
theorem dX4_readSlow_13 : decode cX4_readSlow 13 = .ok (.getfield 12, 3) := by decide +kernel
theorem dX4_readSlow_16 : decode cX4_readSlow 16 = .ok (.aload_n 0, 1) := by decide +kernel
theorem dX4_readSlow_17 : decode cX4_readSlow 17 = .ok (.getfield 36, 3) := by decide +kernel
theorem dX4_readSlow_20 : decode cX4_readSlow 20 = .ok (.putfield 79, 3) := by decide +kernel
theorem dX4_readSlow_23 : decode cX4_readSlow 23 = .ok (.aload_n 0, 1) := by decide +kernel
theorem dX4_readSlow_24 : decode cX4_readSlow 24 = .ok (.iconst 1, 1) := by decide +kernel
theorem dX4_readSlow_25 : decode cX4_readSlow 25 = .ok (.putfield 29, 3) := by decide +kernel
theorem dX4_readSlow_28 : decode cX4_readSlow 28 = .ok (.aload_n 0, 1) := by decide +kernel
theorem dX4_readSlow_29 : decode cX4_readSlow 29 = .ok (.invokevirtual 76, 3) := by decide +kernel
theorem dX4_readSlow_32 : decode cX4_readSlow 32 = .ok (.ireturn, 1) := by decide +kernel
theorem dX4_readTop_0 : decode cX4_readTop 0 = .ok (.aload_n 0, 1) := by decide +kernel
theorem dX4_readTop_1 : decode cX4_readTop 1 = .ok (.iconst 0, 1) := by decide +kernel
theorem dX4_readTop_2 : decode cX4_readTop 2 = .ok (.aload_n 0, 1) := by decide +kernel
theorem dX4_readTop_3 : decode cX4_readTop 3 = .ok (.getfield 12, 3) := by decide +kernel
theorem dX4_readTop_6 : decode cX4_readTop 6 = .ok (.getfield 73, 3) := by decide +kernel
theorem dX4_readTop_9 : decode cX4_readTop 9 = .ok (.iconst 1, 1) := by decide +kernel
theorem dX4_readTop_10 : decode cX4_readTop 10 = .ok (.isub, 1) := by decide +kernel
theorem dX4_readTop_11 : decode cX4_readTop 11 = .ok (.invokevirtual 69, 3) := by decide +kernel
theorem dX4_readTop_14 : decode cX4_readTop 14 = .ok (.ifCond .eq 19, 3) := by decide +kernel
theorem dX4_readTop_17 : decode cX4_readTop 17 = .ok (.aload_n 0, 1) := by decide +kernel
theorem dX4_readTop_18 : decode cX4_readTop 18 = .ok (.getfield 21, 3) := by decide +kernel
theorem dX4_readTop_21 : decode cX4_readTop 21 = .ok (.aload_n 0, 1) := by decide +kernel
theorem dX4_readTop_22 : decode cX4_readTop 22 = .ok (.getfield 36, 3) := by decide +kernel
theorem dX4_readTop_25 : decode cX4_readTop 25 = .ok (.invokevirtual 82, 3) := by decide +kernel
theorem dX4_readTop_28 : decode cX4_readTop 28 = .ok (.bipush (-9), 2) := by decide +kernel
theorem dX4_readTop_30 : decode cX4_readTop 30 = .ok (.if_icmp .eq 5, 3) := by decide +kernel
theorem dX4_readTop_33 : decode cX4_readTop 33 = .ok (.iconst 0, 1) := by decide +kernel
theorem dX4_readTop_34 : decode cX4_readTop 34 = .ok (.ireturn, 1) := by decide +kernel
theorem dX4_readTop_35 : decode cX4_readTop 35 = .ok (.aload_n 0, 1) := by decide +kernel
theorem dX4_readTop_36 : decode cX4_readTop 36 = .ok (.getfield 36, 3) := by decide +kernel
theorem dX4_readTop_39 : decode cX4_readTop 39 = .ok (.istore_n 1, 1) := by decide +kernel
theorem dX4_readTop_40 : decode cX4_readTop 40 = .ok (.aload_n 0, 1) := by decide +kernel
theorem dX4_readTop_41 : decode cX4_readTop 41 = .ok (.iconst 1, 1) := by decide +kernel
theorem dX4_readTop_42 : decode cX4_readTop 42 = .ok (.bipush 60, 2) := by decide +kernel
theorem dX4_readTop_44 : decode cX4_readTop 44 = .ok (.invokevirtual 69, 3) := by decide +kernel
theorem dX4_readTop_47 : decode cX4_readTop 47 = .ok (.ifCond .ne 5, 3) := by decide +kernel
theorem dX4_readTop_50 : decode cX4_readTop 50 = .ok (.iconst 0, 1) := by decide +kernel
theorem dX4_readTop_51 : decode cX4_readTop 51 = .ok (.ireturn, 1) := by decide +kernel
theorem dX4_readTop_52 : decode cX4_readTop 52 = .ok (.aload_n 0, 1) := by decide +kernel
theorem dX4_readTop_53 : decode cX4_readTop 53 = .ok (.getfield 36, 3) := by decide +kernel
theorem dX4_readTop_56 : decode cX4_readTop 56 = .ok (.istore_n 2, 1) := by decide +kernel
theorem dX4_readTop_57 : decode cX4_readTop 57 = .ok (.aload_n 0, 1) := by decide +kernel
theorem dX4_readTop_58 : decode cX4_readTop 58 = .ok (.iconst 1, 1) := by decide +kernel
theorem dX4_readTop_59 : decode cX4_readTop 59 = .ok (.bipush 9, 2) := by decide +kernel
theorem dX4_readTop_61 : decode cX4_readTop 61 = .ok (.invokevirtual 69, 3) := by decide +kernel
theorem dX4_readTop_64 : decode cX4_readTop 64 = .ok (.ifCond .ne 5, 3) := by decide +kernel
theorem dX4_readTop_67 : decode cX4_readTop 67 = .ok (.iconst 0, 1) := by decide +kernel
theorem dX4_readTop_68 : decode cX4_readTop 68 = .ok (.ireturn, 1) := by decide +kernel
theorem dX4_readTop_69 : decode cX4_readTop 69 = .ok (.aload_n 0, 1) := by decide +kernel
theorem dX4_readTop_70 : decode cX4_readTop 70 = .ok (.getfield 21, 3) := by decide +kernel
theorem dX4_readTop_73 : decode cX4_readTop 73 = .ok (.getfield 86, 3) := by decide +kernel
theorem dX4_readTop_76 : decode cX4_readTop 76 = .ok (.aload_n 0, 1) := by decide +kernel
theorem dX4_readTop_77 : decode cX4_readTop 77 = .ok (.getfield 12, 3) := by decide +kernel
theorem dX4_readTop_80 : decode cX4_readTop 80 = .ok (.getfield 60, 3) := by decide +kernel
theorem dX4_readTop_83 : decode cX4_readTop 83 = .ok (.iload_n 1, 1) := by decide +kernel
theorem dX4_readTop_84 : decode cX4_readTop 84 = .ok (.iastore, 1) := by decide +kernel
theorem dX4_readTop_85 : decode cX4_readTop 85 = .ok (.aload_n 0, 1) := by decide +kernel
theorem dX4_readTop_86 : decode cX4_readTop 86 = .ok (.getfield 21, 3) := by decide +kernel
theorem dX4_readTop_89 : decode cX4_readTop 89 = .ok (.getfield 90, 3) := by decide +kernel
theorem dX4_readTop_92 : decode cX4_readTop 92 = .ok (.aload_n 0, 1) := by decide +kernel
theorem dX4_readTop_93 : decode cX4_readTop 93 = .ok (.getfield 12, 3) := by decide +kernel
theorem dX4_readTop_96 : decode cX4_readTop 96 = .ok (.getfield 60, 3) := by decide +kernel
theorem dX4_readTop_99 : decode cX4_readTop 99 = .ok (.iload_n 2, 1) := by decide +kernel
theorem dX4_readTop_100 : decode cX4_readTop 100 = .ok (.iastore, 1) := by decide +kernel
theorem dX4_readTop_101 : decode cX4_readTop 101 = .ok (.aload_n 0, 1) := by decide +kernel
theorem dX4_readTop_102 : decode cX4_readTop 102 = .ok (.getfield 12, 3) := by decide +kernel
theorem dX4_readTop_105 : decode cX4_readTop 105 = .ok (.getfield 93, 3) := by decide +kernel
theorem dX4_readTop_108 : decode cX4_readTop 108 = .ok (.aload_n 0, 1) := by decide +kernel
theorem dX4_readTop_109 : decode cX4_readTop 109 = .ok (.getfield 12, 3) := by decide +kernel
theorem dX4_readTop_112 : decode cX4_readTop 112 = .ok (.getfield 60, 3) := by decide +kernel
theorem dX4_readTop_115 : decode cX4_readTop 115 = .ok (.aload_n 0, 1) := by decide +kernel
theorem dX4_readTop_116 : decode cX4_readTop 116 = .ok (.getfield 36, 3) := by decide +kernel
theorem dX4_readTop_119 : decode cX4_readTop 119 = .ok (.iastore, 1) := by decide +kernel
theorem dX4_readTop_120 : decode cX4_readTop 120 = .ok (.aload_n 0, 1) := by decide +kernel
theorem dX4_readTop_121 : decode cX4_readTop 121 = .ok (.getfield 12, 3) := by decide +kernel
theorem dX4_readTop_124 : decode cX4_readTop 124 = .ok (.dup, 1) := by decide +kernel
theorem dX4_readTop_125 : decode cX4_readTop 125 = .ok (.getfield 60, 3) := by decide +kernel
theorem dX4_readTop_128 : decode cX4_readTop 128 = .ok (.iconst 1, 1) := by decide +kernel
theorem dX4_readTop_129 : decode cX4_readTop 129 = .ok (.iadd, 1) := by decide +kernel
theorem dX4_readTop_130 : decode cX4_readTop 130 = .ok (.putfield 60, 3) := by decide +kernel
theorem dX4_readTop_133 : decode cX4_readTop 133 = .ok (.aload_n 0, 1) := by decide +kernel
theorem dX4_readTop_134 : decode cX4_readTop 134 = .ok (.invokevirtual 76, 3) := by decide +kernel
theorem dX4_readTop_137 : decode cX4_readTop 137 = .ok (.ireturn, 1) := by decide +kernel
theorem dX4_readNumber_0 : decode cX4_readNumber 0 = .ok (.aload_n 0, 1) := by decide +kernel
theorem dX4_readNumber_1 : decode cX4_readNumber 1 = .ok (.invokevirtual 53, 3) := by decide +kernel
theorem dX4_readNumber_4 : decode cX4_readNumber 4 = .ok (.aload_n 0, 1) := by decide +kernel
theorem dX4_readNumber_5 : decode cX4_readNumber 5 = .ok (.getfield 33, 3) := by decide +kernel
theorem dX4_readNumber_8 : decode cX4_readNumber 8 = .ok (.bipush (-2), 2) := by decide +kernel
theorem dX4_readNumber_10 : decode cX4_readNumber 10 = .ok (.if_icmp .ne 19, 3) := by decide +kernel
theorem dX4_readNumber_13 : decode cX4_readNumber 13 = .ok (.aload_n 0, 1) := by decide +kernel
theorem dX4_readNumber_14 : decode cX4_readNumber 14 = .ok (.getfield 36, 3) := by decide +kernel
theorem dX4_readNumber_17 : decode cX4_readNumber 17 = .ok (.iload_n 1, 1) := by decide +kernel
theorem dX4_readNumber_18 : decode cX4_readNumber 18 = .ok (.iload_n 2, 1) := by decide +kernel
theorem dX4_readNumber_19 : decode cX4_readNumber 19 = .ok (.invokestatic 96, 3) := by decide +kernel
theorem dX4_readNumber_22 : decode cX4_readNumber 22 = .ok (.ifCond .eq 7, 3) := by decide +kernel
theorem dX4_readNumber_25 : decode cX4_readNumber 25 = .ok (.iconst 1, 1) := by decide +kernel
theorem dX4_readNumber_26 : decode cX4_readNumber 26 = .ok (.goto 4, 3) := by decide +kernel
theorem dX4_readNumber_29 : decode cX4_readNumber 29 = .ok (.iconst 0, 1) := by decide +kernel
theorem dX4_readNumber_30 : decode cX4_readNumber 30 = .ok (.ireturn, 1) := by decide +kernel
theorem dX4_readItemEnd_0 : decode cX4_readItemEnd 0 = .ok (.aload_n 0, 1) := by decide +kernel
theorem dX4_readItemEnd_1 : decode cX4_readItemEnd 1 = .ok (.invokevirtual 53, 3) := by decide +kernel
theorem dX4_readItemEnd_4 : decode cX4_readItemEnd 4 = .ok (.aload_n 0, 1) := by decide +kernel
theorem dX4_readItemEnd_5 : decode cX4_readItemEnd 5 = .ok (.getfield 33, 3) := by decide +kernel
theorem dX4_readItemEnd_8 : decode cX4_readItemEnd 8 = .ok (.bipush 59, 2) := by decide +kernel
theorem dX4_readItemEnd_10 : decode cX4_readItemEnd 10 = .ok (.if_icmp .ne 7, 3) := by decide +kernel
theorem dX4_readItemEnd_13 : decode cX4_readItemEnd 13 = .ok (.iconst 1, 1) := by decide +kernel
theorem dX4_readItemEnd_14 : decode cX4_readItemEnd 14 = .ok (.goto 4, 3) := by decide +kernel
theorem dX4_readItemEnd_17 : decode cX4_readItemEnd 17 = .ok (.iconst 0, 1) := by decide +kernel
theorem dX4_readItemEnd_18 : decode cX4_readItemEnd 18 = .ok (.ireturn, 1) := by decide +kernel
theorem dX4_nextToken_0 : decode cX4_nextToken 0 = .ok (.aload_n 0, 1) := by decide +kernel
theorem dX4_nextToken_1 : decode cX4_nextToken 1 = .ok (.aload_n 0, 1) := by decide +kernel
theorem dX4_nextToken_2 : decode cX4_nextToken 2 = .ok (.invokevirtual 100, 3) := by decide +kernel
theorem dX4_nextToken_5 : decode cX4_nextToken 5 = .ok (.putfield 39, 3) := by decide +kernel
theorem dX4_nextToken_8 : decode cX4_nextToken 8 = .ok (.aload_n 0, 1) := by decide +kernel
theorem dX4_nextToken_9 : decode cX4_nextToken 9 = .ok (.aload_n 0, 1) := by decide +kernel
theorem dX4_nextToken_10 : decode cX4_nextToken 10 = .ok (.getfield 39, 3) := by decide +kernel
theorem dX4_nextToken_13 : decode cX4_nextToken 13 = .ok (.putfield 42, 3) := by decide +kernel
theorem dX4_nextToken_16 : decode cX4_nextToken 16 = .ok (.aload_n 0, 1) := by decide +kernel
theorem dX4_nextToken_17 : decode cX4_nextToken 17 = .ok (.getfield 39, 3) := by decide +kernel
theorem dX4_nextToken_20 : decode cX4_nextToken 20 = .ok (.aload_n 0, 1) := by decide +kernel
theorem dX4_nextToken_21 : decode cX4_nextToken 21 = .ok (.getfield 45, 3) := by decide +kernel
theorem dX4_nextToken_24 : decode cX4_nextToken 24 = .ok (.getfield 104, 3) := by decide +kernel
theorem dX4_nextToken_27 : decode cX4_nextToken 27 = .ok (.if_icmp .lt 9, 3) := by decide +kernel
theorem dX4_nextToken_30 : decode cX4_nextToken 30 = .ok (.aload_n 0, 1) := by decide +kernel
theorem dX4_nextToken_31 : decode cX4_nextToken 31 = .ok (.iconst (-1), 1) := by decide +kernel
theorem dX4_nextToken_32 : decode cX4_nextToken 32 = .ok (.putfield 33, 3) := by decide +kernel
theorem dX4_nextToken_35 : decode cX4_nextToken 35 = .ok (.return_, 1) := by decide +kernel
theorem dX4_nextToken_36 : decode cX4_nextToken 36 = .ok (.aload_n 0, 1) := by decide +kernel
theorem dX4_nextToken_37 : decode cX4_nextToken 37 = .ok (.getfield 45, 3) := by decide +kernel
theorem dX4_nextToken_40 : decode cX4_nextToken 40 = .ok (.getfield 109, 3) := by decide +kernel
theorem dX4_nextToken_43 : decode cX4_nextToken 43 = .ok (.aload_n 0, 1) := by decide +kernel
theorem dX4_nextToken_44 : decode cX4_nextToken 44 = .ok (.getfield 39, 3) := by decide +kernel
theorem dX4_nextToken_47 : decode cX4_nextToken 47 = .ok (.iaload, 1) := by decide +kernel
theorem dX4_nextToken_48 : decode cX4_nextToken 48 = .ok (.istore_n 1, 1) := by decide +kernel
theorem dX4_nextToken_49 : decode cX4_nextToken 49 = .ok (.iload_n 1, 1) := by decide +kernel
theorem dX4_nextToken_50 : decode cX4_nextToken 50 = .ok (.invokestatic 112, 3) := by decide +kernel
theorem dX4_nextToken_53 : decode cX4_nextToken 53 = .ok (.ifCond .eq 8, 3) := by decide +kernel
theorem dX4_nextToken_56 : decode cX4_nextToken 56 = .ok (.aload_n 0, 1) := by decide +kernel
theorem dX4_nextToken_57 : decode cX4_nextToken 57 = .ok (.invokevirtual 116, 3) := by decide +kernel
theorem dX4_nextToken_60 : decode cX4_nextToken 60 = .ok (.return_, 1) := by decide +kernel
theorem dX4_nextToken_61 : decode cX4_nextToken 61 = .ok (.aload_n 0, 1) := by decide +kernel
theorem dX4_nextToken_62 : decode cX4_nextToken 62 = .ok (.aload_n 0, 1) := by decide +kernel
theorem dX4_nextToken_63 : decode cX4_nextToken 63 = .ok (.getfield 39, 3) := by decide +kernel
theorem dX4_nextToken_66 : decode cX4_nextToken 66 = .ok (.iconst 1, 1) := by decide +kernel
theorem dX4_nextToken_67 : decode cX4_nextToken 67 = .ok (.iadd, 1) := by decide +kernel
theorem dX4_nextToken_68 : decode cX4_nextToken 68 = .ok (.putfield 42, 3) := by decide +kernel
theorem dX4_nextToken_71 : decode cX4_nextToken 71 = .ok (.iload_n 1, 1) := by decide +kernel
theorem dX4_nextToken_72 : decode cX4_nextToken 72 = .ok (.bipush 110, 2) := by decide +kernel
theorem dX4_nextToken_74 : decode cX4_nextToken 74 = .ok (.if_icmp .eq 21, 3) := by decide +kernel
theorem dX4_nextToken_77 : decode cX4_nextToken 77 = .ok (.iload_n 1, 1) := by decide +kernel
theorem dX4_nextToken_78 : decode cX4_nextToken 78 = .ok (.bipush 116, 2) := by decide +kernel
theorem dX4_nextToken_80 : decode cX4_nextToken 80 = .ok (.if_icmp .eq 15, 3) := by decide +kernel
theorem dX4_nextToken_83 : decode cX4_nextToken 83 = .ok (.iload_n 1, 1) := by decide +kernel
theorem dX4_nextToken_84 : decode cX4_nextToken 84 = .ok (.bipush 108, 2) := by decide +kernel
theorem dX4_nextToken_86 : decode cX4_nextToken 86 = .ok (.if_icmp .eq 9, 3) := by decide +kernel
theorem dX4_nextToken_89 : decode cX4_nextToken 89 = .ok (.iload_n 1, 1) := by decide +kernel
theorem dX4_nextToken_90 : decode cX4_nextToken 90 = .ok (.bipush 59, 2) := by decide +kernel
theorem dX4_nextToken_92 : decode cX4_nextToken 92 = .ok (.if_icmp .ne 7, 3) := by decide +kernel
theorem dX4_nextToken_95 : decode cX4_nextToken 95 = .ok (.iconst 1, 1) := by decide +kernel
theorem dX4_nextToken_96 : decode cX4_nextToken 96 = .ok (.goto 4, 3) := by decide +kernel
theorem dX4_nextToken_99 : decode cX4_nextToken 99 = .ok (.iconst 0, 1) := by decide +kernel
theorem dX4_nextToken_100 : decode cX4_nextToken 100 = .ok (.istore_n 2, 1) := by decide +kernel
theorem dX4_nextToken_101 : decode cX4_nextToken 101 = .ok (.aload_n 0, 1) := by decide +kernel
theorem dX4_nextToken_102 : decode cX4_nextToken 102 = .ok (.iload_n 2, 1) := by decide +kernel
theorem dX4_nextToken_103 : decode cX4_nextToken 103 = .ok (.ifCond .eq 7, 3) := by decide +kernel
theorem dX4_nextToken_106 : decode cX4_nextToken 106 = .ok (.iload_n 1, 1) := by decide +kernel
theorem dX4_nextToken_107 : decode cX4_nextToken 107 = .ok (.goto 5, 3) := by decide +kernel
theorem dX4_nextToken_110 : decode cX4_nextToken 110 = .ok (.bipush (-3), 2) := by decide +kernel
theorem dX4_nextToken_112 : decode cX4_nextToken 112 = .ok (.putfield 33, 3) := by decide +kernel
theorem dX4_nextToken_115 : decode cX4_nextToken 115 = .ok (.return_, 1) := by decide +kernel
theorem dX4_behindBlanks_0 : decode cX4_behindBlanks 0 = .ok (.aload_n 0, 1) := by decide +kernel
theorem dX4_behindBlanks_1 : decode cX4_behindBlanks 1 = .ok (.getfield 42, 3) := by decide +kernel
theorem dX4_behindBlanks_4 : decode cX4_behindBlanks 4 = .ok (.istore_n 1, 1) := by decide +kernel
theorem dX4_behindBlanks_5 : decode cX4_behindBlanks 5 = .ok (.iload_n 1, 1) := by decide +kernel
theorem dX4_behindBlanks_6 : decode cX4_behindBlanks 6 = .ok (.aload_n 0, 1) := by decide +kernel
theorem dX4_behindBlanks_7 : decode cX4_behindBlanks 7 = .ok (.getfield 45, 3) := by decide +kernel
theorem dX4_behindBlanks_10 : decode cX4_behindBlanks 10 = .ok (.getfield 104, 3) := by decide +kernel
theorem dX4_behindBlanks_13 : decode cX4_behindBlanks 13 = .ok (.if_icmp .ge 25, 3) := by decide +kernel
theorem dX4_behindBlanks_16 : decode cX4_behindBlanks 16 = .ok (.aload_n 0, 1) := by decide +kernel
theorem dX4_behindBlanks_17 : decode cX4_behindBlanks 17 = .ok (.getfield 45, 3) := by decide +kernel
theorem dX4_behindBlanks_20 : decode cX4_behindBlanks 20 = .ok (.getfield 109, 3) := by decide +kernel
theorem dX4_behindBlanks_23 : decode cX4_behindBlanks 23 = .ok (.iload_n 1, 1) := by decide +kernel
theorem dX4_behindBlanks_24 : decode cX4_behindBlanks 24 = .ok (.iaload, 1) := by decide +kernel
theorem dX4_behindBlanks_25 : decode cX4_behindBlanks 25 = .ok (.bipush 32, 2) := by decide +kernel
theorem dX4_behindBlanks_27 : decode cX4_behindBlanks 27 = .ok (.if_icmp .eq 5, 3) := by decide +kernel
theorem dX4_behindBlanks_30 : decode cX4_behindBlanks 30 = .ok (.iload_n 1, 1) := by decide +kernel
theorem dX4_behindBlanks_31 : decode cX4_behindBlanks 31 = .ok (.ireturn, 1) := by decide +kernel
theorem dX4_behindBlanks_32 : decode cX4_behindBlanks 32 = .ok (.iinc 1 1, 3) := by decide +kernel
theorem dX4_behindBlanks_35 : decode cX4_behindBlanks 35 = .ok (.goto (-30), 3) := by decide +kernel
theorem dX4_behindBlanks_38 : decode cX4_behindBlanks 38 = .ok (.aload_n 0, 1) := by decide +kernel
theorem dX4_behindBlanks_39 : decode cX4_behindBlanks 39 = .ok (.getfield 45, 3) := by decide +kernel
theorem dX4_behindBlanks_42 : decode cX4_behindBlanks 42 = .ok (.getfield 104, 3) := by decide +kernel
theorem dX4_behindBlanks_45 : decode cX4_behindBlanks 45 = .ok (.ireturn, 1) := by decide +kernel
theorem dX4_takeNumber_0 : decode cX4_takeNumber 0 = .ok (.aload_n 0, 1) := by decide +kernel
theorem dX4_takeNumber_1 : decode cX4_takeNumber 1 = .ok (.iconst 0, 1) := by decide +kernel
theorem dX4_takeNumber_2 : decode cX4_takeNumber 2 = .ok (.putfield 36, 3) := by decide +kernel
theorem dX4_takeNumber_5 : decode cX4_takeNumber 5 = .ok (.aload_n 0, 1) := by decide +kernel
theorem dX4_takeNumber_6 : decode cX4_takeNumber 6 = .ok (.getfield 42, 3) := by decide +kernel
theorem dX4_takeNumber_9 : decode cX4_takeNumber 9 = .ok (.aload_n 0, 1) := by decide +kernel
theorem dX4_takeNumber_10 : decode cX4_takeNumber 10 = .ok (.getfield 45, 3) := by decide +kernel
theorem dX4_takeNumber_13 : decode cX4_takeNumber 13 = .ok (.getfield 104, 3) := by decide +kernel
theorem dX4_takeNumber_16 : decode cX4_takeNumber 16 = .ok (.if_icmp .ge 66, 3) := by decide +kernel
theorem dX4_takeNumber_19 : decode cX4_takeNumber 19 = .ok (.aload_n 0, 1) := by decide +kernel
theorem dX4_takeNumber_20 : decode cX4_takeNumber 20 = .ok (.getfield 45, 3) := by decide +kernel
theorem dX4_takeNumber_23 : decode cX4_takeNumber 23 = .ok (.getfield 109, 3) := by decide +kernel
theorem dX4_takeNumber_26 : decode cX4_takeNumber 26 = .ok (.aload_n 0, 1) := by decide +kernel
theorem dX4_takeNumber_27 : decode cX4_takeNumber 27 = .ok (.getfield 42, 3) := by decide +kernel
theorem dX4_takeNumber_30 : decode cX4_takeNumber 30 = .ok (.iaload, 1) := by decide +kernel
theorem dX4_takeNumber_31 : decode cX4_takeNumber 31 = .ok (.invokestatic 112, 3) := by decide +kernel
theorem dX4_takeNumber_34 : decode cX4_takeNumber 34 = .ok (.ifCond .eq 48, 3) := by decide +kernel
theorem dX4_takeNumber_37 : decode cX4_takeNumber 37 = .ok (.aload_n 0, 1) := by decide +kernel
theorem dX4_takeNumber_38 : decode cX4_takeNumber 38 = .ok (.bipush 100, 2) := by decide +kernel
theorem dX4_takeNumber_40 : decode cX4_takeNumber 40 = .ok (.aload_n 0, 1) := by decide +kernel
theorem dX4_takeNumber_41 : decode cX4_takeNumber 41 = .ok (.getfield 36, 3) := by decide +kernel
theorem dX4_takeNumber_44 : decode cX4_takeNumber 44 = .ok (.bipush 10, 2) := by decide +kernel
theorem dX4_takeNumber_46 : decode cX4_takeNumber 46 = .ok (.imul, 1) := by decide +kernel
theorem dX4_takeNumber_47 : decode cX4_takeNumber 47 = .ok (.aload_n 0, 1) := by decide +kernel
theorem dX4_takeNumber_48 : decode cX4_takeNumber 48 = .ok (.getfield 45, 3) := by decide +kernel
theorem dX4_takeNumber_51 : decode cX4_takeNumber 51 = .ok (.getfield 109, 3) := by decide +kernel
theorem dX4_takeNumber_54 : decode cX4_takeNumber 54 = .ok (.aload_n 0, 1) := by decide +kernel
theorem dX4_takeNumber_55 : decode cX4_takeNumber 55 = .ok (.getfield 42, 3) := by decide +kernel
theorem dX4_takeNumber_58 : decode cX4_takeNumber 58 = .ok (.iaload, 1) := by decide +kernel
theorem dX4_takeNumber_59 : decode cX4_takeNumber 59 = .ok (.iadd, 1) := by decide +kernel
theorem dX4_takeNumber_60 : decode cX4_takeNumber 60 = .ok (.bipush 48, 2) := by decide +kernel
theorem dX4_takeNumber_62 : decode cX4_takeNumber 62 = .ok (.isub, 1) := by decide +kernel
theorem dX4_takeNumber_63 : decode cX4_takeNumber 63 = .ok (.invokestatic 119, 3) := by decide +kernel
theorem dX4_takeNumber_66 : decode cX4_takeNumber 66 = .ok (.putfield 36, 3) := by decide +kernel
theorem dX4_takeNumber_69 : decode cX4_takeNumber 69 = .ok (.aload_n 0, 1) := by decide +kernel
theorem dX4_takeNumber_70 : decode cX4_takeNumber 70 = .ok (.dup, 1) := by decide +kernel
theorem dX4_takeNumber_71 : decode cX4_takeNumber 71 = .ok (.getfield 42, 3) := by decide +kernel
theorem dX4_takeNumber_74 : decode cX4_takeNumber 74 = .ok (.iconst 1, 1) := by decide +kernel
theorem dX4_takeNumber_75 : decode cX4_takeNumber 75 = .ok (.iadd, 1) := by decide +kernel
theorem dX4_takeNumber_76 : decode cX4_takeNumber 76 = .ok (.putfield 42, 3) := by decide +kernel
theorem dX4_takeNumber_79 : decode cX4_takeNumber 79 = .ok (.goto (-74), 3) := by decide +kernel
theorem dX4_takeNumber_82 : decode cX4_takeNumber 82 = .ok (.aload_n 0, 1) := by decide +kernel
theorem dX4_takeNumber_83 : decode cX4_takeNumber 83 = .ok (.getfield 45, 3) := by decide +kernel
theorem dX4_takeNumber_86 : decode cX4_takeNumber 86 = .ok (.getfield 109, 3) := by decide +kernel
theorem dX4_takeNumber_89 : decode cX4_takeNumber 89 = .ok (.aload_n 0, 1) := by decide +kernel
theorem dX4_takeNumber_90 : decode cX4_takeNumber 90 = .ok (.getfield 39, 3) := by decide +kernel
theorem dX4_takeNumber_93 : decode cX4_takeNumber 93 = .ok (.iaload, 1) := by decide +kernel
theorem dX4_takeNumber_94 : decode cX4_takeNumber 94 = .ok (.bipush 48, 2) := by decide +kernel
theorem dX4_takeNumber_96 : decode cX4_takeNumber 96 = .ok (.if_icmp .ne 20, 3) := by decide +kernel
theorem dX4_takeNumber_99 : decode cX4_takeNumber 99 = .ok (.aload_n 0, 1) := by decide +kernel
theorem dX4_takeNumber_100 : decode cX4_takeNumber 100 = .ok (.getfield 42, 3) := by decide +kernel
theorem dX4_takeNumber_103 : decode cX4_takeNumber 103 = .ok (.aload_n 0, 1) := by decide +kernel
theorem dX4_takeNumber_104 : decode cX4_takeNumber 104 = .ok (.getfield 39, 3) := by decide +kernel
theorem dX4_takeNumber_107 : decode cX4_takeNumber 107 = .ok (.iconst 1, 1) := by decide +kernel
theorem dX4_takeNumber_108 : decode cX4_takeNumber 108 = .ok (.iadd, 1) := by decide +kernel
theorem dX4_takeNumber_109 : decode cX4_takeNumber 109 = .ok (.if_icmp .le 7, 3) := by decide +kernel
theorem dX4_takeNumber_112 : decode cX4_takeNumber 112 = .ok (.iconst 1, 1) := by decide +kernel
theorem dX4_takeNumber_113 : decode cX4_takeNumber 113 = .ok (.goto 4, 3) := by decide +kernel
theorem dX4_takeNumber_116 : decode cX4_takeNumber 116 = .ok (.iconst 0, 1) := by decide +kernel
theorem dX4_takeNumber_117 : decode cX4_takeNumber 117 = .ok (.istore_n 1, 1) := by decide +kernel
theorem dX4_takeNumber_118 : decode cX4_takeNumber 118 = .ok (.aload_n 0, 1) := by decide +kernel
theorem dX4_takeNumber_119 : decode cX4_takeNumber 119 = .ok (.iload_n 1, 1) := by decide +kernel
theorem dX4_takeNumber_120 : decode cX4_takeNumber 120 = .ok (.ifCond .ne 12, 3) := by decide +kernel
theorem dX4_takeNumber_123 : decode cX4_takeNumber 123 = .ok (.aload_n 0, 1) := by decide +kernel
theorem dX4_takeNumber_124 : decode cX4_takeNumber 124 = .ok (.getfield 36, 3) := by decide +kernel
theorem dX4_takeNumber_127 : decode cX4_takeNumber 127 = .ok (.bipush 99, 2) := by decide +kernel
theorem dX4_takeNumber_129 : decode cX4_takeNumber 129 = .ok (.if_icmp .le 8, 3) := by decide +kernel
theorem dX4_takeNumber_132 : decode cX4_takeNumber 132 = .ok (.bipush (-3), 2) := by decide +kernel
theorem dX4_takeNumber_134 : decode cX4_takeNumber 134 = .ok (.goto 5, 3) := by decide +kernel
theorem dX4_takeNumber_137 : decode cX4_takeNumber 137 = .ok (.bipush (-2), 2) := by decide +kernel
theorem dX4_takeNumber_139 : decode cX4_takeNumber 139 = .ok (.putfield 33, 3) := by decide +kernel
theorem dX4_takeNumber_142 : decode cX4_takeNumber 142 = .ok (.return_, 1) := by decide +kernel
theorem dX4_isDigit_0 : decode cX4_isDigit 0 = .ok (.iload_n 0, 1) := by decide +kernel
theorem dX4_isDigit_1 : decode cX4_isDigit 1 = .ok (.bipush 48, 2) := by decide +kernel
theorem dX4_isDigit_3 : decode cX4_isDigit 3 = .ok (.if_icmp .lt 13, 3) := by decide +kernel
theorem dX4_isDigit_6 : decode cX4_isDigit 6 = .ok (.iload_n 0, 1) := by decide +kernel
theorem dX4_isDigit_7 : decode cX4_isDigit 7 = .ok (.bipush 57, 2) := by decide +kernel
theorem dX4_isDigit_9 : decode cX4_isDigit 9 = .ok (.if_icmp .gt 7, 3) := by decide +kernel
theorem dX4_isDigit_12 : decode cX4_isDigit 12 = .ok (.iconst 1, 1) := by decide +kernel
theorem dX4_isDigit_13 : decode cX4_isDigit 13 = .ok (.goto 4, 3) := by decide +kernel
theorem dX4_isDigit_16 : decode cX4_isDigit 16 = .ok (.iconst 0, 1) := by decide +kernel
theorem dX4_isDigit_17 : decode cX4_isDigit 17 = .ok (.ireturn, 1) := by decide +kernel
theorem dX5_init_0 : decode cX5_init 0 = .ok (.aload_n 0, 1) := by decide +kernel
theorem dX5_init_1 : decode cX5_init 1 = .ok (.invokespecial 3, 3) := by decide +kernel
theorem dX5_init_4 : decode cX5_init 4 = .ok (.aload_n 0, 1) := by decide +kernel
theorem dX5_init_5 : decode cX5_init 5 = .ok (.bipush 6, 2) := by decide +kernel
theorem dX5_init_7 : decode cX5_init 7 = .ok (.newarray .int, 2) := by decide +kernel
theorem dX5_init_9 : decode cX5_init 9 = .ok (.putfield 9, 3) := by decide +kernel
theorem dX5_init_12 : decode cX5_init 12 = .ok (.aload_n 0, 1) := by decide +kernel
theorem dX5_init_13 : decode cX5_init 13 = .ok (.bipush 6, 2) := by decide +kernel
theorem dX5_init_15 : decode cX5_init 15 = .ok (.newarray .int, 2) := by decide +kernel
theorem dX5_init_17 : decode cX5_init 17 = .ok (.putfield 15, 3) := by decide +kernel
theorem dX5_init_20 : decode cX5_init 20 = .ok (.aload_n 0, 1) := by decide +kernel
theorem dX5_init_21 : decode cX5_init 21 = .ok (.bipush 6, 2) := by decide +kernel
theorem dX5_init_23 : decode cX5_init 23 = .ok (.newarray .int, 2) := by decide +kernel
theorem dX5_init_25 : decode cX5_init 25 = .ok (.putfield 18, 3) := by decide +kernel
theorem dX5_init_28 : decode cX5_init 28 = .ok (.aload_n 0, 1) := by decide +kernel
theorem dX5_init_29 : decode cX5_init 29 = .ok (.iconst 0, 1) := by decide +kernel
theorem dX5_init_30 : decode cX5_init 30 = .ok (.putfield 21, 3) := by decide +kernel
theorem dX5_init_33 : decode cX5_init 33 = .ok (.return_, 1) := by decide +kernel
theorem dX5_add_0 : decode cX5_add 0 = .ok (.aload_n 0, 1) := by decide +kernel
theorem dX5_add_1 : decode cX5_add 1 = .ok (.getfield 21, 3) := by decide +kernel
theorem dX5_add_4 : decode cX5_add 4 = .ok (.bipush 6, 2) := by decide +kernel
theorem dX5_add_6 : decode cX5_add 6 = .ok (.if_icmp .lt 5, 3) := by decide +kernel
theorem dX5_add_9 : decode cX5_add 9 = .ok (.iconst 0, 1) := by decide +kernel
theorem dX5_add_10 : decode cX5_add 10 = .ok (.ireturn, 1) := by decide +kernel
theorem dX5_add_11 : decode cX5_add 11 = .ok (.aload_n 0, 1) := by decide +kernel
theorem dX5_add_12 : decode cX5_add 12 = .ok (.getfield 9, 3) := by decide +kernel
theorem dX5_add_15 : decode cX5_add 15 = .ok (.aload_n 0, 1) := by decide +kernel
theorem dX5_add_16 : decode cX5_add 16 = .ok (.getfield 21, 3) := by decide +kernel
theorem dX5_add_19 : decode cX5_add 19 = .ok (.iload_n 1, 1) := by decide +kernel
theorem dX5_add_20 : decode cX5_add 20 = .ok (.iastore, 1) := by decide +kernel
theorem dX5_add_21 : decode cX5_add 21 = .ok (.aload_n 0, 1) := by decide +kernel
theorem dX5_add_22 : decode cX5_add 22 = .ok (.getfield 15, 3) := by decide +kernel
theorem dX5_add_25 : decode cX5_add 25 = .ok (.aload_n 0, 1) := by decide +kernel
theorem dX5_add_26 : decode cX5_add 26 = .ok (.getfield 21, 3) := by decide +kernel
theorem dX5_add_29 : decode cX5_add 29 = .ok (.iload_n 2, 1) := by decide +kernel
theorem dX5_add_30 : decode cX5_add 30 = .ok (.iastore, 1) := by decide +kernel
theorem dX5_add_31 : decode cX5_add 31 = .ok (.aload_n 0, 1) := by decide +kernel
theorem dX5_add_32 : decode cX5_add 32 = .ok (.getfield 18, 3) := by decide +kernel
theorem dX5_add_35 : decode cX5_add 35 = .ok (.aload_n 0, 1) := by decide +kernel
theorem dX5_add_36 : decode cX5_add 36 = .ok (.getfield 21, 3) := by decide +kernel
theorem dX5_add_39 : decode cX5_add 39 = .ok (.iload_n 3, 1) := by decide +kernel
theorem dX5_add_40 : decode cX5_add 40 = .ok (.iastore, 1) := by decide +kernel
theorem dX5_add_41 : decode cX5_add 41 = .ok (.aload_n 0, 1) := by decide +kernel
theorem dX5_add_42 : decode cX5_add 42 = .ok (.dup, 1) := by decide +kernel
theorem dX5_add_43 : decode cX5_add 43 = .ok (.getfield 21, 3) := by decide +kernel
theorem dX5_add_46 : decode cX5_add 46 = .ok (.iconst 1, 1) := by decide +kernel
theorem dX5_add_47 : decode cX5_add 47 = .ok (.iadd, 1) := by decide +kernel
theorem dX5_add_48 : decode cX5_add 48 = .ok (.putfield 21, 3) := by decide +kernel
theorem dX5_add_51 : decode cX5_add 51 = .ok (.iconst 1, 1) := by decide +kernel
theorem dX5_add_52 : decode cX5_add 52 = .ok (.ireturn, 1) := by decide +kernel
theorem dX5_spinBehind_0 : decode cX5_spinBehind 0 = .ok (.iconst 0, 1) := by decide +kernel
theorem dX5_spinBehind_1 : decode cX5_spinBehind 1 = .ok (.iload_n 0, 1) := by decide +kernel
theorem dX5_spinBehind_2 : decode cX5_spinBehind 2 = .ok (.iload_n 1, 1) := by decide +kernel
theorem dX5_spinBehind_3 : decode cX5_spinBehind 3 = .ok (.iload_n 2, 1) := by decide +kernel
theorem dX5_spinBehind_4 : decode cX5_spinBehind 4 = .ok (.imul, 1) := by decide +kernel
theorem dX5_spinBehind_5 : decode cX5_spinBehind 5 = .ok (.isub, 1) := by decide +kernel
theorem dX5_spinBehind_6 : decode cX5_spinBehind 6 = .ok (.invokestatic 25, 3) := by decide +kernel
theorem dX5_spinBehind_9 : decode cX5_spinBehind 9 = .ok (.ireturn, 1) := by decide +kernel
theorem dX5_canBe_0 : decode cX5_canBe 0 = .ok (.iconst 0, 1) := by decide +kernel
theorem dX5_canBe_1 : decode cX5_canBe 1 = .ok (.istore_n 2, 1) := by decide +kernel
theorem dX5_canBe_2 : decode cX5_canBe 2 = .ok (.iload_n 2, 1) := by decide +kernel
theorem dX5_canBe_3 : decode cX5_canBe 3 = .ok (.aload_n 0, 1) := by decide +kernel
theorem dX5_canBe_4 : decode cX5_canBe 4 = .ok (.getfield 21, 3) := by decide +kernel
theorem dX5_canBe_7 : decode cX5_canBe 7 = .ok (.if_icmp .ge 36, 3) := by decide +kernel
theorem dX5_canBe_10 : decode cX5_canBe 10 = .ok (.aload_n 0, 1) := by decide +kernel
theorem dX5_canBe_11 : decode cX5_canBe 11 = .ok (.getfield 9, 3) := by decide +kernel
theorem dX5_canBe_14 : decode cX5_canBe 14 = .ok (.iload_n 2, 1) := by decide +kernel
theorem dX5_canBe_15 : decode cX5_canBe 15 = .ok (.iaload, 1) := by decide +kernel
theorem dX5_canBe_16 : decode cX5_canBe 16 = .ok (.aload_n 0, 1) := by decide +kernel
theorem dX5_canBe_17 : decode cX5_canBe 17 = .ok (.getfield 15, 3) := by decide +kernel
theorem dX5_canBe_20 : decode cX5_canBe 20 = .ok (.iload_n 2, 1) := by decide +kernel
theorem dX5_canBe_21 : decode cX5_canBe 21 = .ok (.iaload, 1) := by decide +kernel
theorem dX5_canBe_22 : decode cX5_canBe 22 = .ok (.iload_n 1, 1) := by decide +kernel
theorem dX5_canBe_23 : decode cX5_canBe 23 = .ok (.invokestatic 31, 3) := by decide +kernel
theorem dX5_canBe_26 : decode cX5_canBe 26 = .ok (.aload_n 0, 1) := by decide +kernel
theorem dX5_canBe_27 : decode cX5_canBe 27 = .ok (.getfield 18, 3) := by decide +kernel
theorem dX5_canBe_30 : decode cX5_canBe 30 = .ok (.iload_n 2, 1) := by decide +kernel
theorem dX5_canBe_31 : decode cX5_canBe 31 = .ok (.iaload, 1) := by decide +kernel
theorem dX5_canBe_32 : decode cX5_canBe 32 = .ok (.if_icmp .eq 5, 3) := by decide +kernel
theorem dX5_canBe_35 : decode cX5_canBe 35 = .ok (.iconst 0, 1) := by decide +kernel
theorem dX5_canBe_36 : decode cX5_canBe 36 = .ok (.ireturn, 1) := by decide +kernel
theorem dX5_canBe_37 : decode cX5_canBe 37 = .ok (.iinc 2 1, 3) := by decide +kernel
theorem dX5_canBe_40 : decode cX5_canBe 40 = .ok (.goto (-38), 3) := by decide +kernel
theorem dX5_canBe_43 : decode cX5_canBe 43 = .ok (.iconst 1, 1) := by decide +kernel
theorem dX5_canBe_44 : decode cX5_canBe 44 = .ok (.ireturn, 1) := by decide +kernel
theorem dX5_howMany_0 : decode cX5_howMany 0 = .ok (.iconst 0, 1) := by decide +kernel
theorem dX5_howMany_1 : decode cX5_howMany 1 = .ok (.istore_n 1, 1) := by decide +kernel
theorem dX5_howMany_2 : decode cX5_howMany 2 = .ok (.iconst 1, 1) := by decide +kernel
theorem dX5_howMany_3 : decode cX5_howMany 3 = .ok (.istore_n 2, 1) := by decide +kernel
theorem dX5_howMany_4 : decode cX5_howMany 4 = .ok (.iload_n 2, 1) := by decide +kernel
theorem dX5_howMany_5 : decode cX5_howMany 5 = .ok (.bipush 9, 2) := by decide +kernel
theorem dX5_howMany_7 : decode cX5_howMany 7 = .ok (.if_icmp .gt 20, 3) := by decide +kernel
theorem dX5_howMany_10 : decode cX5_howMany 10 = .ok (.aload_n 0, 1) := by decide +kernel
theorem dX5_howMany_11 : decode cX5_howMany 11 = .ok (.iload_n 2, 1) := by decide +kernel
theorem dX5_howMany_12 : decode cX5_howMany 12 = .ok (.invokevirtual 35, 3) := by decide +kernel
theorem dX5_howMany_15 : decode cX5_howMany 15 = .ok (.ifCond .eq 6, 3) := by decide +kernel
theorem dX5_howMany_18 : decode cX5_howMany 18 = .ok (.iinc 1 1, 3) := by decide +kernel
theorem dX5_howMany_21 : decode cX5_howMany 21 = .ok (.iinc 2 1, 3) := by decide +kernel
theorem dX5_howMany_24 : decode cX5_howMany 24 = .ok (.goto (-20), 3) := by decide +kernel
theorem dX5_howMany_27 : decode cX5_howMany 27 = .ok (.iload_n 1, 1) := by decide +kernel
theorem dX5_howMany_28 : decode cX5_howMany 28 = .ok (.ireturn, 1) := by decide +kernel
theorem dX5_least_0 : decode cX5_least 0 = .ok (.iconst 1, 1) := by decide +kernel
theorem dX5_least_1 : decode cX5_least 1 = .ok (.istore_n 1, 1) := by decide +kernel
theorem dX5_least_2 : decode cX5_least 2 = .ok (.iload_n 1, 1) := by decide +kernel
theorem dX5_least_3 : decode cX5_least 3 = .ok (.bipush 9, 2) := by decide +kernel
theorem dX5_least_5 : decode cX5_least 5 = .ok (.if_icmp .gt 19, 3) := by decide +kernel
theorem dX5_least_8 : decode cX5_least 8 = .ok (.aload_n 0, 1) := by decide +kernel
theorem dX5_least_9 : decode cX5_least 9 = .ok (.iload_n 1, 1) := by decide +kernel
theorem dX5_least_10 : decode cX5_least 10 = .ok (.invokevirtual 35, 3) := by decide +kernel
theorem dX5_least_13 : decode cX5_least 13 = .ok (.ifCond .eq 5, 3) := by decide +kernel
theorem dX5_least_16 : decode cX5_least 16 = .ok (.iload_n 1, 1) := by decide +kernel
theorem dX5_least_17 : decode cX5_least 17 = .ok (.ireturn, 1) := by decide +kernel
theorem dX5_least_18 : decode cX5_least 18 = .ok (.iinc 1 1, 3) := by decide +kernel
theorem dX5_least_21 : decode cX5_least 21 = .ok (.goto (-19), 3) := by decide +kernel
theorem dX5_least_24 : decode cX5_least 24 = .ok (.bipush (-9), 2) := by decide +kernel
theorem dX5_least_26 : decode cX5_least 26 = .ok (.ireturn, 1) := by decide +kernel
theorem dX5_greatest_0 : decode cX5_greatest 0 = .ok (.bipush 9, 2) := by decide +kernel
theorem dX5_greatest_2 : decode cX5_greatest 2 = .ok (.istore_n 1, 1) := by decide +kernel
theorem dX5_greatest_3 : decode cX5_greatest 3 = .ok (.iload_n 1, 1) := by decide +kernel
theorem dX5_greatest_4 : decode cX5_greatest 4 = .ok (.iconst 1, 1) := by decide +kernel
theorem dX5_greatest_5 : decode cX5_greatest 5 = .ok (.if_icmp .lt 19, 3) := by decide +kernel
theorem dX5_greatest_8 : decode cX5_greatest 8 = .ok (.aload_n 0, 1) := by decide +kernel
theorem dX5_greatest_9 : decode cX5_greatest 9 = .ok (.iload_n 1, 1) := by decide +kernel
theorem dX5_greatest_10 : decode cX5_greatest 10 = .ok (.invokevirtual 35, 3) := by decide +kernel
theorem dX5_greatest_13 : decode cX5_greatest 13 = .ok (.ifCond .eq 5, 3) := by decide +kernel
theorem dX5_greatest_16 : decode cX5_greatest 16 = .ok (.iload_n 1, 1) := by decide +kernel
theorem dX5_greatest_17 : decode cX5_greatest 17 = .ok (.ireturn, 1) := by decide +kernel
theorem dX5_greatest_18 : decode cX5_greatest 18 = .ok (.iinc 1 (-1), 3) := by decide +kernel
theorem dX5_greatest_21 : decode cX5_greatest 21 = .ok (.goto (-18), 3) := by decide +kernel
theorem dX5_greatest_24 : decode cX5_greatest 24 = .ok (.bipush (-9), 2) := by decide +kernel
theorem dX5_greatest_26 : decode cX5_greatest 26 = .ok (.ireturn, 1) := by decide +kernel
theorem dX5_bestWait_0 : decode cX5_bestWait 0 = .ok (.aload_n 0, 1) := by decide +kernel
theorem dX5_bestWait_1 : decode cX5_bestWait 1 = .ok (.invokevirtual 39, 3) := by decide +kernel
theorem dX5_bestWait_4 : decode cX5_bestWait 4 = .ok (.iconst 1, 1) := by decide +kernel
theorem dX5_bestWait_5 : decode cX5_bestWait 5 = .ok (.if_icmp .gt 6, 3) := by decide +kernel
theorem dX5_bestWait_8 : decode cX5_bestWait 8 = .ok (.bipush (-9), 2) := by decide +kernel
theorem dX5_bestWait_10 : decode cX5_bestWait 10 = .ok (.ireturn, 1) := by decide +kernel
theorem dX5_bestWait_11 : decode cX5_bestWait 11 = .ok (.bipush (-9), 2) := by decide +kernel
theorem dX5_bestWait_13 : decode cX5_bestWait 13 = .ok (.istore_n 2, 1) := by decide +kernel
theorem dX5_bestWait_14 : decode cX5_bestWait 14 = .ok (.bipush 10, 2) := by decide +kernel
theorem dX5_bestWait_16 : decode cX5_bestWait 16 = .ok (.istore_n 3, 1) := by decide +kernel
theorem dX5_bestWait_17 : decode cX5_bestWait 17 = .ok (.iconst 1, 1) := by decide +kernel
theorem dX5_bestWait_18 : decode cX5_bestWait 18 = .ok (.istore 4, 2) := by decide +kernel
theorem dX5_bestWait_20 : decode cX5_bestWait 20 = .ok (.iload 4, 2) := by decide +kernel
theorem dX5_bestWait_22 : decode cX5_bestWait 22 = .ok (.bipush 20, 2) := by decide +kernel
theorem dX5_bestWait_24 : decode cX5_bestWait 24 = .ok (.if_icmp .gt 30, 3) := by decide +kernel
theorem dX5_bestWait_27 : decode cX5_bestWait 27 = .ok (.aload_n 0, 1) := by decide +kernel
theorem dX5_bestWait_28 : decode cX5_bestWait 28 = .ok (.iload_n 1, 1) := by decide +kernel
theorem dX5_bestWait_29 : decode cX5_bestWait 29 = .ok (.iload 4, 2) := by decide +kernel
theorem dX5_bestWait_31 : decode cX5_bestWait 31 = .ok (.invokevirtual 43, 3) := by decide +kernel
theorem dX5_bestWait_34 : decode cX5_bestWait 34 = .ok (.istore 5, 2) := by decide +kernel
theorem dX5_bestWait_36 : decode cX5_bestWait 36 = .ok (.iload 5, 2) := by decide +kernel
theorem dX5_bestWait_38 : decode cX5_bestWait 38 = .ok (.iload_n 3, 1) := by decide +kernel
theorem dX5_bestWait_39 : decode cX5_bestWait 39 = .ok (.if_icmp .ge 9, 3) := by decide +kernel
theorem dX5_bestWait_42 : decode cX5_bestWait 42 = .ok (.iload 5, 2) := by decide +kernel
theorem dX5_bestWait_44 : decode cX5_bestWait 44 = .ok (.istore_n 3, 1) := by decide +kernel
theorem dX5_bestWait_45 : decode cX5_bestWait 45 = .ok (.iload 4, 2) := by decide +kernel
theorem dX5_bestWait_47 : decode cX5_bestWait 47 = .ok (.istore_n 2, 1) := by decide +kernel
theorem dX5_bestWait_48 : decode cX5_bestWait 48 = .ok (.iinc 4 1, 3) := by decide +kernel
theorem dX5_bestWait_51 : decode cX5_bestWait 51 = .ok (.goto (-31), 3) := by decide +kernel
theorem dX5_bestWait_54 : decode cX5_bestWait 54 = .ok (.iload_n 2, 1) := by decide +kernel
theorem dX5_bestWait_55 : decode cX5_bestWait 55 = .ok (.ireturn, 1) := by decide +kernel
theorem dX5_mostAlike_0 : decode cX5_mostAlike 0 = .ok (.iconst 0, 1) := by decide +kernel
theorem dX5_mostAlike_1 : decode cX5_mostAlike 1 = .ok (.istore_n 3, 1) := by decide +kernel
theorem dX5_mostAlike_2 : decode cX5_mostAlike 2 = .ok (.iconst 1, 1) := by decide +kernel
theorem dX5_mostAlike_3 : decode cX5_mostAlike 3 = .ok (.istore 4, 2) := by decide +kernel
theorem dX5_mostAlike_5 : decode cX5_mostAlike 5 = .ok (.iload 4, 2) := by decide +kernel
theorem dX5_mostAlike_7 : decode cX5_mostAlike 7 = .ok (.bipush 9, 2) := by decide +kernel
theorem dX5_mostAlike_9 : decode cX5_mostAlike 9 = .ok (.if_icmp .gt 36, 3) := by decide +kernel
theorem dX5_mostAlike_12 : decode cX5_mostAlike 12 = .ok (.aload_n 0, 1) := by decide +kernel
theorem dX5_mostAlike_13 : decode cX5_mostAlike 13 = .ok (.iload 4, 2) := by decide +kernel
theorem dX5_mostAlike_15 : decode cX5_mostAlike 15 = .ok (.invokevirtual 35, 3) := by decide +kernel
theorem dX5_mostAlike_18 : decode cX5_mostAlike 18 = .ok (.ifCond .eq 21, 3) := by decide +kernel
theorem dX5_mostAlike_21 : decode cX5_mostAlike 21 = .ok (.iload_n 3, 1) := by decide +kernel
theorem dX5_mostAlike_22 : decode cX5_mostAlike 22 = .ok (.aload_n 0, 1) := by decide +kernel
theorem dX5_mostAlike_23 : decode cX5_mostAlike 23 = .ok (.iload_n 1, 1) := by decide +kernel
theorem dX5_mostAlike_24 : decode cX5_mostAlike 24 = .ok (.iload_n 2, 1) := by decide +kernel
theorem dX5_mostAlike_25 : decode cX5_mostAlike 25 = .ok (.iload_n 1, 1) := by decide +kernel
theorem dX5_mostAlike_26 : decode cX5_mostAlike 26 = .ok (.iload_n 2, 1) := by decide +kernel
theorem dX5_mostAlike_27 : decode cX5_mostAlike 27 = .ok (.iload 4, 2) := by decide +kernel
theorem dX5_mostAlike_29 : decode cX5_mostAlike 29 = .ok (.invokestatic 31, 3) := by decide +kernel
theorem dX5_mostAlike_32 : decode cX5_mostAlike 32 = .ok (.invokevirtual 46, 3) := by decide +kernel
theorem dX5_mostAlike_35 : decode cX5_mostAlike 35 = .ok (.invokestatic 25, 3) := by decide +kernel
theorem dX5_mostAlike_38 : decode cX5_mostAlike 38 = .ok (.istore_n 3, 1) := by decide +kernel
theorem dX5_mostAlike_39 : decode cX5_mostAlike 39 = .ok (.iinc 4 1, 3) := by decide +kernel
theorem dX5_mostAlike_42 : decode cX5_mostAlike 42 = .ok (.goto (-37), 3) := by decide +kernel
theorem dX5_mostAlike_45 : decode cX5_mostAlike 45 = .ok (.iload_n 3, 1) := by decide +kernel
theorem dX5_mostAlike_46 : decode cX5_mostAlike 46 = .ok (.ireturn, 1) := by decide +kernel
theorem dX5_howManyAlike_0 : decode cX5_howManyAlike 0 = .ok (.iconst 0, 1) := by decide +kernel
theorem dX5_howManyAlike_1 : decode cX5_howManyAlike 1 = .ok (.istore 4, 2) := by decide +kernel
theorem dX5_howManyAlike_3 : decode cX5_howManyAlike 3 = .ok (.iconst 1, 1) := by decide +kernel
theorem dX5_howManyAlike_4 : decode cX5_howManyAlike 4 = .ok (.istore 5, 2) := by decide +kernel
theorem dX5_howManyAlike_6 : decode cX5_howManyAlike 6 = .ok (.iload 5, 2) := by decide +kernel
theorem dX5_howManyAlike_8 : decode cX5_howManyAlike 8 = .ok (.bipush 9, 2) := by decide +kernel
theorem dX5_howManyAlike_10 : decode cX5_howManyAlike 10 = .ok (.if_icmp .gt 32, 3) := by decide +kernel
theorem dX5_howManyAlike_13 : decode cX5_howManyAlike 13 = .ok (.aload_n 0, 1) := by decide +kernel
theorem dX5_howManyAlike_14 : decode cX5_howManyAlike 14 = .ok (.iload 5, 2) := by decide +kernel
theorem dX5_howManyAlike_16 : decode cX5_howManyAlike 16 = .ok (.invokevirtual 35, 3) := by decide +kernel
theorem dX5_howManyAlike_19 : decode cX5_howManyAlike 19 = .ok (.ifCond .eq 17, 3) := by decide +kernel
theorem dX5_howManyAlike_22 : decode cX5_howManyAlike 22 = .ok (.iload_n 1, 1) := by decide +kernel
theorem dX5_howManyAlike_23 : decode cX5_howManyAlike 23 = .ok (.iload_n 2, 1) := by decide +kernel
theorem dX5_howManyAlike_24 : decode cX5_howManyAlike 24 = .ok (.iload 5, 2) := by decide +kernel
theorem dX5_howManyAlike_26 : decode cX5_howManyAlike 26 = .ok (.invokestatic 31, 3) := by decide +kernel
theorem dX5_howManyAlike_29 : decode cX5_howManyAlike 29 = .ok (.iload_n 3, 1) := by decide +kernel
theorem dX5_howManyAlike_30 : decode cX5_howManyAlike 30 = .ok (.if_icmp .ne 6, 3) := by decide +kernel
theorem dX5_howManyAlike_33 : decode cX5_howManyAlike 33 = .ok (.iinc 4 1, 3) := by decide +kernel
theorem dX5_howManyAlike_36 : decode cX5_howManyAlike 36 = .ok (.iinc 5 1, 3) := by decide +kernel
theorem dX5_howManyAlike_39 : decode cX5_howManyAlike 39 = .ok (.goto (-33), 3) := by decide +kernel
theorem dX5_howManyAlike_42 : decode cX5_howManyAlike 42 = .ok (.iload 4, 2) := by decide +kernel
theorem dX5_howManyAlike_44 : decode cX5_howManyAlike 44 = .ok (.ireturn, 1) := by decide +kernel
theorem dX6_init_0 : decode cX6_init 0 = .ok (.aload_n 0, 1) := by decide +kernel
theorem dX6_init_1 : decode cX6_init 1 = .ok (.invokespecial 3, 3) := by decide +kernel
theorem dX6_init_4 : decode cX6_init 4 = .ok (.aload_n 0, 1) := by decide +kernel
theorem dX6_init_5 : decode cX6_init 5 = .ok (.bipush 120, 2) := by decide +kernel
theorem dX6_init_7 : decode cX6_init 7 = .ok (.newarray .int, 2) := by decide +kernel
theorem dX6_init_9 : decode cX6_init 9 = .ok (.putfield 9, 3) := by decide +kernel
theorem dX6_init_12 : decode cX6_init 12 = .ok (.aload_n 0, 1) := by decide +kernel
theorem dX6_init_13 : decode cX6_init 13 = .ok (.iconst 0, 1) := by decide +kernel
theorem dX6_init_14 : decode cX6_init 14 = .ok (.putfield 15, 3) := by decide +kernel
theorem dX6_init_17 : decode cX6_init 17 = .ok (.return_, 1) := by decide +kernel
theorem dX6_add_0 : decode cX6_add 0 = .ok (.aload_n 0, 1) := by decide +kernel
theorem dX6_add_1 : decode cX6_add 1 = .ok (.getfield 15, 3) := by decide +kernel
theorem dX6_add_4 : decode cX6_add 4 = .ok (.bipush 120, 2) := by decide +kernel
theorem dX6_add_6 : decode cX6_add 6 = .ok (.if_icmp .lt 5, 3) := by decide +kernel
theorem dX6_add_9 : decode cX6_add 9 = .ok (.iconst 0, 1) := by decide +kernel
theorem dX6_add_10 : decode cX6_add 10 = .ok (.ireturn, 1) := by decide +kernel
theorem dX6_add_11 : decode cX6_add 11 = .ok (.aload_n 0, 1) := by decide +kernel
theorem dX6_add_12 : decode cX6_add 12 = .ok (.getfield 9, 3) := by decide +kernel
theorem dX6_add_15 : decode cX6_add 15 = .ok (.aload_n 0, 1) := by decide +kernel
theorem dX6_add_16 : decode cX6_add 16 = .ok (.getfield 15, 3) := by decide +kernel
theorem dX6_add_19 : decode cX6_add 19 = .ok (.iload_n 1, 1) := by decide +kernel
theorem dX6_add_20 : decode cX6_add 20 = .ok (.iastore, 1) := by decide +kernel
theorem dX6_add_21 : decode cX6_add 21 = .ok (.aload_n 0, 1) := by decide +kernel
theorem dX6_add_22 : decode cX6_add 22 = .ok (.dup, 1) := by decide +kernel
theorem dX6_add_23 : decode cX6_add 23 = .ok (.getfield 15, 3) := by decide +kernel
theorem dX6_add_26 : decode cX6_add 26 = .ok (.iconst 1, 1) := by decide +kernel
theorem dX6_add_27 : decode cX6_add 27 = .ok (.iadd, 1) := by decide +kernel
theorem dX6_add_28 : decode cX6_add 28 = .ok (.putfield 15, 3) := by decide +kernel
theorem dX6_add_31 : decode cX6_add 31 = .ok (.iconst 1, 1) := by decide +kernel
theorem dX6_add_32 : decode cX6_add 32 = .ok (.ireturn, 1) := by decide +kernel
theorem dX7_init_0 : decode cX7_init 0 = .ok (.aload_n 0, 1) := by decide +kernel
theorem dX7_init_1 : decode cX7_init 1 = .ok (.invokespecial 3, 3) := by decide +kernel
theorem dX7_init_4 : decode cX7_init 4 = .ok (.aload_n 0, 1) := by decide +kernel
theorem dX7_init_5 : decode cX7_init 5 = .ok (.bipush 6, 2) := by decide +kernel
theorem dX7_init_7 : decode cX7_init 7 = .ok (.newarray .int, 2) := by decide +kernel
theorem dX7_init_9 : decode cX7_init 9 = .ok (.putfield 9, 3) := by decide +kernel
theorem dX7_init_12 : decode cX7_init 12 = .ok (.aload_n 0, 1) := by decide +kernel
theorem dX7_init_13 : decode cX7_init 13 = .ok (.bipush 8, 2) := by decide +kernel
theorem dX7_init_15 : decode cX7_init 15 = .ok (.putfield 15, 3) := by decide +kernel
theorem dX7_init_18 : decode cX7_init 18 = .ok (.aload_n 0, 1) := by decide +kernel
theorem dX7_init_19 : decode cX7_init 19 = .ok (.bipush 10, 2) := by decide +kernel
theorem dX7_init_21 : decode cX7_init 21 = .ok (.putfield 19, 3) := by decide +kernel
theorem dX7_init_24 : decode cX7_init 24 = .ok (.aload_n 0, 1) := by decide +kernel
theorem dX7_init_25 : decode cX7_init 25 = .ok (.iconst 0, 1) := by decide +kernel
theorem dX7_init_26 : decode cX7_init 26 = .ok (.putfield 22, 3) := by decide +kernel
theorem dX7_init_29 : decode cX7_init 29 = .ok (.return_, 1) := by decide +kernel
theorem dX7_copy_0 : decode cX7_copy 0 = .ok (.aload_n 0, 1) := by decide +kernel
theorem dX7_copy_1 : decode cX7_copy 1 = .ok (.aload_n 1, 1) := by decide +kernel
theorem dX7_copy_2 : decode cX7_copy 2 = .ok (.getfield 15, 3) := by decide +kernel
theorem dX7_copy_5 : decode cX7_copy 5 = .ok (.putfield 15, 3) := by decide +kernel
theorem dX7_copy_8 : decode cX7_copy 8 = .ok (.aload_n 0, 1) := by decide +kernel
theorem dX7_copy_9 : decode cX7_copy 9 = .ok (.aload_n 1, 1) := by decide +kernel
theorem dX7_copy_10 : decode cX7_copy 10 = .ok (.getfield 19, 3) := by decide +kernel
theorem dX7_copy_13 : decode cX7_copy 13 = .ok (.putfield 19, 3) := by decide +kernel
theorem dX7_copy_16 : decode cX7_copy 16 = .ok (.aload_n 0, 1) := by decide +kernel
theorem dX7_copy_17 : decode cX7_copy 17 = .ok (.aload_n 1, 1) := by decide +kernel
theorem dX7_copy_18 : decode cX7_copy 18 = .ok (.getfield 22, 3) := by decide +kernel
theorem dX7_copy_21 : decode cX7_copy 21 = .ok (.putfield 22, 3) := by decide +kernel
theorem dX7_copy_24 : decode cX7_copy 24 = .ok (.aload_n 1, 1) := by decide +kernel
theorem dX7_copy_25 : decode cX7_copy 25 = .ok (.getfield 9, 3) := by decide +kernel
theorem dX7_copy_28 : decode cX7_copy 28 = .ok (.iconst 0, 1) := by decide +kernel
theorem dX7_copy_29 : decode cX7_copy 29 = .ok (.aload_n 0, 1) := by decide +kernel
theorem dX7_copy_30 : decode cX7_copy 30 = .ok (.getfield 9, 3) := by decide +kernel
theorem dX7_copy_33 : decode cX7_copy 33 = .ok (.iconst 0, 1) := by decide +kernel
theorem dX7_copy_34 : decode cX7_copy 34 = .ok (.bipush 6, 2) := by decide +kernel
theorem dX7_copy_36 : decode cX7_copy 36 = .ok (.invokestatic 25, 3) := by decide +kernel
theorem dX7_copy_39 : decode cX7_copy 39 = .ok (.return_, 1) := by decide +kernel
theorem dX7_reset_0 : decode cX7_reset 0 = .ok (.aload_n 0, 1) := by decide +kernel
theorem dX7_reset_1 : decode cX7_reset 1 = .ok (.bipush 8, 2) := by decide +kernel
theorem dX7_reset_3 : decode cX7_reset 3 = .ok (.putfield 15, 3) := by decide +kernel
theorem dX7_reset_6 : decode cX7_reset 6 = .ok (.aload_n 0, 1) := by decide +kernel
theorem dX7_reset_7 : decode cX7_reset 7 = .ok (.bipush 10, 2) := by decide +kernel
theorem dX7_reset_9 : decode cX7_reset 9 = .ok (.putfield 19, 3) := by decide +kernel
theorem dX7_reset_12 : decode cX7_reset 12 = .ok (.aload_n 0, 1) := by decide +kernel
theorem dX7_reset_13 : decode cX7_reset 13 = .ok (.iconst 0, 1) := by decide +kernel
theorem dX7_reset_14 : decode cX7_reset 14 = .ok (.putfield 22, 3) := by decide +kernel
theorem dX7_reset_17 : decode cX7_reset 17 = .ok (.return_, 1) := by decide +kernel
end
section
theorem dX8_init_0 : decode cX8_init 0 = .ok (.aload_n 0, 1) := by decide +kernel
theorem dX8_init_1 : decode cX8_init 1 = .ok (.invokespecial 1, 3) := by decide +kernel
theorem dX8_init_4 : decode cX8_init 4 = .ok (.aload_n 0, 1) := by decide +kernel
theorem dX8_init_5 : decode cX8_init 5 = .ok (.new 7, 3) := by decide +kernel
theorem dX8_init_8 : decode cX8_init 8 = .ok (.dup, 1) := by decide +kernel
theorem dX8_init_9 : decode cX8_init 9 = .ok (.invokespecial 9, 3) := by decide +kernel
theorem dX8_init_12 : decode cX8_init 12 = .ok (.putfield 10, 3) := by decide +kernel
theorem dX8_init_15 : decode cX8_init 15 = .ok (.aload_n 0, 1) := by decide +kernel
theorem dX8_init_16 : decode cX8_init 16 = .ok (.new 16, 3) := by decide +kernel
theorem dX8_init_19 : decode cX8_init 19 = .ok (.dup, 1) := by decide +kernel
theorem dX8_init_20 : decode cX8_init 20 = .ok (.aload_n 0, 1) := by decide +kernel
theorem dX8_init_21 : decode cX8_init 21 = .ok (.getfield 10, 3) := by decide +kernel
theorem dX8_init_24 : decode cX8_init 24 = .ok (.invokespecial 18, 3) := by decide +kernel
theorem dX8_init_27 : decode cX8_init 27 = .ok (.putfield 21, 3) := by decide +kernel
theorem dX8_init_30 : decode cX8_init 30 = .ok (.aload_n 0, 1) := by decide +kernel
theorem dX8_init_31 : decode cX8_init 31 = .ok (.new 25, 3) := by decide +kernel
theorem dX8_init_34 : decode cX8_init 34 = .ok (.dup, 1) := by decide +kernel
theorem dX8_init_35 : decode cX8_init 35 = .ok (.invokespecial 27, 3) := by decide +kernel
theorem dX8_init_38 : decode cX8_init 38 = .ok (.putfield 28, 3) := by decide +kernel
theorem dX8_init_41 : decode cX8_init 41 = .ok (.aload_n 0, 1) := by decide +kernel
theorem dX8_init_42 : decode cX8_init 42 = .ok (.new 32, 3) := by decide +kernel
theorem dX8_init_45 : decode cX8_init 45 = .ok (.dup, 1) := by decide +kernel
theorem dX8_init_46 : decode cX8_init 46 = .ok (.invokespecial 34, 3) := by decide +kernel
theorem dX8_init_49 : decode cX8_init 49 = .ok (.putfield 35, 3) := by decide +kernel
theorem dX8_init_52 : decode cX8_init 52 = .ok (.aload_n 0, 1) := by decide +kernel
theorem dX8_init_53 : decode cX8_init 53 = .ok (.new 39, 3) := by decide +kernel
theorem dX8_init_56 : decode cX8_init 56 = .ok (.dup, 1) := by decide +kernel
theorem dX8_init_57 : decode cX8_init 57 = .ok (.invokespecial 41, 3) := by decide +kernel
theorem dX8_init_60 : decode cX8_init 60 = .ok (.putfield 42, 3) := by decide +kernel
theorem dX8_init_63 : decode cX8_init 63 = .ok (.aload_n 0, 1) := by decide +kernel
theorem dX8_init_64 : decode cX8_init 64 = .ok (.iconst 2, 1) := by decide +kernel
theorem dX8_init_65 : decode cX8_init 65 = .ok (.anewarray 32, 3) := by decide +kernel
theorem dX8_init_68 : decode cX8_init 68 = .ok (.putfield 46, 3) := by decide +kernel
theorem dX8_init_71 : decode cX8_init 71 = .ok (.aload_n 0, 1) := by decide +kernel
theorem dX8_init_72 : decode cX8_init 72 = .ok (.iconst 2, 1) := by decide +kernel
theorem dX8_init_73 : decode cX8_init 73 = .ok (.newarray .boolean, 2) := by decide +kernel
theorem dX8_init_75 : decode cX8_init 75 = .ok (.putfield 50, 3) := by decide +kernel
theorem dX8_init_78 : decode cX8_init 78 = .ok (.aload_n 0, 1) := by decide +kernel
theorem dX8_init_79 : decode cX8_init 79 = .ok (.new 54, 3) := by decide +kernel
theorem dX8_init_82 : decode cX8_init 82 = .ok (.dup, 1) := by decide +kernel
theorem dX8_init_83 : decode cX8_init 83 = .ok (.invokespecial 56, 3) := by decide +kernel
theorem dX8_init_86 : decode cX8_init 86 = .ok (.putfield 57, 3) := by decide +kernel
theorem dX8_init_89 : decode cX8_init 89 = .ok (.aload_n 0, 1) := by decide +kernel
theorem dX8_init_90 : decode cX8_init 90 = .ok (.new 61, 3) := by decide +kernel
theorem dX8_init_93 : decode cX8_init 93 = .ok (.dup, 1) := by decide +kernel
theorem dX8_init_94 : decode cX8_init 94 = .ok (.invokespecial 63, 3) := by decide +kernel
theorem dX8_init_97 : decode cX8_init 97 = .ok (.putfield 64, 3) := by decide +kernel
theorem dX8_init_100 : decode cX8_init 100 = .ok (.aload_n 0, 1) := by decide +kernel
theorem dX8_init_101 : decode cX8_init 101 = .ok (.new 68, 3) := by decide +kernel
theorem dX8_init_104 : decode cX8_init 104 = .ok (.dup, 1) := by decide +kernel
theorem dX8_init_105 : decode cX8_init 105 = .ok (.invokespecial 70, 3) := by decide +kernel
theorem dX8_init_108 : decode cX8_init 108 = .ok (.putfield 71, 3) := by decide +kernel
theorem dX8_init_111 : decode cX8_init 111 = .ok (.iconst 0, 1) := by decide +kernel
theorem dX8_init_112 : decode cX8_init 112 = .ok (.istore_n 1, 1) := by decide +kernel
theorem dX8_init_113 : decode cX8_init 113 = .ok (.iload_n 1, 1) := by decide +kernel
theorem dX8_init_114 : decode cX8_init 114 = .ok (.iconst 2, 1) := by decide +kernel
theorem dX8_init_115 : decode cX8_init 115 = .ok (.if_icmp .ge 22, 3) := by decide +kernel
theorem dX8_init_118 : decode cX8_init 118 = .ok (.aload_n 0, 1) := by decide +kernel
theorem dX8_init_119 : decode cX8_init 119 = .ok (.getfield 46, 3) := by decide +kernel
theorem dX8_init_122 : decode cX8_init 122 = .ok (.iload_n 1, 1) := by decide +kernel
theorem dX8_init_123 : decode cX8_init 123 = .ok (.new 32, 3) := by decide +kernel
theorem dX8_init_126 : decode cX8_init 126 = .ok (.dup, 1) := by decide +kernel
theorem dX8_init_127 : decode cX8_init 127 = .ok (.invokespecial 34, 3) := by decide +kernel
theorem dX8_init_130 : decode cX8_init 130 = .ok (.aastore, 1) := by decide +kernel
theorem dX8_init_131 : decode cX8_init 131 = .ok (.iinc 1 1, 3) := by decide +kernel
theorem dX8_init_134 : decode cX8_init 134 = .ok (.goto (-21), 3) := by decide +kernel
theorem dX8_init_137 : decode cX8_init 137 = .ok (.return_, 1) := by decide +kernel
theorem dX8_type_0 : decode cX8_type 0 = .ok (.iload_n 1, 1) := by decide +kernel
theorem dX8_type_1 : decode cX8_type 1 = .ok (.iconst 0, 1) := by decide +kernel
theorem dX8_type_2 : decode cX8_type 2 = .ok (.sipush 255, 3) := by decide +kernel
theorem dX8_type_5 : decode cX8_type 5 = .ok (.invokestatic 75, 3) := by decide +kernel
theorem dX8_type_8 : decode cX8_type 8 = .ok (.ifCond .ne 5, 3) := by decide +kernel
theorem dX8_type_11 : decode cX8_type 11 = .ok (.iconst (-1), 1) := by decide +kernel
theorem dX8_type_12 : decode cX8_type 12 = .ok (.ireturn, 1) := by decide +kernel
theorem dX8_type_13 : decode cX8_type 13 = .ok (.aload_n 0, 1) := by decide +kernel
theorem dX8_type_14 : decode cX8_type 14 = .ok (.getfield 10, 3) := by decide +kernel
theorem dX8_type_17 : decode cX8_type 17 = .ok (.iload_n 1, 1) := by decide +kernel
theorem dX8_type_18 : decode cX8_type 18 = .ok (.invokevirtual 79, 3) := by decide +kernel
theorem dX8_type_21 : decode cX8_type 21 = .ok (.ifCond .eq 13, 3) := by decide +kernel
theorem dX8_type_24 : decode cX8_type 24 = .ok (.aload_n 0, 1) := by decide +kernel
theorem dX8_type_25 : decode cX8_type 25 = .ok (.getfield 10, 3) := by decide +kernel
theorem dX8_type_28 : decode cX8_type 28 = .ok (.getfield 83, 3) := by decide +kernel
theorem dX8_type_31 : decode cX8_type 31 = .ok (.goto 5, 3) := by decide +kernel
theorem dX8_type_34 : decode cX8_type 34 = .ok (.bipush (-3), 2) := by decide +kernel
theorem dX8_type_36 : decode cX8_type 36 = .ok (.ireturn, 1) := by decide +kernel
theorem dX8_clear_0 : decode cX8_clear 0 = .ok (.aload_n 0, 1) := by decide +kernel
theorem dX8_clear_1 : decode cX8_clear 1 = .ok (.getfield 10, 3) := by decide +kernel
theorem dX8_clear_4 : decode cX8_clear 4 = .ok (.getfield 83, 3) := by decide +kernel
theorem dX8_clear_7 : decode cX8_clear 7 = .ok (.istore_n 1, 1) := by decide +kernel
theorem dX8_clear_8 : decode cX8_clear 8 = .ok (.aload_n 0, 1) := by decide +kernel
theorem dX8_clear_9 : decode cX8_clear 9 = .ok (.getfield 10, 3) := by decide +kernel
theorem dX8_clear_12 : decode cX8_clear 12 = .ok (.iconst 0, 1) := by decide +kernel
theorem dX8_clear_13 : decode cX8_clear 13 = .ok (.putfield 83, 3) := by decide +kernel
theorem dX8_clear_16 : decode cX8_clear 16 = .ok (.iload_n 1, 1) := by decide +kernel
theorem dX8_clear_17 : decode cX8_clear 17 = .ok (.ireturn, 1) := by decide +kernel
theorem dX8_tray_0 : decode cX8_tray 0 = .ok (.aload_n 0, 1) := by decide +kernel
theorem dX8_tray_1 : decode cX8_tray 1 = .ok (.getfield 21, 3) := by decide +kernel
theorem dX8_tray_4 : decode cX8_tray 4 = .ok (.invokevirtual 87, 3) := by decide +kernel
theorem dX8_tray_7 : decode cX8_tray 7 = .ok (.istore_n 1, 1) := by decide +kernel
theorem dX8_tray_8 : decode cX8_tray 8 = .ok (.iload_n 1, 1) := by decide +kernel
theorem dX8_tray_9 : decode cX8_tray 9 = .ok (.ifCond .ge 5, 3) := by decide +kernel
theorem dX8_tray_12 : decode cX8_tray 12 = .ok (.iload_n 1, 1) := by decide +kernel
theorem dX8_tray_13 : decode cX8_tray 13 = .ok (.ireturn, 1) := by decide +kernel
theorem dX8_tray_14 : decode cX8_tray 14 = .ok (.aload_n 0, 1) := by decide +kernel
theorem dX8_tray_15 : decode cX8_tray 15 = .ok (.getfield 28, 3) := by decide +kernel
theorem dX8_tray_18 : decode cX8_tray 18 = .ok (.aload_n 0, 1) := by decide +kernel
theorem dX8_tray_19 : decode cX8_tray 19 = .ok (.getfield 21, 3) := by decide +kernel
theorem dX8_tray_22 : decode cX8_tray 22 = .ok (.getfield 91, 3) := by decide +kernel
theorem dX8_tray_25 : decode cX8_tray 25 = .ok (.invokevirtual 94, 3) := by decide +kernel
theorem dX8_tray_28 : decode cX8_tray 28 = .ok (.aload_n 0, 1) := by decide +kernel
theorem dX8_tray_29 : decode cX8_tray 29 = .ok (.getfield 35, 3) := by decide +kernel
theorem dX8_tray_32 : decode cX8_tray 32 = .ok (.aload_n 0, 1) := by decide +kernel
theorem dX8_tray_33 : decode cX8_tray 33 = .ok (.getfield 21, 3) := by decide +kernel
theorem dX8_tray_36 : decode cX8_tray 36 = .ok (.getfield 98, 3) := by decide +kernel
theorem dX8_tray_39 : decode cX8_tray 39 = .ok (.invokevirtual 101, 3) := by decide +kernel
theorem dX8_tray_42 : decode cX8_tray 42 = .ok (.aload_n 0, 1) := by decide +kernel
theorem dX8_tray_43 : decode cX8_tray 43 = .ok (.getfield 42, 3) := by decide +kernel
theorem dX8_tray_46 : decode cX8_tray 46 = .ok (.iconst 0, 1) := by decide +kernel
theorem dX8_tray_47 : decode cX8_tray 47 = .ok (.putfield 104, 3) := by decide +kernel
theorem dX8_tray_50 : decode cX8_tray 50 = .ok (.aload_n 0, 1) := by decide +kernel
theorem dX8_tray_51 : decode cX8_tray 51 = .ok (.getfield 64, 3) := by decide +kernel
theorem dX8_tray_54 : decode cX8_tray 54 = .ok (.iconst 0, 1) := by decide +kernel
theorem dX8_tray_55 : decode cX8_tray 55 = .ok (.putfield 107, 3) := by decide +kernel
theorem dX8_tray_58 : decode cX8_tray 58 = .ok (.iconst 0, 1) := by decide +kernel
theorem dX8_tray_59 : decode cX8_tray 59 = .ok (.istore_n 2, 1) := by decide +kernel
theorem dX8_tray_60 : decode cX8_tray 60 = .ok (.iload_n 2, 1) := by decide +kernel
theorem dX8_tray_61 : decode cX8_tray 61 = .ok (.iconst 2, 1) := by decide +kernel
theorem dX8_tray_62 : decode cX8_tray 62 = .ok (.if_icmp .ge 16, 3) := by decide +kernel
theorem dX8_tray_65 : decode cX8_tray 65 = .ok (.aload_n 0, 1) := by decide +kernel
theorem dX8_tray_66 : decode cX8_tray 66 = .ok (.getfield 50, 3) := by decide +kernel
theorem dX8_tray_69 : decode cX8_tray 69 = .ok (.iload_n 2, 1) := by decide +kernel
theorem dX8_tray_70 : decode cX8_tray 70 = .ok (.iconst 0, 1) := by decide +kernel
theorem dX8_tray_71 : decode cX8_tray 71 = .ok (.bastore, 1) := by decide +kernel
theorem dX8_tray_72 : decode cX8_tray 72 = .ok (.iinc 2 1, 3) := by decide +kernel
theorem dX8_tray_75 : decode cX8_tray 75 = .ok (.goto (-15), 3) := by decide +kernel
theorem dX8_tray_78 : decode cX8_tray 78 = .ok (.aload_n 0, 1) := by decide +kernel
theorem dX8_tray_79 : decode cX8_tray 79 = .ok (.getfield 10, 3) := by decide +kernel
theorem dX8_tray_82 : decode cX8_tray 82 = .ok (.iconst 0, 1) := by decide +kernel
theorem dX8_tray_83 : decode cX8_tray 83 = .ok (.putfield 83, 3) := by decide +kernel
theorem dX8_tray_86 : decode cX8_tray 86 = .ok (.iload_n 1, 1) := by decide +kernel
theorem dX8_tray_87 : decode cX8_tray 87 = .ok (.ireturn, 1) := by decide +kernel
theorem dX8_top_0 : decode cX8_top 0 = .ok (.aload_n 0, 1) := by decide +kernel
theorem dX8_top_1 : decode cX8_top 1 = .ok (.iload_n 1, 1) := by decide +kernel
theorem dX8_top_2 : decode cX8_top 2 = .ok (.invokevirtual 108, 3) := by decide +kernel
theorem dX8_top_5 : decode cX8_top 5 = .ok (.ifCond .ne 5, 3) := by decide +kernel
theorem dX8_top_8 : decode cX8_top 8 = .ok (.iconst (-1), 1) := by decide +kernel
theorem dX8_top_9 : decode cX8_top 9 = .ok (.ireturn, 1) := by decide +kernel
theorem dX8_top_10 : decode cX8_top 10 = .ok (.iload_n 2, 1) := by decide +kernel
theorem dX8_top_11 : decode cX8_top 11 = .ok (.tableswitch 97 0 4 #[33, 43, 53, 63, 80], 33) := by decide +kernel
theorem dX8_top_44 : decode cX8_top 44 = .ok (.aload_n 0, 1) := by decide +kernel
theorem dX8_top_45 : decode cX8_top 45 = .ok (.getfield 35, 3) := by decide +kernel
theorem dX8_top_48 : decode cX8_top 48 = .ok (.getfield 111, 3) := by decide +kernel
theorem dX8_top_51 : decode cX8_top 51 = .ok (.iload_n 1, 1) := by decide +kernel
theorem dX8_top_52 : decode cX8_top 52 = .ok (.iaload, 1) := by decide +kernel
theorem dX8_top_53 : decode cX8_top 53 = .ok (.ireturn, 1) := by decide +kernel
theorem dX8_top_54 : decode cX8_top 54 = .ok (.aload_n 0, 1) := by decide +kernel
theorem dX8_top_55 : decode cX8_top 55 = .ok (.getfield 35, 3) := by decide +kernel
theorem dX8_top_58 : decode cX8_top 58 = .ok (.getfield 115, 3) := by decide +kernel
theorem dX8_top_61 : decode cX8_top 61 = .ok (.iload_n 1, 1) := by decide +kernel
theorem dX8_top_62 : decode cX8_top 62 = .ok (.iaload, 1) := by decide +kernel
theorem dX8_top_63 : decode cX8_top 63 = .ok (.ireturn, 1) := by decide +kernel
theorem dX8_top_64 : decode cX8_top 64 = .ok (.aload_n 0, 1) := by decide +kernel
theorem dX8_top_65 : decode cX8_top 65 = .ok (.getfield 28, 3) := by decide +kernel
theorem dX8_top_68 : decode cX8_top 68 = .ok (.getfield 118, 3) := by decide +kernel
theorem dX8_top_71 : decode cX8_top 71 = .ok (.iload_n 1, 1) := by decide +kernel
theorem dX8_top_72 : decode cX8_top 72 = .ok (.iaload, 1) := by decide +kernel
theorem dX8_top_73 : decode cX8_top 73 = .ok (.ireturn, 1) := by decide +kernel
theorem dX8_top_74 : decode cX8_top 74 = .ok (.aload_n 0, 1) := by decide +kernel
theorem dX8_top_75 : decode cX8_top 75 = .ok (.getfield 35, 3) := by decide +kernel
theorem dX8_top_78 : decode cX8_top 78 = .ok (.iload_n 1, 1) := by decide +kernel
theorem dX8_top_79 : decode cX8_top 79 = .ok (.invokevirtual 121, 3) := by decide +kernel
theorem dX8_top_82 : decode cX8_top 82 = .ok (.ifCond .eq 7, 3) := by decide +kernel
theorem dX8_top_85 : decode cX8_top 85 = .ok (.iconst 1, 1) := by decide +kernel
theorem dX8_top_86 : decode cX8_top 86 = .ok (.goto 4, 3) := by decide +kernel
theorem dX8_top_89 : decode cX8_top 89 = .ok (.iconst 0, 1) := by decide +kernel
theorem dX8_top_90 : decode cX8_top 90 = .ok (.ireturn, 1) := by decide +kernel
theorem dX8_top_91 : decode cX8_top 91 = .ok (.aload_n 0, 1) := by decide +kernel
theorem dX8_top_92 : decode cX8_top 92 = .ok (.getfield 57, 3) := by decide +kernel
theorem dX8_top_95 : decode cX8_top 95 = .ok (.aload_n 0, 1) := by decide +kernel
theorem dX8_top_96 : decode cX8_top 96 = .ok (.getfield 28, 3) := by decide +kernel
theorem dX8_top_99 : decode cX8_top 99 = .ok (.aload_n 0, 1) := by decide +kernel
theorem dX8_top_100 : decode cX8_top 100 = .ok (.getfield 35, 3) := by decide +kernel
theorem dX8_top_103 : decode cX8_top 103 = .ok (.iload_n 1, 1) := by decide +kernel
theorem dX8_top_104 : decode cX8_top 104 = .ok (.invokevirtual 124, 3) := by decide +kernel
theorem dX8_top_107 : decode cX8_top 107 = .ok (.ireturn, 1) := by decide +kernel
theorem dX8_top_108 : decode cX8_top 108 = .ok (.iconst (-1), 1) := by decide +kernel
theorem dX8_top_109 : decode cX8_top 109 = .ok (.ireturn, 1) := by decide +kernel
theorem dX8_at_0 : decode cX8_at 0 = .ok (.aload_n 0, 1) := by decide +kernel
theorem dX8_at_1 : decode cX8_at 1 = .ok (.iload_n 1, 1) := by decide +kernel
theorem dX8_at_2 : decode cX8_at 2 = .ok (.invokevirtual 128, 3) := by decide +kernel
theorem dX8_at_5 : decode cX8_at 5 = .ok (.ifCond .eq 14, 3) := by decide +kernel
theorem dX8_at_8 : decode cX8_at 8 = .ok (.aload_n 0, 1) := by decide +kernel
theorem dX8_at_9 : decode cX8_at 9 = .ok (.getfield 35, 3) := by decide +kernel
theorem dX8_at_12 : decode cX8_at 12 = .ok (.iload_n 1, 1) := by decide +kernel
theorem dX8_at_13 : decode cX8_at 13 = .ok (.invokevirtual 131, 3) := by decide +kernel
theorem dX8_at_16 : decode cX8_at 16 = .ok (.goto 4, 3) := by decide +kernel
theorem dX8_at_19 : decode cX8_at 19 = .ok (.iconst (-1), 1) := by decide +kernel
theorem dX8_at_20 : decode cX8_at 20 = .ok (.ireturn, 1) := by decide +kernel
theorem dX8_now_0 : decode cX8_now 0 = .ok (.iload_n 1, 1) := by decide +kernel
theorem dX8_now_1 : decode cX8_now 1 = .ok (.tableswitch 95 0 5 #[39, 47, 55, 63, 71, 87], 39) := by decide +kernel
theorem dX8_now_40 : decode cX8_now 40 = .ok (.aload_n 0, 1) := by decide +kernel
theorem dX8_now_41 : decode cX8_now 41 = .ok (.getfield 35, 3) := by decide +kernel
theorem dX8_now_44 : decode cX8_now 44 = .ok (.getfield 135, 3) := by decide +kernel
theorem dX8_now_47 : decode cX8_now 47 = .ok (.ireturn, 1) := by decide +kernel
theorem dX8_now_48 : decode cX8_now 48 = .ok (.aload_n 0, 1) := by decide +kernel
theorem dX8_now_49 : decode cX8_now 49 = .ok (.getfield 35, 3) := by decide +kernel
theorem dX8_now_52 : decode cX8_now 52 = .ok (.getfield 138, 3) := by decide +kernel
theorem dX8_now_55 : decode cX8_now 55 = .ok (.ireturn, 1) := by decide +kernel
theorem dX8_now_56 : decode cX8_now 56 = .ok (.aload_n 0, 1) := by decide +kernel
theorem dX8_now_57 : decode cX8_now 57 = .ok (.getfield 35, 3) := by decide +kernel
theorem dX8_now_60 : decode cX8_now 60 = .ok (.invokevirtual 141, 3) := by decide +kernel
theorem dX8_now_63 : decode cX8_now 63 = .ok (.ireturn, 1) := by decide +kernel
theorem dX8_now_64 : decode cX8_now 64 = .ok (.aload_n 0, 1) := by decide +kernel
theorem dX8_now_65 : decode cX8_now 65 = .ok (.getfield 35, 3) := by decide +kernel
theorem dX8_now_68 : decode cX8_now 68 = .ok (.invokevirtual 144, 3) := by decide +kernel
theorem dX8_now_71 : decode cX8_now 71 = .ok (.ireturn, 1) := by decide +kernel
theorem dX8_now_72 : decode cX8_now 72 = .ok (.aload_n 0, 1) := by decide +kernel
theorem dX8_now_73 : decode cX8_now 73 = .ok (.getfield 57, 3) := by decide +kernel
theorem dX8_now_76 : decode cX8_now 76 = .ok (.aload_n 0, 1) := by decide +kernel
theorem dX8_now_77 : decode cX8_now 77 = .ok (.getfield 28, 3) := by decide +kernel
theorem dX8_now_80 : decode cX8_now 80 = .ok (.aload_n 0, 1) := by decide +kernel
theorem dX8_now_81 : decode cX8_now 81 = .ok (.getfield 35, 3) := by decide +kernel
theorem dX8_now_84 : decode cX8_now 84 = .ok (.invokevirtual 147, 3) := by decide +kernel
theorem dX8_now_87 : decode cX8_now 87 = .ok (.ireturn, 1) := by decide +kernel
theorem dX8_now_88 : decode cX8_now 88 = .ok (.aload_n 0, 1) := by decide +kernel
theorem dX8_now_89 : decode cX8_now 89 = .ok (.getfield 42, 3) := by decide +kernel
theorem dX8_now_92 : decode cX8_now 92 = .ok (.getfield 104, 3) := by decide +kernel
theorem dX8_now_95 : decode cX8_now 95 = .ok (.ireturn, 1) := by decide +kernel
theorem dX8_now_96 : decode cX8_now 96 = .ok (.iconst (-1), 1) := by decide +kernel
theorem dX8_now_97 : decode cX8_now 97 = .ok (.ireturn, 1) := by decide +kernel
theorem dX8_beats_0 : decode cX8_beats 0 = .ok (.aload_n 0, 1) := by decide +kernel
theorem dX8_beats_1 : decode cX8_beats 1 = .ok (.getfield 35, 3) := by decide +kernel
theorem dX8_beats_4 : decode cX8_beats 4 = .ok (.getfield 135, 3) := by decide +kernel
theorem dX8_beats_7 : decode cX8_beats 7 = .ok (.sipush 999, 3) := by decide +kernel
theorem dX8_beats_10 : decode cX8_beats 10 = .ok (.if_icmp .lt 6, 3) := by decide +kernel
theorem dX8_beats_13 : decode cX8_beats 13 = .ok (.bipush (-2), 2) := by decide +kernel
theorem dX8_beats_15 : decode cX8_beats 15 = .ok (.ireturn, 1) := by decide +kernel
theorem dX8_beats_16 : decode cX8_beats 16 = .ok (.aload_n 0, 1) := by decide +kernel
theorem dX8_beats_17 : decode cX8_beats 17 = .ok (.getfield 42, 3) := by decide +kernel
theorem dX8_beats_20 : decode cX8_beats 20 = .ok (.aload_n 0, 1) := by decide +kernel
theorem dX8_beats_21 : decode cX8_beats 21 = .ok (.getfield 35, 3) := by decide +kernel
theorem dX8_beats_24 : decode cX8_beats 24 = .ok (.invokevirtual 151, 3) := by decide +kernel
theorem dX8_beats_27 : decode cX8_beats 27 = .ok (.aload_n 0, 1) := by decide +kernel
theorem dX8_beats_28 : decode cX8_beats 28 = .ok (.getfield 35, 3) := by decide +kernel
theorem dX8_beats_31 : decode cX8_beats 31 = .ok (.aload_n 0, 1) := by decide +kernel
theorem dX8_beats_32 : decode cX8_beats 32 = .ok (.getfield 28, 3) := by decide +kernel
theorem dX8_beats_35 : decode cX8_beats 35 = .ok (.iconst 1, 1) := by decide +kernel
theorem dX8_beats_36 : decode cX8_beats 36 = .ok (.invokevirtual 154, 3) := by decide +kernel
theorem dX8_beats_39 : decode cX8_beats 39 = .ok (.ireturn, 1) := by decide +kernel
theorem dX8_whips_0 : decode cX8_whips 0 = .ok (.aload_n 0, 1) := by decide +kernel
theorem dX8_whips_1 : decode cX8_whips 1 = .ok (.iload_n 1, 1) := by decide +kernel
theorem dX8_whips_2 : decode cX8_whips 2 = .ok (.invokevirtual 108, 3) := by decide +kernel
theorem dX8_whips_5 : decode cX8_whips 5 = .ok (.ifCond .eq 10, 3) := by decide +kernel
theorem dX8_whips_8 : decode cX8_whips 8 = .ok (.iload_n 2, 1) := by decide +kernel
theorem dX8_whips_9 : decode cX8_whips 9 = .ok (.invokestatic 158, 3) := by decide +kernel
theorem dX8_whips_12 : decode cX8_whips 12 = .ok (.ifCond .ne 5, 3) := by decide +kernel
theorem dX8_whips_15 : decode cX8_whips 15 = .ok (.iconst (-1), 1) := by decide +kernel
theorem dX8_whips_16 : decode cX8_whips 16 = .ok (.ireturn, 1) := by decide +kernel
theorem dX8_whips_17 : decode cX8_whips 17 = .ok (.aload_n 0, 1) := by decide +kernel
theorem dX8_whips_18 : decode cX8_whips 18 = .ok (.getfield 35, 3) := by decide +kernel
theorem dX8_whips_21 : decode cX8_whips 21 = .ok (.iload_n 1, 1) := by decide +kernel
theorem dX8_whips_22 : decode cX8_whips 22 = .ok (.invokevirtual 121, 3) := by decide +kernel
theorem dX8_whips_25 : decode cX8_whips 25 = .ok (.ifCond .ne 6, 3) := by decide +kernel
theorem dX8_whips_28 : decode cX8_whips 28 = .ok (.bipush (-2), 2) := by decide +kernel
theorem dX8_whips_30 : decode cX8_whips 30 = .ok (.ireturn, 1) := by decide +kernel
theorem dX8_whips_31 : decode cX8_whips 31 = .ok (.aload_n 0, 1) := by decide +kernel
theorem dX8_whips_32 : decode cX8_whips 32 = .ok (.getfield 42, 3) := by decide +kernel
theorem dX8_whips_35 : decode cX8_whips 35 = .ok (.aload_n 0, 1) := by decide +kernel
theorem dX8_whips_36 : decode cX8_whips 36 = .ok (.getfield 35, 3) := by decide +kernel
theorem dX8_whips_39 : decode cX8_whips 39 = .ok (.invokevirtual 151, 3) := by decide +kernel
theorem dX8_whips_42 : decode cX8_whips 42 = .ok (.aload_n 0, 1) := by decide +kernel
theorem dX8_whips_43 : decode cX8_whips 43 = .ok (.getfield 35, 3) := by decide +kernel
theorem dX8_whips_46 : decode cX8_whips 46 = .ok (.iload_n 1, 1) := by decide +kernel
theorem dX8_whips_47 : decode cX8_whips 47 = .ok (.iload_n 2, 1) := by decide +kernel
theorem dX8_whips_48 : decode cX8_whips 48 = .ok (.invokevirtual 161, 3) := by decide +kernel
theorem dX8_whips_51 : decode cX8_whips 51 = .ok (.aload_n 0, 1) := by decide +kernel
theorem dX8_whips_52 : decode cX8_whips 52 = .ok (.getfield 35, 3) := by decide +kernel
theorem dX8_whips_55 : decode cX8_whips 55 = .ok (.getfield 115, 3) := by decide +kernel
theorem dX8_whips_58 : decode cX8_whips 58 = .ok (.iload_n 1, 1) := by decide +kernel
theorem dX8_whips_59 : decode cX8_whips 59 = .ok (.iaload, 1) := by decide +kernel
theorem dX8_whips_60 : decode cX8_whips 60 = .ok (.ireturn, 1) := by decide +kernel
theorem dX8_tilts_0 : decode cX8_tilts 0 = .ok (.iload_n 1, 1) := by decide +kernel
theorem dX8_tilts_1 : decode cX8_tilts 1 = .ok (.iconst 0, 1) := by decide +kernel
theorem dX8_tilts_2 : decode cX8_tilts 2 = .ok (.iconst 2, 1) := by decide +kernel
theorem dX8_tilts_3 : decode cX8_tilts 3 = .ok (.invokestatic 75, 3) := by decide +kernel
theorem dX8_tilts_6 : decode cX8_tilts 6 = .ok (.ifCond .ne 5, 3) := by decide +kernel
theorem dX8_tilts_9 : decode cX8_tilts 9 = .ok (.iconst (-1), 1) := by decide +kernel
theorem dX8_tilts_10 : decode cX8_tilts 10 = .ok (.ireturn, 1) := by decide +kernel
theorem dX8_tilts_11 : decode cX8_tilts 11 = .ok (.aload_n 0, 1) := by decide +kernel
theorem dX8_tilts_12 : decode cX8_tilts 12 = .ok (.getfield 35, 3) := by decide +kernel
theorem dX8_tilts_15 : decode cX8_tilts 15 = .ok (.getfield 138, 3) := by decide +kernel
theorem dX8_tilts_18 : decode cX8_tilts 18 = .ok (.istore_n 2, 1) := by decide +kernel
theorem dX8_tilts_19 : decode cX8_tilts 19 = .ok (.iload_n 2, 1) := by decide +kernel
theorem dX8_tilts_20 : decode cX8_tilts 20 = .ok (.iload_n 1, 1) := by decide +kernel
theorem dX8_tilts_21 : decode cX8_tilts 21 = .ok (.if_icmp .ne 6, 3) := by decide +kernel
theorem dX8_tilts_24 : decode cX8_tilts 24 = .ok (.bipush (-2), 2) := by decide +kernel
theorem dX8_tilts_26 : decode cX8_tilts 26 = .ok (.ireturn, 1) := by decide +kernel
theorem dX8_tilts_27 : decode cX8_tilts 27 = .ok (.aload_n 0, 1) := by decide +kernel
theorem dX8_tilts_28 : decode cX8_tilts 28 = .ok (.getfield 42, 3) := by decide +kernel
theorem dX8_tilts_31 : decode cX8_tilts 31 = .ok (.aload_n 0, 1) := by decide +kernel
theorem dX8_tilts_32 : decode cX8_tilts 32 = .ok (.getfield 35, 3) := by decide +kernel
theorem dX8_tilts_35 : decode cX8_tilts 35 = .ok (.invokevirtual 151, 3) := by decide +kernel
theorem dX8_tilts_38 : decode cX8_tilts 38 = .ok (.aload_n 0, 1) := by decide +kernel
theorem dX8_tilts_39 : decode cX8_tilts 39 = .ok (.getfield 35, 3) := by decide +kernel
theorem dX8_tilts_42 : decode cX8_tilts 42 = .ok (.iload_n 1, 1) := by decide +kernel
theorem dX8_tilts_43 : decode cX8_tilts 43 = .ok (.putfield 138, 3) := by decide +kernel
theorem dX8_tilts_46 : decode cX8_tilts 46 = .ok (.iload_n 2, 1) := by decide +kernel
theorem dX8_tilts_47 : decode cX8_tilts 47 = .ok (.ireturn, 1) := by decide +kernel
theorem dX8_sets_0 : decode cX8_sets 0 = .ok (.aload_n 0, 1) := by decide +kernel
theorem dX8_sets_1 : decode cX8_sets 1 = .ok (.iload_n 1, 1) := by decide +kernel
theorem dX8_sets_2 : decode cX8_sets 2 = .ok (.invokevirtual 108, 3) := by decide +kernel
theorem dX8_sets_5 : decode cX8_sets 5 = .ok (.ifCond .eq 11, 3) := by decide +kernel
theorem dX8_sets_8 : decode cX8_sets 8 = .ok (.aload_n 0, 1) := by decide +kernel
theorem dX8_sets_9 : decode cX8_sets 9 = .ok (.iload_n 2, 1) := by decide +kernel
theorem dX8_sets_10 : decode cX8_sets 10 = .ok (.invokevirtual 128, 3) := by decide +kernel
theorem dX8_sets_13 : decode cX8_sets 13 = .ok (.ifCond .ne 5, 3) := by decide +kernel
theorem dX8_sets_16 : decode cX8_sets 16 = .ok (.iconst (-1), 1) := by decide +kernel
theorem dX8_sets_17 : decode cX8_sets 17 = .ok (.ireturn, 1) := by decide +kernel
theorem dX8_sets_18 : decode cX8_sets 18 = .ok (.aload_n 0, 1) := by decide +kernel
theorem dX8_sets_19 : decode cX8_sets 19 = .ok (.getfield 35, 3) := by decide +kernel
theorem dX8_sets_22 : decode cX8_sets 22 = .ok (.iload_n 1, 1) := by decide +kernel
theorem dX8_sets_23 : decode cX8_sets 23 = .ok (.invokevirtual 121, 3) := by decide +kernel
theorem dX8_sets_26 : decode cX8_sets 26 = .ok (.ifCond .eq 16, 3) := by decide +kernel
theorem dX8_sets_29 : decode cX8_sets 29 = .ok (.aload_n 0, 1) := by decide +kernel
theorem dX8_sets_30 : decode cX8_sets 30 = .ok (.getfield 35, 3) := by decide +kernel
theorem dX8_sets_33 : decode cX8_sets 33 = .ok (.iload_n 2, 1) := by decide +kernel
theorem dX8_sets_34 : decode cX8_sets 34 = .ok (.invokevirtual 131, 3) := by decide +kernel
theorem dX8_sets_37 : decode cX8_sets 37 = .ok (.bipush (-9), 2) := by decide +kernel
theorem dX8_sets_39 : decode cX8_sets 39 = .ok (.if_icmp .eq 6, 3) := by decide +kernel
theorem dX8_sets_42 : decode cX8_sets 42 = .ok (.bipush (-2), 2) := by decide +kernel
theorem dX8_sets_44 : decode cX8_sets 44 = .ok (.ireturn, 1) := by decide +kernel
theorem dX8_sets_45 : decode cX8_sets 45 = .ok (.aload_n 0, 1) := by decide +kernel
theorem dX8_sets_46 : decode cX8_sets 46 = .ok (.getfield 42, 3) := by decide +kernel
theorem dX8_sets_49 : decode cX8_sets 49 = .ok (.aload_n 0, 1) := by decide +kernel
theorem dX8_sets_50 : decode cX8_sets 50 = .ok (.getfield 35, 3) := by decide +kernel
theorem dX8_sets_53 : decode cX8_sets 53 = .ok (.invokevirtual 151, 3) := by decide +kernel
theorem dX8_sets_56 : decode cX8_sets 56 = .ok (.aload_n 0, 1) := by decide +kernel
theorem dX8_sets_57 : decode cX8_sets 57 = .ok (.getfield 35, 3) := by decide +kernel
theorem dX8_sets_60 : decode cX8_sets 60 = .ok (.getfield 111, 3) := by decide +kernel
theorem dX8_sets_63 : decode cX8_sets 63 = .ok (.iload_n 1, 1) := by decide +kernel
theorem dX8_sets_64 : decode cX8_sets 64 = .ok (.iaload, 1) := by decide +kernel
theorem dX8_sets_65 : decode cX8_sets 65 = .ok (.istore_n 3, 1) := by decide +kernel
theorem dX8_sets_66 : decode cX8_sets 66 = .ok (.aload_n 0, 1) := by decide +kernel
theorem dX8_sets_67 : decode cX8_sets 67 = .ok (.getfield 35, 3) := by decide +kernel
theorem dX8_sets_70 : decode cX8_sets 70 = .ok (.getfield 111, 3) := by decide +kernel
theorem dX8_sets_73 : decode cX8_sets 73 = .ok (.iload_n 1, 1) := by decide +kernel
theorem dX8_sets_74 : decode cX8_sets 74 = .ok (.iload_n 2, 1) := by decide +kernel
theorem dX8_sets_75 : decode cX8_sets 75 = .ok (.iastore, 1) := by decide +kernel
theorem dX8_sets_76 : decode cX8_sets 76 = .ok (.iload_n 3, 1) := by decide +kernel
theorem dX8_sets_77 : decode cX8_sets 77 = .ok (.ireturn, 1) := by decide +kernel
theorem dX8_undo_0 : decode cX8_undo 0 = .ok (.aload_n 0, 1) := by decide +kernel
theorem dX8_undo_1 : decode cX8_undo 1 = .ok (.getfield 42, 3) := by decide +kernel
theorem dX8_undo_4 : decode cX8_undo 4 = .ok (.aload_n 0, 1) := by decide +kernel
theorem dX8_undo_5 : decode cX8_undo 5 = .ok (.getfield 35, 3) := by decide +kernel
theorem dX8_undo_8 : decode cX8_undo 8 = .ok (.invokevirtual 165, 3) := by decide +kernel
theorem dX8_undo_11 : decode cX8_undo 11 = .ok (.ifCond .eq 13, 3) := by decide +kernel
theorem dX8_undo_14 : decode cX8_undo 14 = .ok (.aload_n 0, 1) := by decide +kernel
theorem dX8_undo_15 : decode cX8_undo 15 = .ok (.getfield 42, 3) := by decide +kernel
theorem dX8_undo_18 : decode cX8_undo 18 = .ok (.getfield 104, 3) := by decide +kernel
theorem dX8_undo_21 : decode cX8_undo 21 = .ok (.goto 5, 3) := by decide +kernel
theorem dX8_undo_24 : decode cX8_undo 24 = .ok (.bipush (-2), 2) := by decide +kernel
theorem dX8_undo_26 : decode cX8_undo 26 = .ok (.ireturn, 1) := by decide +kernel
theorem dX8_stand_0 : decode cX8_stand 0 = .ok (.iload_n 1, 1) := by decide +kernel
theorem dX8_stand_1 : decode cX8_stand 1 = .ok (.invokestatic 169, 3) := by decide +kernel
theorem dX8_stand_4 : decode cX8_stand 4 = .ok (.ifCond .eq 22, 3) := by decide +kernel
theorem dX8_stand_7 : decode cX8_stand 7 = .ok (.aload_n 0, 1) := by decide +kernel
theorem dX8_stand_8 : decode cX8_stand 8 = .ok (.getfield 57, 3) := by decide +kernel
theorem dX8_stand_11 : decode cX8_stand 11 = .ok (.aload_n 0, 1) := by decide +kernel
theorem dX8_stand_12 : decode cX8_stand 12 = .ok (.getfield 28, 3) := by decide +kernel
theorem dX8_stand_15 : decode cX8_stand 15 = .ok (.aload_n 0, 1) := by decide +kernel
theorem dX8_stand_16 : decode cX8_stand 16 = .ok (.getfield 35, 3) := by decide +kernel
theorem dX8_stand_19 : decode cX8_stand 19 = .ok (.iload_n 1, 1) := by decide +kernel
theorem dX8_stand_20 : decode cX8_stand 20 = .ok (.invokevirtual 172, 3) := by decide +kernel
theorem dX8_stand_23 : decode cX8_stand 23 = .ok (.goto 4, 3) := by decide +kernel
theorem dX8_stand_26 : decode cX8_stand 26 = .ok (.iconst (-1), 1) := by decide +kernel
theorem dX8_stand_27 : decode cX8_stand 27 = .ok (.ireturn, 1) := by decide +kernel
theorem dX8_whip_0 : decode cX8_whip 0 = .ok (.iload_n 1, 1) := by decide +kernel
theorem dX8_whip_1 : decode cX8_whip 1 = .ok (.invokestatic 158, 3) := by decide +kernel
theorem dX8_whip_4 : decode cX8_whip 4 = .ok (.ifCond .eq 30, 3) := by decide +kernel
theorem dX8_whip_7 : decode cX8_whip 7 = .ok (.iload_n 2, 1) := by decide +kernel
theorem dX8_whip_8 : decode cX8_whip 8 = .ok (.invokestatic 169, 3) := by decide +kernel
theorem dX8_whip_11 : decode cX8_whip 11 = .ok (.ifCond .eq 23, 3) := by decide +kernel
theorem dX8_whip_14 : decode cX8_whip 14 = .ok (.aload_n 0, 1) := by decide +kernel
theorem dX8_whip_15 : decode cX8_whip 15 = .ok (.getfield 57, 3) := by decide +kernel
theorem dX8_whip_18 : decode cX8_whip 18 = .ok (.aload_n 0, 1) := by decide +kernel
theorem dX8_whip_19 : decode cX8_whip 19 = .ok (.getfield 28, 3) := by decide +kernel
theorem dX8_whip_22 : decode cX8_whip 22 = .ok (.aload_n 0, 1) := by decide +kernel
theorem dX8_whip_23 : decode cX8_whip 23 = .ok (.getfield 35, 3) := by decide +kernel
theorem dX8_whip_26 : decode cX8_whip 26 = .ok (.iload_n 1, 1) := by decide +kernel
theorem dX8_whip_27 : decode cX8_whip 27 = .ok (.iload_n 2, 1) := by decide +kernel
theorem dX8_whip_28 : decode cX8_whip 28 = .ok (.invokevirtual 174, 3) := by decide +kernel
theorem dX8_whip_31 : decode cX8_whip 31 = .ok (.goto 4, 3) := by decide +kernel
theorem dX8_whip_34 : decode cX8_whip 34 = .ok (.iconst (-1), 1) := by decide +kernel
theorem dX8_whip_35 : decode cX8_whip 35 = .ok (.ireturn, 1) := by decide +kernel
theorem dX8_row_0 : decode cX8_row 0 = .ok (.iload_n 1, 1) := by decide +kernel
theorem dX8_row_1 : decode cX8_row 1 = .ok (.iconst 0, 1) := by decide +kernel
theorem dX8_row_2 : decode cX8_row 2 = .ok (.iconst 5, 1) := by decide +kernel
theorem dX8_row_3 : decode cX8_row 3 = .ok (.invokestatic 75, 3) := by decide +kernel
theorem dX8_row_6 : decode cX8_row 6 = .ok (.ifCond .eq 12, 3) := by decide +kernel
theorem dX8_row_9 : decode cX8_row 9 = .ok (.iload_n 2, 1) := by decide +kernel
theorem dX8_row_10 : decode cX8_row 10 = .ok (.iconst (-1), 1) := by decide +kernel
theorem dX8_row_11 : decode cX8_row 11 = .ok (.iconst 4, 1) := by decide +kernel
theorem dX8_row_12 : decode cX8_row 12 = .ok (.invokestatic 75, 3) := by decide +kernel
theorem dX8_row_15 : decode cX8_row 15 = .ok (.ifCond .ne 5, 3) := by decide +kernel
theorem dX8_row_18 : decode cX8_row 18 = .ok (.iconst (-1), 1) := by decide +kernel
theorem dX8_row_19 : decode cX8_row 19 = .ok (.ireturn, 1) := by decide +kernel
theorem dX8_row_20 : decode cX8_row 20 = .ok (.aload_n 0, 1) := by decide +kernel
theorem dX8_row_21 : decode cX8_row 21 = .ok (.getfield 57, 3) := by decide +kernel
theorem dX8_row_24 : decode cX8_row 24 = .ok (.aload_n 0, 1) := by decide +kernel
theorem dX8_row_25 : decode cX8_row 25 = .ok (.getfield 28, 3) := by decide +kernel
theorem dX8_row_28 : decode cX8_row 28 = .ok (.aload_n 0, 1) := by decide +kernel
theorem dX8_row_29 : decode cX8_row 29 = .ok (.getfield 35, 3) := by decide +kernel
theorem dX8_row_32 : decode cX8_row 32 = .ok (.iload_n 1, 1) := by decide +kernel
theorem dX8_row_33 : decode cX8_row 33 = .ok (.invokevirtual 178, 3) := by decide +kernel
theorem dX8_row_36 : decode cX8_row 36 = .ok (.iload_n 2, 1) := by decide +kernel
theorem dX8_row_37 : decode cX8_row 37 = .ok (.ifCond .ge 11, 3) := by decide +kernel
theorem dX8_row_40 : decode cX8_row 40 = .ok (.aload_n 0, 1) := by decide +kernel
theorem dX8_row_41 : decode cX8_row 41 = .ok (.getfield 57, 3) := by decide +kernel
theorem dX8_row_44 : decode cX8_row 44 = .ok (.getfield 182, 3) := by decide +kernel
theorem dX8_row_47 : decode cX8_row 47 = .ok (.ireturn, 1) := by decide +kernel
theorem dX8_row_48 : decode cX8_row 48 = .ok (.iload_n 2, 1) := by decide +kernel
theorem dX8_row_49 : decode cX8_row 49 = .ok (.iload_n 1, 1) := by decide +kernel
theorem dX8_row_50 : decode cX8_row 50 = .ok (.if_icmp .ge 22, 3) := by decide +kernel
theorem dX8_row_53 : decode cX8_row 53 = .ok (.aload_n 0, 1) := by decide +kernel
theorem dX8_row_54 : decode cX8_row 54 = .ok (.getfield 57, 3) := by decide +kernel
theorem dX8_row_57 : decode cX8_row 57 = .ok (.aload_n 0, 1) := by decide +kernel
theorem dX8_row_58 : decode cX8_row 58 = .ok (.getfield 57, 3) := by decide +kernel
theorem dX8_row_61 : decode cX8_row 61 = .ok (.getfield 185, 3) := by decide +kernel
theorem dX8_row_64 : decode cX8_row 64 = .ok (.iload_n 1, 1) := by decide +kernel
theorem dX8_row_65 : decode cX8_row 65 = .ok (.iload_n 2, 1) := by decide +kernel
theorem dX8_row_66 : decode cX8_row 66 = .ok (.invokevirtual 188, 3) := by decide +kernel
theorem dX8_row_69 : decode cX8_row 69 = .ok (.goto 5, 3) := by decide +kernel
theorem dX8_row_72 : decode cX8_row 72 = .ok (.bipush (-9), 2) := by decide +kernel
theorem dX8_row_74 : decode cX8_row 74 = .ok (.ireturn, 1) := by decide +kernel
theorem dX8_odds_0 : decode cX8_odds 0 = .ok (.aload_n 0, 1) := by decide +kernel
theorem dX8_odds_1 : decode cX8_odds 1 = .ok (.iload_n 1, 1) := by decide +kernel
theorem dX8_odds_2 : decode cX8_odds 2 = .ok (.invokevirtual 108, 3) := by decide +kernel
theorem dX8_odds_5 : decode cX8_odds 5 = .ok (.ifCond .eq 30, 3) := by decide +kernel
theorem dX8_odds_8 : decode cX8_odds 8 = .ok (.iload_n 2, 1) := by decide +kernel
theorem dX8_odds_9 : decode cX8_odds 9 = .ok (.iconst 0, 1) := by decide +kernel
theorem dX8_odds_10 : decode cX8_odds 10 = .ok (.bipush 10, 2) := by decide +kernel
theorem dX8_odds_12 : decode cX8_odds 12 = .ok (.invokestatic 75, 3) := by decide +kernel
theorem dX8_odds_15 : decode cX8_odds 15 = .ok (.ifCond .eq 20, 3) := by decide +kernel
theorem dX8_odds_18 : decode cX8_odds 18 = .ok (.iload_n 3, 1) := by decide +kernel
theorem dX8_odds_19 : decode cX8_odds 19 = .ok (.invokestatic 169, 3) := by decide +kernel
theorem dX8_odds_22 : decode cX8_odds 22 = .ok (.ifCond .eq 13, 3) := by decide +kernel
theorem dX8_odds_25 : decode cX8_odds 25 = .ok (.iload 4, 2) := by decide +kernel
theorem dX8_odds_27 : decode cX8_odds 27 = .ok (.iconst 0, 1) := by decide +kernel
theorem dX8_odds_28 : decode cX8_odds 28 = .ok (.iconst 1, 1) := by decide +kernel
theorem dX8_odds_29 : decode cX8_odds 29 = .ok (.invokestatic 75, 3) := by decide +kernel
theorem dX8_odds_32 : decode cX8_odds 32 = .ok (.ifCond .ne 5, 3) := by decide +kernel
theorem dX8_odds_35 : decode cX8_odds 35 = .ok (.iconst (-1), 1) := by decide +kernel
theorem dX8_odds_36 : decode cX8_odds 36 = .ok (.ireturn, 1) := by decide +kernel
theorem dX8_odds_37 : decode cX8_odds 37 = .ok (.aload_n 0, 1) := by decide +kernel
theorem dX8_odds_38 : decode cX8_odds 38 = .ok (.getfield 57, 3) := by decide +kernel
theorem dX8_odds_41 : decode cX8_odds 41 = .ok (.aload_n 0, 1) := by decide +kernel
theorem dX8_odds_42 : decode cX8_odds 42 = .ok (.getfield 28, 3) := by decide +kernel
theorem dX8_odds_45 : decode cX8_odds 45 = .ok (.aload_n 0, 1) := by decide +kernel
theorem dX8_odds_46 : decode cX8_odds 46 = .ok (.getfield 35, 3) := by decide +kernel
theorem dX8_odds_49 : decode cX8_odds 49 = .ok (.iload_n 1, 1) := by decide +kernel
theorem dX8_odds_50 : decode cX8_odds 50 = .ok (.iload_n 2, 1) := by decide +kernel
theorem dX8_odds_51 : decode cX8_odds 51 = .ok (.iload_n 3, 1) := by decide +kernel
theorem dX8_odds_52 : decode cX8_odds 52 = .ok (.invokevirtual 192, 3) := by decide +kernel
theorem dX8_odds_55 : decode cX8_odds 55 = .ok (.iload 4, 2) := by decide +kernel
theorem dX8_odds_57 : decode cX8_odds 57 = .ok (.ifCond .ne 13, 3) := by decide +kernel
theorem dX8_odds_60 : decode cX8_odds 60 = .ok (.aload_n 0, 1) := by decide +kernel
theorem dX8_odds_61 : decode cX8_odds 61 = .ok (.getfield 57, 3) := by decide +kernel
theorem dX8_odds_64 : decode cX8_odds 64 = .ok (.getfield 196, 3) := by decide +kernel
theorem dX8_odds_67 : decode cX8_odds 67 = .ok (.goto 10, 3) := by decide +kernel
theorem dX8_odds_70 : decode cX8_odds 70 = .ok (.aload_n 0, 1) := by decide +kernel
theorem dX8_odds_71 : decode cX8_odds 71 = .ok (.getfield 57, 3) := by decide +kernel
theorem dX8_odds_74 : decode cX8_odds 74 = .ok (.getfield 199, 3) := by decide +kernel
theorem dX8_odds_77 : decode cX8_odds 77 = .ok (.ireturn, 1) := by decide +kernel
theorem dX8_sees_0 : decode cX8_sees 0 = .ok (.iload_n 1, 1) := by decide +kernel
theorem dX8_sees_1 : decode cX8_sees 1 = .ok (.invokestatic 202, 3) := by decide +kernel
theorem dX8_sees_4 : decode cX8_sees 4 = .ok (.ifCond .eq 23, 3) := by decide +kernel
theorem dX8_sees_7 : decode cX8_sees 7 = .ok (.iload_n 2, 1) := by decide +kernel
theorem dX8_sees_8 : decode cX8_sees 8 = .ok (.iconst 1, 1) := by decide +kernel
theorem dX8_sees_9 : decode cX8_sees 9 = .ok (.bipush 20, 2) := by decide +kernel
theorem dX8_sees_11 : decode cX8_sees 11 = .ok (.invokestatic 75, 3) := by decide +kernel
theorem dX8_sees_14 : decode cX8_sees 14 = .ok (.ifCond .eq 13, 3) := by decide +kernel
theorem dX8_sees_17 : decode cX8_sees 17 = .ok (.iload_n 3, 1) := by decide +kernel
theorem dX8_sees_18 : decode cX8_sees 18 = .ok (.iconst 0, 1) := by decide +kernel
theorem dX8_sees_19 : decode cX8_sees 19 = .ok (.bipush 60, 2) := by decide +kernel
theorem dX8_sees_21 : decode cX8_sees 21 = .ok (.invokestatic 75, 3) := by decide +kernel
theorem dX8_sees_24 : decode cX8_sees 24 = .ok (.ifCond .ne 5, 3) := by decide +kernel
theorem dX8_sees_27 : decode cX8_sees 27 = .ok (.iconst (-1), 1) := by decide +kernel
theorem dX8_sees_28 : decode cX8_sees 28 = .ok (.ireturn, 1) := by decide +kernel
theorem dX8_sees_29 : decode cX8_sees 29 = .ok (.aload_n 0, 1) := by decide +kernel
theorem dX8_sees_30 : decode cX8_sees 30 = .ok (.getfield 64, 3) := by decide +kernel
theorem dX8_sees_33 : decode cX8_sees 33 = .ok (.iload_n 1, 1) := by decide +kernel
theorem dX8_sees_34 : decode cX8_sees 34 = .ok (.iload_n 2, 1) := by decide +kernel
theorem dX8_sees_35 : decode cX8_sees 35 = .ok (.iload_n 3, 1) := by decide +kernel
theorem dX8_sees_36 : decode cX8_sees 36 = .ok (.invokevirtual 205, 3) := by decide +kernel
theorem dX8_sees_39 : decode cX8_sees 39 = .ok (.ifCond .eq 13, 3) := by decide +kernel
theorem dX8_sees_42 : decode cX8_sees 42 = .ok (.aload_n 0, 1) := by decide +kernel
theorem dX8_sees_43 : decode cX8_sees 43 = .ok (.getfield 64, 3) := by decide +kernel
theorem dX8_sees_46 : decode cX8_sees 46 = .ok (.getfield 107, 3) := by decide +kernel
theorem dX8_sees_49 : decode cX8_sees 49 = .ok (.goto 5, 3) := by decide +kernel
theorem dX8_sees_52 : decode cX8_sees 52 = .ok (.bipush (-3), 2) := by decide +kernel
theorem dX8_sees_54 : decode cX8_sees 54 = .ok (.ireturn, 1) := by decide +kernel
theorem dX8_forget_0 : decode cX8_forget 0 = .ok (.aload_n 0, 1) := by decide +kernel
theorem dX8_forget_1 : decode cX8_forget 1 = .ok (.getfield 64, 3) := by decide +kernel
theorem dX8_forget_4 : decode cX8_forget 4 = .ok (.getfield 107, 3) := by decide +kernel
theorem dX8_forget_7 : decode cX8_forget 7 = .ok (.istore_n 1, 1) := by decide +kernel
theorem dX8_forget_8 : decode cX8_forget 8 = .ok (.aload_n 0, 1) := by decide +kernel
theorem dX8_forget_9 : decode cX8_forget 9 = .ok (.getfield 64, 3) := by decide +kernel
theorem dX8_forget_12 : decode cX8_forget 12 = .ok (.iconst 0, 1) := by decide +kernel
theorem dX8_forget_13 : decode cX8_forget 13 = .ok (.putfield 107, 3) := by decide +kernel
theorem dX8_forget_16 : decode cX8_forget 16 = .ok (.iload_n 1, 1) := by decide +kernel
theorem dX8_forget_17 : decode cX8_forget 17 = .ok (.ireturn, 1) := by decide +kernel
theorem dX8_drags_0 : decode cX8_drags 0 = .ok (.iload_n 1, 1) := by decide +kernel
theorem dX8_drags_1 : decode cX8_drags 1 = .ok (.tableswitch 51 0 2 #[27, 35, 43], 27) := by decide +kernel
theorem dX8_drags_28 : decode cX8_drags 28 = .ok (.aload_n 0, 1) := by decide +kernel
theorem dX8_drags_29 : decode cX8_drags 29 = .ok (.getfield 64, 3) := by decide +kernel
theorem dX8_drags_32 : decode cX8_drags 32 = .ok (.invokevirtual 207, 3) := by decide +kernel
theorem dX8_drags_35 : decode cX8_drags 35 = .ok (.ireturn, 1) := by decide +kernel
theorem dX8_drags_36 : decode cX8_drags 36 = .ok (.aload_n 0, 1) := by decide +kernel
theorem dX8_drags_37 : decode cX8_drags 37 = .ok (.getfield 64, 3) := by decide +kernel
theorem dX8_drags_40 : decode cX8_drags 40 = .ok (.invokevirtual 210, 3) := by decide +kernel
theorem dX8_drags_43 : decode cX8_drags 43 = .ok (.ireturn, 1) := by decide +kernel
theorem dX8_drags_44 : decode cX8_drags 44 = .ok (.aload_n 0, 1) := by decide +kernel
theorem dX8_drags_45 : decode cX8_drags 45 = .ok (.getfield 64, 3) := by decide +kernel
theorem dX8_drags_48 : decode cX8_drags 48 = .ok (.invokevirtual 213, 3) := by decide +kernel
theorem dX8_drags_51 : decode cX8_drags 51 = .ok (.ireturn, 1) := by decide +kernel
theorem dX8_drags_52 : decode cX8_drags 52 = .ok (.iconst (-1), 1) := by decide +kernel
theorem dX8_drags_53 : decode cX8_drags 53 = .ok (.ireturn, 1) := by decide +kernel
theorem dX8_look_0 : decode cX8_look 0 = .ok (.iload_n 1, 1) := by decide +kernel
theorem dX8_look_1 : decode cX8_look 1 = .ok (.invokestatic 202, 3) := by decide +kernel
theorem dX8_look_4 : decode cX8_look 4 = .ok (.ifCond .eq 14, 3) := by decide +kernel
theorem dX8_look_7 : decode cX8_look 7 = .ok (.aload_n 0, 1) := by decide +kernel
theorem dX8_look_8 : decode cX8_look 8 = .ok (.getfield 64, 3) := by decide +kernel
theorem dX8_look_11 : decode cX8_look 11 = .ok (.iload_n 1, 1) := by decide +kernel
theorem dX8_look_12 : decode cX8_look 12 = .ok (.invokevirtual 216, 3) := by decide +kernel
theorem dX8_look_15 : decode cX8_look 15 = .ok (.goto 4, 3) := by decide +kernel
theorem dX8_look_18 : decode cX8_look 18 = .ok (.iconst (-1), 1) := by decide +kernel
theorem dX8_look_19 : decode cX8_look 19 = .ok (.ireturn, 1) := by decide +kernel
theorem dX8_rate_0 : decode cX8_rate 0 = .ok (.aload_n 0, 1) := by decide +kernel
theorem dX8_rate_1 : decode cX8_rate 1 = .ok (.iload_n 2, 1) := by decide +kernel
theorem dX8_rate_2 : decode cX8_rate 2 = .ok (.invokevirtual 108, 3) := by decide +kernel
theorem dX8_rate_5 : decode cX8_rate 5 = .ok (.ifCond .ne 6, 3) := by decide +kernel
theorem dX8_rate_8 : decode cX8_rate 8 = .ok (.ldc 219, 2) := by decide +kernel
theorem dX8_rate_10 : decode cX8_rate 10 = .ok (.ireturn, 1) := by decide +kernel
theorem dX8_rate_11 : decode cX8_rate 11 = .ok (.iload_n 1, 1) := by decide +kernel
theorem dX8_rate_12 : decode cX8_rate 12 = .ok (.tableswitch 126 0 5 #[40, 53, 70, 83, 100, 113], 40) := by decide +kernel
theorem dX8_rate_52 : decode cX8_rate 52 = .ok (.aload_n 0, 1) := by decide +kernel
theorem dX8_rate_53 : decode cX8_rate 53 = .ok (.getfield 71, 3) := by decide +kernel
theorem dX8_rate_56 : decode cX8_rate 56 = .ok (.aload_n 0, 1) := by decide +kernel
theorem dX8_rate_57 : decode cX8_rate 57 = .ok (.getfield 35, 3) := by decide +kernel
theorem dX8_rate_60 : decode cX8_rate 60 = .ok (.iload_n 2, 1) := by decide +kernel
theorem dX8_rate_61 : decode cX8_rate 61 = .ok (.invokevirtual 220, 3) := by decide +kernel
theorem dX8_rate_64 : decode cX8_rate 64 = .ok (.ireturn, 1) := by decide +kernel
theorem dX8_rate_65 : decode cX8_rate 65 = .ok (.aload_n 0, 1) := by decide +kernel
theorem dX8_rate_66 : decode cX8_rate 66 = .ok (.getfield 71, 3) := by decide +kernel
theorem dX8_rate_69 : decode cX8_rate 69 = .ok (.aload_n 0, 1) := by decide +kernel
theorem dX8_rate_70 : decode cX8_rate 70 = .ok (.getfield 28, 3) := by decide +kernel
theorem dX8_rate_73 : decode cX8_rate 73 = .ok (.aload_n 0, 1) := by decide +kernel
theorem dX8_rate_74 : decode cX8_rate 74 = .ok (.getfield 35, 3) := by decide +kernel
theorem dX8_rate_77 : decode cX8_rate 77 = .ok (.iload_n 2, 1) := by decide +kernel
theorem dX8_rate_78 : decode cX8_rate 78 = .ok (.invokevirtual 224, 3) := by decide +kernel
theorem dX8_rate_81 : decode cX8_rate 81 = .ok (.ireturn, 1) := by decide +kernel
theorem dX8_rate_82 : decode cX8_rate 82 = .ok (.aload_n 0, 1) := by decide +kernel
theorem dX8_rate_83 : decode cX8_rate 83 = .ok (.getfield 71, 3) := by decide +kernel
theorem dX8_rate_86 : decode cX8_rate 86 = .ok (.aload_n 0, 1) := by decide +kernel
theorem dX8_rate_87 : decode cX8_rate 87 = .ok (.getfield 35, 3) := by decide +kernel
theorem dX8_rate_90 : decode cX8_rate 90 = .ok (.iload_n 2, 1) := by decide +kernel
theorem dX8_rate_91 : decode cX8_rate 91 = .ok (.invokevirtual 227, 3) := by decide +kernel
theorem dX8_rate_94 : decode cX8_rate 94 = .ok (.ireturn, 1) := by decide +kernel
theorem dX8_rate_95 : decode cX8_rate 95 = .ok (.aload_n 0, 1) := by decide +kernel
theorem dX8_rate_96 : decode cX8_rate 96 = .ok (.getfield 71, 3) := by decide +kernel
theorem dX8_rate_99 : decode cX8_rate 99 = .ok (.aload_n 0, 1) := by decide +kernel
theorem dX8_rate_100 : decode cX8_rate 100 = .ok (.getfield 28, 3) := by decide +kernel
theorem dX8_rate_103 : decode cX8_rate 103 = .ok (.aload_n 0, 1) := by decide +kernel
theorem dX8_rate_104 : decode cX8_rate 104 = .ok (.getfield 35, 3) := by decide +kernel
theorem dX8_rate_107 : decode cX8_rate 107 = .ok (.iload_n 2, 1) := by decide +kernel
theorem dX8_rate_108 : decode cX8_rate 108 = .ok (.invokevirtual 230, 3) := by decide +kernel
theorem dX8_rate_111 : decode cX8_rate 111 = .ok (.ireturn, 1) := by decide +kernel
theorem dX8_rate_112 : decode cX8_rate 112 = .ok (.aload_n 0, 1) := by decide +kernel
theorem dX8_rate_113 : decode cX8_rate 113 = .ok (.getfield 71, 3) := by decide +kernel
theorem dX8_rate_116 : decode cX8_rate 116 = .ok (.aload_n 0, 1) := by decide +kernel
theorem dX8_rate_117 : decode cX8_rate 117 = .ok (.getfield 35, 3) := by decide +kernel
theorem dX8_rate_120 : decode cX8_rate 120 = .ok (.iload_n 2, 1) := by decide +kernel
theorem dX8_rate_121 : decode cX8_rate 121 = .ok (.invokevirtual 233, 3) := by decide +kernel
theorem dX8_rate_124 : decode cX8_rate 124 = .ok (.ireturn, 1) := by decide +kernel
theorem dX8_rate_125 : decode cX8_rate 125 = .ok (.aload_n 0, 1) := by decide +kernel
theorem dX8_rate_126 : decode cX8_rate 126 = .ok (.getfield 71, 3) := by decide +kernel
theorem dX8_rate_129 : decode cX8_rate 129 = .ok (.aload_n 0, 1) := by decide +kernel
theorem dX8_rate_130 : decode cX8_rate 130 = .ok (.getfield 35, 3) := by decide +kernel
theorem dX8_rate_133 : decode cX8_rate 133 = .ok (.iload_n 2, 1) := by decide +kernel
theorem dX8_rate_134 : decode cX8_rate 134 = .ok (.invokevirtual 236, 3) := by decide +kernel
theorem dX8_rate_137 : decode cX8_rate 137 = .ok (.ireturn, 1) := by decide +kernel
theorem dX8_rate_138 : decode cX8_rate 138 = .ok (.ldc 219, 2) := by decide +kernel
theorem dX8_rate_140 : decode cX8_rate 140 = .ok (.ireturn, 1) := by decide +kernel
theorem dX8_keep_0 : decode cX8_keep 0 = .ok (.iload_n 1, 1) := by decide +kernel
theorem dX8_keep_1 : decode cX8_keep 1 = .ok (.invokestatic 239, 3) := by decide +kernel
theorem dX8_keep_4 : decode cX8_keep 4 = .ok (.ifCond .ne 5, 3) := by decide +kernel
theorem dX8_keep_7 : decode cX8_keep 7 = .ok (.iconst (-1), 1) := by decide +kernel
theorem dX8_keep_8 : decode cX8_keep 8 = .ok (.ireturn, 1) := by decide +kernel
theorem dX8_keep_9 : decode cX8_keep 9 = .ok (.aload_n 0, 1) := by decide +kernel
theorem dX8_keep_10 : decode cX8_keep 10 = .ok (.getfield 46, 3) := by decide +kernel
theorem dX8_keep_13 : decode cX8_keep 13 = .ok (.iload_n 1, 1) := by decide +kernel
theorem dX8_keep_14 : decode cX8_keep 14 = .ok (.aaload, 1) := by decide +kernel
theorem dX8_keep_15 : decode cX8_keep 15 = .ok (.aload_n 0, 1) := by decide +kernel
theorem dX8_keep_16 : decode cX8_keep 16 = .ok (.getfield 35, 3) := by decide +kernel
theorem dX8_keep_19 : decode cX8_keep 19 = .ok (.invokevirtual 101, 3) := by decide +kernel
theorem dX8_keep_22 : decode cX8_keep 22 = .ok (.aload_n 0, 1) := by decide +kernel
theorem dX8_keep_23 : decode cX8_keep 23 = .ok (.getfield 50, 3) := by decide +kernel
theorem dX8_keep_26 : decode cX8_keep 26 = .ok (.iload_n 1, 1) := by decide +kernel
theorem dX8_keep_27 : decode cX8_keep 27 = .ok (.iconst 1, 1) := by decide +kernel
theorem dX8_keep_28 : decode cX8_keep 28 = .ok (.bastore, 1) := by decide +kernel
theorem dX8_keep_29 : decode cX8_keep 29 = .ok (.aload_n 0, 1) := by decide +kernel
theorem dX8_keep_30 : decode cX8_keep 30 = .ok (.getfield 35, 3) := by decide +kernel
theorem dX8_keep_33 : decode cX8_keep 33 = .ok (.getfield 135, 3) := by decide +kernel
theorem dX8_keep_36 : decode cX8_keep 36 = .ok (.ireturn, 1) := by decide +kernel
theorem dX8_back_0 : decode cX8_back 0 = .ok (.iload_n 1, 1) := by decide +kernel
theorem dX8_back_1 : decode cX8_back 1 = .ok (.invokestatic 239, 3) := by decide +kernel
theorem dX8_back_4 : decode cX8_back 4 = .ok (.ifCond .ne 5, 3) := by decide +kernel
theorem dX8_back_7 : decode cX8_back 7 = .ok (.iconst (-1), 1) := by decide +kernel
theorem dX8_back_8 : decode cX8_back 8 = .ok (.ireturn, 1) := by decide +kernel
theorem dX8_back_9 : decode cX8_back 9 = .ok (.aload_n 0, 1) := by decide +kernel
theorem dX8_back_10 : decode cX8_back 10 = .ok (.getfield 50, 3) := by decide +kernel
theorem dX8_back_13 : decode cX8_back 13 = .ok (.iload_n 1, 1) := by decide +kernel
theorem dX8_back_14 : decode cX8_back 14 = .ok (.baload, 1) := by decide +kernel
theorem dX8_back_15 : decode cX8_back 15 = .ok (.ifCond .ne 6, 3) := by decide +kernel
theorem dX8_back_18 : decode cX8_back 18 = .ok (.bipush (-2), 2) := by decide +kernel
theorem dX8_back_20 : decode cX8_back 20 = .ok (.ireturn, 1) := by decide +kernel
theorem dX8_back_21 : decode cX8_back 21 = .ok (.aload_n 0, 1) := by decide +kernel
theorem dX8_back_22 : decode cX8_back 22 = .ok (.getfield 35, 3) := by decide +kernel
theorem dX8_back_25 : decode cX8_back 25 = .ok (.aload_n 0, 1) := by decide +kernel
theorem dX8_back_26 : decode cX8_back 26 = .ok (.getfield 46, 3) := by decide +kernel
theorem dX8_back_29 : decode cX8_back 29 = .ok (.iload_n 1, 1) := by decide +kernel
theorem dX8_back_30 : decode cX8_back 30 = .ok (.aaload, 1) := by decide +kernel
theorem dX8_back_31 : decode cX8_back 31 = .ok (.invokevirtual 101, 3) := by decide +kernel
theorem dX8_back_34 : decode cX8_back 34 = .ok (.aload_n 0, 1) := by decide +kernel
theorem dX8_back_35 : decode cX8_back 35 = .ok (.getfield 42, 3) := by decide +kernel
theorem dX8_back_38 : decode cX8_back 38 = .ok (.iconst 0, 1) := by decide +kernel
theorem dX8_back_39 : decode cX8_back 39 = .ok (.putfield 104, 3) := by decide +kernel
theorem dX8_back_42 : decode cX8_back 42 = .ok (.aload_n 0, 1) := by decide +kernel
theorem dX8_back_43 : decode cX8_back 43 = .ok (.getfield 35, 3) := by decide +kernel
theorem dX8_back_46 : decode cX8_back 46 = .ok (.getfield 135, 3) := by decide +kernel
theorem dX8_back_49 : decode cX8_back 49 = .ok (.ireturn, 1) := by decide +kernel
theorem dX8_count_0 : decode cX8_count 0 = .ok (.iload_n 1, 1) := by decide +kernel
theorem dX8_count_1 : decode cX8_count 1 = .ok (.tableswitch 75 0 4 #[35, 43, 51, 59, 67], 35) := by decide +kernel
theorem dX8_count_36 : decode cX8_count 36 = .ok (.aload_n 0, 1) := by decide +kernel
theorem dX8_count_37 : decode cX8_count 37 = .ok (.getfield 28, 3) := by decide +kernel
theorem dX8_count_40 : decode cX8_count 40 = .ok (.getfield 242, 3) := by decide +kernel
theorem dX8_count_43 : decode cX8_count 43 = .ok (.ireturn, 1) := by decide +kernel
theorem dX8_count_44 : decode cX8_count 44 = .ok (.aload_n 0, 1) := by decide +kernel
theorem dX8_count_45 : decode cX8_count 45 = .ok (.getfield 28, 3) := by decide +kernel
theorem dX8_count_48 : decode cX8_count 48 = .ok (.getfield 245, 3) := by decide +kernel
theorem dX8_count_51 : decode cX8_count 51 = .ok (.ireturn, 1) := by decide +kernel
theorem dX8_count_52 : decode cX8_count 52 = .ok (.aload_n 0, 1) := by decide +kernel
theorem dX8_count_53 : decode cX8_count 53 = .ok (.getfield 28, 3) := by decide +kernel
theorem dX8_count_56 : decode cX8_count 56 = .ok (.getfield 248, 3) := by decide +kernel
theorem dX8_count_59 : decode cX8_count 59 = .ok (.ireturn, 1) := by decide +kernel
theorem dX8_count_60 : decode cX8_count 60 = .ok (.aload_n 0, 1) := by decide +kernel
theorem dX8_count_61 : decode cX8_count 61 = .ok (.getfield 64, 3) := by decide +kernel
theorem dX8_count_64 : decode cX8_count 64 = .ok (.getfield 107, 3) := by decide +kernel
theorem dX8_count_67 : decode cX8_count 67 = .ok (.ireturn, 1) := by decide +kernel
theorem dX8_count_68 : decode cX8_count 68 = .ok (.aload_n 0, 1) := by decide +kernel
theorem dX8_count_69 : decode cX8_count 69 = .ok (.getfield 10, 3) := by decide +kernel
theorem dX8_count_72 : decode cX8_count 72 = .ok (.getfield 83, 3) := by decide +kernel
theorem dX8_count_75 : decode cX8_count 75 = .ok (.ireturn, 1) := by decide +kernel
theorem dX8_count_76 : decode cX8_count 76 = .ok (.iconst (-1), 1) := by decide +kernel
theorem dX8_count_77 : decode cX8_count 77 = .ok (.ireturn, 1) := by decide +kernel
theorem dX8_trace_0 : decode cX8_trace 0 = .ok (.aload_n 0, 1) := by decide +kernel
theorem dX8_trace_1 : decode cX8_trace 1 = .ok (.getfield 71, 3) := by decide +kernel
theorem dX8_trace_4 : decode cX8_trace 4 = .ok (.getfield 251, 3) := by decide +kernel
theorem dX8_trace_7 : decode cX8_trace 7 = .ok (.lreturn, 1) := by decide +kernel
theorem dX8_isTop_0 : decode cX8_isTop 0 = .ok (.iload_n 1, 1) := by decide +kernel
theorem dX8_isTop_1 : decode cX8_isTop 1 = .ok (.iconst 0, 1) := by decide +kernel
theorem dX8_isTop_2 : decode cX8_isTop 2 = .ok (.aload_n 0, 1) := by decide +kernel
theorem dX8_isTop_3 : decode cX8_isTop 3 = .ok (.getfield 28, 3) := by decide +kernel
theorem dX8_isTop_6 : decode cX8_isTop 6 = .ok (.getfield 245, 3) := by decide +kernel
theorem dX8_isTop_9 : decode cX8_isTop 9 = .ok (.iconst 1, 1) := by decide +kernel
theorem dX8_isTop_10 : decode cX8_isTop 10 = .ok (.isub, 1) := by decide +kernel
theorem dX8_isTop_11 : decode cX8_isTop 11 = .ok (.invokestatic 75, 3) := by decide +kernel
theorem dX8_isTop_14 : decode cX8_isTop 14 = .ok (.ireturn, 1) := by decide +kernel
theorem dX8_isPlace_0 : decode cX8_isPlace 0 = .ok (.iload_n 1, 1) := by decide +kernel
theorem dX8_isPlace_1 : decode cX8_isPlace 1 = .ok (.iconst 0, 1) := by decide +kernel
theorem dX8_isPlace_2 : decode cX8_isPlace 2 = .ok (.aload_n 0, 1) := by decide +kernel
theorem dX8_isPlace_3 : decode cX8_isPlace 3 = .ok (.getfield 28, 3) := by decide +kernel
theorem dX8_isPlace_6 : decode cX8_isPlace 6 = .ok (.getfield 242, 3) := by decide +kernel
theorem dX8_isPlace_9 : decode cX8_isPlace 9 = .ok (.iconst 1, 1) := by decide +kernel
theorem dX8_isPlace_10 : decode cX8_isPlace 10 = .ok (.isub, 1) := by decide +kernel
theorem dX8_isPlace_11 : decode cX8_isPlace 11 = .ok (.invokestatic 75, 3) := by decide +kernel
theorem dX8_isPlace_14 : decode cX8_isPlace 14 = .ok (.ireturn, 1) := by decide +kernel
theorem dX8_isSpin_0 : decode cX8_isSpin 0 = .ok (.iload_n 0, 1) := by decide +kernel
theorem dX8_isSpin_1 : decode cX8_isSpin 1 = .ok (.iconst 1, 1) := by decide +kernel
theorem dX8_isSpin_2 : decode cX8_isSpin 2 = .ok (.bipush 60, 2) := by decide +kernel
theorem dX8_isSpin_4 : decode cX8_isSpin 4 = .ok (.invokestatic 75, 3) := by decide +kernel
theorem dX8_isSpin_7 : decode cX8_isSpin 7 = .ok (.ireturn, 1) := by decide +kernel
theorem dX8_isWhip_0 : decode cX8_isWhip 0 = .ok (.iload_n 0, 1) := by decide +kernel
theorem dX8_isWhip_1 : decode cX8_isWhip 1 = .ok (.iconst 1, 1) := by decide +kernel
theorem dX8_isWhip_2 : decode cX8_isWhip 2 = .ok (.bipush 20, 2) := by decide +kernel
theorem dX8_isWhip_4 : decode cX8_isWhip 4 = .ok (.invokestatic 75, 3) := by decide +kernel
theorem dX8_isWhip_7 : decode cX8_isWhip 7 = .ok (.ireturn, 1) := by decide +kernel
theorem dX8_isAhead_0 : decode cX8_isAhead 0 = .ok (.iload_n 0, 1) := by decide +kernel
theorem dX8_isAhead_1 : decode cX8_isAhead 1 = .ok (.iconst 0, 1) := by decide +kernel
theorem dX8_isAhead_2 : decode cX8_isAhead 2 = .ok (.bipush 60, 2) := by decide +kernel
theorem dX8_isAhead_4 : decode cX8_isAhead 4 = .ok (.invokestatic 75, 3) := by decide +kernel
theorem dX8_isAhead_7 : decode cX8_isAhead 7 = .ok (.ireturn, 1) := by decide +kernel
theorem dX8_isImage_0 : decode cX8_isImage 0 = .ok (.iload_n 0, 1) := by decide +kernel
theorem dX8_isImage_1 : decode cX8_isImage 1 = .ok (.iconst 0, 1) := by decide +kernel
theorem dX8_isImage_2 : decode cX8_isImage 2 = .ok (.iconst 1, 1) := by decide +kernel
theorem dX8_isImage_3 : decode cX8_isImage 3 = .ok (.invokestatic 75, 3) := by decide +kernel
theorem dX8_isImage_6 : decode cX8_isImage 6 = .ok (.ireturn, 1) := by decide +kernel
theorem dX8_within_0 : decode cX8_within 0 = .ok (.iload_n 0, 1) := by decide +kernel
theorem dX8_within_1 : decode cX8_within 1 = .ok (.iload_n 1, 1) := by decide +kernel
theorem dX8_within_2 : decode cX8_within 2 = .ok (.if_icmp .lt 12, 3) := by decide +kernel
theorem dX8_within_5 : decode cX8_within 5 = .ok (.iload_n 0, 1) := by decide +kernel
theorem dX8_within_6 : decode cX8_within 6 = .ok (.iload_n 2, 1) := by decide +kernel
theorem dX8_within_7 : decode cX8_within 7 = .ok (.if_icmp .gt 7, 3) := by decide +kernel
theorem dX8_within_10 : decode cX8_within 10 = .ok (.iconst 1, 1) := by decide +kernel
theorem dX8_within_11 : decode cX8_within 11 = .ok (.goto 4, 3) := by decide +kernel
theorem dX8_within_14 : decode cX8_within 14 = .ok (.iconst 0, 1) := by decide +kernel
theorem dX8_within_15 : decode cX8_within 15 = .ok (.ireturn, 1) := by decide +kernel
theorem dX8_power_0 : decode cX8_power 0 = .ok (.iconst 1, 1) := by decide +kernel
theorem dX8_power_1 : decode cX8_power 1 = .ok (.istore_n 2, 1) := by decide +kernel
theorem dX8_power_2 : decode cX8_power 2 = .ok (.iconst 0, 1) := by decide +kernel
theorem dX8_power_3 : decode cX8_power 3 = .ok (.istore_n 3, 1) := by decide +kernel
theorem dX8_power_4 : decode cX8_power 4 = .ok (.iload_n 3, 1) := by decide +kernel
theorem dX8_power_5 : decode cX8_power 5 = .ok (.iload_n 1, 1) := by decide +kernel
theorem dX8_power_6 : decode cX8_power 6 = .ok (.if_icmp .ge 13, 3) := by decide +kernel
theorem dX8_power_9 : decode cX8_power 9 = .ok (.iload_n 2, 1) := by decide +kernel
theorem dX8_power_10 : decode cX8_power 10 = .ok (.iload_n 0, 1) := by decide +kernel
theorem dX8_power_11 : decode cX8_power 11 = .ok (.imul, 1) := by decide +kernel
theorem dX8_power_12 : decode cX8_power 12 = .ok (.istore_n 2, 1) := by decide +kernel
theorem dX8_power_13 : decode cX8_power 13 = .ok (.iinc 3 1, 3) := by decide +kernel
theorem dX8_power_16 : decode cX8_power 16 = .ok (.goto (-12), 3) := by decide +kernel
theorem dX8_power_19 : decode cX8_power 19 = .ok (.iload_n 2, 1) := by decide +kernel
theorem dX8_power_20 : decode cX8_power 20 = .ok (.ireturn, 1) := by decide +kernel
theorem dL_law_0 : decode cL_law 0 = .ok (.new 7, 3) := by decide +kernel
theorem dL_law_3 : decode cL_law 3 = .ok (.dup, 1) := by decide +kernel
theorem dL_law_4 : decode cL_law 4 = .ok (.invokespecial 9, 3) := by decide +kernel
theorem dL_law_7 : decode cL_law 7 = .ok (.astore_n 1, 1) := by decide +kernel
theorem dL_law_8 : decode cL_law 8 = .ok (.new 10, 3) := by decide +kernel
theorem dL_law_11 : decode cL_law 11 = .ok (.dup, 1) := by decide +kernel
theorem dL_law_12 : decode cL_law 12 = .ok (.invokespecial 12, 3) := by decide +kernel
theorem dL_law_15 : decode cL_law 15 = .ok (.astore_n 2, 1) := by decide +kernel
theorem dL_law_16 : decode cL_law 16 = .ok (.iconst 0, 1) := by decide +kernel
theorem dL_law_17 : decode cL_law 17 = .ok (.istore_n 3, 1) := by decide +kernel
theorem dL_law_18 : decode cL_law 18 = .ok (.iload_n 3, 1) := by decide +kernel
theorem dL_law_19 : decode cL_law 19 = .ok (.aload_n 0, 1) := by decide +kernel
theorem dL_law_20 : decode cL_law 20 = .ok (.arraylength, 1) := by decide +kernel
theorem dL_law_21 : decode cL_law 21 = .ok (.iconst 5, 1) := by decide +kernel
theorem dL_law_22 : decode cL_law 22 = .ok (.isub, 1) := by decide +kernel
theorem dL_law_23 : decode cL_law 23 = .ok (.if_icmp .gt 730, 3) := by decide +kernel
theorem dL_law_26 : decode cL_law 26 = .ok (.aload_n 0, 1) := by decide +kernel
theorem dL_law_27 : decode cL_law 27 = .ok (.iload_n 3, 1) := by decide +kernel
theorem dL_law_28 : decode cL_law 28 = .ok (.iaload, 1) := by decide +kernel
theorem dL_law_29 : decode cL_law 29 = .ok (.bipush 31, 2) := by decide +kernel
theorem dL_law_31 : decode cL_law 31 = .ok (.iand, 1) := by decide +kernel
theorem dL_law_32 : decode cL_law 32 = .ok (.tableswitch 715 0 23 #[112, 135, 148, 161, 194, 217, 240, 253, 286, 309, 342, 355, 378, 411, 444, 497, 540, 553, 576, 599, 632, 655, 678, 701], 112) := by decide +kernel
theorem dL_law_144 : decode cL_law 144 = .ok (.aload_n 1, 1) := by decide +kernel
theorem dL_law_145 : decode cL_law 145 = .ok (.aload_n 0, 1) := by decide +kernel
theorem dL_law_146 : decode cL_law 146 = .ok (.iload_n 3, 1) := by decide +kernel
theorem dL_law_147 : decode cL_law 147 = .ok (.iconst 1, 1) := by decide +kernel
theorem dL_law_148 : decode cL_law 148 = .ok (.iadd, 1) := by decide +kernel
theorem dL_law_149 : decode cL_law 149 = .ok (.iaload, 1) := by decide +kernel
theorem dL_law_150 : decode cL_law 150 = .ok (.invokevirtual 13, 3) := by decide +kernel
theorem dL_law_153 : decode cL_law 153 = .ok (.aload_n 2, 1) := by decide +kernel
theorem dL_law_154 : decode cL_law 154 = .ok (.aload_n 0, 1) := by decide +kernel
theorem dL_law_155 : decode cL_law 155 = .ok (.iload_n 3, 1) := by decide +kernel
theorem dL_law_156 : decode cL_law 156 = .ok (.iconst 1, 1) := by decide +kernel
theorem dL_law_157 : decode cL_law 157 = .ok (.iadd, 1) := by decide +kernel
theorem dL_law_158 : decode cL_law 158 = .ok (.iaload, 1) := by decide +kernel
theorem dL_law_159 : decode cL_law 159 = .ok (.invokevirtual 17, 3) := by decide +kernel
theorem dL_law_162 : decode cL_law 162 = .ok (.if_icmp .eq 585, 3) := by decide +kernel
theorem dL_law_165 : decode cL_law 165 = .ok (.iconst 0, 1) := by decide +kernel
theorem dL_law_166 : decode cL_law 166 = .ok (.ireturn, 1) := by decide +kernel
theorem dL_law_167 : decode cL_law 167 = .ok (.aload_n 1, 1) := by decide +kernel
theorem dL_law_168 : decode cL_law 168 = .ok (.invokevirtual 18, 3) := by decide +kernel
theorem dL_law_171 : decode cL_law 171 = .ok (.aload_n 2, 1) := by decide +kernel
theorem dL_law_172 : decode cL_law 172 = .ok (.invokevirtual 22, 3) := by decide +kernel
theorem dL_law_175 : decode cL_law 175 = .ok (.if_icmp .eq 572, 3) := by decide +kernel
theorem dL_law_178 : decode cL_law 178 = .ok (.iconst 0, 1) := by decide +kernel
theorem dL_law_179 : decode cL_law 179 = .ok (.ireturn, 1) := by decide +kernel
theorem dL_law_180 : decode cL_law 180 = .ok (.aload_n 1, 1) := by decide +kernel
theorem dL_law_181 : decode cL_law 181 = .ok (.invokevirtual 23, 3) := by decide +kernel
theorem dL_law_184 : decode cL_law 184 = .ok (.aload_n 2, 1) := by decide +kernel
theorem dL_law_185 : decode cL_law 185 = .ok (.invokevirtual 26, 3) := by decide +kernel
theorem dL_law_188 : decode cL_law 188 = .ok (.if_icmp .eq 559, 3) := by decide +kernel
theorem dL_law_191 : decode cL_law 191 = .ok (.iconst 0, 1) := by decide +kernel
theorem dL_law_192 : decode cL_law 192 = .ok (.ireturn, 1) := by decide +kernel
theorem dL_law_193 : decode cL_law 193 = .ok (.aload_n 1, 1) := by decide +kernel
theorem dL_law_194 : decode cL_law 194 = .ok (.aload_n 0, 1) := by decide +kernel
theorem dL_law_195 : decode cL_law 195 = .ok (.iload_n 3, 1) := by decide +kernel
theorem dL_law_196 : decode cL_law 196 = .ok (.iconst 1, 1) := by decide +kernel
theorem dL_law_197 : decode cL_law 197 = .ok (.iadd, 1) := by decide +kernel
theorem dL_law_198 : decode cL_law 198 = .ok (.iaload, 1) := by decide +kernel
theorem dL_law_199 : decode cL_law 199 = .ok (.aload_n 0, 1) := by decide +kernel
theorem dL_law_200 : decode cL_law 200 = .ok (.iload_n 3, 1) := by decide +kernel
theorem dL_law_201 : decode cL_law 201 = .ok (.iconst 2, 1) := by decide +kernel
theorem dL_law_202 : decode cL_law 202 = .ok (.iadd, 1) := by decide +kernel
theorem dL_law_203 : decode cL_law 203 = .ok (.iaload, 1) := by decide +kernel
theorem dL_law_204 : decode cL_law 204 = .ok (.invokevirtual 27, 3) := by decide +kernel
theorem dL_law_207 : decode cL_law 207 = .ok (.aload_n 2, 1) := by decide +kernel
theorem dL_law_208 : decode cL_law 208 = .ok (.aload_n 0, 1) := by decide +kernel
theorem dL_law_209 : decode cL_law 209 = .ok (.iload_n 3, 1) := by decide +kernel
theorem dL_law_210 : decode cL_law 210 = .ok (.iconst 1, 1) := by decide +kernel
theorem dL_law_211 : decode cL_law 211 = .ok (.iadd, 1) := by decide +kernel
theorem dL_law_212 : decode cL_law 212 = .ok (.iaload, 1) := by decide +kernel
theorem dL_law_213 : decode cL_law 213 = .ok (.aload_n 0, 1) := by decide +kernel
theorem dL_law_214 : decode cL_law 214 = .ok (.iload_n 3, 1) := by decide +kernel
theorem dL_law_215 : decode cL_law 215 = .ok (.iconst 2, 1) := by decide +kernel
theorem dL_law_216 : decode cL_law 216 = .ok (.iadd, 1) := by decide +kernel
theorem dL_law_217 : decode cL_law 217 = .ok (.iaload, 1) := by decide +kernel
theorem dL_law_218 : decode cL_law 218 = .ok (.invokevirtual 31, 3) := by decide +kernel
theorem dL_law_221 : decode cL_law 221 = .ok (.if_icmp .eq 526, 3) := by decide +kernel
theorem dL_law_224 : decode cL_law 224 = .ok (.iconst 0, 1) := by decide +kernel
theorem dL_law_225 : decode cL_law 225 = .ok (.ireturn, 1) := by decide +kernel
theorem dL_law_226 : decode cL_law 226 = .ok (.aload_n 1, 1) := by decide +kernel
theorem dL_law_227 : decode cL_law 227 = .ok (.aload_n 0, 1) := by decide +kernel
theorem dL_law_228 : decode cL_law 228 = .ok (.iload_n 3, 1) := by decide +kernel
theorem dL_law_229 : decode cL_law 229 = .ok (.iconst 1, 1) := by decide +kernel
theorem dL_law_230 : decode cL_law 230 = .ok (.iadd, 1) := by decide +kernel
theorem dL_law_231 : decode cL_law 231 = .ok (.iaload, 1) := by decide +kernel
theorem dL_law_232 : decode cL_law 232 = .ok (.invokevirtual 32, 3) := by decide +kernel
theorem dL_law_235 : decode cL_law 235 = .ok (.aload_n 2, 1) := by decide +kernel
theorem dL_law_236 : decode cL_law 236 = .ok (.aload_n 0, 1) := by decide +kernel
theorem dL_law_237 : decode cL_law 237 = .ok (.iload_n 3, 1) := by decide +kernel
theorem dL_law_238 : decode cL_law 238 = .ok (.iconst 1, 1) := by decide +kernel
theorem dL_law_239 : decode cL_law 239 = .ok (.iadd, 1) := by decide +kernel
theorem dL_law_240 : decode cL_law 240 = .ok (.iaload, 1) := by decide +kernel
theorem dL_law_241 : decode cL_law 241 = .ok (.invokevirtual 35, 3) := by decide +kernel
theorem dL_law_244 : decode cL_law 244 = .ok (.if_icmp .eq 503, 3) := by decide +kernel
theorem dL_law_247 : decode cL_law 247 = .ok (.iconst 0, 1) := by decide +kernel
theorem dL_law_248 : decode cL_law 248 = .ok (.ireturn, 1) := by decide +kernel
theorem dL_law_249 : decode cL_law 249 = .ok (.aload_n 1, 1) := by decide +kernel
theorem dL_law_250 : decode cL_law 250 = .ok (.aload_n 0, 1) := by decide +kernel
theorem dL_law_251 : decode cL_law 251 = .ok (.iload_n 3, 1) := by decide +kernel
theorem dL_law_252 : decode cL_law 252 = .ok (.iconst 1, 1) := by decide +kernel
theorem dL_law_253 : decode cL_law 253 = .ok (.iadd, 1) := by decide +kernel
theorem dL_law_254 : decode cL_law 254 = .ok (.iaload, 1) := by decide +kernel
theorem dL_law_255 : decode cL_law 255 = .ok (.invokevirtual 36, 3) := by decide +kernel
theorem dL_law_258 : decode cL_law 258 = .ok (.aload_n 2, 1) := by decide +kernel
theorem dL_law_259 : decode cL_law 259 = .ok (.aload_n 0, 1) := by decide +kernel
theorem dL_law_260 : decode cL_law 260 = .ok (.iload_n 3, 1) := by decide +kernel
theorem dL_law_261 : decode cL_law 261 = .ok (.iconst 1, 1) := by decide +kernel
theorem dL_law_262 : decode cL_law 262 = .ok (.iadd, 1) := by decide +kernel
theorem dL_law_263 : decode cL_law 263 = .ok (.iaload, 1) := by decide +kernel
theorem dL_law_264 : decode cL_law 264 = .ok (.invokevirtual 39, 3) := by decide +kernel
theorem dL_law_267 : decode cL_law 267 = .ok (.if_icmp .eq 480, 3) := by decide +kernel
theorem dL_law_270 : decode cL_law 270 = .ok (.iconst 0, 1) := by decide +kernel
theorem dL_law_271 : decode cL_law 271 = .ok (.ireturn, 1) := by decide +kernel
theorem dL_law_272 : decode cL_law 272 = .ok (.aload_n 1, 1) := by decide +kernel
theorem dL_law_273 : decode cL_law 273 = .ok (.invokevirtual 40, 3) := by decide +kernel
theorem dL_law_276 : decode cL_law 276 = .ok (.aload_n 2, 1) := by decide +kernel
theorem dL_law_277 : decode cL_law 277 = .ok (.invokevirtual 43, 3) := by decide +kernel
theorem dL_law_280 : decode cL_law 280 = .ok (.if_icmp .eq 467, 3) := by decide +kernel
theorem dL_law_283 : decode cL_law 283 = .ok (.iconst 0, 1) := by decide +kernel
theorem dL_law_284 : decode cL_law 284 = .ok (.ireturn, 1) := by decide +kernel
theorem dL_law_285 : decode cL_law 285 = .ok (.aload_n 1, 1) := by decide +kernel
theorem dL_law_286 : decode cL_law 286 = .ok (.aload_n 0, 1) := by decide +kernel
theorem dL_law_287 : decode cL_law 287 = .ok (.iload_n 3, 1) := by decide +kernel
theorem dL_law_288 : decode cL_law 288 = .ok (.iconst 1, 1) := by decide +kernel
theorem dL_law_289 : decode cL_law 289 = .ok (.iadd, 1) := by decide +kernel
theorem dL_law_290 : decode cL_law 290 = .ok (.iaload, 1) := by decide +kernel
theorem dL_law_291 : decode cL_law 291 = .ok (.aload_n 0, 1) := by decide +kernel
theorem dL_law_292 : decode cL_law 292 = .ok (.iload_n 3, 1) := by decide +kernel
theorem dL_law_293 : decode cL_law 293 = .ok (.iconst 2, 1) := by decide +kernel
theorem dL_law_294 : decode cL_law 294 = .ok (.iadd, 1) := by decide +kernel
theorem dL_law_295 : decode cL_law 295 = .ok (.iaload, 1) := by decide +kernel
theorem dL_law_296 : decode cL_law 296 = .ok (.invokevirtual 44, 3) := by decide +kernel
theorem dL_law_299 : decode cL_law 299 = .ok (.aload_n 2, 1) := by decide +kernel
theorem dL_law_300 : decode cL_law 300 = .ok (.aload_n 0, 1) := by decide +kernel
theorem dL_law_301 : decode cL_law 301 = .ok (.iload_n 3, 1) := by decide +kernel
theorem dL_law_302 : decode cL_law 302 = .ok (.iconst 1, 1) := by decide +kernel
theorem dL_law_303 : decode cL_law 303 = .ok (.iadd, 1) := by decide +kernel
theorem dL_law_304 : decode cL_law 304 = .ok (.iaload, 1) := by decide +kernel
theorem dL_law_305 : decode cL_law 305 = .ok (.aload_n 0, 1) := by decide +kernel
theorem dL_law_306 : decode cL_law 306 = .ok (.iload_n 3, 1) := by decide +kernel
theorem dL_law_307 : decode cL_law 307 = .ok (.iconst 2, 1) := by decide +kernel
theorem dL_law_308 : decode cL_law 308 = .ok (.iadd, 1) := by decide +kernel
theorem dL_law_309 : decode cL_law 309 = .ok (.iaload, 1) := by decide +kernel
theorem dL_law_310 : decode cL_law 310 = .ok (.invokevirtual 47, 3) := by decide +kernel
theorem dL_law_313 : decode cL_law 313 = .ok (.if_icmp .eq 434, 3) := by decide +kernel
theorem dL_law_316 : decode cL_law 316 = .ok (.iconst 0, 1) := by decide +kernel
theorem dL_law_317 : decode cL_law 317 = .ok (.ireturn, 1) := by decide +kernel
theorem dL_law_318 : decode cL_law 318 = .ok (.aload_n 1, 1) := by decide +kernel
theorem dL_law_319 : decode cL_law 319 = .ok (.aload_n 0, 1) := by decide +kernel
theorem dL_law_320 : decode cL_law 320 = .ok (.iload_n 3, 1) := by decide +kernel
theorem dL_law_321 : decode cL_law 321 = .ok (.iconst 1, 1) := by decide +kernel
theorem dL_law_322 : decode cL_law 322 = .ok (.iadd, 1) := by decide +kernel
theorem dL_law_323 : decode cL_law 323 = .ok (.iaload, 1) := by decide +kernel
theorem dL_law_324 : decode cL_law 324 = .ok (.invokevirtual 48, 3) := by decide +kernel
theorem dL_law_327 : decode cL_law 327 = .ok (.aload_n 2, 1) := by decide +kernel
theorem dL_law_328 : decode cL_law 328 = .ok (.aload_n 0, 1) := by decide +kernel
theorem dL_law_329 : decode cL_law 329 = .ok (.iload_n 3, 1) := by decide +kernel
theorem dL_law_330 : decode cL_law 330 = .ok (.iconst 1, 1) := by decide +kernel
theorem dL_law_331 : decode cL_law 331 = .ok (.iadd, 1) := by decide +kernel
theorem dL_law_332 : decode cL_law 332 = .ok (.iaload, 1) := by decide +kernel
theorem dL_law_333 : decode cL_law 333 = .ok (.invokevirtual 51, 3) := by decide +kernel
theorem dL_law_336 : decode cL_law 336 = .ok (.if_icmp .eq 411, 3) := by decide +kernel
theorem dL_law_339 : decode cL_law 339 = .ok (.iconst 0, 1) := by decide +kernel
theorem dL_law_340 : decode cL_law 340 = .ok (.ireturn, 1) := by decide +kernel
theorem dL_law_341 : decode cL_law 341 = .ok (.aload_n 1, 1) := by decide +kernel
theorem dL_law_342 : decode cL_law 342 = .ok (.aload_n 0, 1) := by decide +kernel
theorem dL_law_343 : decode cL_law 343 = .ok (.iload_n 3, 1) := by decide +kernel
theorem dL_law_344 : decode cL_law 344 = .ok (.iconst 1, 1) := by decide +kernel
theorem dL_law_345 : decode cL_law 345 = .ok (.iadd, 1) := by decide +kernel
theorem dL_law_346 : decode cL_law 346 = .ok (.iaload, 1) := by decide +kernel
theorem dL_law_347 : decode cL_law 347 = .ok (.aload_n 0, 1) := by decide +kernel
theorem dL_law_348 : decode cL_law 348 = .ok (.iload_n 3, 1) := by decide +kernel
theorem dL_law_349 : decode cL_law 349 = .ok (.iconst 2, 1) := by decide +kernel
theorem dL_law_350 : decode cL_law 350 = .ok (.iadd, 1) := by decide +kernel
theorem dL_law_351 : decode cL_law 351 = .ok (.iaload, 1) := by decide +kernel
theorem dL_law_352 : decode cL_law 352 = .ok (.invokevirtual 52, 3) := by decide +kernel
theorem dL_law_355 : decode cL_law 355 = .ok (.aload_n 2, 1) := by decide +kernel
theorem dL_law_356 : decode cL_law 356 = .ok (.aload_n 0, 1) := by decide +kernel
theorem dL_law_357 : decode cL_law 357 = .ok (.iload_n 3, 1) := by decide +kernel
theorem dL_law_358 : decode cL_law 358 = .ok (.iconst 1, 1) := by decide +kernel
theorem dL_law_359 : decode cL_law 359 = .ok (.iadd, 1) := by decide +kernel
theorem dL_law_360 : decode cL_law 360 = .ok (.iaload, 1) := by decide +kernel
theorem dL_law_361 : decode cL_law 361 = .ok (.aload_n 0, 1) := by decide +kernel
theorem dL_law_362 : decode cL_law 362 = .ok (.iload_n 3, 1) := by decide +kernel
theorem dL_law_363 : decode cL_law 363 = .ok (.iconst 2, 1) := by decide +kernel
theorem dL_law_364 : decode cL_law 364 = .ok (.iadd, 1) := by decide +kernel
theorem dL_law_365 : decode cL_law 365 = .ok (.iaload, 1) := by decide +kernel
theorem dL_law_366 : decode cL_law 366 = .ok (.invokevirtual 55, 3) := by decide +kernel
theorem dL_law_369 : decode cL_law 369 = .ok (.if_icmp .eq 378, 3) := by decide +kernel
theorem dL_law_372 : decode cL_law 372 = .ok (.iconst 0, 1) := by decide +kernel
theorem dL_law_373 : decode cL_law 373 = .ok (.ireturn, 1) := by decide +kernel
theorem dL_law_374 : decode cL_law 374 = .ok (.aload_n 1, 1) := by decide +kernel
theorem dL_law_375 : decode cL_law 375 = .ok (.invokevirtual 56, 3) := by decide +kernel
theorem dL_law_378 : decode cL_law 378 = .ok (.aload_n 2, 1) := by decide +kernel
theorem dL_law_379 : decode cL_law 379 = .ok (.invokevirtual 59, 3) := by decide +kernel
theorem dL_law_382 : decode cL_law 382 = .ok (.if_icmp .eq 365, 3) := by decide +kernel
theorem dL_law_385 : decode cL_law 385 = .ok (.iconst 0, 1) := by decide +kernel
theorem dL_law_386 : decode cL_law 386 = .ok (.ireturn, 1) := by decide +kernel
theorem dL_law_387 : decode cL_law 387 = .ok (.aload_n 1, 1) := by decide +kernel
theorem dL_law_388 : decode cL_law 388 = .ok (.aload_n 0, 1) := by decide +kernel
theorem dL_law_389 : decode cL_law 389 = .ok (.iload_n 3, 1) := by decide +kernel
theorem dL_law_390 : decode cL_law 390 = .ok (.iconst 1, 1) := by decide +kernel
theorem dL_law_391 : decode cL_law 391 = .ok (.iadd, 1) := by decide +kernel
theorem dL_law_392 : decode cL_law 392 = .ok (.iaload, 1) := by decide +kernel
theorem dL_law_393 : decode cL_law 393 = .ok (.invokevirtual 60, 3) := by decide +kernel
theorem dL_law_396 : decode cL_law 396 = .ok (.aload_n 2, 1) := by decide +kernel
theorem dL_law_397 : decode cL_law 397 = .ok (.aload_n 0, 1) := by decide +kernel
theorem dL_law_398 : decode cL_law 398 = .ok (.iload_n 3, 1) := by decide +kernel
theorem dL_law_399 : decode cL_law 399 = .ok (.iconst 1, 1) := by decide +kernel
theorem dL_law_400 : decode cL_law 400 = .ok (.iadd, 1) := by decide +kernel
theorem dL_law_401 : decode cL_law 401 = .ok (.iaload, 1) := by decide +kernel
theorem dL_law_402 : decode cL_law 402 = .ok (.invokevirtual 63, 3) := by decide +kernel
theorem dL_law_405 : decode cL_law 405 = .ok (.if_icmp .eq 342, 3) := by decide +kernel
theorem dL_law_408 : decode cL_law 408 = .ok (.iconst 0, 1) := by decide +kernel
theorem dL_law_409 : decode cL_law 409 = .ok (.ireturn, 1) := by decide +kernel
theorem dL_law_410 : decode cL_law 410 = .ok (.aload_n 1, 1) := by decide +kernel
theorem dL_law_411 : decode cL_law 411 = .ok (.aload_n 0, 1) := by decide +kernel
theorem dL_law_412 : decode cL_law 412 = .ok (.iload_n 3, 1) := by decide +kernel
theorem dL_law_413 : decode cL_law 413 = .ok (.iconst 1, 1) := by decide +kernel
theorem dL_law_414 : decode cL_law 414 = .ok (.iadd, 1) := by decide +kernel
theorem dL_law_415 : decode cL_law 415 = .ok (.iaload, 1) := by decide +kernel
theorem dL_law_416 : decode cL_law 416 = .ok (.aload_n 0, 1) := by decide +kernel
theorem dL_law_417 : decode cL_law 417 = .ok (.iload_n 3, 1) := by decide +kernel
theorem dL_law_418 : decode cL_law 418 = .ok (.iconst 2, 1) := by decide +kernel
theorem dL_law_419 : decode cL_law 419 = .ok (.iadd, 1) := by decide +kernel
theorem dL_law_420 : decode cL_law 420 = .ok (.iaload, 1) := by decide +kernel
theorem dL_law_421 : decode cL_law 421 = .ok (.invokevirtual 64, 3) := by decide +kernel
theorem dL_law_424 : decode cL_law 424 = .ok (.aload_n 2, 1) := by decide +kernel
theorem dL_law_425 : decode cL_law 425 = .ok (.aload_n 0, 1) := by decide +kernel
theorem dL_law_426 : decode cL_law 426 = .ok (.iload_n 3, 1) := by decide +kernel
theorem dL_law_427 : decode cL_law 427 = .ok (.iconst 1, 1) := by decide +kernel
theorem dL_law_428 : decode cL_law 428 = .ok (.iadd, 1) := by decide +kernel
theorem dL_law_429 : decode cL_law 429 = .ok (.iaload, 1) := by decide +kernel
theorem dL_law_430 : decode cL_law 430 = .ok (.aload_n 0, 1) := by decide +kernel
theorem dL_law_431 : decode cL_law 431 = .ok (.iload_n 3, 1) := by decide +kernel
theorem dL_law_432 : decode cL_law 432 = .ok (.iconst 2, 1) := by decide +kernel
theorem dL_law_433 : decode cL_law 433 = .ok (.iadd, 1) := by decide +kernel
theorem dL_law_434 : decode cL_law 434 = .ok (.iaload, 1) := by decide +kernel
theorem dL_law_435 : decode cL_law 435 = .ok (.invokevirtual 67, 3) := by decide +kernel
theorem dL_law_438 : decode cL_law 438 = .ok (.if_icmp .eq 309, 3) := by decide +kernel
theorem dL_law_441 : decode cL_law 441 = .ok (.iconst 0, 1) := by decide +kernel
theorem dL_law_442 : decode cL_law 442 = .ok (.ireturn, 1) := by decide +kernel
theorem dL_law_443 : decode cL_law 443 = .ok (.aload_n 1, 1) := by decide +kernel
theorem dL_law_444 : decode cL_law 444 = .ok (.aload_n 0, 1) := by decide +kernel
theorem dL_law_445 : decode cL_law 445 = .ok (.iload_n 3, 1) := by decide +kernel
theorem dL_law_446 : decode cL_law 446 = .ok (.iconst 1, 1) := by decide +kernel
theorem dL_law_447 : decode cL_law 447 = .ok (.iadd, 1) := by decide +kernel
theorem dL_law_448 : decode cL_law 448 = .ok (.iaload, 1) := by decide +kernel
theorem dL_law_449 : decode cL_law 449 = .ok (.aload_n 0, 1) := by decide +kernel
theorem dL_law_450 : decode cL_law 450 = .ok (.iload_n 3, 1) := by decide +kernel
theorem dL_law_451 : decode cL_law 451 = .ok (.iconst 2, 1) := by decide +kernel
theorem dL_law_452 : decode cL_law 452 = .ok (.iadd, 1) := by decide +kernel
theorem dL_law_453 : decode cL_law 453 = .ok (.iaload, 1) := by decide +kernel
theorem dL_law_454 : decode cL_law 454 = .ok (.invokevirtual 68, 3) := by decide +kernel
theorem dL_law_457 : decode cL_law 457 = .ok (.aload_n 2, 1) := by decide +kernel
theorem dL_law_458 : decode cL_law 458 = .ok (.aload_n 0, 1) := by decide +kernel
theorem dL_law_459 : decode cL_law 459 = .ok (.iload_n 3, 1) := by decide +kernel
theorem dL_law_460 : decode cL_law 460 = .ok (.iconst 1, 1) := by decide +kernel
theorem dL_law_461 : decode cL_law 461 = .ok (.iadd, 1) := by decide +kernel
theorem dL_law_462 : decode cL_law 462 = .ok (.iaload, 1) := by decide +kernel
theorem dL_law_463 : decode cL_law 463 = .ok (.aload_n 0, 1) := by decide +kernel
theorem dL_law_464 : decode cL_law 464 = .ok (.iload_n 3, 1) := by decide +kernel
theorem dL_law_465 : decode cL_law 465 = .ok (.iconst 2, 1) := by decide +kernel
theorem dL_law_466 : decode cL_law 466 = .ok (.iadd, 1) := by decide +kernel
theorem dL_law_467 : decode cL_law 467 = .ok (.iaload, 1) := by decide +kernel
theorem dL_law_468 : decode cL_law 468 = .ok (.invokevirtual 71, 3) := by decide +kernel
theorem dL_law_471 : decode cL_law 471 = .ok (.if_icmp .eq 276, 3) := by decide +kernel
theorem dL_law_474 : decode cL_law 474 = .ok (.iconst 0, 1) := by decide +kernel
theorem dL_law_475 : decode cL_law 475 = .ok (.ireturn, 1) := by decide +kernel
theorem dL_law_476 : decode cL_law 476 = .ok (.aload_n 1, 1) := by decide +kernel
theorem dL_law_477 : decode cL_law 477 = .ok (.aload_n 0, 1) := by decide +kernel
theorem dL_law_478 : decode cL_law 478 = .ok (.iload_n 3, 1) := by decide +kernel
theorem dL_law_479 : decode cL_law 479 = .ok (.iconst 1, 1) := by decide +kernel
theorem dL_law_480 : decode cL_law 480 = .ok (.iadd, 1) := by decide +kernel
theorem dL_law_481 : decode cL_law 481 = .ok (.iaload, 1) := by decide +kernel
theorem dL_law_482 : decode cL_law 482 = .ok (.aload_n 0, 1) := by decide +kernel
theorem dL_law_483 : decode cL_law 483 = .ok (.iload_n 3, 1) := by decide +kernel
theorem dL_law_484 : decode cL_law 484 = .ok (.iconst 2, 1) := by decide +kernel
theorem dL_law_485 : decode cL_law 485 = .ok (.iadd, 1) := by decide +kernel
theorem dL_law_486 : decode cL_law 486 = .ok (.iaload, 1) := by decide +kernel
theorem dL_law_487 : decode cL_law 487 = .ok (.aload_n 0, 1) := by decide +kernel
theorem dL_law_488 : decode cL_law 488 = .ok (.iload_n 3, 1) := by decide +kernel
theorem dL_law_489 : decode cL_law 489 = .ok (.iconst 3, 1) := by decide +kernel
theorem dL_law_490 : decode cL_law 490 = .ok (.iadd, 1) := by decide +kernel
theorem dL_law_491 : decode cL_law 491 = .ok (.iaload, 1) := by decide +kernel
theorem dL_law_492 : decode cL_law 492 = .ok (.aload_n 0, 1) := by decide +kernel
theorem dL_law_493 : decode cL_law 493 = .ok (.iload_n 3, 1) := by decide +kernel
theorem dL_law_494 : decode cL_law 494 = .ok (.iconst 4, 1) := by decide +kernel
theorem dL_law_495 : decode cL_law 495 = .ok (.iadd, 1) := by decide +kernel
theorem dL_law_496 : decode cL_law 496 = .ok (.iaload, 1) := by decide +kernel
theorem dL_law_497 : decode cL_law 497 = .ok (.invokevirtual 72, 3) := by decide +kernel
theorem dL_law_500 : decode cL_law 500 = .ok (.aload_n 2, 1) := by decide +kernel
theorem dL_law_501 : decode cL_law 501 = .ok (.aload_n 0, 1) := by decide +kernel
theorem dL_law_502 : decode cL_law 502 = .ok (.iload_n 3, 1) := by decide +kernel
theorem dL_law_503 : decode cL_law 503 = .ok (.iconst 1, 1) := by decide +kernel
theorem dL_law_504 : decode cL_law 504 = .ok (.iadd, 1) := by decide +kernel
theorem dL_law_505 : decode cL_law 505 = .ok (.iaload, 1) := by decide +kernel
theorem dL_law_506 : decode cL_law 506 = .ok (.aload_n 0, 1) := by decide +kernel
theorem dL_law_507 : decode cL_law 507 = .ok (.iload_n 3, 1) := by decide +kernel
theorem dL_law_508 : decode cL_law 508 = .ok (.iconst 2, 1) := by decide +kernel
theorem dL_law_509 : decode cL_law 509 = .ok (.iadd, 1) := by decide +kernel
theorem dL_law_510 : decode cL_law 510 = .ok (.iaload, 1) := by decide +kernel
theorem dL_law_511 : decode cL_law 511 = .ok (.aload_n 0, 1) := by decide +kernel
theorem dL_law_512 : decode cL_law 512 = .ok (.iload_n 3, 1) := by decide +kernel
theorem dL_law_513 : decode cL_law 513 = .ok (.iconst 3, 1) := by decide +kernel
theorem dL_law_514 : decode cL_law 514 = .ok (.iadd, 1) := by decide +kernel
theorem dL_law_515 : decode cL_law 515 = .ok (.iaload, 1) := by decide +kernel
theorem dL_law_516 : decode cL_law 516 = .ok (.aload_n 0, 1) := by decide +kernel
theorem dL_law_517 : decode cL_law 517 = .ok (.iload_n 3, 1) := by decide +kernel
theorem dL_law_518 : decode cL_law 518 = .ok (.iconst 4, 1) := by decide +kernel
theorem dL_law_519 : decode cL_law 519 = .ok (.iadd, 1) := by decide +kernel
theorem dL_law_520 : decode cL_law 520 = .ok (.iaload, 1) := by decide +kernel
theorem dL_law_521 : decode cL_law 521 = .ok (.invokevirtual 76, 3) := by decide +kernel
theorem dL_law_524 : decode cL_law 524 = .ok (.if_icmp .eq 223, 3) := by decide +kernel
theorem dL_law_527 : decode cL_law 527 = .ok (.iconst 0, 1) := by decide +kernel
theorem dL_law_528 : decode cL_law 528 = .ok (.ireturn, 1) := by decide +kernel
theorem dL_law_529 : decode cL_law 529 = .ok (.aload_n 1, 1) := by decide +kernel
theorem dL_law_530 : decode cL_law 530 = .ok (.aload_n 0, 1) := by decide +kernel
theorem dL_law_531 : decode cL_law 531 = .ok (.iload_n 3, 1) := by decide +kernel
theorem dL_law_532 : decode cL_law 532 = .ok (.iconst 1, 1) := by decide +kernel
theorem dL_law_533 : decode cL_law 533 = .ok (.iadd, 1) := by decide +kernel
theorem dL_law_534 : decode cL_law 534 = .ok (.iaload, 1) := by decide +kernel
theorem dL_law_535 : decode cL_law 535 = .ok (.aload_n 0, 1) := by decide +kernel
theorem dL_law_536 : decode cL_law 536 = .ok (.iload_n 3, 1) := by decide +kernel
theorem dL_law_537 : decode cL_law 537 = .ok (.iconst 2, 1) := by decide +kernel
theorem dL_law_538 : decode cL_law 538 = .ok (.iadd, 1) := by decide +kernel
theorem dL_law_539 : decode cL_law 539 = .ok (.iaload, 1) := by decide +kernel
theorem dL_law_540 : decode cL_law 540 = .ok (.aload_n 0, 1) := by decide +kernel
theorem dL_law_541 : decode cL_law 541 = .ok (.iload_n 3, 1) := by decide +kernel
theorem dL_law_542 : decode cL_law 542 = .ok (.iconst 3, 1) := by decide +kernel
theorem dL_law_543 : decode cL_law 543 = .ok (.iadd, 1) := by decide +kernel
theorem dL_law_544 : decode cL_law 544 = .ok (.iaload, 1) := by decide +kernel
theorem dL_law_545 : decode cL_law 545 = .ok (.invokevirtual 77, 3) := by decide +kernel
theorem dL_law_548 : decode cL_law 548 = .ok (.aload_n 2, 1) := by decide +kernel
theorem dL_law_549 : decode cL_law 549 = .ok (.aload_n 0, 1) := by decide +kernel
theorem dL_law_550 : decode cL_law 550 = .ok (.iload_n 3, 1) := by decide +kernel
theorem dL_law_551 : decode cL_law 551 = .ok (.iconst 1, 1) := by decide +kernel
theorem dL_law_552 : decode cL_law 552 = .ok (.iadd, 1) := by decide +kernel
theorem dL_law_553 : decode cL_law 553 = .ok (.iaload, 1) := by decide +kernel
theorem dL_law_554 : decode cL_law 554 = .ok (.aload_n 0, 1) := by decide +kernel
theorem dL_law_555 : decode cL_law 555 = .ok (.iload_n 3, 1) := by decide +kernel
theorem dL_law_556 : decode cL_law 556 = .ok (.iconst 2, 1) := by decide +kernel
theorem dL_law_557 : decode cL_law 557 = .ok (.iadd, 1) := by decide +kernel
theorem dL_law_558 : decode cL_law 558 = .ok (.iaload, 1) := by decide +kernel
theorem dL_law_559 : decode cL_law 559 = .ok (.aload_n 0, 1) := by decide +kernel
theorem dL_law_560 : decode cL_law 560 = .ok (.iload_n 3, 1) := by decide +kernel
theorem dL_law_561 : decode cL_law 561 = .ok (.iconst 3, 1) := by decide +kernel
theorem dL_law_562 : decode cL_law 562 = .ok (.iadd, 1) := by decide +kernel
theorem dL_law_563 : decode cL_law 563 = .ok (.iaload, 1) := by decide +kernel
theorem dL_law_564 : decode cL_law 564 = .ok (.invokevirtual 81, 3) := by decide +kernel
theorem dL_law_567 : decode cL_law 567 = .ok (.if_icmp .eq 180, 3) := by decide +kernel
theorem dL_law_570 : decode cL_law 570 = .ok (.iconst 0, 1) := by decide +kernel
theorem dL_law_571 : decode cL_law 571 = .ok (.ireturn, 1) := by decide +kernel
theorem dL_law_572 : decode cL_law 572 = .ok (.aload_n 1, 1) := by decide +kernel
theorem dL_law_573 : decode cL_law 573 = .ok (.invokevirtual 82, 3) := by decide +kernel
theorem dL_law_576 : decode cL_law 576 = .ok (.aload_n 2, 1) := by decide +kernel
theorem dL_law_577 : decode cL_law 577 = .ok (.invokevirtual 85, 3) := by decide +kernel
theorem dL_law_580 : decode cL_law 580 = .ok (.if_icmp .eq 167, 3) := by decide +kernel
theorem dL_law_583 : decode cL_law 583 = .ok (.iconst 0, 1) := by decide +kernel
theorem dL_law_584 : decode cL_law 584 = .ok (.ireturn, 1) := by decide +kernel
theorem dL_law_585 : decode cL_law 585 = .ok (.aload_n 1, 1) := by decide +kernel
theorem dL_law_586 : decode cL_law 586 = .ok (.aload_n 0, 1) := by decide +kernel
theorem dL_law_587 : decode cL_law 587 = .ok (.iload_n 3, 1) := by decide +kernel
theorem dL_law_588 : decode cL_law 588 = .ok (.iconst 1, 1) := by decide +kernel
theorem dL_law_589 : decode cL_law 589 = .ok (.iadd, 1) := by decide +kernel
theorem dL_law_590 : decode cL_law 590 = .ok (.iaload, 1) := by decide +kernel
theorem dL_law_591 : decode cL_law 591 = .ok (.invokevirtual 86, 3) := by decide +kernel
theorem dL_law_594 : decode cL_law 594 = .ok (.aload_n 2, 1) := by decide +kernel
theorem dL_law_595 : decode cL_law 595 = .ok (.aload_n 0, 1) := by decide +kernel
theorem dL_law_596 : decode cL_law 596 = .ok (.iload_n 3, 1) := by decide +kernel
theorem dL_law_597 : decode cL_law 597 = .ok (.iconst 1, 1) := by decide +kernel
theorem dL_law_598 : decode cL_law 598 = .ok (.iadd, 1) := by decide +kernel
theorem dL_law_599 : decode cL_law 599 = .ok (.iaload, 1) := by decide +kernel
theorem dL_law_600 : decode cL_law 600 = .ok (.invokevirtual 89, 3) := by decide +kernel
theorem dL_law_603 : decode cL_law 603 = .ok (.if_icmp .eq 144, 3) := by decide +kernel
theorem dL_law_606 : decode cL_law 606 = .ok (.iconst 0, 1) := by decide +kernel
theorem dL_law_607 : decode cL_law 607 = .ok (.ireturn, 1) := by decide +kernel
theorem dL_law_608 : decode cL_law 608 = .ok (.aload_n 1, 1) := by decide +kernel
theorem dL_law_609 : decode cL_law 609 = .ok (.aload_n 0, 1) := by decide +kernel
theorem dL_law_610 : decode cL_law 610 = .ok (.iload_n 3, 1) := by decide +kernel
theorem dL_law_611 : decode cL_law 611 = .ok (.iconst 1, 1) := by decide +kernel
theorem dL_law_612 : decode cL_law 612 = .ok (.iadd, 1) := by decide +kernel
theorem dL_law_613 : decode cL_law 613 = .ok (.iaload, 1) := by decide +kernel
theorem dL_law_614 : decode cL_law 614 = .ok (.invokevirtual 90, 3) := by decide +kernel
theorem dL_law_617 : decode cL_law 617 = .ok (.aload_n 2, 1) := by decide +kernel
theorem dL_law_618 : decode cL_law 618 = .ok (.aload_n 0, 1) := by decide +kernel
theorem dL_law_619 : decode cL_law 619 = .ok (.iload_n 3, 1) := by decide +kernel
theorem dL_law_620 : decode cL_law 620 = .ok (.iconst 1, 1) := by decide +kernel
theorem dL_law_621 : decode cL_law 621 = .ok (.iadd, 1) := by decide +kernel
theorem dL_law_622 : decode cL_law 622 = .ok (.iaload, 1) := by decide +kernel
theorem dL_law_623 : decode cL_law 623 = .ok (.invokevirtual 93, 3) := by decide +kernel
theorem dL_law_626 : decode cL_law 626 = .ok (.if_icmp .eq 121, 3) := by decide +kernel
theorem dL_law_629 : decode cL_law 629 = .ok (.iconst 0, 1) := by decide +kernel
theorem dL_law_630 : decode cL_law 630 = .ok (.ireturn, 1) := by decide +kernel
theorem dL_law_631 : decode cL_law 631 = .ok (.aload_n 1, 1) := by decide +kernel
theorem dL_law_632 : decode cL_law 632 = .ok (.aload_n 0, 1) := by decide +kernel
theorem dL_law_633 : decode cL_law 633 = .ok (.iload_n 3, 1) := by decide +kernel
theorem dL_law_634 : decode cL_law 634 = .ok (.iconst 1, 1) := by decide +kernel
theorem dL_law_635 : decode cL_law 635 = .ok (.iadd, 1) := by decide +kernel
theorem dL_law_636 : decode cL_law 636 = .ok (.iaload, 1) := by decide +kernel
theorem dL_law_637 : decode cL_law 637 = .ok (.aload_n 0, 1) := by decide +kernel
theorem dL_law_638 : decode cL_law 638 = .ok (.iload_n 3, 1) := by decide +kernel
theorem dL_law_639 : decode cL_law 639 = .ok (.iconst 2, 1) := by decide +kernel
theorem dL_law_640 : decode cL_law 640 = .ok (.iadd, 1) := by decide +kernel
theorem dL_law_641 : decode cL_law 641 = .ok (.iaload, 1) := by decide +kernel
theorem dL_law_642 : decode cL_law 642 = .ok (.invokevirtual 94, 3) := by decide +kernel
theorem dL_law_645 : decode cL_law 645 = .ok (.aload_n 2, 1) := by decide +kernel
theorem dL_law_646 : decode cL_law 646 = .ok (.aload_n 0, 1) := by decide +kernel
theorem dL_law_647 : decode cL_law 647 = .ok (.iload_n 3, 1) := by decide +kernel
theorem dL_law_648 : decode cL_law 648 = .ok (.iconst 1, 1) := by decide +kernel
theorem dL_law_649 : decode cL_law 649 = .ok (.iadd, 1) := by decide +kernel
theorem dL_law_650 : decode cL_law 650 = .ok (.iaload, 1) := by decide +kernel
theorem dL_law_651 : decode cL_law 651 = .ok (.aload_n 0, 1) := by decide +kernel
theorem dL_law_652 : decode cL_law 652 = .ok (.iload_n 3, 1) := by decide +kernel
theorem dL_law_653 : decode cL_law 653 = .ok (.iconst 2, 1) := by decide +kernel
theorem dL_law_654 : decode cL_law 654 = .ok (.iadd, 1) := by decide +kernel
theorem dL_law_655 : decode cL_law 655 = .ok (.iaload, 1) := by decide +kernel
theorem dL_law_656 : decode cL_law 656 = .ok (.invokevirtual 97, 3) := by decide +kernel
theorem dL_law_659 : decode cL_law 659 = .ok (.if_icmp .eq 88, 3) := by decide +kernel
theorem dL_law_662 : decode cL_law 662 = .ok (.iconst 0, 1) := by decide +kernel
theorem dL_law_663 : decode cL_law 663 = .ok (.ireturn, 1) := by decide +kernel
theorem dL_law_664 : decode cL_law 664 = .ok (.aload_n 1, 1) := by decide +kernel
theorem dL_law_665 : decode cL_law 665 = .ok (.aload_n 0, 1) := by decide +kernel
theorem dL_law_666 : decode cL_law 666 = .ok (.iload_n 3, 1) := by decide +kernel
theorem dL_law_667 : decode cL_law 667 = .ok (.iconst 1, 1) := by decide +kernel
theorem dL_law_668 : decode cL_law 668 = .ok (.iadd, 1) := by decide +kernel
theorem dL_law_669 : decode cL_law 669 = .ok (.iaload, 1) := by decide +kernel
theorem dL_law_670 : decode cL_law 670 = .ok (.invokevirtual 98, 3) := by decide +kernel
theorem dL_law_673 : decode cL_law 673 = .ok (.aload_n 2, 1) := by decide +kernel
theorem dL_law_674 : decode cL_law 674 = .ok (.aload_n 0, 1) := by decide +kernel
theorem dL_law_675 : decode cL_law 675 = .ok (.iload_n 3, 1) := by decide +kernel
theorem dL_law_676 : decode cL_law 676 = .ok (.iconst 1, 1) := by decide +kernel
theorem dL_law_677 : decode cL_law 677 = .ok (.iadd, 1) := by decide +kernel
theorem dL_law_678 : decode cL_law 678 = .ok (.iaload, 1) := by decide +kernel
theorem dL_law_679 : decode cL_law 679 = .ok (.invokevirtual 101, 3) := by decide +kernel
theorem dL_law_682 : decode cL_law 682 = .ok (.if_icmp .eq 65, 3) := by decide +kernel
theorem dL_law_685 : decode cL_law 685 = .ok (.iconst 0, 1) := by decide +kernel
theorem dL_law_686 : decode cL_law 686 = .ok (.ireturn, 1) := by decide +kernel
theorem dL_law_687 : decode cL_law 687 = .ok (.aload_n 1, 1) := by decide +kernel
theorem dL_law_688 : decode cL_law 688 = .ok (.aload_n 0, 1) := by decide +kernel
theorem dL_law_689 : decode cL_law 689 = .ok (.iload_n 3, 1) := by decide +kernel
theorem dL_law_690 : decode cL_law 690 = .ok (.iconst 1, 1) := by decide +kernel
theorem dL_law_691 : decode cL_law 691 = .ok (.iadd, 1) := by decide +kernel
theorem dL_law_692 : decode cL_law 692 = .ok (.iaload, 1) := by decide +kernel
theorem dL_law_693 : decode cL_law 693 = .ok (.invokevirtual 102, 3) := by decide +kernel
theorem dL_law_696 : decode cL_law 696 = .ok (.aload_n 2, 1) := by decide +kernel
theorem dL_law_697 : decode cL_law 697 = .ok (.aload_n 0, 1) := by decide +kernel
theorem dL_law_698 : decode cL_law 698 = .ok (.iload_n 3, 1) := by decide +kernel
theorem dL_law_699 : decode cL_law 699 = .ok (.iconst 1, 1) := by decide +kernel
theorem dL_law_700 : decode cL_law 700 = .ok (.iadd, 1) := by decide +kernel
theorem dL_law_701 : decode cL_law 701 = .ok (.iaload, 1) := by decide +kernel
theorem dL_law_702 : decode cL_law 702 = .ok (.invokevirtual 105, 3) := by decide +kernel
theorem dL_law_705 : decode cL_law 705 = .ok (.if_icmp .eq 42, 3) := by decide +kernel
theorem dL_law_708 : decode cL_law 708 = .ok (.iconst 0, 1) := by decide +kernel
theorem dL_law_709 : decode cL_law 709 = .ok (.ireturn, 1) := by decide +kernel
theorem dL_law_710 : decode cL_law 710 = .ok (.aload_n 1, 1) := by decide +kernel
theorem dL_law_711 : decode cL_law 711 = .ok (.aload_n 0, 1) := by decide +kernel
theorem dL_law_712 : decode cL_law 712 = .ok (.iload_n 3, 1) := by decide +kernel
theorem dL_law_713 : decode cL_law 713 = .ok (.iconst 1, 1) := by decide +kernel
theorem dL_law_714 : decode cL_law 714 = .ok (.iadd, 1) := by decide +kernel
theorem dL_law_715 : decode cL_law 715 = .ok (.iaload, 1) := by decide +kernel
theorem dL_law_716 : decode cL_law 716 = .ok (.invokevirtual 106, 3) := by decide +kernel
theorem dL_law_719 : decode cL_law 719 = .ok (.aload_n 2, 1) := by decide +kernel
theorem dL_law_720 : decode cL_law 720 = .ok (.aload_n 0, 1) := by decide +kernel
theorem dL_law_721 : decode cL_law 721 = .ok (.iload_n 3, 1) := by decide +kernel
theorem dL_law_722 : decode cL_law 722 = .ok (.iconst 1, 1) := by decide +kernel
theorem dL_law_723 : decode cL_law 723 = .ok (.iadd, 1) := by decide +kernel
theorem dL_law_724 : decode cL_law 724 = .ok (.iaload, 1) := by decide +kernel
theorem dL_law_725 : decode cL_law 725 = .ok (.invokevirtual 109, 3) := by decide +kernel
theorem dL_law_728 : decode cL_law 728 = .ok (.if_icmp .eq 19, 3) := by decide +kernel
theorem dL_law_731 : decode cL_law 731 = .ok (.iconst 0, 1) := by decide +kernel
theorem dL_law_732 : decode cL_law 732 = .ok (.ireturn, 1) := by decide +kernel
theorem dL_law_733 : decode cL_law 733 = .ok (.aload_n 1, 1) := by decide +kernel
theorem dL_law_734 : decode cL_law 734 = .ok (.invokevirtual 110, 3) := by decide +kernel
theorem dL_law_737 : decode cL_law 737 = .ok (.aload_n 2, 1) := by decide +kernel
theorem dL_law_738 : decode cL_law 738 = .ok (.invokevirtual 114, 3) := by decide +kernel
theorem dL_law_741 : decode cL_law 741 = .ok (.lcmp, 1) := by decide +kernel
theorem dL_law_742 : decode cL_law 742 = .ok (.ifCond .eq 5, 3) := by decide +kernel
theorem dL_law_745 : decode cL_law 745 = .ok (.iconst 0, 1) := by decide +kernel
theorem dL_law_746 : decode cL_law 746 = .ok (.ireturn, 1) := by decide +kernel
theorem dL_law_747 : decode cL_law 747 = .ok (.iinc 3 5, 3) := by decide +kernel
theorem dL_law_750 : decode cL_law 750 = .ok (.goto (-732), 3) := by decide +kernel
theorem dL_law_753 : decode cL_law 753 = .ok (.iconst 1, 1) := by decide +kernel
theorem dL_law_754 : decode cL_law 754 = .ok (.ireturn, 1) := by decide +kernel
end
section
theorem dX9_init_0 : decode cX9_init 0 = .ok (.aload_n 0, 1) := by decide +kernel
theorem dX9_init_1 : decode cX9_init 1 = .ok (.invokespecial 1, 3) := by decide +kernel
theorem dX9_init_4 : decode cX9_init 4 = .ok (.aload_n 0, 1) := by decide +kernel
theorem dX9_init_5 : decode cX9_init 5 = .ok (.bipush 8, 2) := by decide +kernel
theorem dX9_init_7 : decode cX9_init 7 = .ok (.putfield 7, 3) := by decide +kernel
theorem dX9_init_10 : decode cX9_init 10 = .ok (.aload_n 0, 1) := by decide +kernel
theorem dX9_init_11 : decode cX9_init 11 = .ok (.bipush 10, 2) := by decide +kernel
theorem dX9_init_13 : decode cX9_init 13 = .ok (.putfield 13, 3) := by decide +kernel
theorem dX9_init_16 : decode cX9_init 16 = .ok (.aload_n 0, 1) := by decide +kernel
theorem dX9_init_17 : decode cX9_init 17 = .ok (.bipush 6, 2) := by decide +kernel
theorem dX9_init_19 : decode cX9_init 19 = .ok (.newarray .int, 2) := by decide +kernel
theorem dX9_init_21 : decode cX9_init 21 = .ok (.putfield 16, 3) := by decide +kernel
theorem dX9_init_24 : decode cX9_init 24 = .ok (.aload_n 0, 1) := by decide +kernel
theorem dX9_init_25 : decode cX9_init 25 = .ok (.bipush 6, 2) := by decide +kernel
theorem dX9_init_27 : decode cX9_init 27 = .ok (.newarray .int, 2) := by decide +kernel
theorem dX9_init_29 : decode cX9_init 29 = .ok (.putfield 20, 3) := by decide +kernel
theorem dX9_init_32 : decode cX9_init 32 = .ok (.aload_n 0, 1) := by decide +kernel
theorem dX9_init_33 : decode cX9_init 33 = .ok (.bipush 6, 2) := by decide +kernel
theorem dX9_init_35 : decode cX9_init 35 = .ok (.newarray .int, 2) := by decide +kernel
theorem dX9_init_37 : decode cX9_init 37 = .ok (.putfield 23, 3) := by decide +kernel
theorem dX9_init_40 : decode cX9_init 40 = .ok (.aload_n 0, 1) := by decide +kernel
theorem dX9_init_41 : decode cX9_init 41 = .ok (.bipush 6, 2) := by decide +kernel
theorem dX9_init_43 : decode cX9_init 43 = .ok (.newarray .int, 2) := by decide +kernel
theorem dX9_init_45 : decode cX9_init 45 = .ok (.putfield 26, 3) := by decide +kernel
theorem dX9_init_48 : decode cX9_init 48 = .ok (.aload_n 0, 1) := by decide +kernel
theorem dX9_init_49 : decode cX9_init 49 = .ok (.sipush 210, 3) := by decide +kernel
theorem dX9_init_52 : decode cX9_init 52 = .ok (.newarray .int, 2) := by decide +kernel
theorem dX9_init_54 : decode cX9_init 54 = .ok (.putfield 29, 3) := by decide +kernel
theorem dX9_init_57 : decode cX9_init 57 = .ok (.aload_n 0, 1) := by decide +kernel
theorem dX9_init_58 : decode cX9_init 58 = .ok (.iconst 2, 1) := by decide +kernel
theorem dX9_init_59 : decode cX9_init 59 = .ok (.newarray .int, 2) := by decide +kernel
theorem dX9_init_61 : decode cX9_init 61 = .ok (.putfield 32, 3) := by decide +kernel
theorem dX9_init_64 : decode cX9_init 64 = .ok (.aload_n 0, 1) := by decide +kernel
theorem dX9_init_65 : decode cX9_init 65 = .ok (.bipush 120, 2) := by decide +kernel
theorem dX9_init_67 : decode cX9_init 67 = .ok (.newarray .byte, 2) := by decide +kernel
theorem dX9_init_69 : decode cX9_init 69 = .ok (.putfield 35, 3) := by decide +kernel
theorem dX9_init_72 : decode cX9_init 72 = .ok (.aload_n 0, 1) := by decide +kernel
theorem dX9_init_73 : decode cX9_init 73 = .ok (.bipush 6, 2) := by decide +kernel
theorem dX9_init_75 : decode cX9_init 75 = .ok (.newarray .int, 2) := by decide +kernel
theorem dX9_init_77 : decode cX9_init 77 = .ok (.putfield 39, 3) := by decide +kernel
theorem dX9_init_80 : decode cX9_init 80 = .ok (.aload_n 0, 1) := by decide +kernel
theorem dX9_init_81 : decode cX9_init 81 = .ok (.bipush 6, 2) := by decide +kernel
theorem dX9_init_83 : decode cX9_init 83 = .ok (.newarray .int, 2) := by decide +kernel
theorem dX9_init_85 : decode cX9_init 85 = .ok (.putfield 42, 3) := by decide +kernel
theorem dX9_init_88 : decode cX9_init 88 = .ok (.aload_n 0, 1) := by decide +kernel
theorem dX9_init_89 : decode cX9_init 89 = .ok (.bipush 6, 2) := by decide +kernel
theorem dX9_init_91 : decode cX9_init 91 = .ok (.newarray .int, 2) := by decide +kernel
theorem dX9_init_93 : decode cX9_init 93 = .ok (.putfield 45, 3) := by decide +kernel
theorem dX9_init_96 : decode cX9_init 96 = .ok (.return_, 1) := by decide +kernel
theorem dX9_in_0 : decode cX9_in 0 = .ok (.lload_n 0, 1) := by decide +kernel
theorem dX9_in_1 : decode cX9_in 1 = .ok (.lload_n 2, 1) := by decide +kernel
theorem dX9_in_2 : decode cX9_in 2 = .ok (.lcmp, 1) := by decide +kernel
theorem dX9_in_3 : decode cX9_in 3 = .ok (.ifCond .lt 14, 3) := by decide +kernel
theorem dX9_in_6 : decode cX9_in 6 = .ok (.lload_n 0, 1) := by decide +kernel
theorem dX9_in_7 : decode cX9_in 7 = .ok (.lload 4, 2) := by decide +kernel
theorem dX9_in_9 : decode cX9_in 9 = .ok (.lcmp, 1) := by decide +kernel
theorem dX9_in_10 : decode cX9_in 10 = .ok (.ifCond .gt 7, 3) := by decide +kernel
theorem dX9_in_13 : decode cX9_in 13 = .ok (.iconst 1, 1) := by decide +kernel
theorem dX9_in_14 : decode cX9_in 14 = .ok (.goto 4, 3) := by decide +kernel
theorem dX9_in_17 : decode cX9_in 17 = .ok (.iconst 0, 1) := by decide +kernel
theorem dX9_in_18 : decode cX9_in 18 = .ok (.ireturn, 1) := by decide +kernel
theorem dX9_has_0 : decode cX9_has 0 = .ok (.iload_n 0, 1) := by decide +kernel
theorem dX9_has_1 : decode cX9_has 1 = .ok (.iload_n 1, 1) := by decide +kernel
theorem dX9_has_2 : decode cX9_has 2 = .ok (.ishr, 1) := by decide +kernel
theorem dX9_has_3 : decode cX9_has 3 = .ok (.iconst 1, 1) := by decide +kernel
theorem dX9_has_4 : decode cX9_has 4 = .ok (.iand, 1) := by decide +kernel
theorem dX9_has_5 : decode cX9_has 5 = .ok (.iconst 1, 1) := by decide +kernel
theorem dX9_has_6 : decode cX9_has 6 = .ok (.if_icmp .ne 7, 3) := by decide +kernel
theorem dX9_has_9 : decode cX9_has 9 = .ok (.iconst 1, 1) := by decide +kernel
theorem dX9_has_10 : decode cX9_has 10 = .ok (.goto 4, 3) := by decide +kernel
theorem dX9_has_13 : decode cX9_has 13 = .ok (.iconst 0, 1) := by decide +kernel
theorem dX9_has_14 : decode cX9_has 14 = .ok (.ireturn, 1) := by decide +kernel
theorem dX9_bits_0 : decode cX9_bits 0 = .ok (.iconst 0, 1) := by decide +kernel
theorem dX9_bits_1 : decode cX9_bits 1 = .ok (.istore_n 1, 1) := by decide +kernel
theorem dX9_bits_2 : decode cX9_bits 2 = .ok (.iconst 0, 1) := by decide +kernel
theorem dX9_bits_3 : decode cX9_bits 3 = .ok (.istore_n 2, 1) := by decide +kernel
theorem dX9_bits_4 : decode cX9_bits 4 = .ok (.iload_n 2, 1) := by decide +kernel
theorem dX9_bits_5 : decode cX9_bits 5 = .ok (.bipush 6, 2) := by decide +kernel
theorem dX9_bits_7 : decode cX9_bits 7 = .ok (.if_icmp .ge 17, 3) := by decide +kernel
theorem dX9_bits_10 : decode cX9_bits 10 = .ok (.iload_n 1, 1) := by decide +kernel
theorem dX9_bits_11 : decode cX9_bits 11 = .ok (.iload_n 0, 1) := by decide +kernel
theorem dX9_bits_12 : decode cX9_bits 12 = .ok (.iload_n 2, 1) := by decide +kernel
theorem dX9_bits_13 : decode cX9_bits 13 = .ok (.ishr, 1) := by decide +kernel
theorem dX9_bits_14 : decode cX9_bits 14 = .ok (.iconst 1, 1) := by decide +kernel
theorem dX9_bits_15 : decode cX9_bits 15 = .ok (.iand, 1) := by decide +kernel
theorem dX9_bits_16 : decode cX9_bits 16 = .ok (.iadd, 1) := by decide +kernel
theorem dX9_bits_17 : decode cX9_bits 17 = .ok (.istore_n 1, 1) := by decide +kernel
theorem dX9_bits_18 : decode cX9_bits 18 = .ok (.iinc 2 1, 3) := by decide +kernel
theorem dX9_bits_21 : decode cX9_bits 21 = .ok (.goto (-17), 3) := by decide +kernel
theorem dX9_bits_24 : decode cX9_bits 24 = .ok (.iload_n 1, 1) := by decide +kernel
theorem dX9_bits_25 : decode cX9_bits 25 = .ok (.ireturn, 1) := by decide +kernel
theorem dX9_larger_0 : decode cX9_larger 0 = .ok (.iload_n 0, 1) := by decide +kernel
theorem dX9_larger_1 : decode cX9_larger 1 = .ok (.iload_n 1, 1) := by decide +kernel
theorem dX9_larger_2 : decode cX9_larger 2 = .ok (.if_icmp .ge 7, 3) := by decide +kernel
theorem dX9_larger_5 : decode cX9_larger 5 = .ok (.iload_n 1, 1) := by decide +kernel
theorem dX9_larger_6 : decode cX9_larger 6 = .ok (.goto 4, 3) := by decide +kernel
theorem dX9_larger_9 : decode cX9_larger 9 = .ok (.iload_n 0, 1) := by decide +kernel
theorem dX9_larger_10 : decode cX9_larger 10 = .ok (.ireturn, 1) := by decide +kernel
theorem dX9_type_0 : decode cX9_type 0 = .ok (.iload_n 1, 1) := by decide +kernel
theorem dX9_type_1 : decode cX9_type 1 = .ok (.i2l, 1) := by decide +kernel
theorem dX9_type_2 : decode cX9_type 2 = .ok (.lconst 0, 1) := by decide +kernel
theorem dX9_type_3 : decode cX9_type 3 = .ok (.ldc2_w 48, 3) := by decide +kernel
theorem dX9_type_6 : decode cX9_type 6 = .ok (.invokestatic 50, 3) := by decide +kernel
theorem dX9_type_9 : decode cX9_type 9 = .ok (.ifCond .ne 5, 3) := by decide +kernel
theorem dX9_type_12 : decode cX9_type 12 = .ok (.iconst (-1), 1) := by decide +kernel
theorem dX9_type_13 : decode cX9_type 13 = .ok (.ireturn, 1) := by decide +kernel
theorem dX9_type_14 : decode cX9_type 14 = .ok (.aload_n 0, 1) := by decide +kernel
theorem dX9_type_15 : decode cX9_type 15 = .ok (.getfield 54, 3) := by decide +kernel
theorem dX9_type_18 : decode cX9_type 18 = .ok (.bipush 120, 2) := by decide +kernel
theorem dX9_type_20 : decode cX9_type 20 = .ok (.if_icmp .ne 6, 3) := by decide +kernel
theorem dX9_type_23 : decode cX9_type 23 = .ok (.bipush (-3), 2) := by decide +kernel
theorem dX9_type_25 : decode cX9_type 25 = .ok (.ireturn, 1) := by decide +kernel
theorem dX9_type_26 : decode cX9_type 26 = .ok (.aload_n 0, 1) := by decide +kernel
theorem dX9_type_27 : decode cX9_type 27 = .ok (.getfield 35, 3) := by decide +kernel
theorem dX9_type_30 : decode cX9_type 30 = .ok (.aload_n 0, 1) := by decide +kernel
theorem dX9_type_31 : decode cX9_type 31 = .ok (.getfield 54, 3) := by decide +kernel
theorem dX9_type_34 : decode cX9_type 34 = .ok (.iload_n 1, 1) := by decide +kernel
theorem dX9_type_35 : decode cX9_type 35 = .ok (.i2b, 1) := by decide +kernel
theorem dX9_type_36 : decode cX9_type 36 = .ok (.bastore, 1) := by decide +kernel
theorem dX9_type_37 : decode cX9_type 37 = .ok (.aload_n 0, 1) := by decide +kernel
theorem dX9_type_38 : decode cX9_type 38 = .ok (.dup, 1) := by decide +kernel
theorem dX9_type_39 : decode cX9_type 39 = .ok (.getfield 54, 3) := by decide +kernel
theorem dX9_type_42 : decode cX9_type 42 = .ok (.iconst 1, 1) := by decide +kernel
theorem dX9_type_43 : decode cX9_type 43 = .ok (.iadd, 1) := by decide +kernel
theorem dX9_type_44 : decode cX9_type 44 = .ok (.putfield 54, 3) := by decide +kernel
theorem dX9_type_47 : decode cX9_type 47 = .ok (.aload_n 0, 1) := by decide +kernel
theorem dX9_type_48 : decode cX9_type 48 = .ok (.getfield 54, 3) := by decide +kernel
theorem dX9_type_51 : decode cX9_type 51 = .ok (.ireturn, 1) := by decide +kernel
theorem dX9_clear_0 : decode cX9_clear 0 = .ok (.aload_n 0, 1) := by decide +kernel
theorem dX9_clear_1 : decode cX9_clear 1 = .ok (.getfield 54, 3) := by decide +kernel
theorem dX9_clear_4 : decode cX9_clear 4 = .ok (.istore_n 1, 1) := by decide +kernel
theorem dX9_clear_5 : decode cX9_clear 5 = .ok (.aload_n 0, 1) := by decide +kernel
theorem dX9_clear_6 : decode cX9_clear 6 = .ok (.iconst 0, 1) := by decide +kernel
theorem dX9_clear_7 : decode cX9_clear 7 = .ok (.putfield 54, 3) := by decide +kernel
theorem dX9_clear_10 : decode cX9_clear 10 = .ok (.iload_n 1, 1) := by decide +kernel
theorem dX9_clear_11 : decode cX9_clear 11 = .ok (.ireturn, 1) := by decide +kernel
theorem dX9_letterAt_0 : decode cX9_letterAt 0 = .ok (.iload_n 1, 1) := by decide +kernel
theorem dX9_letterAt_1 : decode cX9_letterAt 1 = .ok (.aload_n 0, 1) := by decide +kernel
theorem dX9_letterAt_2 : decode cX9_letterAt 2 = .ok (.getfield 54, 3) := by decide +kernel
theorem dX9_letterAt_5 : decode cX9_letterAt 5 = .ok (.if_icmp .ge 16, 3) := by decide +kernel
theorem dX9_letterAt_8 : decode cX9_letterAt 8 = .ok (.aload_n 0, 1) := by decide +kernel
theorem dX9_letterAt_9 : decode cX9_letterAt 9 = .ok (.getfield 35, 3) := by decide +kernel
theorem dX9_letterAt_12 : decode cX9_letterAt 12 = .ok (.iload_n 1, 1) := by decide +kernel
theorem dX9_letterAt_13 : decode cX9_letterAt 13 = .ok (.baload, 1) := by decide +kernel
theorem dX9_letterAt_14 : decode cX9_letterAt 14 = .ok (.sipush 255, 3) := by decide +kernel
theorem dX9_letterAt_17 : decode cX9_letterAt 17 = .ok (.iand, 1) := by decide +kernel
theorem dX9_letterAt_18 : decode cX9_letterAt 18 = .ok (.goto 4, 3) := by decide +kernel
theorem dX9_letterAt_21 : decode cX9_letterAt 21 = .ok (.iconst (-1), 1) := by decide +kernel
theorem dX9_letterAt_22 : decode cX9_letterAt 22 = .ok (.ireturn, 1) := by decide +kernel
theorem dX9_token_0 : decode cX9_token 0 = .ok (.aload_n 0, 1) := by decide +kernel
theorem dX9_token_1 : decode cX9_token 1 = .ok (.aload_n 0, 1) := by decide +kernel
theorem dX9_token_2 : decode cX9_token 2 = .ok (.getfield 57, 3) := by decide +kernel
theorem dX9_token_5 : decode cX9_token 5 = .ok (.invokevirtual 60, 3) := by decide +kernel
theorem dX9_token_8 : decode cX9_token 8 = .ok (.bipush 32, 2) := by decide +kernel
theorem dX9_token_10 : decode cX9_token 10 = .ok (.if_icmp .ne 16, 3) := by decide +kernel
theorem dX9_token_13 : decode cX9_token 13 = .ok (.aload_n 0, 1) := by decide +kernel
theorem dX9_token_14 : decode cX9_token 14 = .ok (.dup, 1) := by decide +kernel
theorem dX9_token_15 : decode cX9_token 15 = .ok (.getfield 57, 3) := by decide +kernel
theorem dX9_token_18 : decode cX9_token 18 = .ok (.iconst 1, 1) := by decide +kernel
theorem dX9_token_19 : decode cX9_token 19 = .ok (.iadd, 1) := by decide +kernel
theorem dX9_token_20 : decode cX9_token 20 = .ok (.putfield 57, 3) := by decide +kernel
theorem dX9_token_23 : decode cX9_token 23 = .ok (.goto (-23), 3) := by decide +kernel
theorem dX9_token_26 : decode cX9_token 26 = .ok (.aload_n 0, 1) := by decide +kernel
theorem dX9_token_27 : decode cX9_token 27 = .ok (.aload_n 0, 1) := by decide +kernel
theorem dX9_token_28 : decode cX9_token 28 = .ok (.getfield 57, 3) := by decide +kernel
theorem dX9_token_31 : decode cX9_token 31 = .ok (.putfield 64, 3) := by decide +kernel
theorem dX9_token_34 : decode cX9_token 34 = .ok (.aload_n 0, 1) := by decide +kernel
theorem dX9_token_35 : decode cX9_token 35 = .ok (.aload_n 0, 1) := by decide +kernel
theorem dX9_token_36 : decode cX9_token 36 = .ok (.getfield 57, 3) := by decide +kernel
theorem dX9_token_39 : decode cX9_token 39 = .ok (.invokevirtual 60, 3) := by decide +kernel
theorem dX9_token_42 : decode cX9_token 42 = .ok (.istore_n 1, 1) := by decide +kernel
theorem dX9_token_43 : decode cX9_token 43 = .ok (.iload_n 1, 1) := by decide +kernel
theorem dX9_token_44 : decode cX9_token 44 = .ok (.i2l, 1) := by decide +kernel
theorem dX9_token_45 : decode cX9_token 45 = .ok (.ldc2_w 67, 3) := by decide +kernel
theorem dX9_token_48 : decode cX9_token 48 = .ok (.ldc2_w 69, 3) := by decide +kernel
theorem dX9_token_51 : decode cX9_token 51 = .ok (.invokestatic 50, 3) := by decide +kernel
theorem dX9_token_54 : decode cX9_token 54 = .ok (.ifCond .eq 108, 3) := by decide +kernel
theorem dX9_token_57 : decode cX9_token 57 = .ok (.iconst 0, 1) := by decide +kernel
theorem dX9_token_58 : decode cX9_token 58 = .ok (.istore_n 2, 1) := by decide +kernel
theorem dX9_token_59 : decode cX9_token 59 = .ok (.aload_n 0, 1) := by decide +kernel
theorem dX9_token_60 : decode cX9_token 60 = .ok (.iconst 0, 1) := by decide +kernel
theorem dX9_token_61 : decode cX9_token 61 = .ok (.putfield 71, 3) := by decide +kernel
theorem dX9_token_64 : decode cX9_token 64 = .ok (.aload_n 0, 1) := by decide +kernel
theorem dX9_token_65 : decode cX9_token 65 = .ok (.aload_n 0, 1) := by decide +kernel
theorem dX9_token_66 : decode cX9_token 66 = .ok (.getfield 57, 3) := by decide +kernel
theorem dX9_token_69 : decode cX9_token 69 = .ok (.invokevirtual 60, 3) := by decide +kernel
theorem dX9_token_72 : decode cX9_token 72 = .ok (.i2l, 1) := by decide +kernel
theorem dX9_token_73 : decode cX9_token 73 = .ok (.ldc2_w 67, 3) := by decide +kernel
theorem dX9_token_76 : decode cX9_token 76 = .ok (.ldc2_w 69, 3) := by decide +kernel
theorem dX9_token_79 : decode cX9_token 79 = .ok (.invokestatic 50, 3) := by decide +kernel
theorem dX9_token_82 : decode cX9_token 82 = .ok (.ifCond .eq 53, 3) := by decide +kernel
theorem dX9_token_85 : decode cX9_token 85 = .ok (.aload_n 0, 1) := by decide +kernel
theorem dX9_token_86 : decode cX9_token 86 = .ok (.iload_n 2, 1) := by decide +kernel
theorem dX9_token_87 : decode cX9_token 87 = .ok (.iconst 2, 1) := by decide +kernel
theorem dX9_token_88 : decode cX9_token 88 = .ok (.if_icmp .ge 25, 3) := by decide +kernel
theorem dX9_token_91 : decode cX9_token 91 = .ok (.bipush 10, 2) := by decide +kernel
theorem dX9_token_93 : decode cX9_token 93 = .ok (.aload_n 0, 1) := by decide +kernel
theorem dX9_token_94 : decode cX9_token 94 = .ok (.getfield 71, 3) := by decide +kernel
theorem dX9_token_97 : decode cX9_token 97 = .ok (.imul, 1) := by decide +kernel
theorem dX9_token_98 : decode cX9_token 98 = .ok (.aload_n 0, 1) := by decide +kernel
theorem dX9_token_99 : decode cX9_token 99 = .ok (.aload_n 0, 1) := by decide +kernel
theorem dX9_token_100 : decode cX9_token 100 = .ok (.getfield 57, 3) := by decide +kernel
theorem dX9_token_103 : decode cX9_token 103 = .ok (.invokevirtual 60, 3) := by decide +kernel
theorem dX9_token_106 : decode cX9_token 106 = .ok (.iadd, 1) := by decide +kernel
theorem dX9_token_107 : decode cX9_token 107 = .ok (.bipush 48, 2) := by decide +kernel
theorem dX9_token_109 : decode cX9_token 109 = .ok (.isub, 1) := by decide +kernel
theorem dX9_token_110 : decode cX9_token 110 = .ok (.goto 6, 3) := by decide +kernel
theorem dX9_token_113 : decode cX9_token 113 = .ok (.sipush 1000, 3) := by decide +kernel
theorem dX9_token_116 : decode cX9_token 116 = .ok (.putfield 71, 3) := by decide +kernel
theorem dX9_token_119 : decode cX9_token 119 = .ok (.iinc 2 1, 3) := by decide +kernel
theorem dX9_token_122 : decode cX9_token 122 = .ok (.aload_n 0, 1) := by decide +kernel
theorem dX9_token_123 : decode cX9_token 123 = .ok (.dup, 1) := by decide +kernel
theorem dX9_token_124 : decode cX9_token 124 = .ok (.getfield 57, 3) := by decide +kernel
theorem dX9_token_127 : decode cX9_token 127 = .ok (.iconst 1, 1) := by decide +kernel
theorem dX9_token_128 : decode cX9_token 128 = .ok (.iadd, 1) := by decide +kernel
theorem dX9_token_129 : decode cX9_token 129 = .ok (.putfield 57, 3) := by decide +kernel
theorem dX9_token_132 : decode cX9_token 132 = .ok (.goto (-68), 3) := by decide +kernel
theorem dX9_token_135 : decode cX9_token 135 = .ok (.aload_n 0, 1) := by decide +kernel
theorem dX9_token_136 : decode cX9_token 136 = .ok (.iload_n 2, 1) := by decide +kernel
theorem dX9_token_137 : decode cX9_token 137 = .ok (.iconst 1, 1) := by decide +kernel
theorem dX9_token_138 : decode cX9_token 138 = .ok (.if_icmp .le 15, 3) := by decide +kernel
theorem dX9_token_141 : decode cX9_token 141 = .ok (.iload_n 1, 1) := by decide +kernel
theorem dX9_token_142 : decode cX9_token 142 = .ok (.bipush 48, 2) := by decide +kernel
theorem dX9_token_144 : decode cX9_token 144 = .ok (.if_icmp .ne 9, 3) := by decide +kernel
theorem dX9_token_147 : decode cX9_token 147 = .ok (.sipush 1000, 3) := by decide +kernel
theorem dX9_token_150 : decode cX9_token 150 = .ok (.goto 7, 3) := by decide +kernel
theorem dX9_token_153 : decode cX9_token 153 = .ok (.aload_n 0, 1) := by decide +kernel
theorem dX9_token_154 : decode cX9_token 154 = .ok (.getfield 71, 3) := by decide +kernel
theorem dX9_token_157 : decode cX9_token 157 = .ok (.putfield 71, 3) := by decide +kernel
theorem dX9_token_160 : decode cX9_token 160 = .ok (.iconst 1, 1) := by decide +kernel
theorem dX9_token_161 : decode cX9_token 161 = .ok (.ireturn, 1) := by decide +kernel
theorem dX9_token_162 : decode cX9_token 162 = .ok (.aload_n 0, 1) := by decide +kernel
theorem dX9_token_163 : decode cX9_token 163 = .ok (.dup, 1) := by decide +kernel
theorem dX9_token_164 : decode cX9_token 164 = .ok (.getfield 57, 3) := by decide +kernel
theorem dX9_token_167 : decode cX9_token 167 = .ok (.iload_n 1, 1) := by decide +kernel
theorem dX9_token_168 : decode cX9_token 168 = .ok (.ifCond .ge 7, 3) := by decide +kernel
theorem dX9_token_171 : decode cX9_token 171 = .ok (.iconst 0, 1) := by decide +kernel
theorem dX9_token_172 : decode cX9_token 172 = .ok (.goto 4, 3) := by decide +kernel
theorem dX9_token_175 : decode cX9_token 175 = .ok (.iconst 1, 1) := by decide +kernel
theorem dX9_token_176 : decode cX9_token 176 = .ok (.iadd, 1) := by decide +kernel
theorem dX9_token_177 : decode cX9_token 177 = .ok (.putfield 57, 3) := by decide +kernel
theorem dX9_token_180 : decode cX9_token 180 = .ok (.iload_n 1, 1) := by decide +kernel
theorem dX9_token_181 : decode cX9_token 181 = .ok (.ifCond .ge 7, 3) := by decide +kernel
theorem dX9_token_184 : decode cX9_token 184 = .ok (.iconst 4, 1) := by decide +kernel
theorem dX9_token_185 : decode cX9_token 185 = .ok (.goto 36, 3) := by decide +kernel
theorem dX9_token_188 : decode cX9_token 188 = .ok (.iload_n 1, 1) := by decide +kernel
theorem dX9_token_189 : decode cX9_token 189 = .ok (.bipush 59, 2) := by decide +kernel
theorem dX9_token_191 : decode cX9_token 191 = .ok (.if_icmp .ne 7, 3) := by decide +kernel
theorem dX9_token_194 : decode cX9_token 194 = .ok (.iconst 2, 1) := by decide +kernel
theorem dX9_token_195 : decode cX9_token 195 = .ok (.goto 26, 3) := by decide +kernel
theorem dX9_token_198 : decode cX9_token 198 = .ok (.iload_n 1, 1) := by decide +kernel
theorem dX9_token_199 : decode cX9_token 199 = .ok (.bipush 110, 2) := by decide +kernel
theorem dX9_token_201 : decode cX9_token 201 = .ok (.if_icmp .eq 15, 3) := by decide +kernel
theorem dX9_token_204 : decode cX9_token 204 = .ok (.iload_n 1, 1) := by decide +kernel
theorem dX9_token_205 : decode cX9_token 205 = .ok (.bipush 116, 2) := by decide +kernel
theorem dX9_token_207 : decode cX9_token 207 = .ok (.if_icmp .eq 9, 3) := by decide +kernel
theorem dX9_token_210 : decode cX9_token 210 = .ok (.iload_n 1, 1) := by decide +kernel
theorem dX9_token_211 : decode cX9_token 211 = .ok (.bipush 108, 2) := by decide +kernel
theorem dX9_token_213 : decode cX9_token 213 = .ok (.if_icmp .ne 7, 3) := by decide +kernel
theorem dX9_token_216 : decode cX9_token 216 = .ok (.iload_n 1, 1) := by decide +kernel
theorem dX9_token_217 : decode cX9_token 217 = .ok (.goto 4, 3) := by decide +kernel
theorem dX9_token_220 : decode cX9_token 220 = .ok (.iconst 3, 1) := by decide +kernel
theorem dX9_token_221 : decode cX9_token 221 = .ok (.ireturn, 1) := by decide +kernel
theorem dX9_wants_0 : decode cX9_wants 0 = .ok (.aload_n 0, 1) := by decide +kernel
theorem dX9_wants_1 : decode cX9_wants 1 = .ok (.getfield 74, 3) := by decide +kernel
theorem dX9_wants_4 : decode cX9_wants 4 = .ok (.ifCond .ne 30, 3) := by decide +kernel
theorem dX9_wants_7 : decode cX9_wants 7 = .ok (.aload_n 0, 1) := by decide +kernel
theorem dX9_wants_8 : decode cX9_wants 8 = .ok (.invokevirtual 78, 3) := by decide +kernel
theorem dX9_wants_11 : decode cX9_wants 11 = .ok (.iconst 1, 1) := by decide +kernel
theorem dX9_wants_12 : decode cX9_wants 12 = .ok (.if_icmp .ne 22, 3) := by decide +kernel
theorem dX9_wants_15 : decode cX9_wants 15 = .ok (.aload_n 0, 1) := by decide +kernel
theorem dX9_wants_16 : decode cX9_wants 16 = .ok (.getfield 71, 3) := by decide +kernel
theorem dX9_wants_19 : decode cX9_wants 19 = .ok (.i2l, 1) := by decide +kernel
theorem dX9_wants_20 : decode cX9_wants 20 = .ok (.iload_n 1, 1) := by decide +kernel
theorem dX9_wants_21 : decode cX9_wants 21 = .ok (.i2l, 1) := by decide +kernel
theorem dX9_wants_22 : decode cX9_wants 22 = .ok (.iload_n 2, 1) := by decide +kernel
theorem dX9_wants_23 : decode cX9_wants 23 = .ok (.i2l, 1) := by decide +kernel
theorem dX9_wants_24 : decode cX9_wants 24 = .ok (.invokestatic 50, 3) := by decide +kernel
theorem dX9_wants_27 : decode cX9_wants 27 = .ok (.ifCond .eq 7, 3) := by decide +kernel
theorem dX9_wants_30 : decode cX9_wants 30 = .ok (.iconst 1, 1) := by decide +kernel
theorem dX9_wants_31 : decode cX9_wants 31 = .ok (.goto 4, 3) := by decide +kernel
theorem dX9_wants_34 : decode cX9_wants 34 = .ok (.iconst 0, 1) := by decide +kernel
theorem dX9_wants_35 : decode cX9_wants 35 = .ok (.istore_n 3, 1) := by decide +kernel
theorem dX9_wants_36 : decode cX9_wants 36 = .ok (.aload_n 0, 1) := by decide +kernel
theorem dX9_wants_37 : decode cX9_wants 37 = .ok (.aload_n 0, 1) := by decide +kernel
theorem dX9_wants_38 : decode cX9_wants 38 = .ok (.getfield 74, 3) := by decide +kernel
theorem dX9_wants_41 : decode cX9_wants 41 = .ok (.ifCond .ne 7, 3) := by decide +kernel
theorem dX9_wants_44 : decode cX9_wants 44 = .ok (.iload_n 3, 1) := by decide +kernel
theorem dX9_wants_45 : decode cX9_wants 45 = .ok (.ifCond .ne 7, 3) := by decide +kernel
theorem dX9_wants_48 : decode cX9_wants 48 = .ok (.iconst 1, 1) := by decide +kernel
theorem dX9_wants_49 : decode cX9_wants 49 = .ok (.goto 4, 3) := by decide +kernel
theorem dX9_wants_52 : decode cX9_wants 52 = .ok (.iconst 0, 1) := by decide +kernel
theorem dX9_wants_53 : decode cX9_wants 53 = .ok (.putfield 74, 3) := by decide +kernel
theorem dX9_wants_56 : decode cX9_wants 56 = .ok (.iload_n 3, 1) := by decide +kernel
theorem dX9_wants_57 : decode cX9_wants 57 = .ok (.ifCond .eq 10, 3) := by decide +kernel
theorem dX9_wants_60 : decode cX9_wants 60 = .ok (.aload_n 0, 1) := by decide +kernel
theorem dX9_wants_61 : decode cX9_wants 61 = .ok (.getfield 71, 3) := by decide +kernel
theorem dX9_wants_64 : decode cX9_wants 64 = .ok (.goto 4, 3) := by decide +kernel
theorem dX9_wants_67 : decode cX9_wants 67 = .ok (.iconst 0, 1) := by decide +kernel
theorem dX9_wants_68 : decode cX9_wants 68 = .ok (.ireturn, 1) := by decide +kernel
theorem dX9_topItem_0 : decode cX9_topItem 0 = .ok (.aload_n 0, 1) := by decide +kernel
theorem dX9_topItem_1 : decode cX9_topItem 1 = .ok (.aload_n 0, 1) := by decide +kernel
theorem dX9_topItem_2 : decode cX9_topItem 2 = .ok (.getfield 82, 3) := by decide +kernel
theorem dX9_topItem_5 : decode cX9_topItem 5 = .ok (.bipush 6, 2) := by decide +kernel
theorem dX9_topItem_7 : decode cX9_topItem 7 = .ok (.if_icmp .ne 7, 3) := by decide +kernel
theorem dX9_topItem_10 : decode cX9_topItem 10 = .ok (.iconst 1, 1) := by decide +kernel
theorem dX9_topItem_11 : decode cX9_topItem 11 = .ok (.goto 4, 3) := by decide +kernel
theorem dX9_topItem_14 : decode cX9_topItem 14 = .ok (.iconst 0, 1) := by decide +kernel
theorem dX9_topItem_15 : decode cX9_topItem 15 = .ok (.putfield 74, 3) := by decide +kernel
theorem dX9_topItem_18 : decode cX9_topItem 18 = .ok (.aload_n 0, 1) := by decide +kernel
theorem dX9_topItem_19 : decode cX9_topItem 19 = .ok (.iconst 0, 1) := by decide +kernel
theorem dX9_topItem_20 : decode cX9_topItem 20 = .ok (.aload_n 0, 1) := by decide +kernel
theorem dX9_topItem_21 : decode cX9_topItem 21 = .ok (.getfield 85, 3) := by decide +kernel
theorem dX9_topItem_24 : decode cX9_topItem 24 = .ok (.iconst 1, 1) := by decide +kernel
theorem dX9_topItem_25 : decode cX9_topItem 25 = .ok (.isub, 1) := by decide +kernel
theorem dX9_topItem_26 : decode cX9_topItem 26 = .ok (.invokevirtual 88, 3) := by decide +kernel
theorem dX9_topItem_29 : decode cX9_topItem 29 = .ok (.istore_n 1, 1) := by decide +kernel
theorem dX9_topItem_30 : decode cX9_topItem 30 = .ok (.iconst 0, 1) := by decide +kernel
theorem dX9_topItem_31 : decode cX9_topItem 31 = .ok (.istore_n 2, 1) := by decide +kernel
theorem dX9_topItem_32 : decode cX9_topItem 32 = .ok (.iload_n 2, 1) := by decide +kernel
theorem dX9_topItem_33 : decode cX9_topItem 33 = .ok (.aload_n 0, 1) := by decide +kernel
theorem dX9_topItem_34 : decode cX9_topItem 34 = .ok (.getfield 82, 3) := by decide +kernel
theorem dX9_topItem_37 : decode cX9_topItem 37 = .ok (.if_icmp .ge 35, 3) := by decide +kernel
theorem dX9_topItem_40 : decode cX9_topItem 40 = .ok (.aload_n 0, 1) := by decide +kernel
theorem dX9_topItem_41 : decode cX9_topItem 41 = .ok (.aload_n 0, 1) := by decide +kernel
theorem dX9_topItem_42 : decode cX9_topItem 42 = .ok (.getfield 74, 3) := by decide +kernel
theorem dX9_topItem_45 : decode cX9_topItem 45 = .ok (.ifCond .ne 13, 3) := by decide +kernel
theorem dX9_topItem_48 : decode cX9_topItem 48 = .ok (.aload_n 0, 1) := by decide +kernel
theorem dX9_topItem_49 : decode cX9_topItem 49 = .ok (.getfield 20, 3) := by decide +kernel
theorem dX9_topItem_52 : decode cX9_topItem 52 = .ok (.iload_n 2, 1) := by decide +kernel
theorem dX9_topItem_53 : decode cX9_topItem 53 = .ok (.iaload, 1) := by decide +kernel
theorem dX9_topItem_54 : decode cX9_topItem 54 = .ok (.iload_n 1, 1) := by decide +kernel
theorem dX9_topItem_55 : decode cX9_topItem 55 = .ok (.if_icmp .ne 7, 3) := by decide +kernel
theorem dX9_topItem_58 : decode cX9_topItem 58 = .ok (.iconst 1, 1) := by decide +kernel
theorem dX9_topItem_59 : decode cX9_topItem 59 = .ok (.goto 4, 3) := by decide +kernel
theorem dX9_topItem_62 : decode cX9_topItem 62 = .ok (.iconst 0, 1) := by decide +kernel
theorem dX9_topItem_63 : decode cX9_topItem 63 = .ok (.putfield 74, 3) := by decide +kernel
theorem dX9_topItem_66 : decode cX9_topItem 66 = .ok (.iinc 2 1, 3) := by decide +kernel
theorem dX9_topItem_69 : decode cX9_topItem 69 = .ok (.goto (-37), 3) := by decide +kernel
theorem dX9_topItem_72 : decode cX9_topItem 72 = .ok (.aload_n 0, 1) := by decide +kernel
theorem dX9_topItem_73 : decode cX9_topItem 73 = .ok (.iconst 1, 1) := by decide +kernel
theorem dX9_topItem_74 : decode cX9_topItem 74 = .ok (.bipush 60, 2) := by decide +kernel
theorem dX9_topItem_76 : decode cX9_topItem 76 = .ok (.invokevirtual 88, 3) := by decide +kernel
theorem dX9_topItem_79 : decode cX9_topItem 79 = .ok (.istore_n 2, 1) := by decide +kernel
theorem dX9_topItem_80 : decode cX9_topItem 80 = .ok (.aload_n 0, 1) := by decide +kernel
theorem dX9_topItem_81 : decode cX9_topItem 81 = .ok (.iconst 1, 1) := by decide +kernel
theorem dX9_topItem_82 : decode cX9_topItem 82 = .ok (.bipush 9, 2) := by decide +kernel
theorem dX9_topItem_84 : decode cX9_topItem 84 = .ok (.invokevirtual 88, 3) := by decide +kernel
theorem dX9_topItem_87 : decode cX9_topItem 87 = .ok (.istore_n 3, 1) := by decide +kernel
theorem dX9_topItem_88 : decode cX9_topItem 88 = .ok (.aload_n 0, 1) := by decide +kernel
theorem dX9_topItem_89 : decode cX9_topItem 89 = .ok (.getfield 74, 3) := by decide +kernel
theorem dX9_topItem_92 : decode cX9_topItem 92 = .ok (.ifCond .ne 43, 3) := by decide +kernel
theorem dX9_topItem_95 : decode cX9_topItem 95 = .ok (.aload_n 0, 1) := by decide +kernel
theorem dX9_topItem_96 : decode cX9_topItem 96 = .ok (.getfield 20, 3) := by decide +kernel
theorem dX9_topItem_99 : decode cX9_topItem 99 = .ok (.aload_n 0, 1) := by decide +kernel
theorem dX9_topItem_100 : decode cX9_topItem 100 = .ok (.getfield 82, 3) := by decide +kernel
theorem dX9_topItem_103 : decode cX9_topItem 103 = .ok (.iload_n 1, 1) := by decide +kernel
theorem dX9_topItem_104 : decode cX9_topItem 104 = .ok (.iastore, 1) := by decide +kernel
theorem dX9_topItem_105 : decode cX9_topItem 105 = .ok (.aload_n 0, 1) := by decide +kernel
theorem dX9_topItem_106 : decode cX9_topItem 106 = .ok (.getfield 23, 3) := by decide +kernel
theorem dX9_topItem_109 : decode cX9_topItem 109 = .ok (.aload_n 0, 1) := by decide +kernel
theorem dX9_topItem_110 : decode cX9_topItem 110 = .ok (.getfield 82, 3) := by decide +kernel
theorem dX9_topItem_113 : decode cX9_topItem 113 = .ok (.iload_n 2, 1) := by decide +kernel
theorem dX9_topItem_114 : decode cX9_topItem 114 = .ok (.iastore, 1) := by decide +kernel
theorem dX9_topItem_115 : decode cX9_topItem 115 = .ok (.aload_n 0, 1) := by decide +kernel
theorem dX9_topItem_116 : decode cX9_topItem 116 = .ok (.getfield 26, 3) := by decide +kernel
theorem dX9_topItem_119 : decode cX9_topItem 119 = .ok (.aload_n 0, 1) := by decide +kernel
theorem dX9_topItem_120 : decode cX9_topItem 120 = .ok (.getfield 82, 3) := by decide +kernel
theorem dX9_topItem_123 : decode cX9_topItem 123 = .ok (.iload_n 3, 1) := by decide +kernel
theorem dX9_topItem_124 : decode cX9_topItem 124 = .ok (.iastore, 1) := by decide +kernel
theorem dX9_topItem_125 : decode cX9_topItem 125 = .ok (.aload_n 0, 1) := by decide +kernel
theorem dX9_topItem_126 : decode cX9_topItem 126 = .ok (.dup, 1) := by decide +kernel
theorem dX9_topItem_127 : decode cX9_topItem 127 = .ok (.getfield 82, 3) := by decide +kernel
theorem dX9_topItem_130 : decode cX9_topItem 130 = .ok (.iconst 1, 1) := by decide +kernel
theorem dX9_topItem_131 : decode cX9_topItem 131 = .ok (.iadd, 1) := by decide +kernel
theorem dX9_topItem_132 : decode cX9_topItem 132 = .ok (.putfield 82, 3) := by decide +kernel
theorem dX9_topItem_135 : decode cX9_topItem 135 = .ok (.return_, 1) := by decide +kernel
theorem dX9_item_0 : decode cX9_item 0 = .ok (.iload_n 1, 1) := by decide +kernel
theorem dX9_item_1 : decode cX9_item 1 = .ok (.bipush 110, 2) := by decide +kernel
theorem dX9_item_3 : decode cX9_item 3 = .ok (.if_icmp .ne 30, 3) := by decide +kernel
theorem dX9_item_6 : decode cX9_item 6 = .ok (.aload_n 0, 1) := by decide +kernel
theorem dX9_item_7 : decode cX9_item 7 = .ok (.iload_n 2, 1) := by decide +kernel
theorem dX9_item_8 : decode cX9_item 8 = .ok (.ifCond .le 7, 3) := by decide +kernel
theorem dX9_item_11 : decode cX9_item 11 = .ok (.iconst 1, 1) := by decide +kernel
theorem dX9_item_12 : decode cX9_item 12 = .ok (.goto 4, 3) := by decide +kernel
theorem dX9_item_15 : decode cX9_item 15 = .ok (.iconst 0, 1) := by decide +kernel
theorem dX9_item_16 : decode cX9_item 16 = .ok (.putfield 74, 3) := by decide +kernel
theorem dX9_item_19 : decode cX9_item 19 = .ok (.aload_n 0, 1) := by decide +kernel
theorem dX9_item_20 : decode cX9_item 20 = .ok (.aload_n 0, 1) := by decide +kernel
theorem dX9_item_21 : decode cX9_item 21 = .ok (.iconst 4, 1) := by decide +kernel
theorem dX9_item_22 : decode cX9_item 22 = .ok (.bipush 10, 2) := by decide +kernel
theorem dX9_item_24 : decode cX9_item 24 = .ok (.invokevirtual 88, 3) := by decide +kernel
theorem dX9_item_27 : decode cX9_item 27 = .ok (.putfield 85, 3) := by decide +kernel
theorem dX9_item_30 : decode cX9_item 30 = .ok (.goto 54, 3) := by decide +kernel
theorem dX9_item_33 : decode cX9_item 33 = .ok (.iload_n 1, 1) := by decide +kernel
theorem dX9_item_34 : decode cX9_item 34 = .ok (.bipush 116, 2) := by decide +kernel
theorem dX9_item_36 : decode cX9_item 36 = .ok (.if_icmp .ne 10, 3) := by decide +kernel
theorem dX9_item_39 : decode cX9_item 39 = .ok (.aload_n 0, 1) := by decide +kernel
theorem dX9_item_40 : decode cX9_item 40 = .ok (.invokevirtual 92, 3) := by decide +kernel
theorem dX9_item_43 : decode cX9_item 43 = .ok (.goto 41, 3) := by decide +kernel
theorem dX9_item_46 : decode cX9_item 46 = .ok (.iload_n 1, 1) := by decide +kernel
theorem dX9_item_47 : decode cX9_item 47 = .ok (.bipush 108, 2) := by decide +kernel
theorem dX9_item_49 : decode cX9_item 49 = .ok (.if_icmp .ne 30, 3) := by decide +kernel
theorem dX9_item_52 : decode cX9_item 52 = .ok (.aload_n 0, 1) := by decide +kernel
theorem dX9_item_53 : decode cX9_item 53 = .ok (.aload_n 0, 1) := by decide +kernel
theorem dX9_item_54 : decode cX9_item 54 = .ok (.getfield 95, 3) := by decide +kernel
theorem dX9_item_57 : decode cX9_item 57 = .ok (.putfield 74, 3) := by decide +kernel
theorem dX9_item_60 : decode cX9_item 60 = .ok (.aload_n 0, 1) := by decide +kernel
theorem dX9_item_61 : decode cX9_item 61 = .ok (.aload_n 0, 1) := by decide +kernel
theorem dX9_item_62 : decode cX9_item 62 = .ok (.iconst 0, 1) := by decide +kernel
theorem dX9_item_63 : decode cX9_item 63 = .ok (.bipush 30, 2) := by decide +kernel
theorem dX9_item_65 : decode cX9_item 65 = .ok (.invokevirtual 88, 3) := by decide +kernel
theorem dX9_item_68 : decode cX9_item 68 = .ok (.putfield 98, 3) := by decide +kernel
theorem dX9_item_71 : decode cX9_item 71 = .ok (.aload_n 0, 1) := by decide +kernel
theorem dX9_item_72 : decode cX9_item 72 = .ok (.iconst 1, 1) := by decide +kernel
theorem dX9_item_73 : decode cX9_item 73 = .ok (.putfield 95, 3) := by decide +kernel
theorem dX9_item_76 : decode cX9_item 76 = .ok (.goto 8, 3) := by decide +kernel
theorem dX9_item_79 : decode cX9_item 79 = .ok (.aload_n 0, 1) := by decide +kernel
theorem dX9_item_80 : decode cX9_item 80 = .ok (.iconst 1, 1) := by decide +kernel
theorem dX9_item_81 : decode cX9_item 81 = .ok (.putfield 74, 3) := by decide +kernel
theorem dX9_item_84 : decode cX9_item 84 = .ok (.aload_n 0, 1) := by decide +kernel
theorem dX9_item_85 : decode cX9_item 85 = .ok (.aload_n 0, 1) := by decide +kernel
theorem dX9_item_86 : decode cX9_item 86 = .ok (.getfield 74, 3) := by decide +kernel
theorem dX9_item_89 : decode cX9_item 89 = .ok (.ifCond .ne 11, 3) := by decide +kernel
theorem dX9_item_92 : decode cX9_item 92 = .ok (.aload_n 0, 1) := by decide +kernel
theorem dX9_item_93 : decode cX9_item 93 = .ok (.invokevirtual 78, 3) := by decide +kernel
theorem dX9_item_96 : decode cX9_item 96 = .ok (.iconst 2, 1) := by decide +kernel
theorem dX9_item_97 : decode cX9_item 97 = .ok (.if_icmp .eq 7, 3) := by decide +kernel
theorem dX9_item_100 : decode cX9_item 100 = .ok (.iconst 1, 1) := by decide +kernel
theorem dX9_item_101 : decode cX9_item 101 = .ok (.goto 4, 3) := by decide +kernel
theorem dX9_item_104 : decode cX9_item 104 = .ok (.iconst 0, 1) := by decide +kernel
theorem dX9_item_105 : decode cX9_item 105 = .ok (.putfield 74, 3) := by decide +kernel
theorem dX9_item_108 : decode cX9_item 108 = .ok (.return_, 1) := by decide +kernel
theorem dX9_tray_0 : decode cX9_tray 0 = .ok (.aload_n 0, 1) := by decide +kernel
theorem dX9_tray_1 : decode cX9_tray 1 = .ok (.bipush 8, 2) := by decide +kernel
theorem dX9_tray_3 : decode cX9_tray 3 = .ok (.putfield 85, 3) := by decide +kernel
theorem dX9_tray_6 : decode cX9_tray 6 = .ok (.aload_n 0, 1) := by decide +kernel
theorem dX9_tray_7 : decode cX9_tray 7 = .ok (.iconst 0, 1) := by decide +kernel
theorem dX9_tray_8 : decode cX9_tray 8 = .ok (.putfield 82, 3) := by decide +kernel
theorem dX9_tray_11 : decode cX9_tray 11 = .ok (.aload_n 0, 1) := by decide +kernel
theorem dX9_tray_12 : decode cX9_tray 12 = .ok (.bipush 10, 2) := by decide +kernel
theorem dX9_tray_14 : decode cX9_tray 14 = .ok (.putfield 98, 3) := by decide +kernel
theorem dX9_tray_17 : decode cX9_tray 17 = .ok (.aload_n 0, 1) := by decide +kernel
theorem dX9_tray_18 : decode cX9_tray 18 = .ok (.iconst 0, 1) := by decide +kernel
theorem dX9_tray_19 : decode cX9_tray 19 = .ok (.putfield 57, 3) := by decide +kernel
theorem dX9_tray_22 : decode cX9_tray 22 = .ok (.aload_n 0, 1) := by decide +kernel
theorem dX9_tray_23 : decode cX9_tray 23 = .ok (.iconst 0, 1) := by decide +kernel
theorem dX9_tray_24 : decode cX9_tray 24 = .ok (.putfield 74, 3) := by decide +kernel
theorem dX9_tray_27 : decode cX9_tray 27 = .ok (.aload_n 0, 1) := by decide +kernel
theorem dX9_tray_28 : decode cX9_tray 28 = .ok (.iconst 0, 1) := by decide +kernel
theorem dX9_tray_29 : decode cX9_tray 29 = .ok (.putfield 95, 3) := by decide +kernel
theorem dX9_tray_32 : decode cX9_tray 32 = .ok (.iconst 0, 1) := by decide +kernel
theorem dX9_tray_33 : decode cX9_tray 33 = .ok (.istore_n 1, 1) := by decide +kernel
theorem dX9_tray_34 : decode cX9_tray 34 = .ok (.aload_n 0, 1) := by decide +kernel
theorem dX9_tray_35 : decode cX9_tray 35 = .ok (.invokevirtual 78, 3) := by decide +kernel
theorem dX9_tray_38 : decode cX9_tray 38 = .ok (.istore_n 2, 1) := by decide +kernel
theorem dX9_tray_39 : decode cX9_tray 39 = .ok (.iload_n 2, 1) := by decide +kernel
theorem dX9_tray_40 : decode cX9_tray 40 = .ok (.iconst 4, 1) := by decide +kernel
theorem dX9_tray_41 : decode cX9_tray 41 = .ok (.if_icmp .eq 47, 3) := by decide +kernel
theorem dX9_tray_44 : decode cX9_tray 44 = .ok (.aload_n 0, 1) := by decide +kernel
theorem dX9_tray_45 : decode cX9_tray 45 = .ok (.getfield 74, 3) := by decide +kernel
theorem dX9_tray_48 : decode cX9_tray 48 = .ok (.ifCond .ne 40, 3) := by decide +kernel
theorem dX9_tray_51 : decode cX9_tray 51 = .ok (.aload_n 0, 1) := by decide +kernel
theorem dX9_tray_52 : decode cX9_tray 52 = .ok (.iload_n 2, 1) := by decide +kernel
theorem dX9_tray_53 : decode cX9_tray 53 = .ok (.iconst 5, 1) := by decide +kernel
theorem dX9_tray_54 : decode cX9_tray 54 = .ok (.if_icmp .ge 7, 3) := by decide +kernel
theorem dX9_tray_57 : decode cX9_tray 57 = .ok (.iconst 0, 1) := by decide +kernel
theorem dX9_tray_58 : decode cX9_tray 58 = .ok (.goto 4, 3) := by decide +kernel
theorem dX9_tray_61 : decode cX9_tray 61 = .ok (.iload_n 2, 1) := by decide +kernel
theorem dX9_tray_62 : decode cX9_tray 62 = .ok (.iload_n 1, 1) := by decide +kernel
theorem dX9_tray_63 : decode cX9_tray 63 = .ok (.invokevirtual 101, 3) := by decide +kernel
theorem dX9_tray_66 : decode cX9_tray 66 = .ok (.iinc 1 1, 3) := by decide +kernel
theorem dX9_tray_69 : decode cX9_tray 69 = .ok (.aload_n 0, 1) := by decide +kernel
theorem dX9_tray_70 : decode cX9_tray 70 = .ok (.getfield 74, 3) := by decide +kernel
theorem dX9_tray_73 : decode cX9_tray 73 = .ok (.ifCond .eq 7, 3) := by decide +kernel
theorem dX9_tray_76 : decode cX9_tray 76 = .ok (.iload_n 2, 1) := by decide +kernel
theorem dX9_tray_77 : decode cX9_tray 77 = .ok (.goto 7, 3) := by decide +kernel
theorem dX9_tray_80 : decode cX9_tray 80 = .ok (.aload_n 0, 1) := by decide +kernel
theorem dX9_tray_81 : decode cX9_tray 81 = .ok (.invokevirtual 78, 3) := by decide +kernel
theorem dX9_tray_84 : decode cX9_tray 84 = .ok (.istore_n 2, 1) := by decide +kernel
theorem dX9_tray_85 : decode cX9_tray 85 = .ok (.goto (-46), 3) := by decide +kernel
theorem dX9_tray_88 : decode cX9_tray 88 = .ok (.aload_n 0, 1) := by decide +kernel
theorem dX9_tray_89 : decode cX9_tray 89 = .ok (.getfield 74, 3) := by decide +kernel
theorem dX9_tray_92 : decode cX9_tray 92 = .ok (.ifCond .eq 11, 3) := by decide +kernel
theorem dX9_tray_95 : decode cX9_tray 95 = .ok (.bipush (-10), 2) := by decide +kernel
theorem dX9_tray_97 : decode cX9_tray 97 = .ok (.aload_n 0, 1) := by decide +kernel
theorem dX9_tray_98 : decode cX9_tray 98 = .ok (.getfield 64, 3) := by decide +kernel
theorem dX9_tray_101 : decode cX9_tray 101 = .ok (.isub, 1) := by decide +kernel
theorem dX9_tray_102 : decode cX9_tray 102 = .ok (.ireturn, 1) := by decide +kernel
theorem dX9_tray_103 : decode cX9_tray 103 = .ok (.aload_n 0, 1) := by decide +kernel
theorem dX9_tray_104 : decode cX9_tray 104 = .ok (.invokevirtual 105, 3) := by decide +kernel
theorem dX9_tray_107 : decode cX9_tray 107 = .ok (.iload_n 1, 1) := by decide +kernel
theorem dX9_tray_108 : decode cX9_tray 108 = .ok (.ireturn, 1) := by decide +kernel
theorem dX9_settles_0 : decode cX9_settles 0 = .ok (.aload_n 0, 1) := by decide +kernel
theorem dX9_settles_1 : decode cX9_settles 1 = .ok (.aload_n 0, 1) := by decide +kernel
theorem dX9_settles_2 : decode cX9_settles 2 = .ok (.getfield 85, 3) := by decide +kernel
theorem dX9_settles_5 : decode cX9_settles 5 = .ok (.putfield 7, 3) := by decide +kernel
theorem dX9_settles_8 : decode cX9_settles 8 = .ok (.aload_n 0, 1) := by decide +kernel
theorem dX9_settles_9 : decode cX9_settles 9 = .ok (.aload_n 0, 1) := by decide +kernel
theorem dX9_settles_10 : decode cX9_settles 10 = .ok (.getfield 82, 3) := by decide +kernel
theorem dX9_settles_13 : decode cX9_settles 13 = .ok (.putfield 108, 3) := by decide +kernel
theorem dX9_settles_16 : decode cX9_settles 16 = .ok (.aload_n 0, 1) := by decide +kernel
theorem dX9_settles_17 : decode cX9_settles 17 = .ok (.aload_n 0, 1) := by decide +kernel
theorem dX9_settles_18 : decode cX9_settles 18 = .ok (.getfield 98, 3) := by decide +kernel
theorem dX9_settles_21 : decode cX9_settles 21 = .ok (.putfield 13, 3) := by decide +kernel
theorem dX9_settles_24 : decode cX9_settles 24 = .ok (.iconst 0, 1) := by decide +kernel
theorem dX9_settles_25 : decode cX9_settles 25 = .ok (.istore_n 1, 1) := by decide +kernel
theorem dX9_settles_26 : decode cX9_settles 26 = .ok (.iload_n 1, 1) := by decide +kernel
theorem dX9_settles_27 : decode cX9_settles 27 = .ok (.bipush 6, 2) := by decide +kernel
theorem dX9_settles_29 : decode cX9_settles 29 = .ok (.if_icmp .ge 72, 3) := by decide +kernel
theorem dX9_settles_32 : decode cX9_settles 32 = .ok (.aload_n 0, 1) := by decide +kernel
theorem dX9_settles_33 : decode cX9_settles 33 = .ok (.getfield 16, 3) := by decide +kernel
theorem dX9_settles_36 : decode cX9_settles 36 = .ok (.iload_n 1, 1) := by decide +kernel
theorem dX9_settles_37 : decode cX9_settles 37 = .ok (.aload_n 0, 1) := by decide +kernel
theorem dX9_settles_38 : decode cX9_settles 38 = .ok (.getfield 26, 3) := by decide +kernel
theorem dX9_settles_41 : decode cX9_settles 41 = .ok (.iload_n 1, 1) := by decide +kernel
theorem dX9_settles_42 : decode cX9_settles 42 = .ok (.iaload, 1) := by decide +kernel
theorem dX9_settles_43 : decode cX9_settles 43 = .ok (.iastore, 1) := by decide +kernel
theorem dX9_settles_44 : decode cX9_settles 44 = .ok (.aload_n 0, 1) := by decide +kernel
theorem dX9_settles_45 : decode cX9_settles 45 = .ok (.getfield 29, 3) := by decide +kernel
theorem dX9_settles_48 : decode cX9_settles 48 = .ok (.iload_n 1, 1) := by decide +kernel
theorem dX9_settles_49 : decode cX9_settles 49 = .ok (.iload_n 1, 1) := by decide +kernel
theorem dX9_settles_50 : decode cX9_settles 50 = .ok (.aload_n 0, 1) := by decide +kernel
theorem dX9_settles_51 : decode cX9_settles 51 = .ok (.getfield 108, 3) := by decide +kernel
theorem dX9_settles_54 : decode cX9_settles 54 = .ok (.if_icmp .ge 12, 3) := by decide +kernel
theorem dX9_settles_57 : decode cX9_settles 57 = .ok (.aload_n 0, 1) := by decide +kernel
theorem dX9_settles_58 : decode cX9_settles 58 = .ok (.getfield 20, 3) := by decide +kernel
theorem dX9_settles_61 : decode cX9_settles 61 = .ok (.iload_n 1, 1) := by decide +kernel
theorem dX9_settles_62 : decode cX9_settles 62 = .ok (.iaload, 1) := by decide +kernel
theorem dX9_settles_63 : decode cX9_settles 63 = .ok (.goto 4, 3) := by decide +kernel
theorem dX9_settles_66 : decode cX9_settles 66 = .ok (.iconst 0, 1) := by decide +kernel
theorem dX9_settles_67 : decode cX9_settles 67 = .ok (.iastore, 1) := by decide +kernel
theorem dX9_settles_68 : decode cX9_settles 68 = .ok (.aload_n 0, 1) := by decide +kernel
theorem dX9_settles_69 : decode cX9_settles 69 = .ok (.getfield 29, 3) := by decide +kernel
theorem dX9_settles_72 : decode cX9_settles 72 = .ok (.bipush 6, 2) := by decide +kernel
theorem dX9_settles_74 : decode cX9_settles 74 = .ok (.iload_n 1, 1) := by decide +kernel
theorem dX9_settles_75 : decode cX9_settles 75 = .ok (.iadd, 1) := by decide +kernel
theorem dX9_settles_76 : decode cX9_settles 76 = .ok (.iload_n 1, 1) := by decide +kernel
theorem dX9_settles_77 : decode cX9_settles 77 = .ok (.aload_n 0, 1) := by decide +kernel
theorem dX9_settles_78 : decode cX9_settles 78 = .ok (.getfield 108, 3) := by decide +kernel
theorem dX9_settles_81 : decode cX9_settles 81 = .ok (.if_icmp .ge 12, 3) := by decide +kernel
theorem dX9_settles_84 : decode cX9_settles 84 = .ok (.aload_n 0, 1) := by decide +kernel
theorem dX9_settles_85 : decode cX9_settles 85 = .ok (.getfield 23, 3) := by decide +kernel
theorem dX9_settles_88 : decode cX9_settles 88 = .ok (.iload_n 1, 1) := by decide +kernel
theorem dX9_settles_89 : decode cX9_settles 89 = .ok (.iaload, 1) := by decide +kernel
theorem dX9_settles_90 : decode cX9_settles 90 = .ok (.goto 4, 3) := by decide +kernel
theorem dX9_settles_93 : decode cX9_settles 93 = .ok (.iconst 0, 1) := by decide +kernel
theorem dX9_settles_94 : decode cX9_settles 94 = .ok (.iastore, 1) := by decide +kernel
theorem dX9_settles_95 : decode cX9_settles 95 = .ok (.iinc 1 1, 3) := by decide +kernel
theorem dX9_settles_98 : decode cX9_settles 98 = .ok (.goto (-72), 3) := by decide +kernel
theorem dX9_settles_101 : decode cX9_settles 101 = .ok (.aload_n 0, 1) := by decide +kernel
theorem dX9_settles_102 : decode cX9_settles 102 = .ok (.getfield 29, 3) := by decide +kernel
theorem dX9_settles_105 : decode cX9_settles 105 = .ok (.bipush 12, 2) := by decide +kernel
theorem dX9_settles_107 : decode cX9_settles 107 = .ok (.iconst 1, 1) := by decide +kernel
theorem dX9_settles_108 : decode cX9_settles 108 = .ok (.aload_n 0, 1) := by decide +kernel
theorem dX9_settles_109 : decode cX9_settles 109 = .ok (.getfield 108, 3) := by decide +kernel
theorem dX9_settles_112 : decode cX9_settles 112 = .ok (.ishl, 1) := by decide +kernel
theorem dX9_settles_113 : decode cX9_settles 113 = .ok (.iconst 1, 1) := by decide +kernel
theorem dX9_settles_114 : decode cX9_settles 114 = .ok (.isub, 1) := by decide +kernel
theorem dX9_settles_115 : decode cX9_settles 115 = .ok (.iastore, 1) := by decide +kernel
theorem dX9_settles_116 : decode cX9_settles 116 = .ok (.aload_n 0, 1) := by decide +kernel
theorem dX9_settles_117 : decode cX9_settles 117 = .ok (.getfield 29, 3) := by decide +kernel
theorem dX9_settles_120 : decode cX9_settles 120 = .ok (.bipush 13, 2) := by decide +kernel
theorem dX9_settles_122 : decode cX9_settles 122 = .ok (.iconst 0, 1) := by decide +kernel
theorem dX9_settles_123 : decode cX9_settles 123 = .ok (.iastore, 1) := by decide +kernel
theorem dX9_settles_124 : decode cX9_settles 124 = .ok (.aload_n 0, 1) := by decide +kernel
theorem dX9_settles_125 : decode cX9_settles 125 = .ok (.getfield 29, 3) := by decide +kernel
theorem dX9_settles_128 : decode cX9_settles 128 = .ok (.bipush 14, 2) := by decide +kernel
theorem dX9_settles_130 : decode cX9_settles 130 = .ok (.iconst 0, 1) := by decide +kernel
theorem dX9_settles_131 : decode cX9_settles 131 = .ok (.iastore, 1) := by decide +kernel
theorem dX9_settles_132 : decode cX9_settles 132 = .ok (.aload_n 0, 1) := by decide +kernel
theorem dX9_settles_133 : decode cX9_settles 133 = .ok (.iconst 0, 1) := by decide +kernel
theorem dX9_settles_134 : decode cX9_settles 134 = .ok (.putfield 111, 3) := by decide +kernel
theorem dX9_settles_137 : decode cX9_settles 137 = .ok (.aload_n 0, 1) := by decide +kernel
theorem dX9_settles_138 : decode cX9_settles 138 = .ok (.iconst 0, 1) := by decide +kernel
theorem dX9_settles_139 : decode cX9_settles 139 = .ok (.putfield 114, 3) := by decide +kernel
theorem dX9_settles_142 : decode cX9_settles 142 = .ok (.aload_n 0, 1) := by decide +kernel
theorem dX9_settles_143 : decode cX9_settles 143 = .ok (.getfield 32, 3) := by decide +kernel
theorem dX9_settles_146 : decode cX9_settles 146 = .ok (.iconst 0, 1) := by decide +kernel
theorem dX9_settles_147 : decode cX9_settles 147 = .ok (.iconst 0, 1) := by decide +kernel
theorem dX9_settles_148 : decode cX9_settles 148 = .ok (.iastore, 1) := by decide +kernel
theorem dX9_settles_149 : decode cX9_settles 149 = .ok (.aload_n 0, 1) := by decide +kernel
theorem dX9_settles_150 : decode cX9_settles 150 = .ok (.getfield 32, 3) := by decide +kernel
theorem dX9_settles_153 : decode cX9_settles 153 = .ok (.iconst 1, 1) := by decide +kernel
theorem dX9_settles_154 : decode cX9_settles 154 = .ok (.iconst 0, 1) := by decide +kernel
theorem dX9_settles_155 : decode cX9_settles 155 = .ok (.iastore, 1) := by decide +kernel
theorem dX9_settles_156 : decode cX9_settles 156 = .ok (.aload_n 0, 1) := by decide +kernel
theorem dX9_settles_157 : decode cX9_settles 157 = .ok (.iconst 0, 1) := by decide +kernel
theorem dX9_settles_158 : decode cX9_settles 158 = .ok (.putfield 54, 3) := by decide +kernel
theorem dX9_settles_161 : decode cX9_settles 161 = .ok (.return_, 1) := by decide +kernel
theorem dX9_falls_0 : decode cX9_falls 0 = .ok (.aload_n 0, 1) := by decide +kernel
theorem dX9_falls_1 : decode cX9_falls 1 = .ok (.getfield 29, 3) := by decide +kernel
theorem dX9_falls_4 : decode cX9_falls 4 = .ok (.iload_n 1, 1) := by decide +kernel
theorem dX9_falls_5 : decode cX9_falls 5 = .ok (.bipush 6, 2) := by decide +kernel
theorem dX9_falls_7 : decode cX9_falls 7 = .ok (.iadd, 1) := by decide +kernel
theorem dX9_falls_8 : decode cX9_falls 8 = .ok (.iload_n 2, 1) := by decide +kernel
theorem dX9_falls_9 : decode cX9_falls 9 = .ok (.iadd, 1) := by decide +kernel
theorem dX9_falls_10 : decode cX9_falls 10 = .ok (.iconst 0, 1) := by decide +kernel
theorem dX9_falls_11 : decode cX9_falls 11 = .ok (.iastore, 1) := by decide +kernel
theorem dX9_falls_12 : decode cX9_falls 12 = .ok (.aload_n 0, 1) := by decide +kernel
theorem dX9_falls_13 : decode cX9_falls 13 = .ok (.getfield 29, 3) := by decide +kernel
theorem dX9_falls_16 : decode cX9_falls 16 = .ok (.iload_n 1, 1) := by decide +kernel
theorem dX9_falls_17 : decode cX9_falls 17 = .ok (.bipush 12, 2) := by decide +kernel
theorem dX9_falls_19 : decode cX9_falls 19 = .ok (.iadd, 1) := by decide +kernel
theorem dX9_falls_20 : decode cX9_falls 20 = .ok (.dup2, 1) := by decide +kernel
theorem dX9_falls_21 : decode cX9_falls 21 = .ok (.iaload, 1) := by decide +kernel
theorem dX9_falls_22 : decode cX9_falls 22 = .ok (.iconst 1, 1) := by decide +kernel
theorem dX9_falls_23 : decode cX9_falls 23 = .ok (.iload_n 2, 1) := by decide +kernel
theorem dX9_falls_24 : decode cX9_falls 24 = .ok (.ishl, 1) := by decide +kernel
theorem dX9_falls_25 : decode cX9_falls 25 = .ok (.iconst (-1), 1) := by decide +kernel
theorem dX9_falls_26 : decode cX9_falls 26 = .ok (.ixor, 1) := by decide +kernel
theorem dX9_falls_27 : decode cX9_falls 27 = .ok (.iand, 1) := by decide +kernel
theorem dX9_falls_28 : decode cX9_falls 28 = .ok (.iastore, 1) := by decide +kernel
theorem dX9_falls_29 : decode cX9_falls 29 = .ok (.return_, 1) := by decide +kernel
theorem dX9_whoAt_0 : decode cX9_whoAt 0 = .ok (.bipush (-9), 2) := by decide +kernel
theorem dX9_whoAt_2 : decode cX9_whoAt 2 = .ok (.istore 4, 2) := by decide +kernel
theorem dX9_whoAt_4 : decode cX9_whoAt 4 = .ok (.iconst 0, 1) := by decide +kernel
theorem dX9_whoAt_5 : decode cX9_whoAt 5 = .ok (.istore 5, 2) := by decide +kernel
theorem dX9_whoAt_7 : decode cX9_whoAt 7 = .ok (.iload 5, 2) := by decide +kernel
theorem dX9_whoAt_9 : decode cX9_whoAt 9 = .ok (.aload_n 0, 1) := by decide +kernel
theorem dX9_whoAt_10 : decode cX9_whoAt 10 = .ok (.getfield 108, 3) := by decide +kernel
theorem dX9_whoAt_13 : decode cX9_whoAt 13 = .ok (.if_icmp .ge 54, 3) := by decide +kernel
theorem dX9_whoAt_16 : decode cX9_whoAt 16 = .ok (.iload 5, 2) := by decide +kernel
theorem dX9_whoAt_18 : decode cX9_whoAt 18 = .ok (.iload_n 3, 1) := by decide +kernel
theorem dX9_whoAt_19 : decode cX9_whoAt 19 = .ok (.if_icmp .eq 38, 3) := by decide +kernel
theorem dX9_whoAt_22 : decode cX9_whoAt 22 = .ok (.aload_n 0, 1) := by decide +kernel
theorem dX9_whoAt_23 : decode cX9_whoAt 23 = .ok (.getfield 29, 3) := by decide +kernel
theorem dX9_whoAt_26 : decode cX9_whoAt 26 = .ok (.iload_n 1, 1) := by decide +kernel
theorem dX9_whoAt_27 : decode cX9_whoAt 27 = .ok (.bipush 12, 2) := by decide +kernel
theorem dX9_whoAt_29 : decode cX9_whoAt 29 = .ok (.iadd, 1) := by decide +kernel
theorem dX9_whoAt_30 : decode cX9_whoAt 30 = .ok (.iaload, 1) := by decide +kernel
theorem dX9_whoAt_31 : decode cX9_whoAt 31 = .ok (.iload 5, 2) := by decide +kernel
theorem dX9_whoAt_33 : decode cX9_whoAt 33 = .ok (.invokestatic 117, 3) := by decide +kernel
theorem dX9_whoAt_36 : decode cX9_whoAt 36 = .ok (.ifCond .eq 21, 3) := by decide +kernel
theorem dX9_whoAt_39 : decode cX9_whoAt 39 = .ok (.aload_n 0, 1) := by decide +kernel
theorem dX9_whoAt_40 : decode cX9_whoAt 40 = .ok (.getfield 29, 3) := by decide +kernel
theorem dX9_whoAt_43 : decode cX9_whoAt 43 = .ok (.iload_n 1, 1) := by decide +kernel
theorem dX9_whoAt_44 : decode cX9_whoAt 44 = .ok (.iload 5, 2) := by decide +kernel
theorem dX9_whoAt_46 : decode cX9_whoAt 46 = .ok (.iadd, 1) := by decide +kernel
theorem dX9_whoAt_47 : decode cX9_whoAt 47 = .ok (.iaload, 1) := by decide +kernel
theorem dX9_whoAt_48 : decode cX9_whoAt 48 = .ok (.iload_n 2, 1) := by decide +kernel
theorem dX9_whoAt_49 : decode cX9_whoAt 49 = .ok (.if_icmp .ne 8, 3) := by decide +kernel
theorem dX9_whoAt_52 : decode cX9_whoAt 52 = .ok (.iload 5, 2) := by decide +kernel
theorem dX9_whoAt_54 : decode cX9_whoAt 54 = .ok (.goto 5, 3) := by decide +kernel
theorem dX9_whoAt_57 : decode cX9_whoAt 57 = .ok (.iload 4, 2) := by decide +kernel
theorem dX9_whoAt_59 : decode cX9_whoAt 59 = .ok (.istore 4, 2) := by decide +kernel
theorem dX9_whoAt_61 : decode cX9_whoAt 61 = .ok (.iinc 5 1, 3) := by decide +kernel
theorem dX9_whoAt_64 : decode cX9_whoAt 64 = .ok (.goto (-57), 3) := by decide +kernel
theorem dX9_whoAt_67 : decode cX9_whoAt 67 = .ok (.iload 4, 2) := by decide +kernel
theorem dX9_whoAt_69 : decode cX9_whoAt 69 = .ok (.ireturn, 1) := by decide +kernel
theorem dX9_wanders_0 : decode cX9_wanders 0 = .ok (.aload_n 0, 1) := by decide +kernel
theorem dX9_wanders_1 : decode cX9_wanders 1 = .ok (.getfield 29, 3) := by decide +kernel
theorem dX9_wanders_4 : decode cX9_wanders 4 = .ok (.iload_n 1, 1) := by decide +kernel
theorem dX9_wanders_5 : decode cX9_wanders 5 = .ok (.iload_n 2, 1) := by decide +kernel
theorem dX9_wanders_6 : decode cX9_wanders 6 = .ok (.iadd, 1) := by decide +kernel
theorem dX9_wanders_7 : decode cX9_wanders 7 = .ok (.iaload, 1) := by decide +kernel
theorem dX9_wanders_8 : decode cX9_wanders 8 = .ok (.aload_n 0, 1) := by decide +kernel
theorem dX9_wanders_9 : decode cX9_wanders 9 = .ok (.getfield 29, 3) := by decide +kernel
theorem dX9_wanders_12 : decode cX9_wanders 12 = .ok (.iload_n 1, 1) := by decide +kernel
theorem dX9_wanders_13 : decode cX9_wanders 13 = .ok (.bipush 14, 2) := by decide +kernel
theorem dX9_wanders_15 : decode cX9_wanders 15 = .ok (.iadd, 1) := by decide +kernel
theorem dX9_wanders_16 : decode cX9_wanders 16 = .ok (.iaload, 1) := by decide +kernel
theorem dX9_wanders_17 : decode cX9_wanders 17 = .ok (.iconst 1, 1) := by decide +kernel
theorem dX9_wanders_18 : decode cX9_wanders 18 = .ok (.if_icmp .ne 7, 3) := by decide +kernel
theorem dX9_wanders_21 : decode cX9_wanders 21 = .ok (.iconst 1, 1) := by decide +kernel
theorem dX9_wanders_22 : decode cX9_wanders 22 = .ok (.goto 9, 3) := by decide +kernel
theorem dX9_wanders_25 : decode cX9_wanders 25 = .ok (.aload_n 0, 1) := by decide +kernel
theorem dX9_wanders_26 : decode cX9_wanders 26 = .ok (.getfield 7, 3) := by decide +kernel
theorem dX9_wanders_29 : decode cX9_wanders 29 = .ok (.iconst 1, 1) := by decide +kernel
theorem dX9_wanders_30 : decode cX9_wanders 30 = .ok (.isub, 1) := by decide +kernel
theorem dX9_wanders_31 : decode cX9_wanders 31 = .ok (.iadd, 1) := by decide +kernel
theorem dX9_wanders_32 : decode cX9_wanders 32 = .ok (.aload_n 0, 1) := by decide +kernel
theorem dX9_wanders_33 : decode cX9_wanders 33 = .ok (.getfield 7, 3) := by decide +kernel
theorem dX9_wanders_36 : decode cX9_wanders 36 = .ok (.irem, 1) := by decide +kernel
theorem dX9_wanders_37 : decode cX9_wanders 37 = .ok (.istore_n 3, 1) := by decide +kernel
theorem dX9_wanders_38 : decode cX9_wanders 38 = .ok (.aload_n 0, 1) := by decide +kernel
theorem dX9_wanders_39 : decode cX9_wanders 39 = .ok (.iload_n 1, 1) := by decide +kernel
theorem dX9_wanders_40 : decode cX9_wanders 40 = .ok (.iload_n 3, 1) := by decide +kernel
theorem dX9_wanders_41 : decode cX9_wanders 41 = .ok (.iload_n 2, 1) := by decide +kernel
theorem dX9_wanders_42 : decode cX9_wanders 42 = .ok (.invokevirtual 121, 3) := by decide +kernel
theorem dX9_wanders_45 : decode cX9_wanders 45 = .ok (.istore 4, 2) := by decide +kernel
theorem dX9_wanders_47 : decode cX9_wanders 47 = .ok (.iload 4, 2) := by decide +kernel
theorem dX9_wanders_49 : decode cX9_wanders 49 = .ok (.ifCond .lt 103, 3) := by decide +kernel
theorem dX9_wanders_52 : decode cX9_wanders 52 = .ok (.aload_n 0, 1) := by decide +kernel
theorem dX9_wanders_53 : decode cX9_wanders 53 = .ok (.getfield 29, 3) := by decide +kernel
theorem dX9_wanders_56 : decode cX9_wanders 56 = .ok (.iload_n 1, 1) := by decide +kernel
theorem dX9_wanders_57 : decode cX9_wanders 57 = .ok (.bipush 6, 2) := by decide +kernel
theorem dX9_wanders_59 : decode cX9_wanders 59 = .ok (.iadd, 1) := by decide +kernel
theorem dX9_wanders_60 : decode cX9_wanders 60 = .ok (.iload_n 2, 1) := by decide +kernel
theorem dX9_wanders_61 : decode cX9_wanders 61 = .ok (.iadd, 1) := by decide +kernel
theorem dX9_wanders_62 : decode cX9_wanders 62 = .ok (.iaload, 1) := by decide +kernel
theorem dX9_wanders_63 : decode cX9_wanders 63 = .ok (.aload_n 0, 1) := by decide +kernel
theorem dX9_wanders_64 : decode cX9_wanders 64 = .ok (.getfield 29, 3) := by decide +kernel
theorem dX9_wanders_67 : decode cX9_wanders 67 = .ok (.iload_n 1, 1) := by decide +kernel
theorem dX9_wanders_68 : decode cX9_wanders 68 = .ok (.bipush 6, 2) := by decide +kernel
theorem dX9_wanders_70 : decode cX9_wanders 70 = .ok (.iadd, 1) := by decide +kernel
theorem dX9_wanders_71 : decode cX9_wanders 71 = .ok (.iload 4, 2) := by decide +kernel
theorem dX9_wanders_73 : decode cX9_wanders 73 = .ok (.iadd, 1) := by decide +kernel
theorem dX9_wanders_74 : decode cX9_wanders 74 = .ok (.iaload, 1) := by decide +kernel
theorem dX9_wanders_75 : decode cX9_wanders 75 = .ok (.if_icmp .gt 7, 3) := by decide +kernel
theorem dX9_wanders_78 : decode cX9_wanders 78 = .ok (.iconst 1, 1) := by decide +kernel
theorem dX9_wanders_79 : decode cX9_wanders 79 = .ok (.goto 4, 3) := by decide +kernel
theorem dX9_wanders_82 : decode cX9_wanders 82 = .ok (.iconst 0, 1) := by decide +kernel
theorem dX9_wanders_83 : decode cX9_wanders 83 = .ok (.istore 5, 2) := by decide +kernel
theorem dX9_wanders_85 : decode cX9_wanders 85 = .ok (.iload 5, 2) := by decide +kernel
theorem dX9_wanders_87 : decode cX9_wanders 87 = .ok (.ifCond .eq 8, 3) := by decide +kernel
theorem dX9_wanders_90 : decode cX9_wanders 90 = .ok (.iload 4, 2) := by decide +kernel
theorem dX9_wanders_92 : decode cX9_wanders 92 = .ok (.goto 4, 3) := by decide +kernel
theorem dX9_wanders_95 : decode cX9_wanders 95 = .ok (.iload_n 2, 1) := by decide +kernel
theorem dX9_wanders_96 : decode cX9_wanders 96 = .ok (.istore 6, 2) := by decide +kernel
theorem dX9_wanders_98 : decode cX9_wanders 98 = .ok (.aload_n 0, 1) := by decide +kernel
theorem dX9_wanders_99 : decode cX9_wanders 99 = .ok (.iload_n 1, 1) := by decide +kernel
theorem dX9_wanders_100 : decode cX9_wanders 100 = .ok (.iload 5, 2) := by decide +kernel
theorem dX9_wanders_102 : decode cX9_wanders 102 = .ok (.ifCond .eq 7, 3) := by decide +kernel
theorem dX9_wanders_105 : decode cX9_wanders 105 = .ok (.iload_n 2, 1) := by decide +kernel
theorem dX9_wanders_106 : decode cX9_wanders 106 = .ok (.goto 5, 3) := by decide +kernel
theorem dX9_wanders_109 : decode cX9_wanders 109 = .ok (.iload 4, 2) := by decide +kernel
theorem dX9_wanders_111 : decode cX9_wanders 111 = .ok (.invokevirtual 125, 3) := by decide +kernel
theorem dX9_wanders_114 : decode cX9_wanders 114 = .ok (.aload_n 0, 1) := by decide +kernel
theorem dX9_wanders_115 : decode cX9_wanders 115 = .ok (.getfield 29, 3) := by decide +kernel
theorem dX9_wanders_118 : decode cX9_wanders 118 = .ok (.iload_n 1, 1) := by decide +kernel
theorem dX9_wanders_119 : decode cX9_wanders 119 = .ok (.bipush 6, 2) := by decide +kernel
theorem dX9_wanders_121 : decode cX9_wanders 121 = .ok (.iadd, 1) := by decide +kernel
theorem dX9_wanders_122 : decode cX9_wanders 122 = .ok (.iload 6, 2) := by decide +kernel
theorem dX9_wanders_124 : decode cX9_wanders 124 = .ok (.iadd, 1) := by decide +kernel
theorem dX9_wanders_125 : decode cX9_wanders 125 = .ok (.dup2, 1) := by decide +kernel
theorem dX9_wanders_126 : decode cX9_wanders 126 = .ok (.iaload, 1) := by decide +kernel
theorem dX9_wanders_127 : decode cX9_wanders 127 = .ok (.iconst 5, 1) := by decide +kernel
theorem dX9_wanders_128 : decode cX9_wanders 128 = .ok (.isub, 1) := by decide +kernel
theorem dX9_wanders_129 : decode cX9_wanders 129 = .ok (.iastore, 1) := by decide +kernel
theorem dX9_wanders_130 : decode cX9_wanders 130 = .ok (.aload_n 0, 1) := by decide +kernel
theorem dX9_wanders_131 : decode cX9_wanders 131 = .ok (.getfield 29, 3) := by decide +kernel
theorem dX9_wanders_134 : decode cX9_wanders 134 = .ok (.iload_n 1, 1) := by decide +kernel
theorem dX9_wanders_135 : decode cX9_wanders 135 = .ok (.bipush 6, 2) := by decide +kernel
theorem dX9_wanders_137 : decode cX9_wanders 137 = .ok (.iadd, 1) := by decide +kernel
theorem dX9_wanders_138 : decode cX9_wanders 138 = .ok (.iload 6, 2) := by decide +kernel
theorem dX9_wanders_140 : decode cX9_wanders 140 = .ok (.iadd, 1) := by decide +kernel
theorem dX9_wanders_141 : decode cX9_wanders 141 = .ok (.iaload, 1) := by decide +kernel
theorem dX9_wanders_142 : decode cX9_wanders 142 = .ok (.ifCond .gt 10, 3) := by decide +kernel
theorem dX9_wanders_145 : decode cX9_wanders 145 = .ok (.aload_n 0, 1) := by decide +kernel
theorem dX9_wanders_146 : decode cX9_wanders 146 = .ok (.iload_n 1, 1) := by decide +kernel
theorem dX9_wanders_147 : decode cX9_wanders 147 = .ok (.iload 6, 2) := by decide +kernel
theorem dX9_wanders_149 : decode cX9_wanders 149 = .ok (.invokevirtual 125, 3) := by decide +kernel
theorem dX9_wanders_152 : decode cX9_wanders 152 = .ok (.aload_n 0, 1) := by decide +kernel
theorem dX9_wanders_153 : decode cX9_wanders 153 = .ok (.getfield 29, 3) := by decide +kernel
theorem dX9_wanders_156 : decode cX9_wanders 156 = .ok (.iload_n 1, 1) := by decide +kernel
theorem dX9_wanders_157 : decode cX9_wanders 157 = .ok (.iload_n 2, 1) := by decide +kernel
theorem dX9_wanders_158 : decode cX9_wanders 158 = .ok (.iadd, 1) := by decide +kernel
theorem dX9_wanders_159 : decode cX9_wanders 159 = .ok (.iload_n 3, 1) := by decide +kernel
theorem dX9_wanders_160 : decode cX9_wanders 160 = .ok (.iastore, 1) := by decide +kernel
theorem dX9_wanders_161 : decode cX9_wanders 161 = .ok (.return_, 1) := by decide +kernel
theorem dX9_beat_0 : decode cX9_beat 0 = .ok (.iconst 0, 1) := by decide +kernel
theorem dX9_beat_1 : decode cX9_beat 1 = .ok (.istore_n 2, 1) := by decide +kernel
theorem dX9_beat_2 : decode cX9_beat 2 = .ok (.iload_n 2, 1) := by decide +kernel
theorem dX9_beat_3 : decode cX9_beat 3 = .ok (.aload_n 0, 1) := by decide +kernel
theorem dX9_beat_4 : decode cX9_beat 4 = .ok (.getfield 108, 3) := by decide +kernel
theorem dX9_beat_7 : decode cX9_beat 7 = .ok (.if_icmp .ge 65, 3) := by decide +kernel
theorem dX9_beat_10 : decode cX9_beat 10 = .ok (.aload_n 0, 1) := by decide +kernel
theorem dX9_beat_11 : decode cX9_beat 11 = .ok (.getfield 29, 3) := by decide +kernel
theorem dX9_beat_14 : decode cX9_beat 14 = .ok (.iload_n 1, 1) := by decide +kernel
theorem dX9_beat_15 : decode cX9_beat 15 = .ok (.bipush 12, 2) := by decide +kernel
theorem dX9_beat_17 : decode cX9_beat 17 = .ok (.iadd, 1) := by decide +kernel
theorem dX9_beat_18 : decode cX9_beat 18 = .ok (.iaload, 1) := by decide +kernel
theorem dX9_beat_19 : decode cX9_beat 19 = .ok (.iload_n 2, 1) := by decide +kernel
theorem dX9_beat_20 : decode cX9_beat 20 = .ok (.invokestatic 117, 3) := by decide +kernel
theorem dX9_beat_23 : decode cX9_beat 23 = .ok (.ifCond .eq 43, 3) := by decide +kernel
theorem dX9_beat_26 : decode cX9_beat 26 = .ok (.aload_n 0, 1) := by decide +kernel
theorem dX9_beat_27 : decode cX9_beat 27 = .ok (.getfield 29, 3) := by decide +kernel
theorem dX9_beat_30 : decode cX9_beat 30 = .ok (.iload_n 1, 1) := by decide +kernel
theorem dX9_beat_31 : decode cX9_beat 31 = .ok (.bipush 6, 2) := by decide +kernel
theorem dX9_beat_33 : decode cX9_beat 33 = .ok (.iadd, 1) := by decide +kernel
theorem dX9_beat_34 : decode cX9_beat 34 = .ok (.iload_n 2, 1) := by decide +kernel
theorem dX9_beat_35 : decode cX9_beat 35 = .ok (.iadd, 1) := by decide +kernel
theorem dX9_beat_36 : decode cX9_beat 36 = .ok (.dup2, 1) := by decide +kernel
theorem dX9_beat_37 : decode cX9_beat 37 = .ok (.iaload, 1) := by decide +kernel
theorem dX9_beat_38 : decode cX9_beat 38 = .ok (.aload_n 0, 1) := by decide +kernel
theorem dX9_beat_39 : decode cX9_beat 39 = .ok (.getfield 16, 3) := by decide +kernel
theorem dX9_beat_42 : decode cX9_beat 42 = .ok (.iload_n 2, 1) := by decide +kernel
theorem dX9_beat_43 : decode cX9_beat 43 = .ok (.iaload, 1) := by decide +kernel
theorem dX9_beat_44 : decode cX9_beat 44 = .ok (.isub, 1) := by decide +kernel
theorem dX9_beat_45 : decode cX9_beat 45 = .ok (.iastore, 1) := by decide +kernel
theorem dX9_beat_46 : decode cX9_beat 46 = .ok (.aload_n 0, 1) := by decide +kernel
theorem dX9_beat_47 : decode cX9_beat 47 = .ok (.getfield 29, 3) := by decide +kernel
theorem dX9_beat_50 : decode cX9_beat 50 = .ok (.iload_n 1, 1) := by decide +kernel
theorem dX9_beat_51 : decode cX9_beat 51 = .ok (.bipush 6, 2) := by decide +kernel
theorem dX9_beat_53 : decode cX9_beat 53 = .ok (.iadd, 1) := by decide +kernel
theorem dX9_beat_54 : decode cX9_beat 54 = .ok (.iload_n 2, 1) := by decide +kernel
theorem dX9_beat_55 : decode cX9_beat 55 = .ok (.iadd, 1) := by decide +kernel
theorem dX9_beat_56 : decode cX9_beat 56 = .ok (.iaload, 1) := by decide +kernel
theorem dX9_beat_57 : decode cX9_beat 57 = .ok (.ifCond .gt 9, 3) := by decide +kernel
theorem dX9_beat_60 : decode cX9_beat 60 = .ok (.aload_n 0, 1) := by decide +kernel
theorem dX9_beat_61 : decode cX9_beat 61 = .ok (.iload_n 1, 1) := by decide +kernel
theorem dX9_beat_62 : decode cX9_beat 62 = .ok (.iload_n 2, 1) := by decide +kernel
theorem dX9_beat_63 : decode cX9_beat 63 = .ok (.invokevirtual 125, 3) := by decide +kernel
theorem dX9_beat_66 : decode cX9_beat 66 = .ok (.iinc 2 1, 3) := by decide +kernel
theorem dX9_beat_69 : decode cX9_beat 69 = .ok (.goto (-67), 3) := by decide +kernel
theorem dX9_beat_72 : decode cX9_beat 72 = .ok (.iconst 0, 1) := by decide +kernel
theorem dX9_beat_73 : decode cX9_beat 73 = .ok (.istore_n 2, 1) := by decide +kernel
theorem dX9_beat_74 : decode cX9_beat 74 = .ok (.iload_n 2, 1) := by decide +kernel
theorem dX9_beat_75 : decode cX9_beat 75 = .ok (.aload_n 0, 1) := by decide +kernel
theorem dX9_beat_76 : decode cX9_beat 76 = .ok (.getfield 108, 3) := by decide +kernel
theorem dX9_beat_79 : decode cX9_beat 79 = .ok (.if_icmp .ge 61, 3) := by decide +kernel
theorem dX9_beat_82 : decode cX9_beat 82 = .ok (.aload_n 0, 1) := by decide +kernel
theorem dX9_beat_83 : decode cX9_beat 83 = .ok (.getfield 29, 3) := by decide +kernel
theorem dX9_beat_86 : decode cX9_beat 86 = .ok (.iload_n 1, 1) := by decide +kernel
theorem dX9_beat_87 : decode cX9_beat 87 = .ok (.bipush 14, 2) := by decide +kernel
theorem dX9_beat_89 : decode cX9_beat 89 = .ok (.iadd, 1) := by decide +kernel
theorem dX9_beat_90 : decode cX9_beat 90 = .ok (.iaload, 1) := by decide +kernel
theorem dX9_beat_91 : decode cX9_beat 91 = .ok (.ifCond .eq 49, 3) := by decide +kernel
theorem dX9_beat_94 : decode cX9_beat 94 = .ok (.aload_n 0, 1) := by decide +kernel
theorem dX9_beat_95 : decode cX9_beat 95 = .ok (.getfield 29, 3) := by decide +kernel
theorem dX9_beat_98 : decode cX9_beat 98 = .ok (.iload_n 1, 1) := by decide +kernel
theorem dX9_beat_99 : decode cX9_beat 99 = .ok (.bipush 12, 2) := by decide +kernel
theorem dX9_beat_101 : decode cX9_beat 101 = .ok (.iadd, 1) := by decide +kernel
theorem dX9_beat_102 : decode cX9_beat 102 = .ok (.iaload, 1) := by decide +kernel
theorem dX9_beat_103 : decode cX9_beat 103 = .ok (.iload_n 2, 1) := by decide +kernel
theorem dX9_beat_104 : decode cX9_beat 104 = .ok (.invokestatic 117, 3) := by decide +kernel
theorem dX9_beat_107 : decode cX9_beat 107 = .ok (.ifCond .eq 27, 3) := by decide +kernel
theorem dX9_beat_110 : decode cX9_beat 110 = .ok (.aload_n 0, 1) := by decide +kernel
theorem dX9_beat_111 : decode cX9_beat 111 = .ok (.getfield 29, 3) := by decide +kernel
theorem dX9_beat_114 : decode cX9_beat 114 = .ok (.iload_n 1, 1) := by decide +kernel
theorem dX9_beat_115 : decode cX9_beat 115 = .ok (.bipush 6, 2) := by decide +kernel
theorem dX9_beat_117 : decode cX9_beat 117 = .ok (.iadd, 1) := by decide +kernel
theorem dX9_beat_118 : decode cX9_beat 118 = .ok (.iload_n 2, 1) := by decide +kernel
theorem dX9_beat_119 : decode cX9_beat 119 = .ok (.iadd, 1) := by decide +kernel
theorem dX9_beat_120 : decode cX9_beat 120 = .ok (.iaload, 1) := by decide +kernel
theorem dX9_beat_121 : decode cX9_beat 121 = .ok (.aload_n 0, 1) := by decide +kernel
theorem dX9_beat_122 : decode cX9_beat 122 = .ok (.getfield 13, 3) := by decide +kernel
theorem dX9_beat_125 : decode cX9_beat 125 = .ok (.if_icmp .gt 9, 3) := by decide +kernel
theorem dX9_beat_128 : decode cX9_beat 128 = .ok (.aload_n 0, 1) := by decide +kernel
theorem dX9_beat_129 : decode cX9_beat 129 = .ok (.iload_n 1, 1) := by decide +kernel
theorem dX9_beat_130 : decode cX9_beat 130 = .ok (.iload_n 2, 1) := by decide +kernel
theorem dX9_beat_131 : decode cX9_beat 131 = .ok (.invokevirtual 128, 3) := by decide +kernel
theorem dX9_beat_134 : decode cX9_beat 134 = .ok (.iinc 2 1, 3) := by decide +kernel
theorem dX9_beat_137 : decode cX9_beat 137 = .ok (.goto (-63), 3) := by decide +kernel
theorem dX9_beat_140 : decode cX9_beat 140 = .ok (.aload_n 0, 1) := by decide +kernel
theorem dX9_beat_141 : decode cX9_beat 141 = .ok (.getfield 29, 3) := by decide +kernel
theorem dX9_beat_144 : decode cX9_beat 144 = .ok (.iload_n 1, 1) := by decide +kernel
theorem dX9_beat_145 : decode cX9_beat 145 = .ok (.bipush 13, 2) := by decide +kernel
theorem dX9_beat_147 : decode cX9_beat 147 = .ok (.iadd, 1) := by decide +kernel
theorem dX9_beat_148 : decode cX9_beat 148 = .ok (.dup2, 1) := by decide +kernel
theorem dX9_beat_149 : decode cX9_beat 149 = .ok (.iaload, 1) := by decide +kernel
theorem dX9_beat_150 : decode cX9_beat 150 = .ok (.iconst 1, 1) := by decide +kernel
theorem dX9_beat_151 : decode cX9_beat 151 = .ok (.iadd, 1) := by decide +kernel
theorem dX9_beat_152 : decode cX9_beat 152 = .ok (.iastore, 1) := by decide +kernel
theorem dX9_beat_153 : decode cX9_beat 153 = .ok (.return_, 1) := by decide +kernel
theorem dX9_copies_0 : decode cX9_copies 0 = .ok (.iconst 0, 1) := by decide +kernel
theorem dX9_copies_1 : decode cX9_copies 1 = .ok (.istore_n 3, 1) := by decide +kernel
theorem dX9_copies_2 : decode cX9_copies 2 = .ok (.iload_n 3, 1) := by decide +kernel
theorem dX9_copies_3 : decode cX9_copies 3 = .ok (.bipush 15, 2) := by decide +kernel
theorem dX9_copies_5 : decode cX9_copies 5 = .ok (.if_icmp .ge 25, 3) := by decide +kernel
theorem dX9_copies_8 : decode cX9_copies 8 = .ok (.aload_n 0, 1) := by decide +kernel
theorem dX9_copies_9 : decode cX9_copies 9 = .ok (.getfield 29, 3) := by decide +kernel
theorem dX9_copies_12 : decode cX9_copies 12 = .ok (.iload_n 2, 1) := by decide +kernel
theorem dX9_copies_13 : decode cX9_copies 13 = .ok (.iload_n 3, 1) := by decide +kernel
theorem dX9_copies_14 : decode cX9_copies 14 = .ok (.iadd, 1) := by decide +kernel
theorem dX9_copies_15 : decode cX9_copies 15 = .ok (.aload_n 0, 1) := by decide +kernel
theorem dX9_copies_16 : decode cX9_copies 16 = .ok (.getfield 29, 3) := by decide +kernel
theorem dX9_copies_19 : decode cX9_copies 19 = .ok (.iload_n 1, 1) := by decide +kernel
theorem dX9_copies_20 : decode cX9_copies 20 = .ok (.iload_n 3, 1) := by decide +kernel
theorem dX9_copies_21 : decode cX9_copies 21 = .ok (.iadd, 1) := by decide +kernel
theorem dX9_copies_22 : decode cX9_copies 22 = .ok (.iaload, 1) := by decide +kernel
theorem dX9_copies_23 : decode cX9_copies 23 = .ok (.iastore, 1) := by decide +kernel
theorem dX9_copies_24 : decode cX9_copies 24 = .ok (.iinc 3 1, 3) := by decide +kernel
theorem dX9_copies_27 : decode cX9_copies 27 = .ok (.goto (-25), 3) := by decide +kernel
theorem dX9_copies_30 : decode cX9_copies 30 = .ok (.return_, 1) := by decide +kernel
theorem dX9_known_0 : decode cX9_known 0 = .ok (.aload_n 0, 1) := by decide +kernel
theorem dX9_known_1 : decode cX9_known 1 = .ok (.getfield 111, 3) := by decide +kernel
theorem dX9_known_4 : decode cX9_known 4 = .ok (.bipush 10, 2) := by decide +kernel
theorem dX9_known_6 : decode cX9_known 6 = .ok (.if_icmp .ne 40, 3) := by decide +kernel
theorem dX9_known_9 : decode cX9_known 9 = .ok (.bipush 15, 2) := by decide +kernel
theorem dX9_known_11 : decode cX9_known 11 = .ok (.istore_n 1, 1) := by decide +kernel
theorem dX9_known_12 : decode cX9_known 12 = .ok (.iload_n 1, 1) := by decide +kernel
theorem dX9_known_13 : decode cX9_known 13 = .ok (.sipush 150, 3) := by decide +kernel
theorem dX9_known_16 : decode cX9_known 16 = .ok (.if_icmp .ge 24, 3) := by decide +kernel
theorem dX9_known_19 : decode cX9_known 19 = .ok (.aload_n 0, 1) := by decide +kernel
theorem dX9_known_20 : decode cX9_known 20 = .ok (.getfield 29, 3) := by decide +kernel
theorem dX9_known_23 : decode cX9_known 23 = .ok (.iload_n 1, 1) := by decide +kernel
theorem dX9_known_24 : decode cX9_known 24 = .ok (.aload_n 0, 1) := by decide +kernel
theorem dX9_known_25 : decode cX9_known 25 = .ok (.getfield 29, 3) := by decide +kernel
theorem dX9_known_28 : decode cX9_known 28 = .ok (.iload_n 1, 1) := by decide +kernel
theorem dX9_known_29 : decode cX9_known 29 = .ok (.bipush 15, 2) := by decide +kernel
theorem dX9_known_31 : decode cX9_known 31 = .ok (.iadd, 1) := by decide +kernel
theorem dX9_known_32 : decode cX9_known 32 = .ok (.iaload, 1) := by decide +kernel
theorem dX9_known_33 : decode cX9_known 33 = .ok (.iastore, 1) := by decide +kernel
theorem dX9_known_34 : decode cX9_known 34 = .ok (.iinc 1 1, 3) := by decide +kernel
theorem dX9_known_37 : decode cX9_known 37 = .ok (.goto (-25), 3) := by decide +kernel
theorem dX9_known_40 : decode cX9_known 40 = .ok (.aload_n 0, 1) := by decide +kernel
theorem dX9_known_41 : decode cX9_known 41 = .ok (.bipush 9, 2) := by decide +kernel
theorem dX9_known_43 : decode cX9_known 43 = .ok (.putfield 111, 3) := by decide +kernel
theorem dX9_known_46 : decode cX9_known 46 = .ok (.aload_n 0, 1) := by decide +kernel
theorem dX9_known_47 : decode cX9_known 47 = .ok (.dup, 1) := by decide +kernel
theorem dX9_known_48 : decode cX9_known 48 = .ok (.getfield 111, 3) := by decide +kernel
theorem dX9_known_51 : decode cX9_known 51 = .ok (.iconst 1, 1) := by decide +kernel
theorem dX9_known_52 : decode cX9_known 52 = .ok (.iadd, 1) := by decide +kernel
theorem dX9_known_53 : decode cX9_known 53 = .ok (.putfield 111, 3) := by decide +kernel
theorem dX9_known_56 : decode cX9_known 56 = .ok (.aload_n 0, 1) := by decide +kernel
theorem dX9_known_57 : decode cX9_known 57 = .ok (.iconst 0, 1) := by decide +kernel
theorem dX9_known_58 : decode cX9_known 58 = .ok (.aload_n 0, 1) := by decide +kernel
theorem dX9_known_59 : decode cX9_known 59 = .ok (.getfield 111, 3) := by decide +kernel
theorem dX9_known_62 : decode cX9_known 62 = .ok (.bipush 15, 2) := by decide +kernel
theorem dX9_known_64 : decode cX9_known 64 = .ok (.imul, 1) := by decide +kernel
theorem dX9_known_65 : decode cX9_known 65 = .ok (.invokevirtual 131, 3) := by decide +kernel
theorem dX9_known_68 : decode cX9_known 68 = .ok (.return_, 1) := by decide +kernel
theorem dX9_isTop_0 : decode cX9_isTop 0 = .ok (.iload_n 1, 1) := by decide +kernel
theorem dX9_isTop_1 : decode cX9_isTop 1 = .ok (.i2l, 1) := by decide +kernel
theorem dX9_isTop_2 : decode cX9_isTop 2 = .ok (.lconst 0, 1) := by decide +kernel
theorem dX9_isTop_3 : decode cX9_isTop 3 = .ok (.aload_n 0, 1) := by decide +kernel
theorem dX9_isTop_4 : decode cX9_isTop 4 = .ok (.getfield 108, 3) := by decide +kernel
theorem dX9_isTop_7 : decode cX9_isTop 7 = .ok (.iconst 1, 1) := by decide +kernel
theorem dX9_isTop_8 : decode cX9_isTop 8 = .ok (.isub, 1) := by decide +kernel
theorem dX9_isTop_9 : decode cX9_isTop 9 = .ok (.i2l, 1) := by decide +kernel
theorem dX9_isTop_10 : decode cX9_isTop 10 = .ok (.invokestatic 50, 3) := by decide +kernel
theorem dX9_isTop_13 : decode cX9_isTop 13 = .ok (.ireturn, 1) := by decide +kernel
theorem dX9_stands_0 : decode cX9_stands 0 = .ok (.aload_n 0, 1) := by decide +kernel
theorem dX9_stands_1 : decode cX9_stands 1 = .ok (.getfield 29, 3) := by decide +kernel
theorem dX9_stands_4 : decode cX9_stands 4 = .ok (.bipush 12, 2) := by decide +kernel
theorem dX9_stands_6 : decode cX9_stands 6 = .ok (.iaload, 1) := by decide +kernel
theorem dX9_stands_7 : decode cX9_stands 7 = .ok (.iload_n 1, 1) := by decide +kernel
theorem dX9_stands_8 : decode cX9_stands 8 = .ok (.invokestatic 117, 3) := by decide +kernel
theorem dX9_stands_11 : decode cX9_stands 11 = .ok (.ireturn, 1) := by decide +kernel
theorem dX9_fallOf_0 : decode cX9_fallOf 0 = .ok (.aload_n 0, 1) := by decide +kernel
theorem dX9_fallOf_1 : decode cX9_fallOf 1 = .ok (.iconst 0, 1) := by decide +kernel
theorem dX9_fallOf_2 : decode cX9_fallOf 2 = .ok (.sipush 195, 3) := by decide +kernel
theorem dX9_fallOf_5 : decode cX9_fallOf 5 = .ok (.invokevirtual 131, 3) := by decide +kernel
theorem dX9_fallOf_8 : decode cX9_fallOf 8 = .ok (.iconst 0, 1) := by decide +kernel
theorem dX9_fallOf_9 : decode cX9_fallOf 9 = .ok (.istore_n 2, 1) := by decide +kernel
theorem dX9_fallOf_10 : decode cX9_fallOf 10 = .ok (.iload_n 2, 1) := by decide +kernel
theorem dX9_fallOf_11 : decode cX9_fallOf 11 = .ok (.bipush 60, 2) := by decide +kernel
theorem dX9_fallOf_13 : decode cX9_fallOf 13 = .ok (.if_icmp .ge 31, 3) := by decide +kernel
theorem dX9_fallOf_16 : decode cX9_fallOf 16 = .ok (.aload_n 0, 1) := by decide +kernel
theorem dX9_fallOf_17 : decode cX9_fallOf 17 = .ok (.getfield 29, 3) := by decide +kernel
theorem dX9_fallOf_20 : decode cX9_fallOf 20 = .ok (.sipush 207, 3) := by decide +kernel
theorem dX9_fallOf_23 : decode cX9_fallOf 23 = .ok (.iaload, 1) := by decide +kernel
theorem dX9_fallOf_24 : decode cX9_fallOf 24 = .ok (.iload_n 1, 1) := by decide +kernel
theorem dX9_fallOf_25 : decode cX9_fallOf 25 = .ok (.invokestatic 117, 3) := by decide +kernel
theorem dX9_fallOf_28 : decode cX9_fallOf 28 = .ok (.ifCond .eq 16, 3) := by decide +kernel
theorem dX9_fallOf_31 : decode cX9_fallOf 31 = .ok (.aload_n 0, 1) := by decide +kernel
theorem dX9_fallOf_32 : decode cX9_fallOf 32 = .ok (.sipush 195, 3) := by decide +kernel
theorem dX9_fallOf_35 : decode cX9_fallOf 35 = .ok (.invokevirtual 134, 3) := by decide +kernel
theorem dX9_fallOf_38 : decode cX9_fallOf 38 = .ok (.iinc 2 1, 3) := by decide +kernel
theorem dX9_fallOf_41 : decode cX9_fallOf 41 = .ok (.goto (-31), 3) := by decide +kernel
theorem dX9_fallOf_44 : decode cX9_fallOf 44 = .ok (.aload_n 0, 1) := by decide +kernel
theorem dX9_fallOf_45 : decode cX9_fallOf 45 = .ok (.getfield 29, 3) := by decide +kernel
theorem dX9_fallOf_48 : decode cX9_fallOf 48 = .ok (.sipush 207, 3) := by decide +kernel
theorem dX9_fallOf_51 : decode cX9_fallOf 51 = .ok (.iaload, 1) := by decide +kernel
theorem dX9_fallOf_52 : decode cX9_fallOf 52 = .ok (.iload_n 1, 1) := by decide +kernel
theorem dX9_fallOf_53 : decode cX9_fallOf 53 = .ok (.invokestatic 117, 3) := by decide +kernel
theorem dX9_fallOf_56 : decode cX9_fallOf 56 = .ok (.ifCond .eq 8, 3) := by decide +kernel
theorem dX9_fallOf_59 : decode cX9_fallOf 59 = .ok (.bipush (-9), 2) := by decide +kernel
theorem dX9_fallOf_61 : decode cX9_fallOf 61 = .ok (.goto 4, 3) := by decide +kernel
theorem dX9_fallOf_64 : decode cX9_fallOf 64 = .ok (.iload_n 2, 1) := by decide +kernel
theorem dX9_fallOf_65 : decode cX9_fallOf 65 = .ok (.ireturn, 1) := by decide +kernel
theorem dX9_last_0 : decode cX9_last 0 = .ok (.bipush (-9), 2) := by decide +kernel
theorem dX9_last_2 : decode cX9_last 2 = .ok (.istore_n 1, 1) := by decide +kernel
theorem dX9_last_3 : decode cX9_last 3 = .ok (.iconst (-1), 1) := by decide +kernel
theorem dX9_last_4 : decode cX9_last 4 = .ok (.istore_n 2, 1) := by decide +kernel
theorem dX9_last_5 : decode cX9_last 5 = .ok (.iconst 0, 1) := by decide +kernel
theorem dX9_last_6 : decode cX9_last 6 = .ok (.istore_n 3, 1) := by decide +kernel
theorem dX9_last_7 : decode cX9_last 7 = .ok (.iload_n 3, 1) := by decide +kernel
theorem dX9_last_8 : decode cX9_last 8 = .ok (.aload_n 0, 1) := by decide +kernel
theorem dX9_last_9 : decode cX9_last 9 = .ok (.getfield 108, 3) := by decide +kernel
theorem dX9_last_12 : decode cX9_last 12 = .ok (.if_icmp .ge 47, 3) := by decide +kernel
theorem dX9_last_15 : decode cX9_last 15 = .ok (.aload_n 0, 1) := by decide +kernel
theorem dX9_last_16 : decode cX9_last 16 = .ok (.iload_n 3, 1) := by decide +kernel
theorem dX9_last_17 : decode cX9_last 17 = .ok (.invokevirtual 138, 3) := by decide +kernel
theorem dX9_last_20 : decode cX9_last 20 = .ok (.ifCond .eq 11, 3) := by decide +kernel
theorem dX9_last_23 : decode cX9_last 23 = .ok (.aload_n 0, 1) := by decide +kernel
theorem dX9_last_24 : decode cX9_last 24 = .ok (.iload_n 3, 1) := by decide +kernel
theorem dX9_last_25 : decode cX9_last 25 = .ok (.invokevirtual 142, 3) := by decide +kernel
theorem dX9_last_28 : decode cX9_last 28 = .ok (.goto 4, 3) := by decide +kernel
theorem dX9_last_31 : decode cX9_last 31 = .ok (.iconst (-1), 1) := by decide +kernel
theorem dX9_last_32 : decode cX9_last 32 = .ok (.istore 4, 2) := by decide +kernel
theorem dX9_last_34 : decode cX9_last 34 = .ok (.iload 4, 2) := by decide +kernel
theorem dX9_last_36 : decode cX9_last 36 = .ok (.iload_n 2, 1) := by decide +kernel
theorem dX9_last_37 : decode cX9_last 37 = .ok (.if_icmp .le 7, 3) := by decide +kernel
theorem dX9_last_40 : decode cX9_last 40 = .ok (.iload_n 3, 1) := by decide +kernel
theorem dX9_last_41 : decode cX9_last 41 = .ok (.goto 4, 3) := by decide +kernel
theorem dX9_last_44 : decode cX9_last 44 = .ok (.iload_n 1, 1) := by decide +kernel
theorem dX9_last_45 : decode cX9_last 45 = .ok (.istore_n 1, 1) := by decide +kernel
theorem dX9_last_46 : decode cX9_last 46 = .ok (.iload_n 2, 1) := by decide +kernel
theorem dX9_last_47 : decode cX9_last 47 = .ok (.iload 4, 2) := by decide +kernel
theorem dX9_last_49 : decode cX9_last 49 = .ok (.invokestatic 145, 3) := by decide +kernel
theorem dX9_last_52 : decode cX9_last 52 = .ok (.istore_n 2, 1) := by decide +kernel
theorem dX9_last_53 : decode cX9_last 53 = .ok (.iinc 3 1, 3) := by decide +kernel
theorem dX9_last_56 : decode cX9_last 56 = .ok (.goto (-49), 3) := by decide +kernel
theorem dX9_last_59 : decode cX9_last 59 = .ok (.iload_n 1, 1) := by decide +kernel
theorem dX9_last_60 : decode cX9_last 60 = .ok (.ireturn, 1) := by decide +kernel
theorem dX9_top_0 : decode cX9_top 0 = .ok (.aload_n 0, 1) := by decide +kernel
theorem dX9_top_1 : decode cX9_top 1 = .ok (.iload_n 1, 1) := by decide +kernel
theorem dX9_top_2 : decode cX9_top 2 = .ok (.invokevirtual 148, 3) := by decide +kernel
theorem dX9_top_5 : decode cX9_top 5 = .ok (.ifCond .eq 15, 3) := by decide +kernel
theorem dX9_top_8 : decode cX9_top 8 = .ok (.iload_n 2, 1) := by decide +kernel
theorem dX9_top_9 : decode cX9_top 9 = .ok (.i2l, 1) := by decide +kernel
theorem dX9_top_10 : decode cX9_top 10 = .ok (.lconst 0, 1) := by decide +kernel
theorem dX9_top_11 : decode cX9_top 11 = .ok (.ldc2_w 151, 3) := by decide +kernel
theorem dX9_top_14 : decode cX9_top 14 = .ok (.invokestatic 50, 3) := by decide +kernel
theorem dX9_top_17 : decode cX9_top 17 = .ok (.ifCond .ne 5, 3) := by decide +kernel
theorem dX9_top_20 : decode cX9_top 20 = .ok (.iconst (-1), 1) := by decide +kernel
theorem dX9_top_21 : decode cX9_top 21 = .ok (.ireturn, 1) := by decide +kernel
theorem dX9_top_22 : decode cX9_top 22 = .ok (.iload_n 2, 1) := by decide +kernel
theorem dX9_top_23 : decode cX9_top 23 = .ok (.ifCond .ne 25, 3) := by decide +kernel
theorem dX9_top_26 : decode cX9_top 26 = .ok (.aload_n 0, 1) := by decide +kernel
theorem dX9_top_27 : decode cX9_top 27 = .ok (.iload_n 1, 1) := by decide +kernel
theorem dX9_top_28 : decode cX9_top 28 = .ok (.invokevirtual 138, 3) := by decide +kernel
theorem dX9_top_31 : decode cX9_top 31 = .ok (.ifCond .eq 12, 3) := by decide +kernel
theorem dX9_top_34 : decode cX9_top 34 = .ok (.aload_n 0, 1) := by decide +kernel
theorem dX9_top_35 : decode cX9_top 35 = .ok (.getfield 29, 3) := by decide +kernel
theorem dX9_top_38 : decode cX9_top 38 = .ok (.iload_n 1, 1) := by decide +kernel
theorem dX9_top_39 : decode cX9_top 39 = .ok (.iaload, 1) := by decide +kernel
theorem dX9_top_40 : decode cX9_top 40 = .ok (.goto 65, 3) := by decide +kernel
theorem dX9_top_43 : decode cX9_top 43 = .ok (.bipush (-9), 2) := by decide +kernel
theorem dX9_top_45 : decode cX9_top 45 = .ok (.goto 60, 3) := by decide +kernel
theorem dX9_top_48 : decode cX9_top 48 = .ok (.iload_n 2, 1) := by decide +kernel
theorem dX9_top_49 : decode cX9_top 49 = .ok (.iconst 1, 1) := by decide +kernel
theorem dX9_top_50 : decode cX9_top 50 = .ok (.if_icmp .ne 15, 3) := by decide +kernel
theorem dX9_top_53 : decode cX9_top 53 = .ok (.aload_n 0, 1) := by decide +kernel
theorem dX9_top_54 : decode cX9_top 54 = .ok (.getfield 29, 3) := by decide +kernel
theorem dX9_top_57 : decode cX9_top 57 = .ok (.bipush 6, 2) := by decide +kernel
theorem dX9_top_59 : decode cX9_top 59 = .ok (.iload_n 1, 1) := by decide +kernel
theorem dX9_top_60 : decode cX9_top 60 = .ok (.iadd, 1) := by decide +kernel
theorem dX9_top_61 : decode cX9_top 61 = .ok (.iaload, 1) := by decide +kernel
theorem dX9_top_62 : decode cX9_top 62 = .ok (.goto 43, 3) := by decide +kernel
theorem dX9_top_65 : decode cX9_top 65 = .ok (.iload_n 2, 1) := by decide +kernel
theorem dX9_top_66 : decode cX9_top 66 = .ok (.iconst 2, 1) := by decide +kernel
theorem dX9_top_67 : decode cX9_top 67 = .ok (.if_icmp .ne 12, 3) := by decide +kernel
theorem dX9_top_70 : decode cX9_top 70 = .ok (.aload_n 0, 1) := by decide +kernel
theorem dX9_top_71 : decode cX9_top 71 = .ok (.getfield 16, 3) := by decide +kernel
theorem dX9_top_74 : decode cX9_top 74 = .ok (.iload_n 1, 1) := by decide +kernel
theorem dX9_top_75 : decode cX9_top 75 = .ok (.iaload, 1) := by decide +kernel
theorem dX9_top_76 : decode cX9_top 76 = .ok (.goto 29, 3) := by decide +kernel
theorem dX9_top_79 : decode cX9_top 79 = .ok (.iload_n 2, 1) := by decide +kernel
theorem dX9_top_80 : decode cX9_top 80 = .ok (.iconst 3, 1) := by decide +kernel
theorem dX9_top_81 : decode cX9_top 81 = .ok (.if_icmp .ne 19, 3) := by decide +kernel
theorem dX9_top_84 : decode cX9_top 84 = .ok (.aload_n 0, 1) := by decide +kernel
theorem dX9_top_85 : decode cX9_top 85 = .ok (.iload_n 1, 1) := by decide +kernel
theorem dX9_top_86 : decode cX9_top 86 = .ok (.invokevirtual 138, 3) := by decide +kernel
theorem dX9_top_89 : decode cX9_top 89 = .ok (.ifCond .eq 7, 3) := by decide +kernel
theorem dX9_top_92 : decode cX9_top 92 = .ok (.iconst 1, 1) := by decide +kernel
theorem dX9_top_93 : decode cX9_top 93 = .ok (.goto 12, 3) := by decide +kernel
theorem dX9_top_96 : decode cX9_top 96 = .ok (.iconst 0, 1) := by decide +kernel
theorem dX9_top_97 : decode cX9_top 97 = .ok (.goto 8, 3) := by decide +kernel
theorem dX9_top_100 : decode cX9_top 100 = .ok (.aload_n 0, 1) := by decide +kernel
theorem dX9_top_101 : decode cX9_top 101 = .ok (.iload_n 1, 1) := by decide +kernel
theorem dX9_top_102 : decode cX9_top 102 = .ok (.invokevirtual 142, 3) := by decide +kernel
theorem dX9_top_105 : decode cX9_top 105 = .ok (.ireturn, 1) := by decide +kernel
theorem dX9_at_0 : decode cX9_at 0 = .ok (.iload_n 1, 1) := by decide +kernel
theorem dX9_at_1 : decode cX9_at 1 = .ok (.i2l, 1) := by decide +kernel
theorem dX9_at_2 : decode cX9_at 2 = .ok (.lconst 0, 1) := by decide +kernel
theorem dX9_at_3 : decode cX9_at 3 = .ok (.aload_n 0, 1) := by decide +kernel
theorem dX9_at_4 : decode cX9_at 4 = .ok (.getfield 7, 3) := by decide +kernel
theorem dX9_at_7 : decode cX9_at 7 = .ok (.iconst 1, 1) := by decide +kernel
theorem dX9_at_8 : decode cX9_at 8 = .ok (.isub, 1) := by decide +kernel
theorem dX9_at_9 : decode cX9_at 9 = .ok (.i2l, 1) := by decide +kernel
theorem dX9_at_10 : decode cX9_at 10 = .ok (.invokestatic 50, 3) := by decide +kernel
theorem dX9_at_13 : decode cX9_at 13 = .ok (.ifCond .eq 14, 3) := by decide +kernel
theorem dX9_at_16 : decode cX9_at 16 = .ok (.aload_n 0, 1) := by decide +kernel
theorem dX9_at_17 : decode cX9_at 17 = .ok (.iconst 0, 1) := by decide +kernel
theorem dX9_at_18 : decode cX9_at 18 = .ok (.iload_n 1, 1) := by decide +kernel
theorem dX9_at_19 : decode cX9_at 19 = .ok (.bipush (-9), 2) := by decide +kernel
theorem dX9_at_21 : decode cX9_at 21 = .ok (.invokevirtual 121, 3) := by decide +kernel
theorem dX9_at_24 : decode cX9_at 24 = .ok (.goto 4, 3) := by decide +kernel
theorem dX9_at_27 : decode cX9_at 27 = .ok (.iconst (-1), 1) := by decide +kernel
theorem dX9_at_28 : decode cX9_at 28 = .ok (.ireturn, 1) := by decide +kernel
theorem dX9_spins_0 : decode cX9_spins 0 = .ok (.iconst 0, 1) := by decide +kernel
theorem dX9_spins_1 : decode cX9_spins 1 = .ok (.istore_n 1, 1) := by decide +kernel
theorem dX9_spins_2 : decode cX9_spins 2 = .ok (.iconst 0, 1) := by decide +kernel
theorem dX9_spins_3 : decode cX9_spins 3 = .ok (.istore_n 2, 1) := by decide +kernel
theorem dX9_spins_4 : decode cX9_spins 4 = .ok (.iload_n 2, 1) := by decide +kernel
theorem dX9_spins_5 : decode cX9_spins 5 = .ok (.aload_n 0, 1) := by decide +kernel
theorem dX9_spins_6 : decode cX9_spins 6 = .ok (.getfield 108, 3) := by decide +kernel
theorem dX9_spins_9 : decode cX9_spins 9 = .ok (.if_icmp .ge 21, 3) := by decide +kernel
theorem dX9_spins_12 : decode cX9_spins 12 = .ok (.iload_n 1, 1) := by decide +kernel
theorem dX9_spins_13 : decode cX9_spins 13 = .ok (.aload_n 0, 1) := by decide +kernel
theorem dX9_spins_14 : decode cX9_spins 14 = .ok (.getfield 29, 3) := by decide +kernel
theorem dX9_spins_17 : decode cX9_spins 17 = .ok (.bipush 6, 2) := by decide +kernel
theorem dX9_spins_19 : decode cX9_spins 19 = .ok (.iload_n 2, 1) := by decide +kernel
theorem dX9_spins_20 : decode cX9_spins 20 = .ok (.iadd, 1) := by decide +kernel
theorem dX9_spins_21 : decode cX9_spins 21 = .ok (.iaload, 1) := by decide +kernel
theorem dX9_spins_22 : decode cX9_spins 22 = .ok (.iadd, 1) := by decide +kernel
theorem dX9_spins_23 : decode cX9_spins 23 = .ok (.istore_n 1, 1) := by decide +kernel
theorem dX9_spins_24 : decode cX9_spins 24 = .ok (.iinc 2 1, 3) := by decide +kernel
theorem dX9_spins_27 : decode cX9_spins 27 = .ok (.goto (-23), 3) := by decide +kernel
theorem dX9_spins_30 : decode cX9_spins 30 = .ok (.iload_n 1, 1) := by decide +kernel
theorem dX9_spins_31 : decode cX9_spins 31 = .ok (.ireturn, 1) := by decide +kernel
theorem dX9_now_0 : decode cX9_now 0 = .ok (.iload_n 1, 1) := by decide +kernel
theorem dX9_now_1 : decode cX9_now 1 = .ok (.i2l, 1) := by decide +kernel
theorem dX9_now_2 : decode cX9_now 2 = .ok (.lconst 0, 1) := by decide +kernel
theorem dX9_now_3 : decode cX9_now 3 = .ok (.ldc2_w 153, 3) := by decide +kernel
theorem dX9_now_6 : decode cX9_now 6 = .ok (.invokestatic 50, 3) := by decide +kernel
theorem dX9_now_9 : decode cX9_now 9 = .ok (.ifCond .ne 5, 3) := by decide +kernel
theorem dX9_now_12 : decode cX9_now 12 = .ok (.iconst (-1), 1) := by decide +kernel
theorem dX9_now_13 : decode cX9_now 13 = .ok (.ireturn, 1) := by decide +kernel
theorem dX9_now_14 : decode cX9_now 14 = .ok (.iload_n 1, 1) := by decide +kernel
theorem dX9_now_15 : decode cX9_now 15 = .ok (.ifCond .ne 13, 3) := by decide +kernel
theorem dX9_now_18 : decode cX9_now 18 = .ok (.aload_n 0, 1) := by decide +kernel
theorem dX9_now_19 : decode cX9_now 19 = .ok (.getfield 29, 3) := by decide +kernel
theorem dX9_now_22 : decode cX9_now 22 = .ok (.bipush 13, 2) := by decide +kernel
theorem dX9_now_24 : decode cX9_now 24 = .ok (.iaload, 1) := by decide +kernel
theorem dX9_now_25 : decode cX9_now 25 = .ok (.goto 61, 3) := by decide +kernel
theorem dX9_now_28 : decode cX9_now 28 = .ok (.iload_n 1, 1) := by decide +kernel
theorem dX9_now_29 : decode cX9_now 29 = .ok (.iconst 1, 1) := by decide +kernel
theorem dX9_now_30 : decode cX9_now 30 = .ok (.if_icmp .ne 13, 3) := by decide +kernel
theorem dX9_now_33 : decode cX9_now 33 = .ok (.aload_n 0, 1) := by decide +kernel
theorem dX9_now_34 : decode cX9_now 34 = .ok (.getfield 29, 3) := by decide +kernel
theorem dX9_now_37 : decode cX9_now 37 = .ok (.bipush 14, 2) := by decide +kernel
theorem dX9_now_39 : decode cX9_now 39 = .ok (.iaload, 1) := by decide +kernel
theorem dX9_now_40 : decode cX9_now 40 = .ok (.goto 46, 3) := by decide +kernel
theorem dX9_now_43 : decode cX9_now 43 = .ok (.iload_n 1, 1) := by decide +kernel
theorem dX9_now_44 : decode cX9_now 44 = .ok (.iconst 2, 1) := by decide +kernel
theorem dX9_now_45 : decode cX9_now 45 = .ok (.if_icmp .ne 13, 3) := by decide +kernel
theorem dX9_now_48 : decode cX9_now 48 = .ok (.aload_n 0, 1) := by decide +kernel
theorem dX9_now_49 : decode cX9_now 49 = .ok (.getfield 29, 3) := by decide +kernel
theorem dX9_now_52 : decode cX9_now 52 = .ok (.bipush 12, 2) := by decide +kernel
theorem dX9_now_54 : decode cX9_now 54 = .ok (.iaload, 1) := by decide +kernel
theorem dX9_now_55 : decode cX9_now 55 = .ok (.goto 31, 3) := by decide +kernel
theorem dX9_now_58 : decode cX9_now 58 = .ok (.iload_n 1, 1) := by decide +kernel
theorem dX9_now_59 : decode cX9_now 59 = .ok (.iconst 3, 1) := by decide +kernel
theorem dX9_now_60 : decode cX9_now 60 = .ok (.if_icmp .ne 10, 3) := by decide +kernel
theorem dX9_now_63 : decode cX9_now 63 = .ok (.aload_n 0, 1) := by decide +kernel
theorem dX9_now_64 : decode cX9_now 64 = .ok (.invokevirtual 155, 3) := by decide +kernel
theorem dX9_now_67 : decode cX9_now 67 = .ok (.goto 19, 3) := by decide +kernel
theorem dX9_now_70 : decode cX9_now 70 = .ok (.iload_n 1, 1) := by decide +kernel
theorem dX9_now_71 : decode cX9_now 71 = .ok (.iconst 4, 1) := by decide +kernel
theorem dX9_now_72 : decode cX9_now 72 = .ok (.if_icmp .ne 10, 3) := by decide +kernel
theorem dX9_now_75 : decode cX9_now 75 = .ok (.aload_n 0, 1) := by decide +kernel
theorem dX9_now_76 : decode cX9_now 76 = .ok (.invokevirtual 158, 3) := by decide +kernel
theorem dX9_now_79 : decode cX9_now 79 = .ok (.goto 7, 3) := by decide +kernel
theorem dX9_now_82 : decode cX9_now 82 = .ok (.aload_n 0, 1) := by decide +kernel
theorem dX9_now_83 : decode cX9_now 83 = .ok (.getfield 111, 3) := by decide +kernel
theorem dX9_now_86 : decode cX9_now 86 = .ok (.ireturn, 1) := by decide +kernel
theorem dX9_beats_0 : decode cX9_beats 0 = .ok (.aload_n 0, 1) := by decide +kernel
theorem dX9_beats_1 : decode cX9_beats 1 = .ok (.getfield 29, 3) := by decide +kernel
theorem dX9_beats_4 : decode cX9_beats 4 = .ok (.bipush 13, 2) := by decide +kernel
theorem dX9_beats_6 : decode cX9_beats 6 = .ok (.iaload, 1) := by decide +kernel
theorem dX9_beats_7 : decode cX9_beats 7 = .ok (.sipush 999, 3) := by decide +kernel
theorem dX9_beats_10 : decode cX9_beats 10 = .ok (.if_icmp .ne 6, 3) := by decide +kernel
theorem dX9_beats_13 : decode cX9_beats 13 = .ok (.bipush (-2), 2) := by decide +kernel
theorem dX9_beats_15 : decode cX9_beats 15 = .ok (.ireturn, 1) := by decide +kernel
theorem dX9_beats_16 : decode cX9_beats 16 = .ok (.aload_n 0, 1) := by decide +kernel
theorem dX9_beats_17 : decode cX9_beats 17 = .ok (.invokevirtual 161, 3) := by decide +kernel
theorem dX9_beats_20 : decode cX9_beats 20 = .ok (.aload_n 0, 1) := by decide +kernel
theorem dX9_beats_21 : decode cX9_beats 21 = .ok (.getfield 29, 3) := by decide +kernel
theorem dX9_beats_24 : decode cX9_beats 24 = .ok (.bipush 12, 2) := by decide +kernel
theorem dX9_beats_26 : decode cX9_beats 26 = .ok (.iaload, 1) := by decide +kernel
theorem dX9_beats_27 : decode cX9_beats 27 = .ok (.invokestatic 164, 3) := by decide +kernel
theorem dX9_beats_30 : decode cX9_beats 30 = .ok (.istore_n 1, 1) := by decide +kernel
theorem dX9_beats_31 : decode cX9_beats 31 = .ok (.aload_n 0, 1) := by decide +kernel
theorem dX9_beats_32 : decode cX9_beats 32 = .ok (.iconst 0, 1) := by decide +kernel
theorem dX9_beats_33 : decode cX9_beats 33 = .ok (.invokevirtual 134, 3) := by decide +kernel
theorem dX9_beats_36 : decode cX9_beats 36 = .ok (.iload_n 1, 1) := by decide +kernel
theorem dX9_beats_37 : decode cX9_beats 37 = .ok (.aload_n 0, 1) := by decide +kernel
theorem dX9_beats_38 : decode cX9_beats 38 = .ok (.getfield 29, 3) := by decide +kernel
theorem dX9_beats_41 : decode cX9_beats 41 = .ok (.bipush 12, 2) := by decide +kernel
theorem dX9_beats_43 : decode cX9_beats 43 = .ok (.iaload, 1) := by decide +kernel
theorem dX9_beats_44 : decode cX9_beats 44 = .ok (.invokestatic 164, 3) := by decide +kernel
theorem dX9_beats_47 : decode cX9_beats 47 = .ok (.isub, 1) := by decide +kernel
theorem dX9_beats_48 : decode cX9_beats 48 = .ok (.ireturn, 1) := by decide +kernel
theorem dX9_whipped_0 : decode cX9_whipped 0 = .ok (.aload_n 0, 1) := by decide +kernel
theorem dX9_whipped_1 : decode cX9_whipped 1 = .ok (.getfield 29, 3) := by decide +kernel
theorem dX9_whipped_4 : decode cX9_whipped 4 = .ok (.iload_n 1, 1) := by decide +kernel
theorem dX9_whipped_5 : decode cX9_whipped 5 = .ok (.bipush 6, 2) := by decide +kernel
theorem dX9_whipped_7 : decode cX9_whipped 7 = .ok (.iadd, 1) := by decide +kernel
theorem dX9_whipped_8 : decode cX9_whipped 8 = .ok (.iload_n 2, 1) := by decide +kernel
theorem dX9_whipped_9 : decode cX9_whipped 9 = .ok (.iadd, 1) := by decide +kernel
theorem dX9_whipped_10 : decode cX9_whipped 10 = .ok (.aload_n 0, 1) := by decide +kernel
theorem dX9_whipped_11 : decode cX9_whipped 11 = .ok (.getfield 29, 3) := by decide +kernel
theorem dX9_whipped_14 : decode cX9_whipped 14 = .ok (.iload_n 1, 1) := by decide +kernel
theorem dX9_whipped_15 : decode cX9_whipped 15 = .ok (.bipush 6, 2) := by decide +kernel
theorem dX9_whipped_17 : decode cX9_whipped 17 = .ok (.iadd, 1) := by decide +kernel
theorem dX9_whipped_18 : decode cX9_whipped 18 = .ok (.iload_n 2, 1) := by decide +kernel
theorem dX9_whipped_19 : decode cX9_whipped 19 = .ok (.iadd, 1) := by decide +kernel
theorem dX9_whipped_20 : decode cX9_whipped 20 = .ok (.iaload, 1) := by decide +kernel
theorem dX9_whipped_21 : decode cX9_whipped 21 = .ok (.iload_n 3, 1) := by decide +kernel
theorem dX9_whipped_22 : decode cX9_whipped 22 = .ok (.iadd, 1) := by decide +kernel
theorem dX9_whipped_23 : decode cX9_whipped 23 = .ok (.bipush 60, 2) := by decide +kernel
theorem dX9_whipped_25 : decode cX9_whipped 25 = .ok (.if_icmp .le 8, 3) := by decide +kernel
theorem dX9_whipped_28 : decode cX9_whipped 28 = .ok (.bipush 60, 2) := by decide +kernel
theorem dX9_whipped_30 : decode cX9_whipped 30 = .ok (.goto 16, 3) := by decide +kernel
theorem dX9_whipped_33 : decode cX9_whipped 33 = .ok (.aload_n 0, 1) := by decide +kernel
theorem dX9_whipped_34 : decode cX9_whipped 34 = .ok (.getfield 29, 3) := by decide +kernel
theorem dX9_whipped_37 : decode cX9_whipped 37 = .ok (.iload_n 1, 1) := by decide +kernel
theorem dX9_whipped_38 : decode cX9_whipped 38 = .ok (.bipush 6, 2) := by decide +kernel
theorem dX9_whipped_40 : decode cX9_whipped 40 = .ok (.iadd, 1) := by decide +kernel
theorem dX9_whipped_41 : decode cX9_whipped 41 = .ok (.iload_n 2, 1) := by decide +kernel
theorem dX9_whipped_42 : decode cX9_whipped 42 = .ok (.iadd, 1) := by decide +kernel
theorem dX9_whipped_43 : decode cX9_whipped 43 = .ok (.iaload, 1) := by decide +kernel
theorem dX9_whipped_44 : decode cX9_whipped 44 = .ok (.iload_n 3, 1) := by decide +kernel
theorem dX9_whipped_45 : decode cX9_whipped 45 = .ok (.iadd, 1) := by decide +kernel
theorem dX9_whipped_46 : decode cX9_whipped 46 = .ok (.iastore, 1) := by decide +kernel
theorem dX9_whipped_47 : decode cX9_whipped 47 = .ok (.return_, 1) := by decide +kernel
theorem dX9_whips_0 : decode cX9_whips 0 = .ok (.aload_n 0, 1) := by decide +kernel
theorem dX9_whips_1 : decode cX9_whips 1 = .ok (.iload_n 1, 1) := by decide +kernel
theorem dX9_whips_2 : decode cX9_whips 2 = .ok (.invokevirtual 148, 3) := by decide +kernel
theorem dX9_whips_5 : decode cX9_whips 5 = .ok (.ifCond .eq 15, 3) := by decide +kernel
theorem dX9_whips_8 : decode cX9_whips 8 = .ok (.iload_n 2, 1) := by decide +kernel
theorem dX9_whips_9 : decode cX9_whips 9 = .ok (.i2l, 1) := by decide +kernel
theorem dX9_whips_10 : decode cX9_whips 10 = .ok (.lconst 1, 1) := by decide +kernel
theorem dX9_whips_11 : decode cX9_whips 11 = .ok (.ldc2_w 167, 3) := by decide +kernel
theorem dX9_whips_14 : decode cX9_whips 14 = .ok (.invokestatic 50, 3) := by decide +kernel
theorem dX9_whips_17 : decode cX9_whips 17 = .ok (.ifCond .ne 5, 3) := by decide +kernel
theorem dX9_whips_20 : decode cX9_whips 20 = .ok (.iconst (-1), 1) := by decide +kernel
theorem dX9_whips_21 : decode cX9_whips 21 = .ok (.ireturn, 1) := by decide +kernel
theorem dX9_whips_22 : decode cX9_whips 22 = .ok (.aload_n 0, 1) := by decide +kernel
theorem dX9_whips_23 : decode cX9_whips 23 = .ok (.iload_n 1, 1) := by decide +kernel
theorem dX9_whips_24 : decode cX9_whips 24 = .ok (.invokevirtual 138, 3) := by decide +kernel
theorem dX9_whips_27 : decode cX9_whips 27 = .ok (.ifCond .ne 6, 3) := by decide +kernel
theorem dX9_whips_30 : decode cX9_whips 30 = .ok (.bipush (-2), 2) := by decide +kernel
theorem dX9_whips_32 : decode cX9_whips 32 = .ok (.ireturn, 1) := by decide +kernel
theorem dX9_whips_33 : decode cX9_whips 33 = .ok (.aload_n 0, 1) := by decide +kernel
theorem dX9_whips_34 : decode cX9_whips 34 = .ok (.invokevirtual 161, 3) := by decide +kernel
theorem dX9_whips_37 : decode cX9_whips 37 = .ok (.aload_n 0, 1) := by decide +kernel
theorem dX9_whips_38 : decode cX9_whips 38 = .ok (.iconst 0, 1) := by decide +kernel
theorem dX9_whips_39 : decode cX9_whips 39 = .ok (.iload_n 1, 1) := by decide +kernel
theorem dX9_whips_40 : decode cX9_whips 40 = .ok (.iload_n 2, 1) := by decide +kernel
theorem dX9_whips_41 : decode cX9_whips 41 = .ok (.invokevirtual 169, 3) := by decide +kernel
theorem dX9_whips_44 : decode cX9_whips 44 = .ok (.aload_n 0, 1) := by decide +kernel
theorem dX9_whips_45 : decode cX9_whips 45 = .ok (.getfield 29, 3) := by decide +kernel
theorem dX9_whips_48 : decode cX9_whips 48 = .ok (.bipush 6, 2) := by decide +kernel
theorem dX9_whips_50 : decode cX9_whips 50 = .ok (.iload_n 1, 1) := by decide +kernel
theorem dX9_whips_51 : decode cX9_whips 51 = .ok (.iadd, 1) := by decide +kernel
theorem dX9_whips_52 : decode cX9_whips 52 = .ok (.iaload, 1) := by decide +kernel
theorem dX9_whips_53 : decode cX9_whips 53 = .ok (.ireturn, 1) := by decide +kernel
theorem dX9_tilts_0 : decode cX9_tilts 0 = .ok (.iload_n 1, 1) := by decide +kernel
theorem dX9_tilts_1 : decode cX9_tilts 1 = .ok (.i2l, 1) := by decide +kernel
theorem dX9_tilts_2 : decode cX9_tilts 2 = .ok (.lconst 0, 1) := by decide +kernel
theorem dX9_tilts_3 : decode cX9_tilts 3 = .ok (.ldc2_w 173, 3) := by decide +kernel
theorem dX9_tilts_6 : decode cX9_tilts 6 = .ok (.invokestatic 50, 3) := by decide +kernel
theorem dX9_tilts_9 : decode cX9_tilts 9 = .ok (.ifCond .ne 5, 3) := by decide +kernel
theorem dX9_tilts_12 : decode cX9_tilts 12 = .ok (.iconst (-1), 1) := by decide +kernel
theorem dX9_tilts_13 : decode cX9_tilts 13 = .ok (.ireturn, 1) := by decide +kernel
theorem dX9_tilts_14 : decode cX9_tilts 14 = .ok (.aload_n 0, 1) := by decide +kernel
theorem dX9_tilts_15 : decode cX9_tilts 15 = .ok (.getfield 29, 3) := by decide +kernel
theorem dX9_tilts_18 : decode cX9_tilts 18 = .ok (.bipush 14, 2) := by decide +kernel
theorem dX9_tilts_20 : decode cX9_tilts 20 = .ok (.iaload, 1) := by decide +kernel
theorem dX9_tilts_21 : decode cX9_tilts 21 = .ok (.iload_n 1, 1) := by decide +kernel
theorem dX9_tilts_22 : decode cX9_tilts 22 = .ok (.if_icmp .ne 6, 3) := by decide +kernel
theorem dX9_tilts_25 : decode cX9_tilts 25 = .ok (.bipush (-2), 2) := by decide +kernel
theorem dX9_tilts_27 : decode cX9_tilts 27 = .ok (.ireturn, 1) := by decide +kernel
theorem dX9_tilts_28 : decode cX9_tilts 28 = .ok (.aload_n 0, 1) := by decide +kernel
theorem dX9_tilts_29 : decode cX9_tilts 29 = .ok (.invokevirtual 161, 3) := by decide +kernel
theorem dX9_tilts_32 : decode cX9_tilts 32 = .ok (.aload_n 0, 1) := by decide +kernel
theorem dX9_tilts_33 : decode cX9_tilts 33 = .ok (.getfield 29, 3) := by decide +kernel
theorem dX9_tilts_36 : decode cX9_tilts 36 = .ok (.bipush 14, 2) := by decide +kernel
theorem dX9_tilts_38 : decode cX9_tilts 38 = .ok (.iaload, 1) := by decide +kernel
theorem dX9_tilts_39 : decode cX9_tilts 39 = .ok (.istore_n 2, 1) := by decide +kernel
theorem dX9_tilts_40 : decode cX9_tilts 40 = .ok (.aload_n 0, 1) := by decide +kernel
theorem dX9_tilts_41 : decode cX9_tilts 41 = .ok (.getfield 29, 3) := by decide +kernel
theorem dX9_tilts_44 : decode cX9_tilts 44 = .ok (.bipush 14, 2) := by decide +kernel
theorem dX9_tilts_46 : decode cX9_tilts 46 = .ok (.iload_n 1, 1) := by decide +kernel
theorem dX9_tilts_47 : decode cX9_tilts 47 = .ok (.iastore, 1) := by decide +kernel
theorem dX9_tilts_48 : decode cX9_tilts 48 = .ok (.iload_n 2, 1) := by decide +kernel
theorem dX9_tilts_49 : decode cX9_tilts 49 = .ok (.ireturn, 1) := by decide +kernel
theorem dX9_sets_0 : decode cX9_sets 0 = .ok (.aload_n 0, 1) := by decide +kernel
theorem dX9_sets_1 : decode cX9_sets 1 = .ok (.iload_n 1, 1) := by decide +kernel
theorem dX9_sets_2 : decode cX9_sets 2 = .ok (.invokevirtual 148, 3) := by decide +kernel
theorem dX9_sets_5 : decode cX9_sets 5 = .ok (.ifCond .eq 19, 3) := by decide +kernel
theorem dX9_sets_8 : decode cX9_sets 8 = .ok (.iload_n 2, 1) := by decide +kernel
theorem dX9_sets_9 : decode cX9_sets 9 = .ok (.i2l, 1) := by decide +kernel
theorem dX9_sets_10 : decode cX9_sets 10 = .ok (.lconst 0, 1) := by decide +kernel
theorem dX9_sets_11 : decode cX9_sets 11 = .ok (.aload_n 0, 1) := by decide +kernel
theorem dX9_sets_12 : decode cX9_sets 12 = .ok (.getfield 7, 3) := by decide +kernel
theorem dX9_sets_15 : decode cX9_sets 15 = .ok (.iconst 1, 1) := by decide +kernel
theorem dX9_sets_16 : decode cX9_sets 16 = .ok (.isub, 1) := by decide +kernel
theorem dX9_sets_17 : decode cX9_sets 17 = .ok (.i2l, 1) := by decide +kernel
theorem dX9_sets_18 : decode cX9_sets 18 = .ok (.invokestatic 50, 3) := by decide +kernel
theorem dX9_sets_21 : decode cX9_sets 21 = .ok (.ifCond .ne 5, 3) := by decide +kernel
theorem dX9_sets_24 : decode cX9_sets 24 = .ok (.iconst (-1), 1) := by decide +kernel
theorem dX9_sets_25 : decode cX9_sets 25 = .ok (.ireturn, 1) := by decide +kernel
theorem dX9_sets_26 : decode cX9_sets 26 = .ok (.aload_n 0, 1) := by decide +kernel
theorem dX9_sets_27 : decode cX9_sets 27 = .ok (.iload_n 1, 1) := by decide +kernel
theorem dX9_sets_28 : decode cX9_sets 28 = .ok (.invokevirtual 138, 3) := by decide +kernel
theorem dX9_sets_31 : decode cX9_sets 31 = .ok (.ifCond .eq 14, 3) := by decide +kernel
theorem dX9_sets_34 : decode cX9_sets 34 = .ok (.aload_n 0, 1) := by decide +kernel
theorem dX9_sets_35 : decode cX9_sets 35 = .ok (.iconst 0, 1) := by decide +kernel
theorem dX9_sets_36 : decode cX9_sets 36 = .ok (.iload_n 2, 1) := by decide +kernel
theorem dX9_sets_37 : decode cX9_sets 37 = .ok (.bipush (-9), 2) := by decide +kernel
theorem dX9_sets_39 : decode cX9_sets 39 = .ok (.invokevirtual 121, 3) := by decide +kernel
theorem dX9_sets_42 : decode cX9_sets 42 = .ok (.ifCond .lt 6, 3) := by decide +kernel
theorem dX9_sets_45 : decode cX9_sets 45 = .ok (.bipush (-2), 2) := by decide +kernel
theorem dX9_sets_47 : decode cX9_sets 47 = .ok (.ireturn, 1) := by decide +kernel
theorem dX9_sets_48 : decode cX9_sets 48 = .ok (.aload_n 0, 1) := by decide +kernel
theorem dX9_sets_49 : decode cX9_sets 49 = .ok (.invokevirtual 161, 3) := by decide +kernel
theorem dX9_sets_52 : decode cX9_sets 52 = .ok (.aload_n 0, 1) := by decide +kernel
theorem dX9_sets_53 : decode cX9_sets 53 = .ok (.getfield 29, 3) := by decide +kernel
theorem dX9_sets_56 : decode cX9_sets 56 = .ok (.iload_n 1, 1) := by decide +kernel
theorem dX9_sets_57 : decode cX9_sets 57 = .ok (.iaload, 1) := by decide +kernel
theorem dX9_sets_58 : decode cX9_sets 58 = .ok (.istore_n 3, 1) := by decide +kernel
theorem dX9_sets_59 : decode cX9_sets 59 = .ok (.aload_n 0, 1) := by decide +kernel
theorem dX9_sets_60 : decode cX9_sets 60 = .ok (.getfield 29, 3) := by decide +kernel
theorem dX9_sets_63 : decode cX9_sets 63 = .ok (.iload_n 1, 1) := by decide +kernel
theorem dX9_sets_64 : decode cX9_sets 64 = .ok (.iload_n 2, 1) := by decide +kernel
theorem dX9_sets_65 : decode cX9_sets 65 = .ok (.iastore, 1) := by decide +kernel
theorem dX9_sets_66 : decode cX9_sets 66 = .ok (.iload_n 3, 1) := by decide +kernel
theorem dX9_sets_67 : decode cX9_sets 67 = .ok (.ireturn, 1) := by decide +kernel
theorem dX9_undo_0 : decode cX9_undo 0 = .ok (.aload_n 0, 1) := by decide +kernel
theorem dX9_undo_1 : decode cX9_undo 1 = .ok (.getfield 111, 3) := by decide +kernel
theorem dX9_undo_4 : decode cX9_undo 4 = .ok (.ifCond .ne 6, 3) := by decide +kernel
theorem dX9_undo_7 : decode cX9_undo 7 = .ok (.bipush (-2), 2) := by decide +kernel
theorem dX9_undo_9 : decode cX9_undo 9 = .ok (.ireturn, 1) := by decide +kernel
theorem dX9_undo_10 : decode cX9_undo 10 = .ok (.aload_n 0, 1) := by decide +kernel
theorem dX9_undo_11 : decode cX9_undo 11 = .ok (.aload_n 0, 1) := by decide +kernel
theorem dX9_undo_12 : decode cX9_undo 12 = .ok (.getfield 111, 3) := by decide +kernel
theorem dX9_undo_15 : decode cX9_undo 15 = .ok (.bipush 15, 2) := by decide +kernel
theorem dX9_undo_17 : decode cX9_undo 17 = .ok (.imul, 1) := by decide +kernel
theorem dX9_undo_18 : decode cX9_undo 18 = .ok (.iconst 0, 1) := by decide +kernel
theorem dX9_undo_19 : decode cX9_undo 19 = .ok (.invokevirtual 131, 3) := by decide +kernel
theorem dX9_undo_22 : decode cX9_undo 22 = .ok (.aload_n 0, 1) := by decide +kernel
theorem dX9_undo_23 : decode cX9_undo 23 = .ok (.dup, 1) := by decide +kernel
theorem dX9_undo_24 : decode cX9_undo 24 = .ok (.getfield 111, 3) := by decide +kernel
theorem dX9_undo_27 : decode cX9_undo 27 = .ok (.iconst 1, 1) := by decide +kernel
theorem dX9_undo_28 : decode cX9_undo 28 = .ok (.isub, 1) := by decide +kernel
theorem dX9_undo_29 : decode cX9_undo 29 = .ok (.putfield 111, 3) := by decide +kernel
theorem dX9_undo_32 : decode cX9_undo 32 = .ok (.aload_n 0, 1) := by decide +kernel
theorem dX9_undo_33 : decode cX9_undo 33 = .ok (.getfield 111, 3) := by decide +kernel
theorem dX9_undo_36 : decode cX9_undo 36 = .ok (.ireturn, 1) := by decide +kernel
theorem dX9_standBehind_0 : decode cX9_standBehind 0 = .ok (.iconst 0, 1) := by decide +kernel
theorem dX9_standBehind_1 : decode cX9_standBehind 1 = .ok (.istore_n 2, 1) := by decide +kernel
theorem dX9_standBehind_2 : decode cX9_standBehind 2 = .ok (.iload_n 2, 1) := by decide +kernel
theorem dX9_standBehind_3 : decode cX9_standBehind 3 = .ok (.iload_n 1, 1) := by decide +kernel
theorem dX9_standBehind_4 : decode cX9_standBehind 4 = .ok (.if_icmp .ge 16, 3) := by decide +kernel
theorem dX9_standBehind_7 : decode cX9_standBehind 7 = .ok (.aload_n 0, 1) := by decide +kernel
theorem dX9_standBehind_8 : decode cX9_standBehind 8 = .ok (.sipush 195, 3) := by decide +kernel
theorem dX9_standBehind_11 : decode cX9_standBehind 11 = .ok (.invokevirtual 134, 3) := by decide +kernel
theorem dX9_standBehind_14 : decode cX9_standBehind 14 = .ok (.iinc 2 1, 3) := by decide +kernel
theorem dX9_standBehind_17 : decode cX9_standBehind 17 = .ok (.goto (-15), 3) := by decide +kernel
theorem dX9_standBehind_20 : decode cX9_standBehind 20 = .ok (.aload_n 0, 1) := by decide +kernel
theorem dX9_standBehind_21 : decode cX9_standBehind 21 = .ok (.getfield 29, 3) := by decide +kernel
theorem dX9_standBehind_24 : decode cX9_standBehind 24 = .ok (.sipush 207, 3) := by decide +kernel
theorem dX9_standBehind_27 : decode cX9_standBehind 27 = .ok (.iaload, 1) := by decide +kernel
theorem dX9_standBehind_28 : decode cX9_standBehind 28 = .ok (.ireturn, 1) := by decide +kernel
theorem dX9_stand_0 : decode cX9_stand 0 = .ok (.iload_n 1, 1) := by decide +kernel
theorem dX9_stand_1 : decode cX9_stand 1 = .ok (.i2l, 1) := by decide +kernel
theorem dX9_stand_2 : decode cX9_stand 2 = .ok (.lconst 0, 1) := by decide +kernel
theorem dX9_stand_3 : decode cX9_stand 3 = .ok (.ldc2_w 175, 3) := by decide +kernel
theorem dX9_stand_6 : decode cX9_stand 6 = .ok (.invokestatic 50, 3) := by decide +kernel
theorem dX9_stand_9 : decode cX9_stand 9 = .ok (.ifCond .ne 5, 3) := by decide +kernel
theorem dX9_stand_12 : decode cX9_stand 12 = .ok (.iconst (-1), 1) := by decide +kernel
theorem dX9_stand_13 : decode cX9_stand 13 = .ok (.ireturn, 1) := by decide +kernel
theorem dX9_stand_14 : decode cX9_stand 14 = .ok (.aload_n 0, 1) := by decide +kernel
theorem dX9_stand_15 : decode cX9_stand 15 = .ok (.iconst 0, 1) := by decide +kernel
theorem dX9_stand_16 : decode cX9_stand 16 = .ok (.sipush 195, 3) := by decide +kernel
theorem dX9_stand_19 : decode cX9_stand 19 = .ok (.invokevirtual 131, 3) := by decide +kernel
theorem dX9_stand_22 : decode cX9_stand 22 = .ok (.aload_n 0, 1) := by decide +kernel
theorem dX9_stand_23 : decode cX9_stand 23 = .ok (.iload_n 1, 1) := by decide +kernel
theorem dX9_stand_24 : decode cX9_stand 24 = .ok (.invokevirtual 177, 3) := by decide +kernel
theorem dX9_stand_27 : decode cX9_stand 27 = .ok (.ireturn, 1) := by decide +kernel
theorem dX9_whip_0 : decode cX9_whip 0 = .ok (.iload_n 1, 1) := by decide +kernel
theorem dX9_whip_1 : decode cX9_whip 1 = .ok (.i2l, 1) := by decide +kernel
theorem dX9_whip_2 : decode cX9_whip 2 = .ok (.lconst 1, 1) := by decide +kernel
theorem dX9_whip_3 : decode cX9_whip 3 = .ok (.ldc2_w 167, 3) := by decide +kernel
theorem dX9_whip_6 : decode cX9_whip 6 = .ok (.invokestatic 50, 3) := by decide +kernel
theorem dX9_whip_9 : decode cX9_whip 9 = .ok (.ifCond .eq 15, 3) := by decide +kernel
theorem dX9_whip_12 : decode cX9_whip 12 = .ok (.iload_n 2, 1) := by decide +kernel
theorem dX9_whip_13 : decode cX9_whip 13 = .ok (.i2l, 1) := by decide +kernel
theorem dX9_whip_14 : decode cX9_whip 14 = .ok (.lconst 0, 1) := by decide +kernel
theorem dX9_whip_15 : decode cX9_whip 15 = .ok (.ldc2_w 175, 3) := by decide +kernel
theorem dX9_whip_18 : decode cX9_whip 18 = .ok (.invokestatic 50, 3) := by decide +kernel
theorem dX9_whip_21 : decode cX9_whip 21 = .ok (.ifCond .ne 5, 3) := by decide +kernel
theorem dX9_whip_24 : decode cX9_whip 24 = .ok (.iconst (-1), 1) := by decide +kernel
theorem dX9_whip_25 : decode cX9_whip 25 = .ok (.ireturn, 1) := by decide +kernel
theorem dX9_whip_26 : decode cX9_whip 26 = .ok (.bipush (-9), 2) := by decide +kernel
theorem dX9_whip_28 : decode cX9_whip 28 = .ok (.istore_n 3, 1) := by decide +kernel
theorem dX9_whip_29 : decode cX9_whip 29 = .ok (.iconst (-1), 1) := by decide +kernel
theorem dX9_whip_30 : decode cX9_whip 30 = .ok (.istore 4, 2) := by decide +kernel
theorem dX9_whip_32 : decode cX9_whip 32 = .ok (.iconst 0, 1) := by decide +kernel
theorem dX9_whip_33 : decode cX9_whip 33 = .ok (.istore 5, 2) := by decide +kernel
theorem dX9_whip_35 : decode cX9_whip 35 = .ok (.iload 5, 2) := by decide +kernel
theorem dX9_whip_37 : decode cX9_whip 37 = .ok (.aload_n 0, 1) := by decide +kernel
theorem dX9_whip_38 : decode cX9_whip 38 = .ok (.getfield 108, 3) := by decide +kernel
theorem dX9_whip_41 : decode cX9_whip 41 = .ok (.if_icmp .ge 69, 3) := by decide +kernel
theorem dX9_whip_44 : decode cX9_whip 44 = .ok (.aload_n 0, 1) := by decide +kernel
theorem dX9_whip_45 : decode cX9_whip 45 = .ok (.iload 5, 2) := by decide +kernel
theorem dX9_whip_47 : decode cX9_whip 47 = .ok (.invokevirtual 138, 3) := by decide +kernel
theorem dX9_whip_50 : decode cX9_whip 50 = .ok (.ifCond .eq 54, 3) := by decide +kernel
theorem dX9_whip_53 : decode cX9_whip 53 = .ok (.aload_n 0, 1) := by decide +kernel
theorem dX9_whip_54 : decode cX9_whip 54 = .ok (.iconst 0, 1) := by decide +kernel
theorem dX9_whip_55 : decode cX9_whip 55 = .ok (.sipush 195, 3) := by decide +kernel
theorem dX9_whip_58 : decode cX9_whip 58 = .ok (.invokevirtual 131, 3) := by decide +kernel
theorem dX9_whip_61 : decode cX9_whip 61 = .ok (.aload_n 0, 1) := by decide +kernel
theorem dX9_whip_62 : decode cX9_whip 62 = .ok (.sipush 195, 3) := by decide +kernel
theorem dX9_whip_65 : decode cX9_whip 65 = .ok (.iload 5, 2) := by decide +kernel
theorem dX9_whip_67 : decode cX9_whip 67 = .ok (.iload_n 1, 1) := by decide +kernel
theorem dX9_whip_68 : decode cX9_whip 68 = .ok (.invokevirtual 169, 3) := by decide +kernel
theorem dX9_whip_71 : decode cX9_whip 71 = .ok (.aload_n 0, 1) := by decide +kernel
theorem dX9_whip_72 : decode cX9_whip 72 = .ok (.iload_n 2, 1) := by decide +kernel
theorem dX9_whip_73 : decode cX9_whip 73 = .ok (.invokevirtual 177, 3) := by decide +kernel
theorem dX9_whip_76 : decode cX9_whip 76 = .ok (.invokestatic 164, 3) := by decide +kernel
theorem dX9_whip_79 : decode cX9_whip 79 = .ok (.istore 6, 2) := by decide +kernel
theorem dX9_whip_81 : decode cX9_whip 81 = .ok (.iload 6, 2) := by decide +kernel
theorem dX9_whip_83 : decode cX9_whip 83 = .ok (.iload 4, 2) := by decide +kernel
theorem dX9_whip_85 : decode cX9_whip 85 = .ok (.if_icmp .le 8, 3) := by decide +kernel
theorem dX9_whip_88 : decode cX9_whip 88 = .ok (.iload 5, 2) := by decide +kernel
theorem dX9_whip_90 : decode cX9_whip 90 = .ok (.goto 4, 3) := by decide +kernel
theorem dX9_whip_93 : decode cX9_whip 93 = .ok (.iload_n 3, 1) := by decide +kernel
theorem dX9_whip_94 : decode cX9_whip 94 = .ok (.istore_n 3, 1) := by decide +kernel
theorem dX9_whip_95 : decode cX9_whip 95 = .ok (.iload 4, 2) := by decide +kernel
theorem dX9_whip_97 : decode cX9_whip 97 = .ok (.iload 6, 2) := by decide +kernel
theorem dX9_whip_99 : decode cX9_whip 99 = .ok (.invokestatic 145, 3) := by decide +kernel
theorem dX9_whip_102 : decode cX9_whip 102 = .ok (.istore 4, 2) := by decide +kernel
theorem dX9_whip_104 : decode cX9_whip 104 = .ok (.iinc 5 1, 3) := by decide +kernel
theorem dX9_whip_107 : decode cX9_whip 107 = .ok (.goto (-72), 3) := by decide +kernel
theorem dX9_whip_110 : decode cX9_whip 110 = .ok (.iload_n 3, 1) := by decide +kernel
theorem dX9_whip_111 : decode cX9_whip 111 = .ok (.ireturn, 1) := by decide +kernel
theorem dX9_row_0 : decode cX9_row 0 = .ok (.iload_n 1, 1) := by decide +kernel
theorem dX9_row_1 : decode cX9_row 1 = .ok (.i2l, 1) := by decide +kernel
theorem dX9_row_2 : decode cX9_row 2 = .ok (.lconst 0, 1) := by decide +kernel
theorem dX9_row_3 : decode cX9_row 3 = .ok (.ldc2_w 153, 3) := by decide +kernel
theorem dX9_row_6 : decode cX9_row 6 = .ok (.invokestatic 50, 3) := by decide +kernel
theorem dX9_row_9 : decode cX9_row 9 = .ok (.ifCond .eq 17, 3) := by decide +kernel
theorem dX9_row_12 : decode cX9_row 12 = .ok (.iload_n 2, 1) := by decide +kernel
theorem dX9_row_13 : decode cX9_row 13 = .ok (.i2l, 1) := by decide +kernel
theorem dX9_row_14 : decode cX9_row 14 = .ok (.ldc2_w 180, 3) := by decide +kernel
theorem dX9_row_17 : decode cX9_row 17 = .ok (.ldc2_w 151, 3) := by decide +kernel
theorem dX9_row_20 : decode cX9_row 20 = .ok (.invokestatic 50, 3) := by decide +kernel
theorem dX9_row_23 : decode cX9_row 23 = .ok (.ifCond .ne 5, 3) := by decide +kernel
theorem dX9_row_26 : decode cX9_row 26 = .ok (.iconst (-1), 1) := by decide +kernel
theorem dX9_row_27 : decode cX9_row 27 = .ok (.ireturn, 1) := by decide +kernel
theorem dX9_row_28 : decode cX9_row 28 = .ok (.iconst 1, 1) := by decide +kernel
theorem dX9_row_29 : decode cX9_row 29 = .ok (.istore_n 3, 1) := by decide +kernel
theorem dX9_row_30 : decode cX9_row 30 = .ok (.iconst 0, 1) := by decide +kernel
theorem dX9_row_31 : decode cX9_row 31 = .ok (.istore 4, 2) := by decide +kernel
theorem dX9_row_33 : decode cX9_row 33 = .ok (.iload 4, 2) := by decide +kernel
theorem dX9_row_35 : decode cX9_row 35 = .ok (.iload_n 1, 1) := by decide +kernel
theorem dX9_row_36 : decode cX9_row 36 = .ok (.if_icmp .ge 13, 3) := by decide +kernel
theorem dX9_row_39 : decode cX9_row 39 = .ok (.iload_n 3, 1) := by decide +kernel
theorem dX9_row_40 : decode cX9_row 40 = .ok (.iconst 3, 1) := by decide +kernel
theorem dX9_row_41 : decode cX9_row 41 = .ok (.imul, 1) := by decide +kernel
theorem dX9_row_42 : decode cX9_row 42 = .ok (.istore_n 3, 1) := by decide +kernel
theorem dX9_row_43 : decode cX9_row 43 = .ok (.iinc 4 1, 3) := by decide +kernel
theorem dX9_row_46 : decode cX9_row 46 = .ok (.goto (-13), 3) := by decide +kernel
theorem dX9_row_49 : decode cX9_row 49 = .ok (.iconst 0, 1) := by decide +kernel
theorem dX9_row_50 : decode cX9_row 50 = .ok (.istore 4, 2) := by decide +kernel
theorem dX9_row_52 : decode cX9_row 52 = .ok (.iconst (-1), 1) := by decide +kernel
theorem dX9_row_53 : decode cX9_row 53 = .ok (.istore 5, 2) := by decide +kernel
theorem dX9_row_55 : decode cX9_row 55 = .ok (.iconst 0, 1) := by decide +kernel
theorem dX9_row_56 : decode cX9_row 56 = .ok (.istore 6, 2) := by decide +kernel
theorem dX9_row_58 : decode cX9_row 58 = .ok (.iload 6, 2) := by decide +kernel
theorem dX9_row_60 : decode cX9_row 60 = .ok (.iload_n 3, 1) := by decide +kernel
theorem dX9_row_61 : decode cX9_row 61 = .ok (.if_icmp .ge 101, 3) := by decide +kernel
theorem dX9_row_64 : decode cX9_row 64 = .ok (.aload_n 0, 1) := by decide +kernel
theorem dX9_row_65 : decode cX9_row 65 = .ok (.iconst 0, 1) := by decide +kernel
theorem dX9_row_66 : decode cX9_row 66 = .ok (.sipush 195, 3) := by decide +kernel
theorem dX9_row_69 : decode cX9_row 69 = .ok (.invokevirtual 131, 3) := by decide +kernel
theorem dX9_row_72 : decode cX9_row 72 = .ok (.iload_n 3, 1) := by decide +kernel
theorem dX9_row_73 : decode cX9_row 73 = .ok (.istore 7, 2) := by decide +kernel
theorem dX9_row_75 : decode cX9_row 75 = .ok (.iconst 0, 1) := by decide +kernel
theorem dX9_row_76 : decode cX9_row 76 = .ok (.istore 8, 2) := by decide +kernel
theorem dX9_row_78 : decode cX9_row 78 = .ok (.iload 8, 2) := by decide +kernel
theorem dX9_row_80 : decode cX9_row 80 = .ok (.iload_n 1, 1) := by decide +kernel
theorem dX9_row_81 : decode cX9_row 81 = .ok (.if_icmp .ge 37, 3) := by decide +kernel
theorem dX9_row_84 : decode cX9_row 84 = .ok (.iload 7, 2) := by decide +kernel
theorem dX9_row_86 : decode cX9_row 86 = .ok (.iconst 3, 1) := by decide +kernel
theorem dX9_row_87 : decode cX9_row 87 = .ok (.idiv, 1) := by decide +kernel
theorem dX9_row_88 : decode cX9_row 88 = .ok (.istore 7, 2) := by decide +kernel
theorem dX9_row_90 : decode cX9_row 90 = .ok (.aload_n 0, 1) := by decide +kernel
theorem dX9_row_91 : decode cX9_row 91 = .ok (.getfield 29, 3) := by decide +kernel
theorem dX9_row_94 : decode cX9_row 94 = .ok (.sipush 209, 3) := by decide +kernel
theorem dX9_row_97 : decode cX9_row 97 = .ok (.iload 6, 2) := by decide +kernel
theorem dX9_row_99 : decode cX9_row 99 = .ok (.iload 7, 2) := by decide +kernel
theorem dX9_row_101 : decode cX9_row 101 = .ok (.idiv, 1) := by decide +kernel
theorem dX9_row_102 : decode cX9_row 102 = .ok (.iconst 3, 1) := by decide +kernel
theorem dX9_row_103 : decode cX9_row 103 = .ok (.irem, 1) := by decide +kernel
theorem dX9_row_104 : decode cX9_row 104 = .ok (.iastore, 1) := by decide +kernel
theorem dX9_row_105 : decode cX9_row 105 = .ok (.aload_n 0, 1) := by decide +kernel
theorem dX9_row_106 : decode cX9_row 106 = .ok (.sipush 195, 3) := by decide +kernel
theorem dX9_row_109 : decode cX9_row 109 = .ok (.invokevirtual 134, 3) := by decide +kernel
theorem dX9_row_112 : decode cX9_row 112 = .ok (.iinc 8 1, 3) := by decide +kernel
theorem dX9_row_115 : decode cX9_row 115 = .ok (.goto (-37), 3) := by decide +kernel
theorem dX9_row_118 : decode cX9_row 118 = .ok (.aload_n 0, 1) := by decide +kernel
theorem dX9_row_119 : decode cX9_row 119 = .ok (.getfield 29, 3) := by decide +kernel
theorem dX9_row_122 : decode cX9_row 122 = .ok (.sipush 207, 3) := by decide +kernel
theorem dX9_row_125 : decode cX9_row 125 = .ok (.iaload, 1) := by decide +kernel
theorem dX9_row_126 : decode cX9_row 126 = .ok (.invokestatic 164, 3) := by decide +kernel
theorem dX9_row_129 : decode cX9_row 129 = .ok (.istore 8, 2) := by decide +kernel
theorem dX9_row_131 : decode cX9_row 131 = .ok (.iload 8, 2) := by decide +kernel
theorem dX9_row_133 : decode cX9_row 133 = .ok (.iload 5, 2) := by decide +kernel
theorem dX9_row_135 : decode cX9_row 135 = .ok (.if_icmp .le 8, 3) := by decide +kernel
theorem dX9_row_138 : decode cX9_row 138 = .ok (.iload 6, 2) := by decide +kernel
theorem dX9_row_140 : decode cX9_row 140 = .ok (.goto 5, 3) := by decide +kernel
theorem dX9_row_143 : decode cX9_row 143 = .ok (.iload 4, 2) := by decide +kernel
theorem dX9_row_145 : decode cX9_row 145 = .ok (.istore 4, 2) := by decide +kernel
theorem dX9_row_147 : decode cX9_row 147 = .ok (.iload 5, 2) := by decide +kernel
theorem dX9_row_149 : decode cX9_row 149 = .ok (.iload 8, 2) := by decide +kernel
theorem dX9_row_151 : decode cX9_row 151 = .ok (.invokestatic 145, 3) := by decide +kernel
theorem dX9_row_154 : decode cX9_row 154 = .ok (.istore 5, 2) := by decide +kernel
theorem dX9_row_156 : decode cX9_row 156 = .ok (.iinc 6 1, 3) := by decide +kernel
theorem dX9_row_159 : decode cX9_row 159 = .ok (.goto (-101), 3) := by decide +kernel
theorem dX9_row_162 : decode cX9_row 162 = .ok (.iload_n 1, 1) := by decide +kernel
theorem dX9_row_163 : decode cX9_row 163 = .ok (.iconst 1, 1) := by decide +kernel
theorem dX9_row_164 : decode cX9_row 164 = .ok (.isub, 1) := by decide +kernel
theorem dX9_row_165 : decode cX9_row 165 = .ok (.istore 6, 2) := by decide +kernel
theorem dX9_row_167 : decode cX9_row 167 = .ok (.iload 6, 2) := by decide +kernel
theorem dX9_row_169 : decode cX9_row 169 = .ok (.iload_n 2, 1) := by decide +kernel
theorem dX9_row_170 : decode cX9_row 170 = .ok (.if_icmp .le 19, 3) := by decide +kernel
theorem dX9_row_173 : decode cX9_row 173 = .ok (.iload_n 2, 1) := by decide +kernel
theorem dX9_row_174 : decode cX9_row 174 = .ok (.ifCond .lt 15, 3) := by decide +kernel
theorem dX9_row_177 : decode cX9_row 177 = .ok (.iload 4, 2) := by decide +kernel
theorem dX9_row_179 : decode cX9_row 179 = .ok (.iconst 3, 1) := by decide +kernel
theorem dX9_row_180 : decode cX9_row 180 = .ok (.idiv, 1) := by decide +kernel
theorem dX9_row_181 : decode cX9_row 181 = .ok (.istore 4, 2) := by decide +kernel
theorem dX9_row_183 : decode cX9_row 183 = .ok (.iinc 6 (-1), 3) := by decide +kernel
theorem dX9_row_186 : decode cX9_row 186 = .ok (.goto (-19), 3) := by decide +kernel
theorem dX9_row_189 : decode cX9_row 189 = .ok (.iload_n 2, 1) := by decide +kernel
theorem dX9_row_190 : decode cX9_row 190 = .ok (.ifCond .ge 8, 3) := by decide +kernel
theorem dX9_row_193 : decode cX9_row 193 = .ok (.iload 5, 2) := by decide +kernel
theorem dX9_row_195 : decode cX9_row 195 = .ok (.goto 17, 3) := by decide +kernel
theorem dX9_row_198 : decode cX9_row 198 = .ok (.iload_n 2, 1) := by decide +kernel
theorem dX9_row_199 : decode cX9_row 199 = .ok (.iload_n 1, 1) := by decide +kernel
theorem dX9_row_200 : decode cX9_row 200 = .ok (.if_icmp .lt 8, 3) := by decide +kernel
theorem dX9_row_203 : decode cX9_row 203 = .ok (.bipush (-9), 2) := by decide +kernel
theorem dX9_row_205 : decode cX9_row 205 = .ok (.goto 7, 3) := by decide +kernel
theorem dX9_row_208 : decode cX9_row 208 = .ok (.iload 4, 2) := by decide +kernel
theorem dX9_row_210 : decode cX9_row 210 = .ok (.iconst 3, 1) := by decide +kernel
theorem dX9_row_211 : decode cX9_row 211 = .ok (.irem, 1) := by decide +kernel
theorem dX9_row_212 : decode cX9_row 212 = .ok (.ireturn, 1) := by decide +kernel
theorem dX9_odds_0 : decode cX9_odds 0 = .ok (.aload_n 0, 1) := by decide +kernel
theorem dX9_odds_1 : decode cX9_odds 1 = .ok (.iload_n 1, 1) := by decide +kernel
theorem dX9_odds_2 : decode cX9_odds 2 = .ok (.invokevirtual 148, 3) := by decide +kernel
theorem dX9_odds_5 : decode cX9_odds 5 = .ok (.ifCond .eq 38, 3) := by decide +kernel
theorem dX9_odds_8 : decode cX9_odds 8 = .ok (.iload_n 2, 1) := by decide +kernel
theorem dX9_odds_9 : decode cX9_odds 9 = .ok (.i2l, 1) := by decide +kernel
theorem dX9_odds_10 : decode cX9_odds 10 = .ok (.lconst 0, 1) := by decide +kernel
theorem dX9_odds_11 : decode cX9_odds 11 = .ok (.ldc2_w 182, 3) := by decide +kernel
theorem dX9_odds_14 : decode cX9_odds 14 = .ok (.invokestatic 50, 3) := by decide +kernel
theorem dX9_odds_17 : decode cX9_odds 17 = .ok (.ifCond .eq 26, 3) := by decide +kernel
theorem dX9_odds_20 : decode cX9_odds 20 = .ok (.iload_n 3, 1) := by decide +kernel
theorem dX9_odds_21 : decode cX9_odds 21 = .ok (.i2l, 1) := by decide +kernel
theorem dX9_odds_22 : decode cX9_odds 22 = .ok (.lconst 0, 1) := by decide +kernel
theorem dX9_odds_23 : decode cX9_odds 23 = .ok (.ldc2_w 175, 3) := by decide +kernel
theorem dX9_odds_26 : decode cX9_odds 26 = .ok (.invokestatic 50, 3) := by decide +kernel
theorem dX9_odds_29 : decode cX9_odds 29 = .ok (.ifCond .eq 14, 3) := by decide +kernel
theorem dX9_odds_32 : decode cX9_odds 32 = .ok (.iload 4, 2) := by decide +kernel
theorem dX9_odds_34 : decode cX9_odds 34 = .ok (.i2l, 1) := by decide +kernel
theorem dX9_odds_35 : decode cX9_odds 35 = .ok (.lconst 0, 1) := by decide +kernel
theorem dX9_odds_36 : decode cX9_odds 36 = .ok (.lconst 1, 1) := by decide +kernel
theorem dX9_odds_37 : decode cX9_odds 37 = .ok (.invokestatic 50, 3) := by decide +kernel
theorem dX9_odds_40 : decode cX9_odds 40 = .ok (.ifCond .ne 5, 3) := by decide +kernel
theorem dX9_odds_43 : decode cX9_odds 43 = .ok (.iconst (-1), 1) := by decide +kernel
theorem dX9_odds_44 : decode cX9_odds 44 = .ok (.ireturn, 1) := by decide +kernel
theorem dX9_odds_45 : decode cX9_odds 45 = .ok (.iconst 0, 1) := by decide +kernel
theorem dX9_odds_46 : decode cX9_odds 46 = .ok (.istore 5, 2) := by decide +kernel
theorem dX9_odds_48 : decode cX9_odds 48 = .ok (.iconst 0, 1) := by decide +kernel
theorem dX9_odds_49 : decode cX9_odds 49 = .ok (.istore 6, 2) := by decide +kernel
theorem dX9_odds_51 : decode cX9_odds 51 = .ok (.iconst 0, 1) := by decide +kernel
theorem dX9_odds_52 : decode cX9_odds 52 = .ok (.istore 7, 2) := by decide +kernel
theorem dX9_odds_54 : decode cX9_odds 54 = .ok (.iload 7, 2) := by decide +kernel
theorem dX9_odds_56 : decode cX9_odds 56 = .ok (.bipush 64, 2) := by decide +kernel
theorem dX9_odds_58 : decode cX9_odds 58 = .ok (.if_icmp .ge 139, 3) := by decide +kernel
theorem dX9_odds_61 : decode cX9_odds 61 = .ok (.iload 7, 2) := by decide +kernel
theorem dX9_odds_63 : decode cX9_odds 63 = .ok (.aload_n 0, 1) := by decide +kernel
theorem dX9_odds_64 : decode cX9_odds 64 = .ok (.getfield 29, 3) := by decide +kernel
theorem dX9_odds_67 : decode cX9_odds 67 = .ok (.bipush 12, 2) := by decide +kernel
theorem dX9_odds_69 : decode cX9_odds 69 = .ok (.iaload, 1) := by decide +kernel
theorem dX9_odds_70 : decode cX9_odds 70 = .ok (.iconst (-1), 1) := by decide +kernel
theorem dX9_odds_71 : decode cX9_odds 71 = .ok (.ixor, 1) := by decide +kernel
theorem dX9_odds_72 : decode cX9_odds 72 = .ok (.iand, 1) := by decide +kernel
theorem dX9_odds_73 : decode cX9_odds 73 = .ok (.ifCond .ne 118, 3) := by decide +kernel
theorem dX9_odds_76 : decode cX9_odds 76 = .ok (.aload_n 0, 1) := by decide +kernel
theorem dX9_odds_77 : decode cX9_odds 77 = .ok (.iconst 0, 1) := by decide +kernel
theorem dX9_odds_78 : decode cX9_odds 78 = .ok (.sipush 195, 3) := by decide +kernel
theorem dX9_odds_81 : decode cX9_odds 81 = .ok (.invokevirtual 131, 3) := by decide +kernel
theorem dX9_odds_84 : decode cX9_odds 84 = .ok (.iconst 1, 1) := by decide +kernel
theorem dX9_odds_85 : decode cX9_odds 85 = .ok (.istore 8, 2) := by decide +kernel
theorem dX9_odds_87 : decode cX9_odds 87 = .ok (.iconst 0, 1) := by decide +kernel
theorem dX9_odds_88 : decode cX9_odds 88 = .ok (.istore 9, 2) := by decide +kernel
theorem dX9_odds_90 : decode cX9_odds 90 = .ok (.iload 9, 2) := by decide +kernel
theorem dX9_odds_92 : decode cX9_odds 92 = .ok (.aload_n 0, 1) := by decide +kernel
theorem dX9_odds_93 : decode cX9_odds 93 = .ok (.getfield 108, 3) := by decide +kernel
theorem dX9_odds_96 : decode cX9_odds 96 = .ok (.if_icmp .ge 65, 3) := by decide +kernel
theorem dX9_odds_99 : decode cX9_odds 99 = .ok (.aload_n 0, 1) := by decide +kernel
theorem dX9_odds_100 : decode cX9_odds 100 = .ok (.iload 9, 2) := by decide +kernel
theorem dX9_odds_102 : decode cX9_odds 102 = .ok (.invokevirtual 138, 3) := by decide +kernel
theorem dX9_odds_105 : decode cX9_odds 105 = .ok (.ifCond .eq 50, 3) := by decide +kernel
theorem dX9_odds_108 : decode cX9_odds 108 = .ok (.iload 8, 2) := by decide +kernel
theorem dX9_odds_110 : decode cX9_odds 110 = .ok (.iload 7, 2) := by decide +kernel
theorem dX9_odds_112 : decode cX9_odds 112 = .ok (.iload 9, 2) := by decide +kernel
theorem dX9_odds_114 : decode cX9_odds 114 = .ok (.invokestatic 117, 3) := by decide +kernel
theorem dX9_odds_117 : decode cX9_odds 117 = .ok (.ifCond .eq 7, 3) := by decide +kernel
theorem dX9_odds_120 : decode cX9_odds 120 = .ok (.iload_n 2, 1) := by decide +kernel
theorem dX9_odds_121 : decode cX9_odds 121 = .ok (.goto 7, 3) := by decide +kernel
theorem dX9_odds_124 : decode cX9_odds 124 = .ok (.bipush 10, 2) := by decide +kernel
theorem dX9_odds_126 : decode cX9_odds 126 = .ok (.iload_n 2, 1) := by decide +kernel
theorem dX9_odds_127 : decode cX9_odds 127 = .ok (.isub, 1) := by decide +kernel
theorem dX9_odds_128 : decode cX9_odds 128 = .ok (.imul, 1) := by decide +kernel
theorem dX9_odds_129 : decode cX9_odds 129 = .ok (.istore 8, 2) := by decide +kernel
theorem dX9_odds_131 : decode cX9_odds 131 = .ok (.aload_n 0, 1) := by decide +kernel
theorem dX9_odds_132 : decode cX9_odds 132 = .ok (.sipush 195, 3) := by decide +kernel
theorem dX9_odds_135 : decode cX9_odds 135 = .ok (.iload 9, 2) := by decide +kernel
theorem dX9_odds_137 : decode cX9_odds 137 = .ok (.iload 7, 2) := by decide +kernel
theorem dX9_odds_139 : decode cX9_odds 139 = .ok (.iload 9, 2) := by decide +kernel
theorem dX9_odds_141 : decode cX9_odds 141 = .ok (.invokestatic 117, 3) := by decide +kernel
theorem dX9_odds_144 : decode cX9_odds 144 = .ok (.ifCond .eq 7, 3) := by decide +kernel
theorem dX9_odds_147 : decode cX9_odds 147 = .ok (.iconst 5, 1) := by decide +kernel
theorem dX9_odds_148 : decode cX9_odds 148 = .ok (.goto 4, 3) := by decide +kernel
theorem dX9_odds_151 : decode cX9_odds 151 = .ok (.iconst 0, 1) := by decide +kernel
theorem dX9_odds_152 : decode cX9_odds 152 = .ok (.invokevirtual 169, 3) := by decide +kernel
theorem dX9_odds_155 : decode cX9_odds 155 = .ok (.iinc 9 1, 3) := by decide +kernel
theorem dX9_odds_158 : decode cX9_odds 158 = .ok (.goto (-68), 3) := by decide +kernel
theorem dX9_odds_161 : decode cX9_odds 161 = .ok (.iload 6, 2) := by decide +kernel
theorem dX9_odds_163 : decode cX9_odds 163 = .ok (.iload 8, 2) := by decide +kernel
theorem dX9_odds_165 : decode cX9_odds 165 = .ok (.iadd, 1) := by decide +kernel
theorem dX9_odds_166 : decode cX9_odds 166 = .ok (.istore 6, 2) := by decide +kernel
theorem dX9_odds_168 : decode cX9_odds 168 = .ok (.iload 5, 2) := by decide +kernel
theorem dX9_odds_170 : decode cX9_odds 170 = .ok (.aload_n 0, 1) := by decide +kernel
theorem dX9_odds_171 : decode cX9_odds 171 = .ok (.iload_n 3, 1) := by decide +kernel
theorem dX9_odds_172 : decode cX9_odds 172 = .ok (.invokevirtual 177, 3) := by decide +kernel
theorem dX9_odds_175 : decode cX9_odds 175 = .ok (.iload_n 1, 1) := by decide +kernel
theorem dX9_odds_176 : decode cX9_odds 176 = .ok (.invokestatic 117, 3) := by decide +kernel
theorem dX9_odds_179 : decode cX9_odds 179 = .ok (.ifCond .eq 8, 3) := by decide +kernel
theorem dX9_odds_182 : decode cX9_odds 182 = .ok (.iload 8, 2) := by decide +kernel
theorem dX9_odds_184 : decode cX9_odds 184 = .ok (.goto 4, 3) := by decide +kernel
theorem dX9_odds_187 : decode cX9_odds 187 = .ok (.iconst 0, 1) := by decide +kernel
theorem dX9_odds_188 : decode cX9_odds 188 = .ok (.iadd, 1) := by decide +kernel
theorem dX9_odds_189 : decode cX9_odds 189 = .ok (.istore 5, 2) := by decide +kernel
theorem dX9_odds_191 : decode cX9_odds 191 = .ok (.iinc 7 1, 3) := by decide +kernel
theorem dX9_odds_194 : decode cX9_odds 194 = .ok (.goto (-140), 3) := by decide +kernel
theorem dX9_odds_197 : decode cX9_odds 197 = .ok (.iload 5, 2) := by decide +kernel
theorem dX9_odds_199 : decode cX9_odds 199 = .ok (.istore 7, 2) := by decide +kernel
theorem dX9_odds_201 : decode cX9_odds 201 = .ok (.iload 6, 2) := by decide +kernel
theorem dX9_odds_203 : decode cX9_odds 203 = .ok (.istore 8, 2) := by decide +kernel
theorem dX9_odds_205 : decode cX9_odds 205 = .ok (.iload 8, 2) := by decide +kernel
theorem dX9_odds_207 : decode cX9_odds 207 = .ok (.ifCond .eq 21, 3) := by decide +kernel
theorem dX9_odds_210 : decode cX9_odds 210 = .ok (.iload 7, 2) := by decide +kernel
theorem dX9_odds_212 : decode cX9_odds 212 = .ok (.iload 8, 2) := by decide +kernel
theorem dX9_odds_214 : decode cX9_odds 214 = .ok (.irem, 1) := by decide +kernel
theorem dX9_odds_215 : decode cX9_odds 215 = .ok (.istore 9, 2) := by decide +kernel
theorem dX9_odds_217 : decode cX9_odds 217 = .ok (.iload 8, 2) := by decide +kernel
theorem dX9_odds_219 : decode cX9_odds 219 = .ok (.istore 7, 2) := by decide +kernel
theorem dX9_odds_221 : decode cX9_odds 221 = .ok (.iload 9, 2) := by decide +kernel
theorem dX9_odds_223 : decode cX9_odds 223 = .ok (.istore 8, 2) := by decide +kernel
theorem dX9_odds_225 : decode cX9_odds 225 = .ok (.goto (-20), 3) := by decide +kernel
theorem dX9_odds_228 : decode cX9_odds 228 = .ok (.iload 4, 2) := by decide +kernel
theorem dX9_odds_230 : decode cX9_odds 230 = .ok (.ifCond .ne 11, 3) := by decide +kernel
theorem dX9_odds_233 : decode cX9_odds 233 = .ok (.iload 5, 2) := by decide +kernel
theorem dX9_odds_235 : decode cX9_odds 235 = .ok (.iload 7, 2) := by decide +kernel
theorem dX9_odds_237 : decode cX9_odds 237 = .ok (.idiv, 1) := by decide +kernel
theorem dX9_odds_238 : decode cX9_odds 238 = .ok (.goto 8, 3) := by decide +kernel
theorem dX9_odds_241 : decode cX9_odds 241 = .ok (.iload 6, 2) := by decide +kernel
theorem dX9_odds_243 : decode cX9_odds 243 = .ok (.iload 7, 2) := by decide +kernel
theorem dX9_odds_245 : decode cX9_odds 245 = .ok (.idiv, 1) := by decide +kernel
theorem dX9_odds_246 : decode cX9_odds 246 = .ok (.ireturn, 1) := by decide +kernel
theorem dX9_sees_0 : decode cX9_sees 0 = .ok (.iload_n 1, 1) := by decide +kernel
theorem dX9_sees_1 : decode cX9_sees 1 = .ok (.i2l, 1) := by decide +kernel
theorem dX9_sees_2 : decode cX9_sees 2 = .ok (.lconst 1, 1) := by decide +kernel
theorem dX9_sees_3 : decode cX9_sees 3 = .ok (.ldc2_w 175, 3) := by decide +kernel
theorem dX9_sees_6 : decode cX9_sees 6 = .ok (.invokestatic 50, 3) := by decide +kernel
theorem dX9_sees_9 : decode cX9_sees 9 = .ok (.ifCond .eq 27, 3) := by decide +kernel
theorem dX9_sees_12 : decode cX9_sees 12 = .ok (.iload_n 2, 1) := by decide +kernel
theorem dX9_sees_13 : decode cX9_sees 13 = .ok (.i2l, 1) := by decide +kernel
theorem dX9_sees_14 : decode cX9_sees 14 = .ok (.lconst 1, 1) := by decide +kernel
theorem dX9_sees_15 : decode cX9_sees 15 = .ok (.ldc2_w 167, 3) := by decide +kernel
theorem dX9_sees_18 : decode cX9_sees 18 = .ok (.invokestatic 50, 3) := by decide +kernel
theorem dX9_sees_21 : decode cX9_sees 21 = .ok (.ifCond .eq 15, 3) := by decide +kernel
theorem dX9_sees_24 : decode cX9_sees 24 = .ok (.iload_n 3, 1) := by decide +kernel
theorem dX9_sees_25 : decode cX9_sees 25 = .ok (.i2l, 1) := by decide +kernel
theorem dX9_sees_26 : decode cX9_sees 26 = .ok (.lconst 0, 1) := by decide +kernel
theorem dX9_sees_27 : decode cX9_sees 27 = .ok (.ldc2_w 175, 3) := by decide +kernel
theorem dX9_sees_30 : decode cX9_sees 30 = .ok (.invokestatic 50, 3) := by decide +kernel
theorem dX9_sees_33 : decode cX9_sees 33 = .ok (.ifCond .ne 5, 3) := by decide +kernel
theorem dX9_sees_36 : decode cX9_sees 36 = .ok (.iconst (-1), 1) := by decide +kernel
theorem dX9_sees_37 : decode cX9_sees 37 = .ok (.ireturn, 1) := by decide +kernel
theorem dX9_sees_38 : decode cX9_sees 38 = .ok (.aload_n 0, 1) := by decide +kernel
theorem dX9_sees_39 : decode cX9_sees 39 = .ok (.getfield 114, 3) := by decide +kernel
theorem dX9_sees_42 : decode cX9_sees 42 = .ok (.bipush 6, 2) := by decide +kernel
theorem dX9_sees_44 : decode cX9_sees 44 = .ok (.if_icmp .ne 6, 3) := by decide +kernel
theorem dX9_sees_47 : decode cX9_sees 47 = .ok (.bipush (-3), 2) := by decide +kernel
theorem dX9_sees_49 : decode cX9_sees 49 = .ok (.ireturn, 1) := by decide +kernel
theorem dX9_sees_50 : decode cX9_sees 50 = .ok (.aload_n 0, 1) := by decide +kernel
theorem dX9_sees_51 : decode cX9_sees 51 = .ok (.getfield 39, 3) := by decide +kernel
theorem dX9_sees_54 : decode cX9_sees 54 = .ok (.aload_n 0, 1) := by decide +kernel
theorem dX9_sees_55 : decode cX9_sees 55 = .ok (.getfield 114, 3) := by decide +kernel
theorem dX9_sees_58 : decode cX9_sees 58 = .ok (.iload_n 1, 1) := by decide +kernel
theorem dX9_sees_59 : decode cX9_sees 59 = .ok (.iastore, 1) := by decide +kernel
theorem dX9_sees_60 : decode cX9_sees 60 = .ok (.aload_n 0, 1) := by decide +kernel
theorem dX9_sees_61 : decode cX9_sees 61 = .ok (.getfield 42, 3) := by decide +kernel
theorem dX9_sees_64 : decode cX9_sees 64 = .ok (.aload_n 0, 1) := by decide +kernel
theorem dX9_sees_65 : decode cX9_sees 65 = .ok (.getfield 114, 3) := by decide +kernel
theorem dX9_sees_68 : decode cX9_sees 68 = .ok (.iload_n 2, 1) := by decide +kernel
theorem dX9_sees_69 : decode cX9_sees 69 = .ok (.iastore, 1) := by decide +kernel
theorem dX9_sees_70 : decode cX9_sees 70 = .ok (.aload_n 0, 1) := by decide +kernel
theorem dX9_sees_71 : decode cX9_sees 71 = .ok (.getfield 45, 3) := by decide +kernel
theorem dX9_sees_74 : decode cX9_sees 74 = .ok (.aload_n 0, 1) := by decide +kernel
theorem dX9_sees_75 : decode cX9_sees 75 = .ok (.getfield 114, 3) := by decide +kernel
theorem dX9_sees_78 : decode cX9_sees 78 = .ok (.iload_n 3, 1) := by decide +kernel
theorem dX9_sees_79 : decode cX9_sees 79 = .ok (.iastore, 1) := by decide +kernel
theorem dX9_sees_80 : decode cX9_sees 80 = .ok (.aload_n 0, 1) := by decide +kernel
theorem dX9_sees_81 : decode cX9_sees 81 = .ok (.dup, 1) := by decide +kernel
theorem dX9_sees_82 : decode cX9_sees 82 = .ok (.getfield 114, 3) := by decide +kernel
theorem dX9_sees_85 : decode cX9_sees 85 = .ok (.iconst 1, 1) := by decide +kernel
theorem dX9_sees_86 : decode cX9_sees 86 = .ok (.iadd, 1) := by decide +kernel
theorem dX9_sees_87 : decode cX9_sees 87 = .ok (.putfield 114, 3) := by decide +kernel
theorem dX9_sees_90 : decode cX9_sees 90 = .ok (.aload_n 0, 1) := by decide +kernel
theorem dX9_sees_91 : decode cX9_sees 91 = .ok (.getfield 114, 3) := by decide +kernel
theorem dX9_sees_94 : decode cX9_sees 94 = .ok (.ireturn, 1) := by decide +kernel
theorem dX9_forget_0 : decode cX9_forget 0 = .ok (.aload_n 0, 1) := by decide +kernel
theorem dX9_forget_1 : decode cX9_forget 1 = .ok (.getfield 114, 3) := by decide +kernel
theorem dX9_forget_4 : decode cX9_forget 4 = .ok (.istore_n 1, 1) := by decide +kernel
theorem dX9_forget_5 : decode cX9_forget 5 = .ok (.aload_n 0, 1) := by decide +kernel
theorem dX9_forget_6 : decode cX9_forget 6 = .ok (.iconst 0, 1) := by decide +kernel
theorem dX9_forget_7 : decode cX9_forget 7 = .ok (.putfield 114, 3) := by decide +kernel
theorem dX9_forget_10 : decode cX9_forget 10 = .ok (.iload_n 1, 1) := by decide +kernel
theorem dX9_forget_11 : decode cX9_forget 11 = .ok (.ireturn, 1) := by decide +kernel
theorem dX9_spun_0 : decode cX9_spun 0 = .ok (.iconst 0, 1) := by decide +kernel
theorem dX9_spun_1 : decode cX9_spun 1 = .ok (.iload_n 0, 1) := by decide +kernel
theorem dX9_spun_2 : decode cX9_spun 2 = .ok (.iload_n 1, 1) := by decide +kernel
theorem dX9_spun_3 : decode cX9_spun 3 = .ok (.iload_n 2, 1) := by decide +kernel
theorem dX9_spun_4 : decode cX9_spun 4 = .ok (.imul, 1) := by decide +kernel
theorem dX9_spun_5 : decode cX9_spun 5 = .ok (.isub, 1) := by decide +kernel
theorem dX9_spun_6 : decode cX9_spun 6 = .ok (.invokestatic 145, 3) := by decide +kernel
theorem dX9_spun_9 : decode cX9_spun 9 = .ok (.ireturn, 1) := by decide +kernel
theorem dX9_isSo_0 : decode cX9_isSo 0 = .ok (.iconst 1, 1) := by decide +kernel
theorem dX9_isSo_1 : decode cX9_isSo 1 = .ok (.istore_n 2, 1) := by decide +kernel
theorem dX9_isSo_2 : decode cX9_isSo 2 = .ok (.iconst 0, 1) := by decide +kernel
theorem dX9_isSo_3 : decode cX9_isSo 3 = .ok (.istore_n 3, 1) := by decide +kernel
theorem dX9_isSo_4 : decode cX9_isSo 4 = .ok (.iload_n 3, 1) := by decide +kernel
theorem dX9_isSo_5 : decode cX9_isSo 5 = .ok (.aload_n 0, 1) := by decide +kernel
theorem dX9_isSo_6 : decode cX9_isSo 6 = .ok (.getfield 114, 3) := by decide +kernel
theorem dX9_isSo_9 : decode cX9_isSo 9 = .ok (.if_icmp .ge 44, 3) := by decide +kernel
theorem dX9_isSo_12 : decode cX9_isSo 12 = .ok (.iload_n 2, 1) := by decide +kernel
theorem dX9_isSo_13 : decode cX9_isSo 13 = .ok (.ifCond .eq 32, 3) := by decide +kernel
theorem dX9_isSo_16 : decode cX9_isSo 16 = .ok (.aload_n 0, 1) := by decide +kernel
theorem dX9_isSo_17 : decode cX9_isSo 17 = .ok (.getfield 39, 3) := by decide +kernel
theorem dX9_isSo_20 : decode cX9_isSo 20 = .ok (.iload_n 3, 1) := by decide +kernel
theorem dX9_isSo_21 : decode cX9_isSo 21 = .ok (.iaload, 1) := by decide +kernel
theorem dX9_isSo_22 : decode cX9_isSo 22 = .ok (.aload_n 0, 1) := by decide +kernel
theorem dX9_isSo_23 : decode cX9_isSo 23 = .ok (.getfield 42, 3) := by decide +kernel
theorem dX9_isSo_26 : decode cX9_isSo 26 = .ok (.iload_n 3, 1) := by decide +kernel
theorem dX9_isSo_27 : decode cX9_isSo 27 = .ok (.iaload, 1) := by decide +kernel
theorem dX9_isSo_28 : decode cX9_isSo 28 = .ok (.iload_n 1, 1) := by decide +kernel
theorem dX9_isSo_29 : decode cX9_isSo 29 = .ok (.invokestatic 184, 3) := by decide +kernel
theorem dX9_isSo_32 : decode cX9_isSo 32 = .ok (.aload_n 0, 1) := by decide +kernel
theorem dX9_isSo_33 : decode cX9_isSo 33 = .ok (.getfield 45, 3) := by decide +kernel
theorem dX9_isSo_36 : decode cX9_isSo 36 = .ok (.iload_n 3, 1) := by decide +kernel
theorem dX9_isSo_37 : decode cX9_isSo 37 = .ok (.iaload, 1) := by decide +kernel
theorem dX9_isSo_38 : decode cX9_isSo 38 = .ok (.if_icmp .ne 7, 3) := by decide +kernel
theorem dX9_isSo_41 : decode cX9_isSo 41 = .ok (.iconst 1, 1) := by decide +kernel
theorem dX9_isSo_42 : decode cX9_isSo 42 = .ok (.goto 4, 3) := by decide +kernel
theorem dX9_isSo_45 : decode cX9_isSo 45 = .ok (.iconst 0, 1) := by decide +kernel
theorem dX9_isSo_46 : decode cX9_isSo 46 = .ok (.istore_n 2, 1) := by decide +kernel
theorem dX9_isSo_47 : decode cX9_isSo 47 = .ok (.iinc 3 1, 3) := by decide +kernel
theorem dX9_isSo_50 : decode cX9_isSo 50 = .ok (.goto (-46), 3) := by decide +kernel
theorem dX9_isSo_53 : decode cX9_isSo 53 = .ok (.iload_n 2, 1) := by decide +kernel
theorem dX9_isSo_54 : decode cX9_isSo 54 = .ok (.ireturn, 1) := by decide +kernel
theorem dX9_drags_0 : decode cX9_drags 0 = .ok (.iload_n 1, 1) := by decide +kernel
theorem dX9_drags_1 : decode cX9_drags 1 = .ok (.i2l, 1) := by decide +kernel
theorem dX9_drags_2 : decode cX9_drags 2 = .ok (.lconst 0, 1) := by decide +kernel
theorem dX9_drags_3 : decode cX9_drags 3 = .ok (.ldc2_w 173, 3) := by decide +kernel
theorem dX9_drags_6 : decode cX9_drags 6 = .ok (.invokestatic 50, 3) := by decide +kernel
theorem dX9_drags_9 : decode cX9_drags 9 = .ok (.ifCond .ne 5, 3) := by decide +kernel
theorem dX9_drags_12 : decode cX9_drags 12 = .ok (.iconst (-1), 1) := by decide +kernel
theorem dX9_drags_13 : decode cX9_drags 13 = .ok (.ireturn, 1) := by decide +kernel
theorem dX9_drags_14 : decode cX9_drags 14 = .ok (.iconst 0, 1) := by decide +kernel
theorem dX9_drags_15 : decode cX9_drags 15 = .ok (.istore_n 2, 1) := by decide +kernel
theorem dX9_drags_16 : decode cX9_drags 16 = .ok (.bipush (-9), 2) := by decide +kernel
theorem dX9_drags_18 : decode cX9_drags 18 = .ok (.istore_n 3, 1) := by decide +kernel
theorem dX9_drags_19 : decode cX9_drags 19 = .ok (.bipush (-9), 2) := by decide +kernel
theorem dX9_drags_21 : decode cX9_drags 21 = .ok (.istore 4, 2) := by decide +kernel
theorem dX9_drags_23 : decode cX9_drags 23 = .ok (.iconst 1, 1) := by decide +kernel
theorem dX9_drags_24 : decode cX9_drags 24 = .ok (.istore 5, 2) := by decide +kernel
theorem dX9_drags_26 : decode cX9_drags 26 = .ok (.iload 5, 2) := by decide +kernel
theorem dX9_drags_28 : decode cX9_drags 28 = .ok (.bipush 10, 2) := by decide +kernel
theorem dX9_drags_30 : decode cX9_drags 30 = .ok (.if_icmp .ge 60, 3) := by decide +kernel
theorem dX9_drags_33 : decode cX9_drags 33 = .ok (.aload_n 0, 1) := by decide +kernel
theorem dX9_drags_34 : decode cX9_drags 34 = .ok (.iload 5, 2) := by decide +kernel
theorem dX9_drags_36 : decode cX9_drags 36 = .ok (.invokevirtual 187, 3) := by decide +kernel
theorem dX9_drags_39 : decode cX9_drags 39 = .ok (.istore 6, 2) := by decide +kernel
theorem dX9_drags_41 : decode cX9_drags 41 = .ok (.iload_n 2, 1) := by decide +kernel
theorem dX9_drags_42 : decode cX9_drags 42 = .ok (.iload 6, 2) := by decide +kernel
theorem dX9_drags_44 : decode cX9_drags 44 = .ok (.ifCond .eq 7, 3) := by decide +kernel
theorem dX9_drags_47 : decode cX9_drags 47 = .ok (.iconst 1, 1) := by decide +kernel
theorem dX9_drags_48 : decode cX9_drags 48 = .ok (.goto 4, 3) := by decide +kernel
theorem dX9_drags_51 : decode cX9_drags 51 = .ok (.iconst 0, 1) := by decide +kernel
theorem dX9_drags_52 : decode cX9_drags 52 = .ok (.iadd, 1) := by decide +kernel
theorem dX9_drags_53 : decode cX9_drags 53 = .ok (.istore_n 2, 1) := by decide +kernel
theorem dX9_drags_54 : decode cX9_drags 54 = .ok (.iload 6, 2) := by decide +kernel
theorem dX9_drags_56 : decode cX9_drags 56 = .ok (.ifCond .eq 12, 3) := by decide +kernel
theorem dX9_drags_59 : decode cX9_drags 59 = .ok (.iload_n 3, 1) := by decide +kernel
theorem dX9_drags_60 : decode cX9_drags 60 = .ok (.ifCond .ge 8, 3) := by decide +kernel
theorem dX9_drags_63 : decode cX9_drags 63 = .ok (.iload 5, 2) := by decide +kernel
theorem dX9_drags_65 : decode cX9_drags 65 = .ok (.goto 4, 3) := by decide +kernel
theorem dX9_drags_68 : decode cX9_drags 68 = .ok (.iload_n 3, 1) := by decide +kernel
theorem dX9_drags_69 : decode cX9_drags 69 = .ok (.istore_n 3, 1) := by decide +kernel
theorem dX9_drags_70 : decode cX9_drags 70 = .ok (.iload 6, 2) := by decide +kernel
theorem dX9_drags_72 : decode cX9_drags 72 = .ok (.ifCond .eq 8, 3) := by decide +kernel
theorem dX9_drags_75 : decode cX9_drags 75 = .ok (.iload 5, 2) := by decide +kernel
theorem dX9_drags_77 : decode cX9_drags 77 = .ok (.goto 5, 3) := by decide +kernel
theorem dX9_drags_80 : decode cX9_drags 80 = .ok (.iload 4, 2) := by decide +kernel
theorem dX9_drags_82 : decode cX9_drags 82 = .ok (.istore 4, 2) := by decide +kernel
theorem dX9_drags_84 : decode cX9_drags 84 = .ok (.iinc 5 1, 3) := by decide +kernel
theorem dX9_drags_87 : decode cX9_drags 87 = .ok (.goto (-61), 3) := by decide +kernel
theorem dX9_drags_90 : decode cX9_drags 90 = .ok (.iload_n 1, 1) := by decide +kernel
theorem dX9_drags_91 : decode cX9_drags 91 = .ok (.ifCond .ne 7, 3) := by decide +kernel
theorem dX9_drags_94 : decode cX9_drags 94 = .ok (.iload_n 2, 1) := by decide +kernel
theorem dX9_drags_95 : decode cX9_drags 95 = .ok (.goto 14, 3) := by decide +kernel
theorem dX9_drags_98 : decode cX9_drags 98 = .ok (.iload_n 1, 1) := by decide +kernel
theorem dX9_drags_99 : decode cX9_drags 99 = .ok (.iconst 1, 1) := by decide +kernel
theorem dX9_drags_100 : decode cX9_drags 100 = .ok (.if_icmp .ne 7, 3) := by decide +kernel
theorem dX9_drags_103 : decode cX9_drags 103 = .ok (.iload_n 3, 1) := by decide +kernel
theorem dX9_drags_104 : decode cX9_drags 104 = .ok (.goto 5, 3) := by decide +kernel
theorem dX9_drags_107 : decode cX9_drags 107 = .ok (.iload 4, 2) := by decide +kernel
theorem dX9_drags_109 : decode cX9_drags 109 = .ok (.ireturn, 1) := by decide +kernel
theorem dX9_look_0 : decode cX9_look 0 = .ok (.iload_n 1, 1) := by decide +kernel
theorem dX9_look_1 : decode cX9_look 1 = .ok (.i2l, 1) := by decide +kernel
theorem dX9_look_2 : decode cX9_look 2 = .ok (.lconst 1, 1) := by decide +kernel
theorem dX9_look_3 : decode cX9_look 3 = .ok (.ldc2_w 175, 3) := by decide +kernel
theorem dX9_look_6 : decode cX9_look 6 = .ok (.invokestatic 50, 3) := by decide +kernel
theorem dX9_look_9 : decode cX9_look 9 = .ok (.ifCond .ne 5, 3) := by decide +kernel
theorem dX9_look_12 : decode cX9_look 12 = .ok (.iconst (-1), 1) := by decide +kernel
theorem dX9_look_13 : decode cX9_look 13 = .ok (.ireturn, 1) := by decide +kernel
theorem dX9_look_14 : decode cX9_look 14 = .ok (.bipush (-9), 2) := by decide +kernel
theorem dX9_look_16 : decode cX9_look 16 = .ok (.istore_n 2, 1) := by decide +kernel
theorem dX9_look_17 : decode cX9_look 17 = .ok (.bipush 99, 2) := by decide +kernel
theorem dX9_look_19 : decode cX9_look 19 = .ok (.istore_n 3, 1) := by decide +kernel
theorem dX9_look_20 : decode cX9_look 20 = .ok (.iconst 1, 1) := by decide +kernel
theorem dX9_look_21 : decode cX9_look 21 = .ok (.istore 4, 2) := by decide +kernel
theorem dX9_look_23 : decode cX9_look 23 = .ok (.iload 4, 2) := by decide +kernel
theorem dX9_look_25 : decode cX9_look 25 = .ok (.bipush 20, 2) := by decide +kernel
theorem dX9_look_27 : decode cX9_look 27 = .ok (.if_icmp .gt 138, 3) := by decide +kernel
theorem dX9_look_30 : decode cX9_look 30 = .ok (.aload_n 0, 1) := by decide +kernel
theorem dX9_look_31 : decode cX9_look 31 = .ok (.iconst 0, 1) := by decide +kernel
theorem dX9_look_32 : decode cX9_look 32 = .ok (.invokevirtual 190, 3) := by decide +kernel
theorem dX9_look_35 : decode cX9_look 35 = .ok (.iconst 1, 1) := by decide +kernel
theorem dX9_look_36 : decode cX9_look 36 = .ok (.if_icmp .le 129, 3) := by decide +kernel
theorem dX9_look_39 : decode cX9_look 39 = .ok (.iconst 0, 1) := by decide +kernel
theorem dX9_look_40 : decode cX9_look 40 = .ok (.istore 5, 2) := by decide +kernel
theorem dX9_look_42 : decode cX9_look 42 = .ok (.iconst 1, 1) := by decide +kernel
theorem dX9_look_43 : decode cX9_look 43 = .ok (.istore 6, 2) := by decide +kernel
theorem dX9_look_45 : decode cX9_look 45 = .ok (.iload 6, 2) := by decide +kernel
theorem dX9_look_47 : decode cX9_look 47 = .ok (.bipush 10, 2) := by decide +kernel
theorem dX9_look_49 : decode cX9_look 49 = .ok (.if_icmp .ge 84, 3) := by decide +kernel
theorem dX9_look_52 : decode cX9_look 52 = .ok (.iconst 0, 1) := by decide +kernel
theorem dX9_look_53 : decode cX9_look 53 = .ok (.istore 7, 2) := by decide +kernel
theorem dX9_look_55 : decode cX9_look 55 = .ok (.iconst 1, 1) := by decide +kernel
theorem dX9_look_56 : decode cX9_look 56 = .ok (.istore 8, 2) := by decide +kernel
theorem dX9_look_58 : decode cX9_look 58 = .ok (.iload 8, 2) := by decide +kernel
theorem dX9_look_60 : decode cX9_look 60 = .ok (.bipush 10, 2) := by decide +kernel
theorem dX9_look_62 : decode cX9_look 62 = .ok (.if_icmp .ge 56, 3) := by decide +kernel
theorem dX9_look_65 : decode cX9_look 65 = .ok (.iload 7, 2) := by decide +kernel
theorem dX9_look_67 : decode cX9_look 67 = .ok (.aload_n 0, 1) := by decide +kernel
theorem dX9_look_68 : decode cX9_look 68 = .ok (.iload 6, 2) := by decide +kernel
theorem dX9_look_70 : decode cX9_look 70 = .ok (.invokevirtual 187, 3) := by decide +kernel
theorem dX9_look_73 : decode cX9_look 73 = .ok (.ifCond .eq 35, 3) := by decide +kernel
theorem dX9_look_76 : decode cX9_look 76 = .ok (.aload_n 0, 1) := by decide +kernel
theorem dX9_look_77 : decode cX9_look 77 = .ok (.iload 8, 2) := by decide +kernel
theorem dX9_look_79 : decode cX9_look 79 = .ok (.invokevirtual 187, 3) := by decide +kernel
theorem dX9_look_82 : decode cX9_look 82 = .ok (.ifCond .eq 26, 3) := by decide +kernel
theorem dX9_look_85 : decode cX9_look 85 = .ok (.iload_n 1, 1) := by decide +kernel
theorem dX9_look_86 : decode cX9_look 86 = .ok (.iload 4, 2) := by decide +kernel
theorem dX9_look_88 : decode cX9_look 88 = .ok (.iload 6, 2) := by decide +kernel
theorem dX9_look_90 : decode cX9_look 90 = .ok (.invokestatic 184, 3) := by decide +kernel
theorem dX9_look_93 : decode cX9_look 93 = .ok (.iload_n 1, 1) := by decide +kernel
theorem dX9_look_94 : decode cX9_look 94 = .ok (.iload 4, 2) := by decide +kernel
theorem dX9_look_96 : decode cX9_look 96 = .ok (.iload 8, 2) := by decide +kernel
theorem dX9_look_98 : decode cX9_look 98 = .ok (.invokestatic 184, 3) := by decide +kernel
theorem dX9_look_101 : decode cX9_look 101 = .ok (.if_icmp .ne 7, 3) := by decide +kernel
theorem dX9_look_104 : decode cX9_look 104 = .ok (.iconst 1, 1) := by decide +kernel
theorem dX9_look_105 : decode cX9_look 105 = .ok (.goto 4, 3) := by decide +kernel
theorem dX9_look_108 : decode cX9_look 108 = .ok (.iconst 0, 1) := by decide +kernel
theorem dX9_look_109 : decode cX9_look 109 = .ok (.iadd, 1) := by decide +kernel
theorem dX9_look_110 : decode cX9_look 110 = .ok (.istore 7, 2) := by decide +kernel
theorem dX9_look_112 : decode cX9_look 112 = .ok (.iinc 8 1, 3) := by decide +kernel
theorem dX9_look_115 : decode cX9_look 115 = .ok (.goto (-57), 3) := by decide +kernel
theorem dX9_look_118 : decode cX9_look 118 = .ok (.iload 5, 2) := by decide +kernel
theorem dX9_look_120 : decode cX9_look 120 = .ok (.iload 7, 2) := by decide +kernel
theorem dX9_look_122 : decode cX9_look 122 = .ok (.invokestatic 145, 3) := by decide +kernel
theorem dX9_look_125 : decode cX9_look 125 = .ok (.istore 5, 2) := by decide +kernel
theorem dX9_look_127 : decode cX9_look 127 = .ok (.iinc 6 1, 3) := by decide +kernel
theorem dX9_look_130 : decode cX9_look 130 = .ok (.goto (-85), 3) := by decide +kernel
theorem dX9_look_133 : decode cX9_look 133 = .ok (.iload 5, 2) := by decide +kernel
theorem dX9_look_135 : decode cX9_look 135 = .ok (.iload_n 3, 1) := by decide +kernel
theorem dX9_look_136 : decode cX9_look 136 = .ok (.if_icmp .ge 8, 3) := by decide +kernel
theorem dX9_look_139 : decode cX9_look 139 = .ok (.iload 4, 2) := by decide +kernel
theorem dX9_look_141 : decode cX9_look 141 = .ok (.goto 4, 3) := by decide +kernel
theorem dX9_look_144 : decode cX9_look 144 = .ok (.iload_n 2, 1) := by decide +kernel
theorem dX9_look_145 : decode cX9_look 145 = .ok (.istore_n 2, 1) := by decide +kernel
theorem dX9_look_146 : decode cX9_look 146 = .ok (.iload 5, 2) := by decide +kernel
theorem dX9_look_148 : decode cX9_look 148 = .ok (.iload_n 3, 1) := by decide +kernel
theorem dX9_look_149 : decode cX9_look 149 = .ok (.if_icmp .ge 8, 3) := by decide +kernel
theorem dX9_look_152 : decode cX9_look 152 = .ok (.iload 5, 2) := by decide +kernel
theorem dX9_look_154 : decode cX9_look 154 = .ok (.goto 4, 3) := by decide +kernel
theorem dX9_look_157 : decode cX9_look 157 = .ok (.iload_n 3, 1) := by decide +kernel
theorem dX9_look_158 : decode cX9_look 158 = .ok (.istore_n 3, 1) := by decide +kernel
theorem dX9_look_159 : decode cX9_look 159 = .ok (.iinc 4 1, 3) := by decide +kernel
theorem dX9_look_162 : decode cX9_look 162 = .ok (.goto (-139), 3) := by decide +kernel
theorem dX9_look_165 : decode cX9_look 165 = .ok (.iload_n 2, 1) := by decide +kernel
theorem dX9_look_166 : decode cX9_look 166 = .ok (.ireturn, 1) := by decide +kernel
theorem dX9_rate_0 : decode cX9_rate 0 = .ok (.iload_n 1, 1) := by decide +kernel
theorem dX9_rate_1 : decode cX9_rate 1 = .ok (.i2l, 1) := by decide +kernel
theorem dX9_rate_2 : decode cX9_rate 2 = .ok (.lconst 0, 1) := by decide +kernel
theorem dX9_rate_3 : decode cX9_rate 3 = .ok (.ldc2_w 153, 3) := by decide +kernel
theorem dX9_rate_6 : decode cX9_rate 6 = .ok (.invokestatic 50, 3) := by decide +kernel
theorem dX9_rate_9 : decode cX9_rate 9 = .ok (.ifCond .eq 11, 3) := by decide +kernel
theorem dX9_rate_12 : decode cX9_rate 12 = .ok (.aload_n 0, 1) := by decide +kernel
theorem dX9_rate_13 : decode cX9_rate 13 = .ok (.iload_n 2, 1) := by decide +kernel
theorem dX9_rate_14 : decode cX9_rate 14 = .ok (.invokevirtual 148, 3) := by decide +kernel
theorem dX9_rate_17 : decode cX9_rate 17 = .ok (.ifCond .ne 6, 3) := by decide +kernel
theorem dX9_rate_20 : decode cX9_rate 20 = .ok (.ldc 193, 2) := by decide +kernel
theorem dX9_rate_22 : decode cX9_rate 22 = .ok (.ireturn, 1) := by decide +kernel
theorem dX9_rate_23 : decode cX9_rate 23 = .ok (.aload_n 0, 1) := by decide +kernel
theorem dX9_rate_24 : decode cX9_rate 24 = .ok (.getfield 29, 3) := by decide +kernel
theorem dX9_rate_27 : decode cX9_rate 27 = .ok (.bipush 6, 2) := by decide +kernel
theorem dX9_rate_29 : decode cX9_rate 29 = .ok (.iload_n 2, 1) := by decide +kernel
theorem dX9_rate_30 : decode cX9_rate 30 = .ok (.iadd, 1) := by decide +kernel
theorem dX9_rate_31 : decode cX9_rate 31 = .ok (.iaload, 1) := by decide +kernel
theorem dX9_rate_32 : decode cX9_rate 32 = .ok (.istore_n 3, 1) := by decide +kernel
theorem dX9_rate_33 : decode cX9_rate 33 = .ok (.aload_n 0, 1) := by decide +kernel
theorem dX9_rate_34 : decode cX9_rate 34 = .ok (.dup, 1) := by decide +kernel
theorem dX9_rate_35 : decode cX9_rate 35 = .ok (.getfield 194, 3) := by decide +kernel
theorem dX9_rate_38 : decode cX9_rate 38 = .ok (.lconst 1, 1) := by decide +kernel
theorem dX9_rate_39 : decode cX9_rate 39 = .ok (.ladd, 1) := by decide +kernel
theorem dX9_rate_40 : decode cX9_rate 40 = .ok (.putfield 194, 3) := by decide +kernel
theorem dX9_rate_43 : decode cX9_rate 43 = .ok (.iload_n 1, 1) := by decide +kernel
theorem dX9_rate_44 : decode cX9_rate 44 = .ok (.iconst 1, 1) := by decide +kernel
theorem dX9_rate_45 : decode cX9_rate 45 = .ok (.if_icmp .eq 8, 3) := by decide +kernel
theorem dX9_rate_48 : decode cX9_rate 48 = .ok (.iload_n 1, 1) := by decide +kernel
theorem dX9_rate_49 : decode cX9_rate 49 = .ok (.iconst 3, 1) := by decide +kernel
theorem dX9_rate_50 : decode cX9_rate 50 = .ok (.if_icmp .ne 24, 3) := by decide +kernel
theorem dX9_rate_53 : decode cX9_rate 53 = .ok (.iload_n 3, 1) := by decide +kernel
theorem dX9_rate_54 : decode cX9_rate 54 = .ok (.aload_n 0, 1) := by decide +kernel
theorem dX9_rate_55 : decode cX9_rate 55 = .ok (.getfield 16, 3) := by decide +kernel
theorem dX9_rate_58 : decode cX9_rate 58 = .ok (.iload_n 2, 1) := by decide +kernel
theorem dX9_rate_59 : decode cX9_rate 59 = .ok (.iaload, 1) := by decide +kernel
theorem dX9_rate_60 : decode cX9_rate 60 = .ok (.iadd, 1) := by decide +kernel
theorem dX9_rate_61 : decode cX9_rate 61 = .ok (.istore_n 3, 1) := by decide +kernel
theorem dX9_rate_62 : decode cX9_rate 62 = .ok (.aload_n 0, 1) := by decide +kernel
theorem dX9_rate_63 : decode cX9_rate 63 = .ok (.dup, 1) := by decide +kernel
theorem dX9_rate_64 : decode cX9_rate 64 = .ok (.getfield 194, 3) := by decide +kernel
theorem dX9_rate_67 : decode cX9_rate 67 = .ok (.ldc2_w 182, 3) := by decide +kernel
theorem dX9_rate_70 : decode cX9_rate 70 = .ok (.ladd, 1) := by decide +kernel
theorem dX9_rate_71 : decode cX9_rate 71 = .ok (.putfield 194, 3) := by decide +kernel
theorem dX9_rate_74 : decode cX9_rate 74 = .ok (.iload_n 1, 1) := by decide +kernel
theorem dX9_rate_75 : decode cX9_rate 75 = .ok (.iconst 2, 1) := by decide +kernel
theorem dX9_rate_76 : decode cX9_rate 76 = .ok (.if_icmp .eq 8, 3) := by decide +kernel
theorem dX9_rate_79 : decode cX9_rate 79 = .ok (.iload_n 1, 1) := by decide +kernel
theorem dX9_rate_80 : decode cX9_rate 80 = .ok (.iconst 4, 1) := by decide +kernel
theorem dX9_rate_81 : decode cX9_rate 81 = .ok (.if_icmp .ne 28, 3) := by decide +kernel
theorem dX9_rate_84 : decode cX9_rate 84 = .ok (.iload_n 3, 1) := by decide +kernel
theorem dX9_rate_85 : decode cX9_rate 85 = .ok (.aload_n 0, 1) := by decide +kernel
theorem dX9_rate_86 : decode cX9_rate 86 = .ok (.getfield 29, 3) := by decide +kernel
theorem dX9_rate_89 : decode cX9_rate 89 = .ok (.bipush 12, 2) := by decide +kernel
theorem dX9_rate_91 : decode cX9_rate 91 = .ok (.iaload, 1) := by decide +kernel
theorem dX9_rate_92 : decode cX9_rate 92 = .ok (.invokestatic 164, 3) := by decide +kernel
theorem dX9_rate_95 : decode cX9_rate 95 = .ok (.isub, 1) := by decide +kernel
theorem dX9_rate_96 : decode cX9_rate 96 = .ok (.istore_n 3, 1) := by decide +kernel
theorem dX9_rate_97 : decode cX9_rate 97 = .ok (.aload_n 0, 1) := by decide +kernel
theorem dX9_rate_98 : decode cX9_rate 98 = .ok (.dup, 1) := by decide +kernel
theorem dX9_rate_99 : decode cX9_rate 99 = .ok (.getfield 194, 3) := by decide +kernel
theorem dX9_rate_102 : decode cX9_rate 102 = .ok (.ldc2_w 198, 3) := by decide +kernel
theorem dX9_rate_105 : decode cX9_rate 105 = .ok (.ladd, 1) := by decide +kernel
theorem dX9_rate_106 : decode cX9_rate 106 = .ok (.putfield 194, 3) := by decide +kernel
theorem dX9_rate_109 : decode cX9_rate 109 = .ok (.iload_n 1, 1) := by decide +kernel
theorem dX9_rate_110 : decode cX9_rate 110 = .ok (.iconst 3, 1) := by decide +kernel
theorem dX9_rate_111 : decode cX9_rate 111 = .ok (.if_icmp .ne 19, 3) := by decide +kernel
theorem dX9_rate_114 : decode cX9_rate 114 = .ok (.iload_n 3, 1) := by decide +kernel
theorem dX9_rate_115 : decode cX9_rate 115 = .ok (.iconst 2, 1) := by decide +kernel
theorem dX9_rate_116 : decode cX9_rate 116 = .ok (.imul, 1) := by decide +kernel
theorem dX9_rate_117 : decode cX9_rate 117 = .ok (.istore_n 3, 1) := by decide +kernel
theorem dX9_rate_118 : decode cX9_rate 118 = .ok (.aload_n 0, 1) := by decide +kernel
theorem dX9_rate_119 : decode cX9_rate 119 = .ok (.dup, 1) := by decide +kernel
theorem dX9_rate_120 : decode cX9_rate 120 = .ok (.getfield 194, 3) := by decide +kernel
theorem dX9_rate_123 : decode cX9_rate 123 = .ok (.ldc2_w 200, 3) := by decide +kernel
theorem dX9_rate_126 : decode cX9_rate 126 = .ok (.ladd, 1) := by decide +kernel
theorem dX9_rate_127 : decode cX9_rate 127 = .ok (.putfield 194, 3) := by decide +kernel
theorem dX9_rate_130 : decode cX9_rate 130 = .ok (.iload_n 1, 1) := by decide +kernel
theorem dX9_rate_131 : decode cX9_rate 131 = .ok (.iconst 4, 1) := by decide +kernel
theorem dX9_rate_132 : decode cX9_rate 132 = .ok (.if_icmp .ne 19, 3) := by decide +kernel
theorem dX9_rate_135 : decode cX9_rate 135 = .ok (.iload_n 3, 1) := by decide +kernel
theorem dX9_rate_136 : decode cX9_rate 136 = .ok (.iload_n 2, 1) := by decide +kernel
theorem dX9_rate_137 : decode cX9_rate 137 = .ok (.iadd, 1) := by decide +kernel
theorem dX9_rate_138 : decode cX9_rate 138 = .ok (.istore_n 3, 1) := by decide +kernel
theorem dX9_rate_139 : decode cX9_rate 139 = .ok (.aload_n 0, 1) := by decide +kernel
theorem dX9_rate_140 : decode cX9_rate 140 = .ok (.dup, 1) := by decide +kernel
theorem dX9_rate_141 : decode cX9_rate 141 = .ok (.getfield 194, 3) := by decide +kernel
theorem dX9_rate_144 : decode cX9_rate 144 = .ok (.ldc2_w 202, 3) := by decide +kernel
theorem dX9_rate_147 : decode cX9_rate 147 = .ok (.ladd, 1) := by decide +kernel
theorem dX9_rate_148 : decode cX9_rate 148 = .ok (.putfield 194, 3) := by decide +kernel
theorem dX9_rate_151 : decode cX9_rate 151 = .ok (.iload_n 1, 1) := by decide +kernel
theorem dX9_rate_152 : decode cX9_rate 152 = .ok (.iconst 5, 1) := by decide +kernel
theorem dX9_rate_153 : decode cX9_rate 153 = .ok (.if_icmp .ne 25, 3) := by decide +kernel
theorem dX9_rate_156 : decode cX9_rate 156 = .ok (.iload_n 3, 1) := by decide +kernel
theorem dX9_rate_157 : decode cX9_rate 157 = .ok (.aload_n 0, 1) := by decide +kernel
theorem dX9_rate_158 : decode cX9_rate 158 = .ok (.getfield 29, 3) := by decide +kernel
theorem dX9_rate_161 : decode cX9_rate 161 = .ok (.bipush 13, 2) := by decide +kernel
theorem dX9_rate_163 : decode cX9_rate 163 = .ok (.iaload, 1) := by decide +kernel
theorem dX9_rate_164 : decode cX9_rate 164 = .ok (.iadd, 1) := by decide +kernel
theorem dX9_rate_165 : decode cX9_rate 165 = .ok (.istore_n 3, 1) := by decide +kernel
theorem dX9_rate_166 : decode cX9_rate 166 = .ok (.aload_n 0, 1) := by decide +kernel
theorem dX9_rate_167 : decode cX9_rate 167 = .ok (.dup, 1) := by decide +kernel
theorem dX9_rate_168 : decode cX9_rate 168 = .ok (.getfield 194, 3) := by decide +kernel
theorem dX9_rate_171 : decode cX9_rate 171 = .ok (.ldc2_w 204, 3) := by decide +kernel
theorem dX9_rate_174 : decode cX9_rate 174 = .ok (.ladd, 1) := by decide +kernel
theorem dX9_rate_175 : decode cX9_rate 175 = .ok (.putfield 194, 3) := by decide +kernel
theorem dX9_rate_178 : decode cX9_rate 178 = .ok (.iload_n 3, 1) := by decide +kernel
theorem dX9_rate_179 : decode cX9_rate 179 = .ok (.ireturn, 1) := by decide +kernel
theorem dX9_keep_0 : decode cX9_keep 0 = .ok (.iload_n 1, 1) := by decide +kernel
theorem dX9_keep_1 : decode cX9_keep 1 = .ok (.i2l, 1) := by decide +kernel
theorem dX9_keep_2 : decode cX9_keep 2 = .ok (.lconst 0, 1) := by decide +kernel
theorem dX9_keep_3 : decode cX9_keep 3 = .ok (.lconst 1, 1) := by decide +kernel
theorem dX9_keep_4 : decode cX9_keep 4 = .ok (.invokestatic 50, 3) := by decide +kernel
theorem dX9_keep_7 : decode cX9_keep 7 = .ok (.ifCond .ne 5, 3) := by decide +kernel
theorem dX9_keep_10 : decode cX9_keep 10 = .ok (.iconst (-1), 1) := by decide +kernel
theorem dX9_keep_11 : decode cX9_keep 11 = .ok (.ireturn, 1) := by decide +kernel
theorem dX9_keep_12 : decode cX9_keep 12 = .ok (.aload_n 0, 1) := by decide +kernel
theorem dX9_keep_13 : decode cX9_keep 13 = .ok (.iconst 0, 1) := by decide +kernel
theorem dX9_keep_14 : decode cX9_keep 14 = .ok (.sipush 165, 3) := by decide +kernel
theorem dX9_keep_17 : decode cX9_keep 17 = .ok (.iload_n 1, 1) := by decide +kernel
theorem dX9_keep_18 : decode cX9_keep 18 = .ok (.bipush 15, 2) := by decide +kernel
theorem dX9_keep_20 : decode cX9_keep 20 = .ok (.imul, 1) := by decide +kernel
theorem dX9_keep_21 : decode cX9_keep 21 = .ok (.iadd, 1) := by decide +kernel
theorem dX9_keep_22 : decode cX9_keep 22 = .ok (.invokevirtual 131, 3) := by decide +kernel
theorem dX9_keep_25 : decode cX9_keep 25 = .ok (.aload_n 0, 1) := by decide +kernel
theorem dX9_keep_26 : decode cX9_keep 26 = .ok (.getfield 32, 3) := by decide +kernel
theorem dX9_keep_29 : decode cX9_keep 29 = .ok (.iload_n 1, 1) := by decide +kernel
theorem dX9_keep_30 : decode cX9_keep 30 = .ok (.iconst 1, 1) := by decide +kernel
theorem dX9_keep_31 : decode cX9_keep 31 = .ok (.iastore, 1) := by decide +kernel
theorem dX9_keep_32 : decode cX9_keep 32 = .ok (.aload_n 0, 1) := by decide +kernel
theorem dX9_keep_33 : decode cX9_keep 33 = .ok (.getfield 29, 3) := by decide +kernel
theorem dX9_keep_36 : decode cX9_keep 36 = .ok (.bipush 13, 2) := by decide +kernel
theorem dX9_keep_38 : decode cX9_keep 38 = .ok (.iaload, 1) := by decide +kernel
theorem dX9_keep_39 : decode cX9_keep 39 = .ok (.ireturn, 1) := by decide +kernel
theorem dX9_back_0 : decode cX9_back 0 = .ok (.iload_n 1, 1) := by decide +kernel
theorem dX9_back_1 : decode cX9_back 1 = .ok (.i2l, 1) := by decide +kernel
theorem dX9_back_2 : decode cX9_back 2 = .ok (.lconst 0, 1) := by decide +kernel
theorem dX9_back_3 : decode cX9_back 3 = .ok (.lconst 1, 1) := by decide +kernel
theorem dX9_back_4 : decode cX9_back 4 = .ok (.invokestatic 50, 3) := by decide +kernel
theorem dX9_back_7 : decode cX9_back 7 = .ok (.ifCond .ne 5, 3) := by decide +kernel
theorem dX9_back_10 : decode cX9_back 10 = .ok (.iconst (-1), 1) := by decide +kernel
theorem dX9_back_11 : decode cX9_back 11 = .ok (.ireturn, 1) := by decide +kernel
theorem dX9_back_12 : decode cX9_back 12 = .ok (.aload_n 0, 1) := by decide +kernel
theorem dX9_back_13 : decode cX9_back 13 = .ok (.getfield 32, 3) := by decide +kernel
theorem dX9_back_16 : decode cX9_back 16 = .ok (.iload_n 1, 1) := by decide +kernel
theorem dX9_back_17 : decode cX9_back 17 = .ok (.iaload, 1) := by decide +kernel
theorem dX9_back_18 : decode cX9_back 18 = .ok (.ifCond .ne 6, 3) := by decide +kernel
theorem dX9_back_21 : decode cX9_back 21 = .ok (.bipush (-2), 2) := by decide +kernel
theorem dX9_back_23 : decode cX9_back 23 = .ok (.ireturn, 1) := by decide +kernel
theorem dX9_back_24 : decode cX9_back 24 = .ok (.aload_n 0, 1) := by decide +kernel
theorem dX9_back_25 : decode cX9_back 25 = .ok (.sipush 165, 3) := by decide +kernel
theorem dX9_back_28 : decode cX9_back 28 = .ok (.iload_n 1, 1) := by decide +kernel
theorem dX9_back_29 : decode cX9_back 29 = .ok (.bipush 15, 2) := by decide +kernel
theorem dX9_back_31 : decode cX9_back 31 = .ok (.imul, 1) := by decide +kernel
theorem dX9_back_32 : decode cX9_back 32 = .ok (.iadd, 1) := by decide +kernel
theorem dX9_back_33 : decode cX9_back 33 = .ok (.iconst 0, 1) := by decide +kernel
theorem dX9_back_34 : decode cX9_back 34 = .ok (.invokevirtual 131, 3) := by decide +kernel
theorem dX9_back_37 : decode cX9_back 37 = .ok (.aload_n 0, 1) := by decide +kernel
theorem dX9_back_38 : decode cX9_back 38 = .ok (.iconst 0, 1) := by decide +kernel
theorem dX9_back_39 : decode cX9_back 39 = .ok (.putfield 111, 3) := by decide +kernel
theorem dX9_back_42 : decode cX9_back 42 = .ok (.aload_n 0, 1) := by decide +kernel
theorem dX9_back_43 : decode cX9_back 43 = .ok (.getfield 29, 3) := by decide +kernel
theorem dX9_back_46 : decode cX9_back 46 = .ok (.bipush 13, 2) := by decide +kernel
theorem dX9_back_48 : decode cX9_back 48 = .ok (.iaload, 1) := by decide +kernel
theorem dX9_back_49 : decode cX9_back 49 = .ok (.ireturn, 1) := by decide +kernel
theorem dX9_count_0 : decode cX9_count 0 = .ok (.iload_n 1, 1) := by decide +kernel
theorem dX9_count_1 : decode cX9_count 1 = .ok (.ifCond .ne 10, 3) := by decide +kernel
theorem dX9_count_4 : decode cX9_count 4 = .ok (.aload_n 0, 1) := by decide +kernel
theorem dX9_count_5 : decode cX9_count 5 = .ok (.getfield 7, 3) := by decide +kernel
theorem dX9_count_8 : decode cX9_count 8 = .ok (.goto 52, 3) := by decide +kernel
theorem dX9_count_11 : decode cX9_count 11 = .ok (.iload_n 1, 1) := by decide +kernel
theorem dX9_count_12 : decode cX9_count 12 = .ok (.iconst 1, 1) := by decide +kernel
theorem dX9_count_13 : decode cX9_count 13 = .ok (.if_icmp .ne 10, 3) := by decide +kernel
theorem dX9_count_16 : decode cX9_count 16 = .ok (.aload_n 0, 1) := by decide +kernel
theorem dX9_count_17 : decode cX9_count 17 = .ok (.getfield 108, 3) := by decide +kernel
theorem dX9_count_20 : decode cX9_count 20 = .ok (.goto 40, 3) := by decide +kernel
theorem dX9_count_23 : decode cX9_count 23 = .ok (.iload_n 1, 1) := by decide +kernel
theorem dX9_count_24 : decode cX9_count 24 = .ok (.iconst 2, 1) := by decide +kernel
theorem dX9_count_25 : decode cX9_count 25 = .ok (.if_icmp .ne 10, 3) := by decide +kernel
theorem dX9_count_28 : decode cX9_count 28 = .ok (.aload_n 0, 1) := by decide +kernel
theorem dX9_count_29 : decode cX9_count 29 = .ok (.getfield 13, 3) := by decide +kernel
theorem dX9_count_32 : decode cX9_count 32 = .ok (.goto 28, 3) := by decide +kernel
theorem dX9_count_35 : decode cX9_count 35 = .ok (.iload_n 1, 1) := by decide +kernel
theorem dX9_count_36 : decode cX9_count 36 = .ok (.iconst 3, 1) := by decide +kernel
theorem dX9_count_37 : decode cX9_count 37 = .ok (.if_icmp .ne 10, 3) := by decide +kernel
theorem dX9_count_40 : decode cX9_count 40 = .ok (.aload_n 0, 1) := by decide +kernel
theorem dX9_count_41 : decode cX9_count 41 = .ok (.getfield 114, 3) := by decide +kernel
theorem dX9_count_44 : decode cX9_count 44 = .ok (.goto 16, 3) := by decide +kernel
theorem dX9_count_47 : decode cX9_count 47 = .ok (.iload_n 1, 1) := by decide +kernel
theorem dX9_count_48 : decode cX9_count 48 = .ok (.iconst 4, 1) := by decide +kernel
theorem dX9_count_49 : decode cX9_count 49 = .ok (.if_icmp .ne 10, 3) := by decide +kernel
theorem dX9_count_52 : decode cX9_count 52 = .ok (.aload_n 0, 1) := by decide +kernel
theorem dX9_count_53 : decode cX9_count 53 = .ok (.getfield 54, 3) := by decide +kernel
theorem dX9_count_56 : decode cX9_count 56 = .ok (.goto 4, 3) := by decide +kernel
theorem dX9_count_59 : decode cX9_count 59 = .ok (.iconst (-1), 1) := by decide +kernel
theorem dX9_count_60 : decode cX9_count 60 = .ok (.ireturn, 1) := by decide +kernel
theorem dX9_trace_0 : decode cX9_trace 0 = .ok (.aload_n 0, 1) := by decide +kernel
theorem dX9_trace_1 : decode cX9_trace 1 = .ok (.getfield 194, 3) := by decide +kernel
theorem dX9_trace_4 : decode cX9_trace 4 = .ok (.lreturn, 1) := by decide +kernel
end
section
abbrev Gl : Type := va_G × ClassId × ClassId × ClassId × ClassId
abbrev tyG (g : Gl) : List (ClassId × FieldType) := [(g.2.1, .int), (g.2.2.1, .byte), (g.2.2.2.1, .boolean), (g.2.2.2.2, .object "SpinTops$Moment")]
def BIG : List Cond := lw_tbl.filter goodWord
theorem mb {w : Cond} (i : Nat) (h : lw_tbl[i]? = some w) (hg : goodWord w = true) : w ∈ BIG := List.mem_filter.mpr ⟨List.mem_of_getElem? h, hg⟩
theorem BIG_good {w : Cond} (h : w ∈ BIG) : (w.onTables && w.keeps) = true ∨ ∃ ty, w = .arrayClass ty := good_of_word (List.mem_filter.mp h).2
def isNs : Cond → Bool
  | .fieldLinkNest _ _ _ _ _ _ => true
  | .methodLinkNest _ _ _ _ => true
  | _ => false
def NSL : List Cond := lw_tbl.filter isNs
theorem mn {w : Cond} (i : Nat) (h : lw_tbl[i]? = some w) (hg : isNs w = true) : w ∈ NSL := List.mem_filter.mpr ⟨List.mem_of_getElem? h, hg⟩
def NW (U : State) : Prop := ∀ w ∈ NSL, va_Nw w U
theorem NW.warm {s U : State} (hW : s.WarmedH U.vm) (h : NW s) : NW U := by
  intro w hw
  have h1 := h w hw
  have h2 := (List.mem_filter.mp hw).2
  cases w <;> first | exact va_Nw.warmF hW h1 | exact va_Nw.warmM hW h1 | (exact absurd h2 (by simp [isNs]))
theorem NW.same {s U : State} (e : s.vm = U.vm) (h : NW s) : NW U := by
  intro w hw
  have h1 := h w hw
  have h2 := (List.mem_filter.mp hw).2
  cases w <;> first | exact va_Nw.same rfl e h1 | (exact absurd h2 (by simp [isNs]))
def KK (g : Gl) (U : State) : Prop := va_K g.1 vwCl (tyG g) U ∧ NW U ∧ va_AO "SpinTops$Moment" U
theorem KK.warm {g : Gl} {s U : State} (hW : s.WarmedH U.vm) (h : KK g s) : KK g U := ⟨va_K.moved hW.alike h.1, h.2.1.warm hW, h.2.2.moved hW.alike⟩
theorem KK.calling {g : Gl} {U : State} {f : JFrame} {mk : MethodId} {a : Array Value} (h : KK g U) : KK g (U.calling f mk a) := ⟨va_K.moved (u := U) (U := U.calling f mk a) (Vm.Alike.refl U.vm) h.1, NW.same (s := U) (U := U.calling f mk a) rfl h.2.1, va_AO.moved (u := U) (U := U.calling f mk a) (Vm.Alike.refl U.vm) h.2.2⟩
def rmq (d mc ms : Nat) : Room := { frames := d, cells := mc, slots := ms, locals := 38 * d }
abbrev Cx : Type := Program × Launch × Env × Room × State × MethodId × Array Value × List Frame × Method × Code × (State → Prop) × (Nat → Prop)
def Vw (g : Gl) (X : Cx) (nL n k : Nat) (ws : va_W) (pc : Nat) (lv : List (Nat × Value)) (st : List Value) : Prop :=
  match X with
  | (p, l, e, R, s, m, args, below, meth, c, Q, A) => ∀ (H : Heap) (locs : List Loc) (ls : Array Slot), va_P g.1 vwCl ws H → va_D A ws → va_S A s.heap H locs → lv_has ls nL lv → W p l e R s m args below meth c H locs n k Q (F0 m pc ls st)
def Ok (l : Launch) (g : Gl) (X : Cx) (own : String) (cc : ByteArray) (nL d : Nat) : Prop :=
  match X with
  | (p, l', e, R, s, m, args, below, meth, c, Q, A) => l' = l ∧ p.tables.exec = Jvm.exec ∧ c.code = cc ∧ c.maxLocals = nL ∧ s.vm.findClass own = some m.cls ∧ (∀ w ∈ BIG, w.before args s = true) ∧ KK g s ∧ meth.locks = false ∧ (∀ q, s.heap.size ≤ q → A q) ∧ d ≤ R.frames ∧ 38 * d ≤ R.locals
def cellsX (X : Cx) : Nat := X.2.2.2.1.cells
def slotsX (X : Cx) : Nat := X.2.2.2.1.slots
def RetI (g : Gl) (X : Cx) (cc : ByteArray) (nL n k : Nat) (r : Int32) (ws : va_W) : Prop := ∀ (pc : Nat) (lv : List (Nat × Value)), decode cc pc = .ok (.ireturn, 1) → Vw g X nL n k ws pc lv [.int r]
def RetL (g : Gl) (X : Cx) (cc : ByteArray) (nL n k : Nat) (r : Int64) (ws : va_W) : Prop := ∀ (pc : Nat) (lv : List (Nat × Value)), decode cc pc = .ok (.lreturn, 1) → Vw g X nL n k ws pc lv [.long r]
def RetV (g : Gl) (X : Cx) (cc : ByteArray) (nL n k : Nat) (ws : va_W) : Prop := ∀ (pc : Nat) (lv : List (Nat × Value)), decode cc pc = .ok (.return_, 1) → Vw g X nL n k ws pc lv []
theorem inc1 (a : Nat) : nI a + Int32.ofInt 1 = nI (a + 1) := by rw [show Int32.ofInt 1 = 1 from by decide]; exact nI_1 a
theorem dec1 {a : Nat} (h : 1 ≤ a) : nI a + Int32.ofInt (-1) = nI (a - 1) := by
  obtain ⟨b, rfl⟩ : ∃ b, a = b + 1 := ⟨a - 1, by omega⟩
  rw [show Int32.ofInt (-1) = -1 from by decide]; exact pk_m1 b

theorem r_iconst {l : Launch} {g : Gl} {X : Cx} {own : String} {cc : ByteArray} {nL d n k pc : Nat} {ws : va_W} {lv : List (Nat × Value)} {rest : List Value} {a : Int} (v : Int32) (C : Ok l g X own cc nL d) (hd : decode cc pc = .ok (.iconst a, 1)) (hv : Int32.ofInt a = v) (kk : Vw g X nL n k ws (pc + 1) lv (.int v :: rest)) : Vw g X nL n k ws pc lv rest := by
  obtain ⟨p, l', e, R, s, m, args, below, meth, c, Q, A⟩ := X
  obtain ⟨rfl, hx, hb, hml, hown, hts, hK, hlk, hA, hfr, hlo⟩ := C
  intro H locs ls hP hD hS hl
  exact lv_iconst hx hb hd hv (kk H locs ls hP hD hS hl)

theorem r_bipush {l : Launch} {g : Gl} {X : Cx} {own : String} {cc : ByteArray} {nL d n k pc : Nat} {ws : va_W} {lv : List (Nat × Value)} {rest : List Value} {a : Int} (v : Int32) (C : Ok l g X own cc nL d) (hd : decode cc pc = .ok (.bipush a, 2)) (hv : (Int8.ofInt a).toInt32 = v) (kk : Vw g X nL n k ws (pc + 2) lv (.int v :: rest)) : Vw g X nL n k ws pc lv rest := by
  obtain ⟨p, l', e, R, s, m, args, below, meth, c, Q, A⟩ := X
  obtain ⟨rfl, hx, hb, hml, hown, hts, hK, hlk, hA, hfr, hlo⟩ := C
  intro H locs ls hP hD hS hl
  exact lv_bipush hx hb hd hv (kk H locs ls hP hD hS hl)

theorem r_sipush {l : Launch} {g : Gl} {X : Cx} {own : String} {cc : ByteArray} {nL d n k pc : Nat} {ws : va_W} {lv : List (Nat × Value)} {rest : List Value} {a : Int} (v : Int32) (C : Ok l g X own cc nL d) (hd : decode cc pc = .ok (.sipush a, 3)) (hv : (Int16.ofInt a).toInt32 = v) (kk : Vw g X nL n k ws (pc + 3) lv (.int v :: rest)) : Vw g X nL n k ws pc lv rest := by
  obtain ⟨p, l', e, R, s, m, args, below, meth, c, Q, A⟩ := X
  obtain ⟨rfl, hx, hb, hml, hown, hts, hK, hlk, hA, hfr, hlo⟩ := C
  intro H locs ls hP hD hS hl
  exact lv_sipush hx hb hd hv (kk H locs ls hP hD hS hl)

theorem r_lconst {l : Launch} {g : Gl} {X : Cx} {own : String} {cc : ByteArray} {nL d n k pc : Nat} {ws : va_W} {lv : List (Nat × Value)} {rest : List Value} {a : Fin 2} (v : Int64) (C : Ok l g X own cc nL d) (hd : decode cc pc = .ok (.lconst a, 1)) (hv : Int64.ofNat (a : Nat) = v) (kk : Vw g X nL n k ws (pc + 1) lv (.long v :: rest)) : Vw g X nL n k ws pc lv rest := by
  obtain ⟨p, l', e, R, s, m, args, below, meth, c, Q, A⟩ := X
  obtain ⟨rfl, hx, hb, hml, hown, hts, hK, hlk, hA, hfr, hlo⟩ := C
  intro H locs ls hP hD hS hl
  exact lv_lconst hx hb hd hv (kk H locs ls hP hD hS hl)

theorem r_ldc {l : Launch} {g : Gl} {X : Cx} {own : String} {cc : ByteArray} {nL d n k pc : Nat} {ws : va_W} {lv : List (Nat × Value)} {rest : List Value} {i : Nat} {v : Int32} (C : Ok l g X own cc nL d) (hd : decode cc pc = .ok (.ldc i, 2)) (hv : Cond.constant own i v ∈ BIG) (kk : Vw g X nL n k ws (pc + 2) lv (.int v :: rest)) : Vw g X nL n k ws pc lv rest := by
  obtain ⟨p, l', e, R, s, m, args, below, meth, c, Q, A⟩ := X
  obtain ⟨rfl, hx, hb, hml, hown, hts, hK, hlk, hA, hfr, hlo⟩ := C
  intro H locs ls hP hD hS hl
  exact lv_ldc hx hb hown (hts _ hv) hd (kk H locs ls hP hD hS hl)

theorem r_ldcw {l : Launch} {g : Gl} {X : Cx} {own : String} {cc : ByteArray} {nL d n k pc : Nat} {ws : va_W} {lv : List (Nat × Value)} {rest : List Value} {i : Nat} {v : Int32} (C : Ok l g X own cc nL d) (hd : decode cc pc = .ok (.ldc_w i, 3)) (hv : Cond.constant own i v ∈ BIG) (kk : Vw g X nL n k ws (pc + 3) lv (.int v :: rest)) : Vw g X nL n k ws pc lv rest := by
  obtain ⟨p, l', e, R, s, m, args, below, meth, c, Q, A⟩ := X
  obtain ⟨rfl, hx, hb, hml, hown, hts, hK, hlk, hA, hfr, hlo⟩ := C
  intro H locs ls hP hD hS hl
  exact lv_ldcw hx hb hown (hts _ hv) hd (kk H locs ls hP hD hS hl)

theorem r_ldc2 {l : Launch} {g : Gl} {X : Cx} {own : String} {cc : ByteArray} {nL d n k pc : Nat} {ws : va_W} {lv : List (Nat × Value)} {rest : List Value} {i : Nat} {v : Int64} (C : Ok l g X own cc nL d) (hd : decode cc pc = .ok (.ldc2_w i, 3)) (hv : Cond.constantLong own i v ∈ BIG) (kk : Vw g X nL n k ws (pc + 3) lv (.long v :: rest)) : Vw g X nL n k ws pc lv rest := by
  obtain ⟨p, l', e, R, s, m, args, below, meth, c, Q, A⟩ := X
  obtain ⟨rfl, hx, hb, hml, hown, hts, hK, hlk, hA, hfr, hlo⟩ := C
  intro H locs ls hP hD hS hl
  exact lv_ldc2 hx hb hown (hts _ hv) hd (kk H locs ls hP hD hS hl)

theorem r_iload_n {l : Launch} {g : Gl} {X : Cx} {own : String} {cc : ByteArray} {nL d n k pc : Nat} {ws : va_W} {lv : List (Nat × Value)} {rest : List Value} {i : Fin 4} {x : Int32} (C : Ok l g X own cc nL d) (hd : decode cc pc = .ok (.iload_n i, 1)) (j : Nat) (hj : lv[j]? = some ((i : Nat), .int x)) (kk : Vw g X nL n k ws (pc + 1) lv (.int x :: rest)) : Vw g X nL n k ws pc lv rest := by
  obtain ⟨p, l', e, R, s, m, args, below, meth, c, Q, A⟩ := X
  obtain ⟨rfl, hx, hb, hml, hown, hts, hK, hlk, hA, hfr, hlo⟩ := C
  intro H locs ls hP hD hS hl
  exact lv_iload_n hx hb hd rfl (lv_at hl j hj) (kk H locs ls hP hD hS hl)

theorem r_iload {l : Launch} {g : Gl} {X : Cx} {own : String} {cc : ByteArray} {nL d n k pc : Nat} {ws : va_W} {lv : List (Nat × Value)} {rest : List Value} {i : Nat} {x : Int32} (C : Ok l g X own cc nL d) (hd : decode cc pc = .ok (.iload i, 2)) (j : Nat) (hj : lv[j]? = some (i, .int x)) (kk : Vw g X nL n k ws (pc + 2) lv (.int x :: rest)) : Vw g X nL n k ws pc lv rest := by
  obtain ⟨p, l', e, R, s, m, args, below, meth, c, Q, A⟩ := X
  obtain ⟨rfl, hx, hb, hml, hown, hts, hK, hlk, hA, hfr, hlo⟩ := C
  intro H locs ls hP hD hS hl
  exact lv_iload hx hb hd (lv_at hl j hj) (kk H locs ls hP hD hS hl)

theorem r_lload_n {l : Launch} {g : Gl} {X : Cx} {own : String} {cc : ByteArray} {nL d n k pc : Nat} {ws : va_W} {lv : List (Nat × Value)} {rest : List Value} {i : Fin 4} {x : Int64} (C : Ok l g X own cc nL d) (hd : decode cc pc = .ok (.lload_n i, 1)) (j : Nat) (hj : lv[j]? = some ((i : Nat), .long x)) (kk : Vw g X nL n k ws (pc + 1) lv (.long x :: rest)) : Vw g X nL n k ws pc lv rest := by
  obtain ⟨p, l', e, R, s, m, args, below, meth, c, Q, A⟩ := X
  obtain ⟨rfl, hx, hb, hml, hown, hts, hK, hlk, hA, hfr, hlo⟩ := C
  intro H locs ls hP hD hS hl
  exact lv_lload_n hx hb hd rfl (lv_at hl j hj) (kk H locs ls hP hD hS hl)

theorem r_lload {l : Launch} {g : Gl} {X : Cx} {own : String} {cc : ByteArray} {nL d n k pc : Nat} {ws : va_W} {lv : List (Nat × Value)} {rest : List Value} {i : Nat} {x : Int64} (C : Ok l g X own cc nL d) (hd : decode cc pc = .ok (.lload i, 2)) (j : Nat) (hj : lv[j]? = some (i, .long x)) (kk : Vw g X nL n k ws (pc + 2) lv (.long x :: rest)) : Vw g X nL n k ws pc lv rest := by
  obtain ⟨p, l', e, R, s, m, args, below, meth, c, Q, A⟩ := X
  obtain ⟨rfl, hx, hb, hml, hown, hts, hK, hlk, hA, hfr, hlo⟩ := C
  intro H locs ls hP hD hS hl
  exact lv_lload hx hb hd (lv_at hl j hj) (kk H locs ls hP hD hS hl)

theorem r_aload_n {l : Launch} {g : Gl} {X : Cx} {own : String} {cc : ByteArray} {nL d n k pc : Nat} {ws : va_W} {lv : List (Nat × Value)} {rest : List Value} {i : Fin 4} {x : Nat} (C : Ok l g X own cc nL d) (hd : decode cc pc = .ok (.aload_n i, 1)) (j : Nat) (hj : lv[j]? = some ((i : Nat), .ref x)) (kk : Vw g X nL n k ws (pc + 1) lv (.ref x :: rest)) : Vw g X nL n k ws pc lv rest := by
  obtain ⟨p, l', e, R, s, m, args, below, meth, c, Q, A⟩ := X
  obtain ⟨rfl, hx, hb, hml, hown, hts, hK, hlk, hA, hfr, hlo⟩ := C
  intro H locs ls hP hD hS hl
  exact lv_aload_n hx hb hd rfl (lv_at hl j hj) (kk H locs ls hP hD hS hl)

theorem r_aload {l : Launch} {g : Gl} {X : Cx} {own : String} {cc : ByteArray} {nL d n k pc : Nat} {ws : va_W} {lv : List (Nat × Value)} {rest : List Value} {i : Nat} {x : Nat} (C : Ok l g X own cc nL d) (hd : decode cc pc = .ok (.aload i, 2)) (j : Nat) (hj : lv[j]? = some (i, .ref x)) (kk : Vw g X nL n k ws (pc + 2) lv (.ref x :: rest)) : Vw g X nL n k ws pc lv rest := by
  obtain ⟨p, l', e, R, s, m, args, below, meth, c, Q, A⟩ := X
  obtain ⟨rfl, hx, hb, hml, hown, hts, hK, hlk, hA, hfr, hlo⟩ := C
  intro H locs ls hP hD hS hl
  exact lv_aload hx hb hd (lv_at hl j hj) (kk H locs ls hP hD hS hl)

theorem r_istore_n {l : Launch} {g : Gl} {X : Cx} {own : String} {cc : ByteArray} {nL d n k pc : Nat} {ws : va_W} {lv : List (Nat × Value)} {rest : List Value} {i : Fin 4} {x : Int32} (lv' : List (Nat × Value)) (C : Ok l g X own cc nL d) (hd : decode cc pc = .ok (.istore_n i, 1)) (hn : (i : Nat) < nL) (hl' : ((i : Nat), Value.int x) :: lv.filter (fun q => !(q.1 == (i : Nat)) && !(q.1 + 1 == (i : Nat) && q.2.category == 2)) = lv') (kk : Vw g X nL n k ws (pc + 1) lv' rest) : Vw g X nL n k ws pc lv (.int x :: rest) := by
  obtain ⟨p, l', e, R, s, m, args, below, meth, c, Q, A⟩ := X
  obtain ⟨rfl, hx, hb, hml, hown, hts, hK, hlk, hA, hfr, hlo⟩ := C
  intro H locs ls hP hD hS hl
  exact lv_istore_n hx hb hd rfl hl hn hl' (fun ls' h' => kk H locs ls' hP hD hS h')

theorem r_istore {l : Launch} {g : Gl} {X : Cx} {own : String} {cc : ByteArray} {nL d n k pc : Nat} {ws : va_W} {lv : List (Nat × Value)} {rest : List Value} {i : Nat} {x : Int32} (lv' : List (Nat × Value)) (C : Ok l g X own cc nL d) (hd : decode cc pc = .ok (.istore i, 2)) (hn : i < nL) (hl' : (i, Value.int x) :: lv.filter (fun q => !(q.1 == i) && !(q.1 + 1 == i && q.2.category == 2)) = lv') (kk : Vw g X nL n k ws (pc + 2) lv' rest) : Vw g X nL n k ws pc lv (.int x :: rest) := by
  obtain ⟨p, l', e, R, s, m, args, below, meth, c, Q, A⟩ := X
  obtain ⟨rfl, hx, hb, hml, hown, hts, hK, hlk, hA, hfr, hlo⟩ := C
  intro H locs ls hP hD hS hl
  exact lv_istore hx hb hd hl hn hl' (fun ls' h' => kk H locs ls' hP hD hS h')

theorem r_astore_n {l : Launch} {g : Gl} {X : Cx} {own : String} {cc : ByteArray} {nL d n k pc : Nat} {ws : va_W} {lv : List (Nat × Value)} {rest : List Value} {i : Fin 4} {x : Nat} (lv' : List (Nat × Value)) (C : Ok l g X own cc nL d) (hd : decode cc pc = .ok (.astore_n i, 1)) (hn : (i : Nat) < nL) (hl' : ((i : Nat), Value.ref x) :: lv.filter (fun q => !(q.1 == (i : Nat)) && !(q.1 + 1 == (i : Nat) && q.2.category == 2)) = lv') (kk : Vw g X nL n k ws (pc + 1) lv' rest) : Vw g X nL n k ws pc lv (.ref x :: rest) := by
  obtain ⟨p, l', e, R, s, m, args, below, meth, c, Q, A⟩ := X
  obtain ⟨rfl, hx, hb, hml, hown, hts, hK, hlk, hA, hfr, hlo⟩ := C
  intro H locs ls hP hD hS hl
  exact lv_astore_n hx hb hd rfl hl hn hl' (fun ls' h' => kk H locs ls' hP hD hS h')

theorem r_astore {l : Launch} {g : Gl} {X : Cx} {own : String} {cc : ByteArray} {nL d n k pc : Nat} {ws : va_W} {lv : List (Nat × Value)} {rest : List Value} {i : Nat} {x : Nat} (lv' : List (Nat × Value)) (C : Ok l g X own cc nL d) (hd : decode cc pc = .ok (.astore i, 2)) (hn : i < nL) (hl' : (i, Value.ref x) :: lv.filter (fun q => !(q.1 == i) && !(q.1 + 1 == i && q.2.category == 2)) = lv') (kk : Vw g X nL n k ws (pc + 2) lv' rest) : Vw g X nL n k ws pc lv (.ref x :: rest) := by
  obtain ⟨p, l', e, R, s, m, args, below, meth, c, Q, A⟩ := X
  obtain ⟨rfl, hx, hb, hml, hown, hts, hK, hlk, hA, hfr, hlo⟩ := C
  intro H locs ls hP hD hS hl
  exact lv_astore hx hb hd hl hn hl' (fun ls' h' => kk H locs ls' hP hD hS h')

theorem r_iinc {l : Launch} {g : Gl} {X : Cx} {own : String} {cc : ByteArray} {nL d n k pc : Nat} {ws : va_W} {lv : List (Nat × Value)} {st : List Value} {i : Nat} {a : Int} {x : Int32} (v : Int32) (lv' : List (Nat × Value)) (C : Ok l g X own cc nL d) (hd : decode cc pc = .ok (.iinc i a, 3)) (j : Nat) (hj : lv[j]? = some (i, .int x)) (hv : x + Int32.ofInt a = v) (hn : i < nL) (hl' : (i, Value.int v) :: lv.filter (fun q => !(q.1 == i) && !(q.1 + 1 == i && q.2.category == 2)) = lv') (kk : Vw g X nL n k ws (pc + 3) lv' st) : Vw g X nL n k ws pc lv st := by
  obtain ⟨p, l', e, R, s, m, args, below, meth, c, Q, A⟩ := X
  obtain ⟨rfl, hx, hb, hml, hown, hts, hK, hlk, hA, hfr, hlo⟩ := C
  intro H locs ls hP hD hS hl
  exact lv_iinc hx hb hd hl hj hv hn hl' (fun ls' h' => kk H locs ls' hP hD hS h')

theorem r_iadd {l : Launch} {g : Gl} {X : Cx} {own : String} {cc : ByteArray} {nL d n k pc : Nat} {ws : va_W} {lv : List (Nat × Value)} {rest : List Value} {x y : Int32} (C : Ok l g X own cc nL d) (hd : decode cc pc = .ok (.iadd, 1))  (kk : Vw g X nL n k ws (pc + 1) lv (.int (x + y) :: rest)) : Vw g X nL n k ws pc lv (.int y :: .int x :: rest) := by
  obtain ⟨p, l', e, R, s, m, args, below, meth, c, Q, A⟩ := X
  obtain ⟨rfl, hx, hb, hml, hown, hts, hK, hlk, hA, hfr, hlo⟩ := C
  intro H locs ls hP hD hS hl
  exact lv_iadd hx hb hd (kk H locs ls hP hD hS hl)

theorem r_isub {l : Launch} {g : Gl} {X : Cx} {own : String} {cc : ByteArray} {nL d n k pc : Nat} {ws : va_W} {lv : List (Nat × Value)} {rest : List Value} {x y : Int32} (C : Ok l g X own cc nL d) (hd : decode cc pc = .ok (.isub, 1))  (kk : Vw g X nL n k ws (pc + 1) lv (.int (x - y) :: rest)) : Vw g X nL n k ws pc lv (.int y :: .int x :: rest) := by
  obtain ⟨p, l', e, R, s, m, args, below, meth, c, Q, A⟩ := X
  obtain ⟨rfl, hx, hb, hml, hown, hts, hK, hlk, hA, hfr, hlo⟩ := C
  intro H locs ls hP hD hS hl
  exact lv_isub hx hb hd (kk H locs ls hP hD hS hl)

theorem r_imul {l : Launch} {g : Gl} {X : Cx} {own : String} {cc : ByteArray} {nL d n k pc : Nat} {ws : va_W} {lv : List (Nat × Value)} {rest : List Value} {x y : Int32} (C : Ok l g X own cc nL d) (hd : decode cc pc = .ok (.imul, 1))  (kk : Vw g X nL n k ws (pc + 1) lv (.int (x * y) :: rest)) : Vw g X nL n k ws pc lv (.int y :: .int x :: rest) := by
  obtain ⟨p, l', e, R, s, m, args, below, meth, c, Q, A⟩ := X
  obtain ⟨rfl, hx, hb, hml, hown, hts, hK, hlk, hA, hfr, hlo⟩ := C
  intro H locs ls hP hD hS hl
  exact lv_imul hx hb hd (kk H locs ls hP hD hS hl)

theorem r_iand {l : Launch} {g : Gl} {X : Cx} {own : String} {cc : ByteArray} {nL d n k pc : Nat} {ws : va_W} {lv : List (Nat × Value)} {rest : List Value} {x y : Int32} (C : Ok l g X own cc nL d) (hd : decode cc pc = .ok (.iand, 1))  (kk : Vw g X nL n k ws (pc + 1) lv (.int (x &&& y) :: rest)) : Vw g X nL n k ws pc lv (.int y :: .int x :: rest) := by
  obtain ⟨p, l', e, R, s, m, args, below, meth, c, Q, A⟩ := X
  obtain ⟨rfl, hx, hb, hml, hown, hts, hK, hlk, hA, hfr, hlo⟩ := C
  intro H locs ls hP hD hS hl
  exact lv_iand hx hb hd (kk H locs ls hP hD hS hl)

theorem r_ior {l : Launch} {g : Gl} {X : Cx} {own : String} {cc : ByteArray} {nL d n k pc : Nat} {ws : va_W} {lv : List (Nat × Value)} {rest : List Value} {x y : Int32} (C : Ok l g X own cc nL d) (hd : decode cc pc = .ok (.ior, 1))  (kk : Vw g X nL n k ws (pc + 1) lv (.int (x ||| y) :: rest)) : Vw g X nL n k ws pc lv (.int y :: .int x :: rest) := by
  obtain ⟨p, l', e, R, s, m, args, below, meth, c, Q, A⟩ := X
  obtain ⟨rfl, hx, hb, hml, hown, hts, hK, hlk, hA, hfr, hlo⟩ := C
  intro H locs ls hP hD hS hl
  exact lv_ior hx hb hd (kk H locs ls hP hD hS hl)

theorem r_ixor {l : Launch} {g : Gl} {X : Cx} {own : String} {cc : ByteArray} {nL d n k pc : Nat} {ws : va_W} {lv : List (Nat × Value)} {rest : List Value} {x y : Int32} (C : Ok l g X own cc nL d) (hd : decode cc pc = .ok (.ixor, 1))  (kk : Vw g X nL n k ws (pc + 1) lv (.int (x ^^^ y) :: rest)) : Vw g X nL n k ws pc lv (.int y :: .int x :: rest) := by
  obtain ⟨p, l', e, R, s, m, args, below, meth, c, Q, A⟩ := X
  obtain ⟨rfl, hx, hb, hml, hown, hts, hK, hlk, hA, hfr, hlo⟩ := C
  intro H locs ls hP hD hS hl
  exact lv_ixor hx hb hd (kk H locs ls hP hD hS hl)

theorem r_ishl {l : Launch} {g : Gl} {X : Cx} {own : String} {cc : ByteArray} {nL d n k pc : Nat} {ws : va_W} {lv : List (Nat × Value)} {rest : List Value} {x y : Int32} (C : Ok l g X own cc nL d) (hd : decode cc pc = .ok (.ishl, 1))  (kk : Vw g X nL n k ws (pc + 1) lv (.int (x <<< (y &&& 31)) :: rest)) : Vw g X nL n k ws pc lv (.int y :: .int x :: rest) := by
  obtain ⟨p, l', e, R, s, m, args, below, meth, c, Q, A⟩ := X
  obtain ⟨rfl, hx, hb, hml, hown, hts, hK, hlk, hA, hfr, hlo⟩ := C
  intro H locs ls hP hD hS hl
  exact lv_ishl hx hb hd (kk H locs ls hP hD hS hl)

theorem r_ishr {l : Launch} {g : Gl} {X : Cx} {own : String} {cc : ByteArray} {nL d n k pc : Nat} {ws : va_W} {lv : List (Nat × Value)} {rest : List Value} {x y : Int32} (C : Ok l g X own cc nL d) (hd : decode cc pc = .ok (.ishr, 1))  (kk : Vw g X nL n k ws (pc + 1) lv (.int (x >>> (y &&& 31)) :: rest)) : Vw g X nL n k ws pc lv (.int y :: .int x :: rest) := by
  obtain ⟨p, l', e, R, s, m, args, below, meth, c, Q, A⟩ := X
  obtain ⟨rfl, hx, hb, hml, hown, hts, hK, hlk, hA, hfr, hlo⟩ := C
  intro H locs ls hP hD hS hl
  exact lv_ishr hx hb hd (kk H locs ls hP hD hS hl)

theorem r_iushr {l : Launch} {g : Gl} {X : Cx} {own : String} {cc : ByteArray} {nL d n k pc : Nat} {ws : va_W} {lv : List (Nat × Value)} {rest : List Value} {x y : Int32} (C : Ok l g X own cc nL d) (hd : decode cc pc = .ok (.iushr, 1))  (kk : Vw g X nL n k ws (pc + 1) lv (.int (x.toUInt32 >>> (y.toUInt32 &&& Int32.toUInt32 31)).toInt32 :: rest)) : Vw g X nL n k ws pc lv (.int y :: .int x :: rest) := by
  obtain ⟨p, l', e, R, s, m, args, below, meth, c, Q, A⟩ := X
  obtain ⟨rfl, hx, hb, hml, hown, hts, hK, hlk, hA, hfr, hlo⟩ := C
  intro H locs ls hP hD hS hl
  exact lv_iushr hx hb hd rfl (kk H locs ls hP hD hS hl)

theorem r_idiv {l : Launch} {g : Gl} {X : Cx} {own : String} {cc : ByteArray} {nL d n k pc : Nat} {ws : va_W} {lv : List (Nat × Value)} {rest : List Value} {x y : Int32} (C : Ok l g X own cc nL d) (hd : decode cc pc = .ok (.idiv, 1)) (hne : ¬ y = 0) (kk : Vw g X nL n k ws (pc + 1) lv (.int (x / y) :: rest)) : Vw g X nL n k ws pc lv (.int y :: .int x :: rest) := by
  obtain ⟨p, l', e, R, s, m, args, below, meth, c, Q, A⟩ := X
  obtain ⟨rfl, hx, hb, hml, hown, hts, hK, hlk, hA, hfr, hlo⟩ := C
  intro H locs ls hP hD hS hl
  exact lv_idiv hx hb hd hne (kk H locs ls hP hD hS hl)

theorem r_irem {l : Launch} {g : Gl} {X : Cx} {own : String} {cc : ByteArray} {nL d n k pc : Nat} {ws : va_W} {lv : List (Nat × Value)} {rest : List Value} {x y : Int32} (C : Ok l g X own cc nL d) (hd : decode cc pc = .ok (.irem, 1)) (hne : ¬ y = 0) (kk : Vw g X nL n k ws (pc + 1) lv (.int (x - x / y * y) :: rest)) : Vw g X nL n k ws pc lv (.int y :: .int x :: rest) := by
  obtain ⟨p, l', e, R, s, m, args, below, meth, c, Q, A⟩ := X
  obtain ⟨rfl, hx, hb, hml, hown, hts, hK, hlk, hA, hfr, hlo⟩ := C
  intro H locs ls hP hD hS hl
  exact lv_irem hx hb hd hne (kk H locs ls hP hD hS hl)

theorem r_iaddN {l : Launch} {g : Gl} {X : Cx} {own : String} {cc : ByteArray} {nL d n k pc : Nat} {ws : va_W} {lv : List (Nat × Value)} {rest : List Value} {x y : Int32} (a b : Nat) (C : Ok l g X own cc nL d) (hd : decode cc pc = .ok (.iadd, 1)) (hxa : x = nI a) (hyb : y = nI b)  (kk : Vw g X nL n k ws (pc + 1) lv (.int (nI (a + b)) :: rest)) : Vw g X nL n k ws pc lv (.int y :: .int x :: rest) := by
  obtain ⟨p, l', e, R, s, m, args, below, meth, c, Q, A⟩ := X
  obtain ⟨rfl, hx, hb, hml, hown, hts, hK, hlk, hA, hfr, hlo⟩ := C
  intro H locs ls hP hD hS hl
  subst hxa; subst hyb; refine lv_iadd hx hb hd ?_; rw [nI_add]; exact (kk H locs ls hP hD hS hl)

theorem r_isubN {l : Launch} {g : Gl} {X : Cx} {own : String} {cc : ByteArray} {nL d n k pc : Nat} {ws : va_W} {lv : List (Nat × Value)} {rest : List Value} {x y : Int32} (a b : Nat) (C : Ok l g X own cc nL d) (hd : decode cc pc = .ok (.isub, 1)) (hxa : x = nI a) (hyb : y = nI b) (hab : b ≤ a) (kk : Vw g X nL n k ws (pc + 1) lv (.int (nI (a - b)) :: rest)) : Vw g X nL n k ws pc lv (.int y :: .int x :: rest) := by
  obtain ⟨p, l', e, R, s, m, args, below, meth, c, Q, A⟩ := X
  obtain ⟨rfl, hx, hb, hml, hown, hts, hK, hlk, hA, hfr, hlo⟩ := C
  intro H locs ls hP hD hS hl
  subst hxa; subst hyb; refine lv_isub hx hb hd ?_; rw [pk_sub hab]; exact (kk H locs ls hP hD hS hl)

theorem r_imulN {l : Launch} {g : Gl} {X : Cx} {own : String} {cc : ByteArray} {nL d n k pc : Nat} {ws : va_W} {lv : List (Nat × Value)} {rest : List Value} {x y : Int32} (a b : Nat) (C : Ok l g X own cc nL d) (hd : decode cc pc = .ok (.imul, 1)) (hxa : x = nI a) (hyb : y = nI b)  (kk : Vw g X nL n k ws (pc + 1) lv (.int (nI (a * b)) :: rest)) : Vw g X nL n k ws pc lv (.int y :: .int x :: rest) := by
  obtain ⟨p, l', e, R, s, m, args, below, meth, c, Q, A⟩ := X
  obtain ⟨rfl, hx, hb, hml, hown, hts, hK, hlk, hA, hfr, hlo⟩ := C
  intro H locs ls hP hD hS hl
  subst hxa; subst hyb; refine lv_imul hx hb hd ?_; rw [pk_mul]; exact (kk H locs ls hP hD hS hl)

theorem r_idivN {l : Launch} {g : Gl} {X : Cx} {own : String} {cc : ByteArray} {nL d n k pc : Nat} {ws : va_W} {lv : List (Nat × Value)} {rest : List Value} {x y : Int32} (a b : Nat) (C : Ok l g X own cc nL d) (hd : decode cc pc = .ok (.idiv, 1)) (hxa : x = nI a) (hyb : y = nI b) (ha : a < 2 ^ 31) (hb0 : 0 < b) (hb2 : b < 2 ^ 31) (kk : Vw g X nL n k ws (pc + 1) lv (.int (nI (a / b)) :: rest)) : Vw g X nL n k ws pc lv (.int y :: .int x :: rest) := by
  obtain ⟨p, l', e, R, s, m, args, below, meth, c, Q, A⟩ := X
  obtain ⟨rfl, hx, hb, hml, hown, hts, hK, hlk, hA, hfr, hlo⟩ := C
  intro H locs ls hP hD hS hl
  subst hxa; subst hyb; refine lv_idiv hx hb hd (nI_ne0 hb0 hb2) ?_; rw [pk_div ha hb0 hb2]; exact (kk H locs ls hP hD hS hl)

theorem r_iremN {l : Launch} {g : Gl} {X : Cx} {own : String} {cc : ByteArray} {nL d n k pc : Nat} {ws : va_W} {lv : List (Nat × Value)} {rest : List Value} {x y : Int32} (a b : Nat) (C : Ok l g X own cc nL d) (hd : decode cc pc = .ok (.irem, 1)) (hxa : x = nI a) (hyb : y = nI b) (ha : a < 2 ^ 31) (hb0 : 0 < b) (hb2 : b < 2 ^ 31) (kk : Vw g X nL n k ws (pc + 1) lv (.int (nI (a % b)) :: rest)) : Vw g X nL n k ws pc lv (.int y :: .int x :: rest) := by
  obtain ⟨p, l', e, R, s, m, args, below, meth, c, Q, A⟩ := X
  obtain ⟨rfl, hx, hb, hml, hown, hts, hK, hlk, hA, hfr, hlo⟩ := C
  intro H locs ls hP hD hS hl
  subst hxa; subst hyb; refine lv_irem hx hb hd (nI_ne0 hb0 hb2) ?_; rw [pk_rem ha hb0 hb2]; exact (kk H locs ls hP hD hS hl)

theorem r_ladd {l : Launch} {g : Gl} {X : Cx} {own : String} {cc : ByteArray} {nL d n k pc : Nat} {ws : va_W} {lv : List (Nat × Value)} {rest : List Value} {x y : Int64} (C : Ok l g X own cc nL d) (hd : decode cc pc = .ok (.ladd, 1))  (kk : Vw g X nL n k ws (pc + 1) lv (.long (x + y) :: rest)) : Vw g X nL n k ws pc lv (.long y :: .long x :: rest) := by
  obtain ⟨p, l', e, R, s, m, args, below, meth, c, Q, A⟩ := X
  obtain ⟨rfl, hx, hb, hml, hown, hts, hK, hlk, hA, hfr, hlo⟩ := C
  intro H locs ls hP hD hS hl
  exact lv_ladd hx hb hd (kk H locs ls hP hD hS hl)

theorem r_i2l {l : Launch} {g : Gl} {X : Cx} {own : String} {cc : ByteArray} {nL d n k pc : Nat} {ws : va_W} {lv : List (Nat × Value)} {rest : List Value} {x : Int32} (C : Ok l g X own cc nL d) (hd : decode cc pc = .ok (.i2l, 1))  (kk : Vw g X nL n k ws (pc + 1) lv (.long x.toInt64 :: rest)) : Vw g X nL n k ws pc lv (.int x :: rest) := by
  obtain ⟨p, l', e, R, s, m, args, below, meth, c, Q, A⟩ := X
  obtain ⟨rfl, hx, hb, hml, hown, hts, hK, hlk, hA, hfr, hlo⟩ := C
  intro H locs ls hP hD hS hl
  exact lv_i2l hx hb hd rfl (kk H locs ls hP hD hS hl)

theorem r_i2b {l : Launch} {g : Gl} {X : Cx} {own : String} {cc : ByteArray} {nL d n k pc : Nat} {ws : va_W} {lv : List (Nat × Value)} {rest : List Value} {x : Int32} (C : Ok l g X own cc nL d) (hd : decode cc pc = .ok (.i2b, 1))  (kk : Vw g X nL n k ws (pc + 1) lv (.int x.toInt8.toInt32 :: rest)) : Vw g X nL n k ws pc lv (.int x :: rest) := by
  obtain ⟨p, l', e, R, s, m, args, below, meth, c, Q, A⟩ := X
  obtain ⟨rfl, hx, hb, hml, hown, hts, hK, hlk, hA, hfr, hlo⟩ := C
  intro H locs ls hP hD hS hl
  exact lv_i2b hx hb hd rfl (kk H locs ls hP hD hS hl)

theorem r_lcmp {l : Launch} {g : Gl} {X : Cx} {own : String} {cc : ByteArray} {nL d n k pc : Nat} {ws : va_W} {lv : List (Nat × Value)} {rest : List Value} {x y : Int64} (C : Ok l g X own cc nL d) (hd : decode cc pc = .ok (.lcmp, 1))  (kk : Vw g X nL n k ws (pc + 1) lv (.int (lg_cmp x y) :: rest)) : Vw g X nL n k ws pc lv (.long y :: .long x :: rest) := by
  obtain ⟨p, l', e, R, s, m, args, below, meth, c, Q, A⟩ := X
  obtain ⟨rfl, hx, hb, hml, hown, hts, hK, hlk, hA, hfr, hlo⟩ := C
  intro H locs ls hP hD hS hl
  exact W.lcmp hx hb hd (kk H locs ls hP hD hS hl)

theorem r_dup {l : Launch} {g : Gl} {X : Cx} {own : String} {cc : ByteArray} {nL d n k pc : Nat} {ws : va_W} {lv : List (Nat × Value)} {rest : List Value} {a : Value} (C : Ok l g X own cc nL d) (hd : decode cc pc = .ok (.dup, 1)) (hc : a.category = 1) (kk : Vw g X nL n k ws (pc + 1) lv (a :: a :: rest)) : Vw g X nL n k ws pc lv (a :: rest) := by
  obtain ⟨p, l', e, R, s, m, args, below, meth, c, Q, A⟩ := X
  obtain ⟨rfl, hx, hb, hml, hown, hts, hK, hlk, hA, hfr, hlo⟩ := C
  intro H locs ls hP hD hS hl
  exact lv_dup hx hb hd hc (kk H locs ls hP hD hS hl)

theorem r_pop {l : Launch} {g : Gl} {X : Cx} {own : String} {cc : ByteArray} {nL d n k pc : Nat} {ws : va_W} {lv : List (Nat × Value)} {rest : List Value} {a : Value} (C : Ok l g X own cc nL d) (hd : decode cc pc = .ok (.pop, 1)) (hc : a.category = 1) (kk : Vw g X nL n k ws (pc + 1) lv rest) : Vw g X nL n k ws pc lv (a :: rest) := by
  obtain ⟨p, l', e, R, s, m, args, below, meth, c, Q, A⟩ := X
  obtain ⟨rfl, hx, hb, hml, hown, hts, hK, hlk, hA, hfr, hlo⟩ := C
  intro H locs ls hP hD hS hl
  exact lv_pop hx hb hd hc (kk H locs ls hP hD hS hl)

theorem r_dup2 {l : Launch} {g : Gl} {X : Cx} {own : String} {cc : ByteArray} {nL d n k pc : Nat} {ws : va_W} {lv : List (Nat × Value)} {rest : List Value} {a b : Value} (C : Ok l g X own cc nL d) (hd : decode cc pc = .ok (.dup2, 1)) (hc : a.category = 1) (hc2 : b.category = 1) (kk : Vw g X nL n k ws (pc + 1) lv (a :: b :: a :: b :: rest)) : Vw g X nL n k ws pc lv (a :: b :: rest) := by
  obtain ⟨p, l', e, R, s, m, args, below, meth, c, Q, A⟩ := X
  obtain ⟨rfl, hx, hb, hml, hown, hts, hK, hlk, hA, hfr, hlo⟩ := C
  intro H locs ls hP hD hS hl
  exact lv_dup2_11 hx hb hd hc hc2 (kk H locs ls hP hD hS hl)

theorem r_ifeq {l : Launch} {g : Gl} {X : Cx} {own : String} {cc : ByteArray} {nL d n k pc : Nat} {ws : va_W} {lv : List (Nat × Value)} {rest : List Value} {x : Int32} {off : Int} (tgt : Nat) (C : Ok l g X own cc nL d) (hd : decode cc pc = .ok (.ifCond .eq off, 3)) (ht : (pc : Int) + off = (tgt : Int)) (kt : x = 0 → Vw g X nL n k ws tgt lv rest) (kf : ¬ x = 0 → Vw g X nL n k ws (pc + 3) lv rest) : Vw g X nL n k ws pc lv (.int x :: rest) := by
  obtain ⟨p, l', e, R, s, m, args, below, meth, c, Q, A⟩ := X
  obtain ⟨rfl, hx, hb, hml, hown, hts, hK, hlk, hA, hfr, hlo⟩ := C
  intro H locs ls hP hD hS hl
  exact lv_if_eq hx hb hd ht (fun h => kt h H locs ls hP hD hS hl) (fun h => kf h H locs ls hP hD hS hl)

theorem r_ifne {l : Launch} {g : Gl} {X : Cx} {own : String} {cc : ByteArray} {nL d n k pc : Nat} {ws : va_W} {lv : List (Nat × Value)} {rest : List Value} {x : Int32} {off : Int} (tgt : Nat) (C : Ok l g X own cc nL d) (hd : decode cc pc = .ok (.ifCond .ne off, 3)) (ht : (pc : Int) + off = (tgt : Int)) (kt : ¬ x = 0 → Vw g X nL n k ws tgt lv rest) (kf : x = 0 → Vw g X nL n k ws (pc + 3) lv rest) : Vw g X nL n k ws pc lv (.int x :: rest) := by
  obtain ⟨p, l', e, R, s, m, args, below, meth, c, Q, A⟩ := X
  obtain ⟨rfl, hx, hb, hml, hown, hts, hK, hlk, hA, hfr, hlo⟩ := C
  intro H locs ls hP hD hS hl
  exact lv_if_ne hx hb hd ht (fun h => kt h H locs ls hP hD hS hl) (fun h => kf h H locs ls hP hD hS hl)

theorem r_iflt {l : Launch} {g : Gl} {X : Cx} {own : String} {cc : ByteArray} {nL d n k pc : Nat} {ws : va_W} {lv : List (Nat × Value)} {rest : List Value} {x : Int32} {off : Int} (tgt : Nat) (C : Ok l g X own cc nL d) (hd : decode cc pc = .ok (.ifCond .lt off, 3)) (ht : (pc : Int) + off = (tgt : Int)) (kt : x < 0 → Vw g X nL n k ws tgt lv rest) (kf : ¬ x < 0 → Vw g X nL n k ws (pc + 3) lv rest) : Vw g X nL n k ws pc lv (.int x :: rest) := by
  obtain ⟨p, l', e, R, s, m, args, below, meth, c, Q, A⟩ := X
  obtain ⟨rfl, hx, hb, hml, hown, hts, hK, hlk, hA, hfr, hlo⟩ := C
  intro H locs ls hP hD hS hl
  exact lv_if_lt hx hb hd ht (fun h => kt h H locs ls hP hD hS hl) (fun h => kf h H locs ls hP hD hS hl)

theorem r_ifge {l : Launch} {g : Gl} {X : Cx} {own : String} {cc : ByteArray} {nL d n k pc : Nat} {ws : va_W} {lv : List (Nat × Value)} {rest : List Value} {x : Int32} {off : Int} (tgt : Nat) (C : Ok l g X own cc nL d) (hd : decode cc pc = .ok (.ifCond .ge off, 3)) (ht : (pc : Int) + off = (tgt : Int)) (kt : 0 ≤ x → Vw g X nL n k ws tgt lv rest) (kf : ¬ 0 ≤ x → Vw g X nL n k ws (pc + 3) lv rest) : Vw g X nL n k ws pc lv (.int x :: rest) := by
  obtain ⟨p, l', e, R, s, m, args, below, meth, c, Q, A⟩ := X
  obtain ⟨rfl, hx, hb, hml, hown, hts, hK, hlk, hA, hfr, hlo⟩ := C
  intro H locs ls hP hD hS hl
  exact lv_if_ge hx hb hd ht (fun h => kt h H locs ls hP hD hS hl) (fun h => kf h H locs ls hP hD hS hl)

theorem r_ifgt {l : Launch} {g : Gl} {X : Cx} {own : String} {cc : ByteArray} {nL d n k pc : Nat} {ws : va_W} {lv : List (Nat × Value)} {rest : List Value} {x : Int32} {off : Int} (tgt : Nat) (C : Ok l g X own cc nL d) (hd : decode cc pc = .ok (.ifCond .gt off, 3)) (ht : (pc : Int) + off = (tgt : Int)) (kt : 0 < x → Vw g X nL n k ws tgt lv rest) (kf : ¬ 0 < x → Vw g X nL n k ws (pc + 3) lv rest) : Vw g X nL n k ws pc lv (.int x :: rest) := by
  obtain ⟨p, l', e, R, s, m, args, below, meth, c, Q, A⟩ := X
  obtain ⟨rfl, hx, hb, hml, hown, hts, hK, hlk, hA, hfr, hlo⟩ := C
  intro H locs ls hP hD hS hl
  exact lv_if_gt hx hb hd ht (fun h => kt h H locs ls hP hD hS hl) (fun h => kf h H locs ls hP hD hS hl)

theorem r_ifle {l : Launch} {g : Gl} {X : Cx} {own : String} {cc : ByteArray} {nL d n k pc : Nat} {ws : va_W} {lv : List (Nat × Value)} {rest : List Value} {x : Int32} {off : Int} (tgt : Nat) (C : Ok l g X own cc nL d) (hd : decode cc pc = .ok (.ifCond .le off, 3)) (ht : (pc : Int) + off = (tgt : Int)) (kt : x ≤ 0 → Vw g X nL n k ws tgt lv rest) (kf : ¬ x ≤ 0 → Vw g X nL n k ws (pc + 3) lv rest) : Vw g X nL n k ws pc lv (.int x :: rest) := by
  obtain ⟨p, l', e, R, s, m, args, below, meth, c, Q, A⟩ := X
  obtain ⟨rfl, hx, hb, hml, hown, hts, hK, hlk, hA, hfr, hlo⟩ := C
  intro H locs ls hP hD hS hl
  exact lv_if_le hx hb hd ht (fun h => kt h H locs ls hP hD hS hl) (fun h => kf h H locs ls hP hD hS hl)

theorem r_icmpeq {l : Launch} {g : Gl} {X : Cx} {own : String} {cc : ByteArray} {nL d n k pc : Nat} {ws : va_W} {lv : List (Nat × Value)} {rest : List Value} {x y : Int32} {off : Int} (tgt : Nat) (C : Ok l g X own cc nL d) (hd : decode cc pc = .ok (.if_icmp .eq off, 3)) (ht : (pc : Int) + off = (tgt : Int)) (kt : x = y → Vw g X nL n k ws tgt lv rest) (kf : ¬ x = y → Vw g X nL n k ws (pc + 3) lv rest) : Vw g X nL n k ws pc lv (.int y :: .int x :: rest) := by
  obtain ⟨p, l', e, R, s, m, args, below, meth, c, Q, A⟩ := X
  obtain ⟨rfl, hx, hb, hml, hown, hts, hK, hlk, hA, hfr, hlo⟩ := C
  intro H locs ls hP hD hS hl
  exact lv_icmp_eq hx hb hd ht (fun h => kt h H locs ls hP hD hS hl) (fun h => kf h H locs ls hP hD hS hl)

theorem r_icmpne {l : Launch} {g : Gl} {X : Cx} {own : String} {cc : ByteArray} {nL d n k pc : Nat} {ws : va_W} {lv : List (Nat × Value)} {rest : List Value} {x y : Int32} {off : Int} (tgt : Nat) (C : Ok l g X own cc nL d) (hd : decode cc pc = .ok (.if_icmp .ne off, 3)) (ht : (pc : Int) + off = (tgt : Int)) (kt : ¬ x = y → Vw g X nL n k ws tgt lv rest) (kf : x = y → Vw g X nL n k ws (pc + 3) lv rest) : Vw g X nL n k ws pc lv (.int y :: .int x :: rest) := by
  obtain ⟨p, l', e, R, s, m, args, below, meth, c, Q, A⟩ := X
  obtain ⟨rfl, hx, hb, hml, hown, hts, hK, hlk, hA, hfr, hlo⟩ := C
  intro H locs ls hP hD hS hl
  exact lv_icmp_ne hx hb hd ht (fun h => kt h H locs ls hP hD hS hl) (fun h => kf h H locs ls hP hD hS hl)

theorem r_icmplt {l : Launch} {g : Gl} {X : Cx} {own : String} {cc : ByteArray} {nL d n k pc : Nat} {ws : va_W} {lv : List (Nat × Value)} {rest : List Value} {x y : Int32} {off : Int} (tgt : Nat) (C : Ok l g X own cc nL d) (hd : decode cc pc = .ok (.if_icmp .lt off, 3)) (ht : (pc : Int) + off = (tgt : Int)) (kt : x < y → Vw g X nL n k ws tgt lv rest) (kf : ¬ x < y → Vw g X nL n k ws (pc + 3) lv rest) : Vw g X nL n k ws pc lv (.int y :: .int x :: rest) := by
  obtain ⟨p, l', e, R, s, m, args, below, meth, c, Q, A⟩ := X
  obtain ⟨rfl, hx, hb, hml, hown, hts, hK, hlk, hA, hfr, hlo⟩ := C
  intro H locs ls hP hD hS hl
  exact lv_icmp_lt hx hb hd ht (fun h => kt h H locs ls hP hD hS hl) (fun h => kf h H locs ls hP hD hS hl)

theorem r_icmpge {l : Launch} {g : Gl} {X : Cx} {own : String} {cc : ByteArray} {nL d n k pc : Nat} {ws : va_W} {lv : List (Nat × Value)} {rest : List Value} {x y : Int32} {off : Int} (tgt : Nat) (C : Ok l g X own cc nL d) (hd : decode cc pc = .ok (.if_icmp .ge off, 3)) (ht : (pc : Int) + off = (tgt : Int)) (kt : y ≤ x → Vw g X nL n k ws tgt lv rest) (kf : ¬ y ≤ x → Vw g X nL n k ws (pc + 3) lv rest) : Vw g X nL n k ws pc lv (.int y :: .int x :: rest) := by
  obtain ⟨p, l', e, R, s, m, args, below, meth, c, Q, A⟩ := X
  obtain ⟨rfl, hx, hb, hml, hown, hts, hK, hlk, hA, hfr, hlo⟩ := C
  intro H locs ls hP hD hS hl
  exact lv_icmp_ge hx hb hd ht (fun h => kt h H locs ls hP hD hS hl) (fun h => kf h H locs ls hP hD hS hl)

theorem r_icmpgt {l : Launch} {g : Gl} {X : Cx} {own : String} {cc : ByteArray} {nL d n k pc : Nat} {ws : va_W} {lv : List (Nat × Value)} {rest : List Value} {x y : Int32} {off : Int} (tgt : Nat) (C : Ok l g X own cc nL d) (hd : decode cc pc = .ok (.if_icmp .gt off, 3)) (ht : (pc : Int) + off = (tgt : Int)) (kt : y < x → Vw g X nL n k ws tgt lv rest) (kf : ¬ y < x → Vw g X nL n k ws (pc + 3) lv rest) : Vw g X nL n k ws pc lv (.int y :: .int x :: rest) := by
  obtain ⟨p, l', e, R, s, m, args, below, meth, c, Q, A⟩ := X
  obtain ⟨rfl, hx, hb, hml, hown, hts, hK, hlk, hA, hfr, hlo⟩ := C
  intro H locs ls hP hD hS hl
  exact lv_icmp_gt hx hb hd ht (fun h => kt h H locs ls hP hD hS hl) (fun h => kf h H locs ls hP hD hS hl)

theorem r_icmple {l : Launch} {g : Gl} {X : Cx} {own : String} {cc : ByteArray} {nL d n k pc : Nat} {ws : va_W} {lv : List (Nat × Value)} {rest : List Value} {x y : Int32} {off : Int} (tgt : Nat) (C : Ok l g X own cc nL d) (hd : decode cc pc = .ok (.if_icmp .le off, 3)) (ht : (pc : Int) + off = (tgt : Int)) (kt : x ≤ y → Vw g X nL n k ws tgt lv rest) (kf : ¬ x ≤ y → Vw g X nL n k ws (pc + 3) lv rest) : Vw g X nL n k ws pc lv (.int y :: .int x :: rest) := by
  obtain ⟨p, l', e, R, s, m, args, below, meth, c, Q, A⟩ := X
  obtain ⟨rfl, hx, hb, hml, hown, hts, hK, hlk, hA, hfr, hlo⟩ := C
  intro H locs ls hP hD hS hl
  exact lv_icmp_le hx hb hd ht (fun h => kt h H locs ls hP hD hS hl) (fun h => kf h H locs ls hP hD hS hl)

theorem r_goto {l : Launch} {g : Gl} {X : Cx} {own : String} {cc : ByteArray} {nL d n k pc : Nat} {ws : va_W} {lv : List (Nat × Value)} {st : List Value} {off : Int} (tgt : Nat) (C : Ok l g X own cc nL d) (hd : decode cc pc = .ok (.goto off, 3)) (ht : (pc : Int) + off = (tgt : Int)) (kk : Vw g X nL n k ws tgt lv st) : Vw g X nL n k ws pc lv st := by
  obtain ⟨p, l', e, R, s, m, args, below, meth, c, Q, A⟩ := X
  obtain ⟨rfl, hx, hb, hml, hown, hts, hK, hlk, hA, hfr, hlo⟩ := C
  intro H locs ls hP hD hS hl
  exact lv_goto hx hb hd ht (kk H locs ls hP hD hS hl)

theorem r_topi {l : Launch} {g : Gl} {X : Cx} {own : String} {cc : ByteArray} {nL d n k pc : Nat} {ws : va_W} {lv : List (Nat × Value)} {rest : List Value} {x : Int32} (kk : ∀ z : Int32, z = x → Vw g X nL n k ws pc lv (.int z :: rest)) : Vw g X nL n k ws pc lv (.int x :: rest) := kk x rfl
theorem r_lv {l : Launch} {g : Gl} {X : Cx} {own : String} {cc : ByteArray} {nL d n k pc : Nat} {ws : va_W} {lv : List (Nat × Value)} {st : List Value} (lv' : List (Nat × Value)) (ks : List Nat) (h : lv_pick lv ks = lv') (kk : Vw g X nL n k ws pc lv' st) : Vw g X nL n k ws pc lv st := by
  obtain ⟨p, l', e, R, s, m, args, below, meth, c, Q, A⟩ := X
  exact fun H locs ls hP hD hS hl => kk H locs ls hP hD hS (lv_sub hl ks h)
theorem r_ws {l : Launch} {g : Gl} {X : Cx} {own : String} {cc : ByteArray} {nL d n k pc : Nat} {ws : va_W} {lv : List (Nat × Value)} {st : List Value} (ws' : va_W) (h : ws = ws') (kk : Vw g X nL n k ws' pc lv st) : Vw g X nL n k ws pc lv st := h ▸ kk
theorem r_st {l : Launch} {g : Gl} {X : Cx} {own : String} {cc : ByteArray} {nL d n k pc : Nat} {ws : va_W} {lv : List (Nat × Value)} {st : List Value} (st' : List Value) (h : st = st') (kk : Vw g X nL n k ws pc lv st') : Vw g X nL n k ws pc lv st := h ▸ kk
theorem r_tabIn {l : Launch} {g : Gl} {X : Cx} {own : String} {cc : ByteArray} {nL d n k pc : Nat} {ws : va_W} {lv : List (Nat × Value)} {rest : List Value} {dflt lo hi : Int} {offs : Array Int} {len : Nat} {x : Int32} (v : Int32) (off : Int) (tgt : Nat) (C : Ok l g X own cc nL d) (hd : decode cc pc = .ok (.tableswitch dflt lo hi offs, len)) (hxv : x = v) (h1 : ¬ v.toInt < lo) (h2 : ¬ hi < v.toInt) (ho : offs[(v.toInt - lo).toNat]? = some off) (ht : (pc : Int) + off = (tgt : Int)) (kk : Vw g X nL n k ws tgt lv rest) : Vw g X nL n k ws pc lv (.int x :: rest) := by
  obtain ⟨p, l', e, R, s, m, args, below, meth, c, Q, A⟩ := X
  obtain ⟨rfl, hx, hb, hml, hown, hts, hK, hlk, hA, hfr, hlo⟩ := C
  intro H locs ls hP hD hS hl
  subst hxv; exact lv_tableIn hx hb hd h1 h2 ho ht (kk H locs ls hP hD hS hl)
theorem r_tabOut {l : Launch} {g : Gl} {X : Cx} {own : String} {cc : ByteArray} {nL d n k pc : Nat} {ws : va_W} {lv : List (Nat × Value)} {rest : List Value} {dflt lo hi : Int} {offs : Array Int} {len : Nat} {x : Int32} (tgt : Nat) (C : Ok l g X own cc nL d) (hd : decode cc pc = .ok (.tableswitch dflt lo hi offs, len)) (h : x.toInt < lo ∨ hi < x.toInt) (ht : (pc : Int) + dflt = (tgt : Int)) (kk : Vw g X nL n k ws tgt lv rest) : Vw g X nL n k ws pc lv (.int x :: rest) := by
  obtain ⟨p, l', e, R, s, m, args, below, meth, c, Q, A⟩ := X
  obtain ⟨rfl, hx, hb, hml, hown, hts, hK, hlk, hA, hfr, hlo⟩ := C
  intro H locs ls hP hD hS hl
  exact lv_tableOut hx hb hd h ht (kk H locs ls hP hD hS hl)
theorem r_lookup {l : Launch} {g : Gl} {X : Cx} {own : String} {cc : ByteArray} {nL d n k pc : Nat} {ws : va_W} {lv : List (Nat × Value)} {rest : List Value} {dflt : Int} {ps : Array (Int × Int)} {len : Nat} {x : Int32} {off : Int} (tgt : Nat) (C : Ok l g X own cc nL d) (hd : decode cc pc = .ok (.lookupswitch dflt ps, len)) (hp : (ps.toList.zip (ps.toList.drop 1)).all (fun (a, next) => a.1 < next.1) = true) (ho : Op.lookupswitch.offset ps.toList dflt x.toInt = off) (ht : (pc : Int) + off = (tgt : Int)) (kk : Vw g X nL n k ws tgt lv rest) : Vw g X nL n k ws pc lv (.int x :: rest) := by
  obtain ⟨p, l', e, R, s, m, args, below, meth, c, Q, A⟩ := X
  obtain ⟨rfl, hx, hb, hml, hown, hts, hK, hlk, hA, hfr, hlo⟩ := C
  intro H locs ls hP hD hS hl
  exact lv_lookup hx hb hd hp ho ht (kk H locs ls hP hD hS hl)

def FL (own : String) (index ci kf : Nat) : Prop := ∃ (C : String) (T : u_T) (N : Nat), vwCl[ci]? = some (C, T, N) ∧ kf < N ∧ (∀ w ∈ u_ws C T N, w ∈ BIG) ∧ (T kf).1 = C ∧ (Cond.fieldLink own index C (T kf).2.1 (T kf).2.2.1 ∈ BIG ∨ ∃ host, Cond.fieldLinkNest own index C (T kf).2.1 (T kf).2.2.1 host ∈ NSL)
def FP (own : String) (index ci kf : Nat) (ty : FieldType) : Prop := ∃ (C : String) (T : u_T) (N : Nat), vwCl[ci]? = some (C, T, N) ∧ kf < N ∧ (∀ w ∈ u_ws C T N, w ∈ BIG) ∧ (T kf).1 = C ∧ (Cond.fieldLink own index C (T kf).2.1 (T kf).2.2.1 ∈ BIG ∨ ∃ host, Cond.fieldLinkNest own index C (T kf).2.1 (T kf).2.2.1 host ∈ NSL) ∧ (T kf).2.2.2 = false ∧ parseFieldDescriptor (T kf).2.2.1 = some ty ∧ (∃ ty0 : Nat → FieldType, ∀ k, k < N → parseFieldDescriptor (T k).2.2.1 = some (ty0 k)) ∧ (∀ a, a < N → ∀ b, b < N → a ≠ b → (T a).2.1 ≠ (T b).2.1)
def FF (own : String) (index ci kf : Nat) (ty : FieldType) : Prop := ∃ (T : u_T) (N : Nat), vwCl[ci]? = some (own, T, N) ∧ kf < N ∧ (∀ w ∈ u_ws own T N, w ∈ BIG) ∧ (T kf).1 = own ∧ Cond.fieldLink own index own (T kf).2.1 (T kf).2.2.1 ∈ BIG ∧ (T kf).2.2.2 = true ∧ parseFieldDescriptor (T kf).2.2.1 = some ty ∧ (∃ ty0 : Nat → FieldType, ∀ k, k < N → parseFieldDescriptor (T k).2.2.1 = some (ty0 k)) ∧ (∀ a, a < N → ∀ b, b < N → a ≠ b → (T a).2.1 ≠ (T b).2.1)

theorem r_get {l : Launch} {g : Gl} {X : Cx} {own : String} {cc : ByteArray} {nL d n k pc : Nat} {ws : va_W} {lv : List (Nat × Value)} {rest : List Value} {index ci kf a : Nat} {fs : List Value} {v : Value} (C : Ok l g X own cc nL d) (F : FL own index ci kf) (hd : decode cc pc = .ok (.getfield index, 3)) (q0 : Nat) (he : ws[q0]? = some (a, .inr (ci, fs))) (hv : fs[kf]? = some v) (kk : Vw g X nL n k ws (pc + 3) lv (v :: rest)) : Vw g X nL n k ws pc lv (.ref a :: rest) := by
  obtain ⟨p, l', e, R, s, m, args, below, meth, c, Q, A⟩ := X
  obtain ⟨rfl, hx, hb, hml, hown, hts, hK, hlk, hA, hfr, hlo⟩ := C
  intro H locs ls hP hD hS hl
  obtain ⟨Cn, T, N, hc, hk, hin, hC, hlink⟩ := F
  rcases hlink with hlink | ⟨host, hlink⟩
  · exact va_get hx hb hts hin hown hK.1 hP q0 he hc kf hk (hts _ hlink) (fun x h => by rw [hC] at h; exact h) hv hd (kk H locs ls hP hD hS hl)
  · exact va_getN hx hb hts hin hown hK.1 hP q0 he hc kf hk (va_Nw.use rfl (hK.2.1 _ hlink)) (fun x h => by rw [hC] at h; exact h) hv hd (kk H locs ls hP hD hS hl)
theorem r_put {l : Launch} {g : Gl} {X : Cx} {own : String} {cc : ByteArray} {nL d n k pc : Nat} {ws : va_W} {lv : List (Nat × Value)} {rest : List Value} {index ci kf a : Nat} {fs : List Value} {v : Value} {ty : FieldType} (ws' : va_W) (C : Ok l g X own cc nL d) (F : FP own index ci kf ty) (hd : decode cc pc = .ok (.putfield index, 3)) (q0 : Nat) (he : ws[q0]? = some (a, .inr (ci, fs))) (hl' : kf < fs.length) (hn : narrow ty v = v) (hfit : fits ty v = true) (hw : ws.set q0 (a, .inr (ci, fs.set kf v)) = ws') (kk : Vw g X nL n k ws' (pc + 3) lv rest) : Vw g X nL n k ws pc lv (v :: .ref a :: rest) := by
  obtain ⟨p, l', e, R, s, m, args, below, meth, c, Q, A⟩ := X
  obtain ⟨rfl, hx, hb, hml, hown, hts, hK, hlk, hA, hfr, hlo⟩ := C
  intro H locs ls hP hD hS hl
  subst hw
  obtain ⟨Cn, T, N, hc, hk, hin, hC, hlink, hfin, hdty, ⟨ty0, hty⟩, hnm⟩ := F
  rcases hlink with hlink | ⟨host, hlink⟩
  · exact va_put hx hb hts hin ty0 hty hnm hown hK.1 hP hD hS q0 he hc kf hk (hts _ hlink) (fun x h => by rw [hC] at h; exact h) hfin hdty hn hfit hl' hd (fun H1 locs1 hP1 hD1 hS1 => kk H1 locs1 ls hP1 hD1 hS1 hl)
  · exact va_putN hx hb hts hin ty0 hty hnm hown hK.1 hP hD hS q0 he hc kf hk (va_Nw.use rfl (hK.2.1 _ hlink)) (fun x h => by rw [hC] at h; exact h) hfin hdty hn hfit hl' hd (fun H1 locs1 hP1 hD1 hS1 => kk H1 locs1 ls hP1 hD1 hS1 hl)

theorem r_iald {l : Launch} {g : Gl} {X : Cx} {own : String} {cc : ByteArray} {nL d n k pc : Nat} {ws : va_W} {lv : List (Nat × Value)} {rest : List Value} {a N : Nat} {f : Nat → Int32} {x : Int32} (i : Nat) (C : Ok l g X own cc nL d) (hd : decode cc pc = .ok (.iaload, 1)) (q0 : Nat) (he : ws[q0]? = some (a, .inl (g.2.1, N, .inl f))) (hxi : x = nI i) (hi : i < N) (hN : N < 2 ^ 31) (kk : Vw g X nL n k ws (pc + 1) lv (.int (f i) :: rest)) : Vw g X nL n k ws pc lv (.int x :: .ref a :: rest) := by
  obtain ⟨p, l', e, R, s, m, args, below, meth, c, Q, A⟩ := X
  obtain ⟨rfl, hx, hb, hml, hown, hts, hK, hlk, hA, hfr, hlo⟩ := C
  intro H locs ls hP hD hS hl
  subst hxi
  refine va_iald hx hb hK.1 hP q0 0 he rfl (vp_in_nI hi hN) hd ?_
  rw [nI_clamp (Nat.lt_trans hi hN)]
  exact (kk H locs ls hP hD hS hl)

theorem r_bald {l : Launch} {g : Gl} {X : Cx} {own : String} {cc : ByteArray} {nL d n k pc : Nat} {ws : va_W} {lv : List (Nat × Value)} {rest : List Value} {a N : Nat} {f : Nat → Int32} {x : Int32} (i : Nat) (C : Ok l g X own cc nL d) (hd : decode cc pc = .ok (.baload, 1)) (q0 : Nat) (he : ws[q0]? = some (a, .inl (g.2.2.1, N, .inl f))) (hxi : x = nI i) (hi : i < N) (hN : N < 2 ^ 31) (kk : Vw g X nL n k ws (pc + 1) lv (.int (f i) :: rest)) : Vw g X nL n k ws pc lv (.int x :: .ref a :: rest) := by
  obtain ⟨p, l', e, R, s, m, args, below, meth, c, Q, A⟩ := X
  obtain ⟨rfl, hx, hb, hml, hown, hts, hK, hlk, hA, hfr, hlo⟩ := C
  intro H locs ls hP hD hS hl
  subst hxi
  refine va_bald hx hb hK.1 hP q0 1 he rfl (vp_in_nI hi hN) hd ?_
  rw [nI_clamp (Nat.lt_trans hi hN)]
  exact (kk H locs ls hP hD hS hl)

theorem r_zald {l : Launch} {g : Gl} {X : Cx} {own : String} {cc : ByteArray} {nL d n k pc : Nat} {ws : va_W} {lv : List (Nat × Value)} {rest : List Value} {a N : Nat} {f : Nat → Int32} {x : Int32} (i : Nat) (C : Ok l g X own cc nL d) (hd : decode cc pc = .ok (.baload, 1)) (q0 : Nat) (he : ws[q0]? = some (a, .inl (g.2.2.2.1, N, .inl f))) (hxi : x = nI i) (hi : i < N) (hN : N < 2 ^ 31) (kk : Vw g X nL n k ws (pc + 1) lv (.int (f i) :: rest)) : Vw g X nL n k ws pc lv (.int x :: .ref a :: rest) := by
  obtain ⟨p, l', e, R, s, m, args, below, meth, c, Q, A⟩ := X
  obtain ⟨rfl, hx, hb, hml, hown, hts, hK, hlk, hA, hfr, hlo⟩ := C
  intro H locs ls hP hD hS hl
  subst hxi
  refine va_zald hx hb hK.1 hP q0 2 he rfl (vp_in_nI hi hN) hd ?_
  rw [nI_clamp (Nat.lt_trans hi hN)]
  exact (kk H locs ls hP hD hS hl)

theorem r_iast {l : Launch} {g : Gl} {X : Cx} {own : String} {cc : ByteArray} {nL d n k pc : Nat} {ws : va_W} {lv : List (Nat × Value)} {rest : List Value} {a N : Nat} {f : Nat → Int32} {x v : Int32} (i : Nat) (ws' : va_W) (C : Ok l g X own cc nL d) (hd : decode cc pc = .ok (.iastore, 1)) (q0 : Nat) (he : ws[q0]? = some (a, .inl (g.2.1, N, .inl f))) (hxi : x = nI i) (hi : i < N) (hN : N < 2 ^ 31) (hw : ws.set q0 (a, .inl (g.2.1, N, .inl (upd f i v))) = ws') (kk : Vw g X nL n k ws' (pc + 1) lv rest) : Vw g X nL n k ws pc lv (.int v :: .int x :: .ref a :: rest) := by
  obtain ⟨p, l', e, R, s, m, args, below, meth, c, Q, A⟩ := X
  obtain ⟨rfl, hx, hb, hml, hown, hts, hK, hlk, hA, hfr, hlo⟩ := C
  intro H locs ls hP hD hS hl
  subst hxi; subst hw
  refine va_iast hx hb hK.1 hP hD hS q0 0 he rfl (vp_in_nI hi hN) hd (fun H1 locs1 hP1 hD1 hS1 => ?_)
  rw [nI_clamp (Nat.lt_trans hi hN)] at hP1 hD1
  exact kk H1 locs1 ls hP1 hD1 hS1 hl

theorem r_bast {l : Launch} {g : Gl} {X : Cx} {own : String} {cc : ByteArray} {nL d n k pc : Nat} {ws : va_W} {lv : List (Nat × Value)} {rest : List Value} {a N : Nat} {f : Nat → Int32} {x v : Int32} (i : Nat) (ws' : va_W) (C : Ok l g X own cc nL d) (hd : decode cc pc = .ok (.bastore, 1)) (q0 : Nat) (he : ws[q0]? = some (a, .inl (g.2.2.1, N, .inl f))) (hxi : x = nI i) (hi : i < N) (hN : N < 2 ^ 31) (hw : ws.set q0 (a, .inl (g.2.2.1, N, .inl (upd f i (vp_nar .byte v)))) = ws') (kk : Vw g X nL n k ws' (pc + 1) lv rest) : Vw g X nL n k ws pc lv (.int v :: .int x :: .ref a :: rest) := by
  obtain ⟨p, l', e, R, s, m, args, below, meth, c, Q, A⟩ := X
  obtain ⟨rfl, hx, hb, hml, hown, hts, hK, hlk, hA, hfr, hlo⟩ := C
  intro H locs ls hP hD hS hl
  subst hxi; subst hw
  refine va_bast hx hb hK.1 hP hD hS q0 1 he rfl (vp_in_nI hi hN) hd (fun H1 locs1 hP1 hD1 hS1 => ?_)
  rw [nI_clamp (Nat.lt_trans hi hN)] at hP1 hD1
  exact kk H1 locs1 ls hP1 hD1 hS1 hl

theorem r_zast {l : Launch} {g : Gl} {X : Cx} {own : String} {cc : ByteArray} {nL d n k pc : Nat} {ws : va_W} {lv : List (Nat × Value)} {rest : List Value} {a N : Nat} {f : Nat → Int32} {x v : Int32} (i : Nat) (ws' : va_W) (C : Ok l g X own cc nL d) (hd : decode cc pc = .ok (.bastore, 1)) (q0 : Nat) (he : ws[q0]? = some (a, .inl (g.2.2.2.1, N, .inl f))) (hxi : x = nI i) (hi : i < N) (hN : N < 2 ^ 31) (hw : ws.set q0 (a, .inl (g.2.2.2.1, N, .inl (upd f i (vp_nar .boolean v)))) = ws') (kk : Vw g X nL n k ws' (pc + 1) lv rest) : Vw g X nL n k ws pc lv (.int v :: .int x :: .ref a :: rest) := by
  obtain ⟨p, l', e, R, s, m, args, below, meth, c, Q, A⟩ := X
  obtain ⟨rfl, hx, hb, hml, hown, hts, hK, hlk, hA, hfr, hlo⟩ := C
  intro H locs ls hP hD hS hl
  subst hxi; subst hw
  refine va_zast hx hb hK.1 hP hD hS q0 2 he rfl (vp_in_nI hi hN) hd (fun H1 locs1 hP1 hD1 hS1 => ?_)
  rw [nI_clamp (Nat.lt_trans hi hN)] at hP1 hD1
  exact kk H1 locs1 ls hP1 hD1 hS1 hl

theorem r_aald {l : Launch} {g : Gl} {X : Cx} {own : String} {cc : ByteArray} {nL d n k pc : Nat} {ws : va_W} {lv : List (Nat × Value)} {rest : List Value} {a N q : Nat} {f : Nat → Option Nat} {x : Int32} (i : Nat) (C : Ok l g X own cc nL d) (hd : decode cc pc = .ok (.aaload, 1)) (q0 : Nat) (he : ws[q0]? = some (a, .inl (g.2.2.2.2, N, .inr (.inr (.inr (.inr f)))))) (hxi : x = nI i) (hi : i < N) (hN : N < 2 ^ 31) (hf : f i = some q) (kk : Vw g X nL n k ws (pc + 1) lv (.ref q :: rest)) : Vw g X nL n k ws pc lv (.int x :: .ref a :: rest) := by
  obtain ⟨p, l', e, R, s, m, args, below, meth, c, Q, A⟩ := X
  obtain ⟨rfl, hx, hb, hml, hown, hts, hK, hlk, hA, hfr, hlo⟩ := C
  intro H locs ls hP hD hS hl
  subst hxi
  refine va_aldq hx hb hK.1 hP q0 3 he rfl (vp_in_nI hi hN) hd ?_
  rw [nI_clamp (Nat.lt_trans hi hN), hf]
  exact (kk H locs ls hP hD hS hl)
theorem r_mmin {l : Launch} {g : Gl} {X : Cx} {own : String} {cc : ByteArray} {nL d n k pc : Nat} {ws : va_W} {lv : List (Nat × Value)} {rest : List Value} {index : Nat} {x y : Int32} (C : Ok l g X own cc nL d) (hd : decode cc pc = .ok (.invokestatic index, 3)) (hlink : Cond.methodLink own index Lib.Math.min.name ∈ BIG) (hstat : Cond.static Lib.Math.min.name ∈ BIG) (hini : Cond.initialized "java/lang/Math" ∈ BIG) (hcode : Cond.code Lib.Math.min.name Lib.Math.min.code 2 (some .int) ∈ BIG) (hd1 : 1 ≤ d) (hcat : (rest.map fun v => v.category).sum ≤ 8) (hnk : n ≤ cellsX X ∧ k ≤ slotsX X) (kk : Vw g X nL n k ws (pc + 3) lv (.int (if y < x then y else x) :: rest)) : Vw g X nL n k ws pc lv (.int y :: .int x :: rest) := by
  obtain ⟨p, l', e, R, s, m, args, below, meth, c, Q, A⟩ := X
  obtain ⟨rfl, hx, hb, hml, hown, hts, hK, hlk, hA, hfr, hlo⟩ := C
  intro H locs ls hP hD hS hl
  have hf1 : 1 ≤ R.frames := by omega
  have hf2 : (rest.map fun v => v.category).sum + 13 ≤ R.locals := by omega
  exact va_mmin hx hb (hml.trans hl.1.symm) hown (hts _ hlink) (hts _ hstat) (hts _ hini) (hts _ hcode) hf1 hf2 hnk.1 hnk.2 hd (kk H locs ls hP hD hS hl)
theorem r_mmax {l : Launch} {g : Gl} {X : Cx} {own : String} {cc : ByteArray} {nL d n k pc : Nat} {ws : va_W} {lv : List (Nat × Value)} {rest : List Value} {index : Nat} {x y : Int32} (C : Ok l g X own cc nL d) (hd : decode cc pc = .ok (.invokestatic index, 3)) (hlink : Cond.methodLink own index Lib.Math.max.name ∈ BIG) (hstat : Cond.static Lib.Math.max.name ∈ BIG) (hini : Cond.initialized "java/lang/Math" ∈ BIG) (hcode : Cond.code Lib.Math.max.name Lib.Math.max.code 2 (some .int) ∈ BIG) (hd1 : 1 ≤ d) (hcat : (rest.map fun v => v.category).sum ≤ 8) (hnk : n ≤ cellsX X ∧ k ≤ slotsX X) (kk : Vw g X nL n k ws (pc + 3) lv (.int (if x < y then y else x) :: rest)) : Vw g X nL n k ws pc lv (.int y :: .int x :: rest) := by
  obtain ⟨p, l', e, R, s, m, args, below, meth, c, Q, A⟩ := X
  obtain ⟨rfl, hx, hb, hml, hown, hts, hK, hlk, hA, hfr, hlo⟩ := C
  intro H locs ls hP hD hS hl
  have hf1 : 1 ≤ R.frames := by omega
  have hf2 : (rest.map fun v => v.category).sum + 13 ≤ R.locals := by omega
  exact va_mmax hx hb (hml.trans hl.1.symm) hown (hts _ hlink) (hts _ hstat) (hts _ hini) (hts _ hcode) hf1 hf2 hnk.1 hnk.2 hd (kk H locs ls hP hD hS hl)
theorem r_copyi {l : Launch} {g : Gl} {X : Cx} {own : String} {cc : ByteArray} {nL d n k pc : Nat} {ws : va_W} {lv : List (Nat × Value)} {rest : List Value} {index a a0 n0 n1 : Nat} {f h : Nat → Int32} {x y z : Int32} (N : Nat) (ws' : va_W) (C : Ok l g X own cc nL d) (hd : decode cc pc = .ok (.invokestatic index, 3)) (hlink : Cond.methodLink own index arraycopyName ∈ BIG) (hnat : Cond.native arraycopyName ∈ BIG) (hstat : Cond.static arraycopyName ∈ BIG) (hini : Cond.initialized "java/lang/System" ∈ BIG) (hd1 : 1 ≤ d) (q0 q1 : Nat) (ha0 : ws[q0]? = some (a0, .inl (g.2.1, n0, .inl f))) (ha1 : ws[q1]? = some (a, .inl (g.2.1, n1, .inl h))) (hx0 : x = nI 0) (hy0 : y = nI 0) (hzN : z = nI N) (hN0 : N ≤ n0) (hN1 : N ≤ n1) (hN2 : N < 2 ^ 31) (hcat : (rest.map fun v => v.category).sum ≤ 8) (hw : ws.set q1 (a, .inl (g.2.1, n1, .inl (va_cpy f h 0 0 N))) = ws') (kk : Vw g X nL n k ws' (pc + 3) lv rest) : Vw g X nL n k ws pc lv (.int z :: .int y :: .ref a :: .int x :: .ref a0 :: rest) := by
  obtain ⟨p, l', e, R, s, m, args, below, meth, c, Q, A⟩ := X
  obtain ⟨rfl, hx, hb, hml, hown, hts, hK, hlk, hA, hfr, hlo⟩ := C
  intro H locs ls hP hD hS hl
  subst hx0; subst hy0; subst hzN; subst hw
  have e0 : (nI 0).toNatClampNeg = 0 := nI_clamp (by decide)
  have eN : (nI N).toNatClampNeg = N := nI_clamp hN2
  have hnw : nativeFrameWords "java/lang/System" "arraycopy" 5 + 11 ≤ 30 := by decide
  refine va_copyi hx hb (hml.trans hl.1.symm) hown (hts _ hlink) (hts _ hnat) (hts _ hstat) (hts _ hini) hK.1 hP hD hS q0 q1 0 0 ha0 ha1 rfl rfl rfl (nI_pos (by decide)) (nI_pos (by decide)) (nI_pos hN2) (by rw [e0, eN]; omega) (by rw [e0, eN]; omega) (fun _ _ => rfl) (by omega) (by omega) hd (fun H1 locs1 hP1 hD1 hS1 => ?_)
  rw [e0, eN] at hP1 hD1
  exact kk H1 locs1 ls hP1 hD1 hS1 hl

def setL : va_W → List Nat → va_W → va_W
  | ws, i :: is, w :: w1 => setL (ws.set i w) is w1
  | ws, _, _ => ws
theorem setL_get : ∀ (is : List Nat) (w1 ws : va_W) (j : Nat) (q : Nat × va_E), (setL ws is w1)[j]? = some q → q ∈ w1 ∨ ((j ∉ is ∨ w1.length < is.length) ∧ ws[j]? = some q)
  | [], _, ws, j, q, h => by
    rw [setL] at h
    · exact Or.inr ⟨Or.inl (List.not_mem_nil), h⟩
    · simp
  | i :: is, [], ws, j, q, h => by
    rw [setL] at h
    · exact Or.inr ⟨Or.inr (by simp), h⟩
    · simp
  | i :: is, w :: w1, ws, j, q, h => by
    rw [setL] at h
    rcases setL_get is w1 (ws.set i w) j q h with h1 | ⟨h1, h2⟩
    · exact Or.inl (List.mem_cons_of_mem _ h1)
    · by_cases hj : j = i
      · subst hj
        by_cases hlt : j < ws.length
        · rw [List.getElem?_set_self hlt] at h2
          cases h2
          exact Or.inl List.mem_cons_self
        · rw [List.getElem?_eq_none (by rw [List.length_set]; omega)] at h2
          cases h2
      · rw [List.getElem?_set_ne (fun e => hj e.symm)] at h2
        refine Or.inr ⟨?_, h2⟩
        rcases h1 with h1 | h1
        · exact Or.inl (by simp [hj, h1])
        · exact Or.inr (by simp only [List.length_cons]; omega)
theorem setL_fst : ∀ (is : List Nat) (w1 ws : va_W), is.map (fun i => (ws.map Prod.fst)[i]?) = w1.map (fun q => some q.1) → (setL ws is w1).map Prod.fst = ws.map Prod.fst
  | [], _, ws, h => by rw [setL]; simp
  | i :: is, [], ws, h => by simp at h
  | i :: is, w :: w1, ws, h => by
    rw [setL]
    simp only [List.map_cons, List.cons.injEq] at h
    have e : (ws.set i w).map Prod.fst = ws.map Prod.fst := by
      apply List.ext_getElem?
      intro j
      rw [List.map_set]
      by_cases hj : j = i
      · subst hj
        rw [h.1]
        have hlt := (List.getElem?_eq_some_iff.mp h.1).1
        rw [List.getElem?_set_self hlt]
      · rw [List.getElem?_set_ne (fun e => hj e.symm)]
    rw [setL_fst is w1 (ws.set i w) (by rw [e]; exact h.2), e]
theorem va_D_fst {A : Nat → Prop} {ws ws' : va_W} (e : ws'.map Prod.fst = ws.map Prod.fst) (h : va_D A ws) : va_D A ws' := by
  have back : ∀ (k : Nat) (q : Nat × va_E), ws'[k]? = some q → ∃ q', ws[k]? = some q' ∧ q'.1 = q.1 := by
    intro k q hq
    have h1 : (ws'.map Prod.fst)[k]? = some q.1 := by rw [List.getElem?_map, hq]; rfl
    rw [e, List.getElem?_map] at h1
    cases hw : ws[k]? with
    | none => rw [hw] at h1; cases h1
    | some q' => rw [hw] at h1; exact ⟨q', rfl, Option.some.inj h1⟩
  refine ⟨fun i j p q hp hq hpq => ?_, fun k q hq => ?_⟩
  · obtain ⟨p', h1, h2⟩ := back i p hp
    obtain ⟨q', h3, h4⟩ := back j q hq
    exact h.1 i j p' q' h1 h3 (by rw [h2, h4, hpq])
  · obtain ⟨q', h1, h2⟩ := back k q hq
    rw [← h2]; exact h.2 k q' h1
theorem is_at {ws wc : va_W} {is : List Nat} (hs : is.map (fun i => ws[i]?) = wc.map some) (k : Nat) (q : Nat × va_E) (hq : wc[k]? = some q) : ∃ i, is[k]? = some i ∧ ws[i]? = some q := by
  have h1 : (is.map (fun i => ws[i]?))[k]? = some (some q) := by rw [hs, List.getElem?_map, hq]; rfl
  rw [List.getElem?_map] at h1
  cases hi : is[k]? with
  | none => rw [hi] at h1; cases h1
  | some i => rw [hi] at h1; exact ⟨i, rfl, Option.some.inj h1⟩
theorem is_len {ws wc : va_W} {is : List Nat} (hs : is.map (fun i => ws[i]?) = wc.map some) : is.length = wc.length := by
  have := congrArg List.length hs
  simpa using this
/-- behind a call whose world keeps its addresses: those places are set, all others stay -/
theorem fj {A0 : Nat → Prop} {D : va_G} {cl : List vw_C} {ws wc w1 : va_W} {H H1 : Heap} (hP : va_P D cl ws H) (hD : va_D A0 ws) (isC : List Nat) (hC : isC.map (fun i => ws[i]?) = wc.map some) (ha : w1.map Prod.fst = wc.map Prod.fst)
    (hk : ∀ q : Nat, q < H.size → ¬ va_A wc H.size q → H1[q]? = H[q]?) (hP1 : va_P D cl w1 H1) : va_P D cl (setL ws isC w1) H1 ∧ va_D A0 (setL ws isC w1) := by
  have hlen : w1.length = isC.length := by
    have h1 := congrArg List.length ha
    simp only [List.length_map] at h1
    rw [h1, is_len hC]
  refine ⟨fun j q hq => ?_, va_D_fst (setL_fst isC w1 ws ?_) hD⟩
  · rcases setL_get isC w1 ws j q hq with h | ⟨h, h2⟩
    · obtain ⟨k, hk1⟩ := List.getElem?_of_mem h
      exact hP1 k q hk1
    · have hj : j ∉ isC := by
        rcases h with h | h
        · exact h
        · omega
      have hl := (hP j q h2).lt
      refine (hP j q h2).kept (hk q.1 hl (fun hA => ?_))
      rcases hA with ⟨k2, e, h3⟩ | h3
      · obtain ⟨i, h4, h5⟩ := is_at hC k2 (q.1, e) h3
        have hij := hD.1 j i q (q.1, e) h2 h5 rfl
        subst hij
        exact hj (List.mem_of_getElem? h4)
      · omega
  · have e1 : isC.map (fun i => (ws.map Prod.fst)[i]?) = (isC.map (fun i => ws[i]?)).map (fun o => o.map Prod.fst) := by
      rw [List.map_map]
      apply List.map_congr_left
      intro i _
      simp [List.getElem?_map]
    rw [e1, hC, List.map_map]
    have e2 : w1.map (fun q => some q.1) = (w1.map Prod.fst).map some := by rw [List.map_map]; rfl
    rw [e2, ha, List.map_map]
    rfl
/-- behind a call that changes nothing -/
theorem fjP {A0 : Nat → Prop} {D : va_G} {cl : List vw_C} {ws wc : va_W} {H H1 : Heap} (hP : va_P D cl ws H) (hD : va_D A0 ws) (isC : List Nat) (hC : isC.map (fun i => ws[i]?) = wc.map some)
    (hk : ∀ q : Nat, q < H.size → ¬ va_A wc H.size q → H1[q]? = H[q]?) (hP1 : va_P D cl wc H1) : va_P D cl ws H1 := by
  intro j q h2
  have hl := (hP j q h2).lt
  by_cases hA : va_A wc H.size q.1
  · rcases hA with ⟨k2, e, h3⟩ | h3
    · obtain ⟨i, h4, h5⟩ := is_at hC k2 (q.1, e) h3
      have hij := hD.1 j i q (q.1, e) h2 h5 rfl
      subst hij
      have : q = (q.1, e) := Option.some.inj (h2.symm.trans h5)
      rw [this]
      exact hP1 k2 _ h3
    · omega
  · exact (hP j q h2).kept (hk q.1 hl hA)

abbrev PreW (g : Gl) (W0 : va_W) (sz : Nat) : State → Prop := fun U => U.heap.size = sz ∧ va_P g.1 vwCl W0 U.heap ∧ KK g U ∧ va_D (fun _ => True) W0
def CtI (l : Launch) (g : Gl) (y : MethodName) (cc : ByteArray) (nL : Nat) (ret : Option FieldType) (d : Nat) (av : List Value) (W0 : va_W) (r : Int32) (W1 : va_W) : Prop :=
  ∀ sz : Nat, Met l y (.code y cc nL ret :: BIG) (rmq d 0 0) (va_Pc av (PreW g W0 sz)) (va_Qi (fun r' (_ : Unit) => r' = r) (fun _ t => va_P g.1 vwCl W1 t.heap) (va_A W0 sz)) 0 0 (va_A W0 sz)
def CtL (l : Launch) (g : Gl) (y : MethodName) (cc : ByteArray) (nL : Nat) (ret : Option FieldType) (d : Nat) (av : List Value) (W0 : va_W) (r : Int64) (W1 : va_W) : Prop :=
  ∀ sz : Nat, Met l y (.code y cc nL ret :: BIG) (rmq d 0 0) (va_Pc av (PreW g W0 sz)) (va_Ql (fun r' (_ : Unit) => r' = r) (fun _ t => va_P g.1 vwCl W1 t.heap) (va_A W0 sz)) 0 0 (va_A W0 sz)
def CtV (l : Launch) (g : Gl) (y : MethodName) (cc : ByteArray) (nL : Nat) (d : Nat) (av : List Value) (W0 : va_W) (W1 : va_W) : Prop :=
  ∀ sz : Nat, Met l y (.code y cc nL none :: BIG) (rmq d 0 0) (va_Pc av (PreW g W0 sz)) (va_Qv (fun (_ : Unit) => True) (fun _ t => va_P g.1 vwCl W1 t.heap) (va_A W0 sz)) 0 0 (va_A W0 sz)
theorem PreW.blind {g : Gl} {W0 : va_W} {sz : Nat} {av : List Value} : FrameBlind (va_Pc av (PreW g W0 sz)) := by
  intro a U f mk q
  obtain ⟨q0, q1, qP, qK, qD⟩ := q
  exact ⟨q0, q1, qP, qK.calling, qD⟩

theorem mkI {l : Launch} {g : Gl} {y : MethodName} {cc : ByteArray} {nL d : Nat} {av : List Value} {W0 W1 : va_W} {r : Int32} {ret : Option FieldType} (ty : FieldType) (hret : ret = some ty) (hn : narrow ty (.int r) = .int r) (lv0 : List (Nat × Value)) (hy : plainName y.cls = true) (hlen : (lg_sl av).length ≤ nL) (hlv : lv_args 0 av = lv0) (body : ∀ X : Cx, Ok l g X y.cls cc nL d → RetI g X cc nL 0 0 r W1 → Vw g X nL 0 0 W0 0 lv0 []) : CtI l g y cc nL ret d av W0 r W1 := by
  intro sz
  refine Met.ofW (cc := cc) (maxL := nL) (ret := ret) hy rfl ?_
  intro p e s m args below meth c s₁ B hml hv
  obtain ⟨rfl, hsz, hP, hK, hD0⟩ := hv
  have hts := atoms_spec (ws := .code y cc nL ret :: BIG) B.pre
  have hown := findClass_of_methodNamed B.named
  subst hsz
  have hD := hD0.self (sz := s.heap.size)
  have hA : ∀ q : Nat, s.heap.size ≤ q → va_A W0 s.heap.size q := fun q h => Or.inr h
  have hS : va_S (va_A W0 s.heap.size) s.heap s.heap [] := va_S.rf
  have hl := lv_entry av (n := nL) hlen
  rw [lg_entry_eq]
  rw [hlv] at hl
  refine body (p, l, e, rmq d 0 0, s, m, av.toArray, below, meth, c, MQ below (va_Qi (fun r' (_ : Unit) => r' = r) (fun _ t => va_P g.1 vwCl W1 t.heap) (va_A W0 s.heap.size)) av.toArray s 0 0 (va_A W0 s.heap.size), va_A W0 s.heap.size) ⟨rfl, B.exec, B.bytes, hml, hown, fun w hw => hts w (List.mem_cons_of_mem _ hw), hK, B.notSynchronized, hA, Nat.le_refl _, Nat.le_refl _⟩ ?_ s.heap [] _ hP hD hS hl
  intro pc lv hd H locs ls hP hD hS hl
  exact W.zret (ty := ty) B.exec B.bytes (B.returns.trans hret) hn (fun t ht hW => ⟨⟨r, (), rfl, rfl, by show va_P g.1 vwCl W1 t.heap; rw [ht]; exact hP⟩, hS.F ht⟩) hS.2.2 hd B.notSynchronized

theorem mkL {l : Launch} {g : Gl} {y : MethodName} {cc : ByteArray} {nL d : Nat} {av : List Value} {W0 W1 : va_W} {r : Int64} (lv0 : List (Nat × Value)) (hy : plainName y.cls = true) (hlen : (lg_sl av).length ≤ nL) (hlv : lv_args 0 av = lv0) (body : ∀ X : Cx, Ok l g X y.cls cc nL d → RetL g X cc nL 0 0 r W1 → Vw g X nL 0 0 W0 0 lv0 []) : CtL l g y cc nL (some .long) d av W0 r W1 := by
  intro sz
  refine Met.ofW (cc := cc) (maxL := nL) (ret := some .long) hy rfl ?_
  intro p e s m args below meth c s₁ B hml hv
  obtain ⟨rfl, hsz, hP, hK, hD0⟩ := hv
  have hts := atoms_spec (ws := .code y cc nL (some .long) :: BIG) B.pre
  have hown := findClass_of_methodNamed B.named
  subst hsz
  have hD := hD0.self (sz := s.heap.size)
  have hA : ∀ q : Nat, s.heap.size ≤ q → va_A W0 s.heap.size q := fun q h => Or.inr h
  have hS : va_S (va_A W0 s.heap.size) s.heap s.heap [] := va_S.rf
  have hl := lv_entry av (n := nL) hlen
  rw [lg_entry_eq]
  rw [hlv] at hl
  refine body (p, l, e, rmq d 0 0, s, m, av.toArray, below, meth, c, MQ below (va_Ql (fun r' (_ : Unit) => r' = r) (fun _ t => va_P g.1 vwCl W1 t.heap) (va_A W0 s.heap.size)) av.toArray s 0 0 (va_A W0 s.heap.size), va_A W0 s.heap.size) ⟨rfl, B.exec, B.bytes, hml, hown, fun w hw => hts w (List.mem_cons_of_mem _ hw), hK, B.notSynchronized, hA, Nat.le_refl _, Nat.le_refl _⟩ ?_ s.heap [] _ hP hD hS hl
  intro pc lv hd H locs ls hP hD hS hl
  exact W.lret B.exec B.bytes B.returns (fun t ht hW => ⟨⟨r, (), rfl, rfl, by show va_P g.1 vwCl W1 t.heap; rw [ht]; exact hP⟩, hS.F ht⟩) hS.2.2 hd B.notSynchronized

theorem mkV {l : Launch} {g : Gl} {y : MethodName} {cc : ByteArray} {nL d : Nat} {av : List Value} {W0 W1 : va_W}  (lv0 : List (Nat × Value)) (hy : plainName y.cls = true) (hlen : (lg_sl av).length ≤ nL) (hlv : lv_args 0 av = lv0) (body : ∀ X : Cx, Ok l g X y.cls cc nL d → RetV g X cc nL 0 0 W1 → Vw g X nL 0 0 W0 0 lv0 []) : CtV l g y cc nL d av W0 W1 := by
  intro sz
  refine Met.ofW (cc := cc) (maxL := nL) (ret := none) hy rfl ?_
  intro p e s m args below meth c s₁ B hml hv
  obtain ⟨rfl, hsz, hP, hK, hD0⟩ := hv
  have hts := atoms_spec (ws := .code y cc nL (none) :: BIG) B.pre
  have hown := findClass_of_methodNamed B.named
  subst hsz
  have hD := hD0.self (sz := s.heap.size)
  have hA : ∀ q : Nat, s.heap.size ≤ q → va_A W0 s.heap.size q := fun q h => Or.inr h
  have hS : va_S (va_A W0 s.heap.size) s.heap s.heap [] := va_S.rf
  have hl := lv_entry av (n := nL) hlen
  rw [lg_entry_eq]
  rw [hlv] at hl
  refine body (p, l, e, rmq d 0 0, s, m, av.toArray, below, meth, c, MQ below (va_Qv (fun (_ : Unit) => True) (fun _ t => va_P g.1 vwCl W1 t.heap) (va_A W0 s.heap.size)) av.toArray s 0 0 (va_A W0 s.heap.size), va_A W0 s.heap.size) ⟨rfl, B.exec, B.bytes, hml, hown, fun w hw => hts w (List.mem_cons_of_mem _ hw), hK, B.notSynchronized, hA, Nat.le_refl _, Nat.le_refl _⟩ ?_ s.heap [] _ hP hD hS hl
  intro pc lv hd H locs ls hP hD hS hl
  exact W.vret B.exec B.bytes B.returns (fun t ht hW => ⟨⟨(), rfl, trivial, by show va_P g.1 vwCl W1 t.heap; rw [ht]; exact hP⟩, hS.F ht⟩) hS.2.2 hd B.notSynchronized

def MLV (own : String) (index : Nat) (y : MethodName) (cc : ByteArray) (nL : Nat) (ret : Option FieldType) (np ci : Nat) : Prop := (Cond.methodLink own index y ∈ BIG ∨ ∃ host, Cond.methodLinkNest own index y host ∈ NSL) ∧ Cond.instanceMethod y ∈ BIG ∧ Cond.selects y.cls y y ∈ BIG ∧ Cond.initialized y.cls ∈ BIG ∧ Cond.code y cc nL ret ∈ BIG ∧ (y.cls ≠ "java/lang/invoke/MethodHandle" ∧ y.cls ≠ "java/lang/invoke/VarHandle" ∧ (parseMethodDescriptor y.desc).map (fun d => d.parameters.length) = some np) ∧ (∃ (T : u_T) (N : Nat), vwCl[ci]? = some (y.cls, T, N)) ∧ nL ≤ 19
def MLS (own : String) (index : Nat) (y : MethodName) (cc : ByteArray) (nL : Nat) (ret : Option FieldType) (np : Nat) : Prop := (Cond.methodLink own index y ∈ BIG ∨ ∃ host, Cond.methodLinkNest own index y host ∈ NSL) ∧ Cond.static y ∈ BIG ∧ Cond.initialized y.cls ∈ BIG ∧ Cond.code y cc nL ret ∈ BIG ∧ (y.cls ≠ "java/lang/invoke/MethodHandle" ∧ y.cls ≠ "java/lang/invoke/VarHandle" ∧ (parseMethodDescriptor y.desc).map (fun d => d.parameters.length) = some np) ∧ nL ≤ 19
theorem good_cons {w : Cond} {ws : List Cond} (h : w ∈ BIG) (h2 : GoodIn BIG ws) : GoodIn BIG (w :: ws) := by
  intro v hv
  rcases List.mem_cons.mp hv with rfl | hv
  · exact ⟨h, BIG_good h⟩
  · exact h2 v hv
theorem good_BIG : GoodIn BIG BIG := fun v hv => ⟨hv, BIG_good hv⟩

theorem v_cI {l : Launch} {g : Gl} {X : Cx} {own : String} {cc : ByteArray} {nL d n k pc : Nat} {ws : va_W} {lv : List (Nat × Value)} {rest : List Value} {index : Nat} {y : MethodName} {cc2 : ByteArray} {nL2 d2 b ci : Nat} {As st : List Value} {Wc : va_W} {W1 : va_W} (ws' : va_W) {r : Int32} {ret : Option FieldType} {fs : List Value} (C : Ok l g X own cc nL d) (L : MLV own index y cc2 nL2 ret As.length ci) (M : CtI l g y cc2 nL2 ret d2 (.ref b :: As) Wc r W1) (hd : decode cc pc = .ok (.invokevirtual index, 3)) (hdd : d2 < d) (isC : List Nat) (hC : isC.map (fun i => ws[i]?) = Wc.map some) (hnd : va_nd isC = true) (ha : W1.map Prod.fst = Wc.map Prod.fst) (hw : setL ws isC W1 = ws') (q0 : Nat) (hrec : ws[q0]? = some (b, .inr (ci, fs))) (hst : st = As.reverse ++ .ref b :: rest) (hcat : (rest.map fun v => v.category).sum ≤ 8) (hnk : n ≤ cellsX X ∧ k ≤ slotsX X) (kk : Vw g X nL n k ws' (pc + 3) lv (.int r :: rest)) : Vw g X nL n k ws pc lv st := by
  obtain ⟨p, l', e, R, s, m, args, below, meth, c, Q, A⟩ := X
  obtain ⟨rfl, hx, hb, hml, hown, hts, hK, hlk, hA, hfr, hlo⟩ := C
  intro H locs ls hP hD hS hl
  subst hst
  obtain ⟨hlink, hin, hsel, hini, hcode, hy, ⟨Tc, Nc, hcl⟩, hnl⟩ := L
  have hPc := hP.sub (ws' := Wc) isC (by have e1 := congrArg (fun z => z.filterMap id) hC; simpa [List.filterMap_map, Function.comp_def] using e1)
  have hDc := hD.sub (ws' := Wc) isC hnd hC
  have hFc := va_free (wc := Wc) hD hS hA isC hC
  have hp : PreV s H y.cls b (va_Pc (.ref b :: As) (PreW g Wc H.size)) As := ⟨PreW.blind, va_recv hK.1 hP hcl hrec, fun U hU hW => ⟨rfl, by rw [hU], by rw [hU]; exact hPc, hK.warm hW, hDc.weaken (fun _ _ _ _ => trivial)⟩⟩
  have hrm : (rmq d2 0 0).frames + 1 ≤ R.frames ∧ 8 + (nL2 + 11) + (rmq d2 0 0).locals ≤ R.locals := by
    show d2 + 1 ≤ R.frames ∧ 8 + (nL2 + 11) + 38 * d2 ≤ R.locals
    omega
  have hrun : va_Run p l' e R s m args below meth c H locs n k 0 0 (F0 m pc ls (As.reverse ++ .ref b :: rest)) rest (va_Qi (fun r' (_ : Unit) => r' = r) (fun _ t => va_P g.1 vwCl W1 t.heap) (va_A Wc H.size) (Value.ref b :: As).toArray) (va_A Wc H.size) := by
    rcases hlink with hlink | ⟨host, hlink⟩
    · exact va_runV (As := As) (rest := rest) ⟨hx, hb, hml, hown, hts⟩ (M H.size) (cwV As.length hts (good_cons hlink (good_cons hin (good_cons hsel (good_cons hini (good_cons hcode good_BIG))))) rfl rfl rfl ⟨rfl, hy⟩ hrm) hp rfl rfl hl.1 rfl (lv_room hcat) hd hnk
    · exact va_runVN (As := As) (rest := rest) ⟨hx, hb, hml, hown, hts⟩ (M H.size) ⟨va_cnB As.length hts (good_cons hcode good_BIG) rfl rfl rfl (hK.2.1 _ hlink) (hts _ hini) hy hrm, hts _ hin, hts _ hsel⟩ hp rfl rfl hl.1 rfl (lv_room hcat) hd hnk
  refine va_calli hrun hS (fun q _ h => hFc q h) hFc (fun r1 u t H1 locs1 ht hvm hw1 hB hz1 hk1 hS1 => ?_)
  subst hw1
  have hB : va_P g.1 vwCl W1 t.heap := hB
  rw [ht] at hB
  obtain ⟨hP2, hD2⟩ := fj hP hD isC hC ha hk1 hB
  rw [hw] at hP2 hD2
  exact kk H1 locs1 ls hP2 hD2 hS1 hl
theorem s_cI {l : Launch} {g : Gl} {X : Cx} {own : String} {cc : ByteArray} {nL d n k pc : Nat} {ws : va_W} {lv : List (Nat × Value)} {rest : List Value} {index : Nat} {y : MethodName} {cc2 : ByteArray} {nL2 d2 : Nat} {As st : List Value} {Wc : va_W} {W1 : va_W} (ws' : va_W) {r : Int32} {ret : Option FieldType} (C : Ok l g X own cc nL d) (L : MLS own index y cc2 nL2 ret As.length) (M : CtI l g y cc2 nL2 ret d2 As Wc r W1) (hd : decode cc pc = .ok (.invokestatic index, 3)) (hdd : d2 < d) (isC : List Nat) (hC : isC.map (fun i => ws[i]?) = Wc.map some) (hnd : va_nd isC = true) (ha : W1.map Prod.fst = Wc.map Prod.fst) (hw : setL ws isC W1 = ws') (hst : st = As.reverse ++ rest) (hcat : (rest.map fun v => v.category).sum ≤ 8) (hnk : n ≤ cellsX X ∧ k ≤ slotsX X) (kk : Vw g X nL n k ws' (pc + 3) lv (.int r :: rest)) : Vw g X nL n k ws pc lv st := by
  obtain ⟨p, l', e, R, s, m, args, below, meth, c, Q, A⟩ := X
  obtain ⟨rfl, hx, hb, hml, hown, hts, hK, hlk, hA, hfr, hlo⟩ := C
  intro H locs ls hP hD hS hl
  subst hst
  obtain ⟨hlink, hin, hini, hcode, hy, hnl⟩ := L
  have hPc := hP.sub (ws' := Wc) isC (by have e1 := congrArg (fun z => z.filterMap id) hC; simpa [List.filterMap_map, Function.comp_def] using e1)
  have hDc := hD.sub (ws' := Wc) isC hnd hC
  have hFc := va_free (wc := Wc) hD hS hA isC hC
  have hp : PreS s H (va_Pc As (PreW g Wc H.size)) As := ⟨PreW.blind, fun U hU hW => ⟨rfl, by rw [hU], by rw [hU]; exact hPc, hK.warm hW, hDc.weaken (fun _ _ _ _ => trivial)⟩⟩
  have hrm : (rmq d2 0 0).frames + 1 ≤ R.frames ∧ 8 + (nL2 + 11) + (rmq d2 0 0).locals ≤ R.locals := by
    show d2 + 1 ≤ R.frames ∧ 8 + (nL2 + 11) + 38 * d2 ≤ R.locals
    omega
  have hrun : va_Run p l' e R s m args below meth c H locs n k 0 0 (F0 m pc ls (As.reverse ++ rest)) rest (va_Qi (fun r' (_ : Unit) => r' = r) (fun _ t => va_P g.1 vwCl W1 t.heap) (va_A Wc H.size) As.toArray) (va_A Wc H.size) := by
    rcases hlink with hlink | ⟨host, hlink⟩
    · exact va_runS (As := As) (rest := rest) ⟨hx, hb, hml, hown, hts⟩ (M H.size) ⟨callB_of As.length hts (good_cons hcode good_BIG) rfl rfl rfl (hts _ hini) (hts _ hlink) hy hrm, hts _ hin⟩ hp rfl rfl hl.1 rfl (lv_room hcat) hd hnk
    · exact va_runSN (As := As) (rest := rest) ⟨hx, hb, hml, hown, hts⟩ (M H.size) ⟨va_cnB As.length hts (good_cons hcode good_BIG) rfl rfl rfl (hK.2.1 _ hlink) (hts _ hini) hy hrm, hts _ hin, trivial⟩ hp rfl rfl hl.1 rfl (lv_room hcat) hd hnk
  refine va_calli hrun hS (fun q _ h => hFc q h) hFc (fun r1 u t H1 locs1 ht hvm hw1 hB hz1 hk1 hS1 => ?_)
  subst hw1
  have hB : va_P g.1 vwCl W1 t.heap := hB
  rw [ht] at hB
  obtain ⟨hP2, hD2⟩ := fj hP hD isC hC ha hk1 hB
  rw [hw] at hP2 hD2
  exact kk H1 locs1 ls hP2 hD2 hS1 hl

theorem v_pI {l : Launch} {g : Gl} {X : Cx} {own : String} {cc : ByteArray} {nL d n k pc : Nat} {ws : va_W} {lv : List (Nat × Value)} {rest : List Value} {index : Nat} {y : MethodName} {cc2 : ByteArray} {nL2 d2 b ci : Nat} {As st : List Value} {Wc : va_W}  {r : Int32} {ret : Option FieldType} {fs : List Value} (C : Ok l g X own cc nL d) (L : MLV own index y cc2 nL2 ret As.length ci) (M : CtI l g y cc2 nL2 ret d2 (.ref b :: As) Wc r Wc) (hd : decode cc pc = .ok (.invokevirtual index, 3)) (hdd : d2 < d) (isC : List Nat) (hC : isC.map (fun i => ws[i]?) = Wc.map some) (hnd : va_nd isC = true)  (q0 : Nat) (hrec : ws[q0]? = some (b, .inr (ci, fs))) (hst : st = As.reverse ++ .ref b :: rest) (hcat : (rest.map fun v => v.category).sum ≤ 8) (hnk : n ≤ cellsX X ∧ k ≤ slotsX X) (kk : Vw g X nL n k ws (pc + 3) lv (.int r :: rest)) : Vw g X nL n k ws pc lv st := by
  obtain ⟨p, l', e, R, s, m, args, below, meth, c, Q, A⟩ := X
  obtain ⟨rfl, hx, hb, hml, hown, hts, hK, hlk, hA, hfr, hlo⟩ := C
  intro H locs ls hP hD hS hl
  subst hst
  obtain ⟨hlink, hin, hsel, hini, hcode, hy, ⟨Tc, Nc, hcl⟩, hnl⟩ := L
  have hPc := hP.sub (ws' := Wc) isC (by have e1 := congrArg (fun z => z.filterMap id) hC; simpa [List.filterMap_map, Function.comp_def] using e1)
  have hDc := hD.sub (ws' := Wc) isC hnd hC
  have hFc := va_free (wc := Wc) hD hS hA isC hC
  have hp : PreV s H y.cls b (va_Pc (.ref b :: As) (PreW g Wc H.size)) As := ⟨PreW.blind, va_recv hK.1 hP hcl hrec, fun U hU hW => ⟨rfl, by rw [hU], by rw [hU]; exact hPc, hK.warm hW, hDc.weaken (fun _ _ _ _ => trivial)⟩⟩
  have hrm : (rmq d2 0 0).frames + 1 ≤ R.frames ∧ 8 + (nL2 + 11) + (rmq d2 0 0).locals ≤ R.locals := by
    show d2 + 1 ≤ R.frames ∧ 8 + (nL2 + 11) + 38 * d2 ≤ R.locals
    omega
  have hrun : va_Run p l' e R s m args below meth c H locs n k 0 0 (F0 m pc ls (As.reverse ++ .ref b :: rest)) rest (va_Qi (fun r' (_ : Unit) => r' = r) (fun _ t => va_P g.1 vwCl Wc t.heap) (va_A Wc H.size) (Value.ref b :: As).toArray) (va_A Wc H.size) := by
    rcases hlink with hlink | ⟨host, hlink⟩
    · exact va_runV (As := As) (rest := rest) ⟨hx, hb, hml, hown, hts⟩ (M H.size) (cwV As.length hts (good_cons hlink (good_cons hin (good_cons hsel (good_cons hini (good_cons hcode good_BIG))))) rfl rfl rfl ⟨rfl, hy⟩ hrm) hp rfl rfl hl.1 rfl (lv_room hcat) hd hnk
    · exact va_runVN (As := As) (rest := rest) ⟨hx, hb, hml, hown, hts⟩ (M H.size) ⟨va_cnB As.length hts (good_cons hcode good_BIG) rfl rfl rfl (hK.2.1 _ hlink) (hts _ hini) hy hrm, hts _ hin, hts _ hsel⟩ hp rfl rfl hl.1 rfl (lv_room hcat) hd hnk
  refine va_calli hrun hS (fun q _ h => hFc q h) hFc (fun r1 u t H1 locs1 ht hvm hw1 hB hz1 hk1 hS1 => ?_)
  subst hw1
  have hB : va_P g.1 vwCl Wc t.heap := hB
  rw [ht] at hB
  have hP2 := fjP hP hD isC hC hk1 hB
  exact kk H1 locs1 ls hP2 hD hS1 hl
theorem s_pI {l : Launch} {g : Gl} {X : Cx} {own : String} {cc : ByteArray} {nL d n k pc : Nat} {ws : va_W} {lv : List (Nat × Value)} {rest : List Value} {index : Nat} {y : MethodName} {cc2 : ByteArray} {nL2 d2 : Nat} {As st : List Value} {Wc : va_W}  {r : Int32} {ret : Option FieldType} (C : Ok l g X own cc nL d) (L : MLS own index y cc2 nL2 ret As.length) (M : CtI l g y cc2 nL2 ret d2 As Wc r Wc) (hd : decode cc pc = .ok (.invokestatic index, 3)) (hdd : d2 < d) (isC : List Nat) (hC : isC.map (fun i => ws[i]?) = Wc.map some) (hnd : va_nd isC = true)  (hst : st = As.reverse ++ rest) (hcat : (rest.map fun v => v.category).sum ≤ 8) (hnk : n ≤ cellsX X ∧ k ≤ slotsX X) (kk : Vw g X nL n k ws (pc + 3) lv (.int r :: rest)) : Vw g X nL n k ws pc lv st := by
  obtain ⟨p, l', e, R, s, m, args, below, meth, c, Q, A⟩ := X
  obtain ⟨rfl, hx, hb, hml, hown, hts, hK, hlk, hA, hfr, hlo⟩ := C
  intro H locs ls hP hD hS hl
  subst hst
  obtain ⟨hlink, hin, hini, hcode, hy, hnl⟩ := L
  have hPc := hP.sub (ws' := Wc) isC (by have e1 := congrArg (fun z => z.filterMap id) hC; simpa [List.filterMap_map, Function.comp_def] using e1)
  have hDc := hD.sub (ws' := Wc) isC hnd hC
  have hFc := va_free (wc := Wc) hD hS hA isC hC
  have hp : PreS s H (va_Pc As (PreW g Wc H.size)) As := ⟨PreW.blind, fun U hU hW => ⟨rfl, by rw [hU], by rw [hU]; exact hPc, hK.warm hW, hDc.weaken (fun _ _ _ _ => trivial)⟩⟩
  have hrm : (rmq d2 0 0).frames + 1 ≤ R.frames ∧ 8 + (nL2 + 11) + (rmq d2 0 0).locals ≤ R.locals := by
    show d2 + 1 ≤ R.frames ∧ 8 + (nL2 + 11) + 38 * d2 ≤ R.locals
    omega
  have hrun : va_Run p l' e R s m args below meth c H locs n k 0 0 (F0 m pc ls (As.reverse ++ rest)) rest (va_Qi (fun r' (_ : Unit) => r' = r) (fun _ t => va_P g.1 vwCl Wc t.heap) (va_A Wc H.size) As.toArray) (va_A Wc H.size) := by
    rcases hlink with hlink | ⟨host, hlink⟩
    · exact va_runS (As := As) (rest := rest) ⟨hx, hb, hml, hown, hts⟩ (M H.size) ⟨callB_of As.length hts (good_cons hcode good_BIG) rfl rfl rfl (hts _ hini) (hts _ hlink) hy hrm, hts _ hin⟩ hp rfl rfl hl.1 rfl (lv_room hcat) hd hnk
    · exact va_runSN (As := As) (rest := rest) ⟨hx, hb, hml, hown, hts⟩ (M H.size) ⟨va_cnB As.length hts (good_cons hcode good_BIG) rfl rfl rfl (hK.2.1 _ hlink) (hts _ hini) hy hrm, hts _ hin, trivial⟩ hp rfl rfl hl.1 rfl (lv_room hcat) hd hnk
  refine va_calli hrun hS (fun q _ h => hFc q h) hFc (fun r1 u t H1 locs1 ht hvm hw1 hB hz1 hk1 hS1 => ?_)
  subst hw1
  have hB : va_P g.1 vwCl Wc t.heap := hB
  rw [ht] at hB
  have hP2 := fjP hP hD isC hC hk1 hB
  exact kk H1 locs1 ls hP2 hD hS1 hl

theorem v_cL {l : Launch} {g : Gl} {X : Cx} {own : String} {cc : ByteArray} {nL d n k pc : Nat} {ws : va_W} {lv : List (Nat × Value)} {rest : List Value} {index : Nat} {y : MethodName} {cc2 : ByteArray} {nL2 d2 b ci : Nat} {As st : List Value} {Wc : va_W} {W1 : va_W} (ws' : va_W) {r : Int64} {ret : Option FieldType} {fs : List Value} (C : Ok l g X own cc nL d) (L : MLV own index y cc2 nL2 ret As.length ci) (M : CtL l g y cc2 nL2 ret d2 (.ref b :: As) Wc r W1) (hd : decode cc pc = .ok (.invokevirtual index, 3)) (hdd : d2 < d) (isC : List Nat) (hC : isC.map (fun i => ws[i]?) = Wc.map some) (hnd : va_nd isC = true) (ha : W1.map Prod.fst = Wc.map Prod.fst) (hw : setL ws isC W1 = ws') (q0 : Nat) (hrec : ws[q0]? = some (b, .inr (ci, fs))) (hst : st = As.reverse ++ .ref b :: rest) (hcat : (rest.map fun v => v.category).sum ≤ 8) (hnk : n ≤ cellsX X ∧ k ≤ slotsX X) (kk : Vw g X nL n k ws' (pc + 3) lv (.long r :: rest)) : Vw g X nL n k ws pc lv st := by
  obtain ⟨p, l', e, R, s, m, args, below, meth, c, Q, A⟩ := X
  obtain ⟨rfl, hx, hb, hml, hown, hts, hK, hlk, hA, hfr, hlo⟩ := C
  intro H locs ls hP hD hS hl
  subst hst
  obtain ⟨hlink, hin, hsel, hini, hcode, hy, ⟨Tc, Nc, hcl⟩, hnl⟩ := L
  have hPc := hP.sub (ws' := Wc) isC (by have e1 := congrArg (fun z => z.filterMap id) hC; simpa [List.filterMap_map, Function.comp_def] using e1)
  have hDc := hD.sub (ws' := Wc) isC hnd hC
  have hFc := va_free (wc := Wc) hD hS hA isC hC
  have hp : PreV s H y.cls b (va_Pc (.ref b :: As) (PreW g Wc H.size)) As := ⟨PreW.blind, va_recv hK.1 hP hcl hrec, fun U hU hW => ⟨rfl, by rw [hU], by rw [hU]; exact hPc, hK.warm hW, hDc.weaken (fun _ _ _ _ => trivial)⟩⟩
  have hrm : (rmq d2 0 0).frames + 1 ≤ R.frames ∧ 8 + (nL2 + 11) + (rmq d2 0 0).locals ≤ R.locals := by
    show d2 + 1 ≤ R.frames ∧ 8 + (nL2 + 11) + 38 * d2 ≤ R.locals
    omega
  have hrun : va_Run p l' e R s m args below meth c H locs n k 0 0 (F0 m pc ls (As.reverse ++ .ref b :: rest)) rest (va_Ql (fun r' (_ : Unit) => r' = r) (fun _ t => va_P g.1 vwCl W1 t.heap) (va_A Wc H.size) (Value.ref b :: As).toArray) (va_A Wc H.size) := by
    rcases hlink with hlink | ⟨host, hlink⟩
    · exact va_runV (As := As) (rest := rest) ⟨hx, hb, hml, hown, hts⟩ (M H.size) (cwV As.length hts (good_cons hlink (good_cons hin (good_cons hsel (good_cons hini (good_cons hcode good_BIG))))) rfl rfl rfl ⟨rfl, hy⟩ hrm) hp rfl rfl hl.1 rfl (lv_room hcat) hd hnk
    · exact va_runVN (As := As) (rest := rest) ⟨hx, hb, hml, hown, hts⟩ (M H.size) ⟨va_cnB As.length hts (good_cons hcode good_BIG) rfl rfl rfl (hK.2.1 _ hlink) (hts _ hini) hy hrm, hts _ hin, hts _ hsel⟩ hp rfl rfl hl.1 rfl (lv_room hcat) hd hnk
  refine va_calll hrun hS (fun q _ h => hFc q h) hFc (fun r1 u t H1 locs1 ht hvm hw1 hB hz1 hk1 hS1 => ?_)
  subst hw1
  have hB : va_P g.1 vwCl W1 t.heap := hB
  rw [ht] at hB
  obtain ⟨hP2, hD2⟩ := fj hP hD isC hC ha hk1 hB
  rw [hw] at hP2 hD2
  exact kk H1 locs1 ls hP2 hD2 hS1 hl
theorem s_cL {l : Launch} {g : Gl} {X : Cx} {own : String} {cc : ByteArray} {nL d n k pc : Nat} {ws : va_W} {lv : List (Nat × Value)} {rest : List Value} {index : Nat} {y : MethodName} {cc2 : ByteArray} {nL2 d2 : Nat} {As st : List Value} {Wc : va_W} {W1 : va_W} (ws' : va_W) {r : Int64} {ret : Option FieldType} (C : Ok l g X own cc nL d) (L : MLS own index y cc2 nL2 ret As.length) (M : CtL l g y cc2 nL2 ret d2 As Wc r W1) (hd : decode cc pc = .ok (.invokestatic index, 3)) (hdd : d2 < d) (isC : List Nat) (hC : isC.map (fun i => ws[i]?) = Wc.map some) (hnd : va_nd isC = true) (ha : W1.map Prod.fst = Wc.map Prod.fst) (hw : setL ws isC W1 = ws') (hst : st = As.reverse ++ rest) (hcat : (rest.map fun v => v.category).sum ≤ 8) (hnk : n ≤ cellsX X ∧ k ≤ slotsX X) (kk : Vw g X nL n k ws' (pc + 3) lv (.long r :: rest)) : Vw g X nL n k ws pc lv st := by
  obtain ⟨p, l', e, R, s, m, args, below, meth, c, Q, A⟩ := X
  obtain ⟨rfl, hx, hb, hml, hown, hts, hK, hlk, hA, hfr, hlo⟩ := C
  intro H locs ls hP hD hS hl
  subst hst
  obtain ⟨hlink, hin, hini, hcode, hy, hnl⟩ := L
  have hPc := hP.sub (ws' := Wc) isC (by have e1 := congrArg (fun z => z.filterMap id) hC; simpa [List.filterMap_map, Function.comp_def] using e1)
  have hDc := hD.sub (ws' := Wc) isC hnd hC
  have hFc := va_free (wc := Wc) hD hS hA isC hC
  have hp : PreS s H (va_Pc As (PreW g Wc H.size)) As := ⟨PreW.blind, fun U hU hW => ⟨rfl, by rw [hU], by rw [hU]; exact hPc, hK.warm hW, hDc.weaken (fun _ _ _ _ => trivial)⟩⟩
  have hrm : (rmq d2 0 0).frames + 1 ≤ R.frames ∧ 8 + (nL2 + 11) + (rmq d2 0 0).locals ≤ R.locals := by
    show d2 + 1 ≤ R.frames ∧ 8 + (nL2 + 11) + 38 * d2 ≤ R.locals
    omega
  have hrun : va_Run p l' e R s m args below meth c H locs n k 0 0 (F0 m pc ls (As.reverse ++ rest)) rest (va_Ql (fun r' (_ : Unit) => r' = r) (fun _ t => va_P g.1 vwCl W1 t.heap) (va_A Wc H.size) As.toArray) (va_A Wc H.size) := by
    rcases hlink with hlink | ⟨host, hlink⟩
    · exact va_runS (As := As) (rest := rest) ⟨hx, hb, hml, hown, hts⟩ (M H.size) ⟨callB_of As.length hts (good_cons hcode good_BIG) rfl rfl rfl (hts _ hini) (hts _ hlink) hy hrm, hts _ hin⟩ hp rfl rfl hl.1 rfl (lv_room hcat) hd hnk
    · exact va_runSN (As := As) (rest := rest) ⟨hx, hb, hml, hown, hts⟩ (M H.size) ⟨va_cnB As.length hts (good_cons hcode good_BIG) rfl rfl rfl (hK.2.1 _ hlink) (hts _ hini) hy hrm, hts _ hin, trivial⟩ hp rfl rfl hl.1 rfl (lv_room hcat) hd hnk
  refine va_calll hrun hS (fun q _ h => hFc q h) hFc (fun r1 u t H1 locs1 ht hvm hw1 hB hz1 hk1 hS1 => ?_)
  subst hw1
  have hB : va_P g.1 vwCl W1 t.heap := hB
  rw [ht] at hB
  obtain ⟨hP2, hD2⟩ := fj hP hD isC hC ha hk1 hB
  rw [hw] at hP2 hD2
  exact kk H1 locs1 ls hP2 hD2 hS1 hl

theorem v_pL {l : Launch} {g : Gl} {X : Cx} {own : String} {cc : ByteArray} {nL d n k pc : Nat} {ws : va_W} {lv : List (Nat × Value)} {rest : List Value} {index : Nat} {y : MethodName} {cc2 : ByteArray} {nL2 d2 b ci : Nat} {As st : List Value} {Wc : va_W}  {r : Int64} {ret : Option FieldType} {fs : List Value} (C : Ok l g X own cc nL d) (L : MLV own index y cc2 nL2 ret As.length ci) (M : CtL l g y cc2 nL2 ret d2 (.ref b :: As) Wc r Wc) (hd : decode cc pc = .ok (.invokevirtual index, 3)) (hdd : d2 < d) (isC : List Nat) (hC : isC.map (fun i => ws[i]?) = Wc.map some) (hnd : va_nd isC = true)  (q0 : Nat) (hrec : ws[q0]? = some (b, .inr (ci, fs))) (hst : st = As.reverse ++ .ref b :: rest) (hcat : (rest.map fun v => v.category).sum ≤ 8) (hnk : n ≤ cellsX X ∧ k ≤ slotsX X) (kk : Vw g X nL n k ws (pc + 3) lv (.long r :: rest)) : Vw g X nL n k ws pc lv st := by
  obtain ⟨p, l', e, R, s, m, args, below, meth, c, Q, A⟩ := X
  obtain ⟨rfl, hx, hb, hml, hown, hts, hK, hlk, hA, hfr, hlo⟩ := C
  intro H locs ls hP hD hS hl
  subst hst
  obtain ⟨hlink, hin, hsel, hini, hcode, hy, ⟨Tc, Nc, hcl⟩, hnl⟩ := L
  have hPc := hP.sub (ws' := Wc) isC (by have e1 := congrArg (fun z => z.filterMap id) hC; simpa [List.filterMap_map, Function.comp_def] using e1)
  have hDc := hD.sub (ws' := Wc) isC hnd hC
  have hFc := va_free (wc := Wc) hD hS hA isC hC
  have hp : PreV s H y.cls b (va_Pc (.ref b :: As) (PreW g Wc H.size)) As := ⟨PreW.blind, va_recv hK.1 hP hcl hrec, fun U hU hW => ⟨rfl, by rw [hU], by rw [hU]; exact hPc, hK.warm hW, hDc.weaken (fun _ _ _ _ => trivial)⟩⟩
  have hrm : (rmq d2 0 0).frames + 1 ≤ R.frames ∧ 8 + (nL2 + 11) + (rmq d2 0 0).locals ≤ R.locals := by
    show d2 + 1 ≤ R.frames ∧ 8 + (nL2 + 11) + 38 * d2 ≤ R.locals
    omega
  have hrun : va_Run p l' e R s m args below meth c H locs n k 0 0 (F0 m pc ls (As.reverse ++ .ref b :: rest)) rest (va_Ql (fun r' (_ : Unit) => r' = r) (fun _ t => va_P g.1 vwCl Wc t.heap) (va_A Wc H.size) (Value.ref b :: As).toArray) (va_A Wc H.size) := by
    rcases hlink with hlink | ⟨host, hlink⟩
    · exact va_runV (As := As) (rest := rest) ⟨hx, hb, hml, hown, hts⟩ (M H.size) (cwV As.length hts (good_cons hlink (good_cons hin (good_cons hsel (good_cons hini (good_cons hcode good_BIG))))) rfl rfl rfl ⟨rfl, hy⟩ hrm) hp rfl rfl hl.1 rfl (lv_room hcat) hd hnk
    · exact va_runVN (As := As) (rest := rest) ⟨hx, hb, hml, hown, hts⟩ (M H.size) ⟨va_cnB As.length hts (good_cons hcode good_BIG) rfl rfl rfl (hK.2.1 _ hlink) (hts _ hini) hy hrm, hts _ hin, hts _ hsel⟩ hp rfl rfl hl.1 rfl (lv_room hcat) hd hnk
  refine va_calll hrun hS (fun q _ h => hFc q h) hFc (fun r1 u t H1 locs1 ht hvm hw1 hB hz1 hk1 hS1 => ?_)
  subst hw1
  have hB : va_P g.1 vwCl Wc t.heap := hB
  rw [ht] at hB
  have hP2 := fjP hP hD isC hC hk1 hB
  exact kk H1 locs1 ls hP2 hD hS1 hl
theorem s_pL {l : Launch} {g : Gl} {X : Cx} {own : String} {cc : ByteArray} {nL d n k pc : Nat} {ws : va_W} {lv : List (Nat × Value)} {rest : List Value} {index : Nat} {y : MethodName} {cc2 : ByteArray} {nL2 d2 : Nat} {As st : List Value} {Wc : va_W}  {r : Int64} {ret : Option FieldType} (C : Ok l g X own cc nL d) (L : MLS own index y cc2 nL2 ret As.length) (M : CtL l g y cc2 nL2 ret d2 As Wc r Wc) (hd : decode cc pc = .ok (.invokestatic index, 3)) (hdd : d2 < d) (isC : List Nat) (hC : isC.map (fun i => ws[i]?) = Wc.map some) (hnd : va_nd isC = true)  (hst : st = As.reverse ++ rest) (hcat : (rest.map fun v => v.category).sum ≤ 8) (hnk : n ≤ cellsX X ∧ k ≤ slotsX X) (kk : Vw g X nL n k ws (pc + 3) lv (.long r :: rest)) : Vw g X nL n k ws pc lv st := by
  obtain ⟨p, l', e, R, s, m, args, below, meth, c, Q, A⟩ := X
  obtain ⟨rfl, hx, hb, hml, hown, hts, hK, hlk, hA, hfr, hlo⟩ := C
  intro H locs ls hP hD hS hl
  subst hst
  obtain ⟨hlink, hin, hini, hcode, hy, hnl⟩ := L
  have hPc := hP.sub (ws' := Wc) isC (by have e1 := congrArg (fun z => z.filterMap id) hC; simpa [List.filterMap_map, Function.comp_def] using e1)
  have hDc := hD.sub (ws' := Wc) isC hnd hC
  have hFc := va_free (wc := Wc) hD hS hA isC hC
  have hp : PreS s H (va_Pc As (PreW g Wc H.size)) As := ⟨PreW.blind, fun U hU hW => ⟨rfl, by rw [hU], by rw [hU]; exact hPc, hK.warm hW, hDc.weaken (fun _ _ _ _ => trivial)⟩⟩
  have hrm : (rmq d2 0 0).frames + 1 ≤ R.frames ∧ 8 + (nL2 + 11) + (rmq d2 0 0).locals ≤ R.locals := by
    show d2 + 1 ≤ R.frames ∧ 8 + (nL2 + 11) + 38 * d2 ≤ R.locals
    omega
  have hrun : va_Run p l' e R s m args below meth c H locs n k 0 0 (F0 m pc ls (As.reverse ++ rest)) rest (va_Ql (fun r' (_ : Unit) => r' = r) (fun _ t => va_P g.1 vwCl Wc t.heap) (va_A Wc H.size) As.toArray) (va_A Wc H.size) := by
    rcases hlink with hlink | ⟨host, hlink⟩
    · exact va_runS (As := As) (rest := rest) ⟨hx, hb, hml, hown, hts⟩ (M H.size) ⟨callB_of As.length hts (good_cons hcode good_BIG) rfl rfl rfl (hts _ hini) (hts _ hlink) hy hrm, hts _ hin⟩ hp rfl rfl hl.1 rfl (lv_room hcat) hd hnk
    · exact va_runSN (As := As) (rest := rest) ⟨hx, hb, hml, hown, hts⟩ (M H.size) ⟨va_cnB As.length hts (good_cons hcode good_BIG) rfl rfl rfl (hK.2.1 _ hlink) (hts _ hini) hy hrm, hts _ hin, trivial⟩ hp rfl rfl hl.1 rfl (lv_room hcat) hd hnk
  refine va_calll hrun hS (fun q _ h => hFc q h) hFc (fun r1 u t H1 locs1 ht hvm hw1 hB hz1 hk1 hS1 => ?_)
  subst hw1
  have hB : va_P g.1 vwCl Wc t.heap := hB
  rw [ht] at hB
  have hP2 := fjP hP hD isC hC hk1 hB
  exact kk H1 locs1 ls hP2 hD hS1 hl

theorem v_cV {l : Launch} {g : Gl} {X : Cx} {own : String} {cc : ByteArray} {nL d n k pc : Nat} {ws : va_W} {lv : List (Nat × Value)} {rest : List Value} {index : Nat} {y : MethodName} {cc2 : ByteArray} {nL2 d2 b ci : Nat} {As st : List Value} {Wc : va_W} {W1 : va_W} (ws' : va_W)  {fs : List Value} (C : Ok l g X own cc nL d) (L : MLV own index y cc2 nL2 none As.length ci) (M : CtV l g y cc2 nL2 d2 (.ref b :: As) Wc W1) (hd : decode cc pc = .ok (.invokevirtual index, 3)) (hdd : d2 < d) (isC : List Nat) (hC : isC.map (fun i => ws[i]?) = Wc.map some) (hnd : va_nd isC = true) (ha : W1.map Prod.fst = Wc.map Prod.fst) (hw : setL ws isC W1 = ws') (q0 : Nat) (hrec : ws[q0]? = some (b, .inr (ci, fs))) (hst : st = As.reverse ++ .ref b :: rest) (hcat : (rest.map fun v => v.category).sum ≤ 8) (hnk : n ≤ cellsX X ∧ k ≤ slotsX X) (kk : Vw g X nL n k ws' (pc + 3) lv rest) : Vw g X nL n k ws pc lv st := by
  obtain ⟨p, l', e, R, s, m, args, below, meth, c, Q, A⟩ := X
  obtain ⟨rfl, hx, hb, hml, hown, hts, hK, hlk, hA, hfr, hlo⟩ := C
  intro H locs ls hP hD hS hl
  subst hst
  obtain ⟨hlink, hin, hsel, hini, hcode, hy, ⟨Tc, Nc, hcl⟩, hnl⟩ := L
  have hPc := hP.sub (ws' := Wc) isC (by have e1 := congrArg (fun z => z.filterMap id) hC; simpa [List.filterMap_map, Function.comp_def] using e1)
  have hDc := hD.sub (ws' := Wc) isC hnd hC
  have hFc := va_free (wc := Wc) hD hS hA isC hC
  have hp : PreV s H y.cls b (va_Pc (.ref b :: As) (PreW g Wc H.size)) As := ⟨PreW.blind, va_recv hK.1 hP hcl hrec, fun U hU hW => ⟨rfl, by rw [hU], by rw [hU]; exact hPc, hK.warm hW, hDc.weaken (fun _ _ _ _ => trivial)⟩⟩
  have hrm : (rmq d2 0 0).frames + 1 ≤ R.frames ∧ 8 + (nL2 + 11) + (rmq d2 0 0).locals ≤ R.locals := by
    show d2 + 1 ≤ R.frames ∧ 8 + (nL2 + 11) + 38 * d2 ≤ R.locals
    omega
  have hrun : va_Run p l' e R s m args below meth c H locs n k 0 0 (F0 m pc ls (As.reverse ++ .ref b :: rest)) rest (va_Qv (fun (_ : Unit) => True) (fun _ t => va_P g.1 vwCl W1 t.heap) (va_A Wc H.size) (Value.ref b :: As).toArray) (va_A Wc H.size) := by
    rcases hlink with hlink | ⟨host, hlink⟩
    · exact va_runV (As := As) (rest := rest) ⟨hx, hb, hml, hown, hts⟩ (M H.size) (cwV As.length hts (good_cons hlink (good_cons hin (good_cons hsel (good_cons hini (good_cons hcode good_BIG))))) rfl rfl rfl ⟨rfl, hy⟩ hrm) hp rfl rfl hl.1 rfl (lv_room hcat) hd hnk
    · exact va_runVN (As := As) (rest := rest) ⟨hx, hb, hml, hown, hts⟩ (M H.size) ⟨va_cnB As.length hts (good_cons hcode good_BIG) rfl rfl rfl (hK.2.1 _ hlink) (hts _ hini) hy hrm, hts _ hin, hts _ hsel⟩ hp rfl rfl hl.1 rfl (lv_room hcat) hd hnk
  refine va_callv hrun hS (fun q _ h => hFc q h) hFc (fun u t H1 locs1 ht hvm hw1 hB hz1 hk1 hS1 => ?_)
  skip
  have hB : va_P g.1 vwCl W1 t.heap := hB
  rw [ht] at hB
  obtain ⟨hP2, hD2⟩ := fj hP hD isC hC ha hk1 hB
  rw [hw] at hP2 hD2
  exact kk H1 locs1 ls hP2 hD2 hS1 hl
theorem s_cV {l : Launch} {g : Gl} {X : Cx} {own : String} {cc : ByteArray} {nL d n k pc : Nat} {ws : va_W} {lv : List (Nat × Value)} {rest : List Value} {index : Nat} {y : MethodName} {cc2 : ByteArray} {nL2 d2 : Nat} {As st : List Value} {Wc : va_W} {W1 : va_W} (ws' : va_W)  (C : Ok l g X own cc nL d) (L : MLS own index y cc2 nL2 none As.length) (M : CtV l g y cc2 nL2 d2 As Wc W1) (hd : decode cc pc = .ok (.invokestatic index, 3)) (hdd : d2 < d) (isC : List Nat) (hC : isC.map (fun i => ws[i]?) = Wc.map some) (hnd : va_nd isC = true) (ha : W1.map Prod.fst = Wc.map Prod.fst) (hw : setL ws isC W1 = ws') (hst : st = As.reverse ++ rest) (hcat : (rest.map fun v => v.category).sum ≤ 8) (hnk : n ≤ cellsX X ∧ k ≤ slotsX X) (kk : Vw g X nL n k ws' (pc + 3) lv rest) : Vw g X nL n k ws pc lv st := by
  obtain ⟨p, l', e, R, s, m, args, below, meth, c, Q, A⟩ := X
  obtain ⟨rfl, hx, hb, hml, hown, hts, hK, hlk, hA, hfr, hlo⟩ := C
  intro H locs ls hP hD hS hl
  subst hst
  obtain ⟨hlink, hin, hini, hcode, hy, hnl⟩ := L
  have hPc := hP.sub (ws' := Wc) isC (by have e1 := congrArg (fun z => z.filterMap id) hC; simpa [List.filterMap_map, Function.comp_def] using e1)
  have hDc := hD.sub (ws' := Wc) isC hnd hC
  have hFc := va_free (wc := Wc) hD hS hA isC hC
  have hp : PreS s H (va_Pc As (PreW g Wc H.size)) As := ⟨PreW.blind, fun U hU hW => ⟨rfl, by rw [hU], by rw [hU]; exact hPc, hK.warm hW, hDc.weaken (fun _ _ _ _ => trivial)⟩⟩
  have hrm : (rmq d2 0 0).frames + 1 ≤ R.frames ∧ 8 + (nL2 + 11) + (rmq d2 0 0).locals ≤ R.locals := by
    show d2 + 1 ≤ R.frames ∧ 8 + (nL2 + 11) + 38 * d2 ≤ R.locals
    omega
  have hrun : va_Run p l' e R s m args below meth c H locs n k 0 0 (F0 m pc ls (As.reverse ++ rest)) rest (va_Qv (fun (_ : Unit) => True) (fun _ t => va_P g.1 vwCl W1 t.heap) (va_A Wc H.size) As.toArray) (va_A Wc H.size) := by
    rcases hlink with hlink | ⟨host, hlink⟩
    · exact va_runS (As := As) (rest := rest) ⟨hx, hb, hml, hown, hts⟩ (M H.size) ⟨callB_of As.length hts (good_cons hcode good_BIG) rfl rfl rfl (hts _ hini) (hts _ hlink) hy hrm, hts _ hin⟩ hp rfl rfl hl.1 rfl (lv_room hcat) hd hnk
    · exact va_runSN (As := As) (rest := rest) ⟨hx, hb, hml, hown, hts⟩ (M H.size) ⟨va_cnB As.length hts (good_cons hcode good_BIG) rfl rfl rfl (hK.2.1 _ hlink) (hts _ hini) hy hrm, hts _ hin, trivial⟩ hp rfl rfl hl.1 rfl (lv_room hcat) hd hnk
  refine va_callv hrun hS (fun q _ h => hFc q h) hFc (fun u t H1 locs1 ht hvm hw1 hB hz1 hk1 hS1 => ?_)
  skip
  have hB : va_P g.1 vwCl W1 t.heap := hB
  rw [ht] at hB
  obtain ⟨hP2, hD2⟩ := fj hP hD isC hC ha hk1 hB
  rw [hw] at hP2 hD2
  exact kk H1 locs1 ls hP2 hD2 hS1 hl

theorem v_pV {l : Launch} {g : Gl} {X : Cx} {own : String} {cc : ByteArray} {nL d n k pc : Nat} {ws : va_W} {lv : List (Nat × Value)} {rest : List Value} {index : Nat} {y : MethodName} {cc2 : ByteArray} {nL2 d2 b ci : Nat} {As st : List Value} {Wc : va_W}   {fs : List Value} (C : Ok l g X own cc nL d) (L : MLV own index y cc2 nL2 none As.length ci) (M : CtV l g y cc2 nL2 d2 (.ref b :: As) Wc Wc) (hd : decode cc pc = .ok (.invokevirtual index, 3)) (hdd : d2 < d) (isC : List Nat) (hC : isC.map (fun i => ws[i]?) = Wc.map some) (hnd : va_nd isC = true)  (q0 : Nat) (hrec : ws[q0]? = some (b, .inr (ci, fs))) (hst : st = As.reverse ++ .ref b :: rest) (hcat : (rest.map fun v => v.category).sum ≤ 8) (hnk : n ≤ cellsX X ∧ k ≤ slotsX X) (kk : Vw g X nL n k ws (pc + 3) lv rest) : Vw g X nL n k ws pc lv st := by
  obtain ⟨p, l', e, R, s, m, args, below, meth, c, Q, A⟩ := X
  obtain ⟨rfl, hx, hb, hml, hown, hts, hK, hlk, hA, hfr, hlo⟩ := C
  intro H locs ls hP hD hS hl
  subst hst
  obtain ⟨hlink, hin, hsel, hini, hcode, hy, ⟨Tc, Nc, hcl⟩, hnl⟩ := L
  have hPc := hP.sub (ws' := Wc) isC (by have e1 := congrArg (fun z => z.filterMap id) hC; simpa [List.filterMap_map, Function.comp_def] using e1)
  have hDc := hD.sub (ws' := Wc) isC hnd hC
  have hFc := va_free (wc := Wc) hD hS hA isC hC
  have hp : PreV s H y.cls b (va_Pc (.ref b :: As) (PreW g Wc H.size)) As := ⟨PreW.blind, va_recv hK.1 hP hcl hrec, fun U hU hW => ⟨rfl, by rw [hU], by rw [hU]; exact hPc, hK.warm hW, hDc.weaken (fun _ _ _ _ => trivial)⟩⟩
  have hrm : (rmq d2 0 0).frames + 1 ≤ R.frames ∧ 8 + (nL2 + 11) + (rmq d2 0 0).locals ≤ R.locals := by
    show d2 + 1 ≤ R.frames ∧ 8 + (nL2 + 11) + 38 * d2 ≤ R.locals
    omega
  have hrun : va_Run p l' e R s m args below meth c H locs n k 0 0 (F0 m pc ls (As.reverse ++ .ref b :: rest)) rest (va_Qv (fun (_ : Unit) => True) (fun _ t => va_P g.1 vwCl Wc t.heap) (va_A Wc H.size) (Value.ref b :: As).toArray) (va_A Wc H.size) := by
    rcases hlink with hlink | ⟨host, hlink⟩
    · exact va_runV (As := As) (rest := rest) ⟨hx, hb, hml, hown, hts⟩ (M H.size) (cwV As.length hts (good_cons hlink (good_cons hin (good_cons hsel (good_cons hini (good_cons hcode good_BIG))))) rfl rfl rfl ⟨rfl, hy⟩ hrm) hp rfl rfl hl.1 rfl (lv_room hcat) hd hnk
    · exact va_runVN (As := As) (rest := rest) ⟨hx, hb, hml, hown, hts⟩ (M H.size) ⟨va_cnB As.length hts (good_cons hcode good_BIG) rfl rfl rfl (hK.2.1 _ hlink) (hts _ hini) hy hrm, hts _ hin, hts _ hsel⟩ hp rfl rfl hl.1 rfl (lv_room hcat) hd hnk
  refine va_callv hrun hS (fun q _ h => hFc q h) hFc (fun u t H1 locs1 ht hvm hw1 hB hz1 hk1 hS1 => ?_)
  skip
  have hB : va_P g.1 vwCl Wc t.heap := hB
  rw [ht] at hB
  have hP2 := fjP hP hD isC hC hk1 hB
  exact kk H1 locs1 ls hP2 hD hS1 hl
theorem s_pV {l : Launch} {g : Gl} {X : Cx} {own : String} {cc : ByteArray} {nL d n k pc : Nat} {ws : va_W} {lv : List (Nat × Value)} {rest : List Value} {index : Nat} {y : MethodName} {cc2 : ByteArray} {nL2 d2 : Nat} {As st : List Value} {Wc : va_W}   (C : Ok l g X own cc nL d) (L : MLS own index y cc2 nL2 none As.length) (M : CtV l g y cc2 nL2 d2 As Wc Wc) (hd : decode cc pc = .ok (.invokestatic index, 3)) (hdd : d2 < d) (isC : List Nat) (hC : isC.map (fun i => ws[i]?) = Wc.map some) (hnd : va_nd isC = true)  (hst : st = As.reverse ++ rest) (hcat : (rest.map fun v => v.category).sum ≤ 8) (hnk : n ≤ cellsX X ∧ k ≤ slotsX X) (kk : Vw g X nL n k ws (pc + 3) lv rest) : Vw g X nL n k ws pc lv st := by
  obtain ⟨p, l', e, R, s, m, args, below, meth, c, Q, A⟩ := X
  obtain ⟨rfl, hx, hb, hml, hown, hts, hK, hlk, hA, hfr, hlo⟩ := C
  intro H locs ls hP hD hS hl
  subst hst
  obtain ⟨hlink, hin, hini, hcode, hy, hnl⟩ := L
  have hPc := hP.sub (ws' := Wc) isC (by have e1 := congrArg (fun z => z.filterMap id) hC; simpa [List.filterMap_map, Function.comp_def] using e1)
  have hDc := hD.sub (ws' := Wc) isC hnd hC
  have hFc := va_free (wc := Wc) hD hS hA isC hC
  have hp : PreS s H (va_Pc As (PreW g Wc H.size)) As := ⟨PreW.blind, fun U hU hW => ⟨rfl, by rw [hU], by rw [hU]; exact hPc, hK.warm hW, hDc.weaken (fun _ _ _ _ => trivial)⟩⟩
  have hrm : (rmq d2 0 0).frames + 1 ≤ R.frames ∧ 8 + (nL2 + 11) + (rmq d2 0 0).locals ≤ R.locals := by
    show d2 + 1 ≤ R.frames ∧ 8 + (nL2 + 11) + 38 * d2 ≤ R.locals
    omega
  have hrun : va_Run p l' e R s m args below meth c H locs n k 0 0 (F0 m pc ls (As.reverse ++ rest)) rest (va_Qv (fun (_ : Unit) => True) (fun _ t => va_P g.1 vwCl Wc t.heap) (va_A Wc H.size) As.toArray) (va_A Wc H.size) := by
    rcases hlink with hlink | ⟨host, hlink⟩
    · exact va_runS (As := As) (rest := rest) ⟨hx, hb, hml, hown, hts⟩ (M H.size) ⟨callB_of As.length hts (good_cons hcode good_BIG) rfl rfl rfl (hts _ hini) (hts _ hlink) hy hrm, hts _ hin⟩ hp rfl rfl hl.1 rfl (lv_room hcat) hd hnk
    · exact va_runSN (As := As) (rest := rest) ⟨hx, hb, hml, hown, hts⟩ (M H.size) ⟨va_cnB As.length hts (good_cons hcode good_BIG) rfl rfl rfl (hK.2.1 _ hlink) (hts _ hini) hy hrm, hts _ hin, trivial⟩ hp rfl rfl hl.1 rfl (lv_room hcat) hd hnk
  refine va_callv hrun hS (fun q _ h => hFc q h) hFc (fun u t H1 locs1 ht hvm hw1 hB hz1 hk1 hS1 => ?_)
  skip
  have hB : va_P g.1 vwCl Wc t.heap := hB
  rw [ht] at hB
  have hP2 := fjP hP hD isC hC hk1 hB
  exact kk H1 locs1 ls hP2 hD hS1 hl
end
section
theorem u_all {C : String} {T : u_T} {N : Nat} (h : ∀ k, k < N → u_lay C T k ∈ BIG) : ∀ w ∈ u_ws C T N, w ∈ BIG := by
  intro w hw
  obtain ⟨k, hk, rfl⟩ := List.mem_map.mp hw
  exact h k (List.mem_range.mp hk)
theorem iw_X0 : ∀ w ∈ u_ws RX0 TX0 5, w ∈ BIG := u_all (fun k hk => by
  match k, hk with
  | 0, _ => exact mb 259 (by decide +kernel) (by decide +kernel)
  | 1, _ => exact mb 261 (by decide +kernel) (by decide +kernel)
  | 2, _ => exact mb 263 (by decide +kernel) (by decide +kernel)
  | 3, _ => exact mb 265 (by decide +kernel) (by decide +kernel)
  | 4, _ => exact mb 267 (by decide +kernel) (by decide +kernel)
  | k + 5, hk => exact absurd hk (by omega))
theorem iw_X1 : ∀ w ∈ u_ws RX1 TX1 1, w ∈ BIG := u_all (fun k hk => by
  match k, hk with
  | 0, _ => exact mb 299 (by decide +kernel) (by decide +kernel)
  | k + 1, hk => exact absurd hk (by omega))
theorem iw_X2 : ∀ w ∈ u_ws RX2 TX2 4, w ∈ BIG := u_all (fun k hk => by
  match k, hk with
  | 0, _ => exact mb 179 (by decide +kernel) (by decide +kernel)
  | 1, _ => exact mb 181 (by decide +kernel) (by decide +kernel)
  | 2, _ => exact mb 183 (by decide +kernel) (by decide +kernel)
  | 3, _ => exact mb 185 (by decide +kernel) (by decide +kernel)
  | k + 4, hk => exact absurd hk (by omega))
theorem iw_X3 : ∀ w ∈ u_ws RX3 TX3 3, w ∈ BIG := u_all (fun k hk => by
  match k, hk with
  | 0, _ => exact mb 235 (by decide +kernel) (by decide +kernel)
  | 1, _ => exact mb 237 (by decide +kernel) (by decide +kernel)
  | 2, _ => exact mb 239 (by decide +kernel) (by decide +kernel)
  | k + 3, hk => exact absurd hk (by omega))
theorem iw_X4 : ∀ w ∈ u_ws RX4 TX4 9, w ∈ BIG := u_all (fun k hk => by
  match k, hk with
  | 0, _ => exact mb 199 (by decide +kernel) (by decide +kernel)
  | 1, _ => exact mb 201 (by decide +kernel) (by decide +kernel)
  | 2, _ => exact mb 203 (by decide +kernel) (by decide +kernel)
  | 3, _ => exact mb 205 (by decide +kernel) (by decide +kernel)
  | 4, _ => exact mb 207 (by decide +kernel) (by decide +kernel)
  | 5, _ => exact mb 209 (by decide +kernel) (by decide +kernel)
  | 6, _ => exact mb 211 (by decide +kernel) (by decide +kernel)
  | 7, _ => exact mb 213 (by decide +kernel) (by decide +kernel)
  | 8, _ => exact mb 215 (by decide +kernel) (by decide +kernel)
  | k + 9, hk => exact absurd hk (by omega))
theorem iw_X5 : ∀ w ∈ u_ws RX5 TX5 4, w ∈ BIG := u_all (fun k hk => by
  match k, hk with
  | 0, _ => exact mb 282 (by decide +kernel) (by decide +kernel)
  | 1, _ => exact mb 284 (by decide +kernel) (by decide +kernel)
  | 2, _ => exact mb 286 (by decide +kernel) (by decide +kernel)
  | 3, _ => exact mb 288 (by decide +kernel) (by decide +kernel)
  | k + 4, hk => exact absurd hk (by omega))
theorem iw_X6 : ∀ w ∈ u_ws RX6 TX6 2, w ∈ BIG := u_all (fun k hk => by
  match k, hk with
  | 0, _ => exact mb 108 (by decide +kernel) (by decide +kernel)
  | 1, _ => exact mb 110 (by decide +kernel) (by decide +kernel)
  | k + 2, hk => exact absurd hk (by omega))
theorem iw_X7 : ∀ w ∈ u_ws RX7 TX7 4, w ∈ BIG := u_all (fun k hk => by
  match k, hk with
  | 0, _ => exact mb 143 (by decide +kernel) (by decide +kernel)
  | 1, _ => exact mb 145 (by decide +kernel) (by decide +kernel)
  | 2, _ => exact mb 147 (by decide +kernel) (by decide +kernel)
  | 3, _ => exact mb 149 (by decide +kernel) (by decide +kernel)
  | k + 4, hk => exact absurd hk (by omega))
theorem iw_X8 : ∀ w ∈ u_ws RX8 TX8 10, w ∈ BIG := u_all (fun k hk => by
  match k, hk with
  | 0, _ => exact mb 312 (by decide +kernel) (by decide +kernel)
  | 1, _ => exact mb 314 (by decide +kernel) (by decide +kernel)
  | 2, _ => exact mb 316 (by decide +kernel) (by decide +kernel)
  | 3, _ => exact mb 318 (by decide +kernel) (by decide +kernel)
  | 4, _ => exact mb 320 (by decide +kernel) (by decide +kernel)
  | 5, _ => exact mb 322 (by decide +kernel) (by decide +kernel)
  | 6, _ => exact mb 324 (by decide +kernel) (by decide +kernel)
  | 7, _ => exact mb 326 (by decide +kernel) (by decide +kernel)
  | 8, _ => exact mb 328 (by decide +kernel) (by decide +kernel)
  | 9, _ => exact mb 330 (by decide +kernel) (by decide +kernel)
  | k + 10, hk => exact absurd hk (by omega))
theorem iw_X9 : ∀ w ∈ u_ws RX9 TX9 25, w ∈ BIG := u_all (fun k hk => by
  match k, hk with
  | 0, _ => exact mb 740 (by decide +kernel) (by decide +kernel)
  | 1, _ => exact mb 742 (by decide +kernel) (by decide +kernel)
  | 2, _ => exact mb 744 (by decide +kernel) (by decide +kernel)
  | 3, _ => exact mb 746 (by decide +kernel) (by decide +kernel)
  | 4, _ => exact mb 748 (by decide +kernel) (by decide +kernel)
  | 5, _ => exact mb 750 (by decide +kernel) (by decide +kernel)
  | 6, _ => exact mb 752 (by decide +kernel) (by decide +kernel)
  | 7, _ => exact mb 754 (by decide +kernel) (by decide +kernel)
  | 8, _ => exact mb 756 (by decide +kernel) (by decide +kernel)
  | 9, _ => exact mb 758 (by decide +kernel) (by decide +kernel)
  | 10, _ => exact mb 760 (by decide +kernel) (by decide +kernel)
  | 11, _ => exact mb 762 (by decide +kernel) (by decide +kernel)
  | 12, _ => exact mb 764 (by decide +kernel) (by decide +kernel)
  | 13, _ => exact mb 766 (by decide +kernel) (by decide +kernel)
  | 14, _ => exact mb 768 (by decide +kernel) (by decide +kernel)
  | 15, _ => exact mb 770 (by decide +kernel) (by decide +kernel)
  | 16, _ => exact mb 772 (by decide +kernel) (by decide +kernel)
  | 17, _ => exact mb 774 (by decide +kernel) (by decide +kernel)
  | 18, _ => exact mb 776 (by decide +kernel) (by decide +kernel)
  | 19, _ => exact mb 778 (by decide +kernel) (by decide +kernel)
  | 20, _ => exact mb 780 (by decide +kernel) (by decide +kernel)
  | 21, _ => exact mb 782 (by decide +kernel) (by decide +kernel)
  | 22, _ => exact mb 784 (by decide +kernel) (by decide +kernel)
  | 23, _ => exact mb 786 (by decide +kernel) (by decide +kernel)
  | 24, _ => exact mb 788 (by decide +kernel) (by decide +kernel)
  | k + 25, hk => exact absurd hk (by omega))
theorem oi_X8_1 : Cond.methodLink RX8 1 objectInit ∈ BIG := mb 94 (by decide +kernel) (by decide +kernel)
theorem cl_X8_7 : Cond.classLink RX8 7 RX6 ∈ BIG := mb 97 (by decide +kernel) (by decide +kernel)
theorem mi_X8_9 : (Cond.methodLink RX8 9 yX6_init ∈ BIG ∨ ∃ host, Cond.methodLinkNest RX8 9 yX6_init host ∈ NSL) ∧ Cond.instanceMethod yX6_init ∈ BIG ∧ Cond.initialized yX6_init.cls ∈ BIG ∧ Cond.code yX6_init cX6_init 1 none ∈ BIG := ⟨Or.inr ⟨"SpinTops", mn 99 (by decide +kernel) (by decide +kernel)⟩, mb 100 (by decide +kernel) (by decide +kernel), mb 77 (by decide +kernel) (by decide +kernel), mb 101 (by decide +kernel) (by decide +kernel)⟩
theorem ff_X8_10 : FF RX8 10 8 0 (.object "SpinTops$Text") := ⟨TX8, 10, rfl, by decide, iw_X8, rfl, mb 302 (by decide +kernel) (by decide +kernel), rfl, (by decide +kernel), ⟨tyX8, tyX8_ok⟩, nmX8⟩
theorem cl_X8_16 : Cond.classLink RX8 16 RX4 ∈ BIG := mb 114 (by decide +kernel) (by decide +kernel)
theorem fl_X8_10 : FL RX8 10 8 0 := ⟨RX8, TX8, 10, rfl, by decide, iw_X8, rfl, Or.inl (mb 302 (by decide +kernel) (by decide +kernel))⟩
theorem mi_X8_18 : (Cond.methodLink RX8 18 yX4_init ∈ BIG ∨ ∃ host, Cond.methodLinkNest RX8 18 yX4_init host ∈ NSL) ∧ Cond.instanceMethod yX4_init ∈ BIG ∧ Cond.initialized yX4_init.cls ∈ BIG ∧ Cond.code yX4_init cX4_init 2 none ∈ BIG := ⟨Or.inr ⟨"SpinTops", mn 116 (by decide +kernel) (by decide +kernel)⟩, mb 117 (by decide +kernel) (by decide +kernel), mb 78 (by decide +kernel) (by decide +kernel), mb 118 (by decide +kernel) (by decide +kernel)⟩
theorem ff_X8_21 : FF RX8 21 8 1 (.object "SpinTops$Reader") := ⟨TX8, 10, rfl, by decide, iw_X8, rfl, mb 303 (by decide +kernel) (by decide +kernel), rfl, (by decide +kernel), ⟨tyX8, tyX8_ok⟩, nmX8⟩
theorem cl_X8_25 : Cond.classLink RX8 25 RX7 ∈ BIG := mb 218 (by decide +kernel) (by decide +kernel)
theorem mi_X8_27 : (Cond.methodLink RX8 27 yX7_init ∈ BIG ∨ ∃ host, Cond.methodLinkNest RX8 27 yX7_init host ∈ NSL) ∧ Cond.instanceMethod yX7_init ∈ BIG ∧ Cond.initialized yX7_init.cls ∈ BIG ∧ Cond.code yX7_init cX7_init 1 none ∈ BIG := ⟨Or.inr ⟨"SpinTops", mn 219 (by decide +kernel) (by decide +kernel)⟩, mb 123 (by decide +kernel) (by decide +kernel), mb 79 (by decide +kernel) (by decide +kernel), mb 124 (by decide +kernel) (by decide +kernel)⟩
theorem ff_X8_28 : FF RX8 28 8 2 (.object "SpinTops$Told") := ⟨TX8, 10, rfl, by decide, iw_X8, rfl, mb 304 (by decide +kernel) (by decide +kernel), rfl, (by decide +kernel), ⟨tyX8, tyX8_ok⟩, nmX8⟩
theorem cl_X8_32 : Cond.classLink RX8 32 RX2 ∈ BIG := mb 220 (by decide +kernel) (by decide +kernel)
theorem mi_X8_34 : (Cond.methodLink RX8 34 yX2_init ∈ BIG ∨ ∃ host, Cond.methodLinkNest RX8 34 yX2_init host ∈ NSL) ∧ Cond.instanceMethod yX2_init ∈ BIG ∧ Cond.initialized yX2_init.cls ∈ BIG ∧ Cond.code yX2_init cX2_init 1 none ∈ BIG := ⟨Or.inr ⟨"SpinTops", mn 221 (by decide +kernel) (by decide +kernel)⟩, mb 155 (by decide +kernel) (by decide +kernel), mb 80 (by decide +kernel) (by decide +kernel), mb 156 (by decide +kernel) (by decide +kernel)⟩
theorem ff_X8_35 : FF RX8 35 8 3 (.object "SpinTops$Moment") := ⟨TX8, 10, rfl, by decide, iw_X8, rfl, mb 305 (by decide +kernel) (by decide +kernel), rfl, (by decide +kernel), ⟨tyX8, tyX8_ok⟩, nmX8⟩
theorem cl_X8_39 : Cond.classLink RX8 39 RX3 ∈ BIG := mb 222 (by decide +kernel) (by decide +kernel)
theorem mi_X8_41 : (Cond.methodLink RX8 41 yX3_init ∈ BIG ∨ ∃ host, Cond.methodLinkNest RX8 41 yX3_init host ∈ NSL) ∧ Cond.instanceMethod yX3_init ∈ BIG ∧ Cond.initialized yX3_init.cls ∈ BIG ∧ Cond.code yX3_init cX3_init 2 none ∈ BIG := ⟨Or.inr ⟨"SpinTops", mn 224 (by decide +kernel) (by decide +kernel)⟩, mb 225 (by decide +kernel) (by decide +kernel), mb 81 (by decide +kernel) (by decide +kernel), mb 226 (by decide +kernel) (by decide +kernel)⟩
theorem ff_X8_42 : FF RX8 42 8 4 (.object "SpinTops$Past") := ⟨TX8, 10, rfl, by decide, iw_X8, rfl, mb 306 (by decide +kernel) (by decide +kernel), rfl, (by decide +kernel), ⟨tyX8, tyX8_ok⟩, nmX8⟩
theorem ff_X8_46 : FF RX8 46 8 5 (.array (.object "SpinTops$Moment")) := ⟨TX8, 10, rfl, by decide, iw_X8, rfl, mb 307 (by decide +kernel) (by decide +kernel), rfl, (by decide +kernel), ⟨tyX8, tyX8_ok⟩, nmX8⟩
theorem ff_X8_50 : FF RX8 50 8 6 (.array .boolean) := ⟨TX8, 10, rfl, by decide, iw_X8, rfl, mb 308 (by decide +kernel) (by decide +kernel), rfl, (by decide +kernel), ⟨tyX8, tyX8_ok⟩, nmX8⟩
theorem cl_X8_54 : Cond.classLink RX8 54 RX0 ∈ BIG := mb 242 (by decide +kernel) (by decide +kernel)
theorem mi_X8_56 : (Cond.methodLink RX8 56 yX0_init ∈ BIG ∨ ∃ host, Cond.methodLinkNest RX8 56 yX0_init host ∈ NSL) ∧ Cond.instanceMethod yX0_init ∈ BIG ∧ Cond.initialized yX0_init.cls ∈ BIG ∧ Cond.code yX0_init cX0_init 1 none ∈ BIG := ⟨Or.inr ⟨"SpinTops", mn 244 (by decide +kernel) (by decide +kernel)⟩, mb 245 (by decide +kernel) (by decide +kernel), mb 82 (by decide +kernel) (by decide +kernel), mb 246 (by decide +kernel) (by decide +kernel)⟩
theorem ff_X8_57 : FF RX8 57 8 7 (.object "SpinTops$Future") := ⟨TX8, 10, rfl, by decide, iw_X8, rfl, mb 309 (by decide +kernel) (by decide +kernel), rfl, (by decide +kernel), ⟨tyX8, tyX8_ok⟩, nmX8⟩
theorem cl_X8_61 : Cond.classLink RX8 61 RX5 ∈ BIG := mb 271 (by decide +kernel) (by decide +kernel)
theorem mi_X8_63 : (Cond.methodLink RX8 63 yX5_init ∈ BIG ∨ ∃ host, Cond.methodLinkNest RX8 63 yX5_init host ∈ NSL) ∧ Cond.instanceMethod yX5_init ∈ BIG ∧ Cond.initialized yX5_init.cls ∈ BIG ∧ Cond.code yX5_init cX5_init 1 none ∈ BIG := ⟨Or.inr ⟨"SpinTops", mn 273 (by decide +kernel) (by decide +kernel)⟩, mb 274 (by decide +kernel) (by decide +kernel), mb 83 (by decide +kernel) (by decide +kernel), mb 275 (by decide +kernel) (by decide +kernel)⟩
theorem ff_X8_64 : FF RX8 64 8 8 (.object "SpinTops$Seen") := ⟨TX8, 10, rfl, by decide, iw_X8, rfl, mb 310 (by decide +kernel) (by decide +kernel), rfl, (by decide +kernel), ⟨tyX8, tyX8_ok⟩, nmX8⟩
theorem cl_X8_68 : Cond.classLink RX8 68 RX1 ∈ BIG := mb 291 (by decide +kernel) (by decide +kernel)
theorem mi_X8_70 : (Cond.methodLink RX8 70 yX1_init ∈ BIG ∨ ∃ host, Cond.methodLinkNest RX8 70 yX1_init host ∈ NSL) ∧ Cond.instanceMethod yX1_init ∈ BIG ∧ Cond.initialized yX1_init.cls ∈ BIG ∧ Cond.code yX1_init cX1_init 1 none ∈ BIG := ⟨Or.inr ⟨"SpinTops", mn 293 (by decide +kernel) (by decide +kernel)⟩, mb 294 (by decide +kernel) (by decide +kernel), mb 84 (by decide +kernel) (by decide +kernel), mb 295 (by decide +kernel) (by decide +kernel)⟩
theorem ff_X8_71 : FF RX8 71 8 9 (.object "SpinTops$Kinds") := ⟨TX8, 10, rfl, by decide, iw_X8, rfl, mb 311 (by decide +kernel) (by decide +kernel), rfl, (by decide +kernel), ⟨tyX8, tyX8_ok⟩, nmX8⟩
theorem fl_X8_46 : FL RX8 46 8 5 := ⟨RX8, TX8, 10, rfl, by decide, iw_X8, rfl, Or.inl (mb 307 (by decide +kernel) (by decide +kernel))⟩
theorem ms_X8_75 : MLS RX8 75 yX8_within cX8_within 3 (some .boolean) 3 := ⟨Or.inl (mb 337 (by decide +kernel) (by decide +kernel)), mb 338 (by decide +kernel) (by decide +kernel), mb 76 (by decide +kernel) (by decide +kernel), mb 339 (by decide +kernel) (by decide +kernel), (by decide +kernel), by decide⟩
theorem mv_X8_79 : MLV RX8 79 yX6_add cX6_add 2 (some .boolean) 1 6 := ⟨Or.inr ⟨"SpinTops", mn 340 (by decide +kernel) (by decide +kernel)⟩, mb 342 (by decide +kernel) (by decide +kernel), mb 2 (by decide +kernel) (by decide +kernel), mb 77 (by decide +kernel) (by decide +kernel), mb 343 (by decide +kernel) (by decide +kernel), (by decide +kernel), ⟨TX6, 2, rfl⟩, by decide⟩
theorem fl_X8_83 : FL RX8 83 6 1 := ⟨RX6, TX6, 2, rfl, by decide, iw_X6, rfl, Or.inr ⟨"SpinTops", mn 106 (by decide +kernel) (by decide +kernel)⟩⟩
theorem fp_X8_83 : FP RX8 83 6 1 .int := ⟨RX6, TX6, 2, rfl, by decide, iw_X6, rfl, Or.inr ⟨"SpinTops", mn 106 (by decide +kernel) (by decide +kernel)⟩, rfl, (by decide +kernel), ⟨tyX6, tyX6_ok⟩, nmX6⟩
theorem fl_X8_21 : FL RX8 21 8 1 := ⟨RX8, TX8, 10, rfl, by decide, iw_X8, rfl, Or.inl (mb 303 (by decide +kernel) (by decide +kernel))⟩
theorem mv_X8_87 : MLV RX8 87 yX4_read cX4_read 3 (some .int) 0 4 := ⟨Or.inr ⟨"SpinTops", mn 352 (by decide +kernel) (by decide +kernel)⟩, mb 354 (by decide +kernel) (by decide +kernel), mb 3 (by decide +kernel) (by decide +kernel), mb 78 (by decide +kernel) (by decide +kernel), mb 355 (by decide +kernel) (by decide +kernel), (by decide +kernel), ⟨TX4, 9, rfl⟩, by decide⟩
theorem fl_X8_28 : FL RX8 28 8 2 := ⟨RX8, TX8, 10, rfl, by decide, iw_X8, rfl, Or.inl (mb 304 (by decide +kernel) (by decide +kernel))⟩
theorem fl_X8_91 : FL RX8 91 4 1 := ⟨RX4, TX4, 9, rfl, by decide, iw_X4, rfl, Or.inr ⟨"SpinTops", mn 190 (by decide +kernel) (by decide +kernel)⟩⟩
theorem mv_X8_94 : MLV RX8 94 yX7_copy cX7_copy 2 none 1 7 := ⟨Or.inr ⟨"SpinTops", mn 408 (by decide +kernel) (by decide +kernel)⟩, mb 410 (by decide +kernel) (by decide +kernel), mb 15 (by decide +kernel) (by decide +kernel), mb 79 (by decide +kernel) (by decide +kernel), mb 411 (by decide +kernel) (by decide +kernel), (by decide +kernel), ⟨TX7, 4, rfl⟩, by decide⟩
theorem fl_X8_35 : FL RX8 35 8 3 := ⟨RX8, TX8, 10, rfl, by decide, iw_X8, rfl, Or.inl (mb 305 (by decide +kernel) (by decide +kernel))⟩
theorem fl_X8_98 : FL RX8 98 4 2 := ⟨RX4, TX4, 9, rfl, by decide, iw_X4, rfl, Or.inr ⟨"SpinTops", mn 192 (by decide +kernel) (by decide +kernel)⟩⟩
theorem mv_X8_101 : MLV RX8 101 yX2_copy cX2_copy 2 none 1 2 := ⟨Or.inr ⟨"SpinTops", mn 415 (by decide +kernel) (by decide +kernel)⟩, mb 417 (by decide +kernel) (by decide +kernel), mb 16 (by decide +kernel) (by decide +kernel), mb 80 (by decide +kernel) (by decide +kernel), mb 418 (by decide +kernel) (by decide +kernel), (by decide +kernel), ⟨TX2, 4, rfl⟩, by decide⟩
theorem fl_X8_42 : FL RX8 42 8 4 := ⟨RX8, TX8, 10, rfl, by decide, iw_X8, rfl, Or.inl (mb 306 (by decide +kernel) (by decide +kernel))⟩
theorem fp_X8_104 : FP RX8 104 3 2 .int := ⟨RX3, TX3, 3, rfl, by decide, iw_X3, rfl, Or.inr ⟨"SpinTops", mn 234 (by decide +kernel) (by decide +kernel)⟩, rfl, (by decide +kernel), ⟨tyX3, tyX3_ok⟩, nmX3⟩
theorem fl_X8_64 : FL RX8 64 8 8 := ⟨RX8, TX8, 10, rfl, by decide, iw_X8, rfl, Or.inl (mb 310 (by decide +kernel) (by decide +kernel))⟩
theorem fp_X8_107 : FP RX8 107 5 3 .int := ⟨RX5, TX5, 4, rfl, by decide, iw_X5, rfl, Or.inr ⟨"SpinTops", mn 281 (by decide +kernel) (by decide +kernel)⟩, rfl, (by decide +kernel), ⟨tyX5, tyX5_ok⟩, nmX5⟩
theorem fl_X8_50 : FL RX8 50 8 6 := ⟨RX8, TX8, 10, rfl, by decide, iw_X8, rfl, Or.inl (mb 308 (by decide +kernel) (by decide +kernel))⟩
theorem mv_X8_108 : MLV RX8 108 yX8_isTop cX8_isTop 2 (some .boolean) 1 8 := ⟨Or.inl (mb 424 (by decide +kernel) (by decide +kernel)), mb 426 (by decide +kernel) (by decide +kernel), mb 17 (by decide +kernel) (by decide +kernel), mb 76 (by decide +kernel) (by decide +kernel), mb 427 (by decide +kernel) (by decide +kernel), (by decide +kernel), ⟨TX8, 10, rfl⟩, by decide⟩
theorem fl_X8_111 : FL RX8 111 2 0 := ⟨RX2, TX2, 4, rfl, by decide, iw_X2, rfl, Or.inr ⟨"SpinTops", mn 167 (by decide +kernel) (by decide +kernel)⟩⟩
theorem fl_X8_115 : FL RX8 115 2 1 := ⟨RX2, TX2, 4, rfl, by decide, iw_X2, rfl, Or.inr ⟨"SpinTops", mn 171 (by decide +kernel) (by decide +kernel)⟩⟩
theorem fl_X8_118 : FL RX8 118 7 0 := ⟨RX7, TX7, 4, rfl, by decide, iw_X7, rfl, Or.inr ⟨"SpinTops", mn 128 (by decide +kernel) (by decide +kernel)⟩⟩
theorem mv_X8_121 : MLV RX8 121 yX2_stands cX2_stands 2 (some .boolean) 1 2 := ⟨Or.inr ⟨"SpinTops", mn 428 (by decide +kernel) (by decide +kernel)⟩, mb 402 (by decide +kernel) (by decide +kernel), mb 13 (by decide +kernel) (by decide +kernel), mb 80 (by decide +kernel) (by decide +kernel), mb 403 (by decide +kernel) (by decide +kernel), (by decide +kernel), ⟨TX2, 4, rfl⟩, by decide⟩
theorem fl_X8_57 : FL RX8 57 8 7 := ⟨RX8, TX8, 10, rfl, by decide, iw_X8, rfl, Or.inl (mb 309 (by decide +kernel) (by decide +kernel))⟩
theorem mv_X8_124 : MLV RX8 124 yX0_fall cX0_fall 5 (some .int) 3 0 := ⟨Or.inr ⟨"SpinTops", mn 429 (by decide +kernel) (by decide +kernel)⟩, mb 431 (by decide +kernel) (by decide +kernel), mb 18 (by decide +kernel) (by decide +kernel), mb 82 (by decide +kernel) (by decide +kernel), mb 432 (by decide +kernel) (by decide +kernel), (by decide +kernel), ⟨TX0, 5, rfl⟩, by decide⟩
theorem mv_X8_128 : MLV RX8 128 yX8_isPlace cX8_isPlace 2 (some .boolean) 1 8 := ⟨Or.inl (mb 474 (by decide +kernel) (by decide +kernel)), mb 476 (by decide +kernel) (by decide +kernel), mb 26 (by decide +kernel) (by decide +kernel), mb 76 (by decide +kernel) (by decide +kernel), mb 477 (by decide +kernel) (by decide +kernel), (by decide +kernel), ⟨TX8, 10, rfl⟩, by decide⟩
theorem mv_X8_131 : MLV RX8 131 yX2_who cX2_who 3 (some .int) 1 2 := ⟨Or.inr ⟨"SpinTops", mn 478 (by decide +kernel) (by decide +kernel)⟩, mb 398 (by decide +kernel) (by decide +kernel), mb 12 (by decide +kernel) (by decide +kernel), mb 80 (by decide +kernel) (by decide +kernel), mb 399 (by decide +kernel) (by decide +kernel), (by decide +kernel), ⟨TX2, 4, rfl⟩, by decide⟩
theorem fl_X8_135 : FL RX8 135 2 2 := ⟨RX2, TX2, 4, rfl, by decide, iw_X2, rfl, Or.inr ⟨"SpinTops", mn 175 (by decide +kernel) (by decide +kernel)⟩⟩
theorem fl_X8_138 : FL RX8 138 2 3 := ⟨RX2, TX2, 4, rfl, by decide, iw_X2, rfl, Or.inr ⟨"SpinTops", mn 178 (by decide +kernel) (by decide +kernel)⟩⟩
theorem mv_X8_141 : MLV RX8 141 yX2_standing cX2_standing 3 (some .int) 0 2 := ⟨Or.inr ⟨"SpinTops", mn 483 (by decide +kernel) (by decide +kernel)⟩, mb 445 (by decide +kernel) (by decide +kernel), mb 21 (by decide +kernel) (by decide +kernel), mb 80 (by decide +kernel) (by decide +kernel), mb 446 (by decide +kernel) (by decide +kernel), (by decide +kernel), ⟨TX2, 4, rfl⟩, by decide⟩
theorem mv_X8_144 : MLV RX8 144 yX2_allSpins cX2_allSpins 3 (some .int) 0 2 := ⟨Or.inr ⟨"SpinTops", mn 484 (by decide +kernel) (by decide +kernel)⟩, mb 486 (by decide +kernel) (by decide +kernel), mb 27 (by decide +kernel) (by decide +kernel), mb 80 (by decide +kernel) (by decide +kernel), mb 487 (by decide +kernel) (by decide +kernel), (by decide +kernel), ⟨TX2, 4, rfl⟩, by decide⟩
theorem mv_X8_147 : MLV RX8 147 yX0_last cX0_last 5 (some .int) 2 0 := ⟨Or.inr ⟨"SpinTops", mn 488 (by decide +kernel) (by decide +kernel)⟩, mb 490 (by decide +kernel) (by decide +kernel), mb 28 (by decide +kernel) (by decide +kernel), mb 82 (by decide +kernel) (by decide +kernel), mb 491 (by decide +kernel) (by decide +kernel), (by decide +kernel), ⟨TX0, 5, rfl⟩, by decide⟩
theorem fl_X8_104 : FL RX8 104 3 2 := ⟨RX3, TX3, 3, rfl, by decide, iw_X3, rfl, Or.inr ⟨"SpinTops", mn 234 (by decide +kernel) (by decide +kernel)⟩⟩
theorem mv_X8_151 : MLV RX8 151 yX3_remember cX3_remember 2 none 1 3 := ⟨Or.inr ⟨"SpinTops", mn 500 (by decide +kernel) (by decide +kernel)⟩, mb 502 (by decide +kernel) (by decide +kernel), mb 30 (by decide +kernel) (by decide +kernel), mb 81 (by decide +kernel) (by decide +kernel), mb 503 (by decide +kernel) (by decide +kernel), (by decide +kernel), ⟨TX3, 3, rfl⟩, by decide⟩
theorem mv_X8_154 : MLV RX8 154 yX2_goBy cX2_goBy 5 (some .int) 2 2 := ⟨Or.inr ⟨"SpinTops", mn 506 (by decide +kernel) (by decide +kernel)⟩, mb 437 (by decide +kernel) (by decide +kernel), mb 19 (by decide +kernel) (by decide +kernel), mb 80 (by decide +kernel) (by decide +kernel), mb 438 (by decide +kernel) (by decide +kernel), (by decide +kernel), ⟨TX2, 4, rfl⟩, by decide⟩
theorem ms_X8_158 : MLS RX8 158 yX8_isWhip cX8_isWhip 1 (some .boolean) 1 := ⟨Or.inl (mb 511 (by decide +kernel) (by decide +kernel)), mb 512 (by decide +kernel) (by decide +kernel), mb 76 (by decide +kernel) (by decide +kernel), mb 513 (by decide +kernel) (by decide +kernel), (by decide +kernel), by decide⟩
theorem mv_X8_161 : MLV RX8 161 yX2_whipped cX2_whipped 3 none 2 2 := ⟨Or.inr ⟨"SpinTops", mn 514 (by decide +kernel) (by decide +kernel)⟩, mb 516 (by decide +kernel) (by decide +kernel), mb 31 (by decide +kernel) (by decide +kernel), mb 80 (by decide +kernel) (by decide +kernel), mb 517 (by decide +kernel) (by decide +kernel), (by decide +kernel), ⟨TX2, 4, rfl⟩, by decide⟩
theorem fp_X8_138 : FP RX8 138 2 3 .int := ⟨RX2, TX2, 4, rfl, by decide, iw_X2, rfl, Or.inr ⟨"SpinTops", mn 178 (by decide +kernel) (by decide +kernel)⟩, rfl, (by decide +kernel), ⟨tyX2, tyX2_ok⟩, nmX2⟩
theorem mv_X8_165 : MLV RX8 165 yX3_recall cX3_recall 2 (some .boolean) 1 3 := ⟨Or.inr ⟨"SpinTops", mn 531 (by decide +kernel) (by decide +kernel)⟩, mb 533 (by decide +kernel) (by decide +kernel), mb 32 (by decide +kernel) (by decide +kernel), mb 81 (by decide +kernel) (by decide +kernel), mb 534 (by decide +kernel) (by decide +kernel), (by decide +kernel), ⟨TX3, 3, rfl⟩, by decide⟩
theorem ms_X8_169 : MLS RX8 169 yX8_isAhead cX8_isAhead 1 (some .boolean) 1 := ⟨Or.inl (mb 539 (by decide +kernel) (by decide +kernel)), mb 540 (by decide +kernel) (by decide +kernel), mb 76 (by decide +kernel) (by decide +kernel), mb 541 (by decide +kernel) (by decide +kernel), (by decide +kernel), by decide⟩
theorem mv_X8_172 : MLV RX8 172 yX0_standing cX0_standing 4 (some .int) 3 0 := ⟨Or.inr ⟨"SpinTops", mn 542 (by decide +kernel) (by decide +kernel)⟩, mb 544 (by decide +kernel) (by decide +kernel), mb 33 (by decide +kernel) (by decide +kernel), mb 82 (by decide +kernel) (by decide +kernel), mb 545 (by decide +kernel) (by decide +kernel), (by decide +kernel), ⟨TX0, 5, rfl⟩, by decide⟩
theorem mv_X8_174 : MLV RX8 174 yX0_bestWhip cX0_bestWhip 8 (some .int) 4 0 := ⟨Or.inr ⟨"SpinTops", mn 551 (by decide +kernel) (by decide +kernel)⟩, mb 553 (by decide +kernel) (by decide +kernel), mb 34 (by decide +kernel) (by decide +kernel), mb 82 (by decide +kernel) (by decide +kernel), mb 554 (by decide +kernel) (by decide +kernel), (by decide +kernel), ⟨TX0, 5, rfl⟩, by decide⟩
theorem mv_X8_178 : MLV RX8 178 yX0_findRow cX0_findRow 7 none 3 0 := ⟨Or.inr ⟨"SpinTops", mn 561 (by decide +kernel) (by decide +kernel)⟩, mb 563 (by decide +kernel) (by decide +kernel), mb 35 (by decide +kernel) (by decide +kernel), mb 82 (by decide +kernel) (by decide +kernel), mb 564 (by decide +kernel) (by decide +kernel), (by decide +kernel), ⟨TX0, 5, rfl⟩, by decide⟩
theorem fl_X8_182 : FL RX8 182 0 1 := ⟨RX0, TX0, 5, rfl, by decide, iw_X0, rfl, Or.inr ⟨"SpinTops", mn 252 (by decide +kernel) (by decide +kernel)⟩⟩
theorem fl_X8_185 : FL RX8 185 0 2 := ⟨RX0, TX0, 5, rfl, by decide, iw_X0, rfl, Or.inr ⟨"SpinTops", mn 254 (by decide +kernel) (by decide +kernel)⟩⟩
theorem mv_X8_188 : MLV RX8 188 yX0_tiltOf cX0_tiltOf 6 (some .int) 3 0 := ⟨Or.inr ⟨"SpinTops", mn 572 (by decide +kernel) (by decide +kernel)⟩, mb 570 (by decide +kernel) (by decide +kernel), mb 36 (by decide +kernel) (by decide +kernel), mb 82 (by decide +kernel) (by decide +kernel), mb 571 (by decide +kernel) (by decide +kernel), (by decide +kernel), ⟨TX0, 5, rfl⟩, by decide⟩
theorem mv_X8_192 : MLV RX8 192 yX0_findOdds cX0_findOdds 11 none 5 0 := ⟨Or.inr ⟨"SpinTops", mn 577 (by decide +kernel) (by decide +kernel)⟩, mb 579 (by decide +kernel) (by decide +kernel), mb 37 (by decide +kernel) (by decide +kernel), mb 82 (by decide +kernel) (by decide +kernel), mb 580 (by decide +kernel) (by decide +kernel), (by decide +kernel), ⟨TX0, 5, rfl⟩, by decide⟩
theorem fl_X8_196 : FL RX8 196 0 3 := ⟨RX0, TX0, 5, rfl, by decide, iw_X0, rfl, Or.inr ⟨"SpinTops", mn 256 (by decide +kernel) (by decide +kernel)⟩⟩
theorem fl_X8_199 : FL RX8 199 0 4 := ⟨RX0, TX0, 5, rfl, by decide, iw_X0, rfl, Or.inr ⟨"SpinTops", mn 258 (by decide +kernel) (by decide +kernel)⟩⟩
theorem ms_X8_202 : MLS RX8 202 yX8_isSpin cX8_isSpin 1 (some .boolean) 1 := ⟨Or.inl (mb 598 (by decide +kernel) (by decide +kernel)), mb 599 (by decide +kernel) (by decide +kernel), mb 76 (by decide +kernel) (by decide +kernel), mb 600 (by decide +kernel) (by decide +kernel), (by decide +kernel), by decide⟩
theorem mv_X8_205 : MLV RX8 205 yX5_add cX5_add 4 (some .boolean) 3 5 := ⟨Or.inr ⟨"SpinTops", mn 601 (by decide +kernel) (by decide +kernel)⟩, mb 603 (by decide +kernel) (by decide +kernel), mb 41 (by decide +kernel) (by decide +kernel), mb 83 (by decide +kernel) (by decide +kernel), mb 604 (by decide +kernel) (by decide +kernel), (by decide +kernel), ⟨TX5, 4, rfl⟩, by decide⟩
theorem fl_X8_107 : FL RX8 107 5 3 := ⟨RX5, TX5, 4, rfl, by decide, iw_X5, rfl, Or.inr ⟨"SpinTops", mn 281 (by decide +kernel) (by decide +kernel)⟩⟩
theorem mv_X8_207 : MLV RX8 207 yX5_howMany cX5_howMany 3 (some .int) 0 5 := ⟨Or.inr ⟨"SpinTops", mn 613 (by decide +kernel) (by decide +kernel)⟩, mb 615 (by decide +kernel) (by decide +kernel), mb 42 (by decide +kernel) (by decide +kernel), mb 83 (by decide +kernel) (by decide +kernel), mb 616 (by decide +kernel) (by decide +kernel), (by decide +kernel), ⟨TX5, 4, rfl⟩, by decide⟩
theorem mv_X8_210 : MLV RX8 210 yX5_least cX5_least 2 (some .int) 0 5 := ⟨Or.inr ⟨"SpinTops", mn 627 (by decide +kernel) (by decide +kernel)⟩, mb 629 (by decide +kernel) (by decide +kernel), mb 44 (by decide +kernel) (by decide +kernel), mb 83 (by decide +kernel) (by decide +kernel), mb 630 (by decide +kernel) (by decide +kernel), (by decide +kernel), ⟨TX5, 4, rfl⟩, by decide⟩
theorem mv_X8_213 : MLV RX8 213 yX5_greatest cX5_greatest 2 (some .int) 0 5 := ⟨Or.inr ⟨"SpinTops", mn 631 (by decide +kernel) (by decide +kernel)⟩, mb 633 (by decide +kernel) (by decide +kernel), mb 45 (by decide +kernel) (by decide +kernel), mb 83 (by decide +kernel) (by decide +kernel), mb 634 (by decide +kernel) (by decide +kernel), (by decide +kernel), ⟨TX5, 4, rfl⟩, by decide⟩
theorem mv_X8_216 : MLV RX8 216 yX5_bestWait cX5_bestWait 6 (some .int) 1 5 := ⟨Or.inr ⟨"SpinTops", mn 639 (by decide +kernel) (by decide +kernel)⟩, mb 641 (by decide +kernel) (by decide +kernel), mb 46 (by decide +kernel) (by decide +kernel), mb 83 (by decide +kernel) (by decide +kernel), mb 642 (by decide +kernel) (by decide +kernel), (by decide +kernel), ⟨TX5, 4, rfl⟩, by decide⟩
theorem kc_X8_219 : Cond.constant RX8 219 (-1000000) ∈ BIG := mb 656 (by decide +kernel) (by decide +kernel)
theorem fl_X8_71 : FL RX8 71 8 9 := ⟨RX8, TX8, 10, rfl, by decide, iw_X8, rfl, Or.inl (mb 311 (by decide +kernel) (by decide +kernel))⟩
theorem mv_X8_220 : MLV RX8 220 yX1_asTop cX1_asTop 3 (some .int) 2 1 := ⟨Or.inr ⟨"SpinTops", mn 657 (by decide +kernel) (by decide +kernel)⟩, mb 659 (by decide +kernel) (by decide +kernel), mb 49 (by decide +kernel) (by decide +kernel), mb 84 (by decide +kernel) (by decide +kernel), mb 660 (by decide +kernel) (by decide +kernel), (by decide +kernel), ⟨TX1, 1, rfl⟩, by decide⟩
theorem mv_X8_224 : MLV RX8 224 yX1_asPeg cX1_asPeg 4 (some .int) 3 1 := ⟨Or.inr ⟨"SpinTops", mn 661 (by decide +kernel) (by decide +kernel)⟩, mb 663 (by decide +kernel) (by decide +kernel), mb 50 (by decide +kernel) (by decide +kernel), mb 84 (by decide +kernel) (by decide +kernel), mb 664 (by decide +kernel) (by decide +kernel), (by decide +kernel), ⟨TX1, 1, rfl⟩, by decide⟩
theorem mv_X8_227 : MLV RX8 227 yX1_asHummer cX1_asHummer 3 (some .int) 2 1 := ⟨Or.inr ⟨"SpinTops", mn 667 (by decide +kernel) (by decide +kernel)⟩, mb 669 (by decide +kernel) (by decide +kernel), mb 51 (by decide +kernel) (by decide +kernel), mb 84 (by decide +kernel) (by decide +kernel), mb 670 (by decide +kernel) (by decide +kernel), (by decide +kernel), ⟨TX1, 1, rfl⟩, by decide⟩
theorem mv_X8_230 : MLV RX8 230 yX1_asWhipper cX1_asWhipper 4 (some .int) 3 1 := ⟨Or.inr ⟨"SpinTops", mn 673 (by decide +kernel) (by decide +kernel)⟩, mb 675 (by decide +kernel) (by decide +kernel), mb 52 (by decide +kernel) (by decide +kernel), mb 84 (by decide +kernel) (by decide +kernel), mb 676 (by decide +kernel) (by decide +kernel), (by decide +kernel), ⟨TX1, 1, rfl⟩, by decide⟩
theorem mv_X8_233 : MLV RX8 233 yX1_asDisc cX1_asDisc 3 (some .int) 2 1 := ⟨Or.inr ⟨"SpinTops", mn 679 (by decide +kernel) (by decide +kernel)⟩, mb 681 (by decide +kernel) (by decide +kernel), mb 53 (by decide +kernel) (by decide +kernel), mb 84 (by decide +kernel) (by decide +kernel), mb 682 (by decide +kernel) (by decide +kernel), (by decide +kernel), ⟨TX1, 1, rfl⟩, by decide⟩
theorem mv_X8_236 : MLV RX8 236 yX1_asAcorn cX1_asAcorn 3 (some .int) 2 1 := ⟨Or.inr ⟨"SpinTops", mn 685 (by decide +kernel) (by decide +kernel)⟩, mb 687 (by decide +kernel) (by decide +kernel), mb 54 (by decide +kernel) (by decide +kernel), mb 84 (by decide +kernel) (by decide +kernel), mb 688 (by decide +kernel) (by decide +kernel), (by decide +kernel), ⟨TX1, 1, rfl⟩, by decide⟩
theorem ms_X8_239 : MLS RX8 239 yX8_isImage cX8_isImage 1 (some .boolean) 1 := ⟨Or.inl (mb 694 (by decide +kernel) (by decide +kernel)), mb 695 (by decide +kernel) (by decide +kernel), mb 76 (by decide +kernel) (by decide +kernel), mb 696 (by decide +kernel) (by decide +kernel), (by decide +kernel), by decide⟩
theorem fl_X8_242 : FL RX8 242 7 1 := ⟨RX7, TX7, 4, rfl, by decide, iw_X7, rfl, Or.inr ⟨"SpinTops", mn 134 (by decide +kernel) (by decide +kernel)⟩⟩
theorem fl_X8_245 : FL RX8 245 7 3 := ⟨RX7, TX7, 4, rfl, by decide, iw_X7, rfl, Or.inr ⟨"SpinTops", mn 142 (by decide +kernel) (by decide +kernel)⟩⟩
theorem fl_X8_248 : FL RX8 248 7 2 := ⟨RX7, TX7, 4, rfl, by decide, iw_X7, rfl, Or.inr ⟨"SpinTops", mn 138 (by decide +kernel) (by decide +kernel)⟩⟩
theorem fl_X8_251 : FL RX8 251 1 0 := ⟨RX1, TX1, 1, rfl, by decide, iw_X1, rfl, Or.inr ⟨"SpinTops", mn 298 (by decide +kernel) (by decide +kernel)⟩⟩
theorem oi_X9_1 : Cond.methodLink RX9 1 objectInit ∈ BIG := mb 714 (by decide +kernel) (by decide +kernel)
theorem fp_X9_7 : FP RX9 7 9 0 .int := ⟨RX9, TX9, 25, rfl, by decide, iw_X9, rfl, Or.inl (mb 715 (by decide +kernel) (by decide +kernel)), rfl, (by decide +kernel), ⟨tyX9, tyX9_ok⟩, nmX9⟩
theorem fp_X9_13 : FP RX9 13 9 2 .int := ⟨RX9, TX9, 25, rfl, by decide, iw_X9, rfl, Or.inl (mb 717 (by decide +kernel) (by decide +kernel)), rfl, (by decide +kernel), ⟨tyX9, tyX9_ok⟩, nmX9⟩
theorem ff_X9_16 : FF RX9 16 9 3 (.array .int) := ⟨TX9, 25, rfl, by decide, iw_X9, rfl, mb 718 (by decide +kernel) (by decide +kernel), rfl, (by decide +kernel), ⟨tyX9, tyX9_ok⟩, nmX9⟩
theorem ff_X9_20 : FF RX9 20 9 7 (.array .int) := ⟨TX9, 25, rfl, by decide, iw_X9, rfl, mb 722 (by decide +kernel) (by decide +kernel), rfl, (by decide +kernel), ⟨tyX9, tyX9_ok⟩, nmX9⟩
theorem ff_X9_23 : FF RX9 23 9 8 (.array .int) := ⟨TX9, 25, rfl, by decide, iw_X9, rfl, mb 723 (by decide +kernel) (by decide +kernel), rfl, (by decide +kernel), ⟨tyX9, tyX9_ok⟩, nmX9⟩
theorem ff_X9_26 : FF RX9 26 9 9 (.array .int) := ⟨TX9, 25, rfl, by decide, iw_X9, rfl, mb 724 (by decide +kernel) (by decide +kernel), rfl, (by decide +kernel), ⟨tyX9, tyX9_ok⟩, nmX9⟩
theorem ff_X9_29 : FF RX9 29 9 10 (.array .int) := ⟨TX9, 25, rfl, by decide, iw_X9, rfl, mb 725 (by decide +kernel) (by decide +kernel), rfl, (by decide +kernel), ⟨tyX9, tyX9_ok⟩, nmX9⟩
theorem ff_X9_32 : FF RX9 32 9 12 (.array .int) := ⟨TX9, 25, rfl, by decide, iw_X9, rfl, mb 727 (by decide +kernel) (by decide +kernel), rfl, (by decide +kernel), ⟨tyX9, tyX9_ok⟩, nmX9⟩
theorem ff_X9_35 : FF RX9 35 9 14 (.array .byte) := ⟨TX9, 25, rfl, by decide, iw_X9, rfl, mb 729 (by decide +kernel) (by decide +kernel), rfl, (by decide +kernel), ⟨tyX9, tyX9_ok⟩, nmX9⟩
theorem ff_X9_39 : FF RX9 39 9 21 (.array .int) := ⟨TX9, 25, rfl, by decide, iw_X9, rfl, mb 736 (by decide +kernel) (by decide +kernel), rfl, (by decide +kernel), ⟨tyX9, tyX9_ok⟩, nmX9⟩
theorem ff_X9_42 : FF RX9 42 9 22 (.array .int) := ⟨TX9, 25, rfl, by decide, iw_X9, rfl, mb 737 (by decide +kernel) (by decide +kernel), rfl, (by decide +kernel), ⟨tyX9, tyX9_ok⟩, nmX9⟩
theorem ff_X9_45 : FF RX9 45 9 23 (.array .int) := ⟨TX9, 25, rfl, by decide, iw_X9, rfl, mb 738 (by decide +kernel) (by decide +kernel), rfl, (by decide +kernel), ⟨tyX9, tyX9_ok⟩, nmX9⟩
theorem kl_X9_48 : Cond.constantLong RX9 48 (255) ∈ BIG := mb 796 (by decide +kernel) (by decide +kernel)
theorem ms_X9_50 : MLS RX9 50 yX9_in cX9_in 6 (some .boolean) 3 := ⟨Or.inl (mb 797 (by decide +kernel) (by decide +kernel)), mb 798 (by decide +kernel) (by decide +kernel), mb 85 (by decide +kernel) (by decide +kernel), mb 799 (by decide +kernel) (by decide +kernel), (by decide +kernel), by decide⟩
theorem fl_X9_54 : FL RX9 54 9 13 := ⟨RX9, TX9, 25, rfl, by decide, iw_X9, rfl, Or.inl (mb 728 (by decide +kernel) (by decide +kernel))⟩
theorem fl_X9_35 : FL RX9 35 9 14 := ⟨RX9, TX9, 25, rfl, by decide, iw_X9, rfl, Or.inl (mb 729 (by decide +kernel) (by decide +kernel))⟩
theorem fp_X9_54 : FP RX9 54 9 13 .int := ⟨RX9, TX9, 25, rfl, by decide, iw_X9, rfl, Or.inl (mb 728 (by decide +kernel) (by decide +kernel)), rfl, (by decide +kernel), ⟨tyX9, tyX9_ok⟩, nmX9⟩
theorem fl_X9_57 : FL RX9 57 9 15 := ⟨RX9, TX9, 25, rfl, by decide, iw_X9, rfl, Or.inl (mb 730 (by decide +kernel) (by decide +kernel))⟩
theorem mv_X9_60 : MLV RX9 60 yX9_letterAt cX9_letterAt 2 (some .int) 1 9 := ⟨Or.inl (mb 812 (by decide +kernel) (by decide +kernel)), mb 814 (by decide +kernel) (by decide +kernel), mb 56 (by decide +kernel) (by decide +kernel), mb 85 (by decide +kernel) (by decide +kernel), mb 815 (by decide +kernel) (by decide +kernel), (by decide +kernel), ⟨TX9, 25, rfl⟩, by decide⟩
theorem fp_X9_57 : FP RX9 57 9 15 .int := ⟨RX9, TX9, 25, rfl, by decide, iw_X9, rfl, Or.inl (mb 730 (by decide +kernel) (by decide +kernel)), rfl, (by decide +kernel), ⟨tyX9, tyX9_ok⟩, nmX9⟩
theorem fp_X9_64 : FP RX9 64 9 16 .int := ⟨RX9, TX9, 25, rfl, by decide, iw_X9, rfl, Or.inl (mb 731 (by decide +kernel) (by decide +kernel)), rfl, (by decide +kernel), ⟨tyX9, tyX9_ok⟩, nmX9⟩
theorem kl_X9_67 : Cond.constantLong RX9 67 (48) ∈ BIG := mb 816 (by decide +kernel) (by decide +kernel)
theorem kl_X9_69 : Cond.constantLong RX9 69 (57) ∈ BIG := mb 817 (by decide +kernel) (by decide +kernel)
theorem fp_X9_71 : FP RX9 71 9 17 .int := ⟨RX9, TX9, 25, rfl, by decide, iw_X9, rfl, Or.inl (mb 732 (by decide +kernel) (by decide +kernel)), rfl, (by decide +kernel), ⟨tyX9, tyX9_ok⟩, nmX9⟩
theorem fl_X9_71 : FL RX9 71 9 17 := ⟨RX9, TX9, 25, rfl, by decide, iw_X9, rfl, Or.inl (mb 732 (by decide +kernel) (by decide +kernel))⟩
theorem fl_X9_74 : FL RX9 74 9 18 := ⟨RX9, TX9, 25, rfl, by decide, iw_X9, rfl, Or.inl (mb 733 (by decide +kernel) (by decide +kernel))⟩
theorem mv_X9_78 : MLV RX9 78 yX9_token cX9_token 3 (some .int) 0 9 := ⟨Or.inl (mb 808 (by decide +kernel) (by decide +kernel)), mb 810 (by decide +kernel) (by decide +kernel), mb 55 (by decide +kernel) (by decide +kernel), mb 85 (by decide +kernel) (by decide +kernel), mb 811 (by decide +kernel) (by decide +kernel), (by decide +kernel), ⟨TX9, 25, rfl⟩, by decide⟩
theorem fp_X9_74 : FP RX9 74 9 18 .boolean := ⟨RX9, TX9, 25, rfl, by decide, iw_X9, rfl, Or.inl (mb 733 (by decide +kernel) (by decide +kernel)), rfl, (by decide +kernel), ⟨tyX9, tyX9_ok⟩, nmX9⟩
theorem fl_X9_82 : FL RX9 82 9 5 := ⟨RX9, TX9, 25, rfl, by decide, iw_X9, rfl, Or.inl (mb 720 (by decide +kernel) (by decide +kernel))⟩
theorem fl_X9_85 : FL RX9 85 9 4 := ⟨RX9, TX9, 25, rfl, by decide, iw_X9, rfl, Or.inl (mb 719 (by decide +kernel) (by decide +kernel))⟩
theorem mv_X9_88 : MLV RX9 88 yX9_wants cX9_wants 4 (some .int) 2 9 := ⟨Or.inl (mb 822 (by decide +kernel) (by decide +kernel)), mb 824 (by decide +kernel) (by decide +kernel), mb 58 (by decide +kernel) (by decide +kernel), mb 85 (by decide +kernel) (by decide +kernel), mb 825 (by decide +kernel) (by decide +kernel), (by decide +kernel), ⟨TX9, 25, rfl⟩, by decide⟩
theorem fl_X9_20 : FL RX9 20 9 7 := ⟨RX9, TX9, 25, rfl, by decide, iw_X9, rfl, Or.inl (mb 722 (by decide +kernel) (by decide +kernel))⟩
theorem fl_X9_23 : FL RX9 23 9 8 := ⟨RX9, TX9, 25, rfl, by decide, iw_X9, rfl, Or.inl (mb 723 (by decide +kernel) (by decide +kernel))⟩
theorem fl_X9_26 : FL RX9 26 9 9 := ⟨RX9, TX9, 25, rfl, by decide, iw_X9, rfl, Or.inl (mb 724 (by decide +kernel) (by decide +kernel))⟩
theorem fp_X9_82 : FP RX9 82 9 5 .int := ⟨RX9, TX9, 25, rfl, by decide, iw_X9, rfl, Or.inl (mb 720 (by decide +kernel) (by decide +kernel)), rfl, (by decide +kernel), ⟨tyX9, tyX9_ok⟩, nmX9⟩
theorem fp_X9_85 : FP RX9 85 9 4 .int := ⟨RX9, TX9, 25, rfl, by decide, iw_X9, rfl, Or.inl (mb 719 (by decide +kernel) (by decide +kernel)), rfl, (by decide +kernel), ⟨tyX9, tyX9_ok⟩, nmX9⟩
theorem mv_X9_92 : MLV RX9 92 yX9_topItem cX9_topItem 4 none 0 9 := ⟨Or.inl (mb 826 (by decide +kernel) (by decide +kernel)), mb 828 (by decide +kernel) (by decide +kernel), mb 59 (by decide +kernel) (by decide +kernel), mb 85 (by decide +kernel) (by decide +kernel), mb 829 (by decide +kernel) (by decide +kernel), (by decide +kernel), ⟨TX9, 25, rfl⟩, by decide⟩
theorem fl_X9_95 : FL RX9 95 9 19 := ⟨RX9, TX9, 25, rfl, by decide, iw_X9, rfl, Or.inl (mb 734 (by decide +kernel) (by decide +kernel))⟩
theorem fp_X9_98 : FP RX9 98 9 6 .int := ⟨RX9, TX9, 25, rfl, by decide, iw_X9, rfl, Or.inl (mb 721 (by decide +kernel) (by decide +kernel)), rfl, (by decide +kernel), ⟨tyX9, tyX9_ok⟩, nmX9⟩
theorem fp_X9_95 : FP RX9 95 9 19 .boolean := ⟨RX9, TX9, 25, rfl, by decide, iw_X9, rfl, Or.inl (mb 734 (by decide +kernel) (by decide +kernel)), rfl, (by decide +kernel), ⟨tyX9, tyX9_ok⟩, nmX9⟩
theorem mv_X9_101 : MLV RX9 101 yX9_item cX9_item 3 none 2 9 := ⟨Or.inl (mb 818 (by decide +kernel) (by decide +kernel)), mb 820 (by decide +kernel) (by decide +kernel), mb 57 (by decide +kernel) (by decide +kernel), mb 85 (by decide +kernel) (by decide +kernel), mb 821 (by decide +kernel) (by decide +kernel), (by decide +kernel), ⟨TX9, 25, rfl⟩, by decide⟩
theorem fl_X9_64 : FL RX9 64 9 16 := ⟨RX9, TX9, 25, rfl, by decide, iw_X9, rfl, Or.inl (mb 731 (by decide +kernel) (by decide +kernel))⟩
theorem mv_X9_105 : MLV RX9 105 yX9_settles cX9_settles 2 none 0 9 := ⟨Or.inl (mb 830 (by decide +kernel) (by decide +kernel)), mb 832 (by decide +kernel) (by decide +kernel), mb 60 (by decide +kernel) (by decide +kernel), mb 85 (by decide +kernel) (by decide +kernel), mb 833 (by decide +kernel) (by decide +kernel), (by decide +kernel), ⟨TX9, 25, rfl⟩, by decide⟩
theorem fp_X9_108 : FP RX9 108 9 1 .int := ⟨RX9, TX9, 25, rfl, by decide, iw_X9, rfl, Or.inl (mb 716 (by decide +kernel) (by decide +kernel)), rfl, (by decide +kernel), ⟨tyX9, tyX9_ok⟩, nmX9⟩
theorem fl_X9_98 : FL RX9 98 9 6 := ⟨RX9, TX9, 25, rfl, by decide, iw_X9, rfl, Or.inl (mb 721 (by decide +kernel) (by decide +kernel))⟩
theorem fl_X9_16 : FL RX9 16 9 3 := ⟨RX9, TX9, 25, rfl, by decide, iw_X9, rfl, Or.inl (mb 718 (by decide +kernel) (by decide +kernel))⟩
theorem fl_X9_29 : FL RX9 29 9 10 := ⟨RX9, TX9, 25, rfl, by decide, iw_X9, rfl, Or.inl (mb 725 (by decide +kernel) (by decide +kernel))⟩
theorem fl_X9_108 : FL RX9 108 9 1 := ⟨RX9, TX9, 25, rfl, by decide, iw_X9, rfl, Or.inl (mb 716 (by decide +kernel) (by decide +kernel))⟩
theorem fp_X9_111 : FP RX9 111 9 11 .int := ⟨RX9, TX9, 25, rfl, by decide, iw_X9, rfl, Or.inl (mb 726 (by decide +kernel) (by decide +kernel)), rfl, (by decide +kernel), ⟨tyX9, tyX9_ok⟩, nmX9⟩
theorem fp_X9_114 : FP RX9 114 9 20 .int := ⟨RX9, TX9, 25, rfl, by decide, iw_X9, rfl, Or.inl (mb 735 (by decide +kernel) (by decide +kernel)), rfl, (by decide +kernel), ⟨tyX9, tyX9_ok⟩, nmX9⟩
theorem fl_X9_32 : FL RX9 32 9 12 := ⟨RX9, TX9, 25, rfl, by decide, iw_X9, rfl, Or.inl (mb 727 (by decide +kernel) (by decide +kernel))⟩
theorem ms_X9_117 : MLS RX9 117 yX9_has cX9_has 2 (some .boolean) 2 := ⟨Or.inl (mb 847 (by decide +kernel) (by decide +kernel)), mb 848 (by decide +kernel) (by decide +kernel), mb 85 (by decide +kernel) (by decide +kernel), mb 849 (by decide +kernel) (by decide +kernel), (by decide +kernel), by decide⟩
theorem fl_X9_7 : FL RX9 7 9 0 := ⟨RX9, TX9, 25, rfl, by decide, iw_X9, rfl, Or.inl (mb 715 (by decide +kernel) (by decide +kernel))⟩
theorem mv_X9_121 : MLV RX9 121 yX9_whoAt cX9_whoAt 6 (some .int) 3 9 := ⟨Or.inl (mb 870 (by decide +kernel) (by decide +kernel)), mb 872 (by decide +kernel) (by decide +kernel), mb 68 (by decide +kernel) (by decide +kernel), mb 85 (by decide +kernel) (by decide +kernel), mb 873 (by decide +kernel) (by decide +kernel), (by decide +kernel), ⟨TX9, 25, rfl⟩, by decide⟩
theorem mv_X9_125 : MLV RX9 125 yX9_falls cX9_falls 3 none 2 9 := ⟨Or.inl (mb 862 (by decide +kernel) (by decide +kernel)), mb 864 (by decide +kernel) (by decide +kernel), mb 66 (by decide +kernel) (by decide +kernel), mb 85 (by decide +kernel) (by decide +kernel), mb 865 (by decide +kernel) (by decide +kernel), (by decide +kernel), ⟨TX9, 25, rfl⟩, by decide⟩
theorem fl_X9_13 : FL RX9 13 9 2 := ⟨RX9, TX9, 25, rfl, by decide, iw_X9, rfl, Or.inl (mb 717 (by decide +kernel) (by decide +kernel))⟩
theorem mv_X9_128 : MLV RX9 128 yX9_wanders cX9_wanders 7 none 2 9 := ⟨Or.inl (mb 866 (by decide +kernel) (by decide +kernel)), mb 868 (by decide +kernel) (by decide +kernel), mb 67 (by decide +kernel) (by decide +kernel), mb 85 (by decide +kernel) (by decide +kernel), mb 869 (by decide +kernel) (by decide +kernel), (by decide +kernel), ⟨TX9, 25, rfl⟩, by decide⟩
theorem fl_X9_111 : FL RX9 111 9 11 := ⟨RX9, TX9, 25, rfl, by decide, iw_X9, rfl, Or.inl (mb 726 (by decide +kernel) (by decide +kernel))⟩
theorem mv_X9_131 : MLV RX9 131 yX9_copies cX9_copies 4 none 2 9 := ⟨Or.inl (mb 854 (by decide +kernel) (by decide +kernel)), mb 856 (by decide +kernel) (by decide +kernel), mb 64 (by decide +kernel) (by decide +kernel), mb 85 (by decide +kernel) (by decide +kernel), mb 857 (by decide +kernel) (by decide +kernel), (by decide +kernel), ⟨TX9, 25, rfl⟩, by decide⟩
theorem mv_X9_134 : MLV RX9 134 yX9_beat cX9_beat 3 none 1 9 := ⟨Or.inl (mb 858 (by decide +kernel) (by decide +kernel)), mb 860 (by decide +kernel) (by decide +kernel), mb 65 (by decide +kernel) (by decide +kernel), mb 85 (by decide +kernel) (by decide +kernel), mb 861 (by decide +kernel) (by decide +kernel), (by decide +kernel), ⟨TX9, 25, rfl⟩, by decide⟩
theorem mv_X9_138 : MLV RX9 138 yX9_stands cX9_stands 2 (some .boolean) 1 9 := ⟨Or.inl (mb 843 (by decide +kernel) (by decide +kernel)), mb 845 (by decide +kernel) (by decide +kernel), mb 62 (by decide +kernel) (by decide +kernel), mb 85 (by decide +kernel) (by decide +kernel), mb 846 (by decide +kernel) (by decide +kernel), (by decide +kernel), ⟨TX9, 25, rfl⟩, by decide⟩
theorem mv_X9_142 : MLV RX9 142 yX9_fallOf cX9_fallOf 3 (some .int) 1 9 := ⟨Or.inl (mb 850 (by decide +kernel) (by decide +kernel)), mb 852 (by decide +kernel) (by decide +kernel), mb 63 (by decide +kernel) (by decide +kernel), mb 85 (by decide +kernel) (by decide +kernel), mb 853 (by decide +kernel) (by decide +kernel), (by decide +kernel), ⟨TX9, 25, rfl⟩, by decide⟩
theorem ms_X9_145 : MLS RX9 145 yX9_larger cX9_larger 2 (some .int) 2 := ⟨Or.inl (mb 891 (by decide +kernel) (by decide +kernel)), mb 892 (by decide +kernel) (by decide +kernel), mb 85 (by decide +kernel) (by decide +kernel), mb 893 (by decide +kernel) (by decide +kernel), (by decide +kernel), by decide⟩
theorem mv_X9_148 : MLV RX9 148 yX9_isTop cX9_isTop 2 (some .boolean) 1 9 := ⟨Or.inl (mb 838 (by decide +kernel) (by decide +kernel)), mb 840 (by decide +kernel) (by decide +kernel), mb 61 (by decide +kernel) (by decide +kernel), mb 85 (by decide +kernel) (by decide +kernel), mb 841 (by decide +kernel) (by decide +kernel), (by decide +kernel), ⟨TX9, 25, rfl⟩, by decide⟩
theorem kl_X9_151 : Cond.constantLong RX9 151 (4) ∈ BIG := mb 842 (by decide +kernel) (by decide +kernel)
theorem kl_X9_153 : Cond.constantLong RX9 153 (5) ∈ BIG := mb 882 (by decide +kernel) (by decide +kernel)
theorem mv_X9_155 : MLV RX9 155 yX9_spins cX9_spins 3 (some .int) 0 9 := ⟨Or.inl (mb 883 (by decide +kernel) (by decide +kernel)), mb 885 (by decide +kernel) (by decide +kernel), mb 69 (by decide +kernel) (by decide +kernel), mb 85 (by decide +kernel) (by decide +kernel), mb 886 (by decide +kernel) (by decide +kernel), (by decide +kernel), ⟨TX9, 25, rfl⟩, by decide⟩
theorem mv_X9_158 : MLV RX9 158 yX9_last cX9_last 5 (some .int) 0 9 := ⟨Or.inl (mb 887 (by decide +kernel) (by decide +kernel)), mb 889 (by decide +kernel) (by decide +kernel), mb 70 (by decide +kernel) (by decide +kernel), mb 85 (by decide +kernel) (by decide +kernel), mb 890 (by decide +kernel) (by decide +kernel), (by decide +kernel), ⟨TX9, 25, rfl⟩, by decide⟩
theorem mv_X9_161 : MLV RX9 161 yX9_known cX9_known 2 none 0 9 := ⟨Or.inl (mb 898 (by decide +kernel) (by decide +kernel)), mb 900 (by decide +kernel) (by decide +kernel), mb 71 (by decide +kernel) (by decide +kernel), mb 85 (by decide +kernel) (by decide +kernel), mb 901 (by decide +kernel) (by decide +kernel), (by decide +kernel), ⟨TX9, 25, rfl⟩, by decide⟩
theorem ms_X9_164 : MLS RX9 164 yX9_bits cX9_bits 3 (some .int) 1 := ⟨Or.inl (mb 902 (by decide +kernel) (by decide +kernel)), mb 903 (by decide +kernel) (by decide +kernel), mb 85 (by decide +kernel) (by decide +kernel), mb 904 (by decide +kernel) (by decide +kernel), (by decide +kernel), by decide⟩
theorem kl_X9_167 : Cond.constantLong RX9 167 (20) ∈ BIG := mb 909 (by decide +kernel) (by decide +kernel)
theorem mv_X9_169 : MLV RX9 169 yX9_whipped cX9_whipped 4 none 3 9 := ⟨Or.inl (mb 910 (by decide +kernel) (by decide +kernel)), mb 912 (by decide +kernel) (by decide +kernel), mb 72 (by decide +kernel) (by decide +kernel), mb 85 (by decide +kernel) (by decide +kernel), mb 913 (by decide +kernel) (by decide +kernel), (by decide +kernel), ⟨TX9, 25, rfl⟩, by decide⟩
theorem kl_X9_173 : Cond.constantLong RX9 173 (2) ∈ BIG := mb 918 (by decide +kernel) (by decide +kernel)
theorem kl_X9_175 : Cond.constantLong RX9 175 (60) ∈ BIG := mb 931 (by decide +kernel) (by decide +kernel)
theorem mv_X9_177 : MLV RX9 177 yX9_standBehind cX9_standBehind 3 (some .int) 1 9 := ⟨Or.inl (mb 932 (by decide +kernel) (by decide +kernel)), mb 934 (by decide +kernel) (by decide +kernel), mb 73 (by decide +kernel) (by decide +kernel), mb 85 (by decide +kernel) (by decide +kernel), mb 935 (by decide +kernel) (by decide +kernel), (by decide +kernel), ⟨TX9, 25, rfl⟩, by decide⟩
theorem kl_X9_180 : Cond.constantLong RX9 180 (-1) ∈ BIG := mb 944 (by decide +kernel) (by decide +kernel)
theorem kl_X9_182 : Cond.constantLong RX9 182 (10) ∈ BIG := mb 949 (by decide +kernel) (by decide +kernel)
theorem fl_X9_114 : FL RX9 114 9 20 := ⟨RX9, TX9, 25, rfl, by decide, iw_X9, rfl, Or.inl (mb 735 (by decide +kernel) (by decide +kernel))⟩
theorem fl_X9_39 : FL RX9 39 9 21 := ⟨RX9, TX9, 25, rfl, by decide, iw_X9, rfl, Or.inl (mb 736 (by decide +kernel) (by decide +kernel))⟩
theorem fl_X9_42 : FL RX9 42 9 22 := ⟨RX9, TX9, 25, rfl, by decide, iw_X9, rfl, Or.inl (mb 737 (by decide +kernel) (by decide +kernel))⟩
theorem fl_X9_45 : FL RX9 45 9 23 := ⟨RX9, TX9, 25, rfl, by decide, iw_X9, rfl, Or.inl (mb 738 (by decide +kernel) (by decide +kernel))⟩
theorem ms_X9_184 : MLS RX9 184 yX9_spun cX9_spun 3 (some .int) 3 := ⟨Or.inl (mb 966 (by decide +kernel) (by decide +kernel)), mb 967 (by decide +kernel) (by decide +kernel), mb 85 (by decide +kernel) (by decide +kernel), mb 968 (by decide +kernel) (by decide +kernel), (by decide +kernel), by decide⟩
theorem mv_X9_187 : MLV RX9 187 yX9_isSo cX9_isSo 4 (some .boolean) 1 9 := ⟨Or.inl (mb 962 (by decide +kernel) (by decide +kernel)), mb 964 (by decide +kernel) (by decide +kernel), mb 74 (by decide +kernel) (by decide +kernel), mb 85 (by decide +kernel) (by decide +kernel), mb 965 (by decide +kernel) (by decide +kernel), (by decide +kernel), ⟨TX9, 25, rfl⟩, by decide⟩
theorem mv_X9_190 : MLV RX9 190 yX9_drags cX9_drags 7 (some .int) 1 9 := ⟨Or.inl (mb 973 (by decide +kernel) (by decide +kernel)), mb 959 (by decide +kernel) (by decide +kernel), mb 960 (by decide +kernel) (by decide +kernel), mb 85 (by decide +kernel) (by decide +kernel), mb 961 (by decide +kernel) (by decide +kernel), (by decide +kernel), ⟨TX9, 25, rfl⟩, by decide⟩
theorem kc_X9_193 : Cond.constant RX9 193 (-1000000) ∈ BIG := mb 978 (by decide +kernel) (by decide +kernel)
theorem fl_X9_194 : FL RX9 194 9 24 := ⟨RX9, TX9, 25, rfl, by decide, iw_X9, rfl, Or.inl (mb 739 (by decide +kernel) (by decide +kernel))⟩
theorem fp_X9_194 : FP RX9 194 9 24 .long := ⟨RX9, TX9, 25, rfl, by decide, iw_X9, rfl, Or.inl (mb 739 (by decide +kernel) (by decide +kernel)), rfl, (by decide +kernel), ⟨tyX9, tyX9_ok⟩, nmX9⟩
theorem kl_X9_198 : Cond.constantLong RX9 198 (100) ∈ BIG := mb 979 (by decide +kernel) (by decide +kernel)
theorem kl_X9_200 : Cond.constantLong RX9 200 (1000) ∈ BIG := mb 980 (by decide +kernel) (by decide +kernel)
theorem kl_X9_202 : Cond.constantLong RX9 202 (10000) ∈ BIG := mb 981 (by decide +kernel) (by decide +kernel)
theorem kl_X9_204 : Cond.constantLong RX9 204 (100000) ∈ BIG := mb 982 (by decide +kernel) (by decide +kernel)
theorem oi_X0_3 : Cond.methodLink RX0 3 objectInit ∈ BIG := mb 247 (by decide +kernel) (by decide +kernel)
theorem cl_X0_9 : Cond.classLink RX0 9 RX2 ∈ BIG := mb 248 (by decide +kernel) (by decide +kernel)
theorem mi_X0_11 : (Cond.methodLink RX0 11 yX2_init ∈ BIG ∨ ∃ host, Cond.methodLinkNest RX0 11 yX2_init host ∈ NSL) ∧ Cond.instanceMethod yX2_init ∈ BIG ∧ Cond.initialized yX2_init.cls ∈ BIG ∧ Cond.code yX2_init cX2_init 1 none ∈ BIG := ⟨Or.inr ⟨"SpinTops", mn 249 (by decide +kernel) (by decide +kernel)⟩, mb 155 (by decide +kernel) (by decide +kernel), mb 80 (by decide +kernel) (by decide +kernel), mb 156 (by decide +kernel) (by decide +kernel)⟩
theorem ff_X0_12 : FF RX0 12 0 0 (.object "SpinTops$Moment") := ⟨TX0, 5, rfl, by decide, iw_X0, rfl, mb 250 (by decide +kernel) (by decide +kernel), rfl, (by decide +kernel), ⟨tyX0, tyX0_ok⟩, nmX0⟩
theorem fp_X0_18 : FP RX0 18 0 1 .int := ⟨RX0, TX0, 5, rfl, by decide, iw_X0, rfl, Or.inl (mb 251 (by decide +kernel) (by decide +kernel)), rfl, (by decide +kernel), ⟨tyX0, tyX0_ok⟩, nmX0⟩
theorem fp_X0_22 : FP RX0 22 0 2 .int := ⟨RX0, TX0, 5, rfl, by decide, iw_X0, rfl, Or.inl (mb 253 (by decide +kernel) (by decide +kernel)), rfl, (by decide +kernel), ⟨tyX0, tyX0_ok⟩, nmX0⟩
theorem fp_X0_25 : FP RX0 25 0 3 .int := ⟨RX0, TX0, 5, rfl, by decide, iw_X0, rfl, Or.inl (mb 255 (by decide +kernel) (by decide +kernel)), rfl, (by decide +kernel), ⟨tyX0, tyX0_ok⟩, nmX0⟩
theorem fp_X0_28 : FP RX0 28 0 4 .int := ⟨RX0, TX0, 5, rfl, by decide, iw_X0, rfl, Or.inl (mb 257 (by decide +kernel) (by decide +kernel)), rfl, (by decide +kernel), ⟨tyX0, tyX0_ok⟩, nmX0⟩
theorem fl_X0_12 : FL RX0 12 0 0 := ⟨RX0, TX0, 5, rfl, by decide, iw_X0, rfl, Or.inl (mb 250 (by decide +kernel) (by decide +kernel))⟩
theorem mv_X0_31 : MLV RX0 31 yX2_copy cX2_copy 2 none 1 2 := ⟨Or.inr ⟨"SpinTops", mn 433 (by decide +kernel) (by decide +kernel)⟩, mb 417 (by decide +kernel) (by decide +kernel), mb 16 (by decide +kernel) (by decide +kernel), mb 80 (by decide +kernel) (by decide +kernel), mb 418 (by decide +kernel) (by decide +kernel), (by decide +kernel), ⟨TX2, 4, rfl⟩, by decide⟩
theorem mv_X0_35 : MLV RX0 35 yX2_goBy cX2_goBy 5 (some .int) 2 2 := ⟨Or.inr ⟨"SpinTops", mn 435 (by decide +kernel) (by decide +kernel)⟩, mb 437 (by decide +kernel) (by decide +kernel), mb 19 (by decide +kernel) (by decide +kernel), mb 80 (by decide +kernel) (by decide +kernel), mb 438 (by decide +kernel) (by decide +kernel), (by decide +kernel), ⟨TX2, 4, rfl⟩, by decide⟩
theorem mv_X0_39 : MLV RX0 39 yX2_standing cX2_standing 3 (some .int) 0 2 := ⟨Or.inr ⟨"SpinTops", mn 546 (by decide +kernel) (by decide +kernel)⟩, mb 445 (by decide +kernel) (by decide +kernel), mb 21 (by decide +kernel) (by decide +kernel), mb 80 (by decide +kernel) (by decide +kernel), mb 446 (by decide +kernel) (by decide +kernel), (by decide +kernel), ⟨TX2, 4, rfl⟩, by decide⟩
theorem mv_X0_43 : MLV RX0 43 yX2_stands cX2_stands 2 (some .boolean) 1 2 := ⟨Or.inr ⟨"SpinTops", mn 434 (by decide +kernel) (by decide +kernel)⟩, mb 402 (by decide +kernel) (by decide +kernel), mb 13 (by decide +kernel) (by decide +kernel), mb 80 (by decide +kernel) (by decide +kernel), mb 403 (by decide +kernel) (by decide +kernel), (by decide +kernel), ⟨TX2, 4, rfl⟩, by decide⟩
theorem mv_X0_47 : MLV RX0 47 yX2_lowest cX2_lowest 2 (some .int) 0 2 := ⟨Or.inr ⟨"SpinTops", mn 492 (by decide +kernel) (by decide +kernel)⟩, mb 494 (by decide +kernel) (by decide +kernel), mb 29 (by decide +kernel) (by decide +kernel), mb 80 (by decide +kernel) (by decide +kernel), mb 495 (by decide +kernel) (by decide +kernel), (by decide +kernel), ⟨TX2, 4, rfl⟩, by decide⟩
theorem fl_X0_50 : FL RX0 50 7 3 := ⟨RX7, TX7, 4, rfl, by decide, iw_X7, rfl, Or.inr ⟨"SpinTops", mn 141 (by decide +kernel) (by decide +kernel)⟩⟩
theorem mv_X0_55 : MLV RX0 55 yX2_whipped cX2_whipped 3 none 2 2 := ⟨Or.inr ⟨"SpinTops", mn 555 (by decide +kernel) (by decide +kernel)⟩, mb 516 (by decide +kernel) (by decide +kernel), mb 31 (by decide +kernel) (by decide +kernel), mb 80 (by decide +kernel) (by decide +kernel), mb 517 (by decide +kernel) (by decide +kernel), (by decide +kernel), ⟨TX2, 4, rfl⟩, by decide⟩
theorem mv_X0_59 : MLV RX0 59 yX2_howMany cX2_howMany 1 (some .int) 0 2 := ⟨Or.inr ⟨"SpinTops", mn 556 (by decide +kernel) (by decide +kernel)⟩, mb 441 (by decide +kernel) (by decide +kernel), mb 20 (by decide +kernel) (by decide +kernel), mb 80 (by decide +kernel) (by decide +kernel), mb 442 (by decide +kernel) (by decide +kernel), (by decide +kernel), ⟨TX2, 4, rfl⟩, by decide⟩
theorem ms_X0_62 : MLS RX0 62 yX8_power cX8_power 4 (some .int) 2 := ⟨Or.inr ⟨"SpinTops", mn 565 (by decide +kernel) (by decide +kernel)⟩, mb 566 (by decide +kernel) (by decide +kernel), mb 76 (by decide +kernel) (by decide +kernel), mb 567 (by decide +kernel) (by decide +kernel), (by decide +kernel), by decide⟩
theorem mv_X0_66 : MLV RX0 66 yX0_tiltOf cX0_tiltOf 6 (some .int) 3 0 := ⟨Or.inl (mb 568 (by decide +kernel) (by decide +kernel)), mb 570 (by decide +kernel) (by decide +kernel), mb 36 (by decide +kernel) (by decide +kernel), mb 82 (by decide +kernel) (by decide +kernel), mb 571 (by decide +kernel) (by decide +kernel), (by decide +kernel), ⟨TX0, 5, rfl⟩, by decide⟩
theorem fp_X0_70 : FP RX0 70 2 3 .int := ⟨RX2, TX2, 4, rfl, by decide, iw_X2, rfl, Or.inr ⟨"SpinTops", mn 177 (by decide +kernel) (by decide +kernel)⟩, rfl, (by decide +kernel), ⟨tyX2, tyX2_ok⟩, nmX2⟩
theorem fl_X0_18 : FL RX0 18 0 1 := ⟨RX0, TX0, 5, rfl, by decide, iw_X0, rfl, Or.inl (mb 251 (by decide +kernel) (by decide +kernel))⟩
theorem ms_X0_73 : MLS RX0 73 yJ6_bitCount_0f7a4 cJ6_bitCount_0f7a4 1 (some .int) 1 := ⟨Or.inl (mb 581 (by decide +kernel) (by decide +kernel)), mb 448 (by decide +kernel) (by decide +kernel), mb 88 (by decide +kernel) (by decide +kernel), mb 449 (by decide +kernel) (by decide +kernel), (by decide +kernel), by decide⟩
theorem mv_X0_79 : MLV RX0 79 yX0_standsIfHit cX0_standsIfHit 7 (some .boolean) 5 0 := ⟨Or.inl (mb 582 (by decide +kernel) (by decide +kernel)), mb 584 (by decide +kernel) (by decide +kernel), mb 38 (by decide +kernel) (by decide +kernel), mb 82 (by decide +kernel) (by decide +kernel), mb 585 (by decide +kernel) (by decide +kernel), (by decide +kernel), ⟨TX0, 5, rfl⟩, by decide⟩
theorem fl_X0_25 : FL RX0 25 0 3 := ⟨RX0, TX0, 5, rfl, by decide, iw_X0, rfl, Or.inl (mb 255 (by decide +kernel) (by decide +kernel))⟩
theorem mv_X0_83 : MLV RX0 83 yX0_divideOddsBy2 cX0_divideOddsBy2 1 none 0 0 := ⟨Or.inl (mb 586 (by decide +kernel) (by decide +kernel)), mb 588 (by decide +kernel) (by decide +kernel), mb 39 (by decide +kernel) (by decide +kernel), mb 82 (by decide +kernel) (by decide +kernel), mb 589 (by decide +kernel) (by decide +kernel), (by decide +kernel), ⟨TX0, 5, rfl⟩, by decide⟩
theorem mv_X0_86 : MLV RX0 86 yX0_divideOddsBy5 cX0_divideOddsBy5 1 none 0 0 := ⟨Or.inl (mb 590 (by decide +kernel) (by decide +kernel)), mb 592 (by decide +kernel) (by decide +kernel), mb 40 (by decide +kernel) (by decide +kernel), mb 82 (by decide +kernel) (by decide +kernel), mb 593 (by decide +kernel) (by decide +kernel), (by decide +kernel), ⟨TX0, 5, rfl⟩, by decide⟩
theorem fl_X0_28 : FL RX0 28 0 4 := ⟨RX0, TX0, 5, rfl, by decide, iw_X0, rfl, Or.inl (mb 257 (by decide +kernel) (by decide +kernel))⟩
theorem oi_X1_1 : Cond.methodLink RX1 1 objectInit ∈ BIG := mb 296 (by decide +kernel) (by decide +kernel)
theorem fp_X1_7 : FP RX1 7 1 0 .long := ⟨RX1, TX1, 1, rfl, by decide, iw_X1, rfl, Or.inl (mb 297 (by decide +kernel) (by decide +kernel)), rfl, (by decide +kernel), ⟨tyX1, tyX1_ok⟩, nmX1⟩
theorem fl_X1_7 : FL RX1 7 1 0 := ⟨RX1, TX1, 1, rfl, by decide, iw_X1, rfl, Or.inl (mb 297 (by decide +kernel) (by decide +kernel))⟩
theorem fl_X1_13 : FL RX1 13 2 1 := ⟨RX2, TX2, 4, rfl, by decide, iw_X2, rfl, Or.inr ⟨"SpinTops", mn 170 (by decide +kernel) (by decide +kernel)⟩⟩
theorem kl_X1_19 : Cond.constantLong RX1 19 (10) ∈ BIG := mb 665 (by decide +kernel) (by decide +kernel)
theorem mv_X1_21 : MLV RX1 21 yX1_asTop cX1_asTop 3 (some .int) 2 1 := ⟨Or.inl (mb 666 (by decide +kernel) (by decide +kernel)), mb 659 (by decide +kernel) (by decide +kernel), mb 49 (by decide +kernel) (by decide +kernel), mb 84 (by decide +kernel) (by decide +kernel), mb 660 (by decide +kernel) (by decide +kernel), (by decide +kernel), ⟨TX1, 1, rfl⟩, by decide⟩
theorem fl_X1_25 : FL RX1 25 7 0 := ⟨RX7, TX7, 4, rfl, by decide, iw_X7, rfl, Or.inr ⟨"SpinTops", mn 127 (by decide +kernel) (by decide +kernel)⟩⟩
theorem kl_X1_30 : Cond.constantLong RX1 30 (100) ∈ BIG := mb 671 (by decide +kernel) (by decide +kernel)
theorem mv_X1_32 : MLV RX1 32 yX2_howMany cX2_howMany 1 (some .int) 0 2 := ⟨Or.inr ⟨"SpinTops", mn 672 (by decide +kernel) (by decide +kernel)⟩, mb 441 (by decide +kernel) (by decide +kernel), mb 20 (by decide +kernel) (by decide +kernel), mb 80 (by decide +kernel) (by decide +kernel), mb 442 (by decide +kernel) (by decide +kernel), (by decide +kernel), ⟨TX2, 4, rfl⟩, by decide⟩
theorem kl_X1_36 : Cond.constantLong RX1 36 (1000) ∈ BIG := mb 677 (by decide +kernel) (by decide +kernel)
theorem mv_X1_38 : MLV RX1 38 yX1_asPeg cX1_asPeg 4 (some .int) 3 1 := ⟨Or.inl (mb 678 (by decide +kernel) (by decide +kernel)), mb 663 (by decide +kernel) (by decide +kernel), mb 50 (by decide +kernel) (by decide +kernel), mb 84 (by decide +kernel) (by decide +kernel), mb 664 (by decide +kernel) (by decide +kernel), (by decide +kernel), ⟨TX1, 1, rfl⟩, by decide⟩
theorem kl_X1_42 : Cond.constantLong RX1 42 (10000) ∈ BIG := mb 683 (by decide +kernel) (by decide +kernel)
theorem mv_X1_44 : MLV RX1 44 yX1_asHummer cX1_asHummer 3 (some .int) 2 1 := ⟨Or.inl (mb 684 (by decide +kernel) (by decide +kernel)), mb 669 (by decide +kernel) (by decide +kernel), mb 51 (by decide +kernel) (by decide +kernel), mb 84 (by decide +kernel) (by decide +kernel), mb 670 (by decide +kernel) (by decide +kernel), (by decide +kernel), ⟨TX1, 1, rfl⟩, by decide⟩
theorem kl_X1_47 : Cond.constantLong RX1 47 (100000) ∈ BIG := mb 689 (by decide +kernel) (by decide +kernel)
theorem fl_X1_49 : FL RX1 49 2 2 := ⟨RX2, TX2, 4, rfl, by decide, iw_X2, rfl, Or.inr ⟨"SpinTops", mn 174 (by decide +kernel) (by decide +kernel)⟩⟩
theorem oi_X2_3 : Cond.methodLink RX2 3 objectInit ∈ BIG := mb 157 (by decide +kernel) (by decide +kernel)
theorem ff_X2_9 : FF RX2 9 2 0 (.array .int) := ⟨TX2, 4, rfl, by decide, iw_X2, rfl, mb 166 (by decide +kernel) (by decide +kernel), rfl, (by decide +kernel), ⟨tyX2, tyX2_ok⟩, nmX2⟩
theorem ff_X2_15 : FF RX2 15 2 1 (.array .int) := ⟨TX2, 4, rfl, by decide, iw_X2, rfl, mb 169 (by decide +kernel) (by decide +kernel), rfl, (by decide +kernel), ⟨tyX2, tyX2_ok⟩, nmX2⟩
theorem fp_X2_18 : FP RX2 18 2 2 .int := ⟨RX2, TX2, 4, rfl, by decide, iw_X2, rfl, Or.inl (mb 173 (by decide +kernel) (by decide +kernel)), rfl, (by decide +kernel), ⟨tyX2, tyX2_ok⟩, nmX2⟩
theorem fp_X2_22 : FP RX2 22 2 3 .int := ⟨RX2, TX2, 4, rfl, by decide, iw_X2, rfl, Or.inl (mb 176 (by decide +kernel) (by decide +kernel)), rfl, (by decide +kernel), ⟨tyX2, tyX2_ok⟩, nmX2⟩
theorem mv_X2_25 : MLV RX2 25 yX2_reset cX2_reset 2 none 0 2 := ⟨Or.inl (mb 158 (by decide +kernel) (by decide +kernel)), mb 160 (by decide +kernel) (by decide +kernel), mb 0 (by decide +kernel) (by decide +kernel), mb 80 (by decide +kernel) (by decide +kernel), mb 161 (by decide +kernel) (by decide +kernel), (by decide +kernel), ⟨TX2, 4, rfl⟩, by decide⟩
theorem mv_X2_28 : MLV RX2 28 yX2_spins cX2_spins 3 none 2 2 := ⟨Or.inl (mb 162 (by decide +kernel) (by decide +kernel)), mb 164 (by decide +kernel) (by decide +kernel), mb 1 (by decide +kernel) (by decide +kernel), mb 80 (by decide +kernel) (by decide +kernel), mb 165 (by decide +kernel) (by decide +kernel), (by decide +kernel), ⟨TX2, 4, rfl⟩, by decide⟩
theorem fl_X2_18 : FL RX2 18 2 2 := ⟨RX2, TX2, 4, rfl, by decide, iw_X2, rfl, Or.inl (mb 173 (by decide +kernel) (by decide +kernel))⟩
theorem fl_X2_22 : FL RX2 22 2 3 := ⟨RX2, TX2, 4, rfl, by decide, iw_X2, rfl, Or.inl (mb 176 (by decide +kernel) (by decide +kernel))⟩
theorem fl_X2_9 : FL RX2 9 2 0 := ⟨RX2, TX2, 4, rfl, by decide, iw_X2, rfl, Or.inl (mb 166 (by decide +kernel) (by decide +kernel))⟩
theorem ac_X2_32 : Cond.methodLink RX2 32 arraycopyName ∈ BIG := mb 419 (by decide +kernel) (by decide +kernel)
theorem fl_X2_15 : FL RX2 15 2 1 := ⟨RX2, TX2, 4, rfl, by decide, iw_X2, rfl, Or.inl (mb 169 (by decide +kernel) (by decide +kernel))⟩
theorem mv_X2_38 : MLV RX2 38 yX2_stands cX2_stands 2 (some .boolean) 1 2 := ⟨Or.inl (mb 400 (by decide +kernel) (by decide +kernel)), mb 402 (by decide +kernel) (by decide +kernel), mb 13 (by decide +kernel) (by decide +kernel), mb 80 (by decide +kernel) (by decide +kernel), mb 403 (by decide +kernel) (by decide +kernel), (by decide +kernel), ⟨TX2, 4, rfl⟩, by decide⟩
theorem mv_X2_42 : MLV RX2 42 yX2_standing cX2_standing 3 (some .int) 0 2 := ⟨Or.inl (mb 443 (by decide +kernel) (by decide +kernel)), mb 445 (by decide +kernel) (by decide +kernel), mb 21 (by decide +kernel) (by decide +kernel), mb 80 (by decide +kernel) (by decide +kernel), mb 446 (by decide +kernel) (by decide +kernel), (by decide +kernel), ⟨TX2, 4, rfl⟩, by decide⟩
theorem ms_X2_46 : MLS RX2 46 yJ6_bitCount_0f7a4 cJ6_bitCount_0f7a4 1 (some .int) 1 := ⟨Or.inl (mb 447 (by decide +kernel) (by decide +kernel)), mb 448 (by decide +kernel) (by decide +kernel), mb 88 (by decide +kernel) (by decide +kernel), mb 449 (by decide +kernel) (by decide +kernel), (by decide +kernel), by decide⟩
theorem ma_X2_52 : Cond.methodLink RX2 52 Lib.Math.min.name ∈ BIG := mb 518 (by decide +kernel) (by decide +kernel)
theorem mv_X2_58 : MLV RX2 58 yX2_howMany cX2_howMany 1 (some .int) 0 2 := ⟨Or.inl (mb 439 (by decide +kernel) (by decide +kernel)), mb 441 (by decide +kernel) (by decide +kernel), mb 20 (by decide +kernel) (by decide +kernel), mb 80 (by decide +kernel) (by decide +kernel), mb 442 (by decide +kernel) (by decide +kernel), (by decide +kernel), ⟨TX2, 4, rfl⟩, by decide⟩
theorem mv_X2_61 : MLV RX2 61 yX2_slowDown cX2_slowDown 3 none 1 2 := ⟨Or.inl (mb 453 (by decide +kernel) (by decide +kernel)), mb 455 (by decide +kernel) (by decide +kernel), mb 22 (by decide +kernel) (by decide +kernel), mb 80 (by decide +kernel) (by decide +kernel), mb 456 (by decide +kernel) (by decide +kernel), (by decide +kernel), ⟨TX2, 4, rfl⟩, by decide⟩
theorem mv_X2_65 : MLV RX2 65 yX2_wander cX2_wander 5 none 1 2 := ⟨Or.inl (mb 457 (by decide +kernel) (by decide +kernel)), mb 459 (by decide +kernel) (by decide +kernel), mb 23 (by decide +kernel) (by decide +kernel), mb 80 (by decide +kernel) (by decide +kernel), mb 460 (by decide +kernel) (by decide +kernel), (by decide +kernel), ⟨TX2, 4, rfl⟩, by decide⟩
theorem fl_X2_68 : FL RX2 68 7 0 := ⟨RX7, TX7, 4, rfl, by decide, iw_X7, rfl, Or.inr ⟨"SpinTops", mn 130 (by decide +kernel) (by decide +kernel)⟩⟩
theorem fl_X2_73 : FL RX2 73 7 2 := ⟨RX7, TX7, 4, rfl, by decide, iw_X7, rfl, Or.inr ⟨"SpinTops", mn 137 (by decide +kernel) (by decide +kernel)⟩⟩
theorem fl_X2_76 : FL RX2 76 7 1 := ⟨RX7, TX7, 4, rfl, by decide, iw_X7, rfl, Or.inr ⟨"SpinTops", mn 133 (by decide +kernel) (by decide +kernel)⟩⟩
theorem mv_X2_79 : MLV RX2 79 yX2_neighbour cX2_neighbour 3 (some .int) 2 2 := ⟨Or.inl (mb 461 (by decide +kernel) (by decide +kernel)), mb 463 (by decide +kernel) (by decide +kernel), mb 24 (by decide +kernel) (by decide +kernel), mb 80 (by decide +kernel) (by decide +kernel), mb 464 (by decide +kernel) (by decide +kernel), (by decide +kernel), ⟨TX2, 4, rfl⟩, by decide⟩
theorem mv_X2_82 : MLV RX2 82 yX2_who cX2_who 3 (some .int) 1 2 := ⟨Or.inl (mb 465 (by decide +kernel) (by decide +kernel)), mb 398 (by decide +kernel) (by decide +kernel), mb 12 (by decide +kernel) (by decide +kernel), mb 80 (by decide +kernel) (by decide +kernel), mb 399 (by decide +kernel) (by decide +kernel), (by decide +kernel), ⟨TX2, 4, rfl⟩, by decide⟩
theorem mv_X2_85 : MLV RX2 85 yX2_meet cX2_meet 5 none 2 2 := ⟨Or.inl (mb 466 (by decide +kernel) (by decide +kernel)), mb 468 (by decide +kernel) (by decide +kernel), mb 25 (by decide +kernel) (by decide +kernel), mb 80 (by decide +kernel) (by decide +kernel), mb 469 (by decide +kernel) (by decide +kernel), (by decide +kernel), ⟨TX2, 4, rfl⟩, by decide⟩
theorem oi_X3_3 : Cond.methodLink RX3 3 objectInit ∈ BIG := mb 227 (by decide +kernel) (by decide +kernel)
theorem cl_X3_9 : Cond.classLink RX3 9 RX2 ∈ BIG := mb 228 (by decide +kernel) (by decide +kernel)
theorem ff_X3_11 : FF RX3 11 3 0 (.array (.object "SpinTops$Moment")) := ⟨TX3, 3, rfl, by decide, iw_X3, rfl, mb 231 (by decide +kernel) (by decide +kernel), rfl, (by decide +kernel), ⟨tyX3, tyX3_ok⟩, nmX3⟩
theorem fp_X3_17 : FP RX3 17 3 1 .int := ⟨RX3, TX3, 3, rfl, by decide, iw_X3, rfl, Or.inl (mb 232 (by decide +kernel) (by decide +kernel)), rfl, (by decide +kernel), ⟨tyX3, tyX3_ok⟩, nmX3⟩
theorem fp_X3_21 : FP RX3 21 3 2 .int := ⟨RX3, TX3, 3, rfl, by decide, iw_X3, rfl, Or.inl (mb 233 (by decide +kernel) (by decide +kernel)), rfl, (by decide +kernel), ⟨tyX3, tyX3_ok⟩, nmX3⟩
theorem fl_X3_11 : FL RX3 11 3 0 := ⟨RX3, TX3, 3, rfl, by decide, iw_X3, rfl, Or.inl (mb 231 (by decide +kernel) (by decide +kernel))⟩
theorem mi_X3_24 : (Cond.methodLink RX3 24 yX2_init ∈ BIG ∨ ∃ host, Cond.methodLinkNest RX3 24 yX2_init host ∈ NSL) ∧ Cond.instanceMethod yX2_init ∈ BIG ∧ Cond.initialized yX2_init.cls ∈ BIG ∧ Cond.code yX2_init cX2_init 1 none ∈ BIG := ⟨Or.inr ⟨"SpinTops", mn 230 (by decide +kernel) (by decide +kernel)⟩, mb 155 (by decide +kernel) (by decide +kernel), mb 80 (by decide +kernel) (by decide +kernel), mb 156 (by decide +kernel) (by decide +kernel)⟩
theorem fl_X3_17 : FL RX3 17 3 1 := ⟨RX3, TX3, 3, rfl, by decide, iw_X3, rfl, Or.inl (mb 232 (by decide +kernel) (by decide +kernel))⟩
theorem mv_X3_25 : MLV RX3 25 yX2_copy cX2_copy 2 none 1 2 := ⟨Or.inr ⟨"SpinTops", mn 504 (by decide +kernel) (by decide +kernel)⟩, mb 417 (by decide +kernel) (by decide +kernel), mb 16 (by decide +kernel) (by decide +kernel), mb 80 (by decide +kernel) (by decide +kernel), mb 418 (by decide +kernel) (by decide +kernel), (by decide +kernel), ⟨TX2, 4, rfl⟩, by decide⟩
theorem fl_X3_21 : FL RX3 21 3 2 := ⟨RX3, TX3, 3, rfl, by decide, iw_X3, rfl, Or.inl (mb 233 (by decide +kernel) (by decide +kernel))⟩
theorem ma_X3_29 : Cond.methodLink RX3 29 Lib.Math.min.name ∈ BIG := mb 505 (by decide +kernel) (by decide +kernel)
theorem oi_X4_3 : Cond.methodLink RX4 3 objectInit ∈ BIG := mb 119 (by decide +kernel) (by decide +kernel)
theorem cl_X4_9 : Cond.classLink RX4 9 RX7 ∈ BIG := mb 120 (by decide +kernel) (by decide +kernel)
theorem mi_X4_11 : (Cond.methodLink RX4 11 yX7_init ∈ BIG ∨ ∃ host, Cond.methodLinkNest RX4 11 yX7_init host ∈ NSL) ∧ Cond.instanceMethod yX7_init ∈ BIG ∧ Cond.initialized yX7_init.cls ∈ BIG ∧ Cond.code yX7_init cX7_init 1 none ∈ BIG := ⟨Or.inr ⟨"SpinTops", mn 122 (by decide +kernel) (by decide +kernel)⟩, mb 123 (by decide +kernel) (by decide +kernel), mb 79 (by decide +kernel) (by decide +kernel), mb 124 (by decide +kernel) (by decide +kernel)⟩
theorem ff_X4_12 : FF RX4 12 4 1 (.object "SpinTops$Told") := ⟨TX4, 9, rfl, by decide, iw_X4, rfl, mb 189 (by decide +kernel) (by decide +kernel), rfl, (by decide +kernel), ⟨tyX4, tyX4_ok⟩, nmX4⟩
theorem cl_X4_18 : Cond.classLink RX4 18 RX2 ∈ BIG := mb 152 (by decide +kernel) (by decide +kernel)
theorem mi_X4_20 : (Cond.methodLink RX4 20 yX2_init ∈ BIG ∨ ∃ host, Cond.methodLinkNest RX4 20 yX2_init host ∈ NSL) ∧ Cond.instanceMethod yX2_init ∈ BIG ∧ Cond.initialized yX2_init.cls ∈ BIG ∧ Cond.code yX2_init cX2_init 1 none ∈ BIG := ⟨Or.inr ⟨"SpinTops", mn 154 (by decide +kernel) (by decide +kernel)⟩, mb 155 (by decide +kernel) (by decide +kernel), mb 80 (by decide +kernel) (by decide +kernel), mb 156 (by decide +kernel) (by decide +kernel)⟩
theorem ff_X4_21 : FF RX4 21 4 2 (.object "SpinTops$Moment") := ⟨TX4, 9, rfl, by decide, iw_X4, rfl, mb 191 (by decide +kernel) (by decide +kernel), rfl, (by decide +kernel), ⟨tyX4, tyX4_ok⟩, nmX4⟩
theorem fp_X4_25 : FP RX4 25 4 3 .int := ⟨RX4, TX4, 9, rfl, by decide, iw_X4, rfl, Or.inl (mb 193 (by decide +kernel) (by decide +kernel)), rfl, (by decide +kernel), ⟨tyX4, tyX4_ok⟩, nmX4⟩
theorem fp_X4_29 : FP RX4 29 4 4 .boolean := ⟨RX4, TX4, 9, rfl, by decide, iw_X4, rfl, Or.inl (mb 194 (by decide +kernel) (by decide +kernel)), rfl, (by decide +kernel), ⟨tyX4, tyX4_ok⟩, nmX4⟩
theorem fp_X4_33 : FP RX4 33 4 5 .int := ⟨RX4, TX4, 9, rfl, by decide, iw_X4, rfl, Or.inl (mb 195 (by decide +kernel) (by decide +kernel)), rfl, (by decide +kernel), ⟨tyX4, tyX4_ok⟩, nmX4⟩
theorem fp_X4_36 : FP RX4 36 4 6 .int := ⟨RX4, TX4, 9, rfl, by decide, iw_X4, rfl, Or.inl (mb 196 (by decide +kernel) (by decide +kernel)), rfl, (by decide +kernel), ⟨tyX4, tyX4_ok⟩, nmX4⟩
theorem fp_X4_39 : FP RX4 39 4 7 .int := ⟨RX4, TX4, 9, rfl, by decide, iw_X4, rfl, Or.inl (mb 197 (by decide +kernel) (by decide +kernel)), rfl, (by decide +kernel), ⟨tyX4, tyX4_ok⟩, nmX4⟩
theorem fp_X4_42 : FP RX4 42 4 8 .int := ⟨RX4, TX4, 9, rfl, by decide, iw_X4, rfl, Or.inl (mb 198 (by decide +kernel) (by decide +kernel)), rfl, (by decide +kernel), ⟨tyX4, tyX4_ok⟩, nmX4⟩
theorem ff_X4_45 : FF RX4 45 4 0 (.object "SpinTops$Text") := ⟨TX4, 9, rfl, by decide, iw_X4, rfl, mb 188 (by decide +kernel) (by decide +kernel), rfl, (by decide +kernel), ⟨tyX4, tyX4_ok⟩, nmX4⟩
theorem fl_X4_12 : FL RX4 12 4 1 := ⟨RX4, TX4, 9, rfl, by decide, iw_X4, rfl, Or.inl (mb 189 (by decide +kernel) (by decide +kernel))⟩
theorem mv_X4_49 : MLV RX4 49 yX7_reset cX7_reset 1 none 0 7 := ⟨Or.inr ⟨"SpinTops", mn 356 (by decide +kernel) (by decide +kernel)⟩, mb 358 (by decide +kernel) (by decide +kernel), mb 4 (by decide +kernel) (by decide +kernel), mb 79 (by decide +kernel) (by decide +kernel), mb 359 (by decide +kernel) (by decide +kernel), (by decide +kernel), ⟨TX7, 4, rfl⟩, by decide⟩
theorem fl_X4_21 : FL RX4 21 4 2 := ⟨RX4, TX4, 9, rfl, by decide, iw_X4, rfl, Or.inl (mb 191 (by decide +kernel) (by decide +kernel))⟩
theorem mv_X4_52 : MLV RX4 52 yX2_reset cX2_reset 2 none 0 2 := ⟨Or.inr ⟨"SpinTops", mn 360 (by decide +kernel) (by decide +kernel)⟩, mb 160 (by decide +kernel) (by decide +kernel), mb 0 (by decide +kernel) (by decide +kernel), mb 80 (by decide +kernel) (by decide +kernel), mb 161 (by decide +kernel) (by decide +kernel), (by decide +kernel), ⟨TX2, 4, rfl⟩, by decide⟩
theorem mv_X4_53 : MLV RX4 53 yX4_nextToken cX4_nextToken 3 none 0 4 := ⟨Or.inl (mb 361 (by decide +kernel) (by decide +kernel)), mb 363 (by decide +kernel) (by decide +kernel), mb 5 (by decide +kernel) (by decide +kernel), mb 78 (by decide +kernel) (by decide +kernel), mb 364 (by decide +kernel) (by decide +kernel), (by decide +kernel), ⟨TX4, 9, rfl⟩, by decide⟩
theorem fl_X4_33 : FL RX4 33 4 5 := ⟨RX4, TX4, 9, rfl, by decide, iw_X4, rfl, Or.inl (mb 195 (by decide +kernel) (by decide +kernel))⟩
theorem fl_X4_25 : FL RX4 25 4 3 := ⟨RX4, TX4, 9, rfl, by decide, iw_X4, rfl, Or.inl (mb 193 (by decide +kernel) (by decide +kernel))⟩
theorem mv_X4_56 : MLV RX4 56 yX4_readPlaces cX4_readPlaces 1 (some .boolean) 0 4 := ⟨Or.inl (mb 379 (by decide +kernel) (by decide +kernel)), mb 381 (by decide +kernel) (by decide +kernel), mb 8 (by decide +kernel) (by decide +kernel), mb 78 (by decide +kernel) (by decide +kernel), mb 382 (by decide +kernel) (by decide +kernel), (by decide +kernel), ⟨TX4, 9, rfl⟩, by decide⟩
theorem fl_X4_60 : FL RX4 60 7 3 := ⟨RX7, TX7, 4, rfl, by decide, iw_X7, rfl, Or.inr ⟨"SpinTops", mn 140 (by decide +kernel) (by decide +kernel)⟩⟩
theorem mv_X4_63 : MLV RX4 63 yX4_readTop cX4_readTop 3 (some .boolean) 0 4 := ⟨Or.inl (mb 392 (by decide +kernel) (by decide +kernel)), mb 394 (by decide +kernel) (by decide +kernel), mb 11 (by decide +kernel) (by decide +kernel), mb 78 (by decide +kernel) (by decide +kernel), mb 395 (by decide +kernel) (by decide +kernel), (by decide +kernel), ⟨TX4, 9, rfl⟩, by decide⟩
theorem fl_X4_29 : FL RX4 29 4 4 := ⟨RX4, TX4, 9, rfl, by decide, iw_X4, rfl, Or.inl (mb 194 (by decide +kernel) (by decide +kernel))⟩
theorem mv_X4_66 : MLV RX4 66 yX4_readSlow cX4_readSlow 1 (some .boolean) 0 4 := ⟨Or.inl (mb 404 (by decide +kernel) (by decide +kernel)), mb 406 (by decide +kernel) (by decide +kernel), mb 14 (by decide +kernel) (by decide +kernel), mb 78 (by decide +kernel) (by decide +kernel), mb 407 (by decide +kernel) (by decide +kernel), (by decide +kernel), ⟨TX4, 9, rfl⟩, by decide⟩
theorem fl_X4_39 : FL RX4 39 4 7 := ⟨RX4, TX4, 9, rfl, by decide, iw_X4, rfl, Or.inl (mb 197 (by decide +kernel) (by decide +kernel))⟩
theorem mv_X4_69 : MLV RX4 69 yX4_readNumber cX4_readNumber 3 (some .boolean) 2 4 := ⟨Or.inl (mb 383 (by decide +kernel) (by decide +kernel)), mb 385 (by decide +kernel) (by decide +kernel), mb 9 (by decide +kernel) (by decide +kernel), mb 78 (by decide +kernel) (by decide +kernel), mb 386 (by decide +kernel) (by decide +kernel), (by decide +kernel), ⟨TX4, 9, rfl⟩, by decide⟩
theorem fl_X4_36 : FL RX4 36 4 6 := ⟨RX4, TX4, 9, rfl, by decide, iw_X4, rfl, Or.inl (mb 196 (by decide +kernel) (by decide +kernel))⟩
theorem fp_X4_73 : FP RX4 73 7 1 .int := ⟨RX7, TX7, 4, rfl, by decide, iw_X7, rfl, Or.inr ⟨"SpinTops", mn 132 (by decide +kernel) (by decide +kernel)⟩, rfl, (by decide +kernel), ⟨tyX7, tyX7_ok⟩, nmX7⟩
theorem mv_X4_76 : MLV RX4 76 yX4_readItemEnd cX4_readItemEnd 1 (some .boolean) 0 4 := ⟨Or.inl (mb 388 (by decide +kernel) (by decide +kernel)), mb 390 (by decide +kernel) (by decide +kernel), mb 10 (by decide +kernel) (by decide +kernel), mb 78 (by decide +kernel) (by decide +kernel), mb 391 (by decide +kernel) (by decide +kernel), (by decide +kernel), ⟨TX4, 9, rfl⟩, by decide⟩
theorem fp_X4_79 : FP RX4 79 7 2 .int := ⟨RX7, TX7, 4, rfl, by decide, iw_X7, rfl, Or.inr ⟨"SpinTops", mn 136 (by decide +kernel) (by decide +kernel)⟩, rfl, (by decide +kernel), ⟨tyX7, tyX7_ok⟩, nmX7⟩
theorem fl_X4_73 : FL RX4 73 7 1 := ⟨RX7, TX7, 4, rfl, by decide, iw_X7, rfl, Or.inr ⟨"SpinTops", mn 132 (by decide +kernel) (by decide +kernel)⟩⟩
theorem mv_X4_82 : MLV RX4 82 yX2_who cX2_who 3 (some .int) 1 2 := ⟨Or.inr ⟨"SpinTops", mn 396 (by decide +kernel) (by decide +kernel)⟩, mb 398 (by decide +kernel) (by decide +kernel), mb 12 (by decide +kernel) (by decide +kernel), mb 80 (by decide +kernel) (by decide +kernel), mb 399 (by decide +kernel) (by decide +kernel), (by decide +kernel), ⟨TX2, 4, rfl⟩, by decide⟩
theorem fl_X4_86 : FL RX4 86 2 0 := ⟨RX2, TX2, 4, rfl, by decide, iw_X2, rfl, Or.inr ⟨"SpinTops", mn 168 (by decide +kernel) (by decide +kernel)⟩⟩
theorem fl_X4_90 : FL RX4 90 2 1 := ⟨RX2, TX2, 4, rfl, by decide, iw_X2, rfl, Or.inr ⟨"SpinTops", mn 172 (by decide +kernel) (by decide +kernel)⟩⟩
theorem fl_X4_93 : FL RX4 93 7 0 := ⟨RX7, TX7, 4, rfl, by decide, iw_X7, rfl, Or.inr ⟨"SpinTops", mn 129 (by decide +kernel) (by decide +kernel)⟩⟩
theorem fp_X4_60 : FP RX4 60 7 3 .int := ⟨RX7, TX7, 4, rfl, by decide, iw_X7, rfl, Or.inr ⟨"SpinTops", mn 140 (by decide +kernel) (by decide +kernel)⟩, rfl, (by decide +kernel), ⟨tyX7, tyX7_ok⟩, nmX7⟩
theorem ms_X4_96 : MLS RX4 96 yX8_within cX8_within 3 (some .boolean) 3 := ⟨Or.inr ⟨"SpinTops", mn 387 (by decide +kernel) (by decide +kernel)⟩, mb 338 (by decide +kernel) (by decide +kernel), mb 76 (by decide +kernel) (by decide +kernel), mb 339 (by decide +kernel) (by decide +kernel), (by decide +kernel), by decide⟩
theorem mv_X4_100 : MLV RX4 100 yX4_behindBlanks cX4_behindBlanks 2 (some .int) 0 4 := ⟨Or.inl (mb 365 (by decide +kernel) (by decide +kernel)), mb 367 (by decide +kernel) (by decide +kernel), mb 6 (by decide +kernel) (by decide +kernel), mb 78 (by decide +kernel) (by decide +kernel), mb 368 (by decide +kernel) (by decide +kernel), (by decide +kernel), ⟨TX4, 9, rfl⟩, by decide⟩
theorem fl_X4_45 : FL RX4 45 4 0 := ⟨RX4, TX4, 9, rfl, by decide, iw_X4, rfl, Or.inl (mb 188 (by decide +kernel) (by decide +kernel))⟩
theorem fl_X4_104 : FL RX4 104 6 1 := ⟨RX6, TX6, 2, rfl, by decide, iw_X6, rfl, Or.inr ⟨"SpinTops", mn 107 (by decide +kernel) (by decide +kernel)⟩⟩
theorem fl_X4_109 : FL RX4 109 6 0 := ⟨RX6, TX6, 2, rfl, by decide, iw_X6, rfl, Or.inr ⟨"SpinTops", mn 104 (by decide +kernel) (by decide +kernel)⟩⟩
theorem ms_X4_112 : MLS RX4 112 yX4_isDigit cX4_isDigit 1 (some .boolean) 1 := ⟨Or.inl (mb 369 (by decide +kernel) (by decide +kernel)), mb 370 (by decide +kernel) (by decide +kernel), mb 78 (by decide +kernel) (by decide +kernel), mb 371 (by decide +kernel) (by decide +kernel), (by decide +kernel), by decide⟩
theorem mv_X4_116 : MLV RX4 116 yX4_takeNumber cX4_takeNumber 2 none 0 4 := ⟨Or.inl (mb 372 (by decide +kernel) (by decide +kernel)), mb 374 (by decide +kernel) (by decide +kernel), mb 7 (by decide +kernel) (by decide +kernel), mb 78 (by decide +kernel) (by decide +kernel), mb 375 (by decide +kernel) (by decide +kernel), (by decide +kernel), ⟨TX4, 9, rfl⟩, by decide⟩
theorem fl_X4_42 : FL RX4 42 4 8 := ⟨RX4, TX4, 9, rfl, by decide, iw_X4, rfl, Or.inl (mb 198 (by decide +kernel) (by decide +kernel))⟩
theorem ma_X4_119 : Cond.methodLink RX4 119 Lib.Math.min.name ∈ BIG := mb 376 (by decide +kernel) (by decide +kernel)
theorem oi_X5_3 : Cond.methodLink RX5 3 objectInit ∈ BIG := mb 276 (by decide +kernel) (by decide +kernel)
theorem ff_X5_9 : FF RX5 9 5 0 (.array .int) := ⟨TX5, 4, rfl, by decide, iw_X5, rfl, mb 277 (by decide +kernel) (by decide +kernel), rfl, (by decide +kernel), ⟨tyX5, tyX5_ok⟩, nmX5⟩
theorem ff_X5_15 : FF RX5 15 5 1 (.array .int) := ⟨TX5, 4, rfl, by decide, iw_X5, rfl, mb 278 (by decide +kernel) (by decide +kernel), rfl, (by decide +kernel), ⟨tyX5, tyX5_ok⟩, nmX5⟩
theorem ff_X5_18 : FF RX5 18 5 2 (.array .int) := ⟨TX5, 4, rfl, by decide, iw_X5, rfl, mb 279 (by decide +kernel) (by decide +kernel), rfl, (by decide +kernel), ⟨tyX5, tyX5_ok⟩, nmX5⟩
theorem fp_X5_21 : FP RX5 21 5 3 .int := ⟨RX5, TX5, 4, rfl, by decide, iw_X5, rfl, Or.inl (mb 280 (by decide +kernel) (by decide +kernel)), rfl, (by decide +kernel), ⟨tyX5, tyX5_ok⟩, nmX5⟩
theorem fl_X5_21 : FL RX5 21 5 3 := ⟨RX5, TX5, 4, rfl, by decide, iw_X5, rfl, Or.inl (mb 280 (by decide +kernel) (by decide +kernel))⟩
theorem fl_X5_9 : FL RX5 9 5 0 := ⟨RX5, TX5, 4, rfl, by decide, iw_X5, rfl, Or.inl (mb 277 (by decide +kernel) (by decide +kernel))⟩
theorem fl_X5_15 : FL RX5 15 5 1 := ⟨RX5, TX5, 4, rfl, by decide, iw_X5, rfl, Or.inl (mb 278 (by decide +kernel) (by decide +kernel))⟩
theorem fl_X5_18 : FL RX5 18 5 2 := ⟨RX5, TX5, 4, rfl, by decide, iw_X5, rfl, Or.inl (mb 279 (by decide +kernel) (by decide +kernel))⟩
theorem ma_X5_25 : Cond.methodLink RX5 25 Lib.Math.max.name ∈ BIG := mb 624 (by decide +kernel) (by decide +kernel)
theorem ms_X5_31 : MLS RX5 31 yX5_spinBehind cX5_spinBehind 3 (some .int) 3 := ⟨Or.inl (mb 621 (by decide +kernel) (by decide +kernel)), mb 622 (by decide +kernel) (by decide +kernel), mb 83 (by decide +kernel) (by decide +kernel), mb 623 (by decide +kernel) (by decide +kernel), (by decide +kernel), by decide⟩
theorem mv_X5_35 : MLV RX5 35 yX5_canBe cX5_canBe 3 (some .boolean) 1 5 := ⟨Or.inl (mb 617 (by decide +kernel) (by decide +kernel)), mb 619 (by decide +kernel) (by decide +kernel), mb 43 (by decide +kernel) (by decide +kernel), mb 83 (by decide +kernel) (by decide +kernel), mb 620 (by decide +kernel) (by decide +kernel), (by decide +kernel), ⟨TX5, 4, rfl⟩, by decide⟩
theorem mv_X5_39 : MLV RX5 39 yX5_howMany cX5_howMany 3 (some .int) 0 5 := ⟨Or.inl (mb 643 (by decide +kernel) (by decide +kernel)), mb 615 (by decide +kernel) (by decide +kernel), mb 42 (by decide +kernel) (by decide +kernel), mb 83 (by decide +kernel) (by decide +kernel), mb 616 (by decide +kernel) (by decide +kernel), (by decide +kernel), ⟨TX5, 4, rfl⟩, by decide⟩
theorem mv_X5_43 : MLV RX5 43 yX5_mostAlike cX5_mostAlike 5 (some .int) 2 5 := ⟨Or.inl (mb 644 (by decide +kernel) (by decide +kernel)), mb 646 (by decide +kernel) (by decide +kernel), mb 47 (by decide +kernel) (by decide +kernel), mb 83 (by decide +kernel) (by decide +kernel), mb 647 (by decide +kernel) (by decide +kernel), (by decide +kernel), ⟨TX5, 4, rfl⟩, by decide⟩
theorem mv_X5_46 : MLV RX5 46 yX5_howManyAlike cX5_howManyAlike 6 (some .int) 3 5 := ⟨Or.inl (mb 648 (by decide +kernel) (by decide +kernel)), mb 650 (by decide +kernel) (by decide +kernel), mb 48 (by decide +kernel) (by decide +kernel), mb 83 (by decide +kernel) (by decide +kernel), mb 651 (by decide +kernel) (by decide +kernel), (by decide +kernel), ⟨TX5, 4, rfl⟩, by decide⟩
theorem oi_X6_3 : Cond.methodLink RX6 3 objectInit ∈ BIG := mb 102 (by decide +kernel) (by decide +kernel)
theorem ff_X6_9 : FF RX6 9 6 0 (.array .int) := ⟨TX6, 2, rfl, by decide, iw_X6, rfl, mb 103 (by decide +kernel) (by decide +kernel), rfl, (by decide +kernel), ⟨tyX6, tyX6_ok⟩, nmX6⟩
theorem fp_X6_15 : FP RX6 15 6 1 .int := ⟨RX6, TX6, 2, rfl, by decide, iw_X6, rfl, Or.inl (mb 105 (by decide +kernel) (by decide +kernel)), rfl, (by decide +kernel), ⟨tyX6, tyX6_ok⟩, nmX6⟩
theorem fl_X6_15 : FL RX6 15 6 1 := ⟨RX6, TX6, 2, rfl, by decide, iw_X6, rfl, Or.inl (mb 105 (by decide +kernel) (by decide +kernel))⟩
theorem fl_X6_9 : FL RX6 9 6 0 := ⟨RX6, TX6, 2, rfl, by decide, iw_X6, rfl, Or.inl (mb 103 (by decide +kernel) (by decide +kernel))⟩
theorem oi_X7_3 : Cond.methodLink RX7 3 objectInit ∈ BIG := mb 125 (by decide +kernel) (by decide +kernel)
theorem ff_X7_9 : FF RX7 9 7 0 (.array .int) := ⟨TX7, 4, rfl, by decide, iw_X7, rfl, mb 126 (by decide +kernel) (by decide +kernel), rfl, (by decide +kernel), ⟨tyX7, tyX7_ok⟩, nmX7⟩
theorem fp_X7_15 : FP RX7 15 7 1 .int := ⟨RX7, TX7, 4, rfl, by decide, iw_X7, rfl, Or.inl (mb 131 (by decide +kernel) (by decide +kernel)), rfl, (by decide +kernel), ⟨tyX7, tyX7_ok⟩, nmX7⟩
theorem fp_X7_19 : FP RX7 19 7 2 .int := ⟨RX7, TX7, 4, rfl, by decide, iw_X7, rfl, Or.inl (mb 135 (by decide +kernel) (by decide +kernel)), rfl, (by decide +kernel), ⟨tyX7, tyX7_ok⟩, nmX7⟩
theorem fp_X7_22 : FP RX7 22 7 3 .int := ⟨RX7, TX7, 4, rfl, by decide, iw_X7, rfl, Or.inl (mb 139 (by decide +kernel) (by decide +kernel)), rfl, (by decide +kernel), ⟨tyX7, tyX7_ok⟩, nmX7⟩
theorem fl_X7_15 : FL RX7 15 7 1 := ⟨RX7, TX7, 4, rfl, by decide, iw_X7, rfl, Or.inl (mb 131 (by decide +kernel) (by decide +kernel))⟩
theorem fl_X7_19 : FL RX7 19 7 2 := ⟨RX7, TX7, 4, rfl, by decide, iw_X7, rfl, Or.inl (mb 135 (by decide +kernel) (by decide +kernel))⟩
theorem fl_X7_22 : FL RX7 22 7 3 := ⟨RX7, TX7, 4, rfl, by decide, iw_X7, rfl, Or.inl (mb 139 (by decide +kernel) (by decide +kernel))⟩
theorem fl_X7_9 : FL RX7 9 7 0 := ⟨RX7, TX7, 4, rfl, by decide, iw_X7, rfl, Or.inl (mb 126 (by decide +kernel) (by decide +kernel))⟩
theorem ac_X7_25 : Cond.methodLink RX7 25 arraycopyName ∈ BIG := mb 412 (by decide +kernel) (by decide +kernel)
theorem cl_L_7 : Cond.classLink RL 7 RX8 ∈ BIG := mb 89 (by decide +kernel) (by decide +kernel)
theorem mi_L_9 : (Cond.methodLink RL 9 yX8_init ∈ BIG ∨ ∃ host, Cond.methodLinkNest RL 9 yX8_init host ∈ NSL) ∧ Cond.instanceMethod yX8_init ∈ BIG ∧ Cond.initialized yX8_init.cls ∈ BIG ∧ Cond.code yX8_init cX8_init 2 none ∈ BIG := ⟨Or.inl (mb 91 (by decide +kernel) (by decide +kernel)), mb 92 (by decide +kernel) (by decide +kernel), mb 76 (by decide +kernel) (by decide +kernel), mb 93 (by decide +kernel) (by decide +kernel)⟩
theorem cl_L_10 : Cond.classLink RL 10 RX9 ∈ BIG := mb 709 (by decide +kernel) (by decide +kernel)
theorem mi_L_12 : (Cond.methodLink RL 12 yX9_init ∈ BIG ∨ ∃ host, Cond.methodLinkNest RL 12 yX9_init host ∈ NSL) ∧ Cond.instanceMethod yX9_init ∈ BIG ∧ Cond.initialized yX9_init.cls ∈ BIG ∧ Cond.code yX9_init cX9_init 1 none ∈ BIG := ⟨Or.inl (mb 711 (by decide +kernel) (by decide +kernel)), mb 712 (by decide +kernel) (by decide +kernel), mb 85 (by decide +kernel) (by decide +kernel), mb 713 (by decide +kernel) (by decide +kernel)⟩
theorem mv_L_13 : MLV RL 13 yX8_type cX8_type 2 (some .int) 1 8 := ⟨Or.inl (mb 333 (by decide +kernel) (by decide +kernel)), mb 334 (by decide +kernel) (by decide +kernel), mb 335 (by decide +kernel) (by decide +kernel), mb 76 (by decide +kernel) (by decide +kernel), mb 336 (by decide +kernel) (by decide +kernel), (by decide +kernel), ⟨TX8, 10, rfl⟩, by decide⟩
theorem mv_L_17 : MLV RL 17 yX9_type cX9_type 2 (some .int) 1 9 := ⟨Or.inl (mb 792 (by decide +kernel) (by decide +kernel)), mb 793 (by decide +kernel) (by decide +kernel), mb 794 (by decide +kernel) (by decide +kernel), mb 85 (by decide +kernel) (by decide +kernel), mb 795 (by decide +kernel) (by decide +kernel), (by decide +kernel), ⟨TX9, 25, rfl⟩, by decide⟩
theorem mv_L_18 : MLV RL 18 yX8_clear cX8_clear 2 (some .int) 0 8 := ⟨Or.inl (mb 344 (by decide +kernel) (by decide +kernel)), mb 345 (by decide +kernel) (by decide +kernel), mb 346 (by decide +kernel) (by decide +kernel), mb 76 (by decide +kernel) (by decide +kernel), mb 347 (by decide +kernel) (by decide +kernel), (by decide +kernel), ⟨TX8, 10, rfl⟩, by decide⟩
theorem mv_L_22 : MLV RL 22 yX9_clear cX9_clear 2 (some .int) 0 9 := ⟨Or.inl (mb 800 (by decide +kernel) (by decide +kernel)), mb 801 (by decide +kernel) (by decide +kernel), mb 802 (by decide +kernel) (by decide +kernel), mb 85 (by decide +kernel) (by decide +kernel), mb 803 (by decide +kernel) (by decide +kernel), (by decide +kernel), ⟨TX9, 25, rfl⟩, by decide⟩
theorem mv_L_23 : MLV RL 23 yX8_tray cX8_tray 3 (some .int) 0 8 := ⟨Or.inl (mb 348 (by decide +kernel) (by decide +kernel)), mb 349 (by decide +kernel) (by decide +kernel), mb 350 (by decide +kernel) (by decide +kernel), mb 76 (by decide +kernel) (by decide +kernel), mb 351 (by decide +kernel) (by decide +kernel), (by decide +kernel), ⟨TX8, 10, rfl⟩, by decide⟩
theorem mv_L_26 : MLV RL 26 yX9_tray cX9_tray 3 (some .int) 0 9 := ⟨Or.inl (mb 804 (by decide +kernel) (by decide +kernel)), mb 805 (by decide +kernel) (by decide +kernel), mb 806 (by decide +kernel) (by decide +kernel), mb 85 (by decide +kernel) (by decide +kernel), mb 807 (by decide +kernel) (by decide +kernel), (by decide +kernel), ⟨TX9, 25, rfl⟩, by decide⟩
theorem mv_L_27 : MLV RL 27 yX8_top cX8_top 3 (some .int) 2 8 := ⟨Or.inl (mb 420 (by decide +kernel) (by decide +kernel)), mb 421 (by decide +kernel) (by decide +kernel), mb 422 (by decide +kernel) (by decide +kernel), mb 76 (by decide +kernel) (by decide +kernel), mb 423 (by decide +kernel) (by decide +kernel), (by decide +kernel), ⟨TX8, 10, rfl⟩, by decide⟩
theorem mv_L_31 : MLV RL 31 yX9_top cX9_top 3 (some .int) 2 9 := ⟨Or.inl (mb 834 (by decide +kernel) (by decide +kernel)), mb 835 (by decide +kernel) (by decide +kernel), mb 836 (by decide +kernel) (by decide +kernel), mb 85 (by decide +kernel) (by decide +kernel), mb 837 (by decide +kernel) (by decide +kernel), (by decide +kernel), ⟨TX9, 25, rfl⟩, by decide⟩
theorem mv_L_32 : MLV RL 32 yX8_at cX8_at 2 (some .int) 1 8 := ⟨Or.inl (mb 470 (by decide +kernel) (by decide +kernel)), mb 471 (by decide +kernel) (by decide +kernel), mb 472 (by decide +kernel) (by decide +kernel), mb 76 (by decide +kernel) (by decide +kernel), mb 473 (by decide +kernel) (by decide +kernel), (by decide +kernel), ⟨TX8, 10, rfl⟩, by decide⟩
theorem mv_L_35 : MLV RL 35 yX9_at cX9_at 2 (some .int) 1 9 := ⟨Or.inl (mb 874 (by decide +kernel) (by decide +kernel)), mb 875 (by decide +kernel) (by decide +kernel), mb 876 (by decide +kernel) (by decide +kernel), mb 85 (by decide +kernel) (by decide +kernel), mb 877 (by decide +kernel) (by decide +kernel), (by decide +kernel), ⟨TX9, 25, rfl⟩, by decide⟩
theorem mv_L_36 : MLV RL 36 yX8_now cX8_now 2 (some .int) 1 8 := ⟨Or.inl (mb 479 (by decide +kernel) (by decide +kernel)), mb 480 (by decide +kernel) (by decide +kernel), mb 481 (by decide +kernel) (by decide +kernel), mb 76 (by decide +kernel) (by decide +kernel), mb 482 (by decide +kernel) (by decide +kernel), (by decide +kernel), ⟨TX8, 10, rfl⟩, by decide⟩
theorem mv_L_39 : MLV RL 39 yX9_now cX9_now 2 (some .int) 1 9 := ⟨Or.inl (mb 878 (by decide +kernel) (by decide +kernel)), mb 879 (by decide +kernel) (by decide +kernel), mb 880 (by decide +kernel) (by decide +kernel), mb 85 (by decide +kernel) (by decide +kernel), mb 881 (by decide +kernel) (by decide +kernel), (by decide +kernel), ⟨TX9, 25, rfl⟩, by decide⟩
theorem mv_L_40 : MLV RL 40 yX8_beats cX8_beats 1 (some .int) 0 8 := ⟨Or.inl (mb 496 (by decide +kernel) (by decide +kernel)), mb 497 (by decide +kernel) (by decide +kernel), mb 498 (by decide +kernel) (by decide +kernel), mb 76 (by decide +kernel) (by decide +kernel), mb 499 (by decide +kernel) (by decide +kernel), (by decide +kernel), ⟨TX8, 10, rfl⟩, by decide⟩
theorem mv_L_43 : MLV RL 43 yX9_beats cX9_beats 2 (some .int) 0 9 := ⟨Or.inl (mb 894 (by decide +kernel) (by decide +kernel)), mb 895 (by decide +kernel) (by decide +kernel), mb 896 (by decide +kernel) (by decide +kernel), mb 85 (by decide +kernel) (by decide +kernel), mb 897 (by decide +kernel) (by decide +kernel), (by decide +kernel), ⟨TX9, 25, rfl⟩, by decide⟩
theorem mv_L_44 : MLV RL 44 yX8_whips cX8_whips 3 (some .int) 2 8 := ⟨Or.inl (mb 507 (by decide +kernel) (by decide +kernel)), mb 508 (by decide +kernel) (by decide +kernel), mb 509 (by decide +kernel) (by decide +kernel), mb 76 (by decide +kernel) (by decide +kernel), mb 510 (by decide +kernel) (by decide +kernel), (by decide +kernel), ⟨TX8, 10, rfl⟩, by decide⟩
theorem mv_L_47 : MLV RL 47 yX9_whips cX9_whips 3 (some .int) 2 9 := ⟨Or.inl (mb 905 (by decide +kernel) (by decide +kernel)), mb 906 (by decide +kernel) (by decide +kernel), mb 907 (by decide +kernel) (by decide +kernel), mb 85 (by decide +kernel) (by decide +kernel), mb 908 (by decide +kernel) (by decide +kernel), (by decide +kernel), ⟨TX9, 25, rfl⟩, by decide⟩
theorem mv_L_48 : MLV RL 48 yX8_tilts cX8_tilts 3 (some .int) 1 8 := ⟨Or.inl (mb 519 (by decide +kernel) (by decide +kernel)), mb 520 (by decide +kernel) (by decide +kernel), mb 521 (by decide +kernel) (by decide +kernel), mb 76 (by decide +kernel) (by decide +kernel), mb 522 (by decide +kernel) (by decide +kernel), (by decide +kernel), ⟨TX8, 10, rfl⟩, by decide⟩
theorem mv_L_51 : MLV RL 51 yX9_tilts cX9_tilts 3 (some .int) 1 9 := ⟨Or.inl (mb 914 (by decide +kernel) (by decide +kernel)), mb 915 (by decide +kernel) (by decide +kernel), mb 916 (by decide +kernel) (by decide +kernel), mb 85 (by decide +kernel) (by decide +kernel), mb 917 (by decide +kernel) (by decide +kernel), (by decide +kernel), ⟨TX9, 25, rfl⟩, by decide⟩
theorem mv_L_52 : MLV RL 52 yX8_sets cX8_sets 4 (some .int) 2 8 := ⟨Or.inl (mb 523 (by decide +kernel) (by decide +kernel)), mb 524 (by decide +kernel) (by decide +kernel), mb 525 (by decide +kernel) (by decide +kernel), mb 76 (by decide +kernel) (by decide +kernel), mb 526 (by decide +kernel) (by decide +kernel), (by decide +kernel), ⟨TX8, 10, rfl⟩, by decide⟩
theorem mv_L_55 : MLV RL 55 yX9_sets cX9_sets 4 (some .int) 2 9 := ⟨Or.inl (mb 919 (by decide +kernel) (by decide +kernel)), mb 920 (by decide +kernel) (by decide +kernel), mb 921 (by decide +kernel) (by decide +kernel), mb 85 (by decide +kernel) (by decide +kernel), mb 922 (by decide +kernel) (by decide +kernel), (by decide +kernel), ⟨TX9, 25, rfl⟩, by decide⟩
theorem mv_L_56 : MLV RL 56 yX8_undo cX8_undo 1 (some .int) 0 8 := ⟨Or.inl (mb 527 (by decide +kernel) (by decide +kernel)), mb 528 (by decide +kernel) (by decide +kernel), mb 529 (by decide +kernel) (by decide +kernel), mb 76 (by decide +kernel) (by decide +kernel), mb 530 (by decide +kernel) (by decide +kernel), (by decide +kernel), ⟨TX8, 10, rfl⟩, by decide⟩
theorem mv_L_59 : MLV RL 59 yX9_undo cX9_undo 1 (some .int) 0 9 := ⟨Or.inl (mb 923 (by decide +kernel) (by decide +kernel)), mb 924 (by decide +kernel) (by decide +kernel), mb 925 (by decide +kernel) (by decide +kernel), mb 85 (by decide +kernel) (by decide +kernel), mb 926 (by decide +kernel) (by decide +kernel), (by decide +kernel), ⟨TX9, 25, rfl⟩, by decide⟩
theorem mv_L_60 : MLV RL 60 yX8_stand cX8_stand 2 (some .int) 1 8 := ⟨Or.inl (mb 535 (by decide +kernel) (by decide +kernel)), mb 536 (by decide +kernel) (by decide +kernel), mb 537 (by decide +kernel) (by decide +kernel), mb 76 (by decide +kernel) (by decide +kernel), mb 538 (by decide +kernel) (by decide +kernel), (by decide +kernel), ⟨TX8, 10, rfl⟩, by decide⟩
theorem mv_L_63 : MLV RL 63 yX9_stand cX9_stand 2 (some .int) 1 9 := ⟨Or.inl (mb 927 (by decide +kernel) (by decide +kernel)), mb 928 (by decide +kernel) (by decide +kernel), mb 929 (by decide +kernel) (by decide +kernel), mb 85 (by decide +kernel) (by decide +kernel), mb 930 (by decide +kernel) (by decide +kernel), (by decide +kernel), ⟨TX9, 25, rfl⟩, by decide⟩
theorem mv_L_64 : MLV RL 64 yX8_whip cX8_whip 3 (some .int) 2 8 := ⟨Or.inl (mb 547 (by decide +kernel) (by decide +kernel)), mb 548 (by decide +kernel) (by decide +kernel), mb 549 (by decide +kernel) (by decide +kernel), mb 76 (by decide +kernel) (by decide +kernel), mb 550 (by decide +kernel) (by decide +kernel), (by decide +kernel), ⟨TX8, 10, rfl⟩, by decide⟩
theorem mv_L_67 : MLV RL 67 yX9_whip cX9_whip 7 (some .int) 2 9 := ⟨Or.inl (mb 936 (by decide +kernel) (by decide +kernel)), mb 937 (by decide +kernel) (by decide +kernel), mb 938 (by decide +kernel) (by decide +kernel), mb 85 (by decide +kernel) (by decide +kernel), mb 939 (by decide +kernel) (by decide +kernel), (by decide +kernel), ⟨TX9, 25, rfl⟩, by decide⟩
theorem mv_L_68 : MLV RL 68 yX8_row cX8_row 3 (some .int) 2 8 := ⟨Or.inl (mb 557 (by decide +kernel) (by decide +kernel)), mb 558 (by decide +kernel) (by decide +kernel), mb 559 (by decide +kernel) (by decide +kernel), mb 76 (by decide +kernel) (by decide +kernel), mb 560 (by decide +kernel) (by decide +kernel), (by decide +kernel), ⟨TX8, 10, rfl⟩, by decide⟩
theorem mv_L_71 : MLV RL 71 yX9_row cX9_row 9 (some .int) 2 9 := ⟨Or.inl (mb 940 (by decide +kernel) (by decide +kernel)), mb 941 (by decide +kernel) (by decide +kernel), mb 942 (by decide +kernel) (by decide +kernel), mb 85 (by decide +kernel) (by decide +kernel), mb 943 (by decide +kernel) (by decide +kernel), (by decide +kernel), ⟨TX9, 25, rfl⟩, by decide⟩
theorem mv_L_72 : MLV RL 72 yX8_odds cX8_odds 5 (some .int) 4 8 := ⟨Or.inl (mb 573 (by decide +kernel) (by decide +kernel)), mb 574 (by decide +kernel) (by decide +kernel), mb 575 (by decide +kernel) (by decide +kernel), mb 76 (by decide +kernel) (by decide +kernel), mb 576 (by decide +kernel) (by decide +kernel), (by decide +kernel), ⟨TX8, 10, rfl⟩, by decide⟩
theorem mv_L_76 : MLV RL 76 yX9_odds cX9_odds 10 (some .int) 4 9 := ⟨Or.inl (mb 945 (by decide +kernel) (by decide +kernel)), mb 946 (by decide +kernel) (by decide +kernel), mb 947 (by decide +kernel) (by decide +kernel), mb 85 (by decide +kernel) (by decide +kernel), mb 948 (by decide +kernel) (by decide +kernel), (by decide +kernel), ⟨TX9, 25, rfl⟩, by decide⟩
theorem mv_L_77 : MLV RL 77 yX8_sees cX8_sees 4 (some .int) 3 8 := ⟨Or.inl (mb 594 (by decide +kernel) (by decide +kernel)), mb 595 (by decide +kernel) (by decide +kernel), mb 596 (by decide +kernel) (by decide +kernel), mb 76 (by decide +kernel) (by decide +kernel), mb 597 (by decide +kernel) (by decide +kernel), (by decide +kernel), ⟨TX8, 10, rfl⟩, by decide⟩
theorem mv_L_81 : MLV RL 81 yX9_sees cX9_sees 4 (some .int) 3 9 := ⟨Or.inl (mb 950 (by decide +kernel) (by decide +kernel)), mb 951 (by decide +kernel) (by decide +kernel), mb 952 (by decide +kernel) (by decide +kernel), mb 85 (by decide +kernel) (by decide +kernel), mb 953 (by decide +kernel) (by decide +kernel), (by decide +kernel), ⟨TX9, 25, rfl⟩, by decide⟩
theorem mv_L_82 : MLV RL 82 yX8_forget cX8_forget 2 (some .int) 0 8 := ⟨Or.inl (mb 605 (by decide +kernel) (by decide +kernel)), mb 606 (by decide +kernel) (by decide +kernel), mb 607 (by decide +kernel) (by decide +kernel), mb 76 (by decide +kernel) (by decide +kernel), mb 608 (by decide +kernel) (by decide +kernel), (by decide +kernel), ⟨TX8, 10, rfl⟩, by decide⟩
theorem mv_L_85 : MLV RL 85 yX9_forget cX9_forget 2 (some .int) 0 9 := ⟨Or.inl (mb 954 (by decide +kernel) (by decide +kernel)), mb 955 (by decide +kernel) (by decide +kernel), mb 956 (by decide +kernel) (by decide +kernel), mb 85 (by decide +kernel) (by decide +kernel), mb 957 (by decide +kernel) (by decide +kernel), (by decide +kernel), ⟨TX9, 25, rfl⟩, by decide⟩
theorem mv_L_86 : MLV RL 86 yX8_drags cX8_drags 2 (some .int) 1 8 := ⟨Or.inl (mb 609 (by decide +kernel) (by decide +kernel)), mb 610 (by decide +kernel) (by decide +kernel), mb 611 (by decide +kernel) (by decide +kernel), mb 76 (by decide +kernel) (by decide +kernel), mb 612 (by decide +kernel) (by decide +kernel), (by decide +kernel), ⟨TX8, 10, rfl⟩, by decide⟩
theorem mv_L_89 : MLV RL 89 yX9_drags cX9_drags 7 (some .int) 1 9 := ⟨Or.inl (mb 958 (by decide +kernel) (by decide +kernel)), mb 959 (by decide +kernel) (by decide +kernel), mb 960 (by decide +kernel) (by decide +kernel), mb 85 (by decide +kernel) (by decide +kernel), mb 961 (by decide +kernel) (by decide +kernel), (by decide +kernel), ⟨TX9, 25, rfl⟩, by decide⟩
theorem mv_L_90 : MLV RL 90 yX8_look cX8_look 2 (some .int) 1 8 := ⟨Or.inl (mb 635 (by decide +kernel) (by decide +kernel)), mb 636 (by decide +kernel) (by decide +kernel), mb 637 (by decide +kernel) (by decide +kernel), mb 76 (by decide +kernel) (by decide +kernel), mb 638 (by decide +kernel) (by decide +kernel), (by decide +kernel), ⟨TX8, 10, rfl⟩, by decide⟩
theorem mv_L_93 : MLV RL 93 yX9_look cX9_look 9 (some .int) 1 9 := ⟨Or.inl (mb 969 (by decide +kernel) (by decide +kernel)), mb 970 (by decide +kernel) (by decide +kernel), mb 971 (by decide +kernel) (by decide +kernel), mb 85 (by decide +kernel) (by decide +kernel), mb 972 (by decide +kernel) (by decide +kernel), (by decide +kernel), ⟨TX9, 25, rfl⟩, by decide⟩
theorem mv_L_94 : MLV RL 94 yX8_rate cX8_rate 3 (some .int) 2 8 := ⟨Or.inl (mb 652 (by decide +kernel) (by decide +kernel)), mb 653 (by decide +kernel) (by decide +kernel), mb 654 (by decide +kernel) (by decide +kernel), mb 76 (by decide +kernel) (by decide +kernel), mb 655 (by decide +kernel) (by decide +kernel), (by decide +kernel), ⟨TX8, 10, rfl⟩, by decide⟩
theorem mv_L_97 : MLV RL 97 yX9_rate cX9_rate 4 (some .int) 2 9 := ⟨Or.inl (mb 974 (by decide +kernel) (by decide +kernel)), mb 975 (by decide +kernel) (by decide +kernel), mb 976 (by decide +kernel) (by decide +kernel), mb 85 (by decide +kernel) (by decide +kernel), mb 977 (by decide +kernel) (by decide +kernel), (by decide +kernel), ⟨TX9, 25, rfl⟩, by decide⟩
theorem mv_L_98 : MLV RL 98 yX8_keep cX8_keep 2 (some .int) 1 8 := ⟨Or.inl (mb 690 (by decide +kernel) (by decide +kernel)), mb 691 (by decide +kernel) (by decide +kernel), mb 692 (by decide +kernel) (by decide +kernel), mb 76 (by decide +kernel) (by decide +kernel), mb 693 (by decide +kernel) (by decide +kernel), (by decide +kernel), ⟨TX8, 10, rfl⟩, by decide⟩
theorem mv_L_101 : MLV RL 101 yX9_keep cX9_keep 2 (some .int) 1 9 := ⟨Or.inl (mb 983 (by decide +kernel) (by decide +kernel)), mb 984 (by decide +kernel) (by decide +kernel), mb 985 (by decide +kernel) (by decide +kernel), mb 85 (by decide +kernel) (by decide +kernel), mb 986 (by decide +kernel) (by decide +kernel), (by decide +kernel), ⟨TX9, 25, rfl⟩, by decide⟩
theorem mv_L_102 : MLV RL 102 yX8_back cX8_back 2 (some .int) 1 8 := ⟨Or.inl (mb 697 (by decide +kernel) (by decide +kernel)), mb 698 (by decide +kernel) (by decide +kernel), mb 699 (by decide +kernel) (by decide +kernel), mb 76 (by decide +kernel) (by decide +kernel), mb 700 (by decide +kernel) (by decide +kernel), (by decide +kernel), ⟨TX8, 10, rfl⟩, by decide⟩
theorem mv_L_105 : MLV RL 105 yX9_back cX9_back 2 (some .int) 1 9 := ⟨Or.inl (mb 987 (by decide +kernel) (by decide +kernel)), mb 988 (by decide +kernel) (by decide +kernel), mb 989 (by decide +kernel) (by decide +kernel), mb 85 (by decide +kernel) (by decide +kernel), mb 990 (by decide +kernel) (by decide +kernel), (by decide +kernel), ⟨TX9, 25, rfl⟩, by decide⟩
theorem mv_L_106 : MLV RL 106 yX8_count cX8_count 2 (some .int) 1 8 := ⟨Or.inl (mb 701 (by decide +kernel) (by decide +kernel)), mb 702 (by decide +kernel) (by decide +kernel), mb 703 (by decide +kernel) (by decide +kernel), mb 76 (by decide +kernel) (by decide +kernel), mb 704 (by decide +kernel) (by decide +kernel), (by decide +kernel), ⟨TX8, 10, rfl⟩, by decide⟩
theorem mv_L_109 : MLV RL 109 yX9_count cX9_count 2 (some .int) 1 9 := ⟨Or.inl (mb 991 (by decide +kernel) (by decide +kernel)), mb 992 (by decide +kernel) (by decide +kernel), mb 993 (by decide +kernel) (by decide +kernel), mb 85 (by decide +kernel) (by decide +kernel), mb 994 (by decide +kernel) (by decide +kernel), (by decide +kernel), ⟨TX9, 25, rfl⟩, by decide⟩
theorem mv_L_110 : MLV RL 110 yX8_trace cX8_trace 1 (some .long) 0 8 := ⟨Or.inl (mb 705 (by decide +kernel) (by decide +kernel)), mb 706 (by decide +kernel) (by decide +kernel), mb 707 (by decide +kernel) (by decide +kernel), mb 76 (by decide +kernel) (by decide +kernel), mb 708 (by decide +kernel) (by decide +kernel), (by decide +kernel), ⟨TX8, 10, rfl⟩, by decide⟩
theorem mv_L_114 : MLV RL 114 yX9_trace cX9_trace 1 (some .long) 0 9 := ⟨Or.inl (mb 995 (by decide +kernel) (by decide +kernel)), mb 996 (by decide +kernel) (by decide +kernel), mb 997 (by decide +kernel) (by decide +kernel), mb 85 (by decide +kernel) (by decide +kernel), mb 998 (by decide +kernel) (by decide +kernel), (by decide +kernel), ⟨TX9, 25, rfl⟩, by decide⟩
theorem kc_J6_265 : Cond.constant RJ6 265 (1431655765) ∈ BIG := mb 450 (by decide +kernel) (by decide +kernel)
theorem kc_J6_266 : Cond.constant RJ6 266 (858993459) ∈ BIG := mb 451 (by decide +kernel) (by decide +kernel)
theorem kc_J6_267 : Cond.constant RJ6 267 (252645135) ∈ BIG := mb 452 (by decide +kernel) (by decide +kernel)
theorem in_X0 : Cond.instantiable RX0 5 ∈ BIG := mb 243 (by decide +kernel) (by decide +kernel)
theorem iz_X0 : Cond.initialized RX0 ∈ BIG := mb 82 (by decide +kernel) (by decide +kernel)
theorem in_X1 : Cond.instantiable RX1 1 ∈ BIG := mb 292 (by decide +kernel) (by decide +kernel)
theorem iz_X1 : Cond.initialized RX1 ∈ BIG := mb 84 (by decide +kernel) (by decide +kernel)
theorem in_X2 : Cond.instantiable RX2 4 ∈ BIG := mb 153 (by decide +kernel) (by decide +kernel)
theorem iz_X2 : Cond.initialized RX2 ∈ BIG := mb 80 (by decide +kernel) (by decide +kernel)
theorem in_X3 : Cond.instantiable RX3 3 ∈ BIG := mb 223 (by decide +kernel) (by decide +kernel)
theorem iz_X3 : Cond.initialized RX3 ∈ BIG := mb 81 (by decide +kernel) (by decide +kernel)
theorem in_X4 : Cond.instantiable RX4 9 ∈ BIG := mb 115 (by decide +kernel) (by decide +kernel)
theorem iz_X4 : Cond.initialized RX4 ∈ BIG := mb 78 (by decide +kernel) (by decide +kernel)
theorem in_X5 : Cond.instantiable RX5 4 ∈ BIG := mb 272 (by decide +kernel) (by decide +kernel)
theorem iz_X5 : Cond.initialized RX5 ∈ BIG := mb 83 (by decide +kernel) (by decide +kernel)
theorem in_X6 : Cond.instantiable RX6 2 ∈ BIG := mb 98 (by decide +kernel) (by decide +kernel)
theorem iz_X6 : Cond.initialized RX6 ∈ BIG := mb 77 (by decide +kernel) (by decide +kernel)
theorem in_X7 : Cond.instantiable RX7 4 ∈ BIG := mb 121 (by decide +kernel) (by decide +kernel)
theorem iz_X7 : Cond.initialized RX7 ∈ BIG := mb 79 (by decide +kernel) (by decide +kernel)
theorem in_X8 : Cond.instantiable RX8 10 ∈ BIG := mb 90 (by decide +kernel) (by decide +kernel)
theorem iz_X8 : Cond.initialized RX8 ∈ BIG := mb 76 (by decide +kernel) (by decide +kernel)
theorem in_X9 : Cond.instantiable RX9 25 ∈ BIG := mb 710 (by decide +kernel) (by decide +kernel)
theorem iz_X9 : Cond.initialized RX9 ∈ BIG := mb 85 (by decide +kernel) (by decide +kernel)
theorem mst_min : Cond.static Lib.Math.min.name ∈ BIG := mb 377 (by decide +kernel) (by decide +kernel)
theorem mco_min : Cond.code Lib.Math.min.name Lib.Math.min.code 2 (some .int) ∈ BIG := mb 378 (by decide +kernel) (by decide +kernel)
theorem mst_max : Cond.static Lib.Math.max.name ∈ BIG := mb 625 (by decide +kernel) (by decide +kernel)
theorem mco_max : Cond.code Lib.Math.max.name Lib.Math.max.code 2 (some .int) ∈ BIG := mb 626 (by decide +kernel) (by decide +kernel)
theorem miz : Cond.initialized "java/lang/Math" ∈ BIG := mb 86 (by decide +kernel) (by decide +kernel)
theorem siz : Cond.initialized "java/lang/System" ∈ BIG := mb 87 (by decide +kernel) (by decide +kernel)
theorem sna : Cond.native arraycopyName ∈ BIG := mb 414 (by decide +kernel) (by decide +kernel)
theorem sst : Cond.static arraycopyName ∈ BIG := mb 413 (by decide +kernel) (by decide +kernel)
theorem oco : Cond.code objectInit ⟨#[0xb1]⟩ 1 none ∈ BIG := mb 96 (by decide +kernel) (by decide +kernel)
theorem oin : Cond.instanceMethod objectInit ∈ BIG := mb 95 (by decide +kernel) (by decide +kernel)
theorem ay_int : Cond.arrayClass .int ∈ BIG := mb 113 (by decide +kernel) (by decide +kernel)
theorem ay_byte : Cond.arrayClass .byte ∈ BIG := mb 791 (by decide +kernel) (by decide +kernel)
theorem ay_boolean : Cond.arrayClass .boolean ∈ BIG := mb 270 (by decide +kernel) (by decide +kernel)
end
section
theorem r_icmpeqN {l : Launch} {g : Gl} {X : Cx} {own : String} {cc : ByteArray} {nL d n k pc : Nat} {ws : va_W} {lv : List (Nat × Value)} {rest : List Value} {x y : Int32} {off : Int} (a b tgt : Nat) (C : Ok l g X own cc nL d) (hd : decode cc pc = .ok (.if_icmp .eq off, 3)) (ht : (pc : Int) + off = (tgt : Int)) (hxa : x = nI a) (hyb : y = nI b) (ha : a < 2 ^ 31) (hb : b < 2 ^ 31) (kt : a = b → Vw g X nL n k ws tgt lv rest) (kf : ¬ a = b → Vw g X nL n k ws (pc + 3) lv rest) : Vw g X nL n k ws pc lv (.int y :: .int x :: rest) := by
  subst hxa; subst hyb
  exact r_icmpeq tgt C hd ht (fun h => kt ((nI_eq ha hb).mp h)) (fun h => kf (fun e => h ((nI_eq ha hb).mpr e)))
theorem r_icmpneN {l : Launch} {g : Gl} {X : Cx} {own : String} {cc : ByteArray} {nL d n k pc : Nat} {ws : va_W} {lv : List (Nat × Value)} {rest : List Value} {x y : Int32} {off : Int} (a b tgt : Nat) (C : Ok l g X own cc nL d) (hd : decode cc pc = .ok (.if_icmp .ne off, 3)) (ht : (pc : Int) + off = (tgt : Int)) (hxa : x = nI a) (hyb : y = nI b) (ha : a < 2 ^ 31) (hb : b < 2 ^ 31) (kt : ¬ a = b → Vw g X nL n k ws tgt lv rest) (kf : a = b → Vw g X nL n k ws (pc + 3) lv rest) : Vw g X nL n k ws pc lv (.int y :: .int x :: rest) := by
  subst hxa; subst hyb
  exact r_icmpne tgt C hd ht (fun h => kt (fun e => h ((nI_eq ha hb).mpr e))) (fun h => kf ((nI_eq ha hb).mp h))
theorem r_icmpltN {l : Launch} {g : Gl} {X : Cx} {own : String} {cc : ByteArray} {nL d n k pc : Nat} {ws : va_W} {lv : List (Nat × Value)} {rest : List Value} {x y : Int32} {off : Int} (a b tgt : Nat) (C : Ok l g X own cc nL d) (hd : decode cc pc = .ok (.if_icmp .lt off, 3)) (ht : (pc : Int) + off = (tgt : Int)) (hxa : x = nI a) (hyb : y = nI b) (ha : a < 2 ^ 31) (hb : b < 2 ^ 31) (kt : a < b → Vw g X nL n k ws tgt lv rest) (kf : ¬ a < b → Vw g X nL n k ws (pc + 3) lv rest) : Vw g X nL n k ws pc lv (.int y :: .int x :: rest) := by
  subst hxa; subst hyb
  exact r_icmplt tgt C hd ht (fun h => kt ((nI_ltI ha hb).mp h)) (fun h => kf (fun e => h ((nI_ltI ha hb).mpr e)))
theorem r_icmpgeN {l : Launch} {g : Gl} {X : Cx} {own : String} {cc : ByteArray} {nL d n k pc : Nat} {ws : va_W} {lv : List (Nat × Value)} {rest : List Value} {x y : Int32} {off : Int} (a b tgt : Nat) (C : Ok l g X own cc nL d) (hd : decode cc pc = .ok (.if_icmp .ge off, 3)) (ht : (pc : Int) + off = (tgt : Int)) (hxa : x = nI a) (hyb : y = nI b) (ha : a < 2 ^ 31) (hb : b < 2 ^ 31) (kt : b ≤ a → Vw g X nL n k ws tgt lv rest) (kf : ¬ b ≤ a → Vw g X nL n k ws (pc + 3) lv rest) : Vw g X nL n k ws pc lv (.int y :: .int x :: rest) := by
  subst hxa; subst hyb
  exact r_icmpge tgt C hd ht (fun h => kt ((nI_leI hb ha).mp h)) (fun h => kf (fun e => h ((nI_leI hb ha).mpr e)))
theorem r_icmpgtN {l : Launch} {g : Gl} {X : Cx} {own : String} {cc : ByteArray} {nL d n k pc : Nat} {ws : va_W} {lv : List (Nat × Value)} {rest : List Value} {x y : Int32} {off : Int} (a b tgt : Nat) (C : Ok l g X own cc nL d) (hd : decode cc pc = .ok (.if_icmp .gt off, 3)) (ht : (pc : Int) + off = (tgt : Int)) (hxa : x = nI a) (hyb : y = nI b) (ha : a < 2 ^ 31) (hb : b < 2 ^ 31) (kt : b < a → Vw g X nL n k ws tgt lv rest) (kf : ¬ b < a → Vw g X nL n k ws (pc + 3) lv rest) : Vw g X nL n k ws pc lv (.int y :: .int x :: rest) := by
  subst hxa; subst hyb
  exact r_icmpgt tgt C hd ht (fun h => kt ((nI_ltI hb ha).mp h)) (fun h => kf (fun e => h ((nI_ltI hb ha).mpr e)))
theorem r_icmpleN {l : Launch} {g : Gl} {X : Cx} {own : String} {cc : ByteArray} {nL d n k pc : Nat} {ws : va_W} {lv : List (Nat × Value)} {rest : List Value} {x y : Int32} {off : Int} (a b tgt : Nat) (C : Ok l g X own cc nL d) (hd : decode cc pc = .ok (.if_icmp .le off, 3)) (ht : (pc : Int) + off = (tgt : Int)) (hxa : x = nI a) (hyb : y = nI b) (ha : a < 2 ^ 31) (hb : b < 2 ^ 31) (kt : a ≤ b → Vw g X nL n k ws tgt lv rest) (kf : ¬ a ≤ b → Vw g X nL n k ws (pc + 3) lv rest) : Vw g X nL n k ws pc lv (.int y :: .int x :: rest) := by
  subst hxa; subst hyb
  exact r_icmple tgt C hd ht (fun h => kt ((nI_leI ha hb).mp h)) (fun h => kf (fun e => h ((nI_leI ha hb).mpr e)))
theorem nI_z {a : Nat} (ha : a < 2 ^ 31) : nI a = 0 ↔ a = 0 := by rw [← nI_0]; exact nI_eq ha (by decide)
theorem nI_lez {a : Nat} (ha : a < 2 ^ 31) : nI a ≤ 0 ↔ a ≤ 0 := by rw [← nI_0]; exact nI_leI ha (by decide)
theorem nI_gtz {a : Nat} (ha : a < 2 ^ 31) : 0 < nI a ↔ 0 < a := by rw [← nI_0]; exact nI_ltI (by decide) ha
theorem r_ifeqN {l : Launch} {g : Gl} {X : Cx} {own : String} {cc : ByteArray} {nL d n k pc : Nat} {ws : va_W} {lv : List (Nat × Value)} {rest : List Value} {x : Int32} {off : Int} (a tgt : Nat) (C : Ok l g X own cc nL d) (hd : decode cc pc = .ok (.ifCond .eq off, 3)) (ht : (pc : Int) + off = (tgt : Int)) (hxa : x = nI a) (ha : a < 2 ^ 31) (kt : a = 0 → Vw g X nL n k ws tgt lv rest) (kf : ¬ a = 0 → Vw g X nL n k ws (pc + 3) lv rest) : Vw g X nL n k ws pc lv (.int x :: rest) := by
  subst hxa
  exact r_ifeq tgt C hd ht (fun h => kt ((nI_z ha).mp h)) (fun h => kf (fun e => h ((nI_z ha).mpr e)))
theorem r_ifneN {l : Launch} {g : Gl} {X : Cx} {own : String} {cc : ByteArray} {nL d n k pc : Nat} {ws : va_W} {lv : List (Nat × Value)} {rest : List Value} {x : Int32} {off : Int} (a tgt : Nat) (C : Ok l g X own cc nL d) (hd : decode cc pc = .ok (.ifCond .ne off, 3)) (ht : (pc : Int) + off = (tgt : Int)) (hxa : x = nI a) (ha : a < 2 ^ 31) (kt : ¬ a = 0 → Vw g X nL n k ws tgt lv rest) (kf : a = 0 → Vw g X nL n k ws (pc + 3) lv rest) : Vw g X nL n k ws pc lv (.int x :: rest) := by
  subst hxa
  exact r_ifne tgt C hd ht (fun h => kt (fun e => h ((nI_z ha).mpr e))) (fun h => kf ((nI_z ha).mp h))
theorem r_ifgtN {l : Launch} {g : Gl} {X : Cx} {own : String} {cc : ByteArray} {nL d n k pc : Nat} {ws : va_W} {lv : List (Nat × Value)} {rest : List Value} {x : Int32} {off : Int} (a tgt : Nat) (C : Ok l g X own cc nL d) (hd : decode cc pc = .ok (.ifCond .gt off, 3)) (ht : (pc : Int) + off = (tgt : Int)) (hxa : x = nI a) (ha : a < 2 ^ 31) (kt : 0 < a → Vw g X nL n k ws tgt lv rest) (kf : ¬ 0 < a → Vw g X nL n k ws (pc + 3) lv rest) : Vw g X nL n k ws pc lv (.int x :: rest) := by
  subst hxa
  exact r_ifgt tgt C hd ht (fun h => kt ((nI_gtz ha).mp h)) (fun h => kf (fun e => h ((nI_gtz ha).mpr e)))
theorem r_ifleN {l : Launch} {g : Gl} {X : Cx} {own : String} {cc : ByteArray} {nL d n k pc : Nat} {ws : va_W} {lv : List (Nat × Value)} {rest : List Value} {x : Int32} {off : Int} (a tgt : Nat) (C : Ok l g X own cc nL d) (hd : decode cc pc = .ok (.ifCond .le off, 3)) (ht : (pc : Int) + off = (tgt : Int)) (hxa : x = nI a) (ha : a < 2 ^ 31) (kt : a ≤ 0 → Vw g X nL n k ws tgt lv rest) (kf : ¬ a ≤ 0 → Vw g X nL n k ws (pc + 3) lv rest) : Vw g X nL n k ws pc lv (.int x :: rest) := by
  subst hxa
  exact r_ifle tgt C hd ht (fun h => kt ((nI_lez ha).mp h)) (fun h => kf (fun e => h ((nI_lez ha).mpr e)))
theorem r_mminN {l : Launch} {g : Gl} {X : Cx} {own : String} {cc : ByteArray} {nL d n k pc : Nat} {ws : va_W} {lv : List (Nat × Value)} {rest : List Value} {index : Nat} {x y : Int32} (a b : Nat) (C : Ok l g X own cc nL d) (hd : decode cc pc = .ok (.invokestatic index, 3)) (hlink : Cond.methodLink own index Lib.Math.min.name ∈ BIG) (hd1 : 1 ≤ d) (hcat : (rest.map fun v => v.category).sum ≤ 8) (hnk : n ≤ cellsX X ∧ k ≤ slotsX X) (hxa : x = nI a) (hyb : y = nI b) (ha : a < 2 ^ 31) (hb : b < 2 ^ 31) (kk : Vw g X nL n k ws (pc + 3) lv (.int (nI (min a b)) :: rest)) : Vw g X nL n k ws pc lv (.int y :: .int x :: rest) := by
  subst hxa; subst hyb
  refine r_mmin C hd hlink mst_min miz mco_min hd1 hcat hnk ?_
  have e : (if nI b < nI a then nI b else nI a) = nI (min a b) := by
    by_cases h : b < a
    · rw [if_pos ((nI_ltI hb ha).mpr h), Nat.min_eq_right (by omega)]
    · rw [if_neg (fun q => h ((nI_ltI hb ha).mp q)), Nat.min_eq_left (by omega)]
  rw [e]; exact kk
theorem nar_b {r : Int32} (h : r = 0 ∨ r = 1) : narrow .boolean (.int r) = .int r := by rcases h with rfl | rfl <;> rfl
theorem fit_b {r : Int32} (h : r = 0 ∨ r = 1) : fits .boolean (.int r) = true := by rcases h with rfl | rfl <;> rfl

theorem u_int {g : Gl} {X : Cx} {nL n k pc : Nat} {ws : va_W} {lv : List (Nat × Value)} {rest : List Value} {x : Int32} (kk : ∀ z : Int32, z = x → Vw g X nL n k ws pc lv (.int z :: rest)) : Vw g X nL n k ws pc lv (.int x :: rest) := kk x rfl
theorem u_lng {g : Gl} {X : Cx} {nL n k pc : Nat} {ws : va_W} {lv : List (Nat × Value)} {rest : List Value} {x : Int64} (kk : ∀ z : Int64, z = x → Vw g X nL n k ws pc lv (.long z :: rest)) : Vw g X nL n k ws pc lv (.long x :: rest) := kk x rfl
theorem u_lv {g : Gl} {X : Cx} {nL n k pc : Nat} {ws : va_W} {lv : List (Nat × Value)} {st : List Value} (lv' : List (Nat × Value)) (ks : List Nat) (h : lv_pick lv ks = lv') (kk : Vw g X nL n k ws pc lv' st) : Vw g X nL n k ws pc lv st := by
  obtain ⟨p, l', e, R, s, m, args, below, meth, c, Q, A⟩ := X
  exact fun H locs ls hP hD hS hl => kk H locs ls hP hD hS (lv_sub hl ks h)
theorem u_lvq {g : Gl} {X : Cx} {nL n k pc : Nat} {ws : va_W} {lv : List (Nat × Value)} {st : List Value} (lv' : List (Nat × Value)) (h : lv = lv') (kk : Vw g X nL n k ws pc lv' st) : Vw g X nL n k ws pc lv st := h ▸ kk
theorem clb (x : Int32) : x.toNatClampNeg < 2 ^ 31 := by
  have h := x.toInt_lt
  have h2 : (x.toNatClampNeg : Int) = max x.toInt 0 := by
    show ((x.toInt.toNat : Nat) : Int) = _
    omega
  omega
theorem cl_ge {x : Int32} {i : Nat} (h : x.toNatClampNeg ≤ i) (hi : i < 2 ^ 31) : x ≤ nI i := by
  rw [Int32.le_iff_toInt_le, nI_toInt hi]
  have h2 : x.toNatClampNeg = x.toInt.toNat := rfl
  omega
theorem cl_lt {x : Int32} {i : Nat} (h : i < x.toNatClampNeg) : ¬ x ≤ nI i := by
  have hb := clb x
  rw [Int32.le_iff_toInt_le, nI_toInt (by omega)]
  have h2 : x.toNatClampNeg = x.toInt.toNat := rfl
  omega
theorem natc {x : Int32} {B : Nat} (hB : B < 2 ^ 31) (h : ∃ j, j < B ∧ x = nI j) : x.toNatClampNeg < B ∧ nI x.toNatClampNeg = x := by
  obtain ⟨j, h1, rfl⟩ := h
  rw [nI_clamp (by omega)]
  exact ⟨h1, rfl⟩
theorem u_stq {g : Gl} {X : Cx} {nL n k pc : Nat} {ws : va_W} {lv : List (Nat × Value)} {st : List Value} (st' : List Value) (h : st = st') (kk : Vw g X nL n k ws pc lv st') : Vw g X nL n k ws pc lv st := h ▸ kk
theorem u_wsq {g : Gl} {X : Cx} {nL n k pc : Nat} {ws : va_W} {lv : List (Nat × Value)} {st : List Value} (ws' : va_W) (h : ws = ws') (kk : Vw g X nL n k ws' pc lv st) : Vw g X nL n k ws pc lv st := h ▸ kk
def wMom (g : Gl) (a p q : Nat) (pl sp : Nat → Int32) (be ti : Int32) : va_W := [(a, .inr (2, [.ref p, .ref q, .int be, .int ti])), (p, .inl (g.2.1, 6, .inl pl)), (q, .inl (g.2.1, 6, .inl sp))]
def wTol (g : Gl) (b d : Nat) (dr : Nat → Int32) (pc sl : Int32) (tp : Nat) : va_W := [(b, .inr (7, [.ref d, .int pc, .int sl, .int (nI tp)])), (d, .inl (g.2.1, 6, .inl dr))]
def wTex (g : Gl) (x xa : Nat) (le : Nat → Int32) (ln : Nat) : va_W := [(x, .inr (6, [.ref xa, .int (nI ln)])), (xa, .inl (g.2.1, 120, .inl le))]
def wRea (r x b a : Nat) (it st tk vl : Int32) (bg bh : Nat) : va_W := [(r, .inr (4, [.ref x, .ref b, .ref a, .int it, .int st, .int tk, .int vl, .int (nI bg), .int (nI bh)]))]
def wFut (f a : Nat) (rs rb ou ol : Int32) : va_W := [(f, .inr (0, [.ref a, .int rs, .int rb, .int ou, .int ol]))]
def wSee (g : Gl) (s sa sb sc : Nat) (fi bt su : Nat → Int32) (kn : Nat) : va_W := [(s, .inr (5, [.ref sa, .ref sb, .ref sc, .int (nI kn)])), (sa, .inl (g.2.1, 6, .inl fi)), (sb, .inl (g.2.1, 6, .inl bt)), (sc, .inl (g.2.1, 6, .inl su))]
def wKin (k : Nat) (tr : Int64) : va_W := [(k, .inr (1, [.long tr]))]
end
section
def fJ6_bitCount_0f7a4 (x : Int32) : (Int32) := (let y_1 : Int32 := x - (((x.toUInt32 >>> ((1 : Int32).toUInt32 &&& Int32.toUInt32 31)).toInt32) &&& 1431655765); let y_2 : Int32 := (y_1 &&& 858993459) + (((y_1.toUInt32 >>> ((2 : Int32).toUInt32 &&& Int32.toUInt32 31)).toInt32) &&& 858993459); let y_3 : Int32 := (y_2 + ((y_2.toUInt32 >>> ((4 : Int32).toUInt32 &&& Int32.toUInt32 31)).toInt32)) &&& 252645135; let y_4 : Int32 := y_3 + ((y_3.toUInt32 >>> ((8 : Int32).toUInt32 &&& Int32.toUInt32 31)).toInt32); let y_5 : Int32 := y_4 + ((y_4.toUInt32 >>> ((16 : Int32).toUInt32 &&& Int32.toUInt32 31)).toInt32); (y_5 &&& 63))
set_option maxHeartbeats 4000000 in
set_option maxRecDepth 100000 in
theorem bJ6_bitCount_0f7a4 {l : Launch} {g : Gl} {X : Cx} (C : Ok l g X RJ6 cJ6_bitCount_0f7a4 1 0) (x : Int32) (hR : RetI g X cJ6_bitCount_0f7a4 1 0 0 (fJ6_bitCount_0f7a4 x) ([] : va_W)) : Vw g X 1 0 0 ([] : va_W) 0 [(0, .int x)] [] := by
  refine r_iload_n (pc := 0) C dJ6_bitCount_0f7a4_0 0 rfl ?_
  refine r_iload_n (pc := 1) C dJ6_bitCount_0f7a4_1 0 rfl ?_
  refine r_iconst (pc := 2) 1 C dJ6_bitCount_0f7a4_2 rfl ?_
  refine r_iushr (pc := 3) C dJ6_bitCount_0f7a4_3 ?_
  refine r_ldcw (pc := 4) C dJ6_bitCount_0f7a4_4 kc_J6_265 ?_
  refine r_iand (pc := 7) C dJ6_bitCount_0f7a4_7 ?_
  refine r_isub (pc := 8) C dJ6_bitCount_0f7a4_8 ?_
  refine u_int (fun y_1 e_y_1 => ?_)
  refine r_istore_n (pc := 9) [(0, .int y_1)] C dJ6_bitCount_0f7a4_9 (by decide) rfl ?_
  refine r_iload_n (pc := 10) C dJ6_bitCount_0f7a4_10 0 rfl ?_
  refine r_ldcw (pc := 11) C dJ6_bitCount_0f7a4_11 kc_J6_266 ?_
  refine r_iand (pc := 14) C dJ6_bitCount_0f7a4_14 ?_
  refine r_iload_n (pc := 15) C dJ6_bitCount_0f7a4_15 0 rfl ?_
  refine r_iconst (pc := 16) 2 C dJ6_bitCount_0f7a4_16 rfl ?_
  refine r_iushr (pc := 17) C dJ6_bitCount_0f7a4_17 ?_
  refine r_ldcw (pc := 18) C dJ6_bitCount_0f7a4_18 kc_J6_266 ?_
  refine r_iand (pc := 21) C dJ6_bitCount_0f7a4_21 ?_
  refine r_iadd (pc := 22) C dJ6_bitCount_0f7a4_22 ?_
  refine u_int (fun y_2 e_y_2 => ?_)
  refine r_istore_n (pc := 23) [(0, .int y_2)] C dJ6_bitCount_0f7a4_23 (by decide) rfl ?_
  refine r_iload_n (pc := 24) C dJ6_bitCount_0f7a4_24 0 rfl ?_
  refine r_iload_n (pc := 25) C dJ6_bitCount_0f7a4_25 0 rfl ?_
  refine r_iconst (pc := 26) 4 C dJ6_bitCount_0f7a4_26 rfl ?_
  refine r_iushr (pc := 27) C dJ6_bitCount_0f7a4_27 ?_
  refine r_iadd (pc := 28) C dJ6_bitCount_0f7a4_28 ?_
  refine r_ldcw (pc := 29) C dJ6_bitCount_0f7a4_29 kc_J6_267 ?_
  refine r_iand (pc := 32) C dJ6_bitCount_0f7a4_32 ?_
  refine u_int (fun y_3 e_y_3 => ?_)
  refine r_istore_n (pc := 33) [(0, .int y_3)] C dJ6_bitCount_0f7a4_33 (by decide) rfl ?_
  refine r_iload_n (pc := 34) C dJ6_bitCount_0f7a4_34 0 rfl ?_
  refine r_iload_n (pc := 35) C dJ6_bitCount_0f7a4_35 0 rfl ?_
  refine r_bipush (pc := 36) 8 C dJ6_bitCount_0f7a4_36 rfl ?_
  refine r_iushr (pc := 38) C dJ6_bitCount_0f7a4_38 ?_
  refine r_iadd (pc := 39) C dJ6_bitCount_0f7a4_39 ?_
  refine u_int (fun y_4 e_y_4 => ?_)
  refine r_istore_n (pc := 40) [(0, .int y_4)] C dJ6_bitCount_0f7a4_40 (by decide) rfl ?_
  refine r_iload_n (pc := 41) C dJ6_bitCount_0f7a4_41 0 rfl ?_
  refine r_iload_n (pc := 42) C dJ6_bitCount_0f7a4_42 0 rfl ?_
  refine r_bipush (pc := 43) 16 C dJ6_bitCount_0f7a4_43 rfl ?_
  refine r_iushr (pc := 45) C dJ6_bitCount_0f7a4_45 ?_
  refine r_iadd (pc := 46) C dJ6_bitCount_0f7a4_46 ?_
  refine u_int (fun y_5 e_y_5 => ?_)
  refine r_istore_n (pc := 47) [(0, .int y_5)] C dJ6_bitCount_0f7a4_47 (by decide) rfl ?_
  refine r_iload_n (pc := 48) C dJ6_bitCount_0f7a4_48 0 rfl ?_
  refine r_bipush (pc := 49) 63 C dJ6_bitCount_0f7a4_49 rfl ?_
  refine r_iand (pc := 51) C dJ6_bitCount_0f7a4_51 ?_
  have hf : fJ6_bitCount_0f7a4 x = (y_5 &&& 63) := by subst e_y_1 e_y_2 e_y_3 e_y_4 e_y_5; first | rfl | (simp only [fJ6_bitCount_0f7a4]; done) | (simp [fJ6_bitCount_0f7a4]; done)
  rw [hf] at hR
  exact hR _ _ dJ6_bitCount_0f7a4_52
theorem ctJ6_bitCount_0f7a4 (l : Launch) (g : Gl) (x : Int32) : CtI l g yJ6_bitCount_0f7a4 cJ6_bitCount_0f7a4 1 (some .int) 0 [.int x] ([] : va_W) (fJ6_bitCount_0f7a4 x) ([] : va_W) := mkI .int rfl rfl [(0, .int x)] (by decide) (Nat.le_of_ble_eq_true rfl) rfl (fun X C hR => bJ6_bitCount_0f7a4 C x hR)

def fX2_stands (sp : Nat → Int32) (t : Nat) : (Int32) := (if (sp t) ≤ 0 then (0) else (1))
set_option maxHeartbeats 4000000 in
set_option maxRecDepth 100000 in
theorem bX2_stands {l : Launch} {g : Gl} {X : Cx} (C : Ok l g X RX2 cX2_stands 2 0) (za : Nat) (zp : Nat) (zq : Nat) (pl : Nat → Int32) (sp : Nat → Int32) (be : Int32) (ti : Int32) (t : Nat) (q0 : t < 6) (hR : RetI g X cX2_stands 2 0 0 (fX2_stands sp t) (wMom g za zp zq pl sp be ti)) : Vw g X 2 0 0 (wMom g za zp zq pl sp be ti) 0 [(0, .ref za), (1, .int (nI t))] [] := by
  refine r_aload_n (pc := 0) C dX2_stands_0 0 rfl ?_
  refine r_get (pc := 1) C fl_X2_15 dX2_stands_1 0 rfl rfl ?_
  refine r_iload_n (pc := 4) C dX2_stands_4 1 rfl ?_
  refine r_iald (pc := 5) t C dX2_stands_5 2 rfl rfl (by omega) (by decide) ?_
  refine r_ifle (pc := 6) 13 C dX2_stands_6 (by decide) (fun c_1 => ?_) (fun c_1 => ?_)
  · refine r_iconst (pc := 13) 0 C dX2_stands_13 rfl ?_
    have hf : fX2_stands sp t = 0 := by first | (simp only [fX2_stands, if_pos c_1]; done) | (simp only [fX2_stands, if_pos c_1]; rfl) | rfl | (simp [fX2_stands, if_pos c_1]; done)
    rw [hf] at hR
    exact hR _ _ dX2_stands_14
  · refine r_iconst (pc := 9) 1 C dX2_stands_9 rfl ?_
    refine r_goto (pc := 10) 14 C dX2_stands_10 (by decide) ?_
    have hf : fX2_stands sp t = 1 := by first | (simp only [fX2_stands, if_neg c_1]; done) | (simp only [fX2_stands, if_neg c_1]; rfl) | rfl | (simp [fX2_stands, if_neg c_1]; done)
    rw [hf] at hR
    exact hR _ _ dX2_stands_14
theorem zX2_stands (sp : Nat → Int32) (t : Nat) : fX2_stands sp t = 0 ∨ fX2_stands sp t = 1 := by unfold fX2_stands; repeat (first | split | simp)
theorem ctX2_stands (l : Launch) (g : Gl) (za : Nat) (zp : Nat) (zq : Nat) (pl : Nat → Int32) (sp : Nat → Int32) (be : Int32) (ti : Int32) (t : Nat) (q0 : t < 6) : CtI l g yX2_stands cX2_stands 2 (some .boolean) 0 [.ref za, .int (nI t)] (wMom g za zp zq pl sp be ti) (fX2_stands sp t) (wMom g za zp zq pl sp be ti) := mkI .boolean rfl (nar_b (zX2_stands sp t)) [(0, .ref za), (1, .int (nI t))] (by decide) (Nat.le_of_ble_eq_true rfl) rfl (fun X C hR => bX2_stands C za zp zq pl sp be ti t q0 hR)

def fX2_spins (pl : Nat → Int32) (sp : Nat → Int32) (t : Nat) (v : Int32) : (Nat → Int32) × (Nat → Int32) := (if v ≤ 0 then (let sp_2 : Nat → Int32 := upd sp t 0; let pl_3 : Nat → Int32 := upd pl t (-9); (pl_3, sp_2)) else (let sp_4 : Nat → Int32 := upd sp t v; (pl, sp_4)))
set_option maxHeartbeats 4000000 in
set_option maxRecDepth 100000 in
theorem bX2_spins {l : Launch} {g : Gl} {X : Cx} (C : Ok l g X RX2 cX2_spins 3 0) (za : Nat) (zp : Nat) (zq : Nat) (pl : Nat → Int32) (sp : Nat → Int32) (be : Int32) (ti : Int32) (t : Nat) (v : Int32) (q0 : t < 6) (hR : RetV g X cX2_spins 3 0 0 (wMom g za zp zq ((fX2_spins pl sp t v).1) ((fX2_spins pl sp t v).2) be ti)) : Vw g X 3 0 0 (wMom g za zp zq pl sp be ti) 0 [(0, .ref za), (1, .int (nI t)), (2, .int v)] [] := by
  refine r_iload_n (pc := 0) C dX2_spins_0 2 rfl ?_
  refine r_ifle (pc := 1) 14 C dX2_spins_1 (by decide) (fun c_1 => ?_) (fun c_1 => ?_)
  · refine r_aload_n (pc := 14) C dX2_spins_14 0 rfl ?_
    refine r_get (pc := 15) C fl_X2_15 dX2_spins_15 0 rfl rfl ?_
    refine r_iload_n (pc := 18) C dX2_spins_18 1 rfl ?_
    refine r_iconst (pc := 19) 0 C dX2_spins_19 rfl ?_
    obtain ⟨sp_2, e_sp_2⟩ : ∃ z : Nat → Int32, z = upd sp t 0 := ⟨_, rfl⟩
    refine r_iast (pc := 20) t (wMom g za zp zq pl sp_2 be ti) C dX2_spins_20 2 rfl rfl (by omega) (by decide) (by rw [← e_sp_2]; rfl) ?_
    refine r_aload_n (pc := 21) C dX2_spins_21 0 rfl ?_
    refine r_get (pc := 22) C fl_X2_9 dX2_spins_22 0 rfl rfl ?_
    refine r_iload_n (pc := 25) C dX2_spins_25 1 rfl ?_
    refine r_bipush (pc := 26) (-9) C dX2_spins_26 rfl ?_
    obtain ⟨pl_3, e_pl_3⟩ : ∃ z : Nat → Int32, z = upd pl t (-9) := ⟨_, rfl⟩
    refine r_iast (pc := 28) t (wMom g za zp zq pl_3 sp_2 be ti) C dX2_spins_28 1 rfl rfl (by omega) (by decide) (by rw [← e_pl_3]; rfl) ?_
    have hf : fX2_spins pl sp t v = (pl_3, sp_2) := by subst e_sp_2 e_pl_3; first | (simp only [fX2_spins, if_pos c_1]; done) | (simp only [fX2_spins, if_pos c_1]; rfl) | rfl | (simp [fX2_spins, if_pos c_1]; done)
    rw [hf] at hR
    exact hR _ _ dX2_spins_29
  · refine r_aload_n (pc := 4) C dX2_spins_4 0 rfl ?_
    refine r_get (pc := 5) C fl_X2_15 dX2_spins_5 0 rfl rfl ?_
    refine r_iload_n (pc := 8) C dX2_spins_8 1 rfl ?_
    refine r_iload_n (pc := 9) C dX2_spins_9 2 rfl ?_
    obtain ⟨sp_4, e_sp_4⟩ : ∃ z : Nat → Int32, z = upd sp t v := ⟨_, rfl⟩
    refine r_iast (pc := 10) t (wMom g za zp zq pl sp_4 be ti) C dX2_spins_10 2 rfl rfl (by omega) (by decide) (by rw [← e_sp_4]; rfl) ?_
    refine r_goto (pc := 11) 29 C dX2_spins_11 (by decide) ?_
    have hf : fX2_spins pl sp t v = (pl, sp_4) := by subst e_sp_4; first | (simp only [fX2_spins, if_neg c_1]; done) | (simp only [fX2_spins, if_neg c_1]; rfl) | rfl | (simp [fX2_spins, if_neg c_1]; done)
    rw [hf] at hR
    exact hR _ _ dX2_spins_29
theorem ctX2_spins (l : Launch) (g : Gl) (za : Nat) (zp : Nat) (zq : Nat) (pl : Nat → Int32) (sp : Nat → Int32) (be : Int32) (ti : Int32) (t : Nat) (v : Int32) (q0 : t < 6) : CtV l g yX2_spins cX2_spins 3 0 [.ref za, .int (nI t), .int v] (wMom g za zp zq pl sp be ti) (wMom g za zp zq ((fX2_spins pl sp t v).1) ((fX2_spins pl sp t v).2) be ti) := mkV [(0, .ref za), (1, .int (nI t)), (2, .int v)] (by decide) (Nat.le_of_ble_eq_true rfl) rfl (fun X C hR => bX2_spins C za zp zq pl sp be ti t v q0 hR)

def lX2_reset_12  : Nat → (Nat) → (Nat → Int32) → (Nat → Int32) → (Nat → Int32) × (Nat → Int32)
  | 0, x1_1, pl0_1, sp0_1 => ((pl0_1, sp0_1))
  | n + 1, x1_1, pl0_1, sp0_1 => (let pl_4 : Nat → Int32 := (fX2_spins pl0_1 sp0_1 x1_1 0).1; let sp_5 : Nat → Int32 := (fX2_spins pl0_1 sp0_1 x1_1 0).2; lX2_reset_12 n (x1_1 + 1) pl_4 sp_5)
def fX2_reset (pl : Nat → Int32) (sp : Nat → Int32) : (Nat → Int32) × (Nat → Int32) × (Int32) × (Int32) := (let o1 := lX2_reset_12 6 0 pl sp; let pl0_6 : Nat → Int32 := o1.1; let sp0_7 : Nat → Int32 := o1.2; (pl0_6, sp0_7, 0, 0))
set_option maxHeartbeats 4000000 in
set_option maxRecDepth 100000 in
theorem bX2_reset {l : Launch} {g : Gl} {X : Cx} (C : Ok l g X RX2 cX2_reset 2 1) (za : Nat) (zp : Nat) (zq : Nat) (pl : Nat → Int32) (sp : Nat → Int32) (be : Int32) (ti : Int32) (hR : RetV g X cX2_reset 2 0 0 (wMom g za zp zq ((fX2_reset pl sp).1) ((fX2_reset pl sp).2.1) ((fX2_reset pl sp).2.2.1) ((fX2_reset pl sp).2.2.2))) : Vw g X 2 0 0 (wMom g za zp zq pl sp be ti) 0 [(0, .ref za)] [] := by
  refine r_aload_n (pc := 0) C dX2_reset_0 0 rfl ?_
  refine r_iconst (pc := 1) 0 C dX2_reset_1 rfl ?_
  refine r_put (pc := 2) (wMom g za zp zq pl sp 0 ti) C fp_X2_18 dX2_reset_2 0 rfl (Nat.le_of_ble_eq_true rfl) rfl rfl rfl ?_
  refine r_aload_n (pc := 5) C dX2_reset_5 0 rfl ?_
  refine r_iconst (pc := 6) 0 C dX2_reset_6 rfl ?_
  refine r_put (pc := 7) (wMom g za zp zq pl sp 0 0) C fp_X2_22 dX2_reset_7 0 rfl (Nat.le_of_ble_eq_true rfl) rfl rfl rfl ?_
  refine r_iconst (pc := 10) 0 C dX2_reset_10 rfl ?_
  refine r_istore_n (pc := 11) [(1, .int 0), (0, .ref za)] C dX2_reset_11 (by decide) rfl ?_
  have hX1 : ∀ (pl0_6 : Nat → Int32) (sp0_7 : Nat → Int32) , pl0_6 = (lX2_reset_12 6 0 pl sp).1 → sp0_7 = (lX2_reset_12 6 0 pl sp).2 → Vw g X 2 0 0 (wMom g za zp zq pl0_6 sp0_7 0 0) 30 [] [] := by
    intro pl0_6 sp0_7 e_pl0_6 e_sp0_7 
    have hf : fX2_reset pl sp = (pl0_6, sp0_7, 0, 0) := by subst e_pl0_6 e_sp0_7; first | rfl | (simp only [fX2_reset]; done) | (simp [fX2_reset]; done)
    rw [hf] at hR
    exact hR _ _ dX2_reset_30
  have hL1 : ∀ (n : Nat) (x1_1 : Nat) (pl0_1 : Nat → Int32) (sp0_1 : Nat → Int32) , x1_1 + n = 6 → lX2_reset_12 n x1_1 pl0_1 sp0_1 = lX2_reset_12 6 0 pl sp → Vw g X 2 0 0 (wMom g za zp zq pl0_1 sp0_1 0 0) 12 [(0, .ref za), (1, .int (nI x1_1))] [] := by
    intro n
    induction n with
    | zero =>
      intro x1_1 pl0_1 sp0_1 hr1 hV1
      refine r_iload_n (pc := 12) C dX2_reset_12 1 rfl ?_
      refine r_bipush (pc := 13) 6 C dX2_reset_13 rfl ?_
      refine r_icmpgeN (pc := 15) x1_1 6 30 C dX2_reset_15 (by decide) rfl rfl (by omega) (by omega) (fun _ => ?_) (fun c_2 => absurd (by omega) c_2)
      refine u_lv [] [] rfl ?_
      exact hX1 _ _ (by rw [← hV1]; first | rfl | (simp only [lX2_reset_12]; done) | (simp [lX2_reset_12]; done)) (by rw [← hV1]; first | rfl | (simp only [lX2_reset_12]; done) | (simp [lX2_reset_12]; done))
    | succ n ih =>
      intro x1_1 pl0_1 sp0_1 hr1 hV1
      refine r_iload_n (pc := 12) C dX2_reset_12 1 rfl ?_
      refine r_bipush (pc := 13) 6 C dX2_reset_13 rfl ?_
      refine r_icmpgeN (pc := 15) x1_1 6 30 C dX2_reset_15 (by decide) rfl rfl (by omega) (by omega) (fun c_3 => absurd c_3 (by omega)) (fun _ => ?_)
      refine r_aload_n (pc := 18) C dX2_reset_18 0 rfl ?_
      refine r_iload_n (pc := 19) C dX2_reset_19 1 rfl ?_
      refine r_iconst (pc := 20) 0 C dX2_reset_20 rfl ?_
      obtain ⟨pl_4, e_pl_4⟩ : ∃ z : Nat → Int32, z = (fX2_spins pl0_1 sp0_1 x1_1 0).1 := ⟨_, rfl⟩
      obtain ⟨sp_5, e_sp_5⟩ : ∃ z : Nat → Int32, z = (fX2_spins pl0_1 sp0_1 x1_1 0).2 := ⟨_, rfl⟩
      refine v_cV (pc := 21) (wMom g za zp zq pl_4 sp_5 0 0) C mv_X2_28 (ctX2_spins l g za zp zq pl0_1 sp0_1 0 0 x1_1 0 (by omega)) dX2_reset_21 (by decide) [0, 1, 2] rfl (by decide) rfl (by rw [← e_pl_4, ← e_sp_5]; rfl) 0 rfl rfl (Nat.le_of_ble_eq_true rfl) ⟨Nat.zero_le _, Nat.zero_le _⟩ ?_
      refine r_iinc (pc := 24) (nI (x1_1 + 1)) [(1, .int (nI (x1_1 + 1))), (0, .ref za)] C dX2_reset_24 1 rfl (inc1 _) (by decide) rfl ?_
      refine r_goto (pc := 27) 12 C dX2_reset_27 (by decide) ?_
      refine u_lv [(0, .ref za), (1, .int (nI (x1_1 + 1)))] [1, 0] rfl ?_
      exact ih (x1_1 + 1) pl_4 sp_5 (by omega) (by rw [← hV1]; subst e_pl_4 e_sp_5; first | rfl | (simp only [lX2_reset_12]; done) | (simp [lX2_reset_12]; done))
  refine u_lv [(0, .ref za), (1, .int 0)] [1, 0] rfl ?_
  exact hL1 6 0 pl sp (by omega) rfl
theorem ctX2_reset (l : Launch) (g : Gl) (za : Nat) (zp : Nat) (zq : Nat) (pl : Nat → Int32) (sp : Nat → Int32) (be : Int32) (ti : Int32) : CtV l g yX2_reset cX2_reset 2 1 [.ref za] (wMom g za zp zq pl sp be ti) (wMom g za zp zq ((fX2_reset pl sp).1) ((fX2_reset pl sp).2.1) ((fX2_reset pl sp).2.2.1) ((fX2_reset pl sp).2.2.2)) := mkV [(0, .ref za)] (by decide) (Nat.le_of_ble_eq_true rfl) rfl (fun X C hR => bX2_reset C za zp zq pl sp be ti hR)

def fX2_copy (pl : Nat → Int32) (sp : Nat → Int32) (pl2 : Nat → Int32) (sp2 : Nat → Int32) (be2 : Int32) (ti2 : Int32) : (Nat → Int32) × (Nat → Int32) × (Int32) × (Int32) := (let pl_1 : Nat → Int32 := va_cpy pl2 pl 0 0 6; let sp_2 : Nat → Int32 := va_cpy sp2 sp 0 0 6; (pl_1, sp_2, be2, ti2))
set_option maxHeartbeats 4000000 in
set_option maxRecDepth 100000 in
theorem bX2_copy {l : Launch} {g : Gl} {X : Cx} (C : Ok l g X RX2 cX2_copy 2 1) (za : Nat) (zp : Nat) (zq : Nat) (za2 : Nat) (zp2 : Nat) (zq2 : Nat) (pl : Nat → Int32) (sp : Nat → Int32) (be : Int32) (ti : Int32) (pl2 : Nat → Int32) (sp2 : Nat → Int32) (be2 : Int32) (ti2 : Int32) (hR : RetV g X cX2_copy 2 0 0 (wMom g za zp zq ((fX2_copy pl sp pl2 sp2 be2 ti2).1) ((fX2_copy pl sp pl2 sp2 be2 ti2).2.1) ((fX2_copy pl sp pl2 sp2 be2 ti2).2.2.1) ((fX2_copy pl sp pl2 sp2 be2 ti2).2.2.2) ++ wMom g za2 zp2 zq2 pl2 sp2 be2 ti2)) : Vw g X 2 0 0 (wMom g za zp zq pl sp be ti ++ wMom g za2 zp2 zq2 pl2 sp2 be2 ti2) 0 [(0, .ref za), (1, .ref za2)] [] := by
  refine r_aload_n (pc := 0) C dX2_copy_0 0 rfl ?_
  refine r_aload_n (pc := 1) C dX2_copy_1 1 rfl ?_
  refine r_get (pc := 2) C fl_X2_18 dX2_copy_2 3 rfl rfl ?_
  refine r_put (pc := 5) (wMom g za zp zq pl sp be2 ti ++ wMom g za2 zp2 zq2 pl2 sp2 be2 ti2) C fp_X2_18 dX2_copy_5 0 rfl (Nat.le_of_ble_eq_true rfl) rfl rfl rfl ?_
  refine r_aload_n (pc := 8) C dX2_copy_8 0 rfl ?_
  refine r_aload_n (pc := 9) C dX2_copy_9 1 rfl ?_
  refine r_get (pc := 10) C fl_X2_22 dX2_copy_10 3 rfl rfl ?_
  refine r_put (pc := 13) (wMom g za zp zq pl sp be2 ti2 ++ wMom g za2 zp2 zq2 pl2 sp2 be2 ti2) C fp_X2_22 dX2_copy_13 0 rfl (Nat.le_of_ble_eq_true rfl) rfl rfl rfl ?_
  refine r_aload_n (pc := 16) C dX2_copy_16 1 rfl ?_
  refine r_get (pc := 17) C fl_X2_9 dX2_copy_17 3 rfl rfl ?_
  refine r_iconst (pc := 20) 0 C dX2_copy_20 rfl ?_
  refine r_aload_n (pc := 21) C dX2_copy_21 0 rfl ?_
  refine r_get (pc := 22) C fl_X2_9 dX2_copy_22 0 rfl rfl ?_
  refine r_iconst (pc := 25) 0 C dX2_copy_25 rfl ?_
  refine r_bipush (pc := 26) 6 C dX2_copy_26 rfl ?_
  obtain ⟨pl_1, e_pl_1⟩ : ∃ z : Nat → Int32, z = va_cpy pl2 pl 0 0 6 := ⟨_, rfl⟩
  refine r_copyi (pc := 28) 6 (wMom g za zp zq pl_1 sp be2 ti2 ++ wMom g za2 zp2 zq2 pl2 sp2 be2 ti2) C dX2_copy_28 ac_X2_32 sna sst siz (by decide) 4 1 rfl rfl rfl rfl rfl (by decide) (by decide) (by decide) (Nat.le_of_ble_eq_true rfl) (by rw [← e_pl_1]; rfl) ?_
  refine r_aload_n (pc := 31) C dX2_copy_31 1 rfl ?_
  refine r_get (pc := 32) C fl_X2_15 dX2_copy_32 3 rfl rfl ?_
  refine r_iconst (pc := 35) 0 C dX2_copy_35 rfl ?_
  refine r_aload_n (pc := 36) C dX2_copy_36 0 rfl ?_
  refine r_get (pc := 37) C fl_X2_15 dX2_copy_37 0 rfl rfl ?_
  refine r_iconst (pc := 40) 0 C dX2_copy_40 rfl ?_
  refine r_bipush (pc := 41) 6 C dX2_copy_41 rfl ?_
  obtain ⟨sp_2, e_sp_2⟩ : ∃ z : Nat → Int32, z = va_cpy sp2 sp 0 0 6 := ⟨_, rfl⟩
  refine r_copyi (pc := 43) 6 (wMom g za zp zq pl_1 sp_2 be2 ti2 ++ wMom g za2 zp2 zq2 pl2 sp2 be2 ti2) C dX2_copy_43 ac_X2_32 sna sst siz (by decide) 5 2 rfl rfl rfl rfl rfl (by decide) (by decide) (by decide) (Nat.le_of_ble_eq_true rfl) (by rw [← e_sp_2]; rfl) ?_
  have hf : fX2_copy pl sp pl2 sp2 be2 ti2 = (pl_1, sp_2, be2, ti2) := by subst e_pl_1 e_sp_2; first | rfl | (simp only [fX2_copy]; done) | (simp [fX2_copy]; done)
  rw [hf] at hR
  exact hR _ _ dX2_copy_46
theorem ctX2_copy (l : Launch) (g : Gl) (za : Nat) (zp : Nat) (zq : Nat) (za2 : Nat) (zp2 : Nat) (zq2 : Nat) (pl : Nat → Int32) (sp : Nat → Int32) (be : Int32) (ti : Int32) (pl2 : Nat → Int32) (sp2 : Nat → Int32) (be2 : Int32) (ti2 : Int32) : CtV l g yX2_copy cX2_copy 2 1 [.ref za, .ref za2] (wMom g za zp zq pl sp be ti ++ wMom g za2 zp2 zq2 pl2 sp2 be2 ti2) (wMom g za zp zq ((fX2_copy pl sp pl2 sp2 be2 ti2).1) ((fX2_copy pl sp pl2 sp2 be2 ti2).2.1) ((fX2_copy pl sp pl2 sp2 be2 ti2).2.2.1) ((fX2_copy pl sp pl2 sp2 be2 ti2).2.2.2) ++ wMom g za2 zp2 zq2 pl2 sp2 be2 ti2) := mkV [(0, .ref za), (1, .ref za2)] (by decide) (Nat.le_of_ble_eq_true rfl) rfl (fun X C hR => bX2_copy C za zp zq za2 zp2 zq2 pl sp be ti pl2 sp2 be2 ti2 hR)

def lX2_who_2 (sp : Nat → Int32) (pl : Nat → Int32) (w : Int32) : Nat → (Nat) → (Int32)
  | 0, x2_1 => ((-9))
  | n + 1, x2_1 => (let r_4 : Int32 := fX2_stands sp x2_1; if r_4 = 0 then (lX2_who_2 sp pl w n (x2_1 + 1)) else (if (pl x2_1) = w then ((nI x2_1)) else (lX2_who_2 sp pl w n (x2_1 + 1))))
def fX2_who (pl : Nat → Int32) (sp : Nat → Int32) (w : Int32) : (Int32) := (lX2_who_2 sp pl w 6 0)
set_option maxHeartbeats 4000000 in
set_option maxRecDepth 100000 in
theorem bX2_who {l : Launch} {g : Gl} {X : Cx} (C : Ok l g X RX2 cX2_who 3 1) (za : Nat) (zp : Nat) (zq : Nat) (pl : Nat → Int32) (sp : Nat → Int32) (be : Int32) (ti : Int32) (w : Int32) (hR : RetI g X cX2_who 3 0 0 (fX2_who pl sp w) (wMom g za zp zq pl sp be ti)) : Vw g X 3 0 0 (wMom g za zp zq pl sp be ti) 0 [(0, .ref za), (1, .int w)] [] := by
  refine r_iconst (pc := 0) 0 C dX2_who_0 rfl ?_
  refine r_istore_n (pc := 1) [(2, .int 0), (0, .ref za), (1, .int w)] C dX2_who_1 (by decide) rfl ?_
  have hF1 : fX2_who pl sp w = lX2_who_2 sp pl w 6 0 := by first | rfl | (simp only [fX2_who]; done) | (simp [fX2_who]; done)
  have hL1 : ∀ (n : Nat) (x2_1 : Nat) , x2_1 + n = 6 → lX2_who_2 sp pl w n x2_1 = lX2_who_2 sp pl w 6 0 → Vw g X 3 0 0 (wMom g za zp zq pl sp be ti) 2 [(0, .ref za), (1, .int w), (2, .int (nI x2_1))] [] := by
    intro n
    induction n with
    | zero =>
      intro x2_1 hr1 hV1
      refine r_iload_n (pc := 2) C dX2_who_2 2 rfl ?_
      refine r_bipush (pc := 3) 6 C dX2_who_3 rfl ?_
      refine r_icmpgeN (pc := 5) x2_1 6 34 C dX2_who_5 (by decide) rfl rfl (by omega) (by omega) (fun _ => ?_) (fun c_2 => absurd (by omega) c_2)
      refine r_bipush (pc := 34) (-9) C dX2_who_34 rfl ?_
      have hf : fX2_who pl sp w = (-9) := hF1.trans (hV1.symm.trans (by first | rfl | (simp only [lX2_who_2]; done) | (simp [lX2_who_2]; done)))
      rw [hf] at hR
      exact hR _ _ dX2_who_36
    | succ n ih =>
      intro x2_1 hr1 hV1
      refine r_iload_n (pc := 2) C dX2_who_2 2 rfl ?_
      refine r_bipush (pc := 3) 6 C dX2_who_3 rfl ?_
      refine r_icmpgeN (pc := 5) x2_1 6 34 C dX2_who_5 (by decide) rfl rfl (by omega) (by omega) (fun c_3 => absurd c_3 (by omega)) (fun _ => ?_)
      refine r_aload_n (pc := 8) C dX2_who_8 0 rfl ?_
      refine r_iload_n (pc := 9) C dX2_who_9 2 rfl ?_
      refine v_pI (pc := 10) C mv_X2_38 (ctX2_stands l g za zp zq pl sp be ti x2_1 (by omega)) dX2_who_10 (by decide) [0, 1, 2] rfl (by decide) 0 rfl rfl (Nat.le_of_ble_eq_true rfl) ⟨Nat.zero_le _, Nat.zero_le _⟩ ?_
      refine u_int (fun r_4 e_r_4 => ?_)
      refine r_ifeq (pc := 13) 28 C dX2_who_13 (by decide) (fun c_5 => ?_) (fun c_5 => ?_)
      · refine r_iinc (pc := 28) (nI (x2_1 + 1)) [(2, .int (nI (x2_1 + 1))), (0, .ref za), (1, .int w)] C dX2_who_28 2 rfl (inc1 _) (by decide) rfl ?_
        refine r_goto (pc := 31) 2 C dX2_who_31 (by decide) ?_
        refine u_lv [(0, .ref za), (1, .int w), (2, .int (nI (x2_1 + 1)))] [1, 2, 0] rfl ?_
        exact ih (x2_1 + 1) (by omega) (by rw [← hV1]; subst e_r_4; first | (simp only [lX2_who_2, if_pos c_5]; done) | (simp only [lX2_who_2, if_pos c_5]; rfl) | rfl | (simp [lX2_who_2, if_pos c_5]; done))
      · refine r_aload_n (pc := 16) C dX2_who_16 0 rfl ?_
        refine r_get (pc := 17) C fl_X2_9 dX2_who_17 0 rfl rfl ?_
        refine r_iload_n (pc := 20) C dX2_who_20 2 rfl ?_
        refine r_iald (pc := 21) x2_1 C dX2_who_21 1 rfl rfl (by omega) (by decide) ?_
        refine r_iload_n (pc := 22) C dX2_who_22 1 rfl ?_
        refine r_icmpne (pc := 23) 28 C dX2_who_23 (by decide) (fun c_6 => ?_) (fun c_6 => ?_)
        · refine r_iinc (pc := 28) (nI (x2_1 + 1)) [(2, .int (nI (x2_1 + 1))), (0, .ref za), (1, .int w)] C dX2_who_28 2 rfl (inc1 _) (by decide) rfl ?_
          refine r_goto (pc := 31) 2 C dX2_who_31 (by decide) ?_
          refine u_lv [(0, .ref za), (1, .int w), (2, .int (nI (x2_1 + 1)))] [1, 2, 0] rfl ?_
          exact ih (x2_1 + 1) (by omega) (by rw [← hV1]; subst e_r_4; first | (simp only [lX2_who_2, if_neg c_5, if_neg c_6]; done) | (simp only [lX2_who_2, if_neg c_5, if_neg c_6]; rfl) | rfl | (simp [lX2_who_2, if_neg c_5, if_neg c_6]; done))
        · refine r_iload_n (pc := 26) C dX2_who_26 2 rfl ?_
          have hf : fX2_who pl sp w = (nI x2_1) := hF1.trans (hV1.symm.trans (by subst e_r_4; first | (simp only [lX2_who_2, if_neg c_5, if_pos c_6]; done) | (simp only [lX2_who_2, if_neg c_5, if_pos c_6]; rfl) | rfl | (simp [lX2_who_2, if_neg c_5, if_pos c_6]; done)))
          rw [hf] at hR
          exact hR _ _ dX2_who_27
  refine u_lv [(0, .ref za), (1, .int w), (2, .int 0)] [1, 2, 0] rfl ?_
  exact hL1 6 0 (by omega) rfl
theorem ctX2_who (l : Launch) (g : Gl) (za : Nat) (zp : Nat) (zq : Nat) (pl : Nat → Int32) (sp : Nat → Int32) (be : Int32) (ti : Int32) (w : Int32) : CtI l g yX2_who cX2_who 3 (some .int) 1 [.ref za, .int w] (wMom g za zp zq pl sp be ti) (fX2_who pl sp w) (wMom g za zp zq pl sp be ti) := mkI .int rfl rfl [(0, .ref za), (1, .int w)] (by decide) (Nat.le_of_ble_eq_true rfl) rfl (fun X C hR => bX2_who C za zp zq pl sp be ti w hR)

def lX2_standing_4 (sp : Nat → Int32) : Nat → (Int32) → (Nat) → (Int32)
  | 0, x1_1, x2_1 => (x1_1)
  | n + 1, x1_1, x2_1 => (let r_4 : Int32 := fX2_stands sp x2_1; if r_4 = 0 then (lX2_standing_4 sp n x1_1 (x2_1 + 1)) else (let y_6 : Int32 := x1_1 ||| (1 <<< ((nI x2_1) &&& 31)); lX2_standing_4 sp n y_6 (x2_1 + 1)))
def fX2_standing (sp : Nat → Int32) : (Int32) := (let x1_7 : Int32 := lX2_standing_4 sp 6 0 0; x1_7)
set_option maxHeartbeats 4000000 in
set_option maxRecDepth 100000 in
theorem bX2_standing {l : Launch} {g : Gl} {X : Cx} (C : Ok l g X RX2 cX2_standing 3 1) (za : Nat) (zp : Nat) (zq : Nat) (pl : Nat → Int32) (sp : Nat → Int32) (be : Int32) (ti : Int32) (hR : RetI g X cX2_standing 3 0 0 (fX2_standing sp) (wMom g za zp zq pl sp be ti)) : Vw g X 3 0 0 (wMom g za zp zq pl sp be ti) 0 [(0, .ref za)] [] := by
  refine r_iconst (pc := 0) 0 C dX2_standing_0 rfl ?_
  refine r_istore_n (pc := 1) [(1, .int 0), (0, .ref za)] C dX2_standing_1 (by decide) rfl ?_
  refine r_iconst (pc := 2) 0 C dX2_standing_2 rfl ?_
  refine r_istore_n (pc := 3) [(2, .int 0), (1, .int 0), (0, .ref za)] C dX2_standing_3 (by decide) rfl ?_
  have hX1 : ∀ (x1_7 : Int32) , x1_7 = lX2_standing_4 sp 6 0 0 → Vw g X 3 0 0 (wMom g za zp zq pl sp be ti) 30 [(1, .int x1_7)] [] := by
    intro x1_7 e_x1_7 
    refine r_iload_n (pc := 30) C dX2_standing_30 0 rfl ?_
    have hf : fX2_standing sp = x1_7 := by subst e_x1_7; first | rfl | (simp only [fX2_standing]; done) | (simp [fX2_standing]; done)
    rw [hf] at hR
    exact hR _ _ dX2_standing_31
  have hL1 : ∀ (n : Nat) (x1_1 : Int32) (x2_1 : Nat) , x2_1 + n = 6 → lX2_standing_4 sp n x1_1 x2_1 = lX2_standing_4 sp 6 0 0 → Vw g X 3 0 0 (wMom g za zp zq pl sp be ti) 4 [(0, .ref za), (1, .int x1_1), (2, .int (nI x2_1))] [] := by
    intro n
    induction n with
    | zero =>
      intro x1_1 x2_1 hr1 hV1
      refine r_iload_n (pc := 4) C dX2_standing_4 2 rfl ?_
      refine r_bipush (pc := 5) 6 C dX2_standing_5 rfl ?_
      refine r_icmpgeN (pc := 7) x2_1 6 30 C dX2_standing_7 (by decide) rfl rfl (by omega) (by omega) (fun _ => ?_) (fun c_2 => absurd (by omega) c_2)
      refine u_lv [(1, .int x1_1)] [1] rfl ?_
      exact hX1 _ (by rw [← hV1]; first | rfl | (simp only [lX2_standing_4]; done) | (simp [lX2_standing_4]; done))
    | succ n ih =>
      intro x1_1 x2_1 hr1 hV1
      refine r_iload_n (pc := 4) C dX2_standing_4 2 rfl ?_
      refine r_bipush (pc := 5) 6 C dX2_standing_5 rfl ?_
      refine r_icmpgeN (pc := 7) x2_1 6 30 C dX2_standing_7 (by decide) rfl rfl (by omega) (by omega) (fun c_3 => absurd c_3 (by omega)) (fun _ => ?_)
      refine r_aload_n (pc := 10) C dX2_standing_10 0 rfl ?_
      refine r_iload_n (pc := 11) C dX2_standing_11 2 rfl ?_
      refine v_pI (pc := 12) C mv_X2_38 (ctX2_stands l g za zp zq pl sp be ti x2_1 (by omega)) dX2_standing_12 (by decide) [0, 1, 2] rfl (by decide) 0 rfl rfl (Nat.le_of_ble_eq_true rfl) ⟨Nat.zero_le _, Nat.zero_le _⟩ ?_
      refine u_int (fun r_4 e_r_4 => ?_)
      refine r_ifeq (pc := 15) 24 C dX2_standing_15 (by decide) (fun c_5 => ?_) (fun c_5 => ?_)
      · refine r_iinc (pc := 24) (nI (x2_1 + 1)) [(2, .int (nI (x2_1 + 1))), (0, .ref za), (1, .int x1_1)] C dX2_standing_24 2 rfl (inc1 _) (by decide) rfl ?_
        refine r_goto (pc := 27) 4 C dX2_standing_27 (by decide) ?_
        refine u_lv [(0, .ref za), (1, .int x1_1), (2, .int (nI (x2_1 + 1)))] [1, 2, 0] rfl ?_
        exact ih x1_1 (x2_1 + 1) (by omega) (by rw [← hV1]; subst e_r_4; first | (simp only [lX2_standing_4, if_pos c_5]; done) | (simp only [lX2_standing_4, if_pos c_5]; rfl) | rfl | (simp [lX2_standing_4, if_pos c_5]; done))
      · refine r_iload_n (pc := 18) C dX2_standing_18 1 rfl ?_
        refine r_iconst (pc := 19) 1 C dX2_standing_19 rfl ?_
        refine r_iload_n (pc := 20) C dX2_standing_20 2 rfl ?_
        refine r_ishl (pc := 21) C dX2_standing_21 ?_
        refine r_ior (pc := 22) C dX2_standing_22 ?_
        refine u_int (fun y_6 e_y_6 => ?_)
        refine r_istore_n (pc := 23) [(1, .int y_6), (0, .ref za), (2, .int (nI x2_1))] C dX2_standing_23 (by decide) rfl ?_
        refine r_iinc (pc := 24) (nI (x2_1 + 1)) [(2, .int (nI (x2_1 + 1))), (1, .int y_6), (0, .ref za)] C dX2_standing_24 2 rfl (inc1 _) (by decide) rfl ?_
        refine r_goto (pc := 27) 4 C dX2_standing_27 (by decide) ?_
        refine u_lv [(0, .ref za), (1, .int y_6), (2, .int (nI (x2_1 + 1)))] [2, 1, 0] rfl ?_
        exact ih y_6 (x2_1 + 1) (by omega) (by rw [← hV1]; subst e_r_4 e_y_6; first | (simp only [lX2_standing_4, if_neg c_5]; done) | (simp only [lX2_standing_4, if_neg c_5]; rfl) | rfl | (simp [lX2_standing_4, if_neg c_5]; done))
  refine u_lv [(0, .ref za), (1, .int 0), (2, .int 0)] [2, 1, 0] rfl ?_
  exact hL1 6 0 0 (by omega) rfl
theorem ctX2_standing (l : Launch) (g : Gl) (za : Nat) (zp : Nat) (zq : Nat) (pl : Nat → Int32) (sp : Nat → Int32) (be : Int32) (ti : Int32) : CtI l g yX2_standing cX2_standing 3 (some .int) 1 [.ref za] (wMom g za zp zq pl sp be ti) (fX2_standing sp) (wMom g za zp zq pl sp be ti) := mkI .int rfl rfl [(0, .ref za)] (by decide) (Nat.le_of_ble_eq_true rfl) rfl (fun X C hR => bX2_standing C za zp zq pl sp be ti hR)

def fX2_howMany (sp : Nat → Int32) : (Int32) := (let r_1 : Int32 := fX2_standing sp; let r_2 : Int32 := fJ6_bitCount_0f7a4 r_1; r_2)
set_option maxHeartbeats 4000000 in
set_option maxRecDepth 100000 in
theorem bX2_howMany {l : Launch} {g : Gl} {X : Cx} (C : Ok l g X RX2 cX2_howMany 1 2) (za : Nat) (zp : Nat) (zq : Nat) (pl : Nat → Int32) (sp : Nat → Int32) (be : Int32) (ti : Int32) (hR : RetI g X cX2_howMany 1 0 0 (fX2_howMany sp) (wMom g za zp zq pl sp be ti)) : Vw g X 1 0 0 (wMom g za zp zq pl sp be ti) 0 [(0, .ref za)] [] := by
  refine r_aload_n (pc := 0) C dX2_howMany_0 0 rfl ?_
  refine v_pI (pc := 1) C mv_X2_42 (ctX2_standing l g za zp zq pl sp be ti  ) dX2_howMany_1 (by decide) [0, 1, 2] rfl (by decide) 0 rfl rfl (Nat.le_of_ble_eq_true rfl) ⟨Nat.zero_le _, Nat.zero_le _⟩ ?_
  refine u_int (fun r_1 e_r_1 => ?_)
  refine s_pI (pc := 4) C ms_X2_46 (ctJ6_bitCount_0f7a4 l g   r_1 ) dX2_howMany_4 (by decide) [] rfl (by decide) rfl (Nat.le_of_ble_eq_true rfl) ⟨Nat.zero_le _, Nat.zero_le _⟩ ?_
  refine u_int (fun r_2 e_r_2 => ?_)
  have hf : fX2_howMany sp = r_2 := by subst e_r_1 e_r_2; first | rfl | (simp only [fX2_howMany]; done) | (simp [fX2_howMany]; done)
  rw [hf] at hR
  exact hR _ _ dX2_howMany_7
theorem ctX2_howMany (l : Launch) (g : Gl) (za : Nat) (zp : Nat) (zq : Nat) (pl : Nat → Int32) (sp : Nat → Int32) (be : Int32) (ti : Int32) : CtI l g yX2_howMany cX2_howMany 1 (some .int) 2 [.ref za] (wMom g za zp zq pl sp be ti) (fX2_howMany sp) (wMom g za zp zq pl sp be ti) := mkI .int rfl rfl [(0, .ref za)] (by decide) (Nat.le_of_ble_eq_true rfl) rfl (fun X C hR => bX2_howMany C za zp zq pl sp be ti hR)

def lX2_lowest_2 (sp : Nat → Int32) : Nat → (Nat) → (Int32)
  | 0, x1_1 => ((-9))
  | n + 1, x1_1 => (let r_4 : Int32 := fX2_stands sp x1_1; if r_4 = 0 then (lX2_lowest_2 sp n (x1_1 + 1)) else ((nI x1_1)))
def fX2_lowest (sp : Nat → Int32) : (Int32) := (lX2_lowest_2 sp 6 0)
set_option maxHeartbeats 4000000 in
set_option maxRecDepth 100000 in
theorem bX2_lowest {l : Launch} {g : Gl} {X : Cx} (C : Ok l g X RX2 cX2_lowest 2 1) (za : Nat) (zp : Nat) (zq : Nat) (pl : Nat → Int32) (sp : Nat → Int32) (be : Int32) (ti : Int32) (hR : RetI g X cX2_lowest 2 0 0 (fX2_lowest sp) (wMom g za zp zq pl sp be ti)) : Vw g X 2 0 0 (wMom g za zp zq pl sp be ti) 0 [(0, .ref za)] [] := by
  refine r_iconst (pc := 0) 0 C dX2_lowest_0 rfl ?_
  refine r_istore_n (pc := 1) [(1, .int 0), (0, .ref za)] C dX2_lowest_1 (by decide) rfl ?_
  have hF1 : fX2_lowest sp = lX2_lowest_2 sp 6 0 := by first | rfl | (simp only [fX2_lowest]; done) | (simp [fX2_lowest]; done)
  have hL1 : ∀ (n : Nat) (x1_1 : Nat) , x1_1 + n = 6 → lX2_lowest_2 sp n x1_1 = lX2_lowest_2 sp 6 0 → Vw g X 2 0 0 (wMom g za zp zq pl sp be ti) 2 [(0, .ref za), (1, .int (nI x1_1))] [] := by
    intro n
    induction n with
    | zero =>
      intro x1_1 hr1 hV1
      refine r_iload_n (pc := 2) C dX2_lowest_2 1 rfl ?_
      refine r_bipush (pc := 3) 6 C dX2_lowest_3 rfl ?_
      refine r_icmpgeN (pc := 5) x1_1 6 24 C dX2_lowest_5 (by decide) rfl rfl (by omega) (by omega) (fun _ => ?_) (fun c_2 => absurd (by omega) c_2)
      refine r_bipush (pc := 24) (-9) C dX2_lowest_24 rfl ?_
      have hf : fX2_lowest sp = (-9) := hF1.trans (hV1.symm.trans (by first | rfl | (simp only [lX2_lowest_2]; done) | (simp [lX2_lowest_2]; done)))
      rw [hf] at hR
      exact hR _ _ dX2_lowest_26
    | succ n ih =>
      intro x1_1 hr1 hV1
      refine r_iload_n (pc := 2) C dX2_lowest_2 1 rfl ?_
      refine r_bipush (pc := 3) 6 C dX2_lowest_3 rfl ?_
      refine r_icmpgeN (pc := 5) x1_1 6 24 C dX2_lowest_5 (by decide) rfl rfl (by omega) (by omega) (fun c_3 => absurd c_3 (by omega)) (fun _ => ?_)
      refine r_aload_n (pc := 8) C dX2_lowest_8 0 rfl ?_
      refine r_iload_n (pc := 9) C dX2_lowest_9 1 rfl ?_
      refine v_pI (pc := 10) C mv_X2_38 (ctX2_stands l g za zp zq pl sp be ti x1_1 (by omega)) dX2_lowest_10 (by decide) [0, 1, 2] rfl (by decide) 0 rfl rfl (Nat.le_of_ble_eq_true rfl) ⟨Nat.zero_le _, Nat.zero_le _⟩ ?_
      refine u_int (fun r_4 e_r_4 => ?_)
      refine r_ifeq (pc := 13) 18 C dX2_lowest_13 (by decide) (fun c_5 => ?_) (fun c_5 => ?_)
      · refine r_iinc (pc := 18) (nI (x1_1 + 1)) [(1, .int (nI (x1_1 + 1))), (0, .ref za)] C dX2_lowest_18 1 rfl (inc1 _) (by decide) rfl ?_
        refine r_goto (pc := 21) 2 C dX2_lowest_21 (by decide) ?_
        refine u_lv [(0, .ref za), (1, .int (nI (x1_1 + 1)))] [1, 0] rfl ?_
        exact ih (x1_1 + 1) (by omega) (by rw [← hV1]; subst e_r_4; first | (simp only [lX2_lowest_2, if_pos c_5]; done) | (simp only [lX2_lowest_2, if_pos c_5]; rfl) | rfl | (simp [lX2_lowest_2, if_pos c_5]; done))
      · refine r_iload_n (pc := 16) C dX2_lowest_16 1 rfl ?_
        have hf : fX2_lowest sp = (nI x1_1) := hF1.trans (hV1.symm.trans (by subst e_r_4; first | (simp only [lX2_lowest_2, if_neg c_5]; done) | (simp only [lX2_lowest_2, if_neg c_5]; rfl) | rfl | (simp [lX2_lowest_2, if_neg c_5]; done)))
        rw [hf] at hR
        exact hR _ _ dX2_lowest_17
  refine u_lv [(0, .ref za), (1, .int 0)] [1, 0] rfl ?_
  exact hL1 6 0 (by omega) rfl
theorem ctX2_lowest (l : Launch) (g : Gl) (za : Nat) (zp : Nat) (zq : Nat) (pl : Nat → Int32) (sp : Nat → Int32) (be : Int32) (ti : Int32) : CtI l g yX2_lowest cX2_lowest 2 (some .int) 1 [.ref za] (wMom g za zp zq pl sp be ti) (fX2_lowest sp) (wMom g za zp zq pl sp be ti) := mkI .int rfl rfl [(0, .ref za)] (by decide) (Nat.le_of_ble_eq_true rfl) rfl (fun X C hR => bX2_lowest C za zp zq pl sp be ti hR)

def lX2_allSpins_4 (sp : Nat → Int32) : Nat → (Int32) → (Nat) → (Int32)
  | 0, x1_1, x2_1 => (x1_1)
  | n + 1, x1_1, x2_1 => (lX2_allSpins_4 sp n (x1_1 + (sp x2_1)) (x2_1 + 1))
def fX2_allSpins (sp : Nat → Int32) : (Int32) := (let x1_4 : Int32 := lX2_allSpins_4 sp 6 0 0; x1_4)
set_option maxHeartbeats 4000000 in
set_option maxRecDepth 100000 in
theorem bX2_allSpins {l : Launch} {g : Gl} {X : Cx} (C : Ok l g X RX2 cX2_allSpins 3 0) (za : Nat) (zp : Nat) (zq : Nat) (pl : Nat → Int32) (sp : Nat → Int32) (be : Int32) (ti : Int32) (hR : RetI g X cX2_allSpins 3 0 0 (fX2_allSpins sp) (wMom g za zp zq pl sp be ti)) : Vw g X 3 0 0 (wMom g za zp zq pl sp be ti) 0 [(0, .ref za)] [] := by
  refine r_iconst (pc := 0) 0 C dX2_allSpins_0 rfl ?_
  refine r_istore_n (pc := 1) [(1, .int 0), (0, .ref za)] C dX2_allSpins_1 (by decide) rfl ?_
  refine r_iconst (pc := 2) 0 C dX2_allSpins_2 rfl ?_
  refine r_istore_n (pc := 3) [(2, .int 0), (1, .int 0), (0, .ref za)] C dX2_allSpins_3 (by decide) rfl ?_
  have hX1 : ∀ (x1_4 : Int32) , x1_4 = lX2_allSpins_4 sp 6 0 0 → Vw g X 3 0 0 (wMom g za zp zq pl sp be ti) 25 [(1, .int x1_4)] [] := by
    intro x1_4 e_x1_4 
    refine r_iload_n (pc := 25) C dX2_allSpins_25 0 rfl ?_
    have hf : fX2_allSpins sp = x1_4 := by subst e_x1_4; first | rfl | (simp only [fX2_allSpins]; done) | (simp [fX2_allSpins]; done)
    rw [hf] at hR
    exact hR _ _ dX2_allSpins_26
  have hL1 : ∀ (n : Nat) (x1_1 : Int32) (x2_1 : Nat) , x2_1 + n = 6 → lX2_allSpins_4 sp n x1_1 x2_1 = lX2_allSpins_4 sp 6 0 0 → Vw g X 3 0 0 (wMom g za zp zq pl sp be ti) 4 [(0, .ref za), (1, .int x1_1), (2, .int (nI x2_1))] [] := by
    intro n
    induction n with
    | zero =>
      intro x1_1 x2_1 hr1 hV1
      refine r_iload_n (pc := 4) C dX2_allSpins_4 2 rfl ?_
      refine r_bipush (pc := 5) 6 C dX2_allSpins_5 rfl ?_
      refine r_icmpgeN (pc := 7) x2_1 6 25 C dX2_allSpins_7 (by decide) rfl rfl (by omega) (by omega) (fun _ => ?_) (fun c_2 => absurd (by omega) c_2)
      refine u_lv [(1, .int x1_1)] [1] rfl ?_
      exact hX1 _ (by rw [← hV1]; first | rfl | (simp only [lX2_allSpins_4]; done) | (simp [lX2_allSpins_4]; done))
    | succ n ih =>
      intro x1_1 x2_1 hr1 hV1
      refine r_iload_n (pc := 4) C dX2_allSpins_4 2 rfl ?_
      refine r_bipush (pc := 5) 6 C dX2_allSpins_5 rfl ?_
      refine r_icmpgeN (pc := 7) x2_1 6 25 C dX2_allSpins_7 (by decide) rfl rfl (by omega) (by omega) (fun c_3 => absurd c_3 (by omega)) (fun _ => ?_)
      refine r_iload_n (pc := 10) C dX2_allSpins_10 1 rfl ?_
      refine r_aload_n (pc := 11) C dX2_allSpins_11 0 rfl ?_
      refine r_get (pc := 12) C fl_X2_15 dX2_allSpins_12 0 rfl rfl ?_
      refine r_iload_n (pc := 15) C dX2_allSpins_15 2 rfl ?_
      refine r_iald (pc := 16) x2_1 C dX2_allSpins_16 2 rfl rfl (by omega) (by decide) ?_
      refine r_iadd (pc := 17) C dX2_allSpins_17 ?_
      refine r_istore_n (pc := 18) [(1, .int (x1_1 + (sp x2_1))), (0, .ref za), (2, .int (nI x2_1))] C dX2_allSpins_18 (by decide) rfl ?_
      refine r_iinc (pc := 19) (nI (x2_1 + 1)) [(2, .int (nI (x2_1 + 1))), (1, .int (x1_1 + (sp x2_1))), (0, .ref za)] C dX2_allSpins_19 2 rfl (inc1 _) (by decide) rfl ?_
      refine r_goto (pc := 22) 4 C dX2_allSpins_22 (by decide) ?_
      refine u_lv [(0, .ref za), (1, .int (x1_1 + (sp x2_1))), (2, .int (nI (x2_1 + 1)))] [2, 1, 0] rfl ?_
      exact ih (x1_1 + (sp x2_1)) (x2_1 + 1) (by omega) (by rw [← hV1]; first | rfl | (simp only [lX2_allSpins_4]; done) | (simp [lX2_allSpins_4]; done))
  refine u_lv [(0, .ref za), (1, .int 0), (2, .int 0)] [2, 1, 0] rfl ?_
  exact hL1 6 0 0 (by omega) rfl
theorem ctX2_allSpins (l : Launch) (g : Gl) (za : Nat) (zp : Nat) (zq : Nat) (pl : Nat → Int32) (sp : Nat → Int32) (be : Int32) (ti : Int32) : CtI l g yX2_allSpins cX2_allSpins 3 (some .int) 0 [.ref za] (wMom g za zp zq pl sp be ti) (fX2_allSpins sp) (wMom g za zp zq pl sp be ti) := mkI .int rfl rfl [(0, .ref za)] (by decide) (Nat.le_of_ble_eq_true rfl) rfl (fun X C hR => bX2_allSpins C za zp zq pl sp be ti hR)

def fX2_whipped (sp : Nat → Int32) (t : Nat) (v : Int32) : (Nat → Int32) := (let r_1 : Int32 := if ((sp t) + v) < 60 then ((sp t) + v) else 60; let sp_2 : Nat → Int32 := upd sp t r_1; sp_2)
set_option maxHeartbeats 4000000 in
set_option maxRecDepth 100000 in
theorem bX2_whipped {l : Launch} {g : Gl} {X : Cx} (C : Ok l g X RX2 cX2_whipped 3 1) (za : Nat) (zp : Nat) (zq : Nat) (pl : Nat → Int32) (sp : Nat → Int32) (be : Int32) (ti : Int32) (t : Nat) (v : Int32) (q0 : t < 6) (hR : RetV g X cX2_whipped 3 0 0 (wMom g za zp zq pl (fX2_whipped sp t v) be ti)) : Vw g X 3 0 0 (wMom g za zp zq pl sp be ti) 0 [(0, .ref za), (1, .int (nI t)), (2, .int v)] [] := by
  refine r_aload_n (pc := 0) C dX2_whipped_0 0 rfl ?_
  refine r_get (pc := 1) C fl_X2_15 dX2_whipped_1 0 rfl rfl ?_
  refine r_iload_n (pc := 4) C dX2_whipped_4 1 rfl ?_
  refine r_bipush (pc := 5) 60 C dX2_whipped_5 rfl ?_
  refine r_aload_n (pc := 7) C dX2_whipped_7 0 rfl ?_
  refine r_get (pc := 8) C fl_X2_15 dX2_whipped_8 0 rfl rfl ?_
  refine r_iload_n (pc := 11) C dX2_whipped_11 1 rfl ?_
  refine r_iald (pc := 12) t C dX2_whipped_12 2 rfl rfl (by omega) (by decide) ?_
  refine r_iload_n (pc := 13) C dX2_whipped_13 2 rfl ?_
  refine r_iadd (pc := 14) C dX2_whipped_14 ?_
  refine r_mmin (pc := 15) C dX2_whipped_15 ma_X2_52 mst_min miz mco_min (by decide) (Nat.le_of_ble_eq_true rfl) ⟨Nat.zero_le _, Nat.zero_le _⟩ ?_
  refine u_int (fun r_1 e_r_1 => ?_)
  obtain ⟨sp_2, e_sp_2⟩ : ∃ z : Nat → Int32, z = upd sp t r_1 := ⟨_, rfl⟩
  refine r_iast (pc := 18) t (wMom g za zp zq pl sp_2 be ti) C dX2_whipped_18 2 rfl rfl (by omega) (by decide) (by rw [← e_sp_2]; rfl) ?_
  have hf : fX2_whipped sp t v = sp_2 := by subst e_r_1 e_sp_2; first | rfl | (simp only [fX2_whipped]; done) | (simp [fX2_whipped]; done)
  rw [hf] at hR
  exact hR _ _ dX2_whipped_19
theorem ctX2_whipped (l : Launch) (g : Gl) (za : Nat) (zp : Nat) (zq : Nat) (pl : Nat → Int32) (sp : Nat → Int32) (be : Int32) (ti : Int32) (t : Nat) (v : Int32) (q0 : t < 6) : CtV l g yX2_whipped cX2_whipped 3 1 [.ref za, .int (nI t), .int v] (wMom g za zp zq pl sp be ti) (wMom g za zp zq pl (fX2_whipped sp t v) be ti) := mkV [(0, .ref za), (1, .int (nI t)), (2, .int v)] (by decide) (Nat.le_of_ble_eq_true rfl) rfl (fun X C hR => bX2_whipped C za zp zq pl sp be ti t v q0 hR)

theorem who_nat0 (pl sp : Nat → Int32) (w : Int32) : ∀ n i, i + n = 6 → (lX2_who_2 sp pl w n i = -9 ∨ ∃ j, j < 6 ∧ lX2_who_2 sp pl w n i = nI j)
  | 0, i, h => Or.inl rfl
  | n + 1, i, h => by
    have ih := who_nat0 pl sp w n (i + 1) (by omega)
    simp only [lX2_who_2]
    repeat' split
    all_goals first | exact ih | exact Or.inr ⟨i, by omega, rfl⟩
theorem who_nat {pl sp : Nat → Int32} {w : Int32} (h : ¬ fX2_who pl sp w = -9) : ∃ j, j < 6 ∧ fX2_who pl sp w = nI j := (who_nat0 pl sp w 6 0 rfl).resolve_left h
def lX2_slowDown_2 (dr : Nat → Int32) : Nat → (Nat) → (Nat → Int32) → (Nat → Int32) → (Nat → Int32) × (Nat → Int32)
  | 0, x2_1, pl0_1, sp0_1 => ((pl0_1, sp0_1))
  | n + 1, x2_1, pl0_1, sp0_1 => (let r_4 : Int32 := fX2_stands sp0_1 x2_1; if r_4 = 0 then (lX2_slowDown_2 dr n (x2_1 + 1) pl0_1 sp0_1) else (let pl_6 : Nat → Int32 := (fX2_spins pl0_1 sp0_1 x2_1 ((sp0_1 x2_1) - (dr x2_1))).1; let sp_7 : Nat → Int32 := (fX2_spins pl0_1 sp0_1 x2_1 ((sp0_1 x2_1) - (dr x2_1))).2; lX2_slowDown_2 dr n (x2_1 + 1) pl_6 sp_7))
def fX2_slowDown (pl : Nat → Int32) (sp : Nat → Int32) (dr : Nat → Int32) : (Nat → Int32) × (Nat → Int32) := (let o1 := lX2_slowDown_2 dr 6 0 pl sp; let pl0_8 : Nat → Int32 := o1.1; let sp0_9 : Nat → Int32 := o1.2; (pl0_8, sp0_9))
set_option maxHeartbeats 4000000 in
set_option maxRecDepth 100000 in
theorem bX2_slowDown {l : Launch} {g : Gl} {X : Cx} (C : Ok l g X RX2 cX2_slowDown 3 1) (za : Nat) (zp : Nat) (zq : Nat) (zb : Nat) (zd : Nat) (pl : Nat → Int32) (sp : Nat → Int32) (be : Int32) (ti : Int32) (dr : Nat → Int32) (pz : Int32) (sl : Int32) (tp : Nat) (hR : RetV g X cX2_slowDown 3 0 0 (wMom g za zp zq ((fX2_slowDown pl sp dr).1) ((fX2_slowDown pl sp dr).2) be ti ++ wTol g zb zd dr pz sl tp)) : Vw g X 3 0 0 (wMom g za zp zq pl sp be ti ++ wTol g zb zd dr pz sl tp) 0 [(0, .ref za), (1, .ref zb)] [] := by
  refine r_iconst (pc := 0) 0 C dX2_slowDown_0 rfl ?_
  refine r_istore_n (pc := 1) [(2, .int 0), (0, .ref za), (1, .ref zb)] C dX2_slowDown_1 (by decide) rfl ?_
  have hX1 : ∀ (pl0_8 : Nat → Int32) (sp0_9 : Nat → Int32) , pl0_8 = (lX2_slowDown_2 dr 6 0 pl sp).1 → sp0_9 = (lX2_slowDown_2 dr 6 0 pl sp).2 → Vw g X 3 0 0 (wMom g za zp zq pl0_8 sp0_9 be ti ++ wTol g zb zd dr pz sl tp) 40 [] [] := by
    intro pl0_8 sp0_9 e_pl0_8 e_sp0_9 
    have hf : fX2_slowDown pl sp dr = (pl0_8, sp0_9) := by subst e_pl0_8 e_sp0_9; first | rfl | (simp only [fX2_slowDown]; done) | (simp [fX2_slowDown]; done)
    rw [hf] at hR
    exact hR _ _ dX2_slowDown_40
  have hL1 : ∀ (n : Nat) (x2_1 : Nat) (pl0_1 : Nat → Int32) (sp0_1 : Nat → Int32) , x2_1 + n = 6 → lX2_slowDown_2 dr n x2_1 pl0_1 sp0_1 = lX2_slowDown_2 dr 6 0 pl sp → Vw g X 3 0 0 (wMom g za zp zq pl0_1 sp0_1 be ti ++ wTol g zb zd dr pz sl tp) 2 [(0, .ref za), (1, .ref zb), (2, .int (nI x2_1))] [] := by
    intro n
    induction n with
    | zero =>
      intro x2_1 pl0_1 sp0_1 hr1 hV1
      refine r_iload_n (pc := 2) C dX2_slowDown_2 2 rfl ?_
      refine r_bipush (pc := 3) 6 C dX2_slowDown_3 rfl ?_
      refine r_icmpgeN (pc := 5) x2_1 6 40 C dX2_slowDown_5 (by decide) rfl rfl (by omega) (by omega) (fun _ => ?_) (fun c_2 => absurd (by omega) c_2)
      refine u_lv [] [] rfl ?_
      exact hX1 _ _ (by rw [← hV1]; first | rfl | (simp only [lX2_slowDown_2]; done) | (simp [lX2_slowDown_2]; done)) (by rw [← hV1]; first | rfl | (simp only [lX2_slowDown_2]; done) | (simp [lX2_slowDown_2]; done))
    | succ n ih =>
      intro x2_1 pl0_1 sp0_1 hr1 hV1
      refine r_iload_n (pc := 2) C dX2_slowDown_2 2 rfl ?_
      refine r_bipush (pc := 3) 6 C dX2_slowDown_3 rfl ?_
      refine r_icmpgeN (pc := 5) x2_1 6 40 C dX2_slowDown_5 (by decide) rfl rfl (by omega) (by omega) (fun c_3 => absurd c_3 (by omega)) (fun _ => ?_)
      refine r_aload_n (pc := 8) C dX2_slowDown_8 0 rfl ?_
      refine r_iload_n (pc := 9) C dX2_slowDown_9 2 rfl ?_
      refine v_pI (pc := 10) C mv_X2_38 (ctX2_stands l g za zp zq pl0_1 sp0_1 be ti x2_1 (by omega)) dX2_slowDown_10 (by decide) [0, 1, 2] rfl (by decide) 0 rfl rfl (Nat.le_of_ble_eq_true rfl) ⟨Nat.zero_le _, Nat.zero_le _⟩ ?_
      refine u_int (fun r_4 e_r_4 => ?_)
      refine r_ifeq (pc := 13) 34 C dX2_slowDown_13 (by decide) (fun c_5 => ?_) (fun c_5 => ?_)
      · refine r_iinc (pc := 34) (nI (x2_1 + 1)) [(2, .int (nI (x2_1 + 1))), (0, .ref za), (1, .ref zb)] C dX2_slowDown_34 2 rfl (inc1 _) (by decide) rfl ?_
        refine r_goto (pc := 37) 2 C dX2_slowDown_37 (by decide) ?_
        refine u_lv [(0, .ref za), (1, .ref zb), (2, .int (nI (x2_1 + 1)))] [1, 2, 0] rfl ?_
        exact ih (x2_1 + 1) pl0_1 sp0_1 (by omega) (by rw [← hV1]; subst e_r_4; first | (simp only [lX2_slowDown_2, if_pos c_5]; done) | (simp only [lX2_slowDown_2, if_pos c_5]; rfl) | rfl | (simp [lX2_slowDown_2, if_pos c_5]; done))
      · refine r_aload_n (pc := 16) C dX2_slowDown_16 0 rfl ?_
        refine r_iload_n (pc := 17) C dX2_slowDown_17 2 rfl ?_
        refine r_aload_n (pc := 18) C dX2_slowDown_18 0 rfl ?_
        refine r_get (pc := 19) C fl_X2_15 dX2_slowDown_19 0 rfl rfl ?_
        refine r_iload_n (pc := 22) C dX2_slowDown_22 2 rfl ?_
        refine r_iald (pc := 23) x2_1 C dX2_slowDown_23 2 rfl rfl (by omega) (by decide) ?_
        refine r_aload_n (pc := 24) C dX2_slowDown_24 1 rfl ?_
        refine r_get (pc := 25) C fl_X2_68 dX2_slowDown_25 3 rfl rfl ?_
        refine r_iload_n (pc := 28) C dX2_slowDown_28 2 rfl ?_
        refine r_iald (pc := 29) x2_1 C dX2_slowDown_29 4 rfl rfl (by omega) (by decide) ?_
        refine r_isub (pc := 30) C dX2_slowDown_30 ?_
        obtain ⟨pl_6, e_pl_6⟩ : ∃ z : Nat → Int32, z = (fX2_spins pl0_1 sp0_1 x2_1 ((sp0_1 x2_1) - (dr x2_1))).1 := ⟨_, rfl⟩
        obtain ⟨sp_7, e_sp_7⟩ : ∃ z : Nat → Int32, z = (fX2_spins pl0_1 sp0_1 x2_1 ((sp0_1 x2_1) - (dr x2_1))).2 := ⟨_, rfl⟩
        refine v_cV (pc := 31) (wMom g za zp zq pl_6 sp_7 be ti ++ wTol g zb zd dr pz sl tp) C mv_X2_28 (ctX2_spins l g za zp zq pl0_1 sp0_1 be ti x2_1 ((sp0_1 x2_1) - (dr x2_1)) (by omega)) dX2_slowDown_31 (by decide) [0, 1, 2] rfl (by decide) rfl (by rw [← e_pl_6, ← e_sp_7]; rfl) 0 rfl rfl (Nat.le_of_ble_eq_true rfl) ⟨Nat.zero_le _, Nat.zero_le _⟩ ?_
        refine r_iinc (pc := 34) (nI (x2_1 + 1)) [(2, .int (nI (x2_1 + 1))), (0, .ref za), (1, .ref zb)] C dX2_slowDown_34 2 rfl (inc1 _) (by decide) rfl ?_
        refine r_goto (pc := 37) 2 C dX2_slowDown_37 (by decide) ?_
        refine u_lv [(0, .ref za), (1, .ref zb), (2, .int (nI (x2_1 + 1)))] [1, 2, 0] rfl ?_
        exact ih (x2_1 + 1) pl_6 sp_7 (by omega) (by rw [← hV1]; subst e_r_4 e_pl_6 e_sp_7; first | (simp only [lX2_slowDown_2, if_neg c_5]; done) | (simp only [lX2_slowDown_2, if_neg c_5]; rfl) | rfl | (simp [lX2_slowDown_2, if_neg c_5]; done))
  refine u_lv [(0, .ref za), (1, .ref zb), (2, .int 0)] [1, 2, 0] rfl ?_
  exact hL1 6 0 pl sp (by omega) rfl
theorem ctX2_slowDown (l : Launch) (g : Gl) (za : Nat) (zp : Nat) (zq : Nat) (zb : Nat) (zd : Nat) (pl : Nat → Int32) (sp : Nat → Int32) (be : Int32) (ti : Int32) (dr : Nat → Int32) (pz : Int32) (sl : Int32) (tp : Nat) : CtV l g yX2_slowDown cX2_slowDown 3 1 [.ref za, .ref zb] (wMom g za zp zq pl sp be ti ++ wTol g zb zd dr pz sl tp) (wMom g za zp zq ((fX2_slowDown pl sp dr).1) ((fX2_slowDown pl sp dr).2) be ti ++ wTol g zb zd dr pz sl tp) := mkV [(0, .ref za), (1, .ref zb)] (by decide) (Nat.le_of_ble_eq_true rfl) rfl (fun X C hR => bX2_slowDown C za zp zq zb zd pl sp be ti dr pz sl tp hR)

def fX2_neighbour (ti : Int32) (fr : Int32) (pp : Int32) : (Int32) := (if ti = 1 then (if pp ≤ (fr + 1) then (0) else ((fr + 1))) else (if fr ≤ 0 then ((pp - 1)) else ((fr - 1))))
set_option maxHeartbeats 4000000 in
set_option maxRecDepth 100000 in
theorem bX2_neighbour {l : Launch} {g : Gl} {X : Cx} (C : Ok l g X RX2 cX2_neighbour 3 0) (za : Nat) (zp : Nat) (zq : Nat) (pl : Nat → Int32) (sp : Nat → Int32) (be : Int32) (ti : Int32) (fr : Int32) (pp : Int32) (hR : RetI g X cX2_neighbour 3 0 0 (fX2_neighbour ti fr pp) (wMom g za zp zq pl sp be ti)) : Vw g X 3 0 0 (wMom g za zp zq pl sp be ti) 0 [(0, .ref za), (1, .int fr), (2, .int pp)] [] := by
  refine r_aload_n (pc := 0) C dX2_neighbour_0 0 rfl ?_
  refine r_get (pc := 1) C fl_X2_22 dX2_neighbour_1 0 rfl rfl ?_
  refine r_iconst (pc := 4) 1 C dX2_neighbour_4 rfl ?_
  refine r_icmpne (pc := 5) 23 C dX2_neighbour_5 (by decide) (fun c_1 => ?_) (fun c_1 => ?_)
  · refine r_iload_n (pc := 23) C dX2_neighbour_23 1 rfl ?_
    refine r_ifle (pc := 24) 33 C dX2_neighbour_24 (by decide) (fun c_2 => ?_) (fun c_2 => ?_)
    · refine r_iload_n (pc := 33) C dX2_neighbour_33 2 rfl ?_
      refine r_iconst (pc := 34) 1 C dX2_neighbour_34 rfl ?_
      refine r_isub (pc := 35) C dX2_neighbour_35 ?_
      have hf : fX2_neighbour ti fr pp = (pp - 1) := by first | (simp only [fX2_neighbour, if_neg c_1, if_pos c_2]; done) | (simp only [fX2_neighbour, if_neg c_1, if_pos c_2]; rfl) | rfl | (simp [fX2_neighbour, if_neg c_1, if_pos c_2]; done)
      rw [hf] at hR
      exact hR _ _ dX2_neighbour_36
    · refine r_iload_n (pc := 27) C dX2_neighbour_27 1 rfl ?_
      refine r_iconst (pc := 28) 1 C dX2_neighbour_28 rfl ?_
      refine r_isub (pc := 29) C dX2_neighbour_29 ?_
      refine r_goto (pc := 30) 36 C dX2_neighbour_30 (by decide) ?_
      have hf : fX2_neighbour ti fr pp = (fr - 1) := by first | (simp only [fX2_neighbour, if_neg c_1, if_neg c_2]; done) | (simp only [fX2_neighbour, if_neg c_1, if_neg c_2]; rfl) | rfl | (simp [fX2_neighbour, if_neg c_1, if_neg c_2]; done)
      rw [hf] at hR
      exact hR _ _ dX2_neighbour_36
  · refine r_iload_n (pc := 8) C dX2_neighbour_8 1 rfl ?_
    refine r_iconst (pc := 9) 1 C dX2_neighbour_9 rfl ?_
    refine r_iadd (pc := 10) C dX2_neighbour_10 ?_
    refine r_iload_n (pc := 11) C dX2_neighbour_11 2 rfl ?_
    refine r_icmpge (pc := 12) 21 C dX2_neighbour_12 (by decide) (fun c_3 => ?_) (fun c_3 => ?_)
    · refine r_iconst (pc := 21) 0 C dX2_neighbour_21 rfl ?_
      have hf : fX2_neighbour ti fr pp = 0 := by first | (simp only [fX2_neighbour, if_pos c_1, if_pos c_3]; done) | (simp only [fX2_neighbour, if_pos c_1, if_pos c_3]; rfl) | rfl | (simp [fX2_neighbour, if_pos c_1, if_pos c_3]; done)
      rw [hf] at hR
      exact hR _ _ dX2_neighbour_22
    · refine r_iload_n (pc := 15) C dX2_neighbour_15 1 rfl ?_
      refine r_iconst (pc := 16) 1 C dX2_neighbour_16 rfl ?_
      refine r_iadd (pc := 17) C dX2_neighbour_17 ?_
      refine r_goto (pc := 18) 22 C dX2_neighbour_18 (by decide) ?_
      have hf : fX2_neighbour ti fr pp = (fr + 1) := by first | (simp only [fX2_neighbour, if_pos c_1, if_neg c_3]; done) | (simp only [fX2_neighbour, if_pos c_1, if_neg c_3]; rfl) | rfl | (simp [fX2_neighbour, if_pos c_1, if_neg c_3]; done)
      rw [hf] at hR
      exact hR _ _ dX2_neighbour_22
theorem ctX2_neighbour (l : Launch) (g : Gl) (za : Nat) (zp : Nat) (zq : Nat) (pl : Nat → Int32) (sp : Nat → Int32) (be : Int32) (ti : Int32) (fr : Int32) (pp : Int32) : CtI l g yX2_neighbour cX2_neighbour 3 (some .int) 0 [.ref za, .int fr, .int pp] (wMom g za zp zq pl sp be ti) (fX2_neighbour ti fr pp) (wMom g za zp zq pl sp be ti) := mkI .int rfl rfl [(0, .ref za), (1, .int fr), (2, .int pp)] (by decide) (Nat.le_of_ble_eq_true rfl) rfl (fun X C hR => bX2_neighbour C za zp zq pl sp be ti fr pp hR)

def fX2_meet (pl : Nat → Int32) (sp : Nat → Int32) (t : Nat) (u : Nat) : (Nat → Int32) × (Nat → Int32) := (let w_2 : Int32 := (if (sp t) ≤ (sp u) then (0) else (1)); let w_5 : Nat := (if w_2 = 0 then (u) else (t)); let w_8 : Nat := (if w_2 = 0 then (t) else (u)); let pl_10 : Nat → Int32 := (fX2_spins pl sp w_8 0).1; let sp_11 : Nat → Int32 := (fX2_spins pl sp w_8 0).2; let pl_12 : Nat → Int32 := (fX2_spins pl_10 sp_11 w_5 ((sp_11 w_5) - 5)).1; let sp_13 : Nat → Int32 := (fX2_spins pl_10 sp_11 w_5 ((sp_11 w_5) - 5)).2; (pl_12, sp_13))
set_option maxHeartbeats 4000000 in
set_option maxRecDepth 100000 in
theorem bX2_meet {l : Launch} {g : Gl} {X : Cx} (C : Ok l g X RX2 cX2_meet 5 1) (za : Nat) (zp : Nat) (zq : Nat) (pl : Nat → Int32) (sp : Nat → Int32) (be : Int32) (ti : Int32) (t : Nat) (u : Nat) (q0 : t < 6) (q1 : u < 6) (hR : RetV g X cX2_meet 5 0 0 (wMom g za zp zq ((fX2_meet pl sp t u).1) ((fX2_meet pl sp t u).2) be ti)) : Vw g X 5 0 0 (wMom g za zp zq pl sp be ti) 0 [(0, .ref za), (1, .int (nI t)), (2, .int (nI u))] [] := by
  refine r_aload_n (pc := 0) C dX2_meet_0 0 rfl ?_
  refine r_get (pc := 1) C fl_X2_15 dX2_meet_1 0 rfl rfl ?_
  refine r_iload_n (pc := 4) C dX2_meet_4 1 rfl ?_
  refine r_iald (pc := 5) t C dX2_meet_5 2 rfl rfl (by omega) (by decide) ?_
  refine r_aload_n (pc := 6) C dX2_meet_6 0 rfl ?_
  refine r_get (pc := 7) C fl_X2_15 dX2_meet_7 0 rfl rfl ?_
  refine r_iload_n (pc := 10) C dX2_meet_10 2 rfl ?_
  refine r_iald (pc := 11) u C dX2_meet_11 2 rfl rfl (by omega) (by decide) ?_
  have hJ_3 : ∀ (w_2 : Int32) , w_2 = (if (sp t) ≤ (sp u) then (0) else (1)) → Vw g X 5 0 0 (wMom g za zp zq pl sp be ti) 20 [(0, .ref za), (1, .int (nI t)), (2, .int (nI u))] [.int w_2] := by
    intro w_2 e_w_2
    refine r_istore_n (pc := 20) [(3, .int w_2), (0, .ref za), (1, .int (nI t)), (2, .int (nI u))] C dX2_meet_20 (by decide) rfl ?_
    refine r_iload_n (pc := 21) C dX2_meet_21 0 rfl ?_
    have hJ_6 : ∀ (w_5 : Nat) , w_5 = (if w_2 = 0 then (u) else (t)) → Vw g X 5 0 0 (wMom g za zp zq pl sp be ti) 30 [(0, .ref za), (1, .int (nI t)), (2, .int (nI u)), (3, .int w_2)] [.int (nI w_5)] := by
      intro w_5 e_w_5
      have m_w_5 : w_5 = u ∨ w_5 = t := by rw [e_w_5]; (repeat' split) <;> simp
      refine r_istore (pc := 30) [(4, .int (nI w_5)), (0, .ref za), (1, .int (nI t)), (2, .int (nI u)), (3, .int w_2)] C dX2_meet_30 (by decide) rfl ?_
      refine r_aload_n (pc := 32) C dX2_meet_32 1 rfl ?_
      refine r_iload_n (pc := 33) C dX2_meet_33 4 rfl ?_
      have hJ_9 : ∀ (w_8 : Nat) , w_8 = (if w_2 = 0 then (t) else (u)) → Vw g X 5 0 0 (wMom g za zp zq pl sp be ti) 42 [(0, .ref za), (4, .int (nI w_5))] [.int (nI w_8), .ref za] := by
        intro w_8 e_w_8
        have m_w_8 : w_8 = t ∨ w_8 = u := by rw [e_w_8]; (repeat' split) <;> simp
        refine r_iconst (pc := 42) 0 C dX2_meet_42 rfl ?_
        obtain ⟨pl_10, e_pl_10⟩ : ∃ z : Nat → Int32, z = (fX2_spins pl sp w_8 0).1 := ⟨_, rfl⟩
        obtain ⟨sp_11, e_sp_11⟩ : ∃ z : Nat → Int32, z = (fX2_spins pl sp w_8 0).2 := ⟨_, rfl⟩
        refine v_cV (pc := 43) (wMom g za zp zq pl_10 sp_11 be ti) C mv_X2_28 (ctX2_spins l g za zp zq pl sp be ti w_8 0 (by omega)) dX2_meet_43 (by decide) [0, 1, 2] rfl (by decide) rfl (by rw [← e_pl_10, ← e_sp_11]; rfl) 0 rfl rfl (Nat.le_of_ble_eq_true rfl) ⟨Nat.zero_le _, Nat.zero_le _⟩ ?_
        refine r_aload_n (pc := 46) C dX2_meet_46 0 rfl ?_
        refine r_iload (pc := 47) C dX2_meet_47 1 rfl ?_
        refine r_aload_n (pc := 49) C dX2_meet_49 0 rfl ?_
        refine r_get (pc := 50) C fl_X2_15 dX2_meet_50 0 rfl rfl ?_
        refine r_iload (pc := 53) C dX2_meet_53 1 rfl ?_
        refine r_iald (pc := 55) w_5 C dX2_meet_55 2 rfl rfl (by omega) (by decide) ?_
        refine r_iconst (pc := 56) 5 C dX2_meet_56 rfl ?_
        refine r_isub (pc := 57) C dX2_meet_57 ?_
        obtain ⟨pl_12, e_pl_12⟩ : ∃ z : Nat → Int32, z = (fX2_spins pl_10 sp_11 w_5 ((sp_11 w_5) - 5)).1 := ⟨_, rfl⟩
        obtain ⟨sp_13, e_sp_13⟩ : ∃ z : Nat → Int32, z = (fX2_spins pl_10 sp_11 w_5 ((sp_11 w_5) - 5)).2 := ⟨_, rfl⟩
        refine v_cV (pc := 58) (wMom g za zp zq pl_12 sp_13 be ti) C mv_X2_28 (ctX2_spins l g za zp zq pl_10 sp_11 be ti w_5 ((sp_11 w_5) - 5) (by omega)) dX2_meet_58 (by decide) [0, 1, 2] rfl (by decide) rfl (by rw [← e_pl_12, ← e_sp_13]; rfl) 0 rfl rfl (Nat.le_of_ble_eq_true rfl) ⟨Nat.zero_le _, Nat.zero_le _⟩ ?_
        have hf : fX2_meet pl sp t u = (pl_12, sp_13) := by subst e_w_2 e_w_5 e_w_8 e_pl_10 e_sp_11 e_pl_12 e_sp_13; first | rfl | (simp only [fX2_meet]; done) | (simp [fX2_meet]; done)
        rw [hf] at hR
        exact hR _ _ dX2_meet_61
      refine r_ifeq (pc := 34) 41 C dX2_meet_34 (by decide) (fun c_7 => ?_) (fun c_7 => ?_)
      · refine r_iload_n (pc := 41) C dX2_meet_41 2 rfl ?_
        refine u_lv [(0, .ref za), (4, .int (nI w_5))] [1, 0] rfl ?_
        exact hJ_9 _ (by first | (simp only [if_pos c_7]; done) | (simp only [if_pos c_7]; rfl) | rfl | (simp [if_pos c_7]; done))
      · refine r_iload_n (pc := 37) C dX2_meet_37 3 rfl ?_
        refine r_goto (pc := 38) 42 C dX2_meet_38 (by decide) ?_
        refine u_lv [(0, .ref za), (4, .int (nI w_5))] [1, 0] rfl ?_
        exact hJ_9 _ (by first | (simp only [if_neg c_7]; done) | (simp only [if_neg c_7]; rfl) | rfl | (simp [if_neg c_7]; done))
    refine r_ifeq (pc := 22) 29 C dX2_meet_22 (by decide) (fun c_4 => ?_) (fun c_4 => ?_)
    · refine r_iload_n (pc := 29) C dX2_meet_29 3 rfl ?_
      refine u_lv [(0, .ref za), (1, .int (nI t)), (2, .int (nI u)), (3, .int w_2)] [1, 2, 3, 0] rfl ?_
      exact hJ_6 _ (by first | (simp only [if_pos c_4]; done) | (simp only [if_pos c_4]; rfl) | rfl | (simp [if_pos c_4]; done))
    · refine r_iload_n (pc := 25) C dX2_meet_25 2 rfl ?_
      refine r_goto (pc := 26) 30 C dX2_meet_26 (by decide) ?_
      refine u_lv [(0, .ref za), (1, .int (nI t)), (2, .int (nI u)), (3, .int w_2)] [1, 2, 3, 0] rfl ?_
      exact hJ_6 _ (by first | (simp only [if_neg c_4]; done) | (simp only [if_neg c_4]; rfl) | rfl | (simp [if_neg c_4]; done))
  refine r_icmple (pc := 12) 19 C dX2_meet_12 (by decide) (fun c_1 => ?_) (fun c_1 => ?_)
  · refine r_iconst (pc := 19) 0 C dX2_meet_19 rfl ?_
    exact hJ_3 _ (by first | (simp only [if_pos c_1]; done) | (simp only [if_pos c_1]; rfl) | rfl | (simp [if_pos c_1]; done))
  · refine r_iconst (pc := 15) 1 C dX2_meet_15 rfl ?_
    refine r_goto (pc := 16) 20 C dX2_meet_16 (by decide) ?_
    exact hJ_3 _ (by first | (simp only [if_neg c_1]; done) | (simp only [if_neg c_1]; rfl) | rfl | (simp [if_neg c_1]; done))
theorem ctX2_meet (l : Launch) (g : Gl) (za : Nat) (zp : Nat) (zq : Nat) (pl : Nat → Int32) (sp : Nat → Int32) (be : Int32) (ti : Int32) (t : Nat) (u : Nat) (q0 : t < 6) (q1 : u < 6) : CtV l g yX2_meet cX2_meet 5 1 [.ref za, .int (nI t), .int (nI u)] (wMom g za zp zq pl sp be ti) (wMom g za zp zq ((fX2_meet pl sp t u).1) ((fX2_meet pl sp t u).2) be ti) := mkV [(0, .ref za), (1, .int (nI t)), (2, .int (nI u))] (by decide) (Nat.le_of_ble_eq_true rfl) rfl (fun X C hR => bX2_meet C za zp zq pl sp be ti t u q0 q1 hR)

def lX2_wander_2 (sl : Int32) (ti : Int32) (pz : Int32) : Nat → (Nat) → (Nat → Int32) → (Nat → Int32) → (Nat → Int32) × (Nat → Int32)
  | 0, x2_1, pl0_1, sp0_1 => ((pl0_1, sp0_1))
  | n + 1, x2_1, pl0_1, sp0_1 => (let r_4 : Int32 := fX2_stands sp0_1 x2_1; if r_4 = 0 then (lX2_wander_2 sl ti pz n (x2_1 + 1) pl0_1 sp0_1) else (if (sp0_1 x2_1) ≤ sl then (let r_7 : Int32 := fX2_neighbour ti (pl0_1 x2_1) pz; let r_8 : Int32 := fX2_who pl0_1 sp0_1 r_7; let J_15 := (if r_8 = (-9) then ((pl0_1, sp0_1)) else (let pl_11 : Nat → Int32 := (fX2_meet pl0_1 sp0_1 x2_1 r_8.toNatClampNeg).1; let sp_12 : Nat → Int32 := (fX2_meet pl0_1 sp0_1 x2_1 r_8.toNatClampNeg).2; (pl_11, sp_12)) : (Nat → Int32) × (Nat → Int32)); let pl_13 : Nat → Int32 := J_15.1; let sp_14 : Nat → Int32 := J_15.2; let r_16 : Int32 := fX2_stands sp_14 x2_1; if r_16 = 0 then (lX2_wander_2 sl ti pz n (x2_1 + 1) pl_13 sp_14) else (let pl_18 : Nat → Int32 := upd pl_13 x2_1 r_7; lX2_wander_2 sl ti pz n (x2_1 + 1) pl_18 sp_14)) else (lX2_wander_2 sl ti pz n (x2_1 + 1) pl0_1 sp0_1)))
def fX2_wander (pl : Nat → Int32) (sp : Nat → Int32) (ti : Int32) (pz : Int32) (sl : Int32) : (Nat → Int32) × (Nat → Int32) := (let o1 := lX2_wander_2 sl ti pz 6 0 pl sp; let pl0_19 : Nat → Int32 := o1.1; let sp0_20 : Nat → Int32 := o1.2; (pl0_19, sp0_20))
set_option maxHeartbeats 4000000 in
set_option maxRecDepth 100000 in
theorem bX2_wander {l : Launch} {g : Gl} {X : Cx} (C : Ok l g X RX2 cX2_wander 5 2) (za : Nat) (zp : Nat) (zq : Nat) (zb : Nat) (zd : Nat) (pl : Nat → Int32) (sp : Nat → Int32) (be : Int32) (ti : Int32) (dr : Nat → Int32) (pz : Int32) (sl : Int32) (tp : Nat) (hR : RetV g X cX2_wander 5 0 0 (wMom g za zp zq ((fX2_wander pl sp ti pz sl).1) ((fX2_wander pl sp ti pz sl).2) be ti ++ wTol g zb zd dr pz sl tp)) : Vw g X 5 0 0 (wMom g za zp zq pl sp be ti ++ wTol g zb zd dr pz sl tp) 0 [(0, .ref za), (1, .ref zb)] [] := by
  refine r_iconst (pc := 0) 0 C dX2_wander_0 rfl ?_
  refine r_istore_n (pc := 1) [(2, .int 0), (0, .ref za), (1, .ref zb)] C dX2_wander_1 (by decide) rfl ?_
  have hX1 : ∀ (pl0_19 : Nat → Int32) (sp0_20 : Nat → Int32) , pl0_19 = (lX2_wander_2 sl ti pz 6 0 pl sp).1 → sp0_20 = (lX2_wander_2 sl ti pz 6 0 pl sp).2 → Vw g X 5 0 0 (wMom g za zp zq pl0_19 sp0_20 be ti ++ wTol g zb zd dr pz sl tp) 89 [] [] := by
    intro pl0_19 sp0_20 e_pl0_19 e_sp0_20 
    have hf : fX2_wander pl sp ti pz sl = (pl0_19, sp0_20) := by subst e_pl0_19 e_sp0_20; first | rfl | (simp only [fX2_wander]; done) | (simp [fX2_wander]; done)
    rw [hf] at hR
    exact hR _ _ dX2_wander_89
  have hL1 : ∀ (n : Nat) (x2_1 : Nat) (pl0_1 : Nat → Int32) (sp0_1 : Nat → Int32) , x2_1 + n = 6 → lX2_wander_2 sl ti pz n x2_1 pl0_1 sp0_1 = lX2_wander_2 sl ti pz 6 0 pl sp → Vw g X 5 0 0 (wMom g za zp zq pl0_1 sp0_1 be ti ++ wTol g zb zd dr pz sl tp) 2 [(0, .ref za), (1, .ref zb), (2, .int (nI x2_1))] [] := by
    intro n
    induction n with
    | zero =>
      intro x2_1 pl0_1 sp0_1 hr1 hV1
      refine r_iload_n (pc := 2) C dX2_wander_2 2 rfl ?_
      refine r_bipush (pc := 3) 6 C dX2_wander_3 rfl ?_
      refine r_icmpgeN (pc := 5) x2_1 6 89 C dX2_wander_5 (by decide) rfl rfl (by omega) (by omega) (fun _ => ?_) (fun c_2 => absurd (by omega) c_2)
      refine u_lv [] [] rfl ?_
      exact hX1 _ _ (by rw [← hV1]; first | rfl | (simp only [lX2_wander_2]; done) | (simp [lX2_wander_2]; done)) (by rw [← hV1]; first | rfl | (simp only [lX2_wander_2]; done) | (simp [lX2_wander_2]; done))
    | succ n ih =>
      intro x2_1 pl0_1 sp0_1 hr1 hV1
      refine r_iload_n (pc := 2) C dX2_wander_2 2 rfl ?_
      refine r_bipush (pc := 3) 6 C dX2_wander_3 rfl ?_
      refine r_icmpgeN (pc := 5) x2_1 6 89 C dX2_wander_5 (by decide) rfl rfl (by omega) (by omega) (fun c_3 => absurd c_3 (by omega)) (fun _ => ?_)
      refine r_aload_n (pc := 8) C dX2_wander_8 0 rfl ?_
      refine r_iload_n (pc := 9) C dX2_wander_9 2 rfl ?_
      refine v_pI (pc := 10) C mv_X2_38 (ctX2_stands l g za zp zq pl0_1 sp0_1 be ti x2_1 (by omega)) dX2_wander_10 (by decide) [0, 1, 2] rfl (by decide) 0 rfl rfl (Nat.le_of_ble_eq_true rfl) ⟨Nat.zero_le _, Nat.zero_le _⟩ ?_
      refine u_int (fun r_4 e_r_4 => ?_)
      refine r_ifeq (pc := 13) 83 C dX2_wander_13 (by decide) (fun c_5 => ?_) (fun c_5 => ?_)
      · refine r_iinc (pc := 83) (nI (x2_1 + 1)) [(2, .int (nI (x2_1 + 1))), (0, .ref za), (1, .ref zb)] C dX2_wander_83 2 rfl (inc1 _) (by decide) rfl ?_
        refine r_goto (pc := 86) 2 C dX2_wander_86 (by decide) ?_
        refine u_lv [(0, .ref za), (1, .ref zb), (2, .int (nI (x2_1 + 1)))] [1, 2, 0] rfl ?_
        exact ih (x2_1 + 1) pl0_1 sp0_1 (by omega) (by rw [← hV1]; subst e_r_4; first | (simp only [lX2_wander_2, if_pos c_5]; done) | (simp only [lX2_wander_2, if_pos c_5]; rfl) | rfl | (simp [lX2_wander_2, if_pos c_5]; done))
      · refine r_aload_n (pc := 16) C dX2_wander_16 0 rfl ?_
        refine r_get (pc := 17) C fl_X2_15 dX2_wander_17 0 rfl rfl ?_
        refine r_iload_n (pc := 20) C dX2_wander_20 2 rfl ?_
        refine r_iald (pc := 21) x2_1 C dX2_wander_21 2 rfl rfl (by omega) (by decide) ?_
        refine r_aload_n (pc := 22) C dX2_wander_22 1 rfl ?_
        refine r_get (pc := 23) C fl_X2_73 dX2_wander_23 3 rfl rfl ?_
        refine r_icmple (pc := 26) 32 C dX2_wander_26 (by decide) (fun c_6 => ?_) (fun c_6 => ?_)
        · refine r_aload_n (pc := 32) C dX2_wander_32 0 rfl ?_
          refine r_aload_n (pc := 33) C dX2_wander_33 0 rfl ?_
          refine r_get (pc := 34) C fl_X2_9 dX2_wander_34 0 rfl rfl ?_
          refine r_iload_n (pc := 37) C dX2_wander_37 2 rfl ?_
          refine r_iald (pc := 38) x2_1 C dX2_wander_38 1 rfl rfl (by omega) (by decide) ?_
          refine r_aload_n (pc := 39) C dX2_wander_39 1 rfl ?_
          refine r_get (pc := 40) C fl_X2_76 dX2_wander_40 3 rfl rfl ?_
          refine v_pI (pc := 43) C mv_X2_79 (ctX2_neighbour l g za zp zq pl0_1 sp0_1 be ti (pl0_1 x2_1) pz ) dX2_wander_43 (by decide) [0, 1, 2] rfl (by decide) 0 rfl rfl (Nat.le_of_ble_eq_true rfl) ⟨Nat.zero_le _, Nat.zero_le _⟩ ?_
          refine u_int (fun r_7 e_r_7 => ?_)
          refine r_istore_n (pc := 46) [(3, .int r_7), (0, .ref za), (1, .ref zb), (2, .int (nI x2_1))] C dX2_wander_46 (by decide) rfl ?_
          refine r_aload_n (pc := 47) C dX2_wander_47 1 rfl ?_
          refine r_iload_n (pc := 48) C dX2_wander_48 0 rfl ?_
          refine v_pI (pc := 49) C mv_X2_82 (ctX2_who l g za zp zq pl0_1 sp0_1 be ti r_7 ) dX2_wander_49 (by decide) [0, 1, 2] rfl (by decide) 0 rfl rfl (Nat.le_of_ble_eq_true rfl) ⟨Nat.zero_le _, Nat.zero_le _⟩ ?_
          refine u_int (fun r_8 e_r_8 => ?_)
          refine r_istore (pc := 52) [(4, .int r_8), (3, .int r_7), (0, .ref za), (1, .ref zb), (2, .int (nI x2_1))] C dX2_wander_52 (by decide) rfl ?_
          refine r_iload (pc := 54) C dX2_wander_54 0 rfl ?_
          refine r_bipush (pc := 56) (-9) C dX2_wander_56 rfl ?_
          have hJ_15 : ∀ (pl_13 : Nat → Int32) (sp_14 : Nat → Int32) , pl_13 = (if r_8 = (-9) then ((pl0_1, sp0_1)) else (let pl_11 : Nat → Int32 := (fX2_meet pl0_1 sp0_1 x2_1 r_8.toNatClampNeg).1; let sp_12 : Nat → Int32 := (fX2_meet pl0_1 sp0_1 x2_1 r_8.toNatClampNeg).2; (pl_11, sp_12)) : (Nat → Int32) × (Nat → Int32)).1 → sp_14 = (if r_8 = (-9) then ((pl0_1, sp0_1)) else (let pl_11 : Nat → Int32 := (fX2_meet pl0_1 sp0_1 x2_1 r_8.toNatClampNeg).1; let sp_12 : Nat → Int32 := (fX2_meet pl0_1 sp0_1 x2_1 r_8.toNatClampNeg).2; (pl_11, sp_12)) : (Nat → Int32) × (Nat → Int32)).2 → Vw g X 5 0 0 (wMom g za zp zq pl_13 sp_14 be ti ++ wTol g zb zd dr pz sl tp) 68 [(0, .ref za), (1, .ref zb), (2, .int (nI x2_1)), (3, .int r_7)] [] := by
            intro pl_13 sp_14 e_pl_13 e_sp_14
            refine r_aload_n (pc := 68) C dX2_wander_68 0 rfl ?_
            refine r_iload_n (pc := 69) C dX2_wander_69 2 rfl ?_
            refine v_pI (pc := 70) C mv_X2_38 (ctX2_stands l g za zp zq pl_13 sp_14 be ti x2_1 (by omega)) dX2_wander_70 (by decide) [0, 1, 2] rfl (by decide) 0 rfl rfl (Nat.le_of_ble_eq_true rfl) ⟨Nat.zero_le _, Nat.zero_le _⟩ ?_
            refine u_int (fun r_16 e_r_16 => ?_)
            refine r_ifeq (pc := 73) 83 C dX2_wander_73 (by decide) (fun c_17 => ?_) (fun c_17 => ?_)
            · refine r_iinc (pc := 83) (nI (x2_1 + 1)) [(2, .int (nI (x2_1 + 1))), (0, .ref za), (1, .ref zb), (3, .int r_7)] C dX2_wander_83 2 rfl (inc1 _) (by decide) rfl ?_
              refine r_goto (pc := 86) 2 C dX2_wander_86 (by decide) ?_
              refine u_lv [(0, .ref za), (1, .ref zb), (2, .int (nI (x2_1 + 1)))] [1, 2, 0] rfl ?_
              exact ih (x2_1 + 1) pl_13 sp_14 (by omega) (by rw [← hV1]; subst e_r_4 e_r_7 e_r_8 e_pl_13 e_sp_14 e_r_16; first | (simp only [lX2_wander_2, if_neg c_5, if_pos c_6, if_pos c_17]; done) | (simp only [lX2_wander_2, if_neg c_5, if_pos c_6, if_pos c_17]; rfl) | rfl | (simp [lX2_wander_2, if_neg c_5, if_pos c_6, if_pos c_17]; done))
            · refine r_aload_n (pc := 76) C dX2_wander_76 0 rfl ?_
              refine r_get (pc := 77) C fl_X2_9 dX2_wander_77 0 rfl rfl ?_
              refine r_iload_n (pc := 80) C dX2_wander_80 2 rfl ?_
              refine r_iload_n (pc := 81) C dX2_wander_81 3 rfl ?_
              obtain ⟨pl_18, e_pl_18⟩ : ∃ z : Nat → Int32, z = upd pl_13 x2_1 r_7 := ⟨_, rfl⟩
              refine r_iast (pc := 82) x2_1 (wMom g za zp zq pl_18 sp_14 be ti ++ wTol g zb zd dr pz sl tp) C dX2_wander_82 1 rfl rfl (by omega) (by decide) (by rw [← e_pl_18]; rfl) ?_
              refine r_iinc (pc := 83) (nI (x2_1 + 1)) [(2, .int (nI (x2_1 + 1))), (0, .ref za), (1, .ref zb), (3, .int r_7)] C dX2_wander_83 2 rfl (inc1 _) (by decide) rfl ?_
              refine r_goto (pc := 86) 2 C dX2_wander_86 (by decide) ?_
              refine u_lv [(0, .ref za), (1, .ref zb), (2, .int (nI (x2_1 + 1)))] [1, 2, 0] rfl ?_
              exact ih (x2_1 + 1) pl_18 sp_14 (by omega) (by rw [← hV1]; subst e_r_4 e_r_7 e_r_8 e_pl_13 e_sp_14 e_r_16 e_pl_18; first | (simp only [lX2_wander_2, if_neg c_5, if_pos c_6, if_neg c_17]; done) | (simp only [lX2_wander_2, if_neg c_5, if_pos c_6, if_neg c_17]; rfl) | rfl | (simp [lX2_wander_2, if_neg c_5, if_pos c_6, if_neg c_17]; done))
          refine r_icmpeq (pc := 58) 68 C dX2_wander_58 (by decide) (fun c_9 => ?_) (fun c_9 => ?_)
          · refine u_lv [(0, .ref za), (1, .ref zb), (2, .int (nI x2_1)), (3, .int r_7)] [2, 3, 4, 1] rfl ?_
            exact hJ_15 _ _ (by first | (simp only [if_pos c_9]; done) | (simp only [if_pos c_9]; rfl) | rfl | (simp [if_pos c_9]; done)) (by first | (simp only [if_pos c_9]; done) | (simp only [if_pos c_9]; rfl) | rfl | (simp [if_pos c_9]; done))
          · obtain ⟨h_10, qh_10⟩ := natc (x := r_8) (B := 6) (by omega) (by subst e_r_8; exact who_nat c_9)
            refine u_lvq [(4, .int (nI r_8.toNatClampNeg)), (3, .int r_7), (0, .ref za), (1, .ref zb), (2, .int (nI x2_1))] (by rw [qh_10]) ?_
            refine r_aload_n (pc := 61) C dX2_wander_61 2 rfl ?_
            refine r_iload_n (pc := 62) C dX2_wander_62 4 rfl ?_
            refine r_iload (pc := 63) C dX2_wander_63 0 rfl ?_
            obtain ⟨pl_11, e_pl_11⟩ : ∃ z : Nat → Int32, z = (fX2_meet pl0_1 sp0_1 x2_1 r_8.toNatClampNeg).1 := ⟨_, rfl⟩
            obtain ⟨sp_12, e_sp_12⟩ : ∃ z : Nat → Int32, z = (fX2_meet pl0_1 sp0_1 x2_1 r_8.toNatClampNeg).2 := ⟨_, rfl⟩
            refine v_cV (pc := 65) (wMom g za zp zq pl_11 sp_12 be ti ++ wTol g zb zd dr pz sl tp) C mv_X2_85 (ctX2_meet l g za zp zq pl0_1 sp0_1 be ti x2_1 r_8.toNatClampNeg (by omega) (by omega)) dX2_wander_65 (by decide) [0, 1, 2] rfl (by decide) rfl (by rw [← e_pl_11, ← e_sp_12]; rfl) 0 rfl rfl (Nat.le_of_ble_eq_true rfl) ⟨Nat.zero_le _, Nat.zero_le _⟩ ?_
            refine u_lv [(0, .ref za), (1, .ref zb), (2, .int (nI x2_1)), (3, .int r_7)] [2, 3, 4, 1] rfl ?_
            exact hJ_15 _ _ (by subst e_pl_11 e_sp_12; first | (simp only [if_neg c_9]; done) | (simp only [if_neg c_9]; rfl) | rfl | (simp [if_neg c_9]; done)) (by subst e_pl_11 e_sp_12; first | (simp only [if_neg c_9]; done) | (simp only [if_neg c_9]; rfl) | rfl | (simp [if_neg c_9]; done))
        · refine r_goto (pc := 29) 83 C dX2_wander_29 (by decide) ?_
          refine r_iinc (pc := 83) (nI (x2_1 + 1)) [(2, .int (nI (x2_1 + 1))), (0, .ref za), (1, .ref zb)] C dX2_wander_83 2 rfl (inc1 _) (by decide) rfl ?_
          refine r_goto (pc := 86) 2 C dX2_wander_86 (by decide) ?_
          refine u_lv [(0, .ref za), (1, .ref zb), (2, .int (nI (x2_1 + 1)))] [1, 2, 0] rfl ?_
          exact ih (x2_1 + 1) pl0_1 sp0_1 (by omega) (by rw [← hV1]; subst e_r_4; first | (simp only [lX2_wander_2, if_neg c_5, if_neg c_6]; done) | (simp only [lX2_wander_2, if_neg c_5, if_neg c_6]; rfl) | rfl | (simp [lX2_wander_2, if_neg c_5, if_neg c_6]; done))
  refine u_lv [(0, .ref za), (1, .ref zb), (2, .int 0)] [1, 2, 0] rfl ?_
  exact hL1 6 0 pl sp (by omega) rfl
theorem ctX2_wander (l : Launch) (g : Gl) (za : Nat) (zp : Nat) (zq : Nat) (zb : Nat) (zd : Nat) (pl : Nat → Int32) (sp : Nat → Int32) (be : Int32) (ti : Int32) (dr : Nat → Int32) (pz : Int32) (sl : Int32) (tp : Nat) : CtV l g yX2_wander cX2_wander 5 2 [.ref za, .ref zb] (wMom g za zp zq pl sp be ti ++ wTol g zb zd dr pz sl tp) (wMom g za zp zq ((fX2_wander pl sp ti pz sl).1) ((fX2_wander pl sp ti pz sl).2) be ti ++ wTol g zb zd dr pz sl tp) := mkV [(0, .ref za), (1, .ref zb)] (by decide) (Nat.le_of_ble_eq_true rfl) rfl (fun X C hR => bX2_wander C za zp zq zb zd pl sp be ti dr pz sl tp hR)

def lX2_goBy_8 (dr : Nat → Int32) (ti : Int32) (pz : Int32) (sl : Int32) : Nat → (Nat) → (Nat → Int32) → (Nat → Int32) → (Int32) → (Nat → Int32) × (Nat → Int32) × (Int32)
  | 0, x4_2, pl0_2, sp0_2, be0_2 => ((pl0_2, sp0_2, be0_2))
  | n + 1, x4_2, pl0_2, sp0_2, be0_2 => (let be_5 : Int32 := be0_2 + 1; let pl_6 : Nat → Int32 := (fX2_slowDown pl0_2 sp0_2 dr).1; let sp_7 : Nat → Int32 := (fX2_slowDown pl0_2 sp0_2 dr).2; if ti = 0 then (lX2_goBy_8 dr ti pz sl n (x4_2 + 1) pl_6 sp_7 be_5) else (let pl_9 : Nat → Int32 := (fX2_wander pl_6 sp_7 ti pz sl).1; let sp_10 : Nat → Int32 := (fX2_wander pl_6 sp_7 ti pz sl).2; lX2_goBy_8 dr ti pz sl n (x4_2 + 1) pl_9 sp_10 be_5))
def fX2_goBy (pl : Nat → Int32) (sp : Nat → Int32) (be : Int32) (ti : Int32) (dr : Nat → Int32) (pz : Int32) (sl : Int32) (m : Nat) : (Int32) × (Nat → Int32) × (Nat → Int32) × (Int32) := (let r_1 : Int32 := fX2_howMany sp; let o2 := lX2_goBy_8 dr ti pz sl m 0 pl sp be; let pl0_11 : Nat → Int32 := o2.1; let sp0_12 : Nat → Int32 := o2.2.1; let be0_13 : Int32 := o2.2.2; let r_14 : Int32 := fX2_howMany sp0_12; ((r_1 - r_14), pl0_11, sp0_12, be0_13))
set_option maxHeartbeats 4000000 in
set_option maxRecDepth 100000 in
theorem bX2_goBy {l : Launch} {g : Gl} {X : Cx} (C : Ok l g X RX2 cX2_goBy 5 3) (za : Nat) (zp : Nat) (zq : Nat) (zb : Nat) (zd : Nat) (pl : Nat → Int32) (sp : Nat → Int32) (be : Int32) (ti : Int32) (dr : Nat → Int32) (pz : Int32) (sl : Int32) (tp : Nat) (m : Nat) (q0 : m < 2 ^ 31) (hR : RetI g X cX2_goBy 5 0 0 ((fX2_goBy pl sp be ti dr pz sl m).1) (wMom g za zp zq ((fX2_goBy pl sp be ti dr pz sl m).2.1) ((fX2_goBy pl sp be ti dr pz sl m).2.2.1) ((fX2_goBy pl sp be ti dr pz sl m).2.2.2) ti ++ wTol g zb zd dr pz sl tp)) : Vw g X 5 0 0 (wMom g za zp zq pl sp be ti ++ wTol g zb zd dr pz sl tp) 0 [(0, .ref za), (1, .ref zb), (2, .int (nI m))] [] := by
  refine r_aload_n (pc := 0) C dX2_goBy_0 0 rfl ?_
  refine v_pI (pc := 1) C mv_X2_58 (ctX2_howMany l g za zp zq pl sp be ti  ) dX2_goBy_1 (by decide) [0, 1, 2] rfl (by decide) 0 rfl rfl (Nat.le_of_ble_eq_true rfl) ⟨Nat.zero_le _, Nat.zero_le _⟩ ?_
  refine u_int (fun r_1 e_r_1 => ?_)
  refine r_istore_n (pc := 4) [(3, .int r_1), (0, .ref za), (1, .ref zb), (2, .int (nI m))] C dX2_goBy_4 (by decide) rfl ?_
  refine r_iconst (pc := 5) 0 C dX2_goBy_5 rfl ?_
  refine r_istore (pc := 6) [(4, .int 0), (3, .int r_1), (0, .ref za), (1, .ref zb), (2, .int (nI m))] C dX2_goBy_6 (by decide) rfl ?_
  have hX2 : ∀ (pl0_11 : Nat → Int32) (sp0_12 : Nat → Int32) (be0_13 : Int32) , pl0_11 = (lX2_goBy_8 dr ti pz sl m 0 pl sp be).1 → sp0_12 = (lX2_goBy_8 dr ti pz sl m 0 pl sp be).2.1 → be0_13 = (lX2_goBy_8 dr ti pz sl m 0 pl sp be).2.2 → Vw g X 5 0 0 (wMom g za zp zq pl0_11 sp0_12 be0_13 ti ++ wTol g zb zd dr pz sl tp) 47 [(0, .ref za), (3, .int r_1)] [] := by
    intro pl0_11 sp0_12 be0_13 e_pl0_11 e_sp0_12 e_be0_13 
    refine r_iload_n (pc := 47) C dX2_goBy_47 1 rfl ?_
    refine r_aload_n (pc := 48) C dX2_goBy_48 0 rfl ?_
    refine v_pI (pc := 49) C mv_X2_58 (ctX2_howMany l g za zp zq pl0_11 sp0_12 be0_13 ti  ) dX2_goBy_49 (by decide) [0, 1, 2] rfl (by decide) 0 rfl rfl (Nat.le_of_ble_eq_true rfl) ⟨Nat.zero_le _, Nat.zero_le _⟩ ?_
    refine u_int (fun r_14 e_r_14 => ?_)
    refine r_isub (pc := 52) C dX2_goBy_52 ?_
    have hf : fX2_goBy pl sp be ti dr pz sl m = ((r_1 - r_14), pl0_11, sp0_12, be0_13) := by subst e_r_1 e_pl0_11 e_sp0_12 e_be0_13 e_r_14; first | rfl | (simp only [fX2_goBy]; done) | (simp [fX2_goBy]; done)
    rw [hf] at hR
    exact hR _ _ dX2_goBy_53
  have hL2 : ∀ (n : Nat) (x4_2 : Nat) (pl0_2 : Nat → Int32) (sp0_2 : Nat → Int32) (be0_2 : Int32) , x4_2 + n = m → lX2_goBy_8 dr ti pz sl n x4_2 pl0_2 sp0_2 be0_2 = lX2_goBy_8 dr ti pz sl m 0 pl sp be → Vw g X 5 0 0 (wMom g za zp zq pl0_2 sp0_2 be0_2 ti ++ wTol g zb zd dr pz sl tp) 8 [(0, .ref za), (1, .ref zb), (2, .int (nI m)), (3, .int r_1), (4, .int (nI x4_2))] [] := by
    intro n
    induction n with
    | zero =>
      intro x4_2 pl0_2 sp0_2 be0_2 hr2 hV2
      refine r_iload (pc := 8) C dX2_goBy_8 4 rfl ?_
      refine r_iload_n (pc := 10) C dX2_goBy_10 2 rfl ?_
      refine r_icmpgeN (pc := 11) x4_2 m 47 C dX2_goBy_11 (by decide) rfl rfl (by omega) (by omega) (fun _ => ?_) (fun c_3 => absurd (by omega) c_3)
      refine u_lv [(0, .ref za), (3, .int r_1)] [0, 3] rfl ?_
      exact hX2 _ _ _ (by rw [← hV2]; first | rfl | (simp only [lX2_goBy_8]; done) | (simp [lX2_goBy_8]; done)) (by rw [← hV2]; first | rfl | (simp only [lX2_goBy_8]; done) | (simp [lX2_goBy_8]; done)) (by rw [← hV2]; first | rfl | (simp only [lX2_goBy_8]; done) | (simp [lX2_goBy_8]; done))
    | succ n ih =>
      intro x4_2 pl0_2 sp0_2 be0_2 hr2 hV2
      refine r_iload (pc := 8) C dX2_goBy_8 4 rfl ?_
      refine r_iload_n (pc := 10) C dX2_goBy_10 2 rfl ?_
      refine r_icmpgeN (pc := 11) x4_2 m 47 C dX2_goBy_11 (by decide) rfl rfl (by omega) (by omega) (fun c_4 => absurd c_4 (by omega)) (fun _ => ?_)
      refine r_aload_n (pc := 14) C dX2_goBy_14 0 rfl ?_
      refine r_dup (pc := 15) C dX2_goBy_15 rfl ?_
      refine r_get (pc := 16) C fl_X2_18 dX2_goBy_16 0 rfl rfl ?_
      refine r_iconst (pc := 19) 1 C dX2_goBy_19 rfl ?_
      refine r_iadd (pc := 20) C dX2_goBy_20 ?_
      refine u_int (fun be_5 e_be_5 => ?_)
      refine r_put (pc := 21) (wMom g za zp zq pl0_2 sp0_2 be_5 ti ++ wTol g zb zd dr pz sl tp) C fp_X2_18 dX2_goBy_21 0 rfl (Nat.le_of_ble_eq_true rfl) rfl rfl rfl ?_
      refine r_aload_n (pc := 24) C dX2_goBy_24 0 rfl ?_
      refine r_aload_n (pc := 25) C dX2_goBy_25 1 rfl ?_
      obtain ⟨pl_6, e_pl_6⟩ : ∃ z : Nat → Int32, z = (fX2_slowDown pl0_2 sp0_2 dr).1 := ⟨_, rfl⟩
      obtain ⟨sp_7, e_sp_7⟩ : ∃ z : Nat → Int32, z = (fX2_slowDown pl0_2 sp0_2 dr).2 := ⟨_, rfl⟩
      refine v_cV (pc := 26) (wMom g za zp zq pl_6 sp_7 be_5 ti ++ wTol g zb zd dr pz sl tp) C mv_X2_61 (ctX2_slowDown l g za zp zq zb zd pl0_2 sp0_2 be_5 ti dr pz sl tp  ) dX2_goBy_26 (by decide) [0, 1, 2, 3, 4] rfl (by decide) rfl (by rw [← e_pl_6, ← e_sp_7]; rfl) 0 rfl rfl (Nat.le_of_ble_eq_true rfl) ⟨Nat.zero_le _, Nat.zero_le _⟩ ?_
      refine r_aload_n (pc := 29) C dX2_goBy_29 0 rfl ?_
      refine r_get (pc := 30) C fl_X2_22 dX2_goBy_30 0 rfl rfl ?_
      refine r_ifeq (pc := 33) 41 C dX2_goBy_33 (by decide) (fun c_8 => ?_) (fun c_8 => ?_)
      · refine r_iinc (pc := 41) (nI (x4_2 + 1)) [(4, .int (nI (x4_2 + 1))), (0, .ref za), (1, .ref zb), (2, .int (nI m)), (3, .int r_1)] C dX2_goBy_41 4 rfl (inc1 _) (by decide) rfl ?_
        refine r_goto (pc := 44) 8 C dX2_goBy_44 (by decide) ?_
        refine u_lv [(0, .ref za), (1, .ref zb), (2, .int (nI m)), (3, .int r_1), (4, .int (nI (x4_2 + 1)))] [1, 2, 3, 4, 0] rfl ?_
        exact ih (x4_2 + 1) pl_6 sp_7 be_5 (by omega) (by rw [← hV2]; subst e_be_5 e_pl_6 e_sp_7; first | (simp only [lX2_goBy_8, if_pos c_8]; done) | (simp only [lX2_goBy_8, if_pos c_8]; rfl) | rfl | (simp [lX2_goBy_8, if_pos c_8]; done))
      · refine r_aload_n (pc := 36) C dX2_goBy_36 0 rfl ?_
        refine r_aload_n (pc := 37) C dX2_goBy_37 1 rfl ?_
        obtain ⟨pl_9, e_pl_9⟩ : ∃ z : Nat → Int32, z = (fX2_wander pl_6 sp_7 ti pz sl).1 := ⟨_, rfl⟩
        obtain ⟨sp_10, e_sp_10⟩ : ∃ z : Nat → Int32, z = (fX2_wander pl_6 sp_7 ti pz sl).2 := ⟨_, rfl⟩
        refine v_cV (pc := 38) (wMom g za zp zq pl_9 sp_10 be_5 ti ++ wTol g zb zd dr pz sl tp) C mv_X2_65 (ctX2_wander l g za zp zq zb zd pl_6 sp_7 be_5 ti dr pz sl tp  ) dX2_goBy_38 (by decide) [0, 1, 2, 3, 4] rfl (by decide) rfl (by rw [← e_pl_9, ← e_sp_10]; rfl) 0 rfl rfl (Nat.le_of_ble_eq_true rfl) ⟨Nat.zero_le _, Nat.zero_le _⟩ ?_
        refine r_iinc (pc := 41) (nI (x4_2 + 1)) [(4, .int (nI (x4_2 + 1))), (0, .ref za), (1, .ref zb), (2, .int (nI m)), (3, .int r_1)] C dX2_goBy_41 4 rfl (inc1 _) (by decide) rfl ?_
        refine r_goto (pc := 44) 8 C dX2_goBy_44 (by decide) ?_
        refine u_lv [(0, .ref za), (1, .ref zb), (2, .int (nI m)), (3, .int r_1), (4, .int (nI (x4_2 + 1)))] [1, 2, 3, 4, 0] rfl ?_
        exact ih (x4_2 + 1) pl_9 sp_10 be_5 (by omega) (by rw [← hV2]; subst e_be_5 e_pl_6 e_sp_7 e_pl_9 e_sp_10; first | (simp only [lX2_goBy_8, if_neg c_8]; done) | (simp only [lX2_goBy_8, if_neg c_8]; rfl) | rfl | (simp [lX2_goBy_8, if_neg c_8]; done))
  refine u_lv [(0, .ref za), (1, .ref zb), (2, .int (nI m)), (3, .int r_1), (4, .int 0)] [2, 3, 4, 1, 0] rfl ?_
  exact hL2 m 0 pl sp be (by omega) rfl
theorem ctX2_goBy (l : Launch) (g : Gl) (za : Nat) (zp : Nat) (zq : Nat) (zb : Nat) (zd : Nat) (pl : Nat → Int32) (sp : Nat → Int32) (be : Int32) (ti : Int32) (dr : Nat → Int32) (pz : Int32) (sl : Int32) (tp : Nat) (m : Nat) (q0 : m < 2 ^ 31) : CtI l g yX2_goBy cX2_goBy 5 (some .int) 3 [.ref za, .ref zb, .int (nI m)] (wMom g za zp zq pl sp be ti ++ wTol g zb zd dr pz sl tp) ((fX2_goBy pl sp be ti dr pz sl m).1) (wMom g za zp zq ((fX2_goBy pl sp be ti dr pz sl m).2.1) ((fX2_goBy pl sp be ti dr pz sl m).2.2.1) ((fX2_goBy pl sp be ti dr pz sl m).2.2.2) ti ++ wTol g zb zd dr pz sl tp) := mkI .int rfl rfl [(0, .ref za), (1, .ref zb), (2, .int (nI m))] (by decide) (Nat.le_of_ble_eq_true rfl) rfl (fun X C hR => bX2_goBy C za zp zq zb zd pl sp be ti dr pz sl tp m q0 hR)
end
section
def fX7_reset  : (Int32) × (Int32) × (Nat) := ((8, 10, 0))
set_option maxHeartbeats 4000000 in
set_option maxRecDepth 100000 in
theorem bX7_reset {l : Launch} {g : Gl} {X : Cx} (C : Ok l g X RX7 cX7_reset 1 0) (zb : Nat) (zd : Nat) (dr : Nat → Int32) (pz : Int32) (sl : Int32) (tp : Nat) (hR : RetV g X cX7_reset 1 0 0 (wTol g zb zd dr ((fX7_reset).1) ((fX7_reset).2.1) ((fX7_reset).2.2))) : Vw g X 1 0 0 (wTol g zb zd dr pz sl tp) 0 [(0, .ref zb)] [] := by
  refine r_aload_n (pc := 0) C dX7_reset_0 0 rfl ?_
  refine r_bipush (pc := 1) 8 C dX7_reset_1 rfl ?_
  refine r_put (pc := 3) (wTol g zb zd dr 8 sl tp) C fp_X7_15 dX7_reset_3 0 rfl (Nat.le_of_ble_eq_true rfl) rfl rfl rfl ?_
  refine r_aload_n (pc := 6) C dX7_reset_6 0 rfl ?_
  refine r_bipush (pc := 7) 10 C dX7_reset_7 rfl ?_
  refine r_put (pc := 9) (wTol g zb zd dr 8 10 tp) C fp_X7_19 dX7_reset_9 0 rfl (Nat.le_of_ble_eq_true rfl) rfl rfl rfl ?_
  refine r_aload_n (pc := 12) C dX7_reset_12 0 rfl ?_
  refine r_iconst (pc := 13) 0 C dX7_reset_13 rfl ?_
  refine r_put (pc := 14) (wTol g zb zd dr 8 10 0) C fp_X7_22 dX7_reset_14 0 rfl (Nat.le_of_ble_eq_true rfl) rfl rfl rfl ?_
  have hf : fX7_reset = (8, 10, 0) := by first | rfl | (simp only [fX7_reset]; done) | (simp [fX7_reset]; done)
  rw [hf] at hR
  exact hR _ _ dX7_reset_17
theorem ctX7_reset (l : Launch) (g : Gl) (zb : Nat) (zd : Nat) (dr : Nat → Int32) (pz : Int32) (sl : Int32) (tp : Nat) : CtV l g yX7_reset cX7_reset 1 0 [.ref zb] (wTol g zb zd dr pz sl tp) (wTol g zb zd dr ((fX7_reset).1) ((fX7_reset).2.1) ((fX7_reset).2.2)) := mkV [(0, .ref zb)] (by decide) (Nat.le_of_ble_eq_true rfl) rfl (fun X C hR => bX7_reset C zb zd dr pz sl tp hR)

def fX7_copy (dr : Nat → Int32) (dr2 : Nat → Int32) (pz2 : Int32) (sl2 : Int32) (tp2 : Nat) : (Nat → Int32) × (Int32) × (Int32) × (Nat) := (let dr_1 : Nat → Int32 := va_cpy dr2 dr 0 0 6; (dr_1, pz2, sl2, tp2))
set_option maxHeartbeats 4000000 in
set_option maxRecDepth 100000 in
theorem bX7_copy {l : Launch} {g : Gl} {X : Cx} (C : Ok l g X RX7 cX7_copy 2 1) (zb : Nat) (zd : Nat) (zb2 : Nat) (zd2 : Nat) (dr : Nat → Int32) (pz : Int32) (sl : Int32) (tp : Nat) (dr2 : Nat → Int32) (pz2 : Int32) (sl2 : Int32) (tp2 : Nat) (hR : RetV g X cX7_copy 2 0 0 (wTol g zb zd ((fX7_copy dr dr2 pz2 sl2 tp2).1) ((fX7_copy dr dr2 pz2 sl2 tp2).2.1) ((fX7_copy dr dr2 pz2 sl2 tp2).2.2.1) ((fX7_copy dr dr2 pz2 sl2 tp2).2.2.2) ++ wTol g zb2 zd2 dr2 pz2 sl2 tp2)) : Vw g X 2 0 0 (wTol g zb zd dr pz sl tp ++ wTol g zb2 zd2 dr2 pz2 sl2 tp2) 0 [(0, .ref zb), (1, .ref zb2)] [] := by
  refine r_aload_n (pc := 0) C dX7_copy_0 0 rfl ?_
  refine r_aload_n (pc := 1) C dX7_copy_1 1 rfl ?_
  refine r_get (pc := 2) C fl_X7_15 dX7_copy_2 2 rfl rfl ?_
  refine r_put (pc := 5) (wTol g zb zd dr pz2 sl tp ++ wTol g zb2 zd2 dr2 pz2 sl2 tp2) C fp_X7_15 dX7_copy_5 0 rfl (Nat.le_of_ble_eq_true rfl) rfl rfl rfl ?_
  refine r_aload_n (pc := 8) C dX7_copy_8 0 rfl ?_
  refine r_aload_n (pc := 9) C dX7_copy_9 1 rfl ?_
  refine r_get (pc := 10) C fl_X7_19 dX7_copy_10 2 rfl rfl ?_
  refine r_put (pc := 13) (wTol g zb zd dr pz2 sl2 tp ++ wTol g zb2 zd2 dr2 pz2 sl2 tp2) C fp_X7_19 dX7_copy_13 0 rfl (Nat.le_of_ble_eq_true rfl) rfl rfl rfl ?_
  refine r_aload_n (pc := 16) C dX7_copy_16 0 rfl ?_
  refine r_aload_n (pc := 17) C dX7_copy_17 1 rfl ?_
  refine r_get (pc := 18) C fl_X7_22 dX7_copy_18 2 rfl rfl ?_
  refine r_put (pc := 21) (wTol g zb zd dr pz2 sl2 tp2 ++ wTol g zb2 zd2 dr2 pz2 sl2 tp2) C fp_X7_22 dX7_copy_21 0 rfl (Nat.le_of_ble_eq_true rfl) rfl rfl rfl ?_
  refine r_aload_n (pc := 24) C dX7_copy_24 1 rfl ?_
  refine r_get (pc := 25) C fl_X7_9 dX7_copy_25 2 rfl rfl ?_
  refine r_iconst (pc := 28) 0 C dX7_copy_28 rfl ?_
  refine r_aload_n (pc := 29) C dX7_copy_29 0 rfl ?_
  refine r_get (pc := 30) C fl_X7_9 dX7_copy_30 0 rfl rfl ?_
  refine r_iconst (pc := 33) 0 C dX7_copy_33 rfl ?_
  refine r_bipush (pc := 34) 6 C dX7_copy_34 rfl ?_
  obtain ⟨dr_1, e_dr_1⟩ : ∃ z : Nat → Int32, z = va_cpy dr2 dr 0 0 6 := ⟨_, rfl⟩
  refine r_copyi (pc := 36) 6 (wTol g zb zd dr_1 pz2 sl2 tp2 ++ wTol g zb2 zd2 dr2 pz2 sl2 tp2) C dX7_copy_36 ac_X7_25 sna sst siz (by decide) 3 1 rfl rfl rfl rfl rfl (by decide) (by decide) (by decide) (Nat.le_of_ble_eq_true rfl) (by rw [← e_dr_1]; rfl) ?_
  have hf : fX7_copy dr dr2 pz2 sl2 tp2 = (dr_1, pz2, sl2, tp2) := by subst e_dr_1; first | rfl | (simp only [fX7_copy]; done) | (simp [fX7_copy]; done)
  rw [hf] at hR
  exact hR _ _ dX7_copy_39
theorem ctX7_copy (l : Launch) (g : Gl) (zb : Nat) (zd : Nat) (zb2 : Nat) (zd2 : Nat) (dr : Nat → Int32) (pz : Int32) (sl : Int32) (tp : Nat) (dr2 : Nat → Int32) (pz2 : Int32) (sl2 : Int32) (tp2 : Nat) : CtV l g yX7_copy cX7_copy 2 1 [.ref zb, .ref zb2] (wTol g zb zd dr pz sl tp ++ wTol g zb2 zd2 dr2 pz2 sl2 tp2) (wTol g zb zd ((fX7_copy dr dr2 pz2 sl2 tp2).1) ((fX7_copy dr dr2 pz2 sl2 tp2).2.1) ((fX7_copy dr dr2 pz2 sl2 tp2).2.2.1) ((fX7_copy dr dr2 pz2 sl2 tp2).2.2.2) ++ wTol g zb2 zd2 dr2 pz2 sl2 tp2) := mkV [(0, .ref zb), (1, .ref zb2)] (by decide) (Nat.le_of_ble_eq_true rfl) rfl (fun X C hR => bX7_copy C zb zd zb2 zd2 dr pz sl tp dr2 pz2 sl2 tp2 hR)

def fX6_add (le : Nat → Int32) (ln : Nat) (c : Int32) : (Int32) × (Nat → Int32) × (Nat) := (if ln < 120 then (let le_2 : Nat → Int32 := upd le ln c; (1, le_2, (ln + 1))) else ((0, le, ln)))
set_option maxHeartbeats 4000000 in
set_option maxRecDepth 100000 in
theorem bX6_add {l : Launch} {g : Gl} {X : Cx} (C : Ok l g X RX6 cX6_add 2 0) (zx : Nat) (zxa : Nat) (le : Nat → Int32) (ln : Nat) (c : Int32) (q0 : ln ≤ 120) (hR : RetI g X cX6_add 2 0 0 ((fX6_add le ln c).1) (wTex g zx zxa ((fX6_add le ln c).2.1) ((fX6_add le ln c).2.2))) : Vw g X 2 0 0 (wTex g zx zxa le ln) 0 [(0, .ref zx), (1, .int c)] [] := by
  refine r_aload_n (pc := 0) C dX6_add_0 0 rfl ?_
  refine r_get (pc := 1) C fl_X6_15 dX6_add_1 0 rfl rfl ?_
  refine r_bipush (pc := 4) 120 C dX6_add_4 rfl ?_
  refine r_icmpltN (pc := 6) ln 120 11 C dX6_add_6 (by decide) rfl rfl (by omega) (by omega) (fun c_1 => ?_) (fun c_1 => ?_)
  · refine r_aload_n (pc := 11) C dX6_add_11 0 rfl ?_
    refine r_get (pc := 12) C fl_X6_9 dX6_add_12 0 rfl rfl ?_
    refine r_aload_n (pc := 15) C dX6_add_15 0 rfl ?_
    refine r_get (pc := 16) C fl_X6_15 dX6_add_16 0 rfl rfl ?_
    refine r_iload_n (pc := 19) C dX6_add_19 1 rfl ?_
    obtain ⟨le_2, e_le_2⟩ : ∃ z : Nat → Int32, z = upd le ln c := ⟨_, rfl⟩
    refine r_iast (pc := 20) ln (wTex g zx zxa le_2 ln) C dX6_add_20 1 rfl rfl (by omega) (by decide) (by rw [← e_le_2]; rfl) ?_
    refine r_aload_n (pc := 21) C dX6_add_21 0 rfl ?_
    refine r_dup (pc := 22) C dX6_add_22 rfl ?_
    refine r_get (pc := 23) C fl_X6_15 dX6_add_23 0 rfl rfl ?_
    refine r_iconst (pc := 26) 1 C dX6_add_26 rfl ?_
    refine r_iaddN (pc := 27) ln 1 C dX6_add_27 rfl rfl ?_
    refine r_put (pc := 28) (wTex g zx zxa le_2 (ln + 1)) C fp_X6_15 dX6_add_28 0 rfl (Nat.le_of_ble_eq_true rfl) rfl rfl rfl ?_
    refine r_iconst (pc := 31) 1 C dX6_add_31 rfl ?_
    have hf : fX6_add le ln c = (1, le_2, (ln + 1)) := by subst e_le_2; first | (simp only [fX6_add, if_pos c_1]; done) | (simp only [fX6_add, if_pos c_1]; rfl) | rfl | (simp [fX6_add, if_pos c_1]; done)
    rw [hf] at hR
    exact hR _ _ dX6_add_32
  · refine r_iconst (pc := 9) 0 C dX6_add_9 rfl ?_
    have hf : fX6_add le ln c = (0, le, ln) := by first | (simp only [fX6_add, if_neg c_1]; done) | (simp only [fX6_add, if_neg c_1]; rfl) | rfl | (simp [fX6_add, if_neg c_1]; done)
    rw [hf] at hR
    exact hR _ _ dX6_add_10
theorem zX6_add (le : Nat → Int32) (ln : Nat) (c : Int32) : (fX6_add le ln c).1 = 0 ∨ (fX6_add le ln c).1 = 1 := by unfold fX6_add; repeat (first | split | simp)
theorem ctX6_add (l : Launch) (g : Gl) (zx : Nat) (zxa : Nat) (le : Nat → Int32) (ln : Nat) (c : Int32) (q0 : ln ≤ 120) : CtI l g yX6_add cX6_add 2 (some .boolean) 0 [.ref zx, .int c] (wTex g zx zxa le ln) ((fX6_add le ln c).1) (wTex g zx zxa ((fX6_add le ln c).2.1) ((fX6_add le ln c).2.2)) := mkI .boolean rfl (nar_b (zX6_add le ln c)) [(0, .ref zx), (1, .int c)] (by decide) (Nat.le_of_ble_eq_true rfl) rfl (fun X C hR => bX6_add C zx zxa le ln c q0 hR)

def fX8_within (a1 : Int32) (a2 : Int32) (a3 : Int32) : (Int32) := (if a1 < a2 then (0) else (if a3 < a1 then (0) else (1)))
set_option maxHeartbeats 4000000 in
set_option maxRecDepth 100000 in
theorem bX8_within {l : Launch} {g : Gl} {X : Cx} (C : Ok l g X RX8 cX8_within 3 0) (a1 : Int32) (a2 : Int32) (a3 : Int32) (hR : RetI g X cX8_within 3 0 0 (fX8_within a1 a2 a3) ([] : va_W)) : Vw g X 3 0 0 ([] : va_W) 0 [(0, .int a1), (1, .int a2), (2, .int a3)] [] := by
  refine r_iload_n (pc := 0) C dX8_within_0 0 rfl ?_
  refine r_iload_n (pc := 1) C dX8_within_1 1 rfl ?_
  refine r_icmplt (pc := 2) 14 C dX8_within_2 (by decide) (fun c_1 => ?_) (fun c_1 => ?_)
  · refine r_iconst (pc := 14) 0 C dX8_within_14 rfl ?_
    have hf : fX8_within a1 a2 a3 = 0 := by first | (simp only [fX8_within, if_pos c_1]; done) | (simp only [fX8_within, if_pos c_1]; rfl) | rfl | (simp [fX8_within, if_pos c_1]; done)
    rw [hf] at hR
    exact hR _ _ dX8_within_15
  · refine r_iload_n (pc := 5) C dX8_within_5 0 rfl ?_
    refine r_iload_n (pc := 6) C dX8_within_6 2 rfl ?_
    refine r_icmpgt (pc := 7) 14 C dX8_within_7 (by decide) (fun c_2 => ?_) (fun c_2 => ?_)
    · refine r_iconst (pc := 14) 0 C dX8_within_14 rfl ?_
      have hf : fX8_within a1 a2 a3 = 0 := by first | (simp only [fX8_within, if_neg c_1, if_pos c_2]; done) | (simp only [fX8_within, if_neg c_1, if_pos c_2]; rfl) | rfl | (simp [fX8_within, if_neg c_1, if_pos c_2]; done)
      rw [hf] at hR
      exact hR _ _ dX8_within_15
    · refine r_iconst (pc := 10) 1 C dX8_within_10 rfl ?_
      refine r_goto (pc := 11) 15 C dX8_within_11 (by decide) ?_
      have hf : fX8_within a1 a2 a3 = 1 := by first | (simp only [fX8_within, if_neg c_1, if_neg c_2]; done) | (simp only [fX8_within, if_neg c_1, if_neg c_2]; rfl) | rfl | (simp [fX8_within, if_neg c_1, if_neg c_2]; done)
      rw [hf] at hR
      exact hR _ _ dX8_within_15
theorem zX8_within (a1 : Int32) (a2 : Int32) (a3 : Int32) : fX8_within a1 a2 a3 = 0 ∨ fX8_within a1 a2 a3 = 1 := by unfold fX8_within; repeat (first | split | simp)
theorem ctX8_within (l : Launch) (g : Gl) (a1 : Int32) (a2 : Int32) (a3 : Int32) : CtI l g yX8_within cX8_within 3 (some .boolean) 0 [.int a1, .int a2, .int a3] ([] : va_W) (fX8_within a1 a2 a3) ([] : va_W) := mkI .boolean rfl (nar_b (zX8_within a1 a2 a3)) [(0, .int a1), (1, .int a2), (2, .int a3)] (by decide) (Nat.le_of_ble_eq_true rfl) rfl (fun X C hR => bX8_within C a1 a2 a3 hR)

def fX8_isSpin (a1 : Int32) : (Int32) := (let r_1 : Int32 := fX8_within a1 1 60; r_1)
set_option maxHeartbeats 4000000 in
set_option maxRecDepth 100000 in
theorem bX8_isSpin {l : Launch} {g : Gl} {X : Cx} (C : Ok l g X RX8 cX8_isSpin 1 1) (a1 : Int32) (hR : RetI g X cX8_isSpin 1 0 0 (fX8_isSpin a1) ([] : va_W)) : Vw g X 1 0 0 ([] : va_W) 0 [(0, .int a1)] [] := by
  refine r_iload_n (pc := 0) C dX8_isSpin_0 0 rfl ?_
  refine r_iconst (pc := 1) 1 C dX8_isSpin_1 rfl ?_
  refine r_bipush (pc := 2) 60 C dX8_isSpin_2 rfl ?_
  refine s_pI (pc := 4) C ms_X8_75 (ctX8_within l g   a1 1 60 ) dX8_isSpin_4 (by decide) [] rfl (by decide) rfl (Nat.le_of_ble_eq_true rfl) ⟨Nat.zero_le _, Nat.zero_le _⟩ ?_
  refine u_int (fun r_1 e_r_1 => ?_)
  have hf : fX8_isSpin a1 = r_1 := by subst e_r_1; first | rfl | (simp only [fX8_isSpin]; done) | (simp [fX8_isSpin]; done)
  rw [hf] at hR
  exact hR _ _ dX8_isSpin_7
theorem zX8_isSpin (a1 : Int32) : fX8_isSpin a1 = 0 ∨ fX8_isSpin a1 = 1 := by unfold fX8_isSpin; exact zX8_within _ _ _
theorem ctX8_isSpin (l : Launch) (g : Gl) (a1 : Int32) : CtI l g yX8_isSpin cX8_isSpin 1 (some .boolean) 1 [.int a1] ([] : va_W) (fX8_isSpin a1) ([] : va_W) := mkI .boolean rfl (nar_b (zX8_isSpin a1)) [(0, .int a1)] (by decide) (Nat.le_of_ble_eq_true rfl) rfl (fun X C hR => bX8_isSpin C a1 hR)

def fX8_isWhip (a1 : Int32) : (Int32) := (let r_1 : Int32 := fX8_within a1 1 20; r_1)
set_option maxHeartbeats 4000000 in
set_option maxRecDepth 100000 in
theorem bX8_isWhip {l : Launch} {g : Gl} {X : Cx} (C : Ok l g X RX8 cX8_isWhip 1 1) (a1 : Int32) (hR : RetI g X cX8_isWhip 1 0 0 (fX8_isWhip a1) ([] : va_W)) : Vw g X 1 0 0 ([] : va_W) 0 [(0, .int a1)] [] := by
  refine r_iload_n (pc := 0) C dX8_isWhip_0 0 rfl ?_
  refine r_iconst (pc := 1) 1 C dX8_isWhip_1 rfl ?_
  refine r_bipush (pc := 2) 20 C dX8_isWhip_2 rfl ?_
  refine s_pI (pc := 4) C ms_X8_75 (ctX8_within l g   a1 1 20 ) dX8_isWhip_4 (by decide) [] rfl (by decide) rfl (Nat.le_of_ble_eq_true rfl) ⟨Nat.zero_le _, Nat.zero_le _⟩ ?_
  refine u_int (fun r_1 e_r_1 => ?_)
  have hf : fX8_isWhip a1 = r_1 := by subst e_r_1; first | rfl | (simp only [fX8_isWhip]; done) | (simp [fX8_isWhip]; done)
  rw [hf] at hR
  exact hR _ _ dX8_isWhip_7
theorem zX8_isWhip (a1 : Int32) : fX8_isWhip a1 = 0 ∨ fX8_isWhip a1 = 1 := by unfold fX8_isWhip; exact zX8_within _ _ _
theorem ctX8_isWhip (l : Launch) (g : Gl) (a1 : Int32) : CtI l g yX8_isWhip cX8_isWhip 1 (some .boolean) 1 [.int a1] ([] : va_W) (fX8_isWhip a1) ([] : va_W) := mkI .boolean rfl (nar_b (zX8_isWhip a1)) [(0, .int a1)] (by decide) (Nat.le_of_ble_eq_true rfl) rfl (fun X C hR => bX8_isWhip C a1 hR)

def fX8_isAhead (a1 : Int32) : (Int32) := (let r_1 : Int32 := fX8_within a1 0 60; r_1)
set_option maxHeartbeats 4000000 in
set_option maxRecDepth 100000 in
theorem bX8_isAhead {l : Launch} {g : Gl} {X : Cx} (C : Ok l g X RX8 cX8_isAhead 1 1) (a1 : Int32) (hR : RetI g X cX8_isAhead 1 0 0 (fX8_isAhead a1) ([] : va_W)) : Vw g X 1 0 0 ([] : va_W) 0 [(0, .int a1)] [] := by
  refine r_iload_n (pc := 0) C dX8_isAhead_0 0 rfl ?_
  refine r_iconst (pc := 1) 0 C dX8_isAhead_1 rfl ?_
  refine r_bipush (pc := 2) 60 C dX8_isAhead_2 rfl ?_
  refine s_pI (pc := 4) C ms_X8_75 (ctX8_within l g   a1 0 60 ) dX8_isAhead_4 (by decide) [] rfl (by decide) rfl (Nat.le_of_ble_eq_true rfl) ⟨Nat.zero_le _, Nat.zero_le _⟩ ?_
  refine u_int (fun r_1 e_r_1 => ?_)
  have hf : fX8_isAhead a1 = r_1 := by subst e_r_1; first | rfl | (simp only [fX8_isAhead]; done) | (simp [fX8_isAhead]; done)
  rw [hf] at hR
  exact hR _ _ dX8_isAhead_7
theorem zX8_isAhead (a1 : Int32) : fX8_isAhead a1 = 0 ∨ fX8_isAhead a1 = 1 := by unfold fX8_isAhead; exact zX8_within _ _ _
theorem ctX8_isAhead (l : Launch) (g : Gl) (a1 : Int32) : CtI l g yX8_isAhead cX8_isAhead 1 (some .boolean) 1 [.int a1] ([] : va_W) (fX8_isAhead a1) ([] : va_W) := mkI .boolean rfl (nar_b (zX8_isAhead a1)) [(0, .int a1)] (by decide) (Nat.le_of_ble_eq_true rfl) rfl (fun X C hR => bX8_isAhead C a1 hR)

def fX8_isImage (a1 : Int32) : (Int32) := (let r_1 : Int32 := fX8_within a1 0 1; r_1)
set_option maxHeartbeats 4000000 in
set_option maxRecDepth 100000 in
theorem bX8_isImage {l : Launch} {g : Gl} {X : Cx} (C : Ok l g X RX8 cX8_isImage 1 1) (a1 : Int32) (hR : RetI g X cX8_isImage 1 0 0 (fX8_isImage a1) ([] : va_W)) : Vw g X 1 0 0 ([] : va_W) 0 [(0, .int a1)] [] := by
  refine r_iload_n (pc := 0) C dX8_isImage_0 0 rfl ?_
  refine r_iconst (pc := 1) 0 C dX8_isImage_1 rfl ?_
  refine r_iconst (pc := 2) 1 C dX8_isImage_2 rfl ?_
  refine s_pI (pc := 3) C ms_X8_75 (ctX8_within l g   a1 0 1 ) dX8_isImage_3 (by decide) [] rfl (by decide) rfl (Nat.le_of_ble_eq_true rfl) ⟨Nat.zero_le _, Nat.zero_le _⟩ ?_
  refine u_int (fun r_1 e_r_1 => ?_)
  have hf : fX8_isImage a1 = r_1 := by subst e_r_1; first | rfl | (simp only [fX8_isImage]; done) | (simp [fX8_isImage]; done)
  rw [hf] at hR
  exact hR _ _ dX8_isImage_6
theorem zX8_isImage (a1 : Int32) : fX8_isImage a1 = 0 ∨ fX8_isImage a1 = 1 := by unfold fX8_isImage; exact zX8_within _ _ _
theorem ctX8_isImage (l : Launch) (g : Gl) (a1 : Int32) : CtI l g yX8_isImage cX8_isImage 1 (some .boolean) 1 [.int a1] ([] : va_W) (fX8_isImage a1) ([] : va_W) := mkI .boolean rfl (nar_b (zX8_isImage a1)) [(0, .int a1)] (by decide) (Nat.le_of_ble_eq_true rfl) rfl (fun X C hR => bX8_isImage C a1 hR)

def lX8_power_4 (ba : Int32) : Nat → (Int32) → (Nat) → (Int32)
  | 0, x2_1, x3_1 => (x2_1)
  | n + 1, x2_1, x3_1 => (lX8_power_4 ba n (x2_1 * ba) (x3_1 + 1))
def fX8_power (ba : Int32) (ti : Int32) : (Int32) := (let x2_4 : Int32 := lX8_power_4 ba ti.toNatClampNeg 1 0; x2_4)
set_option maxHeartbeats 4000000 in
set_option maxRecDepth 100000 in
theorem bX8_power {l : Launch} {g : Gl} {X : Cx} (C : Ok l g X RX8 cX8_power 4 0) (ba : Int32) (ti : Int32) (hR : RetI g X cX8_power 4 0 0 (fX8_power ba ti) ([] : va_W)) : Vw g X 4 0 0 ([] : va_W) 0 [(0, .int ba), (1, .int ti)] [] := by
  refine r_iconst (pc := 0) 1 C dX8_power_0 rfl ?_
  refine r_istore_n (pc := 1) [(2, .int 1), (0, .int ba), (1, .int ti)] C dX8_power_1 (by decide) rfl ?_
  refine r_iconst (pc := 2) 0 C dX8_power_2 rfl ?_
  refine r_istore_n (pc := 3) [(3, .int 0), (2, .int 1), (0, .int ba), (1, .int ti)] C dX8_power_3 (by decide) rfl ?_
  have hX1 : ∀ (x2_4 : Int32) , x2_4 = lX8_power_4 ba ti.toNatClampNeg 1 0 → Vw g X 4 0 0 ([] : va_W) 19 [(2, .int x2_4)] [] := by
    intro x2_4 e_x2_4 
    refine r_iload_n (pc := 19) C dX8_power_19 0 rfl ?_
    have hf : fX8_power ba ti = x2_4 := by subst e_x2_4; first | rfl | (simp only [fX8_power]; done) | (simp [fX8_power]; done)
    rw [hf] at hR
    exact hR _ _ dX8_power_20
  have hL1 : ∀ (n : Nat) (x2_1 : Int32) (x3_1 : Nat) , x3_1 + n = ti.toNatClampNeg → lX8_power_4 ba n x2_1 x3_1 = lX8_power_4 ba ti.toNatClampNeg 1 0 → Vw g X 4 0 0 ([] : va_W) 4 [(0, .int ba), (1, .int ti), (2, .int x2_1), (3, .int (nI x3_1))] [] := by
    intro n
    induction n with
    | zero =>
      intro x2_1 x3_1 hr1 hV1
      refine r_iload_n (pc := 4) C dX8_power_4 3 rfl ?_
      refine r_iload_n (pc := 5) C dX8_power_5 1 rfl ?_
      refine r_icmpge (pc := 6) 19 C dX8_power_6 (by decide) (fun _ => ?_) (fun c_2 => absurd (cl_ge (by omega) (by have := clb ti; omega)) c_2)
      refine u_lv [(2, .int x2_1)] [2] rfl ?_
      exact hX1 _ (by rw [← hV1]; first | rfl | (simp only [lX8_power_4]; done) | (simp [lX8_power_4]; done))
    | succ n ih =>
      intro x2_1 x3_1 hr1 hV1
      refine r_iload_n (pc := 4) C dX8_power_4 3 rfl ?_
      refine r_iload_n (pc := 5) C dX8_power_5 1 rfl ?_
      refine r_icmpge (pc := 6) 19 C dX8_power_6 (by decide) (fun c_3 => absurd c_3 (cl_lt (by omega))) (fun _ => ?_)
      refine r_iload_n (pc := 9) C dX8_power_9 2 rfl ?_
      refine r_iload_n (pc := 10) C dX8_power_10 0 rfl ?_
      refine r_imul (pc := 11) C dX8_power_11 ?_
      refine r_istore_n (pc := 12) [(2, .int (x2_1 * ba)), (0, .int ba), (1, .int ti), (3, .int (nI x3_1))] C dX8_power_12 (by decide) rfl ?_
      refine r_iinc (pc := 13) (nI (x3_1 + 1)) [(3, .int (nI (x3_1 + 1))), (2, .int (x2_1 * ba)), (0, .int ba), (1, .int ti)] C dX8_power_13 3 rfl (inc1 _) (by decide) rfl ?_
      refine r_goto (pc := 16) 4 C dX8_power_16 (by decide) ?_
      refine u_lv [(0, .int ba), (1, .int ti), (2, .int (x2_1 * ba)), (3, .int (nI (x3_1 + 1)))] [2, 3, 1, 0] rfl ?_
      exact ih (x2_1 * ba) (x3_1 + 1) (by omega) (by rw [← hV1]; first | rfl | (simp only [lX8_power_4]; done) | (simp [lX8_power_4]; done))
  refine u_lv [(0, .int ba), (1, .int ti), (2, .int 1), (3, .int 0)] [2, 3, 1, 0] rfl ?_
  exact hL1 ti.toNatClampNeg 1 0 (by omega) rfl
theorem ctX8_power (l : Launch) (g : Gl) (ba : Int32) (ti : Int32) : CtI l g yX8_power cX8_power 4 (some .int) 0 [.int ba, .int ti] ([] : va_W) (fX8_power ba ti) ([] : va_W) := mkI .int rfl rfl [(0, .int ba), (1, .int ti)] (by decide) (Nat.le_of_ble_eq_true rfl) rfl (fun X C hR => bX8_power C ba ti hR)

def fX1_asTop (tr : Int64) (sp : Nat → Int32) (t : Nat) : (Int32) × (Int64) := (let tr_1 : Int64 := tr + 1; ((sp t), tr_1))
set_option maxHeartbeats 4000000 in
set_option maxRecDepth 100000 in
theorem bX1_asTop {l : Launch} {g : Gl} {X : Cx} (C : Ok l g X RX1 cX1_asTop 3 0) (zk : Nat) (za : Nat) (zp : Nat) (zq : Nat) (tr : Int64) (pl : Nat → Int32) (sp : Nat → Int32) (be : Int32) (ti : Int32) (t : Nat) (q0 : t < 6) (hR : RetI g X cX1_asTop 3 0 0 ((fX1_asTop tr sp t).1) (wKin zk ((fX1_asTop tr sp t).2) ++ wMom g za zp zq pl sp be ti)) : Vw g X 3 0 0 (wKin zk tr ++ wMom g za zp zq pl sp be ti) 0 [(0, .ref zk), (1, .ref za), (2, .int (nI t))] [] := by
  refine r_aload_n (pc := 0) C dX1_asTop_0 0 rfl ?_
  refine r_dup (pc := 1) C dX1_asTop_1 rfl ?_
  refine r_get (pc := 2) C fl_X1_7 dX1_asTop_2 0 rfl rfl ?_
  refine r_lconst (pc := 5) 1 C dX1_asTop_5 rfl ?_
  refine r_ladd (pc := 6) C dX1_asTop_6 ?_
  refine u_lng (fun tr_1 e_tr_1 => ?_)
  refine r_put (pc := 7) (wKin zk tr_1 ++ wMom g za zp zq pl sp be ti) C fp_X1_7 dX1_asTop_7 0 rfl (Nat.le_of_ble_eq_true rfl) rfl rfl rfl ?_
  refine r_aload_n (pc := 10) C dX1_asTop_10 1 rfl ?_
  refine r_get (pc := 11) C fl_X1_13 dX1_asTop_11 1 rfl rfl ?_
  refine r_iload_n (pc := 14) C dX1_asTop_14 2 rfl ?_
  refine r_iald (pc := 15) t C dX1_asTop_15 3 rfl rfl (by omega) (by decide) ?_
  have hf : fX1_asTop tr sp t = ((sp t), tr_1) := by subst e_tr_1; first | rfl | (simp only [fX1_asTop]; done) | (simp [fX1_asTop]; done)
  rw [hf] at hR
  exact hR _ _ dX1_asTop_16
theorem ctX1_asTop (l : Launch) (g : Gl) (zk : Nat) (za : Nat) (zp : Nat) (zq : Nat) (tr : Int64) (pl : Nat → Int32) (sp : Nat → Int32) (be : Int32) (ti : Int32) (t : Nat) (q0 : t < 6) : CtI l g yX1_asTop cX1_asTop 3 (some .int) 0 [.ref zk, .ref za, .int (nI t)] (wKin zk tr ++ wMom g za zp zq pl sp be ti) ((fX1_asTop tr sp t).1) (wKin zk ((fX1_asTop tr sp t).2) ++ wMom g za zp zq pl sp be ti) := mkI .int rfl rfl [(0, .ref zk), (1, .ref za), (2, .int (nI t))] (by decide) (Nat.le_of_ble_eq_true rfl) rfl (fun X C hR => bX1_asTop C zk za zp zq tr pl sp be ti t q0 hR)

def fX1_asPeg (tr : Int64) (dr : Nat → Int32) (sp : Nat → Int32) (t : Nat) : (Int32) × (Int64) := (let tr_1 : Int64 := tr + 10; let tr_2 : Int64 := (fX1_asTop tr_1 sp t).2; let r_3 : Int32 := (fX1_asTop tr_1 sp t).1; ((r_3 + (dr t)), tr_2))
set_option maxHeartbeats 4000000 in
set_option maxRecDepth 100000 in
theorem bX1_asPeg {l : Launch} {g : Gl} {X : Cx} (C : Ok l g X RX1 cX1_asPeg 4 1) (zk : Nat) (zb : Nat) (zd : Nat) (za : Nat) (zp : Nat) (zq : Nat) (tr : Int64) (dr : Nat → Int32) (pz : Int32) (sl : Int32) (tp : Nat) (pl : Nat → Int32) (sp : Nat → Int32) (be : Int32) (ti : Int32) (t : Nat) (q0 : t < 6) (hR : RetI g X cX1_asPeg 4 0 0 ((fX1_asPeg tr dr sp t).1) (wKin zk ((fX1_asPeg tr dr sp t).2) ++ wTol g zb zd dr pz sl tp ++ wMom g za zp zq pl sp be ti)) : Vw g X 4 0 0 (wKin zk tr ++ wTol g zb zd dr pz sl tp ++ wMom g za zp zq pl sp be ti) 0 [(0, .ref zk), (1, .ref zb), (2, .ref za), (3, .int (nI t))] [] := by
  refine r_aload_n (pc := 0) C dX1_asPeg_0 0 rfl ?_
  refine r_dup (pc := 1) C dX1_asPeg_1 rfl ?_
  refine r_get (pc := 2) C fl_X1_7 dX1_asPeg_2 0 rfl rfl ?_
  refine r_ldc2 (pc := 5) C dX1_asPeg_5 kl_X1_19 ?_
  refine r_ladd (pc := 8) C dX1_asPeg_8 ?_
  refine u_lng (fun tr_1 e_tr_1 => ?_)
  refine r_put (pc := 9) (wKin zk tr_1 ++ wTol g zb zd dr pz sl tp ++ wMom g za zp zq pl sp be ti) C fp_X1_7 dX1_asPeg_9 0 rfl (Nat.le_of_ble_eq_true rfl) rfl rfl rfl ?_
  refine r_aload_n (pc := 12) C dX1_asPeg_12 0 rfl ?_
  refine r_aload_n (pc := 13) C dX1_asPeg_13 2 rfl ?_
  refine r_iload_n (pc := 14) C dX1_asPeg_14 3 rfl ?_
  obtain ⟨tr_2, e_tr_2⟩ : ∃ z : Int64, z = (fX1_asTop tr_1 sp t).2 := ⟨_, rfl⟩
  refine v_cI (pc := 15) (wKin zk tr_2 ++ wTol g zb zd dr pz sl tp ++ wMom g za zp zq pl sp be ti) C mv_X1_21 (ctX1_asTop l g zk za zp zq tr_1 pl sp be ti t (by omega)) dX1_asPeg_15 (by decide) [0, 3, 4, 5] rfl (by decide) rfl (by rw [← e_tr_2]; rfl) 0 rfl rfl (Nat.le_of_ble_eq_true rfl) ⟨Nat.zero_le _, Nat.zero_le _⟩ ?_
  refine u_int (fun r_3 e_r_3 => ?_)
  refine r_aload_n (pc := 18) C dX1_asPeg_18 1 rfl ?_
  refine r_get (pc := 19) C fl_X1_25 dX1_asPeg_19 1 rfl rfl ?_
  refine r_iload_n (pc := 22) C dX1_asPeg_22 3 rfl ?_
  refine r_iald (pc := 23) t C dX1_asPeg_23 2 rfl rfl (by omega) (by decide) ?_
  refine r_iadd (pc := 24) C dX1_asPeg_24 ?_
  have hf : fX1_asPeg tr dr sp t = ((r_3 + (dr t)), tr_2) := by subst e_tr_1 e_tr_2 e_r_3; first | rfl | (simp only [fX1_asPeg]; done) | (simp [fX1_asPeg]; done)
  rw [hf] at hR
  exact hR _ _ dX1_asPeg_25
theorem ctX1_asPeg (l : Launch) (g : Gl) (zk : Nat) (zb : Nat) (zd : Nat) (za : Nat) (zp : Nat) (zq : Nat) (tr : Int64) (dr : Nat → Int32) (pz : Int32) (sl : Int32) (tp : Nat) (pl : Nat → Int32) (sp : Nat → Int32) (be : Int32) (ti : Int32) (t : Nat) (q0 : t < 6) : CtI l g yX1_asPeg cX1_asPeg 4 (some .int) 1 [.ref zk, .ref zb, .ref za, .int (nI t)] (wKin zk tr ++ wTol g zb zd dr pz sl tp ++ wMom g za zp zq pl sp be ti) ((fX1_asPeg tr dr sp t).1) (wKin zk ((fX1_asPeg tr dr sp t).2) ++ wTol g zb zd dr pz sl tp ++ wMom g za zp zq pl sp be ti) := mkI .int rfl rfl [(0, .ref zk), (1, .ref zb), (2, .ref za), (3, .int (nI t))] (by decide) (Nat.le_of_ble_eq_true rfl) rfl (fun X C hR => bX1_asPeg C zk zb zd za zp zq tr dr pz sl tp pl sp be ti t q0 hR)

def fX1_asHummer (tr : Int64) (sp : Nat → Int32) (t : Nat) : (Int32) × (Int64) := (let tr_1 : Int64 := tr + 100; let tr_2 : Int64 := (fX1_asTop tr_1 sp t).2; let r_3 : Int32 := (fX1_asTop tr_1 sp t).1; let r_4 : Int32 := fX2_howMany sp; ((r_3 - r_4), tr_2))
set_option maxHeartbeats 4000000 in
set_option maxRecDepth 100000 in
theorem bX1_asHummer {l : Launch} {g : Gl} {X : Cx} (C : Ok l g X RX1 cX1_asHummer 3 3) (zk : Nat) (za : Nat) (zp : Nat) (zq : Nat) (tr : Int64) (pl : Nat → Int32) (sp : Nat → Int32) (be : Int32) (ti : Int32) (t : Nat) (q0 : t < 6) (hR : RetI g X cX1_asHummer 3 0 0 ((fX1_asHummer tr sp t).1) (wKin zk ((fX1_asHummer tr sp t).2) ++ wMom g za zp zq pl sp be ti)) : Vw g X 3 0 0 (wKin zk tr ++ wMom g za zp zq pl sp be ti) 0 [(0, .ref zk), (1, .ref za), (2, .int (nI t))] [] := by
  refine r_aload_n (pc := 0) C dX1_asHummer_0 0 rfl ?_
  refine r_dup (pc := 1) C dX1_asHummer_1 rfl ?_
  refine r_get (pc := 2) C fl_X1_7 dX1_asHummer_2 0 rfl rfl ?_
  refine r_ldc2 (pc := 5) C dX1_asHummer_5 kl_X1_30 ?_
  refine r_ladd (pc := 8) C dX1_asHummer_8 ?_
  refine u_lng (fun tr_1 e_tr_1 => ?_)
  refine r_put (pc := 9) (wKin zk tr_1 ++ wMom g za zp zq pl sp be ti) C fp_X1_7 dX1_asHummer_9 0 rfl (Nat.le_of_ble_eq_true rfl) rfl rfl rfl ?_
  refine r_aload_n (pc := 12) C dX1_asHummer_12 0 rfl ?_
  refine r_aload_n (pc := 13) C dX1_asHummer_13 1 rfl ?_
  refine r_iload_n (pc := 14) C dX1_asHummer_14 2 rfl ?_
  obtain ⟨tr_2, e_tr_2⟩ : ∃ z : Int64, z = (fX1_asTop tr_1 sp t).2 := ⟨_, rfl⟩
  refine v_cI (pc := 15) (wKin zk tr_2 ++ wMom g za zp zq pl sp be ti) C mv_X1_21 (ctX1_asTop l g zk za zp zq tr_1 pl sp be ti t (by omega)) dX1_asHummer_15 (by decide) [0, 1, 2, 3] rfl (by decide) rfl (by rw [← e_tr_2]; rfl) 0 rfl rfl (Nat.le_of_ble_eq_true rfl) ⟨Nat.zero_le _, Nat.zero_le _⟩ ?_
  refine u_int (fun r_3 e_r_3 => ?_)
  refine r_aload_n (pc := 18) C dX1_asHummer_18 1 rfl ?_
  refine v_pI (pc := 19) C mv_X1_32 (ctX2_howMany l g za zp zq pl sp be ti  ) dX1_asHummer_19 (by decide) [1, 2, 3] rfl (by decide) 1 rfl rfl (Nat.le_of_ble_eq_true rfl) ⟨Nat.zero_le _, Nat.zero_le _⟩ ?_
  refine u_int (fun r_4 e_r_4 => ?_)
  refine r_isub (pc := 22) C dX1_asHummer_22 ?_
  have hf : fX1_asHummer tr sp t = ((r_3 - r_4), tr_2) := by subst e_tr_1 e_tr_2 e_r_3 e_r_4; first | rfl | (simp only [fX1_asHummer]; done) | (simp [fX1_asHummer]; done)
  rw [hf] at hR
  exact hR _ _ dX1_asHummer_23
theorem ctX1_asHummer (l : Launch) (g : Gl) (zk : Nat) (za : Nat) (zp : Nat) (zq : Nat) (tr : Int64) (pl : Nat → Int32) (sp : Nat → Int32) (be : Int32) (ti : Int32) (t : Nat) (q0 : t < 6) : CtI l g yX1_asHummer cX1_asHummer 3 (some .int) 3 [.ref zk, .ref za, .int (nI t)] (wKin zk tr ++ wMom g za zp zq pl sp be ti) ((fX1_asHummer tr sp t).1) (wKin zk ((fX1_asHummer tr sp t).2) ++ wMom g za zp zq pl sp be ti) := mkI .int rfl rfl [(0, .ref zk), (1, .ref za), (2, .int (nI t))] (by decide) (Nat.le_of_ble_eq_true rfl) rfl (fun X C hR => bX1_asHummer C zk za zp zq tr pl sp be ti t q0 hR)

def fX1_asWhipper (tr : Int64) (dr : Nat → Int32) (sp : Nat → Int32) (t : Nat) : (Int32) × (Int64) := (let tr_1 : Int64 := tr + 1000; let tr_2 : Int64 := (fX1_asPeg tr_1 dr sp t).2; let r_3 : Int32 := (fX1_asPeg tr_1 dr sp t).1; ((2 * r_3), tr_2))
set_option maxHeartbeats 4000000 in
set_option maxRecDepth 100000 in
theorem bX1_asWhipper {l : Launch} {g : Gl} {X : Cx} (C : Ok l g X RX1 cX1_asWhipper 4 2) (zk : Nat) (zb : Nat) (zd : Nat) (za : Nat) (zp : Nat) (zq : Nat) (tr : Int64) (dr : Nat → Int32) (pz : Int32) (sl : Int32) (tp : Nat) (pl : Nat → Int32) (sp : Nat → Int32) (be : Int32) (ti : Int32) (t : Nat) (q0 : t < 6) (hR : RetI g X cX1_asWhipper 4 0 0 ((fX1_asWhipper tr dr sp t).1) (wKin zk ((fX1_asWhipper tr dr sp t).2) ++ wTol g zb zd dr pz sl tp ++ wMom g za zp zq pl sp be ti)) : Vw g X 4 0 0 (wKin zk tr ++ wTol g zb zd dr pz sl tp ++ wMom g za zp zq pl sp be ti) 0 [(0, .ref zk), (1, .ref zb), (2, .ref za), (3, .int (nI t))] [] := by
  refine r_aload_n (pc := 0) C dX1_asWhipper_0 0 rfl ?_
  refine r_dup (pc := 1) C dX1_asWhipper_1 rfl ?_
  refine r_get (pc := 2) C fl_X1_7 dX1_asWhipper_2 0 rfl rfl ?_
  refine r_ldc2 (pc := 5) C dX1_asWhipper_5 kl_X1_36 ?_
  refine r_ladd (pc := 8) C dX1_asWhipper_8 ?_
  refine u_lng (fun tr_1 e_tr_1 => ?_)
  refine r_put (pc := 9) (wKin zk tr_1 ++ wTol g zb zd dr pz sl tp ++ wMom g za zp zq pl sp be ti) C fp_X1_7 dX1_asWhipper_9 0 rfl (Nat.le_of_ble_eq_true rfl) rfl rfl rfl ?_
  refine r_iconst (pc := 12) 2 C dX1_asWhipper_12 rfl ?_
  refine r_aload_n (pc := 13) C dX1_asWhipper_13 0 rfl ?_
  refine r_aload_n (pc := 14) C dX1_asWhipper_14 1 rfl ?_
  refine r_aload_n (pc := 15) C dX1_asWhipper_15 2 rfl ?_
  refine r_iload_n (pc := 16) C dX1_asWhipper_16 3 rfl ?_
  obtain ⟨tr_2, e_tr_2⟩ : ∃ z : Int64, z = (fX1_asPeg tr_1 dr sp t).2 := ⟨_, rfl⟩
  refine v_cI (pc := 17) (wKin zk tr_2 ++ wTol g zb zd dr pz sl tp ++ wMom g za zp zq pl sp be ti) C mv_X1_38 (ctX1_asPeg l g zk zb zd za zp zq tr_1 dr pz sl tp pl sp be ti t (by omega)) dX1_asWhipper_17 (by decide) [0, 1, 2, 3, 4, 5] rfl (by decide) rfl (by rw [← e_tr_2]; rfl) 0 rfl rfl (Nat.le_of_ble_eq_true rfl) ⟨Nat.zero_le _, Nat.zero_le _⟩ ?_
  refine u_int (fun r_3 e_r_3 => ?_)
  refine r_imul (pc := 20) C dX1_asWhipper_20 ?_
  have hf : fX1_asWhipper tr dr sp t = ((2 * r_3), tr_2) := by subst e_tr_1 e_tr_2 e_r_3; first | rfl | (simp only [fX1_asWhipper]; done) | (simp [fX1_asWhipper]; done)
  rw [hf] at hR
  exact hR _ _ dX1_asWhipper_21
theorem ctX1_asWhipper (l : Launch) (g : Gl) (zk : Nat) (zb : Nat) (zd : Nat) (za : Nat) (zp : Nat) (zq : Nat) (tr : Int64) (dr : Nat → Int32) (pz : Int32) (sl : Int32) (tp : Nat) (pl : Nat → Int32) (sp : Nat → Int32) (be : Int32) (ti : Int32) (t : Nat) (q0 : t < 6) : CtI l g yX1_asWhipper cX1_asWhipper 4 (some .int) 2 [.ref zk, .ref zb, .ref za, .int (nI t)] (wKin zk tr ++ wTol g zb zd dr pz sl tp ++ wMom g za zp zq pl sp be ti) ((fX1_asWhipper tr dr sp t).1) (wKin zk ((fX1_asWhipper tr dr sp t).2) ++ wTol g zb zd dr pz sl tp ++ wMom g za zp zq pl sp be ti) := mkI .int rfl rfl [(0, .ref zk), (1, .ref zb), (2, .ref za), (3, .int (nI t))] (by decide) (Nat.le_of_ble_eq_true rfl) rfl (fun X C hR => bX1_asWhipper C zk zb zd za zp zq tr dr pz sl tp pl sp be ti t q0 hR)

def fX1_asDisc (tr : Int64) (sp : Nat → Int32) (t : Nat) : (Int32) × (Int64) := (let tr_1 : Int64 := tr + 10000; let tr_2 : Int64 := (fX1_asHummer tr_1 sp t).2; let r_3 : Int32 := (fX1_asHummer tr_1 sp t).1; ((r_3 + (nI t)), tr_2))
set_option maxHeartbeats 4000000 in
set_option maxRecDepth 100000 in
theorem bX1_asDisc {l : Launch} {g : Gl} {X : Cx} (C : Ok l g X RX1 cX1_asDisc 3 4) (zk : Nat) (za : Nat) (zp : Nat) (zq : Nat) (tr : Int64) (pl : Nat → Int32) (sp : Nat → Int32) (be : Int32) (ti : Int32) (t : Nat) (q0 : t < 6) (hR : RetI g X cX1_asDisc 3 0 0 ((fX1_asDisc tr sp t).1) (wKin zk ((fX1_asDisc tr sp t).2) ++ wMom g za zp zq pl sp be ti)) : Vw g X 3 0 0 (wKin zk tr ++ wMom g za zp zq pl sp be ti) 0 [(0, .ref zk), (1, .ref za), (2, .int (nI t))] [] := by
  refine r_aload_n (pc := 0) C dX1_asDisc_0 0 rfl ?_
  refine r_dup (pc := 1) C dX1_asDisc_1 rfl ?_
  refine r_get (pc := 2) C fl_X1_7 dX1_asDisc_2 0 rfl rfl ?_
  refine r_ldc2 (pc := 5) C dX1_asDisc_5 kl_X1_42 ?_
  refine r_ladd (pc := 8) C dX1_asDisc_8 ?_
  refine u_lng (fun tr_1 e_tr_1 => ?_)
  refine r_put (pc := 9) (wKin zk tr_1 ++ wMom g za zp zq pl sp be ti) C fp_X1_7 dX1_asDisc_9 0 rfl (Nat.le_of_ble_eq_true rfl) rfl rfl rfl ?_
  refine r_aload_n (pc := 12) C dX1_asDisc_12 0 rfl ?_
  refine r_aload_n (pc := 13) C dX1_asDisc_13 1 rfl ?_
  refine r_iload_n (pc := 14) C dX1_asDisc_14 2 rfl ?_
  obtain ⟨tr_2, e_tr_2⟩ : ∃ z : Int64, z = (fX1_asHummer tr_1 sp t).2 := ⟨_, rfl⟩
  refine v_cI (pc := 15) (wKin zk tr_2 ++ wMom g za zp zq pl sp be ti) C mv_X1_44 (ctX1_asHummer l g zk za zp zq tr_1 pl sp be ti t (by omega)) dX1_asDisc_15 (by decide) [0, 1, 2, 3] rfl (by decide) rfl (by rw [← e_tr_2]; rfl) 0 rfl rfl (Nat.le_of_ble_eq_true rfl) ⟨Nat.zero_le _, Nat.zero_le _⟩ ?_
  refine u_int (fun r_3 e_r_3 => ?_)
  refine r_iload_n (pc := 18) C dX1_asDisc_18 2 rfl ?_
  refine r_iadd (pc := 19) C dX1_asDisc_19 ?_
  have hf : fX1_asDisc tr sp t = ((r_3 + (nI t)), tr_2) := by subst e_tr_1 e_tr_2 e_r_3; first | rfl | (simp only [fX1_asDisc]; done) | (simp [fX1_asDisc]; done)
  rw [hf] at hR
  exact hR _ _ dX1_asDisc_20
theorem ctX1_asDisc (l : Launch) (g : Gl) (zk : Nat) (za : Nat) (zp : Nat) (zq : Nat) (tr : Int64) (pl : Nat → Int32) (sp : Nat → Int32) (be : Int32) (ti : Int32) (t : Nat) (q0 : t < 6) : CtI l g yX1_asDisc cX1_asDisc 3 (some .int) 4 [.ref zk, .ref za, .int (nI t)] (wKin zk tr ++ wMom g za zp zq pl sp be ti) ((fX1_asDisc tr sp t).1) (wKin zk ((fX1_asDisc tr sp t).2) ++ wMom g za zp zq pl sp be ti) := mkI .int rfl rfl [(0, .ref zk), (1, .ref za), (2, .int (nI t))] (by decide) (Nat.le_of_ble_eq_true rfl) rfl (fun X C hR => bX1_asDisc C zk za zp zq tr pl sp be ti t q0 hR)

def fX1_asAcorn (tr : Int64) (sp : Nat → Int32) (be : Int32) (t : Nat) : (Int32) × (Int64) := (let tr_1 : Int64 := tr + 100000; let tr_2 : Int64 := (fX1_asTop tr_1 sp t).2; let r_3 : Int32 := (fX1_asTop tr_1 sp t).1; ((r_3 + be), tr_2))
set_option maxHeartbeats 4000000 in
set_option maxRecDepth 100000 in
theorem bX1_asAcorn {l : Launch} {g : Gl} {X : Cx} (C : Ok l g X RX1 cX1_asAcorn 3 1) (zk : Nat) (za : Nat) (zp : Nat) (zq : Nat) (tr : Int64) (pl : Nat → Int32) (sp : Nat → Int32) (be : Int32) (ti : Int32) (t : Nat) (q0 : t < 6) (hR : RetI g X cX1_asAcorn 3 0 0 ((fX1_asAcorn tr sp be t).1) (wKin zk ((fX1_asAcorn tr sp be t).2) ++ wMom g za zp zq pl sp be ti)) : Vw g X 3 0 0 (wKin zk tr ++ wMom g za zp zq pl sp be ti) 0 [(0, .ref zk), (1, .ref za), (2, .int (nI t))] [] := by
  refine r_aload_n (pc := 0) C dX1_asAcorn_0 0 rfl ?_
  refine r_dup (pc := 1) C dX1_asAcorn_1 rfl ?_
  refine r_get (pc := 2) C fl_X1_7 dX1_asAcorn_2 0 rfl rfl ?_
  refine r_ldc2 (pc := 5) C dX1_asAcorn_5 kl_X1_47 ?_
  refine r_ladd (pc := 8) C dX1_asAcorn_8 ?_
  refine u_lng (fun tr_1 e_tr_1 => ?_)
  refine r_put (pc := 9) (wKin zk tr_1 ++ wMom g za zp zq pl sp be ti) C fp_X1_7 dX1_asAcorn_9 0 rfl (Nat.le_of_ble_eq_true rfl) rfl rfl rfl ?_
  refine r_aload_n (pc := 12) C dX1_asAcorn_12 0 rfl ?_
  refine r_aload_n (pc := 13) C dX1_asAcorn_13 1 rfl ?_
  refine r_iload_n (pc := 14) C dX1_asAcorn_14 2 rfl ?_
  obtain ⟨tr_2, e_tr_2⟩ : ∃ z : Int64, z = (fX1_asTop tr_1 sp t).2 := ⟨_, rfl⟩
  refine v_cI (pc := 15) (wKin zk tr_2 ++ wMom g za zp zq pl sp be ti) C mv_X1_21 (ctX1_asTop l g zk za zp zq tr_1 pl sp be ti t (by omega)) dX1_asAcorn_15 (by decide) [0, 1, 2, 3] rfl (by decide) rfl (by rw [← e_tr_2]; rfl) 0 rfl rfl (Nat.le_of_ble_eq_true rfl) ⟨Nat.zero_le _, Nat.zero_le _⟩ ?_
  refine u_int (fun r_3 e_r_3 => ?_)
  refine r_aload_n (pc := 18) C dX1_asAcorn_18 1 rfl ?_
  refine r_get (pc := 19) C fl_X1_49 dX1_asAcorn_19 1 rfl rfl ?_
  refine r_iadd (pc := 22) C dX1_asAcorn_22 ?_
  have hf : fX1_asAcorn tr sp be t = ((r_3 + be), tr_2) := by subst e_tr_1 e_tr_2 e_r_3; first | rfl | (simp only [fX1_asAcorn]; done) | (simp [fX1_asAcorn]; done)
  rw [hf] at hR
  exact hR _ _ dX1_asAcorn_23
theorem ctX1_asAcorn (l : Launch) (g : Gl) (zk : Nat) (za : Nat) (zp : Nat) (zq : Nat) (tr : Int64) (pl : Nat → Int32) (sp : Nat → Int32) (be : Int32) (ti : Int32) (t : Nat) (q0 : t < 6) : CtI l g yX1_asAcorn cX1_asAcorn 3 (some .int) 1 [.ref zk, .ref za, .int (nI t)] (wKin zk tr ++ wMom g za zp zq pl sp be ti) ((fX1_asAcorn tr sp be t).1) (wKin zk ((fX1_asAcorn tr sp be t).2) ++ wMom g za zp zq pl sp be ti) := mkI .int rfl rfl [(0, .ref zk), (1, .ref za), (2, .int (nI t))] (by decide) (Nat.le_of_ble_eq_true rfl) rfl (fun X C hR => bX1_asAcorn C zk za zp zq tr pl sp be ti t q0 hR)

def fX5_add (fi : Nat → Int32) (bt : Nat → Int32) (su : Nat → Int32) (kn : Nat) (v : Int32) (m : Int32) (w : Int32) : (Int32) × (Nat → Int32) × (Nat → Int32) × (Nat → Int32) × (Nat) := (if kn < 6 then (let fi_2 : Nat → Int32 := upd fi kn v; let bt_3 : Nat → Int32 := upd bt kn m; let su_4 : Nat → Int32 := upd su kn w; (1, fi_2, bt_3, su_4, (kn + 1))) else ((0, fi, bt, su, kn)))
set_option maxHeartbeats 4000000 in
set_option maxRecDepth 100000 in
theorem bX5_add {l : Launch} {g : Gl} {X : Cx} (C : Ok l g X RX5 cX5_add 4 0) (zs : Nat) (zsa : Nat) (zsb : Nat) (zsc : Nat) (fi : Nat → Int32) (bt : Nat → Int32) (su : Nat → Int32) (kn : Nat) (v : Int32) (m : Int32) (w : Int32) (q0 : kn ≤ 6) (hR : RetI g X cX5_add 4 0 0 ((fX5_add fi bt su kn v m w).1) (wSee g zs zsa zsb zsc ((fX5_add fi bt su kn v m w).2.1) ((fX5_add fi bt su kn v m w).2.2.1) ((fX5_add fi bt su kn v m w).2.2.2.1) ((fX5_add fi bt su kn v m w).2.2.2.2))) : Vw g X 4 0 0 (wSee g zs zsa zsb zsc fi bt su kn) 0 [(0, .ref zs), (1, .int v), (2, .int m), (3, .int w)] [] := by
  refine r_aload_n (pc := 0) C dX5_add_0 0 rfl ?_
  refine r_get (pc := 1) C fl_X5_21 dX5_add_1 0 rfl rfl ?_
  refine r_bipush (pc := 4) 6 C dX5_add_4 rfl ?_
  refine r_icmpltN (pc := 6) kn 6 11 C dX5_add_6 (by decide) rfl rfl (by omega) (by omega) (fun c_1 => ?_) (fun c_1 => ?_)
  · refine r_aload_n (pc := 11) C dX5_add_11 0 rfl ?_
    refine r_get (pc := 12) C fl_X5_9 dX5_add_12 0 rfl rfl ?_
    refine r_aload_n (pc := 15) C dX5_add_15 0 rfl ?_
    refine r_get (pc := 16) C fl_X5_21 dX5_add_16 0 rfl rfl ?_
    refine r_iload_n (pc := 19) C dX5_add_19 1 rfl ?_
    obtain ⟨fi_2, e_fi_2⟩ : ∃ z : Nat → Int32, z = upd fi kn v := ⟨_, rfl⟩
    refine r_iast (pc := 20) kn (wSee g zs zsa zsb zsc fi_2 bt su kn) C dX5_add_20 1 rfl rfl (by omega) (by decide) (by rw [← e_fi_2]; rfl) ?_
    refine r_aload_n (pc := 21) C dX5_add_21 0 rfl ?_
    refine r_get (pc := 22) C fl_X5_15 dX5_add_22 0 rfl rfl ?_
    refine r_aload_n (pc := 25) C dX5_add_25 0 rfl ?_
    refine r_get (pc := 26) C fl_X5_21 dX5_add_26 0 rfl rfl ?_
    refine r_iload_n (pc := 29) C dX5_add_29 2 rfl ?_
    obtain ⟨bt_3, e_bt_3⟩ : ∃ z : Nat → Int32, z = upd bt kn m := ⟨_, rfl⟩
    refine r_iast (pc := 30) kn (wSee g zs zsa zsb zsc fi_2 bt_3 su kn) C dX5_add_30 2 rfl rfl (by omega) (by decide) (by rw [← e_bt_3]; rfl) ?_
    refine r_aload_n (pc := 31) C dX5_add_31 0 rfl ?_
    refine r_get (pc := 32) C fl_X5_18 dX5_add_32 0 rfl rfl ?_
    refine r_aload_n (pc := 35) C dX5_add_35 0 rfl ?_
    refine r_get (pc := 36) C fl_X5_21 dX5_add_36 0 rfl rfl ?_
    refine r_iload_n (pc := 39) C dX5_add_39 3 rfl ?_
    obtain ⟨su_4, e_su_4⟩ : ∃ z : Nat → Int32, z = upd su kn w := ⟨_, rfl⟩
    refine r_iast (pc := 40) kn (wSee g zs zsa zsb zsc fi_2 bt_3 su_4 kn) C dX5_add_40 3 rfl rfl (by omega) (by decide) (by rw [← e_su_4]; rfl) ?_
    refine r_aload_n (pc := 41) C dX5_add_41 0 rfl ?_
    refine r_dup (pc := 42) C dX5_add_42 rfl ?_
    refine r_get (pc := 43) C fl_X5_21 dX5_add_43 0 rfl rfl ?_
    refine r_iconst (pc := 46) 1 C dX5_add_46 rfl ?_
    refine r_iaddN (pc := 47) kn 1 C dX5_add_47 rfl rfl ?_
    refine r_put (pc := 48) (wSee g zs zsa zsb zsc fi_2 bt_3 su_4 (kn + 1)) C fp_X5_21 dX5_add_48 0 rfl (Nat.le_of_ble_eq_true rfl) rfl rfl rfl ?_
    refine r_iconst (pc := 51) 1 C dX5_add_51 rfl ?_
    have hf : fX5_add fi bt su kn v m w = (1, fi_2, bt_3, su_4, (kn + 1)) := by subst e_fi_2 e_bt_3 e_su_4; first | (simp only [fX5_add, if_pos c_1]; done) | (simp only [fX5_add, if_pos c_1]; rfl) | rfl | (simp [fX5_add, if_pos c_1]; done)
    rw [hf] at hR
    exact hR _ _ dX5_add_52
  · refine r_iconst (pc := 9) 0 C dX5_add_9 rfl ?_
    have hf : fX5_add fi bt su kn v m w = (0, fi, bt, su, kn) := by first | (simp only [fX5_add, if_neg c_1]; done) | (simp only [fX5_add, if_neg c_1]; rfl) | rfl | (simp [fX5_add, if_neg c_1]; done)
    rw [hf] at hR
    exact hR _ _ dX5_add_10
theorem zX5_add (fi : Nat → Int32) (bt : Nat → Int32) (su : Nat → Int32) (kn : Nat) (v : Int32) (m : Int32) (w : Int32) : (fX5_add fi bt su kn v m w).1 = 0 ∨ (fX5_add fi bt su kn v m w).1 = 1 := by unfold fX5_add; repeat (first | split | simp)
theorem ctX5_add (l : Launch) (g : Gl) (zs : Nat) (zsa : Nat) (zsb : Nat) (zsc : Nat) (fi : Nat → Int32) (bt : Nat → Int32) (su : Nat → Int32) (kn : Nat) (v : Int32) (m : Int32) (w : Int32) (q0 : kn ≤ 6) : CtI l g yX5_add cX5_add 4 (some .boolean) 0 [.ref zs, .int v, .int m, .int w] (wSee g zs zsa zsb zsc fi bt su kn) ((fX5_add fi bt su kn v m w).1) (wSee g zs zsa zsb zsc ((fX5_add fi bt su kn v m w).2.1) ((fX5_add fi bt su kn v m w).2.2.1) ((fX5_add fi bt su kn v m w).2.2.2.1) ((fX5_add fi bt su kn v m w).2.2.2.2)) := mkI .boolean rfl (nar_b (zX5_add fi bt su kn v m w)) [(0, .ref zs), (1, .int v), (2, .int m), (3, .int w)] (by decide) (Nat.le_of_ble_eq_true rfl) rfl (fun X C hR => bX5_add C zs zsa zsb zsc fi bt su kn v m w q0 hR)

def fX5_spinBehind (v : Int32) (m : Int32) (dd : Int32) : (Int32) := (let r_1 : Int32 := if 0 < (v - (m * dd)) then (v - (m * dd)) else 0; r_1)
set_option maxHeartbeats 4000000 in
set_option maxRecDepth 100000 in
theorem bX5_spinBehind {l : Launch} {g : Gl} {X : Cx} (C : Ok l g X RX5 cX5_spinBehind 3 1) (v : Int32) (m : Int32) (dd : Int32) (hR : RetI g X cX5_spinBehind 3 0 0 (fX5_spinBehind v m dd) ([] : va_W)) : Vw g X 3 0 0 ([] : va_W) 0 [(0, .int v), (1, .int m), (2, .int dd)] [] := by
  refine r_iconst (pc := 0) 0 C dX5_spinBehind_0 rfl ?_
  refine r_iload_n (pc := 1) C dX5_spinBehind_1 0 rfl ?_
  refine r_iload_n (pc := 2) C dX5_spinBehind_2 1 rfl ?_
  refine r_iload_n (pc := 3) C dX5_spinBehind_3 2 rfl ?_
  refine r_imul (pc := 4) C dX5_spinBehind_4 ?_
  refine r_isub (pc := 5) C dX5_spinBehind_5 ?_
  refine r_mmax (pc := 6) C dX5_spinBehind_6 ma_X5_25 mst_max miz mco_max (by decide) (Nat.le_of_ble_eq_true rfl) ⟨Nat.zero_le _, Nat.zero_le _⟩ ?_
  refine u_int (fun r_1 e_r_1 => ?_)
  have hf : fX5_spinBehind v m dd = r_1 := by subst e_r_1; first | rfl | (simp only [fX5_spinBehind]; done) | (simp [fX5_spinBehind]; done)
  rw [hf] at hR
  exact hR _ _ dX5_spinBehind_9
theorem ctX5_spinBehind (l : Launch) (g : Gl) (v : Int32) (m : Int32) (dd : Int32) : CtI l g yX5_spinBehind cX5_spinBehind 3 (some .int) 1 [.int v, .int m, .int dd] ([] : va_W) (fX5_spinBehind v m dd) ([] : va_W) := mkI .int rfl rfl [(0, .int v), (1, .int m), (2, .int dd)] (by decide) (Nat.le_of_ble_eq_true rfl) rfl (fun X C hR => bX5_spinBehind C v m dd hR)

def lX5_canBe_2 (fi : Nat → Int32) (bt : Nat → Int32) (dd : Int32) (su : Nat → Int32) : Nat → (Nat) → (Int32)
  | 0, x2_1 => (1)
  | n + 1, x2_1 => (let r_4 : Int32 := fX5_spinBehind (fi x2_1) (bt x2_1) dd; if r_4 = (su x2_1) then (lX5_canBe_2 fi bt dd su n (x2_1 + 1)) else (0))
def fX5_canBe (fi : Nat → Int32) (bt : Nat → Int32) (su : Nat → Int32) (kn : Nat) (dd : Int32) : (Int32) := (lX5_canBe_2 fi bt dd su kn 0)
set_option maxHeartbeats 4000000 in
set_option maxRecDepth 100000 in
theorem bX5_canBe {l : Launch} {g : Gl} {X : Cx} (C : Ok l g X RX5 cX5_canBe 3 2) (zs : Nat) (zsa : Nat) (zsb : Nat) (zsc : Nat) (fi : Nat → Int32) (bt : Nat → Int32) (su : Nat → Int32) (kn : Nat) (dd : Int32) (q0 : kn ≤ 6) (hR : RetI g X cX5_canBe 3 0 0 (fX5_canBe fi bt su kn dd) (wSee g zs zsa zsb zsc fi bt su kn)) : Vw g X 3 0 0 (wSee g zs zsa zsb zsc fi bt su kn) 0 [(0, .ref zs), (1, .int dd)] [] := by
  refine r_iconst (pc := 0) 0 C dX5_canBe_0 rfl ?_
  refine r_istore_n (pc := 1) [(2, .int 0), (0, .ref zs), (1, .int dd)] C dX5_canBe_1 (by decide) rfl ?_
  have hF1 : fX5_canBe fi bt su kn dd = lX5_canBe_2 fi bt dd su kn 0 := by first | rfl | (simp only [fX5_canBe]; done) | (simp [fX5_canBe]; done)
  have hL1 : ∀ (n : Nat) (x2_1 : Nat) , x2_1 + n = kn → lX5_canBe_2 fi bt dd su n x2_1 = lX5_canBe_2 fi bt dd su kn 0 → Vw g X 3 0 0 (wSee g zs zsa zsb zsc fi bt su kn) 2 [(0, .ref zs), (1, .int dd), (2, .int (nI x2_1))] [] := by
    intro n
    induction n with
    | zero =>
      intro x2_1 hr1 hV1
      refine r_iload_n (pc := 2) C dX5_canBe_2 2 rfl ?_
      refine r_aload_n (pc := 3) C dX5_canBe_3 0 rfl ?_
      refine r_get (pc := 4) C fl_X5_21 dX5_canBe_4 0 rfl rfl ?_
      refine r_icmpgeN (pc := 7) x2_1 kn 43 C dX5_canBe_7 (by decide) rfl rfl (by omega) (by omega) (fun _ => ?_) (fun c_2 => absurd (by omega) c_2)
      refine r_iconst (pc := 43) 1 C dX5_canBe_43 rfl ?_
      have hf : fX5_canBe fi bt su kn dd = 1 := hF1.trans (hV1.symm.trans (by first | rfl | (simp only [lX5_canBe_2]; done) | (simp [lX5_canBe_2]; done)))
      rw [hf] at hR
      exact hR _ _ dX5_canBe_44
    | succ n ih =>
      intro x2_1 hr1 hV1
      refine r_iload_n (pc := 2) C dX5_canBe_2 2 rfl ?_
      refine r_aload_n (pc := 3) C dX5_canBe_3 0 rfl ?_
      refine r_get (pc := 4) C fl_X5_21 dX5_canBe_4 0 rfl rfl ?_
      refine r_icmpgeN (pc := 7) x2_1 kn 43 C dX5_canBe_7 (by decide) rfl rfl (by omega) (by omega) (fun c_3 => absurd c_3 (by omega)) (fun _ => ?_)
      refine r_aload_n (pc := 10) C dX5_canBe_10 0 rfl ?_
      refine r_get (pc := 11) C fl_X5_9 dX5_canBe_11 0 rfl rfl ?_
      refine r_iload_n (pc := 14) C dX5_canBe_14 2 rfl ?_
      refine r_iald (pc := 15) x2_1 C dX5_canBe_15 1 rfl rfl (by omega) (by decide) ?_
      refine r_aload_n (pc := 16) C dX5_canBe_16 0 rfl ?_
      refine r_get (pc := 17) C fl_X5_15 dX5_canBe_17 0 rfl rfl ?_
      refine r_iload_n (pc := 20) C dX5_canBe_20 2 rfl ?_
      refine r_iald (pc := 21) x2_1 C dX5_canBe_21 2 rfl rfl (by omega) (by decide) ?_
      refine r_iload_n (pc := 22) C dX5_canBe_22 1 rfl ?_
      refine s_pI (pc := 23) C ms_X5_31 (ctX5_spinBehind l g   (fi x2_1) (bt x2_1) dd ) dX5_canBe_23 (by decide) [] rfl (by decide) rfl (Nat.le_of_ble_eq_true rfl) ⟨Nat.zero_le _, Nat.zero_le _⟩ ?_
      refine u_int (fun r_4 e_r_4 => ?_)
      refine r_aload_n (pc := 26) C dX5_canBe_26 0 rfl ?_
      refine r_get (pc := 27) C fl_X5_18 dX5_canBe_27 0 rfl rfl ?_
      refine r_iload_n (pc := 30) C dX5_canBe_30 2 rfl ?_
      refine r_iald (pc := 31) x2_1 C dX5_canBe_31 3 rfl rfl (by omega) (by decide) ?_
      refine r_icmpeq (pc := 32) 37 C dX5_canBe_32 (by decide) (fun c_5 => ?_) (fun c_5 => ?_)
      · refine r_iinc (pc := 37) (nI (x2_1 + 1)) [(2, .int (nI (x2_1 + 1))), (0, .ref zs), (1, .int dd)] C dX5_canBe_37 2 rfl (inc1 _) (by decide) rfl ?_
        refine r_goto (pc := 40) 2 C dX5_canBe_40 (by decide) ?_
        refine u_lv [(0, .ref zs), (1, .int dd), (2, .int (nI (x2_1 + 1)))] [1, 2, 0] rfl ?_
        exact ih (x2_1 + 1) (by omega) (by rw [← hV1]; subst e_r_4; first | (simp only [lX5_canBe_2, if_pos c_5]; done) | (simp only [lX5_canBe_2, if_pos c_5]; rfl) | rfl | (simp [lX5_canBe_2, if_pos c_5]; done))
      · refine r_iconst (pc := 35) 0 C dX5_canBe_35 rfl ?_
        have hf : fX5_canBe fi bt su kn dd = 0 := hF1.trans (hV1.symm.trans (by subst e_r_4; first | (simp only [lX5_canBe_2, if_neg c_5]; done) | (simp only [lX5_canBe_2, if_neg c_5]; rfl) | rfl | (simp [lX5_canBe_2, if_neg c_5]; done)))
        rw [hf] at hR
        exact hR _ _ dX5_canBe_36
  refine u_lv [(0, .ref zs), (1, .int dd), (2, .int 0)] [1, 2, 0] rfl ?_
  exact hL1 kn 0 (by omega) rfl
theorem zX5_canBe (fi : Nat → Int32) (bt : Nat → Int32) (su : Nat → Int32) (kn : Nat) (dd : Int32) : fX5_canBe fi bt su kn dd = 0 ∨ fX5_canBe fi bt su kn dd = 1 := by
  unfold fX5_canBe
  suffices h : ∀ n i, lX5_canBe_2 fi bt dd su n i = 0 ∨ lX5_canBe_2 fi bt dd su n i = 1 from h _ _
  intro n
  induction n with
  | zero => intro i; exact Or.inr rfl
  | succ n ih =>
    intro i
    simp only [lX5_canBe_2]
    split
    · exact ih _
    · exact Or.inl rfl
theorem ctX5_canBe (l : Launch) (g : Gl) (zs : Nat) (zsa : Nat) (zsb : Nat) (zsc : Nat) (fi : Nat → Int32) (bt : Nat → Int32) (su : Nat → Int32) (kn : Nat) (dd : Int32) (q0 : kn ≤ 6) : CtI l g yX5_canBe cX5_canBe 3 (some .boolean) 2 [.ref zs, .int dd] (wSee g zs zsa zsb zsc fi bt su kn) (fX5_canBe fi bt su kn dd) (wSee g zs zsa zsb zsc fi bt su kn) := mkI .boolean rfl (nar_b (zX5_canBe fi bt su kn dd)) [(0, .ref zs), (1, .int dd)] (by decide) (Nat.le_of_ble_eq_true rfl) rfl (fun X C hR => bX5_canBe C zs zsa zsb zsc fi bt su kn dd q0 hR)

def lX5_howMany_4 (fi : Nat → Int32) (bt : Nat → Int32) (su : Nat → Int32) (kn : Nat) : Nat → (Int32) → (Nat) → (Int32)
  | 0, x1_1, x2_1 => (x1_1)
  | n + 1, x1_1, x2_1 => (let r_4 : Int32 := fX5_canBe fi bt su kn (nI x2_1); if r_4 = 0 then (lX5_howMany_4 fi bt su kn n x1_1 (x2_1 + 1)) else (lX5_howMany_4 fi bt su kn n (x1_1 + 1) (x2_1 + 1)))
def fX5_howMany (fi : Nat → Int32) (bt : Nat → Int32) (su : Nat → Int32) (kn : Nat) : (Int32) := (let x1_6 : Int32 := lX5_howMany_4 fi bt su kn (10 - 1) 0 1; x1_6)
set_option maxHeartbeats 4000000 in
set_option maxRecDepth 100000 in
theorem bX5_howMany {l : Launch} {g : Gl} {X : Cx} (C : Ok l g X RX5 cX5_howMany 3 3) (zs : Nat) (zsa : Nat) (zsb : Nat) (zsc : Nat) (fi : Nat → Int32) (bt : Nat → Int32) (su : Nat → Int32) (kn : Nat) (q0 : kn ≤ 6) (hR : RetI g X cX5_howMany 3 0 0 (fX5_howMany fi bt su kn) (wSee g zs zsa zsb zsc fi bt su kn)) : Vw g X 3 0 0 (wSee g zs zsa zsb zsc fi bt su kn) 0 [(0, .ref zs)] [] := by
  refine r_iconst (pc := 0) 0 C dX5_howMany_0 rfl ?_
  refine r_istore_n (pc := 1) [(1, .int 0), (0, .ref zs)] C dX5_howMany_1 (by decide) rfl ?_
  refine r_iconst (pc := 2) 1 C dX5_howMany_2 rfl ?_
  refine r_istore_n (pc := 3) [(2, .int 1), (1, .int 0), (0, .ref zs)] C dX5_howMany_3 (by decide) rfl ?_
  have hX1 : ∀ (x1_6 : Int32) , x1_6 = lX5_howMany_4 fi bt su kn (10 - 1) 0 1 → Vw g X 3 0 0 (wSee g zs zsa zsb zsc fi bt su kn) 27 [(1, .int x1_6)] [] := by
    intro x1_6 e_x1_6 
    refine r_iload_n (pc := 27) C dX5_howMany_27 0 rfl ?_
    have hf : fX5_howMany fi bt su kn = x1_6 := by subst e_x1_6; first | rfl | (simp only [fX5_howMany]; done) | (simp [fX5_howMany]; done)
    rw [hf] at hR
    exact hR _ _ dX5_howMany_28
  have hL1 : ∀ (n : Nat) (x1_1 : Int32) (x2_1 : Nat) , x2_1 + n = 10 → lX5_howMany_4 fi bt su kn n x1_1 x2_1 = lX5_howMany_4 fi bt su kn (10 - 1) 0 1 → Vw g X 3 0 0 (wSee g zs zsa zsb zsc fi bt su kn) 4 [(0, .ref zs), (1, .int x1_1), (2, .int (nI x2_1))] [] := by
    intro n
    induction n with
    | zero =>
      intro x1_1 x2_1 hr1 hV1
      refine r_iload_n (pc := 4) C dX5_howMany_4 2 rfl ?_
      refine r_bipush (pc := 5) 9 C dX5_howMany_5 rfl ?_
      refine r_icmpgtN (pc := 7) x2_1 9 27 C dX5_howMany_7 (by decide) rfl rfl (by omega) (by omega) (fun _ => ?_) (fun c_2 => absurd (by omega) c_2)
      refine u_lv [(1, .int x1_1)] [1] rfl ?_
      exact hX1 _ (by rw [← hV1]; first | rfl | (simp only [lX5_howMany_4]; done) | (simp [lX5_howMany_4]; done))
    | succ n ih =>
      intro x1_1 x2_1 hr1 hV1
      refine r_iload_n (pc := 4) C dX5_howMany_4 2 rfl ?_
      refine r_bipush (pc := 5) 9 C dX5_howMany_5 rfl ?_
      refine r_icmpgtN (pc := 7) x2_1 9 27 C dX5_howMany_7 (by decide) rfl rfl (by omega) (by omega) (fun c_3 => absurd c_3 (by omega)) (fun _ => ?_)
      refine r_aload_n (pc := 10) C dX5_howMany_10 0 rfl ?_
      refine r_iload_n (pc := 11) C dX5_howMany_11 2 rfl ?_
      refine v_pI (pc := 12) C mv_X5_35 (ctX5_canBe l g zs zsa zsb zsc fi bt su kn (nI x2_1) (by omega)) dX5_howMany_12 (by decide) [0, 1, 2, 3] rfl (by decide) 0 rfl rfl (Nat.le_of_ble_eq_true rfl) ⟨Nat.zero_le _, Nat.zero_le _⟩ ?_
      refine u_int (fun r_4 e_r_4 => ?_)
      refine r_ifeq (pc := 15) 21 C dX5_howMany_15 (by decide) (fun c_5 => ?_) (fun c_5 => ?_)
      · refine r_iinc (pc := 21) (nI (x2_1 + 1)) [(2, .int (nI (x2_1 + 1))), (0, .ref zs), (1, .int x1_1)] C dX5_howMany_21 2 rfl (inc1 _) (by decide) rfl ?_
        refine r_goto (pc := 24) 4 C dX5_howMany_24 (by decide) ?_
        refine u_lv [(0, .ref zs), (1, .int x1_1), (2, .int (nI (x2_1 + 1)))] [1, 2, 0] rfl ?_
        exact ih x1_1 (x2_1 + 1) (by omega) (by rw [← hV1]; subst e_r_4; first | (simp only [lX5_howMany_4, if_pos c_5]; done) | (simp only [lX5_howMany_4, if_pos c_5]; rfl) | rfl | (simp [lX5_howMany_4, if_pos c_5]; done))
      · refine r_iinc (pc := 18) (x1_1 + 1) [(1, .int (x1_1 + 1)), (0, .ref zs), (2, .int (nI x2_1))] C dX5_howMany_18 1 rfl rfl (by decide) rfl ?_
        refine r_iinc (pc := 21) (nI (x2_1 + 1)) [(2, .int (nI (x2_1 + 1))), (1, .int (x1_1 + 1)), (0, .ref zs)] C dX5_howMany_21 2 rfl (inc1 _) (by decide) rfl ?_
        refine r_goto (pc := 24) 4 C dX5_howMany_24 (by decide) ?_
        refine u_lv [(0, .ref zs), (1, .int (x1_1 + 1)), (2, .int (nI (x2_1 + 1)))] [2, 1, 0] rfl ?_
        exact ih (x1_1 + 1) (x2_1 + 1) (by omega) (by rw [← hV1]; subst e_r_4; first | (simp only [lX5_howMany_4, if_neg c_5]; done) | (simp only [lX5_howMany_4, if_neg c_5]; rfl) | rfl | (simp [lX5_howMany_4, if_neg c_5]; done))
  refine u_lv [(0, .ref zs), (1, .int 0), (2, .int 1)] [2, 1, 0] rfl ?_
  exact hL1 (10 - 1) 0 1 (by omega) rfl
theorem ctX5_howMany (l : Launch) (g : Gl) (zs : Nat) (zsa : Nat) (zsb : Nat) (zsc : Nat) (fi : Nat → Int32) (bt : Nat → Int32) (su : Nat → Int32) (kn : Nat) (q0 : kn ≤ 6) : CtI l g yX5_howMany cX5_howMany 3 (some .int) 3 [.ref zs] (wSee g zs zsa zsb zsc fi bt su kn) (fX5_howMany fi bt su kn) (wSee g zs zsa zsb zsc fi bt su kn) := mkI .int rfl rfl [(0, .ref zs)] (by decide) (Nat.le_of_ble_eq_true rfl) rfl (fun X C hR => bX5_howMany C zs zsa zsb zsc fi bt su kn q0 hR)

def lX5_least_2 (fi : Nat → Int32) (bt : Nat → Int32) (su : Nat → Int32) (kn : Nat) : Nat → (Nat) → (Int32)
  | 0, x1_1 => ((-9))
  | n + 1, x1_1 => (let r_4 : Int32 := fX5_canBe fi bt su kn (nI x1_1); if r_4 = 0 then (lX5_least_2 fi bt su kn n (x1_1 + 1)) else ((nI x1_1)))
def fX5_least (fi : Nat → Int32) (bt : Nat → Int32) (su : Nat → Int32) (kn : Nat) : (Int32) := (lX5_least_2 fi bt su kn (10 - 1) 1)
set_option maxHeartbeats 4000000 in
set_option maxRecDepth 100000 in
theorem bX5_least {l : Launch} {g : Gl} {X : Cx} (C : Ok l g X RX5 cX5_least 2 3) (zs : Nat) (zsa : Nat) (zsb : Nat) (zsc : Nat) (fi : Nat → Int32) (bt : Nat → Int32) (su : Nat → Int32) (kn : Nat) (q0 : kn ≤ 6) (hR : RetI g X cX5_least 2 0 0 (fX5_least fi bt su kn) (wSee g zs zsa zsb zsc fi bt su kn)) : Vw g X 2 0 0 (wSee g zs zsa zsb zsc fi bt su kn) 0 [(0, .ref zs)] [] := by
  refine r_iconst (pc := 0) 1 C dX5_least_0 rfl ?_
  refine r_istore_n (pc := 1) [(1, .int 1), (0, .ref zs)] C dX5_least_1 (by decide) rfl ?_
  have hF1 : fX5_least fi bt su kn = lX5_least_2 fi bt su kn (10 - 1) 1 := by first | rfl | (simp only [fX5_least]; done) | (simp [fX5_least]; done)
  have hL1 : ∀ (n : Nat) (x1_1 : Nat) , x1_1 + n = 10 → lX5_least_2 fi bt su kn n x1_1 = lX5_least_2 fi bt su kn (10 - 1) 1 → Vw g X 2 0 0 (wSee g zs zsa zsb zsc fi bt su kn) 2 [(0, .ref zs), (1, .int (nI x1_1))] [] := by
    intro n
    induction n with
    | zero =>
      intro x1_1 hr1 hV1
      refine r_iload_n (pc := 2) C dX5_least_2 1 rfl ?_
      refine r_bipush (pc := 3) 9 C dX5_least_3 rfl ?_
      refine r_icmpgtN (pc := 5) x1_1 9 24 C dX5_least_5 (by decide) rfl rfl (by omega) (by omega) (fun _ => ?_) (fun c_2 => absurd (by omega) c_2)
      refine r_bipush (pc := 24) (-9) C dX5_least_24 rfl ?_
      have hf : fX5_least fi bt su kn = (-9) := hF1.trans (hV1.symm.trans (by first | rfl | (simp only [lX5_least_2]; done) | (simp [lX5_least_2]; done)))
      rw [hf] at hR
      exact hR _ _ dX5_least_26
    | succ n ih =>
      intro x1_1 hr1 hV1
      refine r_iload_n (pc := 2) C dX5_least_2 1 rfl ?_
      refine r_bipush (pc := 3) 9 C dX5_least_3 rfl ?_
      refine r_icmpgtN (pc := 5) x1_1 9 24 C dX5_least_5 (by decide) rfl rfl (by omega) (by omega) (fun c_3 => absurd c_3 (by omega)) (fun _ => ?_)
      refine r_aload_n (pc := 8) C dX5_least_8 0 rfl ?_
      refine r_iload_n (pc := 9) C dX5_least_9 1 rfl ?_
      refine v_pI (pc := 10) C mv_X5_35 (ctX5_canBe l g zs zsa zsb zsc fi bt su kn (nI x1_1) (by omega)) dX5_least_10 (by decide) [0, 1, 2, 3] rfl (by decide) 0 rfl rfl (Nat.le_of_ble_eq_true rfl) ⟨Nat.zero_le _, Nat.zero_le _⟩ ?_
      refine u_int (fun r_4 e_r_4 => ?_)
      refine r_ifeq (pc := 13) 18 C dX5_least_13 (by decide) (fun c_5 => ?_) (fun c_5 => ?_)
      · refine r_iinc (pc := 18) (nI (x1_1 + 1)) [(1, .int (nI (x1_1 + 1))), (0, .ref zs)] C dX5_least_18 1 rfl (inc1 _) (by decide) rfl ?_
        refine r_goto (pc := 21) 2 C dX5_least_21 (by decide) ?_
        refine u_lv [(0, .ref zs), (1, .int (nI (x1_1 + 1)))] [1, 0] rfl ?_
        exact ih (x1_1 + 1) (by omega) (by rw [← hV1]; subst e_r_4; first | (simp only [lX5_least_2, if_pos c_5]; done) | (simp only [lX5_least_2, if_pos c_5]; rfl) | rfl | (simp [lX5_least_2, if_pos c_5]; done))
      · refine r_iload_n (pc := 16) C dX5_least_16 1 rfl ?_
        have hf : fX5_least fi bt su kn = (nI x1_1) := hF1.trans (hV1.symm.trans (by subst e_r_4; first | (simp only [lX5_least_2, if_neg c_5]; done) | (simp only [lX5_least_2, if_neg c_5]; rfl) | rfl | (simp [lX5_least_2, if_neg c_5]; done)))
        rw [hf] at hR
        exact hR _ _ dX5_least_17
  refine u_lv [(0, .ref zs), (1, .int 1)] [1, 0] rfl ?_
  exact hL1 (10 - 1) 1 (by omega) rfl
theorem ctX5_least (l : Launch) (g : Gl) (zs : Nat) (zsa : Nat) (zsb : Nat) (zsc : Nat) (fi : Nat → Int32) (bt : Nat → Int32) (su : Nat → Int32) (kn : Nat) (q0 : kn ≤ 6) : CtI l g yX5_least cX5_least 2 (some .int) 3 [.ref zs] (wSee g zs zsa zsb zsc fi bt su kn) (fX5_least fi bt su kn) (wSee g zs zsa zsb zsc fi bt su kn) := mkI .int rfl rfl [(0, .ref zs)] (by decide) (Nat.le_of_ble_eq_true rfl) rfl (fun X C hR => bX5_least C zs zsa zsb zsc fi bt su kn q0 hR)

def lX5_greatest_3 (fi : Nat → Int32) (bt : Nat → Int32) (su : Nat → Int32) (kn : Nat) : Nat → (Nat) → (Int32)
  | 0, x1_1 => ((-9))
  | n + 1, x1_1 => (let r_4 : Int32 := fX5_canBe fi bt su kn (nI x1_1); if r_4 = 0 then (lX5_greatest_3 fi bt su kn n (x1_1 - 1)) else ((nI x1_1)))
def fX5_greatest (fi : Nat → Int32) (bt : Nat → Int32) (su : Nat → Int32) (kn : Nat) : (Int32) := (lX5_greatest_3 fi bt su kn 9 9)
set_option maxHeartbeats 4000000 in
set_option maxRecDepth 100000 in
theorem bX5_greatest {l : Launch} {g : Gl} {X : Cx} (C : Ok l g X RX5 cX5_greatest 2 3) (zs : Nat) (zsa : Nat) (zsb : Nat) (zsc : Nat) (fi : Nat → Int32) (bt : Nat → Int32) (su : Nat → Int32) (kn : Nat) (q0 : kn ≤ 6) (hR : RetI g X cX5_greatest 2 0 0 (fX5_greatest fi bt su kn) (wSee g zs zsa zsb zsc fi bt su kn)) : Vw g X 2 0 0 (wSee g zs zsa zsb zsc fi bt su kn) 0 [(0, .ref zs)] [] := by
  refine r_bipush (pc := 0) 9 C dX5_greatest_0 rfl ?_
  refine r_istore_n (pc := 2) [(1, .int 9), (0, .ref zs)] C dX5_greatest_2 (by decide) rfl ?_
  have hF1 : fX5_greatest fi bt su kn = lX5_greatest_3 fi bt su kn 9 9 := by first | rfl | (simp only [fX5_greatest]; done) | (simp [fX5_greatest]; done)
  have hL1 : ∀ (n : Nat) (x1_1 : Nat) , x1_1 = n → x1_1 ≤ 9 → lX5_greatest_3 fi bt su kn n x1_1 = lX5_greatest_3 fi bt su kn 9 9 → Vw g X 2 0 0 (wSee g zs zsa zsb zsc fi bt su kn) 3 [(0, .ref zs), (1, .int (nI x1_1))] [] := by
    intro n
    induction n with
    | zero =>
      intro x1_1 hr1 hi1_0 hV1
      refine r_iload_n (pc := 3) C dX5_greatest_3 1 rfl ?_
      refine r_iconst (pc := 4) 1 C dX5_greatest_4 rfl ?_
      refine r_icmpltN (pc := 5) x1_1 1 24 C dX5_greatest_5 (by decide) rfl rfl (by omega) (by omega) (fun _ => ?_) (fun c_2 => absurd (by omega) c_2)
      refine r_bipush (pc := 24) (-9) C dX5_greatest_24 rfl ?_
      have hf : fX5_greatest fi bt su kn = (-9) := hF1.trans (hV1.symm.trans (by first | rfl | (simp only [lX5_greatest_3]; done) | (simp [lX5_greatest_3]; done)))
      rw [hf] at hR
      exact hR _ _ dX5_greatest_26
    | succ n ih =>
      intro x1_1 hr1 hi1_0 hV1
      refine r_iload_n (pc := 3) C dX5_greatest_3 1 rfl ?_
      refine r_iconst (pc := 4) 1 C dX5_greatest_4 rfl ?_
      refine r_icmpltN (pc := 5) x1_1 1 24 C dX5_greatest_5 (by decide) rfl rfl (by omega) (by omega) (fun c_3 => absurd c_3 (by omega)) (fun _ => ?_)
      refine r_aload_n (pc := 8) C dX5_greatest_8 0 rfl ?_
      refine r_iload_n (pc := 9) C dX5_greatest_9 1 rfl ?_
      refine v_pI (pc := 10) C mv_X5_35 (ctX5_canBe l g zs zsa zsb zsc fi bt su kn (nI x1_1) (by omega)) dX5_greatest_10 (by decide) [0, 1, 2, 3] rfl (by decide) 0 rfl rfl (Nat.le_of_ble_eq_true rfl) ⟨Nat.zero_le _, Nat.zero_le _⟩ ?_
      refine u_int (fun r_4 e_r_4 => ?_)
      refine r_ifeq (pc := 13) 18 C dX5_greatest_13 (by decide) (fun c_5 => ?_) (fun c_5 => ?_)
      · refine r_iinc (pc := 18) (nI (x1_1 - 1)) [(1, .int (nI (x1_1 - 1))), (0, .ref zs)] C dX5_greatest_18 1 rfl (dec1 (by omega)) (by decide) rfl ?_
        refine r_goto (pc := 21) 3 C dX5_greatest_21 (by decide) ?_
        refine u_lv [(0, .ref zs), (1, .int (nI (x1_1 - 1)))] [1, 0] rfl ?_
        exact ih (x1_1 - 1) (by omega) (by omega) (by rw [← hV1]; subst e_r_4; first | (simp only [lX5_greatest_3, if_pos c_5]; done) | (simp only [lX5_greatest_3, if_pos c_5]; rfl) | rfl | (simp [lX5_greatest_3, if_pos c_5]; done))
      · refine r_iload_n (pc := 16) C dX5_greatest_16 1 rfl ?_
        have hf : fX5_greatest fi bt su kn = (nI x1_1) := hF1.trans (hV1.symm.trans (by subst e_r_4; first | (simp only [lX5_greatest_3, if_neg c_5]; done) | (simp only [lX5_greatest_3, if_neg c_5]; rfl) | rfl | (simp [lX5_greatest_3, if_neg c_5]; done)))
        rw [hf] at hR
        exact hR _ _ dX5_greatest_17
  refine u_lv [(0, .ref zs), (1, .int 9)] [1, 0] rfl ?_
  exact hL1 9 9 (by omega) (by omega) rfl
theorem ctX5_greatest (l : Launch) (g : Gl) (zs : Nat) (zsa : Nat) (zsb : Nat) (zsc : Nat) (fi : Nat → Int32) (bt : Nat → Int32) (su : Nat → Int32) (kn : Nat) (q0 : kn ≤ 6) : CtI l g yX5_greatest cX5_greatest 2 (some .int) 3 [.ref zs] (wSee g zs zsa zsb zsc fi bt su kn) (fX5_greatest fi bt su kn) (wSee g zs zsa zsb zsc fi bt su kn) := mkI .int rfl rfl [(0, .ref zs)] (by decide) (Nat.le_of_ble_eq_true rfl) rfl (fun X C hR => bX5_greatest C zs zsa zsb zsc fi bt su kn q0 hR)

def lX5_howManyAlike_6 (fi : Nat → Int32) (bt : Nat → Int32) (su : Nat → Int32) (kn : Nat) (v : Int32) (m : Int32) (w : Int32) : Nat → (Int32) → (Nat) → (Int32)
  | 0, x4_1, x5_1 => (x4_1)
  | n + 1, x4_1, x5_1 => (let r_4 : Int32 := fX5_canBe fi bt su kn (nI x5_1); if r_4 = 0 then (lX5_howManyAlike_6 fi bt su kn v m w n x4_1 (x5_1 + 1)) else (let r_6 : Int32 := fX5_spinBehind v m (nI x5_1); if r_6 = w then (lX5_howManyAlike_6 fi bt su kn v m w n (x4_1 + 1) (x5_1 + 1)) else (lX5_howManyAlike_6 fi bt su kn v m w n x4_1 (x5_1 + 1))))
def fX5_howManyAlike (fi : Nat → Int32) (bt : Nat → Int32) (su : Nat → Int32) (kn : Nat) (v : Int32) (m : Int32) (w : Int32) : (Int32) := (let x4_8 : Int32 := lX5_howManyAlike_6 fi bt su kn v m w (10 - 1) 0 1; x4_8)
set_option maxHeartbeats 4000000 in
set_option maxRecDepth 100000 in
theorem bX5_howManyAlike {l : Launch} {g : Gl} {X : Cx} (C : Ok l g X RX5 cX5_howManyAlike 6 3) (zs : Nat) (zsa : Nat) (zsb : Nat) (zsc : Nat) (fi : Nat → Int32) (bt : Nat → Int32) (su : Nat → Int32) (kn : Nat) (v : Int32) (m : Int32) (w : Int32) (q0 : kn ≤ 6) (hR : RetI g X cX5_howManyAlike 6 0 0 (fX5_howManyAlike fi bt su kn v m w) (wSee g zs zsa zsb zsc fi bt su kn)) : Vw g X 6 0 0 (wSee g zs zsa zsb zsc fi bt su kn) 0 [(0, .ref zs), (1, .int v), (2, .int m), (3, .int w)] [] := by
  refine r_iconst (pc := 0) 0 C dX5_howManyAlike_0 rfl ?_
  refine r_istore (pc := 1) [(4, .int 0), (0, .ref zs), (1, .int v), (2, .int m), (3, .int w)] C dX5_howManyAlike_1 (by decide) rfl ?_
  refine r_iconst (pc := 3) 1 C dX5_howManyAlike_3 rfl ?_
  refine r_istore (pc := 4) [(5, .int 1), (4, .int 0), (0, .ref zs), (1, .int v), (2, .int m), (3, .int w)] C dX5_howManyAlike_4 (by decide) rfl ?_
  have hX1 : ∀ (x4_8 : Int32) , x4_8 = lX5_howManyAlike_6 fi bt su kn v m w (10 - 1) 0 1 → Vw g X 6 0 0 (wSee g zs zsa zsb zsc fi bt su kn) 42 [(4, .int x4_8)] [] := by
    intro x4_8 e_x4_8 
    refine r_iload (pc := 42) C dX5_howManyAlike_42 0 rfl ?_
    have hf : fX5_howManyAlike fi bt su kn v m w = x4_8 := by subst e_x4_8; first | rfl | (simp only [fX5_howManyAlike]; done) | (simp [fX5_howManyAlike]; done)
    rw [hf] at hR
    exact hR _ _ dX5_howManyAlike_44
  have hL1 : ∀ (n : Nat) (x4_1 : Int32) (x5_1 : Nat) , x5_1 + n = 10 → lX5_howManyAlike_6 fi bt su kn v m w n x4_1 x5_1 = lX5_howManyAlike_6 fi bt su kn v m w (10 - 1) 0 1 → Vw g X 6 0 0 (wSee g zs zsa zsb zsc fi bt su kn) 6 [(0, .ref zs), (1, .int v), (2, .int m), (3, .int w), (4, .int x4_1), (5, .int (nI x5_1))] [] := by
    intro n
    induction n with
    | zero =>
      intro x4_1 x5_1 hr1 hV1
      refine r_iload (pc := 6) C dX5_howManyAlike_6 5 rfl ?_
      refine r_bipush (pc := 8) 9 C dX5_howManyAlike_8 rfl ?_
      refine r_icmpgtN (pc := 10) x5_1 9 42 C dX5_howManyAlike_10 (by decide) rfl rfl (by omega) (by omega) (fun _ => ?_) (fun c_2 => absurd (by omega) c_2)
      refine u_lv [(4, .int x4_1)] [4] rfl ?_
      exact hX1 _ (by rw [← hV1]; first | rfl | (simp only [lX5_howManyAlike_6]; done) | (simp [lX5_howManyAlike_6]; done))
    | succ n ih =>
      intro x4_1 x5_1 hr1 hV1
      refine r_iload (pc := 6) C dX5_howManyAlike_6 5 rfl ?_
      refine r_bipush (pc := 8) 9 C dX5_howManyAlike_8 rfl ?_
      refine r_icmpgtN (pc := 10) x5_1 9 42 C dX5_howManyAlike_10 (by decide) rfl rfl (by omega) (by omega) (fun c_3 => absurd c_3 (by omega)) (fun _ => ?_)
      refine r_aload_n (pc := 13) C dX5_howManyAlike_13 0 rfl ?_
      refine r_iload (pc := 14) C dX5_howManyAlike_14 5 rfl ?_
      refine v_pI (pc := 16) C mv_X5_35 (ctX5_canBe l g zs zsa zsb zsc fi bt su kn (nI x5_1) (by omega)) dX5_howManyAlike_16 (by decide) [0, 1, 2, 3] rfl (by decide) 0 rfl rfl (Nat.le_of_ble_eq_true rfl) ⟨Nat.zero_le _, Nat.zero_le _⟩ ?_
      refine u_int (fun r_4 e_r_4 => ?_)
      refine r_ifeq (pc := 19) 36 C dX5_howManyAlike_19 (by decide) (fun c_5 => ?_) (fun c_5 => ?_)
      · refine r_iinc (pc := 36) (nI (x5_1 + 1)) [(5, .int (nI (x5_1 + 1))), (0, .ref zs), (1, .int v), (2, .int m), (3, .int w), (4, .int x4_1)] C dX5_howManyAlike_36 5 rfl (inc1 _) (by decide) rfl ?_
        refine r_goto (pc := 39) 6 C dX5_howManyAlike_39 (by decide) ?_
        refine u_lv [(0, .ref zs), (1, .int v), (2, .int m), (3, .int w), (4, .int x4_1), (5, .int (nI (x5_1 + 1)))] [1, 2, 3, 4, 5, 0] rfl ?_
        exact ih x4_1 (x5_1 + 1) (by omega) (by rw [← hV1]; subst e_r_4; first | (simp only [lX5_howManyAlike_6, if_pos c_5]; done) | (simp only [lX5_howManyAlike_6, if_pos c_5]; rfl) | rfl | (simp [lX5_howManyAlike_6, if_pos c_5]; done))
      · refine r_iload_n (pc := 22) C dX5_howManyAlike_22 1 rfl ?_
        refine r_iload_n (pc := 23) C dX5_howManyAlike_23 2 rfl ?_
        refine r_iload (pc := 24) C dX5_howManyAlike_24 5 rfl ?_
        refine s_pI (pc := 26) C ms_X5_31 (ctX5_spinBehind l g   v m (nI x5_1) ) dX5_howManyAlike_26 (by decide) [] rfl (by decide) rfl (Nat.le_of_ble_eq_true rfl) ⟨Nat.zero_le _, Nat.zero_le _⟩ ?_
        refine u_int (fun r_6 e_r_6 => ?_)
        refine r_iload_n (pc := 29) C dX5_howManyAlike_29 3 rfl ?_
        refine r_icmpne (pc := 30) 36 C dX5_howManyAlike_30 (by decide) (fun c_7 => ?_) (fun c_7 => ?_)
        · refine r_iinc (pc := 36) (nI (x5_1 + 1)) [(5, .int (nI (x5_1 + 1))), (0, .ref zs), (1, .int v), (2, .int m), (3, .int w), (4, .int x4_1)] C dX5_howManyAlike_36 5 rfl (inc1 _) (by decide) rfl ?_
          refine r_goto (pc := 39) 6 C dX5_howManyAlike_39 (by decide) ?_
          refine u_lv [(0, .ref zs), (1, .int v), (2, .int m), (3, .int w), (4, .int x4_1), (5, .int (nI (x5_1 + 1)))] [1, 2, 3, 4, 5, 0] rfl ?_
          exact ih x4_1 (x5_1 + 1) (by omega) (by rw [← hV1]; subst e_r_4 e_r_6; first | (simp only [lX5_howManyAlike_6, if_neg c_5, if_neg c_7]; done) | (simp only [lX5_howManyAlike_6, if_neg c_5, if_neg c_7]; rfl) | rfl | (simp [lX5_howManyAlike_6, if_neg c_5, if_neg c_7]; done))
        · refine r_iinc (pc := 33) (x4_1 + 1) [(4, .int (x4_1 + 1)), (0, .ref zs), (1, .int v), (2, .int m), (3, .int w), (5, .int (nI x5_1))] C dX5_howManyAlike_33 4 rfl rfl (by decide) rfl ?_
          refine r_iinc (pc := 36) (nI (x5_1 + 1)) [(5, .int (nI (x5_1 + 1))), (4, .int (x4_1 + 1)), (0, .ref zs), (1, .int v), (2, .int m), (3, .int w)] C dX5_howManyAlike_36 5 rfl (inc1 _) (by decide) rfl ?_
          refine r_goto (pc := 39) 6 C dX5_howManyAlike_39 (by decide) ?_
          refine u_lv [(0, .ref zs), (1, .int v), (2, .int m), (3, .int w), (4, .int (x4_1 + 1)), (5, .int (nI (x5_1 + 1)))] [2, 3, 4, 5, 1, 0] rfl ?_
          exact ih (x4_1 + 1) (x5_1 + 1) (by omega) (by rw [← hV1]; subst e_r_4 e_r_6; first | (simp only [lX5_howManyAlike_6, if_neg c_5, if_pos c_7]; done) | (simp only [lX5_howManyAlike_6, if_neg c_5, if_pos c_7]; rfl) | rfl | (simp [lX5_howManyAlike_6, if_neg c_5, if_pos c_7]; done))
  refine u_lv [(0, .ref zs), (1, .int v), (2, .int m), (3, .int w), (4, .int 0), (5, .int 1)] [2, 3, 4, 5, 1, 0] rfl ?_
  exact hL1 (10 - 1) 0 1 (by omega) rfl
theorem ctX5_howManyAlike (l : Launch) (g : Gl) (zs : Nat) (zsa : Nat) (zsb : Nat) (zsc : Nat) (fi : Nat → Int32) (bt : Nat → Int32) (su : Nat → Int32) (kn : Nat) (v : Int32) (m : Int32) (w : Int32) (q0 : kn ≤ 6) : CtI l g yX5_howManyAlike cX5_howManyAlike 6 (some .int) 3 [.ref zs, .int v, .int m, .int w] (wSee g zs zsa zsb zsc fi bt su kn) (fX5_howManyAlike fi bt su kn v m w) (wSee g zs zsa zsb zsc fi bt su kn) := mkI .int rfl rfl [(0, .ref zs), (1, .int v), (2, .int m), (3, .int w)] (by decide) (Nat.le_of_ble_eq_true rfl) rfl (fun X C hR => bX5_howManyAlike C zs zsa zsb zsc fi bt su kn v m w q0 hR)

def lX5_mostAlike_5 (fi : Nat → Int32) (bt : Nat → Int32) (su : Nat → Int32) (kn : Nat) (v : Int32) (m : Int32) : Nat → (Int32) → (Nat) → (Int32)
  | 0, x3_1, x4_1 => (x3_1)
  | n + 1, x3_1, x4_1 => (let r_4 : Int32 := fX5_canBe fi bt su kn (nI x4_1); if r_4 = 0 then (lX5_mostAlike_5 fi bt su kn v m n x3_1 (x4_1 + 1)) else (let r_6 : Int32 := fX5_spinBehind v m (nI x4_1); let r_7 : Int32 := fX5_howManyAlike fi bt su kn v m r_6; let r_8 : Int32 := if x3_1 < r_7 then r_7 else x3_1; lX5_mostAlike_5 fi bt su kn v m n r_8 (x4_1 + 1)))
def fX5_mostAlike (fi : Nat → Int32) (bt : Nat → Int32) (su : Nat → Int32) (kn : Nat) (v : Int32) (m : Int32) : (Int32) := (let x3_9 : Int32 := lX5_mostAlike_5 fi bt su kn v m (10 - 1) 0 1; x3_9)
set_option maxHeartbeats 4000000 in
set_option maxRecDepth 100000 in
theorem bX5_mostAlike {l : Launch} {g : Gl} {X : Cx} (C : Ok l g X RX5 cX5_mostAlike 5 4) (zs : Nat) (zsa : Nat) (zsb : Nat) (zsc : Nat) (fi : Nat → Int32) (bt : Nat → Int32) (su : Nat → Int32) (kn : Nat) (v : Int32) (m : Int32) (q0 : kn ≤ 6) (hR : RetI g X cX5_mostAlike 5 0 0 (fX5_mostAlike fi bt su kn v m) (wSee g zs zsa zsb zsc fi bt su kn)) : Vw g X 5 0 0 (wSee g zs zsa zsb zsc fi bt su kn) 0 [(0, .ref zs), (1, .int v), (2, .int m)] [] := by
  refine r_iconst (pc := 0) 0 C dX5_mostAlike_0 rfl ?_
  refine r_istore_n (pc := 1) [(3, .int 0), (0, .ref zs), (1, .int v), (2, .int m)] C dX5_mostAlike_1 (by decide) rfl ?_
  refine r_iconst (pc := 2) 1 C dX5_mostAlike_2 rfl ?_
  refine r_istore (pc := 3) [(4, .int 1), (3, .int 0), (0, .ref zs), (1, .int v), (2, .int m)] C dX5_mostAlike_3 (by decide) rfl ?_
  have hX1 : ∀ (x3_9 : Int32) , x3_9 = lX5_mostAlike_5 fi bt su kn v m (10 - 1) 0 1 → Vw g X 5 0 0 (wSee g zs zsa zsb zsc fi bt su kn) 45 [(3, .int x3_9)] [] := by
    intro x3_9 e_x3_9 
    refine r_iload_n (pc := 45) C dX5_mostAlike_45 0 rfl ?_
    have hf : fX5_mostAlike fi bt su kn v m = x3_9 := by subst e_x3_9; first | rfl | (simp only [fX5_mostAlike]; done) | (simp [fX5_mostAlike]; done)
    rw [hf] at hR
    exact hR _ _ dX5_mostAlike_46
  have hL1 : ∀ (n : Nat) (x3_1 : Int32) (x4_1 : Nat) , x4_1 + n = 10 → lX5_mostAlike_5 fi bt su kn v m n x3_1 x4_1 = lX5_mostAlike_5 fi bt su kn v m (10 - 1) 0 1 → Vw g X 5 0 0 (wSee g zs zsa zsb zsc fi bt su kn) 5 [(0, .ref zs), (1, .int v), (2, .int m), (3, .int x3_1), (4, .int (nI x4_1))] [] := by
    intro n
    induction n with
    | zero =>
      intro x3_1 x4_1 hr1 hV1
      refine r_iload (pc := 5) C dX5_mostAlike_5 4 rfl ?_
      refine r_bipush (pc := 7) 9 C dX5_mostAlike_7 rfl ?_
      refine r_icmpgtN (pc := 9) x4_1 9 45 C dX5_mostAlike_9 (by decide) rfl rfl (by omega) (by omega) (fun _ => ?_) (fun c_2 => absurd (by omega) c_2)
      refine u_lv [(3, .int x3_1)] [3] rfl ?_
      exact hX1 _ (by rw [← hV1]; first | rfl | (simp only [lX5_mostAlike_5]; done) | (simp [lX5_mostAlike_5]; done))
    | succ n ih =>
      intro x3_1 x4_1 hr1 hV1
      refine r_iload (pc := 5) C dX5_mostAlike_5 4 rfl ?_
      refine r_bipush (pc := 7) 9 C dX5_mostAlike_7 rfl ?_
      refine r_icmpgtN (pc := 9) x4_1 9 45 C dX5_mostAlike_9 (by decide) rfl rfl (by omega) (by omega) (fun c_3 => absurd c_3 (by omega)) (fun _ => ?_)
      refine r_aload_n (pc := 12) C dX5_mostAlike_12 0 rfl ?_
      refine r_iload (pc := 13) C dX5_mostAlike_13 4 rfl ?_
      refine v_pI (pc := 15) C mv_X5_35 (ctX5_canBe l g zs zsa zsb zsc fi bt su kn (nI x4_1) (by omega)) dX5_mostAlike_15 (by decide) [0, 1, 2, 3] rfl (by decide) 0 rfl rfl (Nat.le_of_ble_eq_true rfl) ⟨Nat.zero_le _, Nat.zero_le _⟩ ?_
      refine u_int (fun r_4 e_r_4 => ?_)
      refine r_ifeq (pc := 18) 39 C dX5_mostAlike_18 (by decide) (fun c_5 => ?_) (fun c_5 => ?_)
      · refine r_iinc (pc := 39) (nI (x4_1 + 1)) [(4, .int (nI (x4_1 + 1))), (0, .ref zs), (1, .int v), (2, .int m), (3, .int x3_1)] C dX5_mostAlike_39 4 rfl (inc1 _) (by decide) rfl ?_
        refine r_goto (pc := 42) 5 C dX5_mostAlike_42 (by decide) ?_
        refine u_lv [(0, .ref zs), (1, .int v), (2, .int m), (3, .int x3_1), (4, .int (nI (x4_1 + 1)))] [1, 2, 3, 4, 0] rfl ?_
        exact ih x3_1 (x4_1 + 1) (by omega) (by rw [← hV1]; subst e_r_4; first | (simp only [lX5_mostAlike_5, if_pos c_5]; done) | (simp only [lX5_mostAlike_5, if_pos c_5]; rfl) | rfl | (simp [lX5_mostAlike_5, if_pos c_5]; done))
      · refine r_iload_n (pc := 21) C dX5_mostAlike_21 3 rfl ?_
        refine r_aload_n (pc := 22) C dX5_mostAlike_22 0 rfl ?_
        refine r_iload_n (pc := 23) C dX5_mostAlike_23 1 rfl ?_
        refine r_iload_n (pc := 24) C dX5_mostAlike_24 2 rfl ?_
        refine r_iload_n (pc := 25) C dX5_mostAlike_25 1 rfl ?_
        refine r_iload_n (pc := 26) C dX5_mostAlike_26 2 rfl ?_
        refine r_iload (pc := 27) C dX5_mostAlike_27 4 rfl ?_
        refine s_pI (pc := 29) C ms_X5_31 (ctX5_spinBehind l g   v m (nI x4_1) ) dX5_mostAlike_29 (by decide) [] rfl (by decide) rfl (Nat.le_of_ble_eq_true rfl) ⟨Nat.zero_le _, Nat.zero_le _⟩ ?_
        refine u_int (fun r_6 e_r_6 => ?_)
        refine v_pI (pc := 32) C mv_X5_46 (ctX5_howManyAlike l g zs zsa zsb zsc fi bt su kn v m r_6 (by omega)) dX5_mostAlike_32 (by decide) [0, 1, 2, 3] rfl (by decide) 0 rfl rfl (Nat.le_of_ble_eq_true rfl) ⟨Nat.zero_le _, Nat.zero_le _⟩ ?_
        refine u_int (fun r_7 e_r_7 => ?_)
        refine r_mmax (pc := 35) C dX5_mostAlike_35 ma_X5_25 mst_max miz mco_max (by decide) (Nat.le_of_ble_eq_true rfl) ⟨Nat.zero_le _, Nat.zero_le _⟩ ?_
        refine u_int (fun r_8 e_r_8 => ?_)
        refine r_istore_n (pc := 38) [(3, .int r_8), (0, .ref zs), (1, .int v), (2, .int m), (4, .int (nI x4_1))] C dX5_mostAlike_38 (by decide) rfl ?_
        refine r_iinc (pc := 39) (nI (x4_1 + 1)) [(4, .int (nI (x4_1 + 1))), (3, .int r_8), (0, .ref zs), (1, .int v), (2, .int m)] C dX5_mostAlike_39 4 rfl (inc1 _) (by decide) rfl ?_
        refine r_goto (pc := 42) 5 C dX5_mostAlike_42 (by decide) ?_
        refine u_lv [(0, .ref zs), (1, .int v), (2, .int m), (3, .int r_8), (4, .int (nI (x4_1 + 1)))] [2, 3, 4, 1, 0] rfl ?_
        exact ih r_8 (x4_1 + 1) (by omega) (by rw [← hV1]; subst e_r_4 e_r_6 e_r_7 e_r_8; first | (simp only [lX5_mostAlike_5, if_neg c_5]; done) | (simp only [lX5_mostAlike_5, if_neg c_5]; rfl) | rfl | (simp [lX5_mostAlike_5, if_neg c_5]; done))
  refine u_lv [(0, .ref zs), (1, .int v), (2, .int m), (3, .int 0), (4, .int 1)] [2, 3, 4, 1, 0] rfl ?_
  exact hL1 (10 - 1) 0 1 (by omega) rfl
theorem ctX5_mostAlike (l : Launch) (g : Gl) (zs : Nat) (zsa : Nat) (zsb : Nat) (zsc : Nat) (fi : Nat → Int32) (bt : Nat → Int32) (su : Nat → Int32) (kn : Nat) (v : Int32) (m : Int32) (q0 : kn ≤ 6) : CtI l g yX5_mostAlike cX5_mostAlike 5 (some .int) 4 [.ref zs, .int v, .int m] (wSee g zs zsa zsb zsc fi bt su kn) (fX5_mostAlike fi bt su kn v m) (wSee g zs zsa zsb zsc fi bt su kn) := mkI .int rfl rfl [(0, .ref zs), (1, .int v), (2, .int m)] (by decide) (Nat.le_of_ble_eq_true rfl) rfl (fun X C hR => bX5_mostAlike C zs zsa zsb zsc fi bt su kn v m q0 hR)

def lX5_bestWait_20 (fi : Nat → Int32) (bt : Nat → Int32) (su : Nat → Int32) (kn : Nat) (v : Int32) : Nat → (Int32) → (Int32) → (Nat) → (Int32)
  | 0, x2_3, x3_3, x4_3 => (x2_3)
  | n + 1, x2_3, x3_3, x4_3 => (let r_6 : Int32 := fX5_mostAlike fi bt su kn v (nI x4_3); if x3_3 ≤ r_6 then (lX5_bestWait_20 fi bt su kn v n x2_3 x3_3 (x4_3 + 1)) else (lX5_bestWait_20 fi bt su kn v n (nI x4_3) r_6 (x4_3 + 1)))
def fX5_bestWait (fi : Nat → Int32) (bt : Nat → Int32) (su : Nat → Int32) (kn : Nat) (v : Int32) : (Int32) := (let r_1 : Int32 := fX5_howMany fi bt su kn; if 1 < r_1 then (let x2_8 : Int32 := lX5_bestWait_20 fi bt su kn v (21 - 1) (-9) 10 1; x2_8) else ((-9)))
set_option maxHeartbeats 4000000 in
set_option maxRecDepth 100000 in
theorem bX5_bestWait {l : Launch} {g : Gl} {X : Cx} (C : Ok l g X RX5 cX5_bestWait 6 5) (zs : Nat) (zsa : Nat) (zsb : Nat) (zsc : Nat) (fi : Nat → Int32) (bt : Nat → Int32) (su : Nat → Int32) (kn : Nat) (v : Int32) (q0 : kn ≤ 6) (hR : RetI g X cX5_bestWait 6 0 0 (fX5_bestWait fi bt su kn v) (wSee g zs zsa zsb zsc fi bt su kn)) : Vw g X 6 0 0 (wSee g zs zsa zsb zsc fi bt su kn) 0 [(0, .ref zs), (1, .int v)] [] := by
  refine r_aload_n (pc := 0) C dX5_bestWait_0 0 rfl ?_
  refine v_pI (pc := 1) C mv_X5_39 (ctX5_howMany l g zs zsa zsb zsc fi bt su kn  (by omega)) dX5_bestWait_1 (by decide) [0, 1, 2, 3] rfl (by decide) 0 rfl rfl (Nat.le_of_ble_eq_true rfl) ⟨Nat.zero_le _, Nat.zero_le _⟩ ?_
  refine u_int (fun r_1 e_r_1 => ?_)
  refine r_iconst (pc := 4) 1 C dX5_bestWait_4 rfl ?_
  refine r_icmpgt (pc := 5) 11 C dX5_bestWait_5 (by decide) (fun c_2 => ?_) (fun c_2 => ?_)
  · refine r_bipush (pc := 11) (-9) C dX5_bestWait_11 rfl ?_
    refine r_istore_n (pc := 13) [(2, .int (-9)), (0, .ref zs), (1, .int v)] C dX5_bestWait_13 (by decide) rfl ?_
    refine r_bipush (pc := 14) 10 C dX5_bestWait_14 rfl ?_
    refine r_istore_n (pc := 16) [(3, .int 10), (2, .int (-9)), (0, .ref zs), (1, .int v)] C dX5_bestWait_16 (by decide) rfl ?_
    refine r_iconst (pc := 17) 1 C dX5_bestWait_17 rfl ?_
    refine r_istore (pc := 18) [(4, .int 1), (3, .int 10), (2, .int (-9)), (0, .ref zs), (1, .int v)] C dX5_bestWait_18 (by decide) rfl ?_
    have hX3 : ∀ (x2_8 : Int32) , x2_8 = lX5_bestWait_20 fi bt su kn v (21 - 1) (-9) 10 1 → Vw g X 6 0 0 (wSee g zs zsa zsb zsc fi bt su kn) 54 [(2, .int x2_8)] [] := by
      intro x2_8 e_x2_8 
      refine r_iload_n (pc := 54) C dX5_bestWait_54 0 rfl ?_
      have hf : fX5_bestWait fi bt su kn v = x2_8 := by subst e_r_1 e_x2_8; first | (simp only [fX5_bestWait, if_pos c_2]; done) | (simp only [fX5_bestWait, if_pos c_2]; rfl) | rfl | (simp [fX5_bestWait, if_pos c_2]; done)
      rw [hf] at hR
      exact hR _ _ dX5_bestWait_55
    have hL3 : ∀ (n : Nat) (x2_3 : Int32) (x3_3 : Int32) (x4_3 : Nat) , x4_3 + n = 21 → lX5_bestWait_20 fi bt su kn v n x2_3 x3_3 x4_3 = lX5_bestWait_20 fi bt su kn v (21 - 1) (-9) 10 1 → Vw g X 6 0 0 (wSee g zs zsa zsb zsc fi bt su kn) 20 [(0, .ref zs), (1, .int v), (2, .int x2_3), (3, .int x3_3), (4, .int (nI x4_3))] [] := by
      intro n
      induction n with
      | zero =>
        intro x2_3 x3_3 x4_3 hr3 hV3
        refine r_iload (pc := 20) C dX5_bestWait_20 4 rfl ?_
        refine r_bipush (pc := 22) 20 C dX5_bestWait_22 rfl ?_
        refine r_icmpgtN (pc := 24) x4_3 20 54 C dX5_bestWait_24 (by decide) rfl rfl (by omega) (by omega) (fun _ => ?_) (fun c_4 => absurd (by omega) c_4)
        refine u_lv [(2, .int x2_3)] [2] rfl ?_
        exact hX3 _ (by rw [← hV3]; first | rfl | (simp only [lX5_bestWait_20]; done) | (simp [lX5_bestWait_20]; done))
      | succ n ih =>
        intro x2_3 x3_3 x4_3 hr3 hV3
        refine r_iload (pc := 20) C dX5_bestWait_20 4 rfl ?_
        refine r_bipush (pc := 22) 20 C dX5_bestWait_22 rfl ?_
        refine r_icmpgtN (pc := 24) x4_3 20 54 C dX5_bestWait_24 (by decide) rfl rfl (by omega) (by omega) (fun c_5 => absurd c_5 (by omega)) (fun _ => ?_)
        refine r_aload_n (pc := 27) C dX5_bestWait_27 0 rfl ?_
        refine r_iload_n (pc := 28) C dX5_bestWait_28 1 rfl ?_
        refine r_iload (pc := 29) C dX5_bestWait_29 4 rfl ?_
        refine v_pI (pc := 31) C mv_X5_43 (ctX5_mostAlike l g zs zsa zsb zsc fi bt su kn v (nI x4_3) (by omega)) dX5_bestWait_31 (by decide) [0, 1, 2, 3] rfl (by decide) 0 rfl rfl (Nat.le_of_ble_eq_true rfl) ⟨Nat.zero_le _, Nat.zero_le _⟩ ?_
        refine u_int (fun r_6 e_r_6 => ?_)
        refine r_istore (pc := 34) [(5, .int r_6), (0, .ref zs), (1, .int v), (2, .int x2_3), (3, .int x3_3), (4, .int (nI x4_3))] C dX5_bestWait_34 (by decide) rfl ?_
        refine r_iload (pc := 36) C dX5_bestWait_36 0 rfl ?_
        refine r_iload_n (pc := 38) C dX5_bestWait_38 4 rfl ?_
        refine r_icmpge (pc := 39) 48 C dX5_bestWait_39 (by decide) (fun c_7 => ?_) (fun c_7 => ?_)
        · refine r_iinc (pc := 48) (nI (x4_3 + 1)) [(4, .int (nI (x4_3 + 1))), (5, .int r_6), (0, .ref zs), (1, .int v), (2, .int x2_3), (3, .int x3_3)] C dX5_bestWait_48 5 rfl (inc1 _) (by decide) rfl ?_
          refine r_goto (pc := 51) 20 C dX5_bestWait_51 (by decide) ?_
          refine u_lv [(0, .ref zs), (1, .int v), (2, .int x2_3), (3, .int x3_3), (4, .int (nI (x4_3 + 1)))] [2, 3, 4, 5, 0] rfl ?_
          exact ih x2_3 x3_3 (x4_3 + 1) (by omega) (by rw [← hV3]; subst e_r_6; first | (simp only [lX5_bestWait_20, if_pos c_7]; done) | (simp only [lX5_bestWait_20, if_pos c_7]; rfl) | rfl | (simp [lX5_bestWait_20, if_pos c_7]; done))
        · refine r_iload (pc := 42) C dX5_bestWait_42 0 rfl ?_
          refine r_istore_n (pc := 44) [(3, .int r_6), (5, .int r_6), (0, .ref zs), (1, .int v), (2, .int x2_3), (4, .int (nI x4_3))] C dX5_bestWait_44 (by decide) rfl ?_
          refine r_iload (pc := 45) C dX5_bestWait_45 5 rfl ?_
          refine r_istore_n (pc := 47) [(2, .int (nI x4_3)), (3, .int r_6), (5, .int r_6), (0, .ref zs), (1, .int v), (4, .int (nI x4_3))] C dX5_bestWait_47 (by decide) rfl ?_
          refine r_iinc (pc := 48) (nI (x4_3 + 1)) [(4, .int (nI (x4_3 + 1))), (2, .int (nI x4_3)), (3, .int r_6), (5, .int r_6), (0, .ref zs), (1, .int v)] C dX5_bestWait_48 5 rfl (inc1 _) (by decide) rfl ?_
          refine r_goto (pc := 51) 20 C dX5_bestWait_51 (by decide) ?_
          refine u_lv [(0, .ref zs), (1, .int v), (2, .int (nI x4_3)), (3, .int r_6), (4, .int (nI (x4_3 + 1)))] [4, 5, 1, 2, 0] rfl ?_
          exact ih (nI x4_3) r_6 (x4_3 + 1) (by omega) (by rw [← hV3]; subst e_r_6; first | (simp only [lX5_bestWait_20, if_neg c_7]; done) | (simp only [lX5_bestWait_20, if_neg c_7]; rfl) | rfl | (simp [lX5_bestWait_20, if_neg c_7]; done))
    refine u_lv [(0, .ref zs), (1, .int v), (2, .int (-9)), (3, .int 10), (4, .int 1)] [3, 4, 2, 1, 0] rfl ?_
    exact hL3 (21 - 1) (-9) 10 1 (by omega) rfl
  · refine r_bipush (pc := 8) (-9) C dX5_bestWait_8 rfl ?_
    have hf : fX5_bestWait fi bt su kn v = (-9) := by subst e_r_1; first | (simp only [fX5_bestWait, if_neg c_2]; done) | (simp only [fX5_bestWait, if_neg c_2]; rfl) | rfl | (simp [fX5_bestWait, if_neg c_2]; done)
    rw [hf] at hR
    exact hR _ _ dX5_bestWait_10
theorem ctX5_bestWait (l : Launch) (g : Gl) (zs : Nat) (zsa : Nat) (zsb : Nat) (zsc : Nat) (fi : Nat → Int32) (bt : Nat → Int32) (su : Nat → Int32) (kn : Nat) (v : Int32) (q0 : kn ≤ 6) : CtI l g yX5_bestWait cX5_bestWait 6 (some .int) 5 [.ref zs, .int v] (wSee g zs zsa zsb zsc fi bt su kn) (fX5_bestWait fi bt su kn v) (wSee g zs zsa zsb zsc fi bt su kn) := mkI .int rfl rfl [(0, .ref zs), (1, .int v)] (by decide) (Nat.le_of_ble_eq_true rfl) rfl (fun X C hR => bX5_bestWait C zs zsa zsb zsc fi bt su kn v q0 hR)
end
