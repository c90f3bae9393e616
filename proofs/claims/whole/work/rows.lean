section
-- ===== PART A: goes FIRST, ahead of the names: the tables' words, and 'selects' of the private methods out of them =====
/-- a private method of a class that the tables say can be made, by its rows of tables_1 -/
def lw_okq (q : MethodName × Nat) : Prop := (q.1.cls ≠ "java/lang/invoke/MethodHandle" ∧ q.1.cls ≠ "java/lang/invoke/VarHandle") ∧ Cond.instantiable q.1.cls q.2 ∈ tables_1 ∧ Cond.privateMethod q.1 ∈ tables_1 ∧ Cond.instanceMethod q.1 ∈ tables_1
theorem lw_p0 : lw_okq (⟨"SumWalker", "refuse", "(I)I"⟩, 15) := ⟨⟨by decide +kernel, by decide +kernel⟩, List.mem_of_getElem? (i := 15) (by decide +kernel), List.mem_of_getElem? (i := 239) (by decide +kernel), List.mem_of_getElem? (i := 240) (by decide +kernel)⟩
theorem lw_p1 : lw_okq (⟨"SumWalker$Reader", "step", "()V"⟩, 11) := ⟨⟨by decide +kernel, by decide +kernel⟩, List.mem_of_getElem? (i := 23) (by decide +kernel), List.mem_of_getElem? (i := 251) (by decide +kernel), List.mem_of_getElem? (i := 252) (by decide +kernel)⟩
theorem lw_p2 : lw_okq (⟨"SumWalker$Reader", "endOfRun", "(CC)I"⟩, 11) := ⟨⟨by decide +kernel, by decide +kernel⟩, List.mem_of_getElem? (i := 23) (by decide +kernel), List.mem_of_getElem? (i := 255) (by decide +kernel), List.mem_of_getElem? (i := 256) (by decide +kernel)⟩
theorem lw_p3 : lw_okq (⟨"SumWalker$Reader", "takeWord", "(I)V"⟩, 11) := ⟨⟨by decide +kernel, by decide +kernel⟩, List.mem_of_getElem? (i := 23) (by decide +kernel), List.mem_of_getElem? (i := 259) (by decide +kernel), List.mem_of_getElem? (i := 260) (by decide +kernel)⟩
theorem lw_p4 : lw_okq (⟨"SumWalker$Reader", "takeNumber", "(I)V"⟩, 11) := ⟨⟨by decide +kernel, by decide +kernel⟩, List.mem_of_getElem? (i := 23) (by decide +kernel), List.mem_of_getElem? (i := 264) (by decide +kernel), List.mem_of_getElem? (i := 265) (by decide +kernel)⟩
theorem lw_p5 : lw_okq (⟨"SumWalker$Reader", "readLine", "(LSumWalker$Desk;)Z"⟩, 11) := ⟨⟨by decide +kernel, by decide +kernel⟩, List.mem_of_getElem? (i := 23) (by decide +kernel), List.mem_of_getElem? (i := 268) (by decide +kernel), List.mem_of_getElem? (i := 269) (by decide +kernel)⟩
theorem lw_p6 : lw_okq (⟨"SumWalker$Reader", "fail", "(I)Z"⟩, 11) := ⟨⟨by decide +kernel, by decide +kernel⟩, List.mem_of_getElem? (i := 23) (by decide +kernel), List.mem_of_getElem? (i := 272) (by decide +kernel), List.mem_of_getElem? (i := 273) (by decide +kernel)⟩
theorem lw_p7 : lw_okq (⟨"SumWalker$Reader", "readRow", "(LSumWalker$Desk;)Z"⟩, 11) := ⟨⟨by decide +kernel, by decide +kernel⟩, List.mem_of_getElem? (i := 23) (by decide +kernel), List.mem_of_getElem? (i := 334) (by decide +kernel), List.mem_of_getElem? (i := 335) (by decide +kernel)⟩
theorem lw_p8 : lw_okq (⟨"SumWalker$Reader", "readName", "(I)Z"⟩, 11) := ⟨⟨by decide +kernel, by decide +kernel⟩, List.mem_of_getElem? (i := 23) (by decide +kernel), List.mem_of_getElem? (i := 338) (by decide +kernel), List.mem_of_getElem? (i := 339) (by decide +kernel)⟩
theorem lw_p9 : lw_okq (⟨"SumWalker$Reader", "readNumber", "(I)Z"⟩, 11) := ⟨⟨by decide +kernel, by decide +kernel⟩, List.mem_of_getElem? (i := 23) (by decide +kernel), List.mem_of_getElem? (i := 350) (by decide +kernel), List.mem_of_getElem? (i := 351) (by decide +kernel)⟩
theorem lw_p10 : lw_okq (⟨"SumWalker$Reader", "readSign", "()Z"⟩, 11) := ⟨⟨by decide +kernel, by decide +kernel⟩, List.mem_of_getElem? (i := 23) (by decide +kernel), List.mem_of_getElem? (i := 358) (by decide +kernel), List.mem_of_getElem? (i := 359) (by decide +kernel)⟩
theorem lw_p11 : lw_okq (⟨"SumWalker$Reader", "readLaw", "()Z"⟩, 11) := ⟨⟨by decide +kernel, by decide +kernel⟩, List.mem_of_getElem? (i := 23) (by decide +kernel), List.mem_of_getElem? (i := 362) (by decide +kernel), List.mem_of_getElem? (i := 363) (by decide +kernel)⟩
theorem lw_p12 : lw_okq (⟨"SumWalker", "forgetWalks", "()V"⟩, 15) := ⟨⟨by decide +kernel, by decide +kernel⟩, List.mem_of_getElem? (i := 15) (by decide +kernel), List.mem_of_getElem? (i := 370) (by decide +kernel), List.mem_of_getElem? (i := 371) (by decide +kernel)⟩
theorem lw_p13 : lw_okq (⟨"SumWalker", "done", "(I)I"⟩, 15) := ⟨⟨by decide +kernel, by decide +kernel⟩, List.mem_of_getElem? (i := 15) (by decide +kernel), List.mem_of_getElem? (i := 374) (by decide +kernel), List.mem_of_getElem? (i := 375) (by decide +kernel)⟩
theorem lw_p14 : lw_okq (⟨"SumWalker$Primes", "takeOut", "(II)I"⟩, 4) := ⟨⟨by decide +kernel, by decide +kernel⟩, List.mem_of_getElem? (i := 68) (by decide +kernel), List.mem_of_getElem? (i := 404) (by decide +kernel), List.mem_of_getElem? (i := 405) (by decide +kernel)⟩
theorem lw_p15 : lw_okq (⟨"SumWalker$Primes", "addPrime", "(II)V"⟩, 4) := ⟨⟨by decide +kernel, by decide +kernel⟩, List.mem_of_getElem? (i := 68) (by decide +kernel), List.mem_of_getElem? (i := 408) (by decide +kernel), List.mem_of_getElem? (i := 409) (by decide +kernel)⟩
def lw_privs_1 : List (MethodName × Nat) := [(⟨"SumWalker", "refuse", "(I)I"⟩, 15), (⟨"SumWalker$Reader", "step", "()V"⟩, 11), (⟨"SumWalker$Reader", "endOfRun", "(CC)I"⟩, 11), (⟨"SumWalker$Reader", "takeWord", "(I)V"⟩, 11), (⟨"SumWalker$Reader", "takeNumber", "(I)V"⟩, 11), (⟨"SumWalker$Reader", "readLine", "(LSumWalker$Desk;)Z"⟩, 11), (⟨"SumWalker$Reader", "fail", "(I)Z"⟩, 11), (⟨"SumWalker$Reader", "readRow", "(LSumWalker$Desk;)Z"⟩, 11), (⟨"SumWalker$Reader", "readName", "(I)Z"⟩, 11), (⟨"SumWalker$Reader", "readNumber", "(I)Z"⟩, 11), (⟨"SumWalker$Reader", "readSign", "()Z"⟩, 11), (⟨"SumWalker$Reader", "readLaw", "()Z"⟩, 11), (⟨"SumWalker", "forgetWalks", "()V"⟩, 15), (⟨"SumWalker", "done", "(I)I"⟩, 15), (⟨"SumWalker$Primes", "takeOut", "(II)I"⟩, 4), (⟨"SumWalker$Primes", "addPrime", "(II)V"⟩, 4)]
theorem lw_r1 : ∀ q ∈ lw_privs_1, lw_okq q := List.forall_mem_cons.mpr ⟨lw_p0, List.forall_mem_cons.mpr ⟨lw_p1, List.forall_mem_cons.mpr ⟨lw_p2, List.forall_mem_cons.mpr ⟨lw_p3, List.forall_mem_cons.mpr ⟨lw_p4, List.forall_mem_cons.mpr ⟨lw_p5, List.forall_mem_cons.mpr ⟨lw_p6, List.forall_mem_cons.mpr ⟨lw_p7, List.forall_mem_cons.mpr ⟨lw_p8, List.forall_mem_cons.mpr ⟨lw_p9, List.forall_mem_cons.mpr ⟨lw_p10, List.forall_mem_cons.mpr ⟨lw_p11, List.forall_mem_cons.mpr ⟨lw_p12, List.forall_mem_cons.mpr ⟨lw_p13, List.forall_mem_cons.mpr ⟨lw_p14, List.forall_mem_cons.mpr ⟨lw_p15, fun _ h => absurd h List.not_mem_nil⟩⟩⟩⟩⟩⟩⟩⟩⟩⟩⟩⟩⟩⟩⟩⟩
theorem lw_p16 : lw_okq (⟨"SumWalker", "sumOf", "(I)J"⟩, 15) := ⟨⟨by decide +kernel, by decide +kernel⟩, List.mem_of_getElem? (i := 15) (by decide +kernel), List.mem_of_getElem? (i := 426) (by decide +kernel), List.mem_of_getElem? (i := 427) (by decide +kernel)⟩
theorem lw_p17 : lw_okq (⟨"SumWalker$Primes", "addUnitary", "()J"⟩, 4) := ⟨⟨by decide +kernel, by decide +kernel⟩, List.mem_of_getElem? (i := 68) (by decide +kernel), List.mem_of_getElem? (i := 435) (by decide +kernel), List.mem_of_getElem? (i := 436) (by decide +kernel)⟩
theorem lw_p18 : lw_okq (⟨"SumWalker$Primes", "addBare", "()J"⟩, 4) := ⟨⟨by decide +kernel, by decide +kernel⟩, List.mem_of_getElem? (i := 68) (by decide +kernel), List.mem_of_getElem? (i := 442) (by decide +kernel), List.mem_of_getElem? (i := 443) (by decide +kernel)⟩
theorem lw_p19 : lw_okq (⟨"SumWalker$Primes", "isBare", "()Z"⟩, 4) := ⟨⟨by decide +kernel, by decide +kernel⟩, List.mem_of_getElem? (i := 68) (by decide +kernel), List.mem_of_getElem? (i := 446) (by decide +kernel), List.mem_of_getElem? (i := 447) (by decide +kernel)⟩
theorem lw_p20 : lw_okq (⟨"SumWalker$Primes", "addAll", "()J"⟩, 4) := ⟨⟨by decide +kernel, by decide +kernel⟩, List.mem_of_getElem? (i := 68) (by decide +kernel), List.mem_of_getElem? (i := 450) (by decide +kernel), List.mem_of_getElem? (i := 451) (by decide +kernel)⟩
theorem lw_p21 : lw_okq (⟨"SumWalker$Primes", "addPowers", "(I)J"⟩, 4) := ⟨⟨by decide +kernel, by decide +kernel⟩, List.mem_of_getElem? (i := 68) (by decide +kernel), List.mem_of_getElem? (i := 454) (by decide +kernel), List.mem_of_getElem? (i := 455) (by decide +kernel)⟩
theorem lw_p22 : lw_okq (⟨"SumWalker", "doneLong", "(J)J"⟩, 15) := ⟨⟨by decide +kernel, by decide +kernel⟩, List.mem_of_getElem? (i := 15) (by decide +kernel), List.mem_of_getElem? (i := 458) (by decide +kernel), List.mem_of_getElem? (i := 459) (by decide +kernel)⟩
theorem lw_p23 : lw_okq (⟨"SumWalker", "kindBy", "(II)I"⟩, 15) := ⟨⟨by decide +kernel, by decide +kernel⟩, List.mem_of_getElem? (i := 15) (by decide +kernel), List.mem_of_getElem? (i := 466) (by decide +kernel), List.mem_of_getElem? (i := 467) (by decide +kernel)⟩
theorem lw_p24 : lw_okq (⟨"SumWalker", "hasDriver", "(I)Z"⟩, 15) := ⟨⟨by decide +kernel, by decide +kernel⟩, List.mem_of_getElem? (i := 15) (by decide +kernel), List.mem_of_getElem? (i := 489) (by decide +kernel), List.mem_of_getElem? (i := 490) (by decide +kernel)⟩
theorem lw_p25 : lw_okq (⟨"SumWalker", "isWhole", "(I)Z"⟩, 15) := ⟨⟨by decide +kernel, by decide +kernel⟩, List.mem_of_getElem? (i := 15) (by decide +kernel), List.mem_of_getElem? (i := 515) (by decide +kernel), List.mem_of_getElem? (i := 516) (by decide +kernel)⟩
theorem lw_p26 : lw_okq (⟨"SumWalker", "reachWith", "(I)V"⟩, 15) := ⟨⟨by decide +kernel, by decide +kernel⟩, List.mem_of_getElem? (i := 15) (by decide +kernel), List.mem_of_getElem? (i := 519) (by decide +kernel), List.mem_of_getElem? (i := 520) (by decide +kernel)⟩
theorem lw_p27 : lw_okq (⟨"SumWalker", "doneCount", "(II)I"⟩, 15) := ⟨⟨by decide +kernel, by decide +kernel⟩, List.mem_of_getElem? (i := 15) (by decide +kernel), List.mem_of_getElem? (i := 547) (by decide +kernel), List.mem_of_getElem? (i := 548) (by decide +kernel)⟩
theorem lw_p28 : lw_okq (⟨"SumWalker", "countKin", "(III)I"⟩, 15) := ⟨⟨by decide +kernel, by decide +kernel⟩, List.mem_of_getElem? (i := 15) (by decide +kernel), List.mem_of_getElem? (i := 555) (by decide +kernel), List.mem_of_getElem? (i := 556) (by decide +kernel)⟩
theorem lw_p29 : lw_okq (⟨"SumWalker", "joinFamilies", "(I)V"⟩, 15) := ⟨⟨by decide +kernel, by decide +kernel⟩, List.mem_of_getElem? (i := 15) (by decide +kernel), List.mem_of_getElem? (i := 567) (by decide +kernel), List.mem_of_getElem? (i := 568) (by decide +kernel)⟩
theorem lw_p30 : lw_okq (⟨"SumWalker", "leastOfFamily", "(I)I"⟩, 15) := ⟨⟨by decide +kernel, by decide +kernel⟩, List.mem_of_getElem? (i := 15) (by decide +kernel), List.mem_of_getElem? (i := 571) (by decide +kernel), List.mem_of_getElem? (i := 572) (by decide +kernel)⟩
theorem lw_p31 : lw_okq (⟨"SumWalker", "countFamilies", "(I)V"⟩, 15) := ⟨⟨by decide +kernel, by decide +kernel⟩, List.mem_of_getElem? (i := 15) (by decide +kernel), List.mem_of_getElem? (i := 576) (by decide +kernel), List.mem_of_getElem? (i := 577) (by decide +kernel)⟩
def lw_privs_2 : List (MethodName × Nat) := [(⟨"SumWalker", "sumOf", "(I)J"⟩, 15), (⟨"SumWalker$Primes", "addUnitary", "()J"⟩, 4), (⟨"SumWalker$Primes", "addBare", "()J"⟩, 4), (⟨"SumWalker$Primes", "isBare", "()Z"⟩, 4), (⟨"SumWalker$Primes", "addAll", "()J"⟩, 4), (⟨"SumWalker$Primes", "addPowers", "(I)J"⟩, 4), (⟨"SumWalker", "doneLong", "(J)J"⟩, 15), (⟨"SumWalker", "kindBy", "(II)I"⟩, 15), (⟨"SumWalker", "hasDriver", "(I)Z"⟩, 15), (⟨"SumWalker", "isWhole", "(I)Z"⟩, 15), (⟨"SumWalker", "reachWith", "(I)V"⟩, 15), (⟨"SumWalker", "doneCount", "(II)I"⟩, 15), (⟨"SumWalker", "countKin", "(III)I"⟩, 15), (⟨"SumWalker", "joinFamilies", "(I)V"⟩, 15), (⟨"SumWalker", "leastOfFamily", "(I)I"⟩, 15), (⟨"SumWalker", "countFamilies", "(I)V"⟩, 15)]
theorem lw_r2 : ∀ q ∈ lw_privs_2, lw_okq q := List.forall_mem_cons.mpr ⟨lw_p16, List.forall_mem_cons.mpr ⟨lw_p17, List.forall_mem_cons.mpr ⟨lw_p18, List.forall_mem_cons.mpr ⟨lw_p19, List.forall_mem_cons.mpr ⟨lw_p20, List.forall_mem_cons.mpr ⟨lw_p21, List.forall_mem_cons.mpr ⟨lw_p22, List.forall_mem_cons.mpr ⟨lw_p23, List.forall_mem_cons.mpr ⟨lw_p24, List.forall_mem_cons.mpr ⟨lw_p25, List.forall_mem_cons.mpr ⟨lw_p26, List.forall_mem_cons.mpr ⟨lw_p27, List.forall_mem_cons.mpr ⟨lw_p28, List.forall_mem_cons.mpr ⟨lw_p29, List.forall_mem_cons.mpr ⟨lw_p30, List.forall_mem_cons.mpr ⟨lw_p31, fun _ h => absurd h List.not_mem_nil⟩⟩⟩⟩⟩⟩⟩⟩⟩⟩⟩⟩⟩⟩⟩⟩
theorem lw_p32 : lw_okq (⟨"SumWalker", "clearMarks", "()V"⟩, 15) := ⟨⟨by decide +kernel, by decide +kernel⟩, List.mem_of_getElem? (i := 15) (by decide +kernel), List.mem_of_getElem? (i := 604) (by decide +kernel), List.mem_of_getElem? (i := 605) (by decide +kernel)⟩
theorem lw_p33 : lw_okq (⟨"SumWalker", "isPrimitive", "(I)Z"⟩, 15) := ⟨⟨by decide +kernel, by decide +kernel⟩, List.mem_of_getElem? (i := 15) (by decide +kernel), List.mem_of_getElem? (i := 612) (by decide +kernel), List.mem_of_getElem? (i := 613) (by decide +kernel)⟩
theorem lw_p34 : lw_okq (⟨"SumWalker", "fillSums", "(I)V"⟩, 15) := ⟨⟨by decide +kernel, by decide +kernel⟩, List.mem_of_getElem? (i := 15) (by decide +kernel), List.mem_of_getElem? (i := 620) (by decide +kernel), List.mem_of_getElem? (i := 621) (by decide +kernel)⟩
theorem lw_p35 : lw_okq (⟨"SumWalker", "stepsTo", "(III)I"⟩, 15) := ⟨⟨by decide +kernel, by decide +kernel⟩, List.mem_of_getElem? (i := 15) (by decide +kernel), List.mem_of_getElem? (i := 624) (by decide +kernel), List.mem_of_getElem? (i := 625) (by decide +kernel)⟩
theorem lw_p36 : lw_okq (⟨"SumWalker", "hasRow", "(I)Z"⟩, 15) := ⟨⟨by decide +kernel, by decide +kernel⟩, List.mem_of_getElem? (i := 15) (by decide +kernel), List.mem_of_getElem? (i := 644) (by decide +kernel), List.mem_of_getElem? (i := 645) (by decide +kernel)⟩
theorem lw_p37 : lw_okq (⟨"SumWalker", "walkOf", "(I)LSumWalker$Walk;"⟩, 15) := ⟨⟨by decide +kernel, by decide +kernel⟩, List.mem_of_getElem? (i := 15) (by decide +kernel), List.mem_of_getElem? (i := 652) (by decide +kernel), List.mem_of_getElem? (i := 653) (by decide +kernel)⟩
theorem lw_p38 : lw_okq (⟨"SumWalker", "driverPlaces", "(LSumWalker$Walk;)I"⟩, 15) := ⟨⟨by decide +kernel, by decide +kernel⟩, List.mem_of_getElem? (i := 15) (by decide +kernel), List.mem_of_getElem? (i := 720) (by decide +kernel), List.mem_of_getElem? (i := 721) (by decide +kernel)⟩
theorem lw_p39 : lw_okq (⟨"SumWalker", "firstDriver", "(LSumWalker$Walk;)I"⟩, 15) := ⟨⟨by decide +kernel, by decide +kernel⟩, List.mem_of_getElem? (i := 15) (by decide +kernel), List.mem_of_getElem? (i := 724) (by decide +kernel), List.mem_of_getElem? (i := 725) (by decide +kernel)⟩
theorem lw_p40 : lw_okq (⟨"SumWalker", "markGuides", "(LSumWalker$Walk;)I"⟩, 15) := ⟨⟨by decide +kernel, by decide +kernel⟩, List.mem_of_getElem? (i := 15) (by decide +kernel), List.mem_of_getElem? (i := 735) (by decide +kernel), List.mem_of_getElem? (i := 736) (by decide +kernel)⟩
theorem lw_p41 : lw_okq (⟨"SumWalker", "countMarks", "(II)I"⟩, 15) := ⟨⟨by decide +kernel, by decide +kernel⟩, List.mem_of_getElem? (i := 15) (by decide +kernel), List.mem_of_getElem? (i := 739) (by decide +kernel), List.mem_of_getElem? (i := 740) (by decide +kernel)⟩
theorem lw_p42 : lw_okq (⟨"SumWalker", "isCounted", "(II)Z"⟩, 15) := ⟨⟨by decide +kernel, by decide +kernel⟩, List.mem_of_getElem? (i := 15) (by decide +kernel), List.mem_of_getElem? (i := 784) (by decide +kernel), List.mem_of_getElem? (i := 785) (by decide +kernel)⟩
theorem lw_p43 : lw_okq (⟨"SumWalker", "greaterMate", "(I)I"⟩, 15) := ⟨⟨by decide +kernel, by decide +kernel⟩, List.mem_of_getElem? (i := 15) (by decide +kernel), List.mem_of_getElem? (i := 792) (by decide +kernel), List.mem_of_getElem? (i := 793) (by decide +kernel)⟩
theorem lw_p44 : lw_okq (⟨"SumWalker", "isRing", "(II)Z"⟩, 15) := ⟨⟨by decide +kernel, by decide +kernel⟩, List.mem_of_getElem? (i := 15) (by decide +kernel), List.mem_of_getElem? (i := 801) (by decide +kernel), List.mem_of_getElem? (i := 802) (by decide +kernel)⟩
theorem lw_p45 : lw_okq (⟨"SumWalker$Primes", "sortFalling", "()V"⟩, 4) := ⟨⟨by decide +kernel, by decide +kernel⟩, List.mem_of_getElem? (i := 68) (by decide +kernel), List.mem_of_getElem? (i := 821) (by decide +kernel), List.mem_of_getElem? (i := 822) (by decide +kernel)⟩
theorem lw_p46 : lw_okq (⟨"SumWalker", "keepAct", "()V"⟩, 15) := ⟨⟨by decide +kernel, by decide +kernel⟩, List.mem_of_getElem? (i := 15) (by decide +kernel), List.mem_of_getElem? (i := 837) (by decide +kernel), List.mem_of_getElem? (i := 838) (by decide +kernel)⟩
theorem lw_p47 : lw_okq (⟨"SumWalker", "dropOldestAct", "()V"⟩, 15) := ⟨⟨by decide +kernel, by decide +kernel⟩, List.mem_of_getElem? (i := 15) (by decide +kernel), List.mem_of_getElem? (i := 841) (by decide +kernel), List.mem_of_getElem? (i := 842) (by decide +kernel)⟩
def lw_privs_3 : List (MethodName × Nat) := [(⟨"SumWalker", "clearMarks", "()V"⟩, 15), (⟨"SumWalker", "isPrimitive", "(I)Z"⟩, 15), (⟨"SumWalker", "fillSums", "(I)V"⟩, 15), (⟨"SumWalker", "stepsTo", "(III)I"⟩, 15), (⟨"SumWalker", "hasRow", "(I)Z"⟩, 15), (⟨"SumWalker", "walkOf", "(I)LSumWalker$Walk;"⟩, 15), (⟨"SumWalker", "driverPlaces", "(LSumWalker$Walk;)I"⟩, 15), (⟨"SumWalker", "firstDriver", "(LSumWalker$Walk;)I"⟩, 15), (⟨"SumWalker", "markGuides", "(LSumWalker$Walk;)I"⟩, 15), (⟨"SumWalker", "countMarks", "(II)I"⟩, 15), (⟨"SumWalker", "isCounted", "(II)Z"⟩, 15), (⟨"SumWalker", "greaterMate", "(I)I"⟩, 15), (⟨"SumWalker", "isRing", "(II)Z"⟩, 15), (⟨"SumWalker$Primes", "sortFalling", "()V"⟩, 4), (⟨"SumWalker", "keepAct", "()V"⟩, 15), (⟨"SumWalker", "dropOldestAct", "()V"⟩, 15)]
theorem lw_r3 : ∀ q ∈ lw_privs_3, lw_okq q := List.forall_mem_cons.mpr ⟨lw_p32, List.forall_mem_cons.mpr ⟨lw_p33, List.forall_mem_cons.mpr ⟨lw_p34, List.forall_mem_cons.mpr ⟨lw_p35, List.forall_mem_cons.mpr ⟨lw_p36, List.forall_mem_cons.mpr ⟨lw_p37, List.forall_mem_cons.mpr ⟨lw_p38, List.forall_mem_cons.mpr ⟨lw_p39, List.forall_mem_cons.mpr ⟨lw_p40, List.forall_mem_cons.mpr ⟨lw_p41, List.forall_mem_cons.mpr ⟨lw_p42, List.forall_mem_cons.mpr ⟨lw_p43, List.forall_mem_cons.mpr ⟨lw_p44, List.forall_mem_cons.mpr ⟨lw_p45, List.forall_mem_cons.mpr ⟨lw_p46, List.forall_mem_cons.mpr ⟨lw_p47, fun _ h => absurd h List.not_mem_nil⟩⟩⟩⟩⟩⟩⟩⟩⟩⟩⟩⟩⟩⟩⟩⟩
theorem lw_p48 : lw_okq (⟨"SumWalker", "startRowAt", "(II)V"⟩, 15) := ⟨⟨by decide +kernel, by decide +kernel⟩, List.mem_of_getElem? (i := 15) (by decide +kernel), List.mem_of_getElem? (i := 850) (by decide +kernel), List.mem_of_getElem? (i := 851) (by decide +kernel)⟩
theorem lw_p49 : lw_okq (⟨"SumWalker$Ink", "write", "(I)V"⟩, 2) := ⟨⟨by decide +kernel, by decide +kernel⟩, List.mem_of_getElem? (i := 162) (by decide +kernel), List.mem_of_getElem? (i := 885) (by decide +kernel), List.mem_of_getElem? (i := 886) (by decide +kernel)⟩
theorem lw_p50 : lw_okq (⟨"SumWalker$Ink", "writeValue", "(ILSumWalker$Primes;)V"⟩, 2) := ⟨⟨by decide +kernel, by decide +kernel⟩, List.mem_of_getElem? (i := 162) (by decide +kernel), List.mem_of_getElem? (i := 889) (by decide +kernel), List.mem_of_getElem? (i := 890) (by decide +kernel)⟩
theorem lw_p51 : lw_okq (⟨"SumWalker$Ink", "writeNumber", "(I)V"⟩, 2) := ⟨⟨by decide +kernel, by decide +kernel⟩, List.mem_of_getElem? (i := 162) (by decide +kernel), List.mem_of_getElem? (i := 893) (by decide +kernel), List.mem_of_getElem? (i := 894) (by decide +kernel)⟩
theorem lw_p52 : lw_okq (⟨"SumWalkerModel", "is", "(I)Z"⟩, 44) := ⟨⟨by decide +kernel, by decide +kernel⟩, List.mem_of_getElem? (i := 906) (by decide +kernel), List.mem_of_getElem? (i := 1067) (by decide +kernel), List.mem_of_getElem? (i := 1068) (by decide +kernel)⟩
theorem lw_p53 : lw_okq (⟨"SumWalkerModel", "factors", "(I)V"⟩, 44) := ⟨⟨by decide +kernel, by decide +kernel⟩, List.mem_of_getElem? (i := 906) (by decide +kernel), List.mem_of_getElem? (i := 1079) (by decide +kernel), List.mem_of_getElem? (i := 1080) (by decide +kernel)⟩
theorem lw_p54 : lw_okq (⟨"SumWalkerModel", "refuse", "(I)I"⟩, 44) := ⟨⟨by decide +kernel, by decide +kernel⟩, List.mem_of_getElem? (i := 906) (by decide +kernel), List.mem_of_getElem? (i := 1083) (by decide +kernel), List.mem_of_getElem? (i := 1084) (by decide +kernel)⟩
theorem lw_p55 : lw_okq (⟨"SumWalkerModel", "sumOf", "(I)J"⟩, 44) := ⟨⟨by decide +kernel, by decide +kernel⟩, List.mem_of_getElem? (i := 906) (by decide +kernel), List.mem_of_getElem? (i := 1091) (by decide +kernel), List.mem_of_getElem? (i := 1092) (by decide +kernel)⟩
theorem lw_p56 : lw_okq (⟨"SumWalkerModel", "sumOf", "(II)J"⟩, 44) := ⟨⟨by decide +kernel, by decide +kernel⟩, List.mem_of_getElem? (i := 906) (by decide +kernel), List.mem_of_getElem? (i := 1095) (by decide +kernel), List.mem_of_getElem? (i := 1096) (by decide +kernel)⟩
theorem lw_p57 : lw_okq (⟨"SumWalkerModel", "allOf", "(I)J"⟩, 44) := ⟨⟨by decide +kernel, by decide +kernel⟩, List.mem_of_getElem? (i := 906) (by decide +kernel), List.mem_of_getElem? (i := 1099) (by decide +kernel), List.mem_of_getElem? (i := 1100) (by decide +kernel)⟩
theorem lw_p58 : lw_okq (⟨"SumWalkerModel", "kindBy", "(II)I"⟩, 44) := ⟨⟨by decide +kernel, by decide +kernel⟩, List.mem_of_getElem? (i := 906) (by decide +kernel), List.mem_of_getElem? (i := 1114) (by decide +kernel), List.mem_of_getElem? (i := 1115) (by decide +kernel)⟩
theorem lw_p59 : lw_okq (⟨"SumWalkerModel", "laysGuide", "(I)V"⟩, 44) := ⟨⟨by decide +kernel, by decide +kernel⟩, List.mem_of_getElem? (i := 906) (by decide +kernel), List.mem_of_getElem? (i := 1123) (by decide +kernel), List.mem_of_getElem? (i := 1124) (by decide +kernel)⟩
theorem lw_p60 : lw_okq (⟨"SumWalkerModel", "guideAt", "()I"⟩, 44) := ⟨⟨by decide +kernel, by decide +kernel⟩, List.mem_of_getElem? (i := 906) (by decide +kernel), List.mem_of_getElem? (i := 1130) (by decide +kernel), List.mem_of_getElem? (i := 1131) (by decide +kernel)⟩
theorem lw_p61 : lw_okq (⟨"SumWalkerModel", "isDriver", "(I)Z"⟩, 44) := ⟨⟨by decide +kernel, by decide +kernel⟩, List.mem_of_getElem? (i := 906) (by decide +kernel), List.mem_of_getElem? (i := 1134) (by decide +kernel), List.mem_of_getElem? (i := 1135) (by decide +kernel)⟩
theorem lw_p62 : lw_okq (⟨"SumWalkerModel", "manyDivisors", "(I)I"⟩, 44) := ⟨⟨by decide +kernel, by decide +kernel⟩, List.mem_of_getElem? (i := 906) (by decide +kernel), List.mem_of_getElem? (i := 1143) (by decide +kernel), List.mem_of_getElem? (i := 1144) (by decide +kernel)⟩
theorem lw_p63 : lw_okq (⟨"SumWalkerModel", "laysDivisors", "(I)V"⟩, 44) := ⟨⟨by decide +kernel, by decide +kernel⟩, List.mem_of_getElem? (i := 906) (by decide +kernel), List.mem_of_getElem? (i := 1147) (by decide +kernel), List.mem_of_getElem? (i := 1148) (by decide +kernel)⟩
def lw_privs_4 : List (MethodName × Nat) := [(⟨"SumWalker", "startRowAt", "(II)V"⟩, 15), (⟨"SumWalker$Ink", "write", "(I)V"⟩, 2), (⟨"SumWalker$Ink", "writeValue", "(ILSumWalker$Primes;)V"⟩, 2), (⟨"SumWalker$Ink", "writeNumber", "(I)V"⟩, 2), (⟨"SumWalkerModel", "is", "(I)Z"⟩, 44), (⟨"SumWalkerModel", "factors", "(I)V"⟩, 44), (⟨"SumWalkerModel", "refuse", "(I)I"⟩, 44), (⟨"SumWalkerModel", "sumOf", "(I)J"⟩, 44), (⟨"SumWalkerModel", "sumOf", "(II)J"⟩, 44), (⟨"SumWalkerModel", "allOf", "(I)J"⟩, 44), (⟨"SumWalkerModel", "kindBy", "(II)I"⟩, 44), (⟨"SumWalkerModel", "laysGuide", "(I)V"⟩, 44), (⟨"SumWalkerModel", "guideAt", "()I"⟩, 44), (⟨"SumWalkerModel", "isDriver", "(I)Z"⟩, 44), (⟨"SumWalkerModel", "manyDivisors", "(I)I"⟩, 44), (⟨"SumWalkerModel", "laysDivisors", "(I)V"⟩, 44)]
theorem lw_r4 : ∀ q ∈ lw_privs_4, lw_okq q := List.forall_mem_cons.mpr ⟨lw_p48, List.forall_mem_cons.mpr ⟨lw_p49, List.forall_mem_cons.mpr ⟨lw_p50, List.forall_mem_cons.mpr ⟨lw_p51, List.forall_mem_cons.mpr ⟨lw_p52, List.forall_mem_cons.mpr ⟨lw_p53, List.forall_mem_cons.mpr ⟨lw_p54, List.forall_mem_cons.mpr ⟨lw_p55, List.forall_mem_cons.mpr ⟨lw_p56, List.forall_mem_cons.mpr ⟨lw_p57, List.forall_mem_cons.mpr ⟨lw_p58, List.forall_mem_cons.mpr ⟨lw_p59, List.forall_mem_cons.mpr ⟨lw_p60, List.forall_mem_cons.mpr ⟨lw_p61, List.forall_mem_cons.mpr ⟨lw_p62, List.forall_mem_cons.mpr ⟨lw_p63, fun _ h => absurd h List.not_mem_nil⟩⟩⟩⟩⟩⟩⟩⟩⟩⟩⟩⟩⟩⟩⟩⟩
theorem lw_p64 : lw_okq (⟨"SumWalkerModel", "lays", "(I)I"⟩, 44) := ⟨⟨by decide +kernel, by decide +kernel⟩, List.mem_of_getElem? (i := 906) (by decide +kernel), List.mem_of_getElem? (i := 1151) (by decide +kernel), List.mem_of_getElem? (i := 1152) (by decide +kernel)⟩
theorem lw_p65 : lw_okq (⟨"SumWalkerModel", "kinIn", "(IIII)I"⟩, 44) := ⟨⟨by decide +kernel, by decide +kernel⟩, List.mem_of_getElem? (i := 906) (by decide +kernel), List.mem_of_getElem? (i := 1183) (by decide +kernel), List.mem_of_getElem? (i := 1184) (by decide +kernel)⟩
theorem lw_p66 : lw_okq (⟨"SumWalkerModel", "laysSums", "(I)V"⟩, 44) := ⟨⟨by decide +kernel, by decide +kernel⟩, List.mem_of_getElem? (i := 906) (by decide +kernel), List.mem_of_getElem? (i := 1192) (by decide +kernel), List.mem_of_getElem? (i := 1193) (by decide +kernel)⟩
theorem lw_p67 : lw_okq (⟨"SumWalkerModel", "beforeAt", "(III)I"⟩, 44) := ⟨⟨by decide +kernel, by decide +kernel⟩, List.mem_of_getElem? (i := 906) (by decide +kernel), List.mem_of_getElem? (i := 1196) (by decide +kernel), List.mem_of_getElem? (i := 1197) (by decide +kernel)⟩
theorem lw_p68 : lw_okq (⟨"SumWalkerModel", "joins", "(III)V"⟩, 44) := ⟨⟨by decide +kernel, by decide +kernel⟩, List.mem_of_getElem? (i := 906) (by decide +kernel), List.mem_of_getElem? (i := 1217) (by decide +kernel), List.mem_of_getElem? (i := 1218) (by decide +kernel)⟩
theorem lw_p69 : lw_okq (⟨"SumWalkerModel", "sizeOf", "(II)I"⟩, 44) := ⟨⟨by decide +kernel, by decide +kernel⟩, List.mem_of_getElem? (i := 906) (by decide +kernel), List.mem_of_getElem? (i := 1221) (by decide +kernel), List.mem_of_getElem? (i := 1222) (by decide +kernel)⟩
theorem lw_p70 : lw_okq (⟨"SumWalkerModel", "depthOf", "(II)I"⟩, 44) := ⟨⟨by decide +kernel, by decide +kernel⟩, List.mem_of_getElem? (i := 906) (by decide +kernel), List.mem_of_getElem? (i := 1245) (by decide +kernel), List.mem_of_getElem? (i := 1246) (by decide +kernel)⟩
theorem lw_p71 : lw_okq (⟨"SumWalkerModel", "isPrime", "(I)Z"⟩, 44) := ⟨⟨by decide +kernel, by decide +kernel⟩, List.mem_of_getElem? (i := 906) (by decide +kernel), List.mem_of_getElem? (i := 1254) (by decide +kernel), List.mem_of_getElem? (i := 1255) (by decide +kernel)⟩
theorem lw_p72 : lw_okq (⟨"SumWalkerModel", "whyRow", "(ZI)I"⟩, 44) := ⟨⟨by decide +kernel, by decide +kernel⟩, List.mem_of_getElem? (i := 906) (by decide +kernel), List.mem_of_getElem? (i := 1262) (by decide +kernel), List.mem_of_getElem? (i := 1263) (by decide +kernel)⟩
theorem lw_p73 : lw_okq (⟨"SumWalkerModel", "isRow", "(I)Z"⟩, 44) := ⟨⟨by decide +kernel, by decide +kernel⟩, List.mem_of_getElem? (i := 906) (by decide +kernel), List.mem_of_getElem? (i := 1266) (by decide +kernel), List.mem_of_getElem? (i := 1267) (by decide +kernel)⟩
theorem lw_p74 : lw_okq (⟨"SumWalkerModel", "hasRow", "(ZI)Z"⟩, 44) := ⟨⟨by decide +kernel, by decide +kernel⟩, List.mem_of_getElem? (i := 906) (by decide +kernel), List.mem_of_getElem? (i := 1274) (by decide +kernel), List.mem_of_getElem? (i := 1275) (by decide +kernel)⟩
theorem lw_p75 : lw_okq (⟨"SumWalkerModel", "goes", "(I)V"⟩, 44) := ⟨⟨by decide +kernel, by decide +kernel⟩, List.mem_of_getElem? (i := 906) (by decide +kernel), List.mem_of_getElem? (i := 1278) (by decide +kernel), List.mem_of_getElem? (i := 1279) (by decide +kernel)⟩
theorem lw_p76 : lw_okq (⟨"SumWalkerModel", "goesBy", "(II)V"⟩, 44) := ⟨⟨by decide +kernel, by decide +kernel⟩, List.mem_of_getElem? (i := 906) (by decide +kernel), List.mem_of_getElem? (i := 1282) (by decide +kernel), List.mem_of_getElem? (i := 1283) (by decide +kernel)⟩
theorem lw_p77 : lw_okq (⟨"SumWalkerModel", "placeOf", "(J)I"⟩, 44) := ⟨⟨by decide +kernel, by decide +kernel⟩, List.mem_of_getElem? (i := 906) (by decide +kernel), List.mem_of_getElem? (i := 1286) (by decide +kernel), List.mem_of_getElem? (i := 1287) (by decide +kernel)⟩
theorem lw_p78 : lw_okq (⟨"SumWalkerModel", "leastOfRound", "()I"⟩, 44) := ⟨⟨by decide +kernel, by decide +kernel⟩, List.mem_of_getElem? (i := 906) (by decide +kernel), List.mem_of_getElem? (i := 1298) (by decide +kernel), List.mem_of_getElem? (i := 1299) (by decide +kernel)⟩
theorem lw_p79 : lw_okq (⟨"SumWalkerModel", "greatestPlace", "()I"⟩, 44) := ⟨⟨by decide +kernel, by decide +kernel⟩, List.mem_of_getElem? (i := 906) (by decide +kernel), List.mem_of_getElem? (i := 1306) (by decide +kernel), List.mem_of_getElem? (i := 1307) (by decide +kernel)⟩
def lw_privs_5 : List (MethodName × Nat) := [(⟨"SumWalkerModel", "lays", "(I)I"⟩, 44), (⟨"SumWalkerModel", "kinIn", "(IIII)I"⟩, 44), (⟨"SumWalkerModel", "laysSums", "(I)V"⟩, 44), (⟨"SumWalkerModel", "beforeAt", "(III)I"⟩, 44), (⟨"SumWalkerModel", "joins", "(III)V"⟩, 44), (⟨"SumWalkerModel", "sizeOf", "(II)I"⟩, 44), (⟨"SumWalkerModel", "depthOf", "(II)I"⟩, 44), (⟨"SumWalkerModel", "isPrime", "(I)Z"⟩, 44), (⟨"SumWalkerModel", "whyRow", "(ZI)I"⟩, 44), (⟨"SumWalkerModel", "isRow", "(I)Z"⟩, 44), (⟨"SumWalkerModel", "hasRow", "(ZI)Z"⟩, 44), (⟨"SumWalkerModel", "goes", "(I)V"⟩, 44), (⟨"SumWalkerModel", "goesBy", "(II)V"⟩, 44), (⟨"SumWalkerModel", "placeOf", "(J)I"⟩, 44), (⟨"SumWalkerModel", "leastOfRound", "()I"⟩, 44), (⟨"SumWalkerModel", "greatestPlace", "()I"⟩, 44)]
theorem lw_r5 : ∀ q ∈ lw_privs_5, lw_okq q := List.forall_mem_cons.mpr ⟨lw_p64, List.forall_mem_cons.mpr ⟨lw_p65, List.forall_mem_cons.mpr ⟨lw_p66, List.forall_mem_cons.mpr ⟨lw_p67, List.forall_mem_cons.mpr ⟨lw_p68, List.forall_mem_cons.mpr ⟨lw_p69, List.forall_mem_cons.mpr ⟨lw_p70, List.forall_mem_cons.mpr ⟨lw_p71, List.forall_mem_cons.mpr ⟨lw_p72, List.forall_mem_cons.mpr ⟨lw_p73, List.forall_mem_cons.mpr ⟨lw_p74, List.forall_mem_cons.mpr ⟨lw_p75, List.forall_mem_cons.mpr ⟨lw_p76, List.forall_mem_cons.mpr ⟨lw_p77, List.forall_mem_cons.mpr ⟨lw_p78, List.forall_mem_cons.mpr ⟨lw_p79, fun _ h => absurd h List.not_mem_nil⟩⟩⟩⟩⟩⟩⟩⟩⟩⟩⟩⟩⟩⟩⟩⟩
theorem lw_p80 : lw_okq (⟨"SumWalkerModel", "guideOf", "(I)I"⟩, 44) := ⟨⟨by decide +kernel, by decide +kernel⟩, List.mem_of_getElem? (i := 906) (by decide +kernel), List.mem_of_getElem? (i := 1326) (by decide +kernel), List.mem_of_getElem? (i := 1327) (by decide +kernel)⟩
theorem lw_p81 : lw_okq (⟨"SumWalkerModel", "hadAhead", "(I)Z"⟩, 44) := ⟨⟨by decide +kernel, by decide +kernel⟩, List.mem_of_getElem? (i := 906) (by decide +kernel), List.mem_of_getElem? (i := 1338) (by decide +kernel), List.mem_of_getElem? (i := 1339) (by decide +kernel)⟩
theorem lw_p82 : lw_okq (⟨"SumWalkerModel", "placesWith", "(I)I"⟩, 44) := ⟨⟨by decide +kernel, by decide +kernel⟩, List.mem_of_getElem? (i := 906) (by decide +kernel), List.mem_of_getElem? (i := 1342) (by decide +kernel), List.mem_of_getElem? (i := 1343) (by decide +kernel)⟩
theorem lw_p83 : lw_okq (⟨"SumWalkerModel", "laysAside", "(I)V"⟩, 44) := ⟨⟨by decide +kernel, by decide +kernel⟩, List.mem_of_getElem? (i := 906) (by decide +kernel), List.mem_of_getElem? (i := 1350) (by decide +kernel), List.mem_of_getElem? (i := 1351) (by decide +kernel)⟩
theorem lw_p84 : lw_okq (⟨"SumWalkerModel", "hasRows", "(ZII)Z"⟩, 44) := ⟨⟨by decide +kernel, by decide +kernel⟩, List.mem_of_getElem? (i := 906) (by decide +kernel), List.mem_of_getElem? (i := 1358) (by decide +kernel), List.mem_of_getElem? (i := 1359) (by decide +kernel)⟩
theorem lw_p85 : lw_okq (⟨"SumWalkerModel", "placeAside", "(I)I"⟩, 44) := ⟨⟨by decide +kernel, by decide +kernel⟩, List.mem_of_getElem? (i := 906) (by decide +kernel), List.mem_of_getElem? (i := 1366) (by decide +kernel), List.mem_of_getElem? (i := 1367) (by decide +kernel)⟩
theorem lw_p86 : lw_okq (⟨"SumWalkerModel", "endOf", "(I)J"⟩, 44) := ⟨⟨by decide +kernel, by decide +kernel⟩, List.mem_of_getElem? (i := 906) (by decide +kernel), List.mem_of_getElem? (i := 1374) (by decide +kernel), List.mem_of_getElem? (i := 1375) (by decide +kernel)⟩
theorem lw_p87 : lw_okq (⟨"SumWalkerModel", "isRing", "(II)Z"⟩, 44) := ⟨⟨by decide +kernel, by decide +kernel⟩, List.mem_of_getElem? (i := 906) (by decide +kernel), List.mem_of_getElem? (i := 1391) (by decide +kernel), List.mem_of_getElem? (i := 1392) (by decide +kernel)⟩
theorem lw_p88 : lw_okq (⟨"SumWalkerModel", "shapeOf", "(I)J"⟩, 44) := ⟨⟨by decide +kernel, by decide +kernel⟩, List.mem_of_getElem? (i := 906) (by decide +kernel), List.mem_of_getElem? (i := 1408) (by decide +kernel), List.mem_of_getElem? (i := 1409) (by decide +kernel)⟩
theorem lw_p89 : lw_okq (⟨"SumWalkerModel", "remembers", "()V"⟩, 44) := ⟨⟨by decide +kernel, by decide +kernel⟩, List.mem_of_getElem? (i := 906) (by decide +kernel), List.mem_of_getElem? (i := 1427) (by decide +kernel), List.mem_of_getElem? (i := 1428) (by decide +kernel)⟩
theorem lw_p90 : lw_okq (⟨"SumWalkerModel", "says", "(I)V"⟩, 44) := ⟨⟨by decide +kernel, by decide +kernel⟩, List.mem_of_getElem? (i := 906) (by decide +kernel), List.mem_of_getElem? (i := 1463) (by decide +kernel), List.mem_of_getElem? (i := 1464) (by decide +kernel)⟩
theorem lw_p91 : lw_okq (⟨"SumWalkerModel", "saysPrimes", "(I)V"⟩, 44) := ⟨⟨by decide +kernel, by decide +kernel⟩, List.mem_of_getElem? (i := 906) (by decide +kernel), List.mem_of_getElem? (i := 1467) (by decide +kernel), List.mem_of_getElem? (i := 1468) (by decide +kernel)⟩
theorem lw_p92 : lw_okq (⟨"SumWalkerModel", "saysNumber", "(I)V"⟩, 44) := ⟨⟨by decide +kernel, by decide +kernel⟩, List.mem_of_getElem? (i := 906) (by decide +kernel), List.mem_of_getElem? (i := 1471) (by decide +kernel), List.mem_of_getElem? (i := 1472) (by decide +kernel)⟩
theorem lw_p93 : lw_okq (⟨"SumWalkerModel", "feeds", "(I)V"⟩, 44) := ⟨⟨by decide +kernel, by decide +kernel⟩, List.mem_of_getElem? (i := 906) (by decide +kernel), List.mem_of_getElem? (i := 1483) (by decide +kernel), List.mem_of_getElem? (i := 1484) (by decide +kernel)⟩
theorem lw_p94 : lw_okq (⟨"SumWalkerModel", "reads", "()V"⟩, 44) := ⟨⟨by decide +kernel, by decide +kernel⟩, List.mem_of_getElem? (i := 906) (by decide +kernel), List.mem_of_getElem? (i := 1491) (by decide +kernel), List.mem_of_getElem? (i := 1492) (by decide +kernel)⟩
theorem lw_p95 : lw_okq (⟨"SumWalkerModel", "isOf", "(III)Z"⟩, 44) := ⟨⟨by decide +kernel, by decide +kernel⟩, List.mem_of_getElem? (i := 906) (by decide +kernel), List.mem_of_getElem? (i := 1495) (by decide +kernel), List.mem_of_getElem? (i := 1496) (by decide +kernel)⟩
def lw_privs_6 : List (MethodName × Nat) := [(⟨"SumWalkerModel", "guideOf", "(I)I"⟩, 44), (⟨"SumWalkerModel", "hadAhead", "(I)Z"⟩, 44), (⟨"SumWalkerModel", "placesWith", "(I)I"⟩, 44), (⟨"SumWalkerModel", "laysAside", "(I)V"⟩, 44), (⟨"SumWalkerModel", "hasRows", "(ZII)Z"⟩, 44), (⟨"SumWalkerModel", "placeAside", "(I)I"⟩, 44), (⟨"SumWalkerModel", "endOf", "(I)J"⟩, 44), (⟨"SumWalkerModel", "isRing", "(II)Z"⟩, 44), (⟨"SumWalkerModel", "shapeOf", "(I)J"⟩, 44), (⟨"SumWalkerModel", "remembers", "()V"⟩, 44), (⟨"SumWalkerModel", "says", "(I)V"⟩, 44), (⟨"SumWalkerModel", "saysPrimes", "(I)V"⟩, 44), (⟨"SumWalkerModel", "saysNumber", "(I)V"⟩, 44), (⟨"SumWalkerModel", "feeds", "(I)V"⟩, 44), (⟨"SumWalkerModel", "reads", "()V"⟩, 44), (⟨"SumWalkerModel", "isOf", "(III)Z"⟩, 44)]
theorem lw_r6 : ∀ q ∈ lw_privs_6, lw_okq q := List.forall_mem_cons.mpr ⟨lw_p80, List.forall_mem_cons.mpr ⟨lw_p81, List.forall_mem_cons.mpr ⟨lw_p82, List.forall_mem_cons.mpr ⟨lw_p83, List.forall_mem_cons.mpr ⟨lw_p84, List.forall_mem_cons.mpr ⟨lw_p85, List.forall_mem_cons.mpr ⟨lw_p86, List.forall_mem_cons.mpr ⟨lw_p87, List.forall_mem_cons.mpr ⟨lw_p88, List.forall_mem_cons.mpr ⟨lw_p89, List.forall_mem_cons.mpr ⟨lw_p90, List.forall_mem_cons.mpr ⟨lw_p91, List.forall_mem_cons.mpr ⟨lw_p92, List.forall_mem_cons.mpr ⟨lw_p93, List.forall_mem_cons.mpr ⟨lw_p94, List.forall_mem_cons.mpr ⟨lw_p95, fun _ h => absurd h List.not_mem_nil⟩⟩⟩⟩⟩⟩⟩⟩⟩⟩⟩⟩⟩⟩⟩⟩
theorem lw_p96 : lw_okq (⟨"SumWalkerModel", "good", "()Z"⟩, 44) := ⟨⟨by decide +kernel, by decide +kernel⟩, List.mem_of_getElem? (i := 906) (by decide +kernel), List.mem_of_getElem? (i := 1501) (by decide +kernel), List.mem_of_getElem? (i := 1502) (by decide +kernel)⟩
theorem lw_p97 : lw_okq (⟨"SumWalkerModel", "line", "()V"⟩, 44) := ⟨⟨by decide +kernel, by decide +kernel⟩, List.mem_of_getElem? (i := 906) (by decide +kernel), List.mem_of_getElem? (i := 1505) (by decide +kernel), List.mem_of_getElem? (i := 1506) (by decide +kernel)⟩
theorem lw_p98 : lw_okq (⟨"SumWalkerModel", "isWord", "(I)Z"⟩, 44) := ⟨⟨by decide +kernel, by decide +kernel⟩, List.mem_of_getElem? (i := 906) (by decide +kernel), List.mem_of_getElem? (i := 1509) (by decide +kernel), List.mem_of_getElem? (i := 1510) (by decide +kernel)⟩
theorem lw_p99 : lw_okq (⟨"SumWalkerModel", "readsRow", "()V"⟩, 44) := ⟨⟨by decide +kernel, by decide +kernel⟩, List.mem_of_getElem? (i := 906) (by decide +kernel), List.mem_of_getElem? (i := 1513) (by decide +kernel), List.mem_of_getElem? (i := 1514) (by decide +kernel)⟩
theorem lw_p100 : lw_okq (⟨"SumWalkerModel", "must", "(ZI)V"⟩, 44) := ⟨⟨by decide +kernel, by decide +kernel⟩, List.mem_of_getElem? (i := 906) (by decide +kernel), List.mem_of_getElem? (i := 1517) (by decide +kernel), List.mem_of_getElem? (i := 1518) (by decide +kernel)⟩
theorem lw_p101 : lw_okq (⟨"SumWalkerModel", "goesOn", "()V"⟩, 44) := ⟨⟨by decide +kernel, by decide +kernel⟩, List.mem_of_getElem? (i := 906) (by decide +kernel), List.mem_of_getElem? (i := 1521) (by decide +kernel), List.mem_of_getElem? (i := 1522) (by decide +kernel)⟩
theorem lw_p102 : lw_okq (⟨"SumWalkerModel", "isName", "()Z"⟩, 44) := ⟨⟨by decide +kernel, by decide +kernel⟩, List.mem_of_getElem? (i := 906) (by decide +kernel), List.mem_of_getElem? (i := 1525) (by decide +kernel), List.mem_of_getElem? (i := 1526) (by decide +kernel)⟩
theorem lw_p103 : lw_okq (⟨"SumWalkerModel", "takesNumber", "(I)I"⟩, 44) := ⟨⟨by decide +kernel, by decide +kernel⟩, List.mem_of_getElem? (i := 906) (by decide +kernel), List.mem_of_getElem? (i := 1529) (by decide +kernel), List.mem_of_getElem? (i := 1530) (by decide +kernel)⟩
theorem lw_p104 : lw_okq (⟨"SumWalkerModel", "readsLaw", "()V"⟩, 44) := ⟨⟨by decide +kernel, by decide +kernel⟩, List.mem_of_getElem? (i := 906) (by decide +kernel), List.mem_of_getElem? (i := 1533) (by decide +kernel), List.mem_of_getElem? (i := 1534) (by decide +kernel)⟩
def lw_privs_7 : List (MethodName × Nat) := [(⟨"SumWalkerModel", "good", "()Z"⟩, 44), (⟨"SumWalkerModel", "line", "()V"⟩, 44), (⟨"SumWalkerModel", "isWord", "(I)Z"⟩, 44), (⟨"SumWalkerModel", "readsRow", "()V"⟩, 44), (⟨"SumWalkerModel", "must", "(ZI)V"⟩, 44), (⟨"SumWalkerModel", "goesOn", "()V"⟩, 44), (⟨"SumWalkerModel", "isName", "()Z"⟩, 44), (⟨"SumWalkerModel", "takesNumber", "(I)I"⟩, 44), (⟨"SumWalkerModel", "readsLaw", "()V"⟩, 44)]
theorem lw_r7 : ∀ q ∈ lw_privs_7, lw_okq q := List.forall_mem_cons.mpr ⟨lw_p96, List.forall_mem_cons.mpr ⟨lw_p97, List.forall_mem_cons.mpr ⟨lw_p98, List.forall_mem_cons.mpr ⟨lw_p99, List.forall_mem_cons.mpr ⟨lw_p100, List.forall_mem_cons.mpr ⟨lw_p101, List.forall_mem_cons.mpr ⟨lw_p102, List.forall_mem_cons.mpr ⟨lw_p103, List.forall_mem_cons.mpr ⟨lw_p104, fun _ h => absurd h List.not_mem_nil⟩⟩⟩⟩⟩⟩⟩⟩⟩
def lw_privs : List (MethodName × Nat) := lw_privs_1 ++ (lw_privs_2 ++ (lw_privs_3 ++ (lw_privs_4 ++ (lw_privs_5 ++ (lw_privs_6 ++ (lw_privs_7))))))
def lw_tbl : List Cond := k2_sels lw_privs ++ tables_1
theorem lw_privs_ok : ∀ q ∈ lw_privs, lw_okq q := by
  show ∀ q ∈ lw_privs_1 ++ (lw_privs_2 ++ (lw_privs_3 ++ (lw_privs_4 ++ (lw_privs_5 ++ (lw_privs_6 ++ (lw_privs_7)))))), lw_okq q
  exact List.forall_mem_append.mpr ⟨lw_r1, List.forall_mem_append.mpr ⟨lw_r2, List.forall_mem_append.mpr ⟨lw_r3, List.forall_mem_append.mpr ⟨lw_r4, List.forall_mem_append.mpr ⟨lw_r5, List.forall_mem_append.mpr ⟨lw_r6, lw_r7⟩⟩⟩⟩⟩⟩

def RX0 : String := "SumWalker$Desk"
def TX0 : u_T := fun k => match k with
  | 0 => ("SumWalker$Desk", "starts", "[I", true)
  | 1 => ("SumWalker$Desk", "count", "I", false)
  | 2 => ("SumWalker$Desk", "bound", "I", false)
  | 3 => ("SumWalker$Desk", "steps", "I", false)
  | _ => ("SumWalker$Desk", "law", "I", false)
def tyX0 : Nat → FieldType := fun k => match k with
  | 0 => .array .int
  | 1 => .int
  | 2 => .int
  | 3 => .int
  | _ => .int
abbrev wsX00 : List Cond := u_ws RX0 TX0 5
theorem nmX0 : ∀ a, a < 5 → ∀ b, b < 5 → a ≠ b → (TX0 a).2.1 ≠ (TX0 b).2.1 := by decide +kernel
theorem tyX0_ok : ∀ k, k < 5 → parseFieldDescriptor (TX0 k).2.2.1 = some (tyX0 k) := by decide +kernel

def RX1 : String := "SumWalker$Ink"
def TX1 : u_T := fun k => match k with
  | 0 => ("SumWalker$Ink", "bytes", "[I", true)
  | _ => ("SumWalker$Ink", "count", "I", false)
def tyX1 : Nat → FieldType := fun k => match k with
  | 0 => .array .int
  | _ => .int
abbrev wsX10 : List Cond := u_ws RX1 TX1 2
theorem nmX1 : ∀ a, a < 2 → ∀ b, b < 2 → a ≠ b → (TX1 a).2.1 ≠ (TX1 b).2.1 := by decide +kernel
theorem tyX1_ok : ∀ k, k < 2 → parseFieldDescriptor (TX1 k).2.2.1 = some (tyX1 k) := by decide +kernel

def RX2 : String := "SumWalker$Primes"
def TX2 : u_T := fun k => match k with
  | 0 => ("SumWalker$Primes", "prime", "[I", true)
  | 1 => ("SumWalker$Primes", "times", "[I", true)
  | 2 => ("SumWalker$Primes", "falling", "[I", true)
  | _ => ("SumWalker$Primes", "count", "I", false)
def tyX2 : Nat → FieldType := fun k => match k with
  | 0 => .array .int
  | 1 => .array .int
  | 2 => .array .int
  | _ => .int
abbrev wsX20 : List Cond := u_ws RX2 TX2 4
theorem nmX2 : ∀ a, a < 4 → ∀ b, b < 4 → a ≠ b → (TX2 a).2.1 ≠ (TX2 b).2.1 := by decide +kernel
theorem tyX2_ok : ∀ k, k < 4 → parseFieldDescriptor (TX2 k).2.2.1 = some (tyX2 k) := by decide +kernel

def RX3 : String := "SumWalker$Reader"
def TX3 : u_T := fun k => match k with
  | 0 => ("SumWalker$Reader", "text", "[I", true)
  | 1 => ("SumWalker$Reader", "names", "[J", true)
  | 2 => ("SumWalker$Reader", "size", "I", false)
  | 3 => ("SumWalker$Reader", "next", "I", false)
  | 4 => ("SumWalker$Reader", "place", "I", false)
  | 5 => ("SumWalker$Reader", "token", "I", false)
  | 6 => ("SumWalker$Reader", "word", "J", false)
  | 7 => ("SumWalker$Reader", "number", "I", false)
  | 8 => ("SumWalker$Reader", "taped", "I", false)
  | 9 => ("SumWalker$Reader", "fault", "I", false)
  | _ => ("SumWalker$Reader", "faultPlace", "I", false)
def tyX3 : Nat → FieldType := fun k => match k with
  | 0 => .array .int
  | 1 => .array .long
  | 2 => .int
  | 3 => .int
  | 4 => .int
  | 5 => .int
  | 6 => .long
  | 7 => .int
  | 8 => .int
  | 9 => .int
  | _ => .int
abbrev wsX30 : List Cond := u_ws RX3 TX3 11
theorem nmX3 : ∀ a, a < 11 → ∀ b, b < 11 → a ≠ b → (TX3 a).2.1 ≠ (TX3 b).2.1 := by decide +kernel
theorem tyX3_ok : ∀ k, k < 11 → parseFieldDescriptor (TX3 k).2.2.1 = some (tyX3 k) := by decide +kernel

def RX4 : String := "SumWalker$Walk"
def TX4 : u_T := fun k => match k with
  | 0 => ("SumWalker$Walk", "values", "[I", true)
  | 1 => ("SumWalker$Walk", "count", "I", false)
  | 2 => ("SumWalker$Walk", "end", "I", false)
  | 3 => ("SumWalker$Walk", "back", "I", false)
  | _ => ("SumWalker$Walk", "told", "Z", false)
def tyX4 : Nat → FieldType := fun k => match k with
  | 0 => .array .int
  | 1 => .int
  | 2 => .int
  | 3 => .int
  | _ => .boolean
abbrev wsX40 : List Cond := u_ws RX4 TX4 5
theorem nmX4 : ∀ a, a < 5 → ∀ b, b < 5 → a ≠ b → (TX4 a).2.1 ≠ (TX4 b).2.1 := by decide +kernel
theorem tyX4_ok : ∀ k, k < 5 → parseFieldDescriptor (TX4 k).2.2.1 = some (tyX4 k) := by decide +kernel

def RX5 : String := "SumWalker"
def TX5 : u_T := fun k => match k with
  | 0 => ("SumWalker", "reader", "LSumWalker$Reader;", true)
  | 1 => ("SumWalker", "primes", "LSumWalker$Primes;", true)
  | 2 => ("SumWalker", "desk", "LSumWalker$Desk;", true)
  | 3 => ("SumWalker", "fresh", "LSumWalker$Desk;", true)
  | 4 => ("SumWalker", "acts", "[LSumWalker$Desk;", true)
  | 5 => ("SumWalker", "walks", "[LSumWalker$Walk;", true)
  | 6 => ("SumWalker", "spare", "LSumWalker$Walk;", true)
  | 7 => ("SumWalker", "ink", "LSumWalker$Ink;", true)
  | 8 => ("SumWalker", "sums", "[J", true)
  | 9 => ("SumWalker", "marks", "[I", true)
  | 10 => ("SumWalker", "reached", "[J", true)
  | 11 => ("SumWalker", "actCount", "I", false)
  | 12 => ("SumWalker", "faultKind", "I", false)
  | 13 => ("SumWalker", "faultPlace", "I", false)
  | _ => ("SumWalker", "latestStatus", "I", false)
def tyX5 : Nat → FieldType := fun k => match k with
  | 0 => .object "SumWalker$Reader"
  | 1 => .object "SumWalker$Primes"
  | 2 => .object "SumWalker$Desk"
  | 3 => .object "SumWalker$Desk"
  | 4 => .array (.object "SumWalker$Desk")
  | 5 => .array (.object "SumWalker$Walk")
  | 6 => .object "SumWalker$Walk"
  | 7 => .object "SumWalker$Ink"
  | 8 => .array .long
  | 9 => .array .int
  | 10 => .array .long
  | 11 => .int
  | 12 => .int
  | 13 => .int
  | _ => .int
abbrev wsX50 : List Cond := u_ws RX5 TX5 15
theorem nmX5 : ∀ a, a < 15 → ∀ b, b < 15 → a ≠ b → (TX5 a).2.1 ≠ (TX5 b).2.1 := by decide +kernel
theorem tyX5_ok : ∀ k, k < 15 → parseFieldDescriptor (TX5 k).2.2.1 = some (tyX5 k) := by decide +kernel

def RX6 : String := "SumWalkerModel"
def TX6 : u_T := fun k => match k with
  | 0 => ("SumWalkerModel", "status", "I", false)
  | 1 => ("SumWalkerModel", "thrown", "I", false)
  | 2 => ("SumWalkerModel", "now", "[I", true)
  | 3 => ("SumWalkerModel", "read", "[I", true)
  | 4 => ("SumWalkerModel", "past", "[I", true)
  | 5 => ("SumWalkerModel", "pastMany", "I", false)
  | 6 => ("SumWalkerModel", "prime", "[I", true)
  | 7 => ("SumWalkerModel", "often", "[I", true)
  | 8 => ("SumWalkerModel", "primes", "I", false)
  | 9 => ("SumWalkerModel", "twos", "I", false)
  | 10 => ("SumWalkerModel", "odd", "I", false)
  | 11 => ("SumWalkerModel", "divisor", "[I", true)
  | 12 => ("SumWalkerModel", "divisors", "I", false)
  | 13 => ("SumWalkerModel", "isSum", "[Z", true)
  | 14 => ("SumWalkerModel", "allAt", "[J", true)
  | 15 => ("SumWalkerModel", "sumAt", "[J", true)
  | 16 => ("SumWalkerModel", "primesAside", "[I", true)
  | 17 => ("SumWalkerModel", "family", "[I", true)
  | 18 => ("SumWalkerModel", "isOnWay", "[Z", true)
  | 19 => ("SumWalkerModel", "values", "[I", true)
  | 20 => ("SumWalkerModel", "others", "[I", true)
  | 21 => ("SumWalkerModel", "many", "I", false)
  | 22 => ("SumWalkerModel", "end", "I", false)
  | 23 => ("SumWalkerModel", "roundFrom", "I", false)
  | 24 => ("SumWalkerModel", "otherMany", "I", false)
  | 25 => ("SumWalkerModel", "lawHere", "I", false)
  | 26 => ("SumWalkerModel", "guideAtPlace", "[I", true)
  | 27 => ("SumWalkerModel", "shapeAt", "[J", true)
  | 28 => ("SumWalkerModel", "out", "[I", true)
  | 29 => ("SumWalkerModel", "outMany", "I", false)
  | 30 => ("SumWalkerModel", "tape", "[B", true)
  | 31 => ("SumWalkerModel", "taped", "I", false)
  | 32 => ("SumWalkerModel", "faultKind", "I", false)
  | 33 => ("SumWalkerModel", "faultAt", "I", false)
  | 34 => ("SumWalkerModel", "wrong", "I", false)
  | 35 => ("SumWalkerModel", "wrongAt", "I", false)
  | 36 => ("SumWalkerModel", "place", "I", false)
  | 37 => ("SumWalkerModel", "then", "I", false)
  | 38 => ("SumWalkerModel", "sort", "I", false)
  | 39 => ("SumWalkerModel", "number", "I", false)
  | 40 => ("SumWalkerModel", "last", "I", false)
  | 41 => ("SumWalkerModel", "word", "J", false)
  | 42 => ("SumWalkerModel", "names", "[J", true)
  | _ => ("SumWalkerModel", "words", "[J", true)
def tyX6 : Nat → FieldType := fun k => match k with
  | 0 => .int
  | 1 => .int
  | 2 => .array .int
  | 3 => .array .int
  | 4 => .array .int
  | 5 => .int
  | 6 => .array .int
  | 7 => .array .int
  | 8 => .int
  | 9 => .int
  | 10 => .int
  | 11 => .array .int
  | 12 => .int
  | 13 => .array .boolean
  | 14 => .array .long
  | 15 => .array .long
  | 16 => .array .int
  | 17 => .array .int
  | 18 => .array .boolean
  | 19 => .array .int
  | 20 => .array .int
  | 21 => .int
  | 22 => .int
  | 23 => .int
  | 24 => .int
  | 25 => .int
  | 26 => .array .int
  | 27 => .array .long
  | 28 => .array .int
  | 29 => .int
  | 30 => .array .byte
  | 31 => .int
  | 32 => .int
  | 33 => .int
  | 34 => .int
  | 35 => .int
  | 36 => .int
  | 37 => .int
  | 38 => .int
  | 39 => .int
  | 40 => .int
  | 41 => .long
  | 42 => .array .long
  | _ => .array .long
abbrev wsX60 : List Cond := u_ws RX6 TX6 44
theorem nmX6 : ∀ a, a < 44 → ∀ b, b < 44 → a ≠ b → (TX6 a).2.1 ≠ (TX6 b).2.1 := by decide +kernel
theorem tyX6_ok : ∀ k, k < 44 → parseFieldDescriptor (TX6 k).2.2.1 = some (tyX6 k) := by decide +kernel

abbrev vwCl : List vw_C := [(RX0, TX0, 5), (RX1, TX1, 2), (RX2, TX2, 4), (RX3, TX3, 11), (RX4, TX4, 5), (RX5, TX5, 15), (RX6, TX6, 44)]
end
section
/-! the code of the methods, decoded by program out of the Statement: op, length, two numbers, a constant, places -/
abbrev zC : Type := Nat × Nat × Nat × Nat × Int × List Int
abbrev zN : Option zC := none
def zk0_0 : List (Option zC) := [some (27, 3, 5, 7, 0, [1038]), zN, zN, some (23, 1, 0, 0, 0, []), some (101, 3, 1, 2, 1, [9, 1040]), zN, zN, some (8, 1, 1, 0, 0, []), some (27, 3, 6, 10, 0, [4281]), zN, zN, some (23, 1, 0, 0, 0, []), some (101, 3, 170, 2, 1, [12, 4283]), zN, zN, some (8, 1, 2, 0, 0, []), some (1, 1, 0, 0, 0, []), some (6, 1, 3, 0, 0, []), some (3, 1, 3, 0, 0, []), some (5, 1, 0, 0, 0, []), some (20, 1, 0, 0, 0, []), some (1, 2, 1, 0, 6, []), zN, some (10, 1, 1, 0, 0, []), some (16, 3, 4, 2251, 0, []), zN, zN, some (5, 1, 0, 0, 0, []), some (3, 1, 3, 0, 0, []), some (21, 1, 0, 0, 0, []), some (1, 2, 1, 0, 63, []), zN, some (10, 1, 3, 0, 0, []), some (30, 247, 0, 2245, 0, [280, 293, 356, 379, 402, 425, 468, 492, 515, 548, 581, 604, 638, 671, 724, 767, 810, 843, 876, 899, 932, 992, 1035, 1058, 1091, 1124, 1167, 1190, 1223, 1246, 1279, 1312, 1345, 1379, 1412, 1445, 1478, 1521, 1554, 1597, 1640, 1663, 1706, 1759, 1812, 1855, 1898, 1941, 1974, 2018, 2041, 2074, 2097, 2120, 2153, 2186, 2209, 2232]), zN, zN, zN, zN, zN, zN, zN, zN, zN, zN, zN, zN, zN, zN, zN, zN, zN, zN, zN, zN, zN, zN, zN, zN, zN, zN, zN, zN, zN, zN, zN, zN, zN, zN, zN, zN, zN, zN, zN, zN, zN, zN, zN, zN, zN, zN, zN, zN, zN, zN, zN, zN, zN, zN, zN, zN]
def zk0_1 : List (Option zC) := [zN, zN, zN, zN, zN, zN, zN, zN, zN, zN, zN, zN, zN, zN, zN, zN, zN, zN, zN, zN, zN, zN, zN, zN, zN, zN, zN, zN, zN, zN, zN, zN, zN, zN, zN, zN, zN, zN, zN, zN, zN, zN, zN, zN, zN, zN, zN, zN, zN, zN, zN, zN, zN, zN, zN, zN, zN, zN, zN, zN, zN, zN, zN, zN, zN, zN, zN, zN, zN, zN, zN, zN, zN, zN, zN, zN, zN, zN, zN, zN, zN, zN, zN, zN, zN, zN, zN, zN, zN, zN]
def zk0_2 : List (Option zC) := [zN, zN, zN, zN, zN, zN, zN, zN, zN, zN, zN, zN, zN, zN, zN, zN, zN, zN, zN, zN, zN, zN, zN, zN, zN, zN, zN, zN, zN, zN, zN, zN, zN, zN, zN, zN, zN, zN, zN, zN, zN, zN, zN, zN, zN, zN, zN, zN, zN, zN, zN, zN, zN, zN, zN, zN, zN, zN, zN, zN, zN, zN, zN, zN, zN, zN, zN, zN, zN, zN, zN, zN, zN, zN, zN, zN, zN, zN, zN, zN, zN, zN, zN, zN, zN, zN, zN, zN, zN, zN]
def zk0_3 : List (Option zC) := [zN, zN, zN, zN, zN, zN, zN, zN, zN, zN, some (5, 1, 1, 0, 0, []), some (101, 3, 9, 0, 1, [13, 1246]), zN, zN, some (5, 1, 2, 0, 0, []), some (101, 3, 171, 0, 1, [17, 5214]), zN, zN, some (16, 3, 0, 2245, 0, []), zN, zN, some (1, 1, 0, 0, 0, []), some (100, 1, 4, 0, 0, []), some (5, 1, 1, 0, 0, []), some (5, 1, 0, 0, 0, []), some (3, 1, 3, 0, 0, []), some (1, 1, 0, 0, 1, []), some (10, 1, 0, 0, 0, []), some (21, 1, 0, 0, 0, []), some (5, 1, 0, 0, 0, []), some (3, 1, 3, 0, 0, []), some (1, 1, 0, 0, 2, []), some (10, 1, 0, 0, 0, []), some (21, 1, 0, 0, 0, []), some (5, 1, 0, 0, 0, []), some (3, 1, 3, 0, 0, []), some (1, 1, 0, 0, 3, []), some (10, 1, 0, 0, 0, []), some (21, 1, 0, 0, 0, []), some (5, 1, 0, 0, 0, []), some (3, 1, 3, 0, 0, []), some (1, 1, 0, 0, 4, []), some (10, 1, 0, 0, 0, []), some (21, 1, 0, 0, 0, []), some (5, 1, 0, 0, 0, []), some (3, 1, 3, 0, 0, []), some (1, 1, 0, 0, 5, []), some (10, 1, 0, 0, 0, []), some (21, 1, 0, 0, 0, []), some (101, 3, 10, 0, 6, [18, 1250]), zN, zN, some (5, 1, 2, 0, 0, []), some (5, 1, 0, 0, 0, []), some (3, 1, 3, 0, 0, []), some (1, 1, 0, 0, 1, []), some (10, 1, 0, 0, 0, []), some (21, 1, 0, 0, 0, []), some (5, 1, 0, 0, 0, []), some (3, 1, 3, 0, 0, []), some (1, 1, 0, 0, 2, []), some (10, 1, 0, 0, 0, []), some (21, 1, 0, 0, 0, []), some (5, 1, 0, 0, 0, []), some (3, 1, 3, 0, 0, []), some (1, 1, 0, 0, 3, []), some (10, 1, 0, 0, 0, []), some (21, 1, 0, 0, 0, []), some (5, 1, 0, 0, 0, []), some (3, 1, 3, 0, 0, []), some (1, 1, 0, 0, 4, []), some (10, 1, 0, 0, 0, []), some (21, 1, 0, 0, 0, []), some (5, 1, 0, 0, 0, []), some (3, 1, 3, 0, 0, []), some (1, 1, 0, 0, 5, []), some (10, 1, 0, 0, 0, []), some (21, 1, 0, 0, 0, []), some (101, 3, 275, 0, 6, [22, 7206]), zN, zN, some (16, 3, 0, 2245, 0, []), zN, zN, some (1, 1, 0, 0, 0, []), some (100, 1, 4, 0, 0, []), some (5, 1, 1, 0, 0, []), some (5, 1, 0, 0, 0, []), some (3, 1, 3, 0, 0, []), some (1, 1, 0, 0, 1, [])]
def zk0_4 : List (Option zC) := [some (10, 1, 0, 0, 0, []), some (21, 1, 0, 0, 0, []), some (101, 3, 12, 0, 2, [23, 1258]), zN, zN, some (5, 1, 2, 0, 0, []), some (5, 1, 0, 0, 0, []), some (3, 1, 3, 0, 0, []), some (1, 1, 0, 0, 1, []), some (10, 1, 0, 0, 0, []), some (21, 1, 0, 0, 0, []), some (101, 3, 277, 0, 2, [27, 7214]), zN, zN, some (16, 3, 0, 2245, 0, []), zN, zN, some (1, 1, 0, 0, 0, []), some (100, 1, 4, 0, 0, []), some (5, 1, 1, 0, 0, []), some (5, 1, 0, 0, 0, []), some (3, 1, 3, 0, 0, []), some (1, 1, 0, 0, 1, []), some (10, 1, 0, 0, 0, []), some (21, 1, 0, 0, 0, []), some (101, 3, 40, 0, 2, [28, 2186]), zN, zN, some (5, 1, 2, 0, 0, []), some (5, 1, 0, 0, 0, []), some (3, 1, 3, 0, 0, []), some (1, 1, 0, 0, 1, []), some (10, 1, 0, 0, 0, []), some (21, 1, 0, 0, 0, []), some (101, 3, 289, 0, 2, [31, 7264]), zN, zN, some (16, 3, 0, 2245, 0, []), zN, zN, some (1, 1, 0, 0, 0, []), some (100, 1, 4, 0, 0, []), some (5, 1, 1, 0, 0, []), some (5, 1, 0, 0, 0, []), some (3, 1, 3, 0, 0, []), some (1, 1, 0, 0, 1, []), some (10, 1, 0, 0, 0, []), some (21, 1, 0, 0, 0, []), some (101, 3, 41, 0, 2, [32, 2190]), zN, zN, some (5, 1, 2, 0, 0, []), some (5, 1, 0, 0, 0, []), some (3, 1, 3, 0, 0, []), some (1, 1, 0, 0, 1, []), some (10, 1, 0, 0, 0, []), some (21, 1, 0, 0, 0, []), some (101, 3, 172, 0, 2, [35, 5218]), zN, zN, some (16, 3, 0, 2245, 0, []), zN, zN, some (1, 1, 0, 0, 0, []), some (100, 1, 4, 0, 0, []), some (5, 1, 1, 0, 0, []), some (5, 1, 0, 0, 0, []), some (3, 1, 3, 0, 0, []), some (1, 1, 0, 0, 1, []), some (10, 1, 0, 0, 0, []), some (21, 1, 0, 0, 0, []), some (5, 1, 0, 0, 0, []), some (3, 1, 3, 0, 0, []), some (1, 1, 0, 0, 2, []), some (10, 1, 0, 0, 0, []), some (21, 1, 0, 0, 0, []), some (5, 1, 0, 0, 0, []), some (3, 1, 3, 0, 0, []), some (1, 1, 0, 0, 3, []), some (10, 1, 0, 0, 0, []), some (21, 1, 0, 0, 0, []), some (101, 3, 42, 0, 4, [36, 2194]), zN, zN, some (5, 1, 2, 0, 0, []), some (5, 1, 0, 0, 0, []), some (3, 1, 3, 0, 0, []), some (1, 1, 0, 0, 1, []), some (10, 1, 0, 0, 0, []), some (21, 1, 0, 0, 0, [])]
def zk0_5 : List (Option zC) := [some (5, 1, 0, 0, 0, []), some (3, 1, 3, 0, 0, []), some (1, 1, 0, 0, 2, []), some (10, 1, 0, 0, 0, []), some (21, 1, 0, 0, 0, []), some (5, 1, 0, 0, 0, []), some (3, 1, 3, 0, 0, []), some (1, 1, 0, 0, 3, []), some (10, 1, 0, 0, 0, []), some (21, 1, 0, 0, 0, []), some (101, 3, 175, 0, 4, [40, 5230]), zN, zN, some (16, 3, 0, 2245, 0, []), zN, zN, some (1, 1, 0, 0, 0, []), some (100, 1, 4, 0, 0, []), some (5, 1, 1, 0, 0, []), some (5, 1, 0, 0, 0, []), some (3, 1, 3, 0, 0, []), some (1, 1, 0, 0, 1, []), some (10, 1, 0, 0, 0, []), some (21, 1, 0, 0, 0, []), some (101, 3, 51, 0, 2, [41, 2229]), zN, zN, some (5, 1, 2, 0, 0, []), some (5, 1, 0, 0, 0, []), some (3, 1, 3, 0, 0, []), some (1, 1, 0, 0, 1, []), some (10, 1, 0, 0, 0, []), some (21, 1, 0, 0, 0, []), some (101, 3, 179, 0, 2, [45, 5246]), zN, zN, some (14, 1, 0, 0, 0, []), some (15, 3, 0, 2245, 0, []), zN, zN, some (1, 1, 0, 0, 0, []), some (100, 1, 4, 0, 0, []), some (5, 1, 1, 0, 0, []), some (5, 1, 0, 0, 0, []), some (3, 1, 3, 0, 0, []), some (1, 1, 0, 0, 1, []), some (10, 1, 0, 0, 0, []), some (21, 1, 0, 0, 0, []), some (101, 3, 61, 0, 2, [46, 2269]), zN, zN, some (5, 1, 2, 0, 0, []), some (5, 1, 0, 0, 0, []), some (3, 1, 3, 0, 0, []), some (1, 1, 0, 0, 1, []), some (10, 1, 0, 0, 0, []), some (21, 1, 0, 0, 0, []), some (101, 3, 185, 0, 2, [49, 5269]), zN, zN, some (16, 3, 0, 2245, 0, []), zN, zN, some (1, 1, 0, 0, 0, []), some (100, 1, 4, 0, 0, []), some (5, 1, 1, 0, 0, []), some (5, 1, 0, 0, 0, []), some (3, 1, 3, 0, 0, []), some (1, 1, 0, 0, 1, []), some (10, 1, 0, 0, 0, []), some (21, 1, 0, 0, 0, []), some (5, 1, 0, 0, 0, []), some (3, 1, 3, 0, 0, []), some (1, 1, 0, 0, 2, []), some (10, 1, 0, 0, 0, []), some (21, 1, 0, 0, 0, []), some (101, 3, 63, 0, 3, [50, 2277]), zN, zN, some (5, 1, 2, 0, 0, []), some (5, 1, 0, 0, 0, []), some (3, 1, 3, 0, 0, []), some (1, 1, 0, 0, 1, []), some (10, 1, 0, 0, 0, []), some (21, 1, 0, 0, 0, []), some (5, 1, 0, 0, 0, []), some (3, 1, 3, 0, 0, []), some (1, 1, 0, 0, 2, []), some (10, 1, 0, 0, 0, []), some (21, 1, 0, 0, 0, [])]
def zk0_6 : List (Option zC) := [some (101, 3, 187, 0, 3, [54, 5277]), zN, zN, some (16, 3, 0, 2245, 0, []), zN, zN, some (1, 1, 0, 0, 0, []), some (100, 1, 4, 0, 0, []), some (5, 1, 1, 0, 0, []), some (5, 1, 0, 0, 0, []), some (3, 1, 3, 0, 0, []), some (1, 1, 0, 0, 1, []), some (10, 1, 0, 0, 0, []), some (21, 1, 0, 0, 0, []), some (5, 1, 0, 0, 0, []), some (3, 1, 3, 0, 0, []), some (1, 1, 0, 0, 2, []), some (10, 1, 0, 0, 0, []), some (21, 1, 0, 0, 0, []), some (101, 3, 70, 0, 3, [55, 3091]), zN, zN, some (5, 1, 2, 0, 0, []), some (5, 1, 0, 0, 0, []), some (3, 1, 3, 0, 0, []), some (1, 1, 0, 0, 1, []), some (10, 1, 0, 0, 0, []), some (21, 1, 0, 0, 0, []), some (5, 1, 0, 0, 0, []), some (3, 1, 3, 0, 0, []), some (1, 1, 0, 0, 2, []), some (10, 1, 0, 0, 0, []), some (21, 1, 0, 0, 0, []), some (101, 3, 192, 0, 3, [58, 5298]), zN, zN, some (16, 3, 0, 2245, 0, []), zN, zN, some (1, 1, 0, 0, 0, []), some (100, 1, 4, 0, 0, []), some (5, 1, 1, 0, 0, []), some (5, 1, 0, 0, 0, []), some (3, 1, 3, 0, 0, []), some (1, 1, 0, 0, 1, []), some (10, 1, 0, 0, 0, []), some (21, 1, 0, 0, 0, []), some (101, 3, 73, 0, 2, [59, 3102]), zN, zN, some (5, 1, 2, 0, 0, []), some (5, 1, 0, 0, 0, []), some (3, 1, 3, 0, 0, []), some (1, 1, 0, 0, 1, []), some (10, 1, 0, 0, 0, []), some (21, 1, 0, 0, 0, []), some (101, 3, 196, 0, 2, [62, 5314]), zN, zN, some (16, 3, 0, 2245, 0, []), zN, zN, some (1, 1, 0, 0, 0, []), some (100, 1, 4, 0, 0, []), some (5, 1, 1, 0, 0, []), some (5, 1, 0, 0, 0, []), some (3, 1, 3, 0, 0, []), some (1, 1, 0, 0, 1, []), some (10, 1, 0, 0, 0, []), some (21, 1, 0, 0, 0, []), some (5, 1, 0, 0, 0, []), some (3, 1, 3, 0, 0, []), some (1, 1, 0, 0, 2, []), some (10, 1, 0, 0, 0, []), some (21, 1, 0, 0, 0, []), some (101, 3, 76, 0, 3, [63, 3114]), zN, zN, some (5, 1, 2, 0, 0, []), some (5, 1, 0, 0, 0, []), some (3, 1, 3, 0, 0, []), some (1, 1, 0, 0, 1, []), some (10, 1, 0, 0, 0, []), some (21, 1, 0, 0, 0, []), some (5, 1, 0, 0, 0, []), some (3, 1, 3, 0, 0, []), some (1, 1, 0, 0, 2, []), some (10, 1, 0, 0, 0, []), some (21, 1, 0, 0, 0, []), some (101, 3, 197, 0, 3, [67, 5319])]
def zk0_7 : List (Option zC) := [zN, zN, some (14, 1, 0, 0, 0, []), some (15, 3, 0, 2245, 0, []), zN, zN, some (1, 1, 0, 0, 0, []), some (100, 1, 4, 0, 0, []), some (5, 1, 1, 0, 0, []), some (5, 1, 0, 0, 0, []), some (3, 1, 3, 0, 0, []), some (1, 1, 0, 0, 1, []), some (10, 1, 0, 0, 0, []), some (21, 1, 0, 0, 0, []), some (5, 1, 0, 0, 0, []), some (3, 1, 3, 0, 0, []), some (1, 1, 0, 0, 2, []), some (10, 1, 0, 0, 0, []), some (21, 1, 0, 0, 0, []), some (101, 3, 78, 0, 3, [68, 3121]), zN, zN, some (5, 1, 2, 0, 0, []), some (5, 1, 0, 0, 0, []), some (3, 1, 3, 0, 0, []), some (1, 1, 0, 0, 1, []), some (10, 1, 0, 0, 0, []), some (21, 1, 0, 0, 0, []), some (5, 1, 0, 0, 0, []), some (3, 1, 3, 0, 0, []), some (1, 1, 0, 0, 2, []), some (10, 1, 0, 0, 0, []), some (21, 1, 0, 0, 0, []), some (101, 3, 199, 0, 3, [71, 5326]), zN, zN, some (16, 3, 0, 2245, 0, []), zN, zN, some (1, 1, 0, 0, 0, []), some (100, 1, 4, 0, 0, []), some (5, 1, 1, 0, 0, []), some (5, 1, 0, 0, 0, []), some (3, 1, 3, 0, 0, []), some (1, 1, 0, 0, 1, []), some (10, 1, 0, 0, 0, []), some (21, 1, 0, 0, 0, []), some (5, 1, 0, 0, 0, []), some (3, 1, 3, 0, 0, []), some (1, 1, 0, 0, 2, []), some (10, 1, 0, 0, 0, []), some (21, 1, 0, 0, 0, []), some (5, 1, 0, 0, 0, []), some (3, 1, 3, 0, 0, []), some (1, 1, 0, 0, 3, []), some (10, 1, 0, 0, 0, []), some (21, 1, 0, 0, 0, []), some (5, 1, 0, 0, 0, []), some (3, 1, 3, 0, 0, []), some (1, 1, 0, 0, 4, []), some (10, 1, 0, 0, 0, []), some (21, 1, 0, 0, 0, []), some (101, 3, 80, 0, 5, [72, 3131]), zN, zN, some (5, 1, 2, 0, 0, []), some (5, 1, 0, 0, 0, []), some (3, 1, 3, 0, 0, []), some (1, 1, 0, 0, 1, []), some (10, 1, 0, 0, 0, []), some (21, 1, 0, 0, 0, []), some (5, 1, 0, 0, 0, []), some (3, 1, 3, 0, 0, []), some (1, 1, 0, 0, 2, []), some (10, 1, 0, 0, 0, []), some (21, 1, 0, 0, 0, []), some (5, 1, 0, 0, 0, []), some (3, 1, 3, 0, 0, []), some (1, 1, 0, 0, 3, []), some (10, 1, 0, 0, 0, []), some (21, 1, 0, 0, 0, []), some (5, 1, 0, 0, 0, []), some (3, 1, 3, 0, 0, []), some (1, 1, 0, 0, 4, []), some (10, 1, 0, 0, 0, []), some (21, 1, 0, 0, 0, []), some (101, 3, 200, 0, 5, [76, 5331]), zN, zN, some (16, 3, 0, 2245, 0, [])]
def zk0_8 : List (Option zC) := [zN, zN, some (1, 1, 0, 0, 0, []), some (100, 1, 4, 0, 0, []), some (5, 1, 1, 0, 0, []), some (5, 1, 0, 0, 0, []), some (3, 1, 3, 0, 0, []), some (1, 1, 0, 0, 1, []), some (10, 1, 0, 0, 0, []), some (21, 1, 0, 0, 0, []), some (5, 1, 0, 0, 0, []), some (3, 1, 3, 0, 0, []), some (1, 1, 0, 0, 2, []), some (10, 1, 0, 0, 0, []), some (21, 1, 0, 0, 0, []), some (5, 1, 0, 0, 0, []), some (3, 1, 3, 0, 0, []), some (1, 1, 0, 0, 3, []), some (10, 1, 0, 0, 0, []), some (21, 1, 0, 0, 0, []), some (101, 3, 83, 0, 4, [77, 3142]), zN, zN, some (5, 1, 2, 0, 0, []), some (5, 1, 0, 0, 0, []), some (3, 1, 3, 0, 0, []), some (1, 1, 0, 0, 1, []), some (10, 1, 0, 0, 0, []), some (21, 1, 0, 0, 0, []), some (5, 1, 0, 0, 0, []), some (3, 1, 3, 0, 0, []), some (1, 1, 0, 0, 2, []), some (10, 1, 0, 0, 0, []), some (21, 1, 0, 0, 0, []), some (5, 1, 0, 0, 0, []), some (3, 1, 3, 0, 0, []), some (1, 1, 0, 0, 3, []), some (10, 1, 0, 0, 0, []), some (21, 1, 0, 0, 0, []), some (101, 3, 202, 0, 4, [80, 5338]), zN, zN, some (16, 3, 0, 2245, 0, []), zN, zN, some (1, 1, 0, 0, 0, []), some (100, 1, 4, 0, 0, []), some (5, 1, 1, 0, 0, []), some (5, 1, 0, 0, 0, []), some (3, 1, 3, 0, 0, []), some (1, 1, 0, 0, 1, []), some (10, 1, 0, 0, 0, []), some (21, 1, 0, 0, 0, []), some (5, 1, 0, 0, 0, []), some (3, 1, 3, 0, 0, []), some (1, 1, 0, 0, 2, []), some (10, 1, 0, 0, 0, []), some (21, 1, 0, 0, 0, []), some (5, 1, 0, 0, 0, []), some (3, 1, 3, 0, 0, []), some (1, 1, 0, 0, 3, []), some (10, 1, 0, 0, 0, []), some (21, 1, 0, 0, 0, []), some (101, 3, 85, 0, 4, [81, 3150]), zN, zN, some (5, 1, 2, 0, 0, []), some (5, 1, 0, 0, 0, []), some (3, 1, 3, 0, 0, []), some (1, 1, 0, 0, 1, []), some (10, 1, 0, 0, 0, []), some (21, 1, 0, 0, 0, []), some (5, 1, 0, 0, 0, []), some (3, 1, 3, 0, 0, []), some (1, 1, 0, 0, 2, []), some (10, 1, 0, 0, 0, []), some (21, 1, 0, 0, 0, []), some (5, 1, 0, 0, 0, []), some (3, 1, 3, 0, 0, []), some (1, 1, 0, 0, 3, []), some (10, 1, 0, 0, 0, []), some (21, 1, 0, 0, 0, []), some (101, 3, 204, 0, 4, [84, 5346]), zN, zN, some (16, 3, 0, 2245, 0, []), zN, zN, some (1, 1, 0, 0, 0, []), some (100, 1, 4, 0, 0, [])]
def zk0_9 : List (Option zC) := [some (5, 1, 1, 0, 0, []), some (5, 1, 0, 0, 0, []), some (3, 1, 3, 0, 0, []), some (1, 1, 0, 0, 1, []), some (10, 1, 0, 0, 0, []), some (21, 1, 0, 0, 0, []), some (5, 1, 0, 0, 0, []), some (3, 1, 3, 0, 0, []), some (1, 1, 0, 0, 2, []), some (10, 1, 0, 0, 0, []), some (21, 1, 0, 0, 0, []), some (101, 3, 86, 0, 3, [85, 3154]), zN, zN, some (5, 1, 2, 0, 0, []), some (5, 1, 0, 0, 0, []), some (3, 1, 3, 0, 0, []), some (1, 1, 0, 0, 1, []), some (10, 1, 0, 0, 0, []), some (21, 1, 0, 0, 0, []), some (5, 1, 0, 0, 0, []), some (3, 1, 3, 0, 0, []), some (1, 1, 0, 0, 2, []), some (10, 1, 0, 0, 0, []), some (21, 1, 0, 0, 0, []), some (101, 3, 210, 0, 3, [88, 6156]), zN, zN, some (16, 3, 0, 2245, 0, []), zN, zN, some (1, 1, 0, 0, 0, []), some (100, 1, 4, 0, 0, []), some (5, 1, 1, 0, 0, []), some (5, 1, 0, 0, 0, []), some (3, 1, 3, 0, 0, []), some (1, 1, 0, 0, 1, []), some (10, 1, 0, 0, 0, []), some (21, 1, 0, 0, 0, []), some (5, 1, 0, 0, 0, []), some (3, 1, 3, 0, 0, []), some (1, 1, 0, 0, 2, []), some (10, 1, 0, 0, 0, []), some (21, 1, 0, 0, 0, []), some (101, 3, 90, 0, 3, [89, 3171]), zN, zN, some (5, 1, 2, 0, 0, []), some (5, 1, 0, 0, 0, []), some (3, 1, 3, 0, 0, []), some (1, 1, 0, 0, 1, []), some (10, 1, 0, 0, 0, []), some (21, 1, 0, 0, 0, []), some (5, 1, 0, 0, 0, []), some (3, 1, 3, 0, 0, []), some (1, 1, 0, 0, 2, []), some (10, 1, 0, 0, 0, []), some (21, 1, 0, 0, 0, []), some (101, 3, 213, 0, 3, [92, 6168]), zN, zN, some (16, 3, 0, 2245, 0, []), zN, zN, some (1, 1, 0, 0, 0, []), some (100, 1, 4, 0, 0, []), some (5, 1, 1, 0, 0, []), some (5, 1, 0, 0, 0, []), some (3, 1, 3, 0, 0, []), some (1, 1, 0, 0, 1, []), some (10, 1, 0, 0, 0, []), some (21, 1, 0, 0, 0, []), some (101, 3, 91, 0, 2, [93, 3175]), zN, zN, some (5, 1, 2, 0, 0, []), some (5, 1, 0, 0, 0, []), some (3, 1, 3, 0, 0, []), some (1, 1, 0, 0, 1, []), some (10, 1, 0, 0, 0, []), some (21, 1, 0, 0, 0, []), some (101, 3, 214, 0, 2, [96, 6172]), zN, zN, some (16, 3, 0, 2245, 0, []), zN, zN, some (1, 1, 0, 0, 0, []), some (100, 1, 4, 0, 0, []), some (5, 1, 1, 0, 0, [])]
def zk0_10 : List (Option zC) := [some (5, 1, 0, 0, 0, []), some (3, 1, 3, 0, 0, []), some (1, 1, 0, 0, 1, []), some (10, 1, 0, 0, 0, []), some (21, 1, 0, 0, 0, []), some (5, 1, 0, 0, 0, []), some (3, 1, 3, 0, 0, []), some (1, 1, 0, 0, 2, []), some (10, 1, 0, 0, 0, []), some (21, 1, 0, 0, 0, []), some (101, 3, 93, 0, 3, [97, 3183]), zN, zN, some (5, 1, 2, 0, 0, []), some (5, 1, 0, 0, 0, []), some (3, 1, 3, 0, 0, []), some (1, 1, 0, 0, 1, []), some (10, 1, 0, 0, 0, []), some (21, 1, 0, 0, 0, []), some (5, 1, 0, 0, 0, []), some (3, 1, 3, 0, 0, []), some (1, 1, 0, 0, 2, []), some (10, 1, 0, 0, 0, []), some (21, 1, 0, 0, 0, []), some (101, 3, 215, 0, 3, [100, 6176]), zN, zN, some (16, 3, 0, 2245, 0, []), zN, zN, some (1, 1, 0, 0, 0, []), some (100, 1, 4, 0, 0, []), some (5, 1, 1, 0, 0, []), some (5, 1, 0, 0, 0, []), some (3, 1, 3, 0, 0, []), some (1, 1, 0, 0, 1, []), some (10, 1, 0, 0, 0, []), some (21, 1, 0, 0, 0, []), some (5, 1, 0, 0, 0, []), some (3, 1, 3, 0, 0, []), some (1, 1, 0, 0, 2, []), some (10, 1, 0, 0, 0, []), some (21, 1, 0, 0, 0, []), some (15, 3, 0, 950, 0, []), zN, zN, some (1, 1, 0, 0, 1, []), some (17, 3, 0, 951, 0, []), zN, zN, some (1, 1, 0, 0, 0, []), some (5, 1, 0, 0, 0, []), some (3, 1, 3, 0, 0, []), some (1, 1, 0, 0, 3, []), some (10, 1, 0, 0, 0, []), some (21, 1, 0, 0, 0, []), some (101, 3, 94, 0, 4, [101, 3187]), zN, zN, some (5, 1, 2, 0, 0, []), some (5, 1, 0, 0, 0, []), some (3, 1, 3, 0, 0, []), some (1, 1, 0, 0, 1, []), some (10, 1, 0, 0, 0, []), some (21, 1, 0, 0, 0, []), some (5, 1, 0, 0, 0, []), some (3, 1, 3, 0, 0, []), some (1, 1, 0, 0, 2, []), some (10, 1, 0, 0, 0, []), some (21, 1, 0, 0, 0, []), some (15, 3, 0, 977, 0, []), zN, zN, some (1, 1, 0, 0, 1, []), some (17, 3, 0, 978, 0, []), zN, zN, some (1, 1, 0, 0, 0, []), some (5, 1, 0, 0, 0, []), some (3, 1, 3, 0, 0, []), some (1, 1, 0, 0, 3, []), some (10, 1, 0, 0, 0, []), some (21, 1, 0, 0, 0, []), some (101, 3, 216, 0, 4, [105, 6180]), zN, zN, some (14, 1, 0, 0, 0, []), some (15, 3, 0, 2245, 0, []), zN, zN]
def zk0_11 : List (Option zC) := [some (1, 1, 0, 0, 0, []), some (100, 1, 4, 0, 0, []), some (5, 1, 1, 0, 0, []), some (5, 1, 0, 0, 0, []), some (3, 1, 3, 0, 0, []), some (1, 1, 0, 0, 1, []), some (10, 1, 0, 0, 0, []), some (21, 1, 0, 0, 0, []), some (5, 1, 0, 0, 0, []), some (3, 1, 3, 0, 0, []), some (1, 1, 0, 0, 2, []), some (10, 1, 0, 0, 0, []), some (21, 1, 0, 0, 0, []), some (5, 1, 0, 0, 0, []), some (3, 1, 3, 0, 0, []), some (1, 1, 0, 0, 3, []), some (10, 1, 0, 0, 0, []), some (21, 1, 0, 0, 0, []), some (101, 3, 95, 0, 4, [106, 3191]), zN, zN, some (5, 1, 2, 0, 0, []), some (5, 1, 0, 0, 0, []), some (3, 1, 3, 0, 0, []), some (1, 1, 0, 0, 1, []), some (10, 1, 0, 0, 0, []), some (21, 1, 0, 0, 0, []), some (5, 1, 0, 0, 0, []), some (3, 1, 3, 0, 0, []), some (1, 1, 0, 0, 2, []), some (10, 1, 0, 0, 0, []), some (21, 1, 0, 0, 0, []), some (5, 1, 0, 0, 0, []), some (3, 1, 3, 0, 0, []), some (1, 1, 0, 0, 3, []), some (10, 1, 0, 0, 0, []), some (21, 1, 0, 0, 0, []), some (101, 3, 208, 0, 4, [109, 6147]), zN, zN, some (16, 3, 0, 2245, 0, []), zN, zN, some (1, 1, 0, 0, 0, []), some (100, 1, 4, 0, 0, []), some (5, 1, 1, 0, 0, []), some (5, 1, 0, 0, 0, []), some (3, 1, 3, 0, 0, []), some (1, 1, 0, 0, 1, []), some (10, 1, 0, 0, 0, []), some (21, 1, 0, 0, 0, []), some (101, 3, 97, 0, 2, [110, 3199]), zN, zN, some (5, 1, 2, 0, 0, []), some (5, 1, 0, 0, 0, []), some (3, 1, 3, 0, 0, []), some (1, 1, 0, 0, 1, []), some (10, 1, 0, 0, 0, []), some (21, 1, 0, 0, 0, []), some (101, 3, 209, 0, 2, [113, 6152]), zN, zN, some (16, 3, 0, 2245, 0, []), zN, zN, some (1, 1, 0, 0, 0, []), some (100, 1, 4, 0, 0, []), some (5, 1, 1, 0, 0, []), some (5, 1, 0, 0, 0, []), some (3, 1, 3, 0, 0, []), some (1, 1, 0, 0, 1, []), some (10, 1, 0, 0, 0, []), some (21, 1, 0, 0, 0, []), some (5, 1, 0, 0, 0, []), some (3, 1, 3, 0, 0, []), some (1, 1, 0, 0, 2, []), some (10, 1, 0, 0, 0, []), some (21, 1, 0, 0, 0, []), some (101, 3, 99, 0, 3, [114, 3207]), zN, zN, some (5, 1, 2, 0, 0, []), some (5, 1, 0, 0, 0, []), some (3, 1, 3, 0, 0, []), some (1, 1, 0, 0, 1, []), some (10, 1, 0, 0, 0, []), some (21, 1, 0, 0, 0, []), some (5, 1, 0, 0, 0, []), some (3, 1, 3, 0, 0, [])]
def zk0_12 : List (Option zC) := [some (1, 1, 0, 0, 2, []), some (10, 1, 0, 0, 0, []), some (21, 1, 0, 0, 0, []), some (101, 3, 217, 0, 3, [117, 6184]), zN, zN, some (16, 3, 0, 2245, 0, []), zN, zN, some (1, 1, 0, 0, 0, []), some (100, 1, 4, 0, 0, []), some (5, 1, 1, 0, 0, []), some (5, 1, 0, 0, 0, []), some (3, 1, 3, 0, 0, []), some (1, 1, 0, 0, 1, []), some (10, 1, 0, 0, 0, []), some (21, 1, 0, 0, 0, []), some (5, 1, 0, 0, 0, []), some (3, 1, 3, 0, 0, []), some (1, 1, 0, 0, 2, []), some (10, 1, 0, 0, 0, []), some (21, 1, 0, 0, 0, []), some (101, 3, 102, 0, 3, [118, 3219]), zN, zN, some (5, 1, 2, 0, 0, []), some (5, 1, 0, 0, 0, []), some (3, 1, 3, 0, 0, []), some (1, 1, 0, 0, 1, []), some (10, 1, 0, 0, 0, []), some (21, 1, 0, 0, 0, []), some (5, 1, 0, 0, 0, []), some (3, 1, 3, 0, 0, []), some (1, 1, 0, 0, 2, []), some (10, 1, 0, 0, 0, []), some (21, 1, 0, 0, 0, []), some (101, 3, 219, 0, 3, [121, 6192]), zN, zN, some (16, 3, 0, 2245, 0, []), zN, zN, some (1, 1, 0, 0, 0, []), some (100, 1, 4, 0, 0, []), some (5, 1, 1, 0, 0, []), some (5, 1, 0, 0, 0, []), some (3, 1, 3, 0, 0, []), some (1, 1, 0, 0, 1, []), some (10, 1, 0, 0, 0, []), some (21, 1, 0, 0, 0, []), some (5, 1, 0, 0, 0, []), some (3, 1, 3, 0, 0, []), some (1, 1, 0, 0, 2, []), some (10, 1, 0, 0, 0, []), some (21, 1, 0, 0, 0, []), some (5, 1, 0, 0, 0, []), some (3, 1, 3, 0, 0, []), some (1, 1, 0, 0, 3, []), some (10, 1, 0, 0, 0, []), some (21, 1, 0, 0, 0, []), some (101, 3, 104, 0, 4, [122, 3227]), zN, zN, some (5, 1, 2, 0, 0, []), some (5, 1, 0, 0, 0, []), some (3, 1, 3, 0, 0, []), some (1, 1, 0, 0, 1, []), some (10, 1, 0, 0, 0, []), some (21, 1, 0, 0, 0, []), some (5, 1, 0, 0, 0, []), some (3, 1, 3, 0, 0, []), some (1, 1, 0, 0, 2, []), some (10, 1, 0, 0, 0, []), some (21, 1, 0, 0, 0, []), some (5, 1, 0, 0, 0, []), some (3, 1, 3, 0, 0, []), some (1, 1, 0, 0, 3, []), some (10, 1, 0, 0, 0, []), some (21, 1, 0, 0, 0, []), some (101, 3, 207, 0, 4, [125, 5359]), zN, zN, some (16, 3, 0, 2245, 0, []), zN, zN, some (1, 1, 0, 0, 0, []), some (100, 1, 4, 0, 0, []), some (5, 1, 1, 0, 0, []), some (5, 1, 0, 0, 0, []), some (3, 1, 3, 0, 0, [])]
def zk0_13 : List (Option zC) := [some (1, 1, 0, 0, 1, []), some (10, 1, 0, 0, 0, []), some (21, 1, 0, 0, 0, []), some (101, 3, 105, 0, 2, [126, 3231]), zN, zN, some (5, 1, 2, 0, 0, []), some (5, 1, 0, 0, 0, []), some (3, 1, 3, 0, 0, []), some (1, 1, 0, 0, 1, []), some (10, 1, 0, 0, 0, []), some (21, 1, 0, 0, 0, []), some (101, 3, 221, 0, 2, [129, 6201]), zN, zN, some (16, 3, 0, 2245, 0, []), zN, zN, some (1, 1, 0, 0, 0, []), some (100, 1, 4, 0, 0, []), some (5, 1, 1, 0, 0, []), some (5, 1, 0, 0, 0, []), some (3, 1, 3, 0, 0, []), some (1, 1, 0, 0, 1, []), some (10, 1, 0, 0, 0, []), some (21, 1, 0, 0, 0, []), some (5, 1, 0, 0, 0, []), some (3, 1, 3, 0, 0, []), some (1, 1, 0, 0, 2, []), some (10, 1, 0, 0, 0, []), some (21, 1, 0, 0, 0, []), some (101, 3, 107, 0, 3, [130, 3239]), zN, zN, some (5, 1, 2, 0, 0, []), some (5, 1, 0, 0, 0, []), some (3, 1, 3, 0, 0, []), some (1, 1, 0, 0, 1, []), some (10, 1, 0, 0, 0, []), some (21, 1, 0, 0, 0, []), some (5, 1, 0, 0, 0, []), some (3, 1, 3, 0, 0, []), some (1, 1, 0, 0, 2, []), some (10, 1, 0, 0, 0, []), some (21, 1, 0, 0, 0, []), some (101, 3, 224, 0, 3, [133, 6213]), zN, zN, some (16, 3, 0, 2245, 0, []), zN, zN, some (1, 1, 0, 0, 0, []), some (100, 1, 4, 0, 0, []), some (5, 1, 1, 0, 0, []), some (5, 1, 0, 0, 0, []), some (3, 1, 3, 0, 0, []), some (1, 1, 0, 0, 1, []), some (10, 1, 0, 0, 0, []), some (21, 1, 0, 0, 0, []), some (101, 3, 111, 0, 2, [134, 3256]), zN, zN, some (5, 1, 2, 0, 0, []), some (5, 1, 0, 0, 0, []), some (3, 1, 3, 0, 0, []), some (1, 1, 0, 0, 1, []), some (10, 1, 0, 0, 0, []), some (21, 1, 0, 0, 0, []), some (101, 3, 229, 0, 2, [137, 6233]), zN, zN, some (16, 3, 0, 2245, 0, []), zN, zN, some (1, 1, 0, 0, 0, []), some (100, 1, 4, 0, 0, []), some (5, 1, 1, 0, 0, []), some (5, 1, 0, 0, 0, []), some (3, 1, 3, 0, 0, []), some (1, 1, 0, 0, 1, []), some (10, 1, 0, 0, 0, []), some (21, 1, 0, 0, 0, []), some (5, 1, 0, 0, 0, []), some (3, 1, 3, 0, 0, []), some (1, 1, 0, 0, 2, []), some (10, 1, 0, 0, 0, []), some (21, 1, 0, 0, 0, []), some (101, 3, 112, 0, 3, [138, 3260]), zN, zN]
def zk0_14 : List (Option zC) := [some (5, 1, 2, 0, 0, []), some (5, 1, 0, 0, 0, []), some (3, 1, 3, 0, 0, []), some (1, 1, 0, 0, 1, []), some (10, 1, 0, 0, 0, []), some (21, 1, 0, 0, 0, []), some (5, 1, 0, 0, 0, []), some (3, 1, 3, 0, 0, []), some (1, 1, 0, 0, 2, []), some (10, 1, 0, 0, 0, []), some (21, 1, 0, 0, 0, []), some (101, 3, 230, 0, 3, [141, 6237]), zN, zN, some (16, 3, 0, 2245, 0, []), zN, zN, some (1, 1, 0, 0, 0, []), some (100, 1, 4, 0, 0, []), some (5, 1, 1, 0, 0, []), some (5, 1, 0, 0, 0, []), some (3, 1, 3, 0, 0, []), some (1, 1, 0, 0, 1, []), some (10, 1, 0, 0, 0, []), some (21, 1, 0, 0, 0, []), some (5, 1, 0, 0, 0, []), some (3, 1, 3, 0, 0, []), some (1, 1, 0, 0, 2, []), some (10, 1, 0, 0, 0, []), some (21, 1, 0, 0, 0, []), some (101, 3, 115, 0, 3, [142, 3274]), zN, zN, some (5, 1, 2, 0, 0, []), some (5, 1, 0, 0, 0, []), some (3, 1, 3, 0, 0, []), some (1, 1, 0, 0, 1, []), some (10, 1, 0, 0, 0, []), some (21, 1, 0, 0, 0, []), some (5, 1, 0, 0, 0, []), some (3, 1, 3, 0, 0, []), some (1, 1, 0, 0, 2, []), some (10, 1, 0, 0, 0, []), some (21, 1, 0, 0, 0, []), some (101, 3, 232, 0, 3, [145, 6245]), zN, zN, some (16, 3, 0, 2245, 0, []), zN, zN, some (1, 1, 0, 0, 0, []), some (100, 1, 4, 0, 0, []), some (5, 1, 1, 0, 0, []), some (5, 1, 0, 0, 0, []), some (3, 1, 3, 0, 0, []), some (1, 1, 0, 0, 1, []), some (10, 1, 0, 0, 0, []), some (21, 1, 0, 0, 0, []), some (5, 1, 0, 0, 0, []), some (3, 1, 3, 0, 0, []), some (1, 1, 0, 0, 2, []), some (10, 1, 0, 0, 0, []), some (21, 1, 0, 0, 0, []), some (101, 3, 117, 0, 3, [146, 3282]), zN, zN, some (5, 1, 2, 0, 0, []), some (5, 1, 0, 0, 0, []), some (3, 1, 3, 0, 0, []), some (1, 1, 0, 0, 1, []), some (10, 1, 0, 0, 0, []), some (21, 1, 0, 0, 0, []), some (5, 1, 0, 0, 0, []), some (3, 1, 3, 0, 0, []), some (1, 1, 0, 0, 2, []), some (10, 1, 0, 0, 0, []), some (21, 1, 0, 0, 0, []), some (101, 3, 234, 0, 3, [149, 6253]), zN, zN, some (16, 3, 0, 2245, 0, []), zN, zN, some (1, 1, 0, 0, 0, []), some (100, 1, 4, 0, 0, []), some (5, 1, 1, 0, 0, []), some (5, 1, 0, 0, 0, []), some (3, 1, 3, 0, 0, []), some (1, 1, 0, 0, 1, []), some (10, 1, 0, 0, 0, [])]
def zk0_15 : List (Option zC) := [some (21, 1, 0, 0, 0, []), some (5, 1, 0, 0, 0, []), some (3, 1, 3, 0, 0, []), some (1, 1, 0, 0, 2, []), some (10, 1, 0, 0, 0, []), some (21, 1, 0, 0, 0, []), some (101, 3, 120, 0, 3, [150, 3295]), zN, zN, some (5, 1, 2, 0, 0, []), some (5, 1, 0, 0, 0, []), some (3, 1, 3, 0, 0, []), some (1, 1, 0, 0, 1, []), some (10, 1, 0, 0, 0, []), some (21, 1, 0, 0, 0, []), some (5, 1, 0, 0, 0, []), some (3, 1, 3, 0, 0, []), some (1, 1, 0, 0, 2, []), some (10, 1, 0, 0, 0, []), some (21, 1, 0, 0, 0, []), some (101, 3, 235, 0, 3, [153, 6257]), zN, zN, some (14, 1, 0, 0, 0, []), some (15, 3, 0, 2245, 0, []), zN, zN, some (1, 1, 0, 0, 0, []), some (100, 1, 4, 0, 0, []), some (5, 1, 1, 0, 0, []), some (5, 1, 0, 0, 0, []), some (3, 1, 3, 0, 0, []), some (1, 1, 0, 0, 1, []), some (10, 1, 0, 0, 0, []), some (21, 1, 0, 0, 0, []), some (5, 1, 0, 0, 0, []), some (3, 1, 3, 0, 0, []), some (1, 1, 0, 0, 2, []), some (10, 1, 0, 0, 0, []), some (21, 1, 0, 0, 0, []), some (101, 3, 121, 0, 3, [154, 3299]), zN, zN, some (5, 1, 2, 0, 0, []), some (5, 1, 0, 0, 0, []), some (3, 1, 3, 0, 0, []), some (1, 1, 0, 0, 1, []), some (10, 1, 0, 0, 0, []), some (21, 1, 0, 0, 0, []), some (5, 1, 0, 0, 0, []), some (3, 1, 3, 0, 0, []), some (1, 1, 0, 0, 2, []), some (10, 1, 0, 0, 0, []), some (21, 1, 0, 0, 0, []), some (101, 3, 236, 0, 3, [157, 6261]), zN, zN, some (16, 3, 0, 2245, 0, []), zN, zN, some (1, 1, 0, 0, 0, []), some (100, 1, 4, 0, 0, []), some (5, 1, 1, 0, 0, []), some (5, 1, 0, 0, 0, []), some (3, 1, 3, 0, 0, []), some (1, 1, 0, 0, 1, []), some (10, 1, 0, 0, 0, []), some (21, 1, 0, 0, 0, []), some (5, 1, 0, 0, 0, []), some (3, 1, 3, 0, 0, []), some (1, 1, 0, 0, 2, []), some (10, 1, 0, 0, 0, []), some (21, 1, 0, 0, 0, []), some (101, 3, 122, 0, 3, [158, 3304]), zN, zN, some (5, 1, 2, 0, 0, []), some (5, 1, 0, 0, 0, []), some (3, 1, 3, 0, 0, []), some (1, 1, 0, 0, 1, []), some (10, 1, 0, 0, 0, []), some (21, 1, 0, 0, 0, []), some (5, 1, 0, 0, 0, []), some (3, 1, 3, 0, 0, []), some (1, 1, 0, 0, 2, []), some (10, 1, 0, 0, 0, []), some (21, 1, 0, 0, 0, []), some (101, 3, 237, 0, 3, [161, 6265]), zN, zN]
def zk0_16 : List (Option zC) := [some (16, 3, 0, 2245, 0, []), zN, zN, some (1, 1, 0, 0, 0, []), some (100, 1, 4, 0, 0, []), some (5, 1, 1, 0, 0, []), some (5, 1, 0, 0, 0, []), some (3, 1, 3, 0, 0, []), some (1, 1, 0, 0, 1, []), some (10, 1, 0, 0, 0, []), some (21, 1, 0, 0, 0, []), some (5, 1, 0, 0, 0, []), some (3, 1, 3, 0, 0, []), some (1, 1, 0, 0, 2, []), some (10, 1, 0, 0, 0, []), some (21, 1, 0, 0, 0, []), some (101, 3, 127, 0, 3, [162, 4106]), zN, zN, some (5, 1, 2, 0, 0, []), some (5, 1, 0, 0, 0, []), some (3, 1, 3, 0, 0, []), some (1, 1, 0, 0, 1, []), some (10, 1, 0, 0, 0, []), some (21, 1, 0, 0, 0, []), some (5, 1, 0, 0, 0, []), some (3, 1, 3, 0, 0, []), some (1, 1, 0, 0, 2, []), some (10, 1, 0, 0, 0, []), some (21, 1, 0, 0, 0, []), some (101, 3, 240, 0, 3, [165, 6277]), zN, zN, some (16, 3, 0, 2245, 0, []), zN, zN, some (1, 1, 0, 0, 0, []), some (100, 1, 4, 0, 0, []), some (5, 1, 1, 0, 0, []), some (5, 1, 0, 0, 0, []), some (3, 1, 3, 0, 0, []), some (1, 1, 0, 0, 1, []), some (10, 1, 0, 0, 0, []), some (21, 1, 0, 0, 0, []), some (5, 1, 0, 0, 0, []), some (3, 1, 3, 0, 0, []), some (1, 1, 0, 0, 2, []), some (10, 1, 0, 0, 0, []), some (21, 1, 0, 0, 0, []), some (5, 1, 0, 0, 0, []), some (3, 1, 3, 0, 0, []), some (1, 1, 0, 0, 3, []), some (10, 1, 0, 0, 0, []), some (21, 1, 0, 0, 0, []), some (101, 3, 130, 0, 4, [166, 4118]), zN, zN, some (5, 1, 2, 0, 0, []), some (5, 1, 0, 0, 0, []), some (3, 1, 3, 0, 0, []), some (1, 1, 0, 0, 1, []), some (10, 1, 0, 0, 0, []), some (21, 1, 0, 0, 0, []), some (5, 1, 0, 0, 0, []), some (3, 1, 3, 0, 0, []), some (1, 1, 0, 0, 2, []), some (10, 1, 0, 0, 0, []), some (21, 1, 0, 0, 0, []), some (5, 1, 0, 0, 0, []), some (3, 1, 3, 0, 0, []), some (1, 1, 0, 0, 3, []), some (10, 1, 0, 0, 0, []), some (21, 1, 0, 0, 0, []), some (101, 3, 243, 0, 4, [169, 6289]), zN, zN, some (16, 3, 0, 2245, 0, []), zN, zN, some (1, 1, 0, 0, 0, []), some (100, 1, 4, 0, 0, []), some (5, 1, 1, 0, 0, []), some (5, 1, 0, 0, 0, []), some (3, 1, 3, 0, 0, []), some (1, 1, 0, 0, 1, []), some (10, 1, 0, 0, 0, []), some (21, 1, 0, 0, 0, []), some (5, 1, 0, 0, 0, []), some (3, 1, 3, 0, 0, []), some (1, 1, 0, 0, 2, [])]
def zk0_17 : List (Option zC) := [some (10, 1, 0, 0, 0, []), some (21, 1, 0, 0, 0, []), some (101, 3, 132, 0, 3, [170, 4127]), zN, zN, some (5, 1, 2, 0, 0, []), some (5, 1, 0, 0, 0, []), some (3, 1, 3, 0, 0, []), some (1, 1, 0, 0, 1, []), some (10, 1, 0, 0, 0, []), some (21, 1, 0, 0, 0, []), some (5, 1, 0, 0, 0, []), some (3, 1, 3, 0, 0, []), some (1, 1, 0, 0, 2, []), some (10, 1, 0, 0, 0, []), some (21, 1, 0, 0, 0, []), some (101, 3, 239, 0, 3, [173, 6273]), zN, zN, some (16, 3, 0, 2245, 0, []), zN, zN, some (1, 1, 0, 0, 0, []), some (100, 1, 4, 0, 0, []), some (5, 1, 1, 0, 0, []), some (5, 1, 0, 0, 0, []), some (3, 1, 3, 0, 0, []), some (1, 1, 0, 0, 1, []), some (10, 1, 0, 0, 0, []), some (21, 1, 0, 0, 0, []), some (5, 1, 0, 0, 0, []), some (3, 1, 3, 0, 0, []), some (1, 1, 0, 0, 2, []), some (10, 1, 0, 0, 0, []), some (21, 1, 0, 0, 0, []), some (5, 1, 0, 0, 0, []), some (3, 1, 3, 0, 0, []), some (1, 1, 0, 0, 3, []), some (10, 1, 0, 0, 0, []), some (21, 1, 0, 0, 0, []), some (101, 3, 133, 0, 4, [174, 4131]), zN, zN, some (5, 1, 2, 0, 0, []), some (5, 1, 0, 0, 0, []), some (3, 1, 3, 0, 0, []), some (1, 1, 0, 0, 1, []), some (10, 1, 0, 0, 0, []), some (21, 1, 0, 0, 0, []), some (5, 1, 0, 0, 0, []), some (3, 1, 3, 0, 0, []), some (1, 1, 0, 0, 2, []), some (10, 1, 0, 0, 0, []), some (21, 1, 0, 0, 0, []), some (5, 1, 0, 0, 0, []), some (3, 1, 3, 0, 0, []), some (1, 1, 0, 0, 3, []), some (10, 1, 0, 0, 0, []), some (21, 1, 0, 0, 0, []), some (101, 3, 245, 0, 4, [177, 6297]), zN, zN, some (16, 3, 0, 2245, 0, []), zN, zN, some (1, 1, 0, 0, 0, []), some (100, 1, 4, 0, 0, []), some (5, 1, 1, 0, 0, []), some (5, 1, 0, 0, 0, []), some (3, 1, 3, 0, 0, []), some (1, 1, 0, 0, 1, []), some (10, 1, 0, 0, 0, []), some (21, 1, 0, 0, 0, []), some (5, 1, 0, 0, 0, []), some (3, 1, 3, 0, 0, []), some (1, 1, 0, 0, 2, []), some (10, 1, 0, 0, 0, []), some (21, 1, 0, 0, 0, []), some (5, 1, 0, 0, 0, []), some (3, 1, 3, 0, 0, []), some (1, 1, 0, 0, 3, []), some (10, 1, 0, 0, 0, []), some (21, 1, 0, 0, 0, []), some (101, 3, 137, 0, 4, [178, 4146]), zN, zN, some (5, 1, 2, 0, 0, []), some (5, 1, 0, 0, 0, []), some (3, 1, 3, 0, 0, []), some (1, 1, 0, 0, 1, [])]
def zk0_18 : List (Option zC) := [some (10, 1, 0, 0, 0, []), some (21, 1, 0, 0, 0, []), some (5, 1, 0, 0, 0, []), some (3, 1, 3, 0, 0, []), some (1, 1, 0, 0, 2, []), some (10, 1, 0, 0, 0, []), some (21, 1, 0, 0, 0, []), some (5, 1, 0, 0, 0, []), some (3, 1, 3, 0, 0, []), some (1, 1, 0, 0, 3, []), some (10, 1, 0, 0, 0, []), some (21, 1, 0, 0, 0, []), some (101, 3, 247, 0, 4, [181, 6305]), zN, zN, some (16, 3, 0, 2245, 0, []), zN, zN, some (1, 1, 0, 0, 0, []), some (100, 1, 4, 0, 0, []), some (5, 1, 1, 0, 0, []), some (5, 1, 0, 0, 0, []), some (3, 1, 3, 0, 0, []), some (1, 1, 0, 0, 1, []), some (10, 1, 0, 0, 0, []), some (21, 1, 0, 0, 0, []), some (101, 3, 138, 0, 2, [182, 4151]), zN, zN, some (5, 1, 2, 0, 0, []), some (5, 1, 0, 0, 0, []), some (3, 1, 3, 0, 0, []), some (1, 1, 0, 0, 1, []), some (10, 1, 0, 0, 0, []), some (21, 1, 0, 0, 0, []), some (101, 3, 249, 0, 2, [185, 6313]), zN, zN, some (16, 3, 0, 2245, 0, []), zN, zN, some (1, 1, 0, 0, 0, []), some (100, 1, 4, 0, 0, []), some (5, 1, 1, 0, 0, []), some (5, 1, 0, 0, 0, []), some (3, 1, 3, 0, 0, []), some (1, 1, 0, 0, 1, []), some (10, 1, 0, 0, 0, []), some (21, 1, 0, 0, 0, []), some (5, 1, 0, 0, 0, []), some (3, 1, 3, 0, 0, []), some (1, 1, 0, 0, 2, []), some (10, 1, 0, 0, 0, []), some (21, 1, 0, 0, 0, []), some (5, 1, 0, 0, 0, []), some (3, 1, 3, 0, 0, []), some (1, 1, 0, 0, 3, []), some (10, 1, 0, 0, 0, []), some (21, 1, 0, 0, 0, []), some (101, 3, 139, 0, 4, [186, 4155]), zN, zN, some (5, 1, 2, 0, 0, []), some (5, 1, 0, 0, 0, []), some (3, 1, 3, 0, 0, []), some (1, 1, 0, 0, 1, []), some (10, 1, 0, 0, 0, []), some (21, 1, 0, 0, 0, []), some (5, 1, 0, 0, 0, []), some (3, 1, 3, 0, 0, []), some (1, 1, 0, 0, 2, []), some (10, 1, 0, 0, 0, []), some (21, 1, 0, 0, 0, []), some (5, 1, 0, 0, 0, []), some (3, 1, 3, 0, 0, []), some (1, 1, 0, 0, 3, []), some (10, 1, 0, 0, 0, []), some (21, 1, 0, 0, 0, []), some (101, 3, 251, 0, 4, [189, 6321]), zN, zN, some (16, 3, 0, 2245, 0, []), zN, zN, some (1, 1, 0, 0, 0, []), some (100, 1, 4, 0, 0, []), some (5, 1, 1, 0, 0, []), some (5, 1, 0, 0, 0, []), some (3, 1, 3, 0, 0, []), some (1, 1, 0, 0, 1, [])]
def zk0_19 : List (Option zC) := [some (10, 1, 0, 0, 0, []), some (21, 1, 0, 0, 0, []), some (5, 1, 0, 0, 0, []), some (3, 1, 3, 0, 0, []), some (1, 1, 0, 0, 2, []), some (10, 1, 0, 0, 0, []), some (21, 1, 0, 0, 0, []), some (5, 1, 0, 0, 0, []), some (3, 1, 3, 0, 0, []), some (1, 1, 0, 0, 3, []), some (10, 1, 0, 0, 0, []), some (21, 1, 0, 0, 0, []), some (5, 1, 0, 0, 0, []), some (3, 1, 3, 0, 0, []), some (1, 1, 0, 0, 4, []), some (10, 1, 0, 0, 0, []), some (21, 1, 0, 0, 0, []), some (101, 3, 141, 0, 5, [190, 4163]), zN, zN, some (5, 1, 2, 0, 0, []), some (5, 1, 0, 0, 0, []), some (3, 1, 3, 0, 0, []), some (1, 1, 0, 0, 1, []), some (10, 1, 0, 0, 0, []), some (21, 1, 0, 0, 0, []), some (5, 1, 0, 0, 0, []), some (3, 1, 3, 0, 0, []), some (1, 1, 0, 0, 2, []), some (10, 1, 0, 0, 0, []), some (21, 1, 0, 0, 0, []), some (5, 1, 0, 0, 0, []), some (3, 1, 3, 0, 0, []), some (1, 1, 0, 0, 3, []), some (10, 1, 0, 0, 0, []), some (21, 1, 0, 0, 0, []), some (5, 1, 0, 0, 0, []), some (3, 1, 3, 0, 0, []), some (1, 1, 0, 0, 4, []), some (10, 1, 0, 0, 0, []), some (21, 1, 0, 0, 0, []), some (101, 3, 252, 0, 5, [193, 6325]), zN, zN, some (16, 3, 0, 2245, 0, []), zN, zN, some (1, 1, 0, 0, 0, []), some (100, 1, 4, 0, 0, []), some (5, 1, 1, 0, 0, []), some (5, 1, 0, 0, 0, []), some (3, 1, 3, 0, 0, []), some (1, 1, 0, 0, 1, []), some (10, 1, 0, 0, 0, []), some (21, 1, 0, 0, 0, []), some (5, 1, 0, 0, 0, []), some (3, 1, 3, 0, 0, []), some (1, 1, 0, 0, 2, []), some (10, 1, 0, 0, 0, []), some (21, 1, 0, 0, 0, []), some (5, 1, 0, 0, 0, []), some (3, 1, 3, 0, 0, []), some (1, 1, 0, 0, 3, []), some (10, 1, 0, 0, 0, []), some (21, 1, 0, 0, 0, []), some (5, 1, 0, 0, 0, []), some (3, 1, 3, 0, 0, []), some (1, 1, 0, 0, 4, []), some (10, 1, 0, 0, 0, []), some (21, 1, 0, 0, 0, []), some (101, 3, 143, 0, 5, [194, 4172]), zN, zN, some (5, 1, 2, 0, 0, []), some (5, 1, 0, 0, 0, []), some (3, 1, 3, 0, 0, []), some (1, 1, 0, 0, 1, []), some (10, 1, 0, 0, 0, []), some (21, 1, 0, 0, 0, []), some (5, 1, 0, 0, 0, []), some (3, 1, 3, 0, 0, []), some (1, 1, 0, 0, 2, []), some (10, 1, 0, 0, 0, []), some (21, 1, 0, 0, 0, []), some (5, 1, 0, 0, 0, []), some (3, 1, 3, 0, 0, []), some (1, 1, 0, 0, 3, []), some (10, 1, 0, 0, 0, []), some (21, 1, 0, 0, 0, []), some (5, 1, 0, 0, 0, [])]
def zk0_20 : List (Option zC) := [some (3, 1, 3, 0, 0, []), some (1, 1, 0, 0, 4, []), some (10, 1, 0, 0, 0, []), some (21, 1, 0, 0, 0, []), some (101, 3, 253, 0, 5, [197, 6329]), zN, zN, some (16, 3, 0, 2245, 0, []), zN, zN, some (1, 1, 0, 0, 0, []), some (100, 1, 4, 0, 0, []), some (5, 1, 1, 0, 0, []), some (5, 1, 0, 0, 0, []), some (3, 1, 3, 0, 0, []), some (1, 1, 0, 0, 1, []), some (10, 1, 0, 0, 0, []), some (21, 1, 0, 0, 0, []), some (5, 1, 0, 0, 0, []), some (3, 1, 3, 0, 0, []), some (1, 1, 0, 0, 2, []), some (10, 1, 0, 0, 0, []), some (21, 1, 0, 0, 0, []), some (5, 1, 0, 0, 0, []), some (3, 1, 3, 0, 0, []), some (1, 1, 0, 0, 3, []), some (10, 1, 0, 0, 0, []), some (21, 1, 0, 0, 0, []), some (101, 3, 145, 0, 4, [198, 4180]), zN, zN, some (5, 1, 2, 0, 0, []), some (5, 1, 0, 0, 0, []), some (3, 1, 3, 0, 0, []), some (1, 1, 0, 0, 1, []), some (10, 1, 0, 0, 0, []), some (21, 1, 0, 0, 0, []), some (5, 1, 0, 0, 0, []), some (3, 1, 3, 0, 0, []), some (1, 1, 0, 0, 2, []), some (10, 1, 0, 0, 0, []), some (21, 1, 0, 0, 0, []), some (5, 1, 0, 0, 0, []), some (3, 1, 3, 0, 0, []), some (1, 1, 0, 0, 3, []), some (10, 1, 0, 0, 0, []), some (21, 1, 0, 0, 0, []), some (101, 3, 255, 0, 4, [201, 6338]), zN, zN, some (16, 3, 0, 2245, 0, []), zN, zN, some (1, 1, 0, 0, 0, []), some (100, 1, 4, 0, 0, []), some (5, 1, 1, 0, 0, []), some (5, 1, 0, 0, 0, []), some (3, 1, 3, 0, 0, []), some (1, 1, 0, 0, 1, []), some (10, 1, 0, 0, 0, []), some (21, 1, 0, 0, 0, []), some (5, 1, 0, 0, 0, []), some (3, 1, 3, 0, 0, []), some (1, 1, 0, 0, 2, []), some (10, 1, 0, 0, 0, []), some (21, 1, 0, 0, 0, []), some (5, 1, 0, 0, 0, []), some (3, 1, 3, 0, 0, []), some (1, 1, 0, 0, 3, []), some (10, 1, 0, 0, 0, []), some (21, 1, 0, 0, 0, []), some (101, 3, 146, 0, 4, [202, 4184]), zN, zN, some (5, 1, 2, 0, 0, []), some (5, 1, 0, 0, 0, []), some (3, 1, 3, 0, 0, []), some (1, 1, 0, 0, 1, []), some (10, 1, 0, 0, 0, []), some (21, 1, 0, 0, 0, []), some (5, 1, 0, 0, 0, []), some (3, 1, 3, 0, 0, []), some (1, 1, 0, 0, 2, []), some (10, 1, 0, 0, 0, []), some (21, 1, 0, 0, 0, []), some (5, 1, 0, 0, 0, []), some (3, 1, 3, 0, 0, []), some (1, 1, 0, 0, 3, []), some (10, 1, 0, 0, 0, []), some (21, 1, 0, 0, 0, [])]
def zk0_21 : List (Option zC) := [some (101, 3, 256, 0, 4, [205, 6343]), zN, zN, some (16, 3, 0, 2245, 0, []), zN, zN, some (1, 1, 0, 0, 0, []), some (100, 1, 4, 0, 0, []), some (5, 1, 1, 0, 0, []), some (5, 1, 0, 0, 0, []), some (3, 1, 3, 0, 0, []), some (1, 1, 0, 0, 1, []), some (10, 1, 0, 0, 0, []), some (21, 1, 0, 0, 0, []), some (5, 1, 0, 0, 0, []), some (3, 1, 3, 0, 0, []), some (1, 1, 0, 0, 2, []), some (10, 1, 0, 0, 0, []), some (21, 1, 0, 0, 0, []), some (5, 1, 0, 0, 0, []), some (3, 1, 3, 0, 0, []), some (1, 1, 0, 0, 3, []), some (10, 1, 0, 0, 0, []), some (21, 1, 0, 0, 0, []), some (101, 3, 147, 0, 4, [206, 4188]), zN, zN, some (5, 1, 2, 0, 0, []), some (5, 1, 0, 0, 0, []), some (3, 1, 3, 0, 0, []), some (1, 1, 0, 0, 1, []), some (10, 1, 0, 0, 0, []), some (21, 1, 0, 0, 0, []), some (5, 1, 0, 0, 0, []), some (3, 1, 3, 0, 0, []), some (1, 1, 0, 0, 2, []), some (10, 1, 0, 0, 0, []), some (21, 1, 0, 0, 0, []), some (5, 1, 0, 0, 0, []), some (3, 1, 3, 0, 0, []), some (1, 1, 0, 0, 3, []), some (10, 1, 0, 0, 0, []), some (21, 1, 0, 0, 0, []), some (101, 3, 257, 0, 4, [209, 6347]), zN, zN, some (16, 3, 0, 2245, 0, []), zN, zN, some (1, 1, 0, 0, 0, []), some (100, 1, 4, 0, 0, []), some (5, 1, 1, 0, 0, []), some (5, 1, 0, 0, 0, []), some (3, 1, 3, 0, 0, []), some (1, 1, 0, 0, 1, []), some (10, 1, 0, 0, 0, []), some (21, 1, 0, 0, 0, []), some (5, 1, 0, 0, 0, []), some (3, 1, 3, 0, 0, []), some (1, 1, 0, 0, 2, []), some (10, 1, 0, 0, 0, []), some (21, 1, 0, 0, 0, []), some (101, 3, 150, 0, 3, [210, 4200]), zN, zN, some (5, 1, 2, 0, 0, []), some (5, 1, 0, 0, 0, []), some (3, 1, 3, 0, 0, []), some (1, 1, 0, 0, 1, []), some (10, 1, 0, 0, 0, []), some (21, 1, 0, 0, 0, []), some (5, 1, 0, 0, 0, []), some (3, 1, 3, 0, 0, []), some (1, 1, 0, 0, 2, []), some (10, 1, 0, 0, 0, []), some (21, 1, 0, 0, 0, []), some (101, 3, 259, 0, 3, [213, 6356]), zN, zN, some (16, 3, 0, 2245, 0, []), zN, zN, some (1, 1, 0, 0, 0, []), some (100, 1, 4, 0, 0, []), some (5, 1, 1, 0, 0, []), some (5, 1, 0, 0, 0, []), some (3, 1, 3, 0, 0, []), some (1, 1, 0, 0, 1, []), some (10, 1, 0, 0, 0, []), some (21, 1, 0, 0, 0, [])]
def zk0_22 : List (Option zC) := [some (5, 1, 0, 0, 0, []), some (3, 1, 3, 0, 0, []), some (1, 1, 0, 0, 2, []), some (10, 1, 0, 0, 0, []), some (21, 1, 0, 0, 0, []), some (5, 1, 0, 0, 0, []), some (3, 1, 3, 0, 0, []), some (1, 1, 0, 0, 3, []), some (10, 1, 0, 0, 0, []), some (21, 1, 0, 0, 0, []), some (101, 3, 151, 0, 4, [214, 4204]), zN, zN, some (5, 1, 2, 0, 0, []), some (5, 1, 0, 0, 0, []), some (3, 1, 3, 0, 0, []), some (1, 1, 0, 0, 1, []), some (10, 1, 0, 0, 0, []), some (21, 1, 0, 0, 0, []), some (5, 1, 0, 0, 0, []), some (3, 1, 3, 0, 0, []), some (1, 1, 0, 0, 2, []), some (10, 1, 0, 0, 0, []), some (21, 1, 0, 0, 0, []), some (5, 1, 0, 0, 0, []), some (3, 1, 3, 0, 0, []), some (1, 1, 0, 0, 3, []), some (10, 1, 0, 0, 0, []), some (21, 1, 0, 0, 0, []), some (101, 3, 260, 0, 4, [218, 6360]), zN, zN, some (14, 1, 0, 0, 0, []), some (15, 3, 0, 2245, 0, []), zN, zN, some (1, 1, 0, 0, 0, []), some (100, 1, 4, 0, 0, []), some (5, 1, 1, 0, 0, []), some (5, 1, 0, 0, 0, []), some (3, 1, 3, 0, 0, []), some (1, 1, 0, 0, 1, []), some (10, 1, 0, 0, 0, []), some (21, 1, 0, 0, 0, []), some (101, 3, 152, 0, 2, [219, 4208]), zN, zN, some (5, 1, 2, 0, 0, []), some (5, 1, 0, 0, 0, []), some (3, 1, 3, 0, 0, []), some (1, 1, 0, 0, 1, []), some (10, 1, 0, 0, 0, []), some (21, 1, 0, 0, 0, []), some (101, 3, 261, 0, 2, [222, 6366]), zN, zN, some (16, 3, 0, 2245, 0, []), zN, zN, some (1, 1, 0, 0, 0, []), some (100, 1, 4, 0, 0, []), some (5, 1, 1, 0, 0, []), some (5, 1, 0, 0, 0, []), some (3, 1, 3, 0, 0, []), some (1, 1, 0, 0, 1, []), some (10, 1, 0, 0, 0, []), some (21, 1, 0, 0, 0, []), some (5, 1, 0, 0, 0, []), some (3, 1, 3, 0, 0, []), some (1, 1, 0, 0, 2, []), some (10, 1, 0, 0, 0, []), some (21, 1, 0, 0, 0, []), some (101, 3, 155, 0, 3, [223, 4221]), zN, zN, some (5, 1, 2, 0, 0, []), some (5, 1, 0, 0, 0, []), some (3, 1, 3, 0, 0, []), some (1, 1, 0, 0, 1, []), some (10, 1, 0, 0, 0, []), some (21, 1, 0, 0, 0, []), some (5, 1, 0, 0, 0, []), some (3, 1, 3, 0, 0, []), some (1, 1, 0, 0, 2, []), some (10, 1, 0, 0, 0, []), some (21, 1, 0, 0, 0, []), some (101, 3, 263, 0, 3, [226, 6374]), zN, zN, some (16, 3, 0, 2245, 0, [])]
def zk0_23 : List (Option zC) := [zN, zN, some (1, 1, 0, 0, 0, []), some (100, 1, 4, 0, 0, []), some (5, 1, 1, 0, 0, []), some (5, 1, 0, 0, 0, []), some (3, 1, 3, 0, 0, []), some (1, 1, 0, 0, 1, []), some (10, 1, 0, 0, 0, []), some (21, 1, 0, 0, 0, []), some (101, 3, 157, 0, 2, [227, 4229]), zN, zN, some (5, 1, 2, 0, 0, []), some (5, 1, 0, 0, 0, []), some (3, 1, 3, 0, 0, []), some (1, 1, 0, 0, 1, []), some (10, 1, 0, 0, 0, []), some (21, 1, 0, 0, 0, []), some (101, 3, 264, 0, 2, [230, 6378]), zN, zN, some (16, 3, 0, 2245, 0, []), zN, zN, some (1, 1, 0, 0, 0, []), some (100, 1, 4, 0, 0, []), some (5, 1, 1, 0, 0, []), some (5, 1, 0, 0, 0, []), some (3, 1, 3, 0, 0, []), some (1, 1, 0, 0, 1, []), some (10, 1, 0, 0, 0, []), some (21, 1, 0, 0, 0, []), some (101, 3, 159, 0, 2, [231, 4237]), zN, zN, some (5, 1, 2, 0, 0, []), some (5, 1, 0, 0, 0, []), some (3, 1, 3, 0, 0, []), some (1, 1, 0, 0, 1, []), some (10, 1, 0, 0, 0, []), some (21, 1, 0, 0, 0, []), some (101, 3, 265, 0, 2, [234, 6382]), zN, zN, some (16, 3, 0, 2245, 0, []), zN, zN, some (1, 1, 0, 0, 0, []), some (100, 1, 4, 0, 0, []), some (5, 1, 1, 0, 0, []), some (5, 1, 0, 0, 0, []), some (3, 1, 3, 0, 0, []), some (1, 1, 0, 0, 1, []), some (10, 1, 0, 0, 0, []), some (21, 1, 0, 0, 0, []), some (5, 1, 0, 0, 0, []), some (3, 1, 3, 0, 0, []), some (1, 1, 0, 0, 2, []), some (10, 1, 0, 0, 0, []), some (21, 1, 0, 0, 0, []), some (101, 3, 160, 0, 3, [235, 4241]), zN, zN, some (5, 1, 2, 0, 0, []), some (5, 1, 0, 0, 0, []), some (3, 1, 3, 0, 0, []), some (1, 1, 0, 0, 1, []), some (10, 1, 0, 0, 0, []), some (21, 1, 0, 0, 0, []), some (5, 1, 0, 0, 0, []), some (3, 1, 3, 0, 0, []), some (1, 1, 0, 0, 2, []), some (10, 1, 0, 0, 0, []), some (21, 1, 0, 0, 0, []), some (101, 3, 266, 0, 3, [238, 7170]), zN, zN, some (16, 3, 0, 2245, 0, []), zN, zN, some (1, 1, 0, 0, 0, []), some (100, 1, 4, 0, 0, []), some (5, 1, 1, 0, 0, []), some (5, 1, 0, 0, 0, []), some (3, 1, 3, 0, 0, []), some (1, 1, 0, 0, 1, []), some (10, 1, 0, 0, 0, []), some (21, 1, 0, 0, 0, []), some (5, 1, 0, 0, 0, [])]
def zk0_24 : List (Option zC) := [some (3, 1, 3, 0, 0, []), some (1, 1, 0, 0, 2, []), some (10, 1, 0, 0, 0, []), some (21, 1, 0, 0, 0, []), some (101, 3, 161, 0, 3, [239, 4245]), zN, zN, some (5, 1, 2, 0, 0, []), some (5, 1, 0, 0, 0, []), some (3, 1, 3, 0, 0, []), some (1, 1, 0, 0, 1, []), some (10, 1, 0, 0, 0, []), some (21, 1, 0, 0, 0, []), some (5, 1, 0, 0, 0, []), some (3, 1, 3, 0, 0, []), some (1, 1, 0, 0, 2, []), some (10, 1, 0, 0, 0, []), some (21, 1, 0, 0, 0, []), some (101, 3, 267, 0, 3, [242, 7174]), zN, zN, some (16, 3, 0, 2245, 0, []), zN, zN, some (1, 1, 0, 0, 0, []), some (100, 1, 4, 0, 0, []), some (5, 1, 1, 0, 0, []), some (5, 1, 0, 0, 0, []), some (3, 1, 3, 0, 0, []), some (1, 1, 0, 0, 1, []), some (10, 1, 0, 0, 0, []), some (21, 1, 0, 0, 0, []), some (101, 3, 163, 0, 2, [243, 4252]), zN, zN, some (5, 1, 2, 0, 0, []), some (5, 1, 0, 0, 0, []), some (3, 1, 3, 0, 0, []), some (1, 1, 0, 0, 1, []), some (10, 1, 0, 0, 0, []), some (21, 1, 0, 0, 0, []), some (101, 3, 270, 0, 2, [246, 7186]), zN, zN, some (16, 3, 0, 2245, 0, []), zN, zN, some (1, 1, 0, 0, 0, []), some (100, 1, 4, 0, 0, []), some (5, 1, 1, 0, 0, []), some (5, 1, 0, 0, 0, []), some (3, 1, 3, 0, 0, []), some (1, 1, 0, 0, 1, []), some (10, 1, 0, 0, 0, []), some (21, 1, 0, 0, 0, []), some (101, 3, 168, 0, 2, [247, 4273]), zN, zN, some (5, 1, 2, 0, 0, []), some (5, 1, 0, 0, 0, []), some (3, 1, 3, 0, 0, []), some (1, 1, 0, 0, 1, []), some (10, 1, 0, 0, 0, []), some (21, 1, 0, 0, 0, []), some (101, 3, 274, 0, 2, [250, 7202]), zN, zN, some (16, 3, 0, 2245, 0, []), zN, zN, some (1, 1, 0, 0, 0, []), some (100, 1, 4, 0, 0, []), some (5, 1, 1, 0, 0, []), some (101, 3, 169, 0, 1, [251, 4277]), zN, zN, some (5, 1, 2, 0, 0, []), some (101, 3, 269, 0, 1, [254, 7182]), zN, zN, some (16, 3, 0, 2245, 0, []), zN, zN, some (1, 1, 0, 0, 0, []), some (100, 1, 4, 0, 0, []), some (9, 3, 3, 0, 6, []), zN, zN, some (17, 3, 0, 18, 0, []), zN]
def zk0_25 : List (Option zC) := [zN, some (1, 1, 0, 0, 1, []), some (100, 1, 4, 0, 0, [])]
def zk0 : List (Option zC) := zk0_0 ++ zk0_1 ++ zk0_2 ++ zk0_3 ++ zk0_4 ++ zk0_5 ++ zk0_6 ++ zk0_7 ++ zk0_8 ++ zk0_9 ++ zk0_10 ++ zk0_11 ++ zk0_12 ++ zk0_13 ++ zk0_14 ++ zk0_15 ++ zk0_16 ++ zk0_17 ++ zk0_18 ++ zk0_19 ++ zk0_20 ++ zk0_21 ++ zk0_22 ++ zk0_23 ++ zk0_24 ++ zk0_25
def zk1 : List (Option zC) := [some (5, 1, 0, 0, 0, []), some (34, 3, 1, 0, 0, [1043]), zN, zN, some (5, 1, 0, 0, 0, []), some (27, 3, 3, 7, 0, [1046]), zN, zN, some (23, 1, 0, 0, 0, []), some (101, 3, 3, 6, 1, [9, 1048]), zN, zN, some (19, 3, 5, 0, 10, [1200]), zN, zN, some (5, 1, 0, 0, 0, []), some (27, 3, 2, 16, 0, [1091]), zN, zN, some (23, 1, 0, 0, 0, []), some (101, 3, 4, 6, 1, [18, 1093]), zN, zN, some (19, 3, 5, 1, 19, [1201]), zN, zN, some (5, 1, 0, 0, 0, []), some (27, 3, 0, 23, 0, [1116]), zN, zN, some (23, 1, 0, 0, 0, []), some (101, 3, 5, 2, 1, [25, 1118]), zN, zN, some (19, 3, 5, 2, 26, [1202]), zN, zN, some (5, 1, 0, 0, 0, []), some (27, 3, 0, 23, 0, [1116]), zN, zN, some (23, 1, 0, 0, 0, []), some (101, 3, 5, 2, 1, [25, 1118]), zN, zN, some (19, 3, 5, 3, 30, [1203]), zN, zN, some (5, 1, 0, 0, 0, []), some (1, 2, 1, 0, 8, []), zN, some (26, 3, 4, 23, 0, [1116]), zN, zN, some (19, 3, 5, 4, 33, [1204]), zN, zN, some (5, 1, 0, 0, 0, []), some (1, 2, 1, 0, 6, []), zN, some (26, 3, 5, 37, 0, [1155]), zN, zN, some (19, 3, 5, 5, 39, [1205]), zN, zN, some (5, 1, 0, 0, 0, []), some (27, 3, 4, 37, 0, [1155]), zN, zN, some (23, 1, 0, 0, 0, []), some (101, 3, 7, 6, 1, [43, 1158]), zN, zN, some (19, 3, 5, 6, 44, [1206]), zN, zN, some (5, 1, 0, 0, 0, []), some (27, 3, 1, 48, 0, [1185]), zN, zN, some (23, 1, 0, 0, 0, []), some (101, 3, 8, 6, 1, [50, 1187]), zN, zN, some (19, 3, 5, 7, 51, [1207]), zN, zN, some (5, 1, 0, 0, 0, []), some (1, 3, 2, 0, 501, []), zN, zN, some (25, 2, 1, 0, 0, []), zN, some (19, 3, 5, 8, 55, [1208]), zN, zN, some (5, 1, 0, 0, 0, []), some (1, 3, 2, 0, 501, []), zN, zN, some (25, 2, 0, 0, 0, []), zN, some (19, 3, 5, 9, 59, [1209]), zN, zN, some (5, 1, 0, 0, 0, []), some (1, 2, 1, 0, 47, []), zN, some (25, 2, 1, 0, 0, []), zN, some (19, 3, 5, 10, 63, [1210]), zN, zN, some (5, 1, 0, 0, 0, []), some (1, 1, 0, 0, 0, []), some (19, 3, 5, 11, 66, [1211]), zN, zN, some (5, 1, 0, 0, 0, []), some (1, 1, 0, 0, (-1), []), some (19, 3, 5, 12, 70, [1212]), zN, zN, some (5, 1, 0, 0, 0, []), some (1, 1, 0, 0, (-1), []), some (19, 3, 5, 13, 73, [1213]), zN, zN, some (5, 1, 0, 0, 0, []), some (1, 1, 0, 0, 0, []), some (19, 3, 5, 14, 76, [1214]), zN, zN, some (1, 1, 0, 0, 0, []), some (6, 1, 1, 0, 0, []), some (3, 1, 1, 0, 0, []), some (5, 1, 0, 0, 0, []), some (18, 3, 5, 4, 33, [1204]), zN, zN, some (20, 1, 0, 0, 0, []), some (16, 3, 3, 164, 0, []), zN, zN, some (5, 1, 0, 0, 0, []), some (18, 3, 5, 4, 33, [1204]), zN, zN, some (3, 1, 1, 0, 0, []), some (27, 3, 0, 23, 0, [1116]), zN, zN, some (23, 1, 0, 0, 0, []), some (101, 3, 5, 2, 1, [25, 1118]), zN, zN, some (22, 1, 4, 0, 0, []), some (9, 3, 1, 0, 1, []), zN, zN, some (17, 3, 0, 136, 0, []), zN, zN, some (1, 1, 0, 0, 0, []), some (6, 1, 1, 0, 0, []), some (3, 1, 1, 0, 0, []), some (5, 1, 0, 0, 0, []), some (18, 3, 5, 5, 39, [1205]), zN, zN, some (20, 1, 0, 0, 0, []), some (16, 3, 3, 194, 0, []), zN, zN, some (5, 1, 0, 0, 0, []), some (18, 3, 5, 5, 39, [1205]), zN, zN, some (3, 1, 1, 0, 0, []), some (27, 3, 4, 37, 0, [1155]), zN, zN, some (23, 1, 0, 0, 0, []), some (101, 3, 7, 6, 1, [43, 1158]), zN, zN, some (22, 1, 4, 0, 0, []), some (9, 3, 1, 0, 1, []), zN, zN, some (17, 3, 0, 166, 0, []), zN, zN, some (100, 1, 0, 0, 0, [])]
def zk2 : List (Option zC) := [some (100, 1, 0, 0, 0, [])]
def zk3 : List (Option zC) := [some (5, 1, 0, 0, 0, []), some (34, 3, 3, 0, 0, [1051]), zN, zN, some (5, 1, 0, 0, 0, []), some (1, 3, 2, 0, 400, []), zN, zN, some (25, 2, 0, 0, 0, []), zN, some (19, 3, 3, 0, 9, [1052]), zN, zN, some (5, 1, 0, 0, 0, []), some (1, 2, 1, 0, 6, []), zN, some (25, 2, 1, 0, 0, []), zN, some (19, 3, 3, 1, 15, [1053]), zN, zN, some (5, 1, 0, 0, 0, []), some (1, 1, 0, 0, 0, []), some (19, 3, 3, 2, 19, [1054]), zN, zN, some (5, 1, 0, 0, 0, []), some (1, 1, 0, 0, 0, []), some (19, 3, 3, 3, 23, [1055]), zN, zN, some (5, 1, 0, 0, 0, []), some (1, 1, 0, 0, 0, []), some (19, 3, 3, 4, 26, [1056]), zN, zN, some (5, 1, 0, 0, 0, []), some (1, 1, 0, 0, 0, []), some (19, 3, 3, 5, 29, [1057]), zN, zN, some (5, 1, 0, 0, 0, []), some (2, 1, 0, 0, 0, []), some (19, 3, 3, 6, 32, [1058]), zN, zN, some (5, 1, 0, 0, 0, []), some (1, 1, 0, 0, 0, []), some (19, 3, 3, 7, 36, [1059]), zN, zN, some (5, 1, 0, 0, 0, []), some (1, 1, 0, 0, 0, []), some (19, 3, 3, 8, 39, [1060]), zN, zN, some (5, 1, 0, 0, 0, []), some (1, 1, 0, 0, 0, []), some (19, 3, 3, 9, 42, [1062]), zN, zN, some (5, 1, 0, 0, 0, []), some (1, 1, 0, 0, (-1), []), some (19, 3, 3, 10, 45, [1064]), zN, zN, some (100, 1, 0, 0, 0, [])]
def zk4 : List (Option zC) := [some (5, 1, 0, 0, 0, []), some (34, 3, 3, 0, 0, [1096]), zN, zN, some (5, 1, 0, 0, 0, []), some (1, 2, 1, 0, 9, []), zN, some (25, 2, 0, 0, 0, []), zN, some (19, 3, 2, 0, 11, [1097]), zN, zN, some (5, 1, 0, 0, 0, []), some (1, 2, 1, 0, 9, []), zN, some (25, 2, 0, 0, 0, []), zN, some (19, 3, 2, 1, 15, [1100]), zN, zN, some (5, 1, 0, 0, 0, []), some (1, 2, 1, 0, 9, []), zN, some (25, 2, 0, 0, 0, []), zN, some (19, 3, 2, 2, 18, [1103]), zN, zN, some (5, 1, 0, 0, 0, []), some (1, 1, 0, 0, 0, []), some (19, 3, 2, 3, 21, [1104]), zN, zN, some (100, 1, 0, 0, 0, [])]
def zk5 : List (Option zC) := [some (5, 1, 0, 0, 0, []), some (34, 3, 3, 0, 0, [1121]), zN, zN, some (5, 1, 0, 0, 0, []), some (1, 2, 1, 0, 6, []), zN, some (25, 2, 0, 0, 0, []), zN, some (19, 3, 0, 0, 9, [1127]), zN, zN, some (5, 1, 0, 0, 0, []), some (1, 1, 0, 0, 0, []), some (19, 3, 0, 1, 15, [1129]), zN, zN, some (5, 1, 0, 0, 0, []), some (1, 1, 0, 0, 0, []), some (19, 3, 0, 2, 19, [1132]), zN, zN, some (5, 1, 0, 0, 0, []), some (1, 1, 0, 0, 0, []), some (19, 3, 0, 3, 22, [1136]), zN, zN, some (5, 1, 0, 0, 0, []), some (1, 1, 0, 0, 0, []), some (19, 3, 0, 4, 25, [1140]), zN, zN, some (5, 1, 0, 0, 0, []), some (101, 3, 6, 0, 1, [28, 1122]), zN, zN, some (100, 1, 0, 0, 0, [])]
def zk6 : List (Option zC) := [some (5, 1, 0, 0, 0, []), some (1, 1, 0, 0, 0, []), some (19, 3, 0, 1, 15, [1129]), zN, zN, some (5, 1, 0, 0, 0, []), some (1, 2, 3, 31, 100000, [1126]), zN, some (19, 3, 0, 2, 19, [1132]), zN, zN, some (5, 1, 0, 0, 0, []), some (1, 2, 1, 0, 30, []), zN, some (19, 3, 0, 3, 22, [1136]), zN, zN, some (5, 1, 0, 0, 0, []), some (1, 1, 0, 0, 0, []), some (19, 3, 0, 4, 25, [1140]), zN, zN, some (100, 1, 0, 0, 0, [])]
def zk7 : List (Option zC) := [some (5, 1, 0, 0, 0, []), some (34, 3, 3, 0, 0, [1161]), zN, zN, some (5, 1, 0, 0, 0, []), some (1, 2, 1, 0, 101, []), zN, some (25, 2, 0, 0, 0, []), zN, some (19, 3, 4, 0, 9, [1162]), zN, zN, some (5, 1, 0, 0, 0, []), some (1, 1, 0, 0, 0, []), some (19, 3, 4, 1, 15, [1165]), zN, zN, some (5, 1, 0, 0, 0, []), some (1, 1, 0, 0, 3, []), some (19, 3, 4, 2, 19, [1168]), zN, zN, some (5, 1, 0, 0, 0, []), some (1, 1, 0, 0, (-1), []), some (19, 3, 4, 3, 22, [1170]), zN, zN, some (5, 1, 0, 0, 0, []), some (1, 1, 0, 0, 0, []), some (19, 3, 4, 4, 25, [1172]), zN, zN, some (100, 1, 0, 0, 0, [])]
def zk8 : List (Option zC) := [some (5, 1, 0, 0, 0, []), some (34, 3, 3, 0, 0, [1190]), zN, zN, some (5, 1, 0, 0, 0, []), some (1, 3, 2, 0, 3232, []), zN, zN, some (25, 2, 0, 0, 0, []), zN, some (19, 3, 1, 0, 9, [1191]), zN, zN, some (5, 1, 0, 0, 0, []), some (1, 1, 0, 0, 0, []), some (19, 3, 1, 1, 15, [1193]), zN, zN, some (100, 1, 0, 0, 0, [])]
def zk9 : List (Option zC) := [some (5, 1, 0, 0, 0, []), some (18, 3, 5, 14, 76, [1214]), zN, zN, some (100, 1, 1, 0, 0, [])]
def zk10 : List (Option zC) := [some (5, 1, 0, 0, 0, []), some (18, 3, 5, 0, 10, [1200]), zN, zN, some (18, 3, 3, 8, 79, [1061]), zN, zN, some (1, 2, 1, 0, 20, []), zN, some (10, 1, 0, 0, 0, []), some (1, 3, 2, 0, 400, []), zN, zN, some (16, 3, 5, 18, 0, []), zN, zN, some (1, 1, 0, 0, (-1), []), some (100, 1, 1, 0, 0, []), some (5, 1, 0, 0, 0, []), some (18, 3, 5, 0, 10, [1200]), zN, zN, some (3, 1, 1, 0, 0, []), some (101, 3, 11, 0, 2, [82, 1254]), zN, zN, some (5, 1, 0, 0, 0, []), some (18, 3, 5, 0, 10, [1200]), zN, zN, some (3, 1, 2, 0, 0, []), some (101, 3, 11, 0, 2, [82, 1254]), zN, zN, some (5, 1, 0, 0, 0, []), some (18, 3, 5, 0, 10, [1200]), zN, zN, some (3, 1, 3, 0, 0, []), some (101, 3, 11, 0, 2, [82, 1254]), zN, zN, some (5, 1, 0, 0, 0, []), some (18, 3, 5, 0, 10, [1200]), zN, zN, some (3, 2, 4, 0, 0, []), zN, some (101, 3, 11, 0, 2, [82, 1254]), zN, zN, some (5, 1, 0, 0, 0, []), some (18, 3, 5, 0, 10, [1200]), zN, zN, some (3, 2, 5, 0, 0, []), zN, some (101, 3, 11, 0, 2, [82, 1254]), zN, zN, some (5, 1, 0, 0, 0, []), some (18, 3, 5, 0, 10, [1200]), zN, zN, some (18, 3, 3, 8, 79, [1061]), zN, zN, some (100, 1, 1, 0, 0, [])]
def zk11 : List (Option zC) := [some (1, 2, 1, 0, 24, []), zN, some (6, 1, 2, 0, 0, []), some (3, 1, 2, 0, 0, []), some (15, 3, 2, 51, 0, []), zN, zN, some (5, 1, 0, 0, 0, []), some (18, 3, 3, 8, 39, [1060]), zN, zN, some (5, 1, 0, 0, 0, []), some (18, 3, 3, 0, 9, [1052]), zN, zN, some (20, 1, 0, 0, 0, []), some (16, 3, 3, 51, 0, []), zN, zN, some (5, 1, 0, 0, 0, []), some (18, 3, 3, 0, 9, [1052]), zN, zN, some (5, 1, 0, 0, 0, []), some (18, 3, 3, 8, 39, [1060]), zN, zN, some (3, 1, 1, 0, 0, []), some (3, 1, 2, 0, 0, []), some (10, 1, 10, 0, 0, []), some (1, 3, 2, 0, 255, []), zN, zN, some (10, 1, 3, 0, 0, []), some (22, 1, 0, 0, 0, []), some (5, 1, 0, 0, 0, []), some (23, 1, 0, 0, 0, []), some (18, 3, 3, 8, 39, [1060]), zN, zN, some (1, 1, 0, 0, 1, []), some (10, 1, 0, 0, 0, []), some (19, 3, 3, 8, 39, [1060]), zN, zN, some (9, 3, 2, 0, (-8), []), zN, zN, some (17, 3, 0, 3, 0, []), zN, zN, some (100, 1, 0, 0, 0, [])]
def zk12 : List (Option zC) := [some (3, 1, 1, 0, 0, []), some (15, 3, 2, 15, 0, []), zN, zN, some (3, 1, 1, 0, 0, []), some (5, 1, 0, 0, 0, []), some (18, 3, 5, 0, 10, [1200]), zN, zN, some (18, 3, 3, 8, 79, [1061]), zN, zN, some (16, 3, 5, 21, 0, []), zN, zN, some (5, 1, 0, 0, 0, []), some (1, 1, 0, 0, 1, []), some (101, 3, 13, 0, 2, [86, 1262]), zN, zN, some (100, 1, 1, 0, 0, []), some (5, 1, 0, 0, 0, []), some (18, 3, 5, 0, 10, [1200]), zN, zN, some (3, 1, 1, 0, 0, []), some (5, 1, 0, 0, 0, []), some (18, 3, 5, 3, 30, [1203]), zN, zN, some (101, 3, 14, 0, 3, [90, 2050]), zN, zN, some (6, 1, 2, 0, 0, []), some (5, 1, 0, 0, 0, []), some (5, 1, 0, 0, 0, []), some (18, 3, 5, 0, 10, [1200]), zN, zN, some (18, 3, 3, 9, 94, [1063]), zN, zN, some (19, 3, 5, 12, 70, [1212]), zN, zN, some (5, 1, 0, 0, 0, []), some (5, 1, 0, 0, 0, []), some (18, 3, 5, 0, 10, [1200]), zN, zN, some (18, 3, 3, 10, 97, [1065]), zN, zN, some (19, 3, 5, 13, 73, [1213]), zN, zN, some (3, 1, 2, 0, 0, []), some (15, 3, 1, 67, 0, []), zN, zN, some (5, 1, 0, 0, 0, []), some (1, 2, 1, 0, 9, []), zN, some (101, 3, 13, 0, 2, [86, 1262]), zN, zN, some (100, 1, 1, 0, 0, []), some (5, 1, 0, 0, 0, []), some (18, 3, 5, 2, 26, [1202]), zN, zN, some (5, 1, 0, 0, 0, []), some (18, 3, 5, 3, 30, [1203]), zN, zN, some (101, 3, 37, 0, 2, [98, 2173]), zN, zN, some (5, 1, 0, 0, 0, []), some (1, 1, 0, 0, 0, []), some (19, 3, 5, 11, 66, [1211]), zN, zN, some (5, 1, 0, 0, 0, []), some (101, 3, 38, 0, 1, [102, 2177]), zN, zN, some (5, 1, 0, 0, 0, []), some (5, 1, 0, 0, 0, []), some (18, 3, 5, 2, 26, [1202]), zN, zN, some (18, 3, 0, 1, 105, [1130]), zN, zN, some (101, 3, 39, 0, 2, [108, 2181]), zN, zN, some (100, 1, 1, 0, 0, [])]
def zk13 : List (Option zC) := [some (5, 1, 0, 0, 0, []), some (3, 1, 1, 0, 0, []), some (19, 3, 5, 14, 76, [1214]), zN, zN, some (1, 1, 0, 0, (-1), []), some (100, 1, 1, 0, 0, [])]
def zk14 : List (Option zC) := [some (5, 1, 0, 0, 0, []), some (3, 1, 1, 0, 0, []), some (5, 1, 0, 0, 0, []), some (18, 3, 3, 8, 39, [1060]), zN, zN, some (38, 3, 48, 0, 0, [2054]), zN, zN, some (19, 3, 3, 2, 19, [1054]), zN, zN, some (5, 1, 0, 0, 0, []), some (1, 1, 0, 0, 0, []), some (19, 3, 3, 8, 39, [1060]), zN, zN, some (5, 1, 0, 0, 0, []), some (1, 1, 0, 0, 0, []), some (19, 3, 3, 3, 23, [1055]), zN, zN, some (5, 1, 0, 0, 0, []), some (1, 1, 0, 0, 0, []), some (19, 3, 3, 9, 42, [1062]), zN, zN, some (5, 1, 0, 0, 0, []), some (1, 1, 0, 0, (-1), []), some (19, 3, 3, 10, 45, [1064]), zN, zN, some (5, 1, 2, 0, 0, []), some (101, 3, 6, 0, 1, [54, 2057]), zN, zN, some (1, 1, 0, 0, 0, []), some (6, 1, 3, 0, 0, []), some (3, 1, 3, 0, 0, []), some (5, 1, 0, 0, 0, []), some (18, 3, 3, 2, 19, [1054]), zN, zN, some (16, 3, 4, 75, 0, []), zN, zN, some (5, 1, 0, 0, 0, []), some (101, 3, 15, 0, 1, [59, 2058]), zN, zN, some (5, 1, 0, 0, 0, []), some (18, 3, 3, 5, 29, [1057]), zN, zN, some (15, 3, 1, 59, 0, []), zN, zN, some (1, 1, 0, 0, 1, []), some (100, 1, 4, 0, 0, []), some (5, 1, 0, 0, 0, []), some (5, 1, 2, 0, 0, []), some (101, 3, 19, 0, 2, [62, 2075]), zN, zN, some (15, 3, 1, 69, 0, []), zN, zN, some (1, 1, 0, 0, 0, []), some (100, 1, 4, 0, 0, []), some (9, 3, 3, 0, 1, []), zN, zN, some (17, 3, 0, 38, 0, []), zN, zN, some (1, 1, 0, 0, 1, []), some (100, 1, 4, 0, 0, [])]
def zk15 : List (Option zC) := [some (5, 1, 0, 0, 0, []), some (18, 3, 3, 3, 23, [1055]), zN, zN, some (5, 1, 0, 0, 0, []), some (18, 3, 3, 2, 19, [1054]), zN, zN, some (16, 3, 3, 52, 0, []), zN, zN, some (5, 1, 0, 0, 0, []), some (18, 3, 3, 0, 9, [1052]), zN, zN, some (5, 1, 0, 0, 0, []), some (18, 3, 3, 3, 23, [1055]), zN, zN, some (21, 1, 0, 0, 0, []), some (1, 2, 1, 0, 10, []), zN, some (16, 3, 0, 39, 0, []), zN, zN, some (5, 1, 0, 0, 0, []), some (18, 3, 3, 0, 9, [1052]), zN, zN, some (5, 1, 0, 0, 0, []), some (18, 3, 3, 3, 23, [1055]), zN, zN, some (21, 1, 0, 0, 0, []), some (1, 2, 1, 0, 32, []), zN, some (16, 3, 1, 52, 0, []), zN, zN, some (5, 1, 0, 0, 0, []), some (23, 1, 0, 0, 0, []), some (18, 3, 3, 3, 23, [1055]), zN, zN, some (1, 1, 0, 0, 1, []), some (10, 1, 0, 0, 0, []), some (19, 3, 3, 3, 23, [1055]), zN, zN, some (17, 3, 0, 0, 0, []), zN, zN, some (5, 1, 0, 0, 0, []), some (5, 1, 0, 0, 0, []), some (18, 3, 3, 3, 23, [1055]), zN, zN, some (19, 3, 3, 4, 26, [1056]), zN, zN, some (5, 1, 0, 0, 0, []), some (2, 1, 0, 0, 0, []), some (19, 3, 3, 6, 32, [1058]), zN, zN, some (5, 1, 0, 0, 0, []), some (1, 1, 0, 0, 0, []), some (19, 3, 3, 7, 36, [1059]), zN, zN, some (5, 1, 0, 0, 0, []), some (1, 2, 1, 0, 97, []), zN, some (1, 2, 1, 0, 122, []), zN, some (101, 3, 16, 0, 3, [110, 2062]), zN, zN, some (6, 1, 1, 0, 0, []), some (5, 1, 0, 0, 0, []), some (1, 2, 1, 0, 48, []), zN, some (1, 2, 1, 0, 57, []), zN, some (101, 3, 16, 0, 3, [110, 2062]), zN, zN, some (6, 1, 2, 0, 0, []), some (5, 1, 0, 0, 0, []), some (18, 3, 3, 3, 23, [1055]), zN, zN, some (5, 1, 0, 0, 0, []), some (18, 3, 3, 2, 19, [1054]), zN, zN, some (16, 3, 2, 107, 0, []), zN, zN, some (5, 1, 0, 0, 0, []), some (1, 1, 0, 0, 0, []), some (19, 3, 3, 5, 29, [1057]), zN, zN, some (17, 3, 0, 172, 0, []), zN, zN, some (3, 1, 1, 0, 0, []), some (5, 1, 0, 0, 0, []), some (18, 3, 3, 3, 23, [1055]), zN, zN, some (16, 3, 5, 123, 0, []), zN, zN, some (5, 1, 0, 0, 0, []), some (3, 1, 1, 0, 0, []), some (101, 3, 17, 0, 2, [114, 2066]), zN, zN, some (17, 3, 0, 172, 0, []), zN, zN, some (3, 1, 2, 0, 0, []), some (5, 1, 0, 0, 0, []), some (18, 3, 3, 3, 23, [1055]), zN, zN, some (16, 3, 5, 139, 0, []), zN, zN, some (5, 1, 0, 0, 0, []), some (3, 1, 2, 0, 0, []), some (101, 3, 18, 0, 2, [117, 2071]), zN, zN, some (17, 3, 0, 172, 0, []), zN, zN, some (5, 1, 0, 0, 0, []), some (5, 1, 0, 0, 0, []), some (18, 3, 3, 0, 9, [1052]), zN, zN, some (5, 1, 0, 0, 0, []), some (18, 3, 3, 3, 23, [1055]), zN, zN, some (21, 1, 0, 0, 0, []), some (1, 2, 1, 0, 59, []), zN, some (16, 3, 1, 158, 0, []), zN, zN, some (1, 1, 0, 0, 3, []), some (17, 3, 0, 159, 0, []), zN, zN, some (1, 1, 0, 0, 4, []), some (19, 3, 3, 5, 29, [1057]), zN, zN, some (5, 1, 0, 0, 0, []), some (23, 1, 0, 0, 0, []), some (18, 3, 3, 3, 23, [1055]), zN, zN, some (1, 1, 0, 0, 1, []), some (10, 1, 0, 0, 0, []), some (19, 3, 3, 3, 23, [1055]), zN, zN, some (100, 1, 0, 0, 0, [])]
def zk16 : List (Option zC) := [some (5, 1, 0, 0, 0, []), some (18, 3, 3, 3, 23, [1055]), zN, zN, some (6, 1, 3, 0, 0, []), some (3, 1, 3, 0, 0, []), some (5, 1, 0, 0, 0, []), some (18, 3, 3, 2, 19, [1054]), zN, zN, some (16, 3, 3, 39, 0, []), zN, zN, some (5, 1, 0, 0, 0, []), some (18, 3, 3, 0, 9, [1052]), zN, zN, some (3, 1, 3, 0, 0, []), some (21, 1, 0, 0, 0, []), some (3, 1, 1, 0, 0, []), some (16, 3, 2, 39, 0, []), zN, zN, some (5, 1, 0, 0, 0, []), some (18, 3, 3, 0, 9, [1052]), zN, zN, some (3, 1, 3, 0, 0, []), some (21, 1, 0, 0, 0, []), some (3, 1, 2, 0, 0, []), some (16, 3, 4, 39, 0, []), zN, zN, some (9, 3, 3, 0, 1, []), zN, zN, some (17, 3, 0, 5, 0, []), zN, zN, some (3, 1, 3, 0, 0, []), some (100, 1, 1, 0, 0, [])]
def zk17 : List (Option zC) := [some (5, 1, 0, 0, 0, []), some (3, 1, 1, 0, 0, []), some (5, 1, 0, 0, 0, []), some (18, 3, 3, 4, 26, [1056]), zN, zN, some (10, 1, 1, 0, 0, []), some (1, 2, 1, 0, 8, []), zN, some (16, 3, 4, 16, 0, []), zN, zN, some (1, 1, 0, 0, 1, []), some (17, 3, 0, 17, 0, []), zN, zN, some (1, 1, 0, 0, 4, []), some (19, 3, 3, 5, 29, [1057]), zN, zN, some (5, 1, 0, 0, 0, []), some (18, 3, 3, 3, 23, [1055]), zN, zN, some (3, 1, 1, 0, 0, []), some (16, 3, 3, 77, 0, []), zN, zN, some (5, 1, 0, 0, 0, []), some (18, 3, 3, 5, 29, [1057]), zN, zN, some (1, 1, 0, 0, 1, []), some (16, 3, 1, 77, 0, []), zN, zN, some (5, 1, 0, 0, 0, []), some (5, 1, 0, 0, 0, []), some (18, 3, 3, 6, 32, [1058]), zN, zN, some (2, 3, 1, 120, 32, [2070]), zN, zN, some (11, 1, 2, 0, 0, []), some (5, 1, 0, 0, 0, []), some (18, 3, 3, 0, 9, [1052]), zN, zN, some (5, 1, 0, 0, 0, []), some (18, 3, 3, 3, 23, [1055]), zN, zN, some (21, 1, 0, 0, 0, []), some (1, 2, 1, 0, 97, []), zN, some (10, 1, 1, 0, 0, []), some (1, 1, 0, 0, 1, []), some (10, 1, 0, 0, 0, []), some (13, 1, 1, 0, 0, []), some (11, 1, 0, 0, 0, []), some (19, 3, 3, 6, 32, [1058]), zN, zN, some (5, 1, 0, 0, 0, []), some (23, 1, 0, 0, 0, []), some (18, 3, 3, 3, 23, [1055]), zN, zN, some (1, 1, 0, 0, 1, []), some (10, 1, 0, 0, 0, []), some (19, 3, 3, 3, 23, [1055]), zN, zN, some (17, 3, 0, 20, 0, []), zN, zN, some (5, 1, 0, 0, 0, []), some (3, 1, 1, 0, 0, []), some (19, 3, 3, 3, 23, [1055]), zN, zN, some (100, 1, 0, 0, 0, [])]
def zk18 : List (Option zC) := [some (5, 1, 0, 0, 0, []), some (3, 1, 1, 0, 0, []), some (5, 1, 0, 0, 0, []), some (18, 3, 3, 4, 26, [1056]), zN, zN, some (10, 1, 1, 0, 0, []), some (1, 2, 1, 0, 9, []), zN, some (16, 3, 4, 16, 0, []), zN, zN, some (1, 1, 0, 0, 2, []), some (17, 3, 0, 17, 0, []), zN, zN, some (1, 1, 0, 0, 4, []), some (19, 3, 3, 5, 29, [1057]), zN, zN, some (5, 1, 0, 0, 0, []), some (18, 3, 3, 3, 23, [1055]), zN, zN, some (3, 1, 1, 0, 0, []), some (16, 3, 3, 73, 0, []), zN, zN, some (5, 1, 0, 0, 0, []), some (18, 3, 3, 5, 29, [1057]), zN, zN, some (1, 1, 0, 0, 2, []), some (16, 3, 1, 73, 0, []), zN, zN, some (5, 1, 0, 0, 0, []), some (5, 1, 0, 0, 0, []), some (18, 3, 3, 7, 36, [1059]), zN, zN, some (1, 2, 1, 0, 10, []), zN, some (10, 1, 2, 0, 0, []), some (5, 1, 0, 0, 0, []), some (18, 3, 3, 0, 9, [1052]), zN, zN, some (5, 1, 0, 0, 0, []), some (18, 3, 3, 3, 23, [1055]), zN, zN, some (21, 1, 0, 0, 0, []), some (1, 2, 1, 0, 48, []), zN, some (10, 1, 1, 0, 0, []), some (10, 1, 0, 0, 0, []), some (19, 3, 3, 7, 36, [1059]), zN, zN, some (5, 1, 0, 0, 0, []), some (23, 1, 0, 0, 0, []), some (18, 3, 3, 3, 23, [1055]), zN, zN, some (1, 1, 0, 0, 1, []), some (10, 1, 0, 0, 0, []), some (19, 3, 3, 3, 23, [1055]), zN, zN, some (17, 3, 0, 20, 0, []), zN, zN, some (5, 1, 0, 0, 0, []), some (3, 1, 1, 0, 0, []), some (19, 3, 3, 3, 23, [1055]), zN, zN, some (100, 1, 0, 0, 0, [])]
def zk19 : List (Option zC) := [some (5, 1, 0, 0, 0, []), some (18, 3, 3, 5, 29, [1057]), zN, zN, some (1, 1, 0, 0, 1, []), some (16, 3, 0, 14, 0, []), zN, zN, some (5, 1, 0, 0, 0, []), some (1, 1, 0, 0, 2, []), some (101, 3, 20, 0, 2, [66, 2079]), zN, zN, some (100, 1, 4, 0, 0, []), some (5, 1, 0, 0, 0, []), some (18, 3, 3, 6, 32, [1058]), zN, zN, some (101, 3, 21, 1, 1, [70, 2083]), zN, zN, some (30, 31, 0, 155, 0, [52, 58, 90, 122]), zN, zN, zN, zN, zN, zN, zN, zN, zN, zN, zN, zN, zN, zN, zN, zN, zN, zN, zN, zN, zN, zN, zN, zN, zN, zN, zN, zN, zN, zN, some (5, 1, 0, 0, 0, []), some (5, 1, 1, 0, 0, []), some (101, 3, 30, 0, 2, [74, 2141]), zN, zN, some (100, 1, 4, 0, 0, []), some (5, 1, 0, 0, 0, []), some (1, 2, 3, 77, 999999999, [2156]), zN, some (101, 3, 33, 0, 2, [78, 2157]), zN, zN, some (6, 1, 2, 0, 0, []), some (5, 1, 1, 0, 0, []), some (5, 1, 0, 0, 0, []), some (18, 3, 3, 7, 36, [1059]), zN, zN, some (19, 3, 0, 2, 81, [1134]), zN, zN, some (3, 1, 2, 0, 0, []), some (15, 3, 0, 88, 0, []), zN, zN, some (5, 1, 0, 0, 0, []), some (101, 3, 35, 0, 1, [84, 2165]), zN, zN, some (15, 3, 0, 88, 0, []), zN, zN, some (1, 1, 0, 0, 1, []), some (17, 3, 0, 89, 0, []), zN, zN, some (1, 1, 0, 0, 0, []), some (100, 1, 4, 0, 0, []), some (5, 1, 0, 0, 0, []), some (1, 2, 1, 0, 100, []), zN, some (101, 3, 33, 0, 2, [78, 2157]), zN, zN, some (6, 1, 2, 0, 0, []), some (5, 1, 1, 0, 0, []), some (5, 1, 0, 0, 0, []), some (18, 3, 3, 7, 36, [1059]), zN, zN, some (19, 3, 0, 3, 88, [1138]), zN, zN, some (3, 1, 2, 0, 0, []), some (15, 3, 0, 120, 0, []), zN, zN, some (5, 1, 0, 0, 0, []), some (101, 3, 35, 0, 1, [84, 2165]), zN, zN, some (15, 3, 0, 120, 0, []), zN, zN, some (1, 1, 0, 0, 1, []), some (17, 3, 0, 121, 0, []), zN, zN, some (1, 1, 0, 0, 0, []), some (100, 1, 4, 0, 0, []), some (5, 1, 0, 0, 0, []), some (101, 3, 36, 0, 1, [91, 2169]), zN, zN, some (6, 1, 2, 0, 0, []), some (5, 1, 1, 0, 0, []), some (5, 1, 0, 0, 0, []), some (18, 3, 3, 6, 32, [1058]), zN, zN, some (101, 3, 32, 1, 1, [94, 2149]), zN, zN, some (19, 3, 0, 4, 97, [1141]), zN, zN, some (3, 1, 2, 0, 0, []), some (15, 3, 0, 153, 0, []), zN, zN, some (5, 1, 0, 0, 0, []), some (101, 3, 35, 0, 1, [84, 2165]), zN, zN, some (15, 3, 0, 153, 0, []), zN, zN, some (1, 1, 0, 0, 1, []), some (17, 3, 0, 154, 0, []), zN, zN, some (1, 1, 0, 0, 0, []), some (100, 1, 4, 0, 0, []), some (5, 1, 0, 0, 0, []), some (1, 1, 0, 0, 2, []), some (101, 3, 20, 0, 2, [66, 2079]), zN, zN, some (100, 1, 4, 0, 0, [])]
def zk20 : List (Option zC) := [some (5, 1, 0, 0, 0, []), some (5, 1, 0, 0, 0, []), some (18, 3, 3, 5, 29, [1057]), zN, zN, some (1, 1, 0, 0, 4, []), some (16, 3, 1, 13, 0, []), zN, zN, some (1, 1, 0, 0, 1, []), some (17, 3, 0, 14, 0, []), zN, zN, some (3, 1, 1, 0, 0, []), some (19, 3, 3, 9, 42, [1062]), zN, zN, some (5, 1, 0, 0, 0, []), some (5, 1, 0, 0, 0, []), some (18, 3, 3, 4, 26, [1056]), zN, zN, some (19, 3, 3, 10, 45, [1064]), zN, zN, some (1, 1, 0, 0, 0, []), some (100, 1, 4, 0, 0, [])]
def zk21 : List (Option zC) := [some (4, 1, 0, 0, 0, []), some (32, 2, 0, 132, 0, []), zN, some (101, 3, 22, 1, 1, [134, 2087]), zN, zN, some (14, 1, 0, 0, 0, []), some (15, 3, 1, 12, 0, []), zN, zN, some (1, 1, 0, 0, 0, []), some (100, 1, 1, 0, 0, []), some (4, 1, 0, 0, 0, []), some (32, 2, 1, 138, 0, []), zN, some (101, 3, 22, 1, 1, [134, 2087]), zN, zN, some (14, 1, 0, 0, 0, []), some (15, 3, 1, 24, 0, []), zN, zN, some (1, 1, 0, 0, 1, []), some (100, 1, 1, 0, 0, []), some (4, 1, 0, 0, 0, []), some (32, 2, 2, 139, 0, []), zN, some (101, 3, 22, 1, 1, [134, 2087]), zN, zN, some (14, 1, 0, 0, 0, []), some (15, 3, 1, 36, 0, []), zN, zN, some (1, 1, 0, 0, 2, []), some (100, 1, 1, 0, 0, []), some (4, 1, 0, 0, 0, []), some (32, 2, 3, 140, 0, []), zN, some (101, 3, 22, 1, 1, [134, 2087]), zN, zN, some (14, 1, 0, 0, 0, []), some (15, 3, 1, 50, 0, []), zN, zN, some (1, 1, 0, 0, 3, []), some (17, 3, 0, 51, 0, []), zN, zN, some (1, 1, 0, 0, (-1), []), some (100, 1, 1, 0, 0, [])]
def zk22 : List (Option zC) := [some (2, 1, 0, 0, 0, []), some (7, 1, 1, 0, 0, []), some (1, 1, 0, 0, 0, []), some (6, 1, 3, 0, 0, []), some (3, 1, 3, 0, 0, []), some (5, 1, 0, 0, 0, []), some (101, 3, 23, 0, 1, [122, 2090]), zN, zN, some (16, 3, 3, 36, 0, []), zN, zN, some (4, 1, 1, 0, 0, []), some (2, 3, 1, 120, 32, [2070]), zN, zN, some (11, 1, 2, 0, 0, []), some (5, 1, 0, 0, 0, []), some (3, 1, 3, 0, 0, []), some (101, 3, 25, 0, 2, [128, 2100]), zN, zN, some (1, 2, 1, 0, 97, []), zN, some (10, 1, 1, 0, 0, []), some (1, 1, 0, 0, 1, []), some (10, 1, 0, 0, 0, []), some (13, 1, 1, 0, 0, []), some (11, 1, 0, 0, 0, []), some (7, 1, 1, 0, 0, []), some (9, 3, 3, 0, 1, []), zN, zN, some (17, 3, 0, 4, 0, []), zN, zN, some (4, 1, 1, 0, 0, []), some (100, 1, 2, 0, 0, [])]
def zk23 : List (Option zC) := [some (5, 1, 0, 0, 0, []), some (35, 3, 0, 9, 0, [7268]), zN, zN, some (20, 1, 0, 0, 0, []), some (5, 1, 0, 0, 0, []), some (101, 3, 24, 0, 1, [335, 2094]), zN, zN, some (10, 1, 9, 0, 0, []), some (100, 1, 1, 0, 0, [])]
def zk24 : List (Option zC) := [some (31, 3, 1, 38, 0, [2098]), zN, zN, some (15, 3, 0, 13, 0, []), zN, zN, some (5, 1, 0, 0, 0, []), some (35, 3, 1, 15, 0, [7269]), zN, zN, some (17, 3, 0, 14, 0, []), zN, zN, some (1, 1, 0, 0, 1, []), some (100, 1, 6, 0, 0, [])]
def zk25 : List (Option zC) := [some (5, 1, 0, 0, 0, []), some (101, 3, 26, 0, 1, [492, 2104]), zN, zN, some (15, 3, 0, 16, 0, []), zN, zN, some (5, 1, 0, 0, 0, []), some (35, 3, 0, 9, 0, [7268]), zN, zN, some (3, 1, 1, 0, 0, []), some (101, 3, 27, 1, 2, [495, 2108]), zN, zN, some (100, 1, 5, 0, 0, []), some (5, 1, 0, 0, 0, []), some (35, 3, 0, 9, 0, [7268]), zN, zN, some (3, 1, 1, 0, 0, []), zN, zN, zN, some (100, 1, 5, 0, 0, [])]
def zk26 : List (Option zC) := [some (31, 3, 1, 38, 0, [2098]), zN, zN, some (15, 3, 0, 17, 0, []), zN, zN, some (5, 1, 0, 0, 0, []), some (35, 3, 1, 15, 0, [7269]), zN, zN, some (15, 3, 1, 17, 0, []), zN, zN, some (1, 1, 0, 0, 1, []), some (17, 3, 0, 18, 0, []), zN, zN, some (1, 1, 0, 0, 0, []), some (100, 1, 4, 0, 0, [])]
def zk27 : List (Option zC) := [some (3, 1, 1, 0, 0, []), some (5, 1, 0, 0, 0, []), some (20, 1, 0, 0, 0, []), some (101, 3, 28, 1, 2, [9, 2111]), zN, zN, some (5, 1, 0, 0, 0, []), some (3, 1, 1, 0, 0, []), some (21, 1, 2, 0, 0, []), some (1, 3, 2, 0, 255, []), zN, zN, some (10, 1, 3, 0, 0, []), some (13, 1, 4, 0, 0, []), some (100, 1, 5, 0, 0, [])]
def zk28 : List (Option zC) := [some (3, 1, 0, 0, 0, []), some (3, 1, 1, 0, 0, []), some (31, 3, 2, 1053, 0, [2114]), zN, zN, some (101, 3, 29, 1, 3, [1059, 2116]), zN, zN, some (33, 1, 0, 0, 0, []), some (100, 1, 0, 0, 0, [])]
def zk29 : List (Option zC) := [some (3, 1, 0, 0, 0, []), some (15, 3, 2, 9, 0, []), zN, zN, some (3, 1, 0, 0, 0, []), some (3, 1, 1, 0, 0, []), some (16, 3, 2, 16, 0, []), zN, zN, some (5, 1, 2, 0, 0, []), some (3, 1, 0, 0, 0, []), some (3, 1, 1, 0, 0, []), zN, zN, zN, zN, some (3, 1, 0, 0, 0, []), some (100, 1, 1, 0, 0, [])]
def zk30 : List (Option zC) := [some (5, 1, 1, 0, 0, []), some (18, 3, 0, 1, 100, [1131]), zN, zN, some (6, 1, 2, 0, 0, []), some (3, 1, 2, 0, 0, []), some (5, 1, 0, 0, 0, []), some (18, 3, 3, 1, 15, [1053]), zN, zN, some (20, 1, 0, 0, 0, []), some (16, 3, 2, 20, 0, []), zN, zN, some (5, 1, 0, 0, 0, []), some (1, 1, 0, 0, 5, []), some (101, 3, 20, 0, 2, [66, 2079]), zN, zN, some (100, 1, 4, 0, 0, []), some (5, 1, 0, 0, 0, []), some (3, 1, 2, 0, 0, []), some (101, 3, 31, 0, 2, [103, 2145]), zN, zN, some (15, 3, 1, 30, 0, []), zN, zN, some (1, 1, 0, 0, 0, []), some (100, 1, 4, 0, 0, []), some (5, 1, 0, 0, 0, []), some (18, 3, 3, 1, 15, [1053]), zN, zN, some (3, 1, 2, 0, 0, []), some (5, 1, 0, 0, 0, []), some (18, 3, 3, 6, 32, [1058]), zN, zN, some (22, 1, 1, 0, 0, []), some (5, 1, 0, 0, 0, []), some (1, 2, 3, 77, 999999999, [2156]), zN, some (101, 3, 33, 0, 2, [78, 2157]), zN, zN, some (15, 3, 1, 51, 0, []), zN, zN, some (1, 1, 0, 0, 0, []), some (100, 1, 4, 0, 0, []), some (5, 1, 1, 0, 0, []), some (5, 1, 0, 0, 0, []), some (18, 3, 3, 7, 36, [1059]), zN, zN, some (101, 3, 34, 0, 2, [106, 2161]), zN, zN, some (5, 1, 0, 0, 0, []), some (101, 3, 35, 0, 1, [84, 2165]), zN, zN, some (100, 1, 4, 0, 0, [])]
def zk31 : List (Option zC) := [some (5, 1, 0, 0, 0, []), some (101, 3, 15, 0, 1, [59, 2058]), zN, zN, some (5, 1, 0, 0, 0, []), some (18, 3, 3, 5, 29, [1057]), zN, zN, some (1, 1, 0, 0, 1, []), some (16, 3, 1, 34, 0, []), zN, zN, some (5, 1, 0, 0, 0, []), some (18, 3, 3, 6, 32, [1058]), zN, zN, some (101, 3, 21, 1, 1, [70, 2083]), zN, zN, some (1, 1, 0, 0, (-1), []), some (16, 3, 1, 34, 0, []), zN, zN, some (5, 1, 0, 0, 0, []), some (18, 3, 3, 6, 32, [1058]), zN, zN, some (101, 3, 32, 1, 1, [94, 2149]), zN, zN, some (1, 1, 0, 0, (-1), []), some (16, 3, 0, 40, 0, []), zN, zN, some (5, 1, 0, 0, 0, []), some (1, 1, 0, 0, 2, []), some (101, 3, 20, 0, 2, [66, 2079]), zN, zN, some (100, 1, 4, 0, 0, []), some (1, 1, 0, 0, 0, []), some (6, 1, 2, 0, 0, []), some (3, 1, 2, 0, 0, []), some (3, 1, 1, 0, 0, []), some (16, 3, 3, 82, 0, []), zN, zN, some (3, 1, 2, 0, 0, []), some (5, 1, 0, 0, 0, []), some (18, 3, 3, 1, 15, [1053]), zN, zN, some (20, 1, 0, 0, 0, []), some (16, 3, 3, 82, 0, []), zN, zN, some (5, 1, 0, 0, 0, []), some (18, 3, 3, 1, 15, [1053]), zN, zN, some (3, 1, 2, 0, 0, []), some (21, 1, 1, 0, 0, []), some (5, 1, 0, 0, 0, []), some (18, 3, 3, 6, 32, [1058]), zN, zN, some (14, 1, 0, 0, 0, []), some (15, 3, 1, 76, 0, []), zN, zN, some (5, 1, 0, 0, 0, []), some (1, 1, 0, 0, 4, []), some (101, 3, 20, 0, 2, [66, 2079]), zN, zN, some (100, 1, 4, 0, 0, []), some (9, 3, 2, 0, 1, []), zN, zN, some (17, 3, 0, 42, 0, []), zN, zN, some (1, 1, 0, 0, 1, []), some (100, 1, 4, 0, 0, [])]
def zk32 : List (Option zC) := [some (4, 1, 0, 0, 0, []), some (32, 2, 4, 141, 0, []), zN, some (101, 3, 22, 1, 1, [134, 2087]), zN, zN, some (14, 1, 0, 0, 0, []), some (15, 3, 1, 12, 0, []), zN, zN, some (1, 1, 0, 0, 0, []), some (100, 1, 1, 0, 0, []), some (4, 1, 0, 0, 0, []), some (32, 2, 5, 143, 0, []), zN, some (101, 3, 22, 1, 1, [134, 2087]), zN, zN, some (14, 1, 0, 0, 0, []), some (15, 3, 1, 24, 0, []), zN, zN, some (1, 1, 0, 0, 1, []), some (100, 1, 1, 0, 0, []), some (4, 1, 0, 0, 0, []), some (32, 2, 6, 145, 0, []), zN, some (101, 3, 22, 1, 1, [134, 2087]), zN, zN, some (14, 1, 0, 0, 0, []), some (15, 3, 1, 36, 0, []), zN, zN, some (1, 1, 0, 0, 2, []), some (100, 1, 1, 0, 0, []), some (4, 1, 0, 0, 0, []), some (32, 2, 7, 147, 0, []), zN, some (101, 3, 22, 1, 1, [134, 2087]), zN, zN, some (14, 1, 0, 0, 0, []), some (15, 3, 1, 50, 0, []), zN, zN, some (1, 1, 0, 0, 3, []), some (17, 3, 0, 51, 0, []), zN, zN, some (1, 1, 0, 0, (-1), []), some (100, 1, 1, 0, 0, [])]
def zk33 : List (Option zC) := [some (5, 1, 0, 0, 0, []), some (101, 3, 15, 0, 1, [59, 2058]), zN, zN, some (5, 1, 0, 0, 0, []), some (18, 3, 3, 5, 29, [1057]), zN, zN, some (1, 1, 0, 0, 2, []), some (16, 3, 0, 18, 0, []), zN, zN, some (5, 1, 0, 0, 0, []), some (1, 1, 0, 0, 2, []), some (101, 3, 20, 0, 2, [66, 2079]), zN, zN, some (100, 1, 4, 0, 0, []), some (5, 1, 0, 0, 0, []), some (18, 3, 3, 7, 36, [1059]), zN, zN, some (1, 1, 0, 0, 1, []), some (16, 3, 2, 34, 0, []), zN, zN, some (5, 1, 0, 0, 0, []), some (18, 3, 3, 7, 36, [1059]), zN, zN, some (3, 1, 1, 0, 0, []), some (16, 3, 5, 42, 0, []), zN, zN, some (5, 1, 0, 0, 0, []), some (1, 1, 0, 0, 3, []), some (101, 3, 20, 0, 2, [66, 2079]), zN, zN, some (15, 3, 0, 46, 0, []), zN, zN, some (1, 1, 0, 0, 1, []), some (17, 3, 0, 47, 0, []), zN, zN, some (1, 1, 0, 0, 0, []), some (100, 1, 4, 0, 0, [])]
def zk34 : List (Option zC) := [some (5, 1, 0, 0, 0, []), some (18, 3, 0, 1, 15, [1129]), zN, zN, some (5, 1, 0, 0, 0, []), some (18, 3, 0, 0, 9, [1127]), zN, zN, some (20, 1, 0, 0, 0, []), some (16, 3, 3, 32, 0, []), zN, zN, some (5, 1, 0, 0, 0, []), some (18, 3, 0, 0, 9, [1127]), zN, zN, some (5, 1, 0, 0, 0, []), some (18, 3, 0, 1, 15, [1129]), zN, zN, some (3, 1, 1, 0, 0, []), some (22, 1, 0, 0, 0, []), some (5, 1, 0, 0, 0, []), some (23, 1, 0, 0, 0, []), some (18, 3, 0, 1, 15, [1129]), zN, zN, some (1, 1, 0, 0, 1, []), some (10, 1, 0, 0, 0, []), some (19, 3, 0, 1, 15, [1129]), zN, zN, some (100, 1, 0, 0, 0, [])]
def zk35 : List (Option zC) := [some (5, 1, 0, 0, 0, []), some (101, 3, 15, 0, 1, [59, 2058]), zN, zN, some (5, 1, 0, 0, 0, []), some (18, 3, 3, 5, 29, [1057]), zN, zN, some (1, 1, 0, 0, 3, []), some (16, 3, 0, 20, 0, []), zN, zN, some (5, 1, 0, 0, 0, []), some (1, 1, 0, 0, 2, []), some (101, 3, 20, 0, 2, [66, 2079]), zN, zN, some (15, 3, 0, 24, 0, []), zN, zN, some (1, 1, 0, 0, 1, []), some (17, 3, 0, 25, 0, []), zN, zN, some (1, 1, 0, 0, 0, []), some (100, 1, 4, 0, 0, [])]
def zk36 : List (Option zC) := [some (5, 1, 0, 0, 0, []), some (101, 3, 15, 0, 1, [59, 2058]), zN, zN, some (5, 1, 0, 0, 0, []), some (18, 3, 3, 5, 29, [1057]), zN, zN, some (1, 1, 0, 0, 1, []), some (16, 3, 1, 23, 0, []), zN, zN, some (5, 1, 0, 0, 0, []), some (18, 3, 3, 6, 32, [1058]), zN, zN, some (101, 3, 32, 1, 1, [94, 2149]), zN, zN, some (1, 1, 0, 0, (-1), []), some (16, 3, 1, 31, 0, []), zN, zN, some (5, 1, 0, 0, 0, []), some (1, 1, 0, 0, 2, []), some (101, 3, 20, 0, 2, [66, 2079]), zN, zN, some (15, 3, 0, 35, 0, []), zN, zN, some (1, 1, 0, 0, 1, []), some (17, 3, 0, 36, 0, []), zN, zN, some (1, 1, 0, 0, 0, []), some (100, 1, 4, 0, 0, [])]
def zk37 : List (Option zC) := [some (1, 1, 0, 0, 0, []), some (6, 1, 2, 0, 0, []), some (3, 1, 2, 0, 0, []), some (5, 1, 0, 0, 0, []), some (18, 3, 0, 0, 9, [1127]), zN, zN, some (20, 1, 0, 0, 0, []), some (16, 3, 3, 29, 0, []), zN, zN, some (5, 1, 0, 0, 0, []), some (18, 3, 0, 0, 9, [1127]), zN, zN, some (3, 1, 2, 0, 0, []), some (5, 1, 1, 0, 0, []), some (18, 3, 0, 0, 9, [1127]), zN, zN, some (3, 1, 2, 0, 0, []), some (21, 1, 0, 0, 0, []), some (22, 1, 0, 0, 0, []), some (9, 3, 2, 0, 1, []), zN, zN, some (17, 3, 0, 2, 0, []), zN, zN, some (5, 1, 0, 0, 0, []), some (5, 1, 1, 0, 0, []), some (18, 3, 0, 1, 15, [1129]), zN, zN, some (19, 3, 0, 1, 15, [1129]), zN, zN, some (5, 1, 0, 0, 0, []), some (5, 1, 1, 0, 0, []), some (18, 3, 0, 2, 19, [1132]), zN, zN, some (19, 3, 0, 2, 19, [1132]), zN, zN, some (5, 1, 0, 0, 0, []), some (5, 1, 1, 0, 0, []), some (18, 3, 0, 3, 22, [1136]), zN, zN, some (19, 3, 0, 3, 22, [1136]), zN, zN, some (5, 1, 0, 0, 0, []), some (5, 1, 1, 0, 0, []), some (18, 3, 0, 4, 25, [1140]), zN, zN, some (19, 3, 0, 4, 25, [1140]), zN, zN, some (100, 1, 0, 0, 0, [])]
def zk38 : List (Option zC) := [some (1, 1, 0, 0, 0, []), some (6, 1, 1, 0, 0, []), some (3, 1, 1, 0, 0, []), some (5, 1, 0, 0, 0, []), some (18, 3, 5, 5, 39, [1205]), zN, zN, some (20, 1, 0, 0, 0, []), some (16, 3, 3, 27, 0, []), zN, zN, some (5, 1, 0, 0, 0, []), some (18, 3, 5, 5, 39, [1205]), zN, zN, some (3, 1, 1, 0, 0, []), some (21, 1, 4, 0, 0, []), some (1, 1, 0, 0, 0, []), some (19, 3, 4, 4, 342, [1173]), zN, zN, some (9, 3, 1, 0, 1, []), zN, zN, some (17, 3, 0, 2, 0, []), zN, zN, some (100, 1, 0, 0, 0, [])]
def zk39 : List (Option zC) := [some (5, 1, 0, 0, 0, []), some (1, 1, 0, 0, 0, []), some (19, 3, 5, 14, 76, [1214]), zN, zN, some (3, 1, 1, 0, 0, []), some (100, 1, 1, 0, 0, [])]
def zk40 : List (Option zC) := [some (3, 1, 1, 0, 0, []), some (15, 3, 1, 9, 0, []), zN, zN, some (5, 1, 0, 0, 0, []), some (18, 3, 5, 12, 70, [1212]), zN, zN, some (100, 1, 1, 0, 0, []), some (3, 1, 1, 0, 0, []), some (1, 1, 0, 0, 1, []), some (16, 3, 1, 21, 0, []), zN, zN, some (5, 1, 0, 0, 0, []), some (18, 3, 5, 13, 73, [1213]), zN, zN, some (17, 3, 0, 22, 0, []), zN, zN, some (1, 1, 0, 0, (-1), []), some (100, 1, 1, 0, 0, [])]
def zk41 : List (Option zC) := [some (3, 1, 1, 0, 0, []), some (30, 35, 0, 93, 0, [36, 48, 60, 72, 84]), zN, zN, zN, zN, zN, zN, zN, zN, zN, zN, zN, zN, zN, zN, zN, zN, zN, zN, zN, zN, zN, zN, zN, zN, zN, zN, zN, zN, zN, zN, zN, zN, zN, zN, some (5, 1, 0, 0, 0, []), some (5, 1, 0, 0, 0, []), some (18, 3, 5, 2, 26, [1202]), zN, zN, some (18, 3, 0, 1, 105, [1130]), zN, zN, some (101, 3, 39, 0, 2, [108, 2181]), zN, zN, some (100, 1, 1, 0, 0, []), some (5, 1, 0, 0, 0, []), some (5, 1, 0, 0, 0, []), some (18, 3, 5, 2, 26, [1202]), zN, zN, some (18, 3, 0, 2, 111, [1135]), zN, zN, some (101, 3, 39, 0, 2, [108, 2181]), zN, zN, some (100, 1, 1, 0, 0, []), some (5, 1, 0, 0, 0, []), some (5, 1, 0, 0, 0, []), some (18, 3, 5, 2, 26, [1202]), zN, zN, some (18, 3, 0, 3, 114, [1139]), zN, zN, some (101, 3, 39, 0, 2, [108, 2181]), zN, zN, some (100, 1, 1, 0, 0, []), some (5, 1, 0, 0, 0, []), some (5, 1, 0, 0, 0, []), some (18, 3, 5, 2, 26, [1202]), zN, zN, some (18, 3, 0, 4, 117, [1142]), zN, zN, some (101, 3, 39, 0, 2, [108, 2181]), zN, zN, some (100, 1, 1, 0, 0, []), some (5, 1, 0, 0, 0, []), some (5, 1, 0, 0, 0, []), some (18, 3, 5, 11, 66, [1211]), zN, zN, some (101, 3, 39, 0, 2, [108, 2181]), zN, zN, some (100, 1, 1, 0, 0, []), some (5, 1, 0, 0, 0, []), some (1, 1, 0, 0, 1, []), some (101, 3, 13, 0, 2, [86, 1262]), zN, zN, some (100, 1, 1, 0, 0, [])]
def zk42 : List (Option zC) := [some (3, 1, 1, 0, 0, []), some (101, 3, 43, 1, 1, [120, 2198]), zN, zN, some (15, 3, 0, 20, 0, []), zN, zN, some (3, 1, 2, 0, 0, []), some (1, 1, 0, 0, (-1), []), some (16, 3, 2, 20, 0, []), zN, zN, some (3, 1, 3, 0, 0, []), some (1, 1, 0, 0, 1, []), some (101, 3, 44, 1, 2, [124, 2202]), zN, zN, some (15, 3, 1, 26, 0, []), zN, zN, some (5, 1, 0, 0, 0, []), some (1, 1, 0, 0, 1, []), some (101, 3, 13, 0, 2, [86, 1262]), zN, zN, some (100, 1, 1, 0, 0, []), some (5, 1, 0, 0, 0, []), some (18, 3, 5, 1, 19, [1201]), zN, zN, some (3, 1, 1, 0, 0, []), some (101, 3, 45, 0, 2, [128, 2205]), zN, zN, some (3, 1, 2, 0, 0, []), some (1, 1, 0, 0, (-1), []), some (16, 3, 1, 51, 0, []), zN, zN, some (5, 1, 0, 0, 0, []), some (5, 1, 0, 0, 0, []), some (18, 3, 5, 1, 19, [1201]), zN, zN, some (18, 3, 2, 3, 131, [1106]), zN, zN, some (101, 3, 39, 0, 2, [108, 2181]), zN, zN, some (100, 1, 1, 0, 0, []), some (3, 1, 2, 0, 0, []), some (5, 1, 0, 0, 0, []), some (18, 3, 5, 1, 19, [1201]), zN, zN, some (18, 3, 2, 3, 131, [1106]), zN, zN, some (16, 3, 2, 68, 0, []), zN, zN, some (5, 1, 0, 0, 0, []), some (1, 1, 0, 0, 5, []), some (101, 3, 13, 0, 2, [86, 1262]), zN, zN, some (100, 1, 1, 0, 0, []), some (5, 1, 0, 0, 0, []), some (3, 1, 3, 0, 0, []), some (15, 3, 1, 85, 0, []), zN, zN, some (5, 1, 0, 0, 0, []), some (18, 3, 5, 1, 19, [1201]), zN, zN, some (18, 3, 2, 0, 132, [1099]), zN, zN, some (3, 1, 2, 0, 0, []), some (21, 1, 0, 0, 0, []), some (17, 3, 0, 94, 0, []), zN, zN, some (5, 1, 0, 0, 0, []), some (18, 3, 5, 1, 19, [1201]), zN, zN, some (18, 3, 2, 1, 135, [1102]), zN, zN, some (3, 1, 2, 0, 0, []), some (21, 1, 0, 0, 0, []), some (101, 3, 39, 0, 2, [108, 2181]), zN, zN, some (100, 1, 1, 0, 0, [])]
def zk43 : List (Option zC) := [some (3, 1, 0, 0, 0, []), some (1, 1, 0, 0, 1, []), some (16, 3, 2, 16, 0, []), zN, zN, some (3, 1, 0, 0, 0, []), some (1, 3, 4, 338, 999999999, [2201]), zN, zN, some (16, 3, 4, 16, 0, []), zN, zN, some (1, 1, 0, 0, 1, []), some (17, 3, 0, 17, 0, []), zN, zN, some (1, 1, 0, 0, 0, []), some (100, 1, 4, 0, 0, [])]
def zk44 : List (Option zC) := [some (3, 1, 0, 0, 0, []), some (15, 3, 2, 13, 0, []), zN, zN, some (3, 1, 0, 0, 0, []), some (3, 1, 1, 0, 0, []), some (16, 3, 4, 13, 0, []), zN, zN, some (1, 1, 0, 0, 1, []), some (17, 3, 0, 14, 0, []), zN, zN, some (1, 1, 0, 0, 0, []), some (100, 1, 4, 0, 0, [])]
def zk45 : List (Option zC) := [some (5, 1, 0, 0, 0, []), some (1, 1, 0, 0, 0, []), some (19, 3, 2, 3, 21, [1104]), zN, zN, some (3, 1, 1, 0, 0, []), some (6, 1, 2, 0, 0, []), some (1, 1, 0, 0, 0, []), some (6, 1, 3, 0, 0, []), some (3, 1, 3, 0, 0, []), some (31, 3, 0, 25, 0, [2209]), zN, zN, some (20, 1, 0, 0, 0, []), some (16, 3, 3, 49, 0, []), zN, zN, some (31, 3, 0, 25, 0, [2209]), zN, zN, some (3, 1, 3, 0, 0, []), some (21, 1, 0, 0, 0, []), some (31, 3, 0, 25, 0, [2209]), zN, zN, some (3, 1, 3, 0, 0, []), some (21, 1, 0, 0, 0, []), some (10, 1, 2, 0, 0, []), some (3, 1, 2, 0, 0, []), some (16, 3, 4, 49, 0, []), zN, zN, some (5, 1, 0, 0, 0, []), some (3, 1, 2, 0, 0, []), some (31, 3, 0, 25, 0, [2209]), zN, zN, some (3, 1, 3, 0, 0, []), some (21, 1, 0, 0, 0, []), some (101, 3, 46, 0, 3, [28, 2211]), zN, zN, some (6, 1, 2, 0, 0, []), some (9, 3, 3, 0, 1, []), zN, zN, some (17, 3, 0, 9, 0, []), zN, zN, some (3, 1, 2, 0, 0, []), some (1, 2, 3, 32, 1018081, [2219]), zN, some (16, 3, 2, 91, 0, []), zN, zN, some (3, 1, 2, 0, 0, []), some (1, 1, 0, 0, 2, []), some (101, 3, 48, 1, 2, [33, 2220]), zN, zN, some (15, 3, 0, 81, 0, []), zN, zN, some (3, 1, 2, 0, 0, []), some (1, 2, 1, 0, 7, []), zN, some (101, 3, 48, 1, 2, [33, 2220]), zN, zN, some (15, 3, 0, 81, 0, []), zN, zN, some (3, 1, 2, 0, 0, []), some (1, 2, 1, 0, 61, []), zN, some (101, 3, 48, 1, 2, [33, 2220]), zN, zN, some (15, 3, 1, 91, 0, []), zN, zN, some (5, 1, 0, 0, 0, []), some (3, 1, 2, 0, 0, []), some (3, 1, 2, 0, 0, []), some (101, 3, 50, 1, 1, [37, 2226]), zN, zN, some (101, 3, 46, 0, 3, [28, 2211]), zN, zN, some (6, 1, 2, 0, 0, []), some (3, 1, 2, 0, 0, []), some (1, 1, 0, 0, 1, []), some (16, 3, 5, 102, 0, []), zN, zN, some (5, 1, 0, 0, 0, []), some (3, 1, 2, 0, 0, []), some (1, 1, 0, 0, 1, []), some (101, 3, 47, 0, 3, [41, 2215]), zN, zN, some (100, 1, 0, 0, 0, [])]
def zk46 : List (Option zC) := [some (3, 1, 1, 0, 0, []), some (6, 1, 3, 0, 0, []), some (1, 1, 0, 0, 0, []), some (6, 2, 4, 0, 0, []), zN, some (1, 1, 0, 0, 0, []), some (6, 2, 5, 0, 0, []), zN, some (3, 2, 5, 0, 0, []), zN, some (1, 2, 1, 0, 32, []), zN, some (16, 3, 3, 39, 0, []), zN, zN, some (3, 1, 2, 0, 0, []), some (1, 1, 0, 0, 1, []), some (16, 3, 5, 39, 0, []), zN, zN, some (3, 1, 3, 0, 0, []), some (3, 1, 2, 0, 0, []), some (10, 1, 7, 0, 0, []), some (15, 3, 1, 39, 0, []), zN, zN, some (3, 1, 3, 0, 0, []), some (3, 1, 2, 0, 0, []), some (10, 1, 6, 0, 0, []), some (6, 1, 3, 0, 0, []), some (9, 3, 4, 0, 1, []), zN, zN, some (9, 3, 5, 0, 1, []), zN, zN, some (17, 3, 0, 8, 0, []), zN, zN, some (3, 2, 4, 0, 0, []), zN, some (15, 3, 5, 51, 0, []), zN, zN, some (5, 1, 0, 0, 0, []), some (3, 1, 2, 0, 0, []), some (3, 2, 4, 0, 0, []), zN, some (101, 3, 47, 0, 3, [41, 2215]), zN, zN, some (3, 1, 3, 0, 0, []), some (100, 1, 1, 0, 0, [])]
def zk47 : List (Option zC) := [some (5, 1, 0, 0, 0, []), some (18, 3, 2, 3, 21, [1104]), zN, zN, some (1, 2, 1, 0, 9, []), zN, some (16, 3, 3, 39, 0, []), zN, zN, some (5, 1, 0, 0, 0, []), some (18, 3, 2, 0, 11, [1097]), zN, zN, some (5, 1, 0, 0, 0, []), some (18, 3, 2, 3, 21, [1104]), zN, zN, some (3, 1, 1, 0, 0, []), some (22, 1, 0, 0, 0, []), some (5, 1, 0, 0, 0, []), some (18, 3, 2, 1, 15, [1100]), zN, zN, some (5, 1, 0, 0, 0, []), some (18, 3, 2, 3, 21, [1104]), zN, zN, some (3, 1, 2, 0, 0, []), some (22, 1, 0, 0, 0, []), some (5, 1, 0, 0, 0, []), some (23, 1, 0, 0, 0, []), some (18, 3, 2, 3, 21, [1104]), zN, zN, some (1, 1, 0, 0, 1, []), some (10, 1, 0, 0, 0, []), some (19, 3, 2, 3, 21, [1104]), zN, zN, some (100, 1, 0, 0, 0, [])]
def zk48 : List (Option zC) := [some (3, 1, 0, 0, 0, []), some (1, 1, 0, 0, 1, []), some (10, 1, 1, 0, 0, []), some (6, 1, 2, 0, 0, []), some (1, 1, 0, 0, 0, []), some (6, 1, 3, 0, 0, []), some (3, 1, 2, 0, 0, []), some (1, 1, 0, 0, 1, []), some (16, 3, 5, 27, 0, []), zN, zN, some (3, 1, 2, 0, 0, []), some (1, 1, 0, 0, 2, []), some (10, 1, 7, 0, 0, []), some (15, 3, 1, 27, 0, []), zN, zN, some (9, 3, 3, 0, 1, []), zN, zN, some (3, 1, 2, 0, 0, []), some (1, 1, 0, 0, 2, []), some (10, 1, 6, 0, 0, []), some (6, 1, 2, 0, 0, []), some (17, 3, 0, 6, 0, []), zN, zN, some (3, 1, 1, 0, 0, []), some (3, 1, 2, 0, 0, []), some (3, 1, 0, 0, 0, []), some (101, 3, 49, 1, 3, [45, 2223]), zN, zN, some (7, 2, 4, 0, 0, []), zN, some (4, 2, 4, 0, 0, []), zN, some (2, 1, 0, 0, 1, []), some (14, 1, 0, 0, 0, []), some (15, 3, 0, 52, 0, []), zN, zN, some (4, 2, 4, 0, 0, []), zN, some (3, 1, 0, 0, 0, []), some (1, 1, 0, 0, 1, []), some (10, 1, 1, 0, 0, []), some (13, 1, 1, 0, 0, []), some (14, 1, 0, 0, 0, []), some (15, 3, 1, 54, 0, []), zN, zN, some (1, 1, 0, 0, 1, []), some (100, 1, 4, 0, 0, []), some (1, 1, 0, 0, 1, []), some (6, 2, 6, 0, 0, []), zN, some (3, 2, 6, 0, 0, []), zN, some (3, 1, 3, 0, 0, []), some (16, 3, 3, 95, 0, []), zN, zN, some (3, 1, 0, 0, 0, []), some (15, 3, 5, 95, 0, []), zN, zN, some (4, 2, 4, 0, 0, []), zN, some (4, 2, 4, 0, 0, []), zN, some (11, 1, 2, 0, 0, []), some (3, 1, 0, 0, 0, []), some (13, 1, 1, 0, 0, []), some (11, 1, 7, 0, 0, []), some (7, 2, 4, 0, 0, []), zN, some (4, 2, 4, 0, 0, []), zN, some (3, 1, 0, 0, 0, []), some (1, 1, 0, 0, 1, []), some (10, 1, 1, 0, 0, []), some (13, 1, 1, 0, 0, []), some (14, 1, 0, 0, 0, []), some (15, 3, 1, 89, 0, []), zN, zN, some (1, 1, 0, 0, 1, []), some (100, 1, 4, 0, 0, []), some (9, 3, 6, 0, 1, []), zN, zN, some (17, 3, 0, 57, 0, []), zN, zN, some (1, 1, 0, 0, 0, []), some (100, 1, 4, 0, 0, [])]
def zk49 : List (Option zC) := [some (2, 1, 0, 0, 1, []), some (7, 1, 3, 0, 0, []), some (3, 1, 0, 0, 0, []), some (13, 1, 1, 0, 0, []), some (7, 2, 5, 0, 0, []), zN, some (3, 1, 1, 0, 0, []), some (6, 2, 7, 0, 0, []), zN, some (3, 2, 7, 0, 0, []), zN, some (15, 3, 5, 52, 0, []), zN, zN, some (3, 1, 2, 0, 0, []), some (15, 3, 5, 52, 0, []), zN, zN, some (3, 2, 7, 0, 0, []), zN, some (1, 1, 0, 0, 2, []), some (10, 1, 7, 0, 0, []), some (15, 3, 0, 33, 0, []), zN, zN, some (4, 1, 3, 0, 0, []), some (4, 2, 5, 0, 0, []), zN, some (11, 1, 2, 0, 0, []), some (3, 1, 2, 0, 0, []), some (13, 1, 1, 0, 0, []), some (11, 1, 7, 0, 0, []), some (7, 1, 3, 0, 0, []), some (4, 2, 5, 0, 0, []), zN, some (4, 2, 5, 0, 0, []), zN, some (11, 1, 2, 0, 0, []), some (3, 1, 2, 0, 0, []), some (13, 1, 1, 0, 0, []), some (11, 1, 7, 0, 0, []), some (7, 2, 5, 0, 0, []), zN, some (3, 2, 7, 0, 0, []), zN, some (1, 1, 0, 0, 2, []), some (10, 1, 6, 0, 0, []), some (6, 2, 7, 0, 0, []), zN, some (17, 3, 0, 9, 0, []), zN, zN, some (4, 1, 3, 0, 0, []), some (100, 1, 2, 0, 0, [])]
def zk50 : List (Option zC) := [some (1, 3, 2, 0, 1009, []), zN, zN, some (6, 1, 1, 0, 0, []), some (3, 1, 1, 0, 0, []), some (3, 1, 0, 0, 0, []), some (3, 1, 1, 0, 0, []), some (10, 1, 6, 0, 0, []), some (16, 3, 4, 37, 0, []), zN, zN, some (3, 1, 0, 0, 0, []), some (3, 1, 1, 0, 0, []), some (10, 1, 7, 0, 0, []), some (15, 3, 1, 19, 0, []), zN, zN, some (3, 1, 1, 0, 0, []), some (100, 1, 1, 0, 0, []), some (3, 1, 0, 0, 0, []), some (3, 1, 1, 0, 0, []), some (1, 1, 0, 0, 4, []), some (10, 1, 0, 0, 0, []), some (10, 1, 7, 0, 0, []), some (15, 3, 1, 31, 0, []), zN, zN, some (3, 1, 1, 0, 0, []), some (1, 1, 0, 0, 4, []), some (10, 1, 0, 0, 0, []), some (100, 1, 1, 0, 0, []), some (9, 3, 1, 0, 6, []), zN, zN, some (17, 3, 0, 4, 0, []), zN, zN, some (3, 1, 0, 0, 0, []), some (100, 1, 1, 0, 0, [])]
def zk51 : List (Option zC) := [some (3, 1, 1, 0, 0, []), some (101, 3, 43, 1, 1, [120, 2198]), zN, zN, some (15, 3, 1, 14, 0, []), zN, zN, some (5, 1, 0, 0, 0, []), some (1, 1, 0, 0, 1, []), some (101, 3, 13, 0, 2, [86, 1262]), zN, zN, some (13, 1, 1, 0, 0, []), some (100, 1, 2, 0, 0, []), some (5, 1, 0, 0, 0, []), some (5, 1, 0, 0, 0, []), some (3, 1, 1, 0, 0, []), some (101, 3, 52, 0, 2, [138, 2233]), zN, zN, some (101, 3, 60, 0, 2, [142, 2265]), zN, zN, some (100, 1, 2, 0, 0, [])]
def zk52 : List (Option zC) := [some (5, 1, 0, 0, 0, []), some (18, 3, 5, 1, 19, [1201]), zN, zN, some (5, 1, 0, 0, 0, []), some (18, 3, 5, 2, 26, [1202]), zN, zN, some (18, 3, 0, 4, 117, [1142]), zN, zN, some (3, 1, 1, 0, 0, []), some (101, 3, 53, 0, 3, [346, 2237]), zN, zN, some (100, 1, 2, 0, 0, [])]
def zk53 : List (Option zC) := [some (3, 1, 2, 0, 0, []), some (1, 1, 0, 0, 1, []), some (16, 3, 4, 7, 0, []), zN, zN, some (2, 1, 0, 0, 0, []), some (100, 1, 2, 0, 0, []), some (5, 1, 0, 0, 0, []), some (3, 1, 2, 0, 0, []), some (101, 3, 45, 0, 2, [49, 2241]), zN, zN, some (3, 1, 1, 0, 0, []), some (1, 1, 0, 0, 1, []), some (16, 3, 1, 25, 0, []), zN, zN, some (5, 1, 0, 0, 0, []), some (101, 3, 54, 0, 1, [73, 2242]), zN, zN, some (3, 1, 2, 0, 0, []), some (13, 1, 1, 0, 0, []), some (11, 1, 1, 0, 0, []), some (100, 1, 2, 0, 0, []), some (3, 1, 1, 0, 0, []), some (1, 1, 0, 0, 3, []), some (16, 3, 1, 49, 0, []), zN, zN, some (5, 1, 0, 0, 0, []), some (101, 3, 56, 0, 1, [76, 2249]), zN, zN, some (5, 1, 0, 0, 0, []), some (101, 3, 57, 0, 1, [79, 2253]), zN, zN, some (15, 3, 0, 45, 0, []), zN, zN, some (3, 1, 2, 0, 0, []), some (17, 3, 0, 46, 0, []), zN, zN, some (1, 1, 0, 0, 0, []), some (13, 1, 1, 0, 0, []), some (11, 1, 1, 0, 0, []), some (100, 1, 2, 0, 0, []), some (5, 1, 0, 0, 0, []), some (101, 3, 58, 0, 1, [53, 2257]), zN, zN, some (3, 1, 2, 0, 0, []), some (13, 1, 1, 0, 0, []), some (11, 1, 1, 0, 0, []), some (3, 1, 1, 0, 0, []), some (1, 1, 0, 0, 2, []), some (16, 3, 1, 65, 0, []), zN, zN, some (1, 1, 0, 0, 1, []), some (17, 3, 0, 66, 0, []), zN, zN, some (1, 1, 0, 0, 0, []), some (13, 1, 1, 0, 0, []), some (11, 1, 1, 0, 0, []), some (100, 1, 2, 0, 0, [])]
def zk54 : List (Option zC) := [some (2, 1, 0, 0, 1, []), some (7, 1, 1, 0, 0, []), some (1, 1, 0, 0, 0, []), some (6, 1, 3, 0, 0, []), some (3, 1, 3, 0, 0, []), some (5, 1, 0, 0, 0, []), some (18, 3, 2, 3, 21, [1104]), zN, zN, some (16, 3, 3, 38, 0, []), zN, zN, some (4, 1, 1, 0, 0, []), some (5, 1, 0, 0, 0, []), some (18, 3, 2, 0, 11, [1097]), zN, zN, some (3, 1, 3, 0, 0, []), some (21, 1, 0, 0, 0, []), some (5, 1, 0, 0, 0, []), some (18, 3, 2, 1, 15, [1100]), zN, zN, some (3, 1, 3, 0, 0, []), some (21, 1, 0, 0, 0, []), some (101, 3, 55, 1, 2, [63, 2246]), zN, zN, some (2, 1, 0, 0, 1, []), some (11, 1, 0, 0, 0, []), some (11, 1, 2, 0, 0, []), some (7, 1, 1, 0, 0, []), some (9, 3, 3, 0, 1, []), zN, zN, some (17, 3, 0, 4, 0, []), zN, zN, some (4, 1, 1, 0, 0, []), some (100, 1, 2, 0, 0, [])]
def zk55 : List (Option zC) := [some (2, 1, 0, 0, 1, []), some (7, 1, 2, 0, 0, []), some (1, 1, 0, 0, 0, []), some (6, 2, 4, 0, 0, []), zN, some (3, 2, 4, 0, 0, []), zN, some (3, 1, 1, 0, 0, []), some (16, 3, 3, 22, 0, []), zN, zN, some (4, 1, 2, 0, 0, []), some (3, 1, 0, 0, 0, []), some (13, 1, 1, 0, 0, []), some (11, 1, 2, 0, 0, []), some (7, 1, 2, 0, 0, []), some (9, 3, 4, 0, 1, []), zN, zN, some (17, 3, 0, 5, 0, []), zN, zN, some (4, 1, 2, 0, 0, []), some (100, 1, 2, 0, 0, [])]
def zk56 : List (Option zC) := [some (2, 1, 0, 0, 1, []), some (7, 1, 1, 0, 0, []), some (1, 1, 0, 0, 0, []), some (6, 1, 3, 0, 0, []), some (3, 1, 3, 0, 0, []), some (5, 1, 0, 0, 0, []), some (18, 3, 2, 3, 21, [1104]), zN, zN, some (16, 3, 3, 30, 0, []), zN, zN, some (4, 1, 1, 0, 0, []), some (5, 1, 0, 0, 0, []), some (18, 3, 2, 0, 11, [1097]), zN, zN, some (3, 1, 3, 0, 0, []), some (21, 1, 0, 0, 0, []), some (1, 1, 0, 0, 1, []), some (10, 1, 0, 0, 0, []), some (13, 1, 1, 0, 0, []), some (11, 1, 2, 0, 0, []), some (7, 1, 1, 0, 0, []), some (9, 3, 3, 0, 1, []), zN, zN, some (17, 3, 0, 4, 0, []), zN, zN, some (4, 1, 1, 0, 0, []), some (100, 1, 2, 0, 0, [])]
def zk57 : List (Option zC) := [some (1, 1, 0, 0, 0, []), some (6, 1, 1, 0, 0, []), some (3, 1, 1, 0, 0, []), some (5, 1, 0, 0, 0, []), some (18, 3, 2, 3, 21, [1104]), zN, zN, some (16, 3, 3, 28, 0, []), zN, zN, some (5, 1, 0, 0, 0, []), some (18, 3, 2, 1, 15, [1100]), zN, zN, some (3, 1, 1, 0, 0, []), some (21, 1, 0, 0, 0, []), some (1, 1, 0, 0, 1, []), some (16, 3, 5, 22, 0, []), zN, zN, some (1, 1, 0, 0, 0, []), some (100, 1, 4, 0, 0, []), some (9, 3, 1, 0, 1, []), zN, zN, some (17, 3, 0, 2, 0, []), zN, zN, some (1, 1, 0, 0, 1, []), some (100, 1, 4, 0, 0, [])]
def zk58 : List (Option zC) := [some (2, 1, 0, 0, 1, []), some (7, 1, 1, 0, 0, []), some (1, 1, 0, 0, 0, []), some (6, 1, 3, 0, 0, []), some (3, 1, 3, 0, 0, []), some (5, 1, 0, 0, 0, []), some (18, 3, 2, 3, 21, [1104]), zN, zN, some (16, 3, 3, 26, 0, []), zN, zN, some (4, 1, 1, 0, 0, []), some (5, 1, 0, 0, 0, []), some (3, 1, 3, 0, 0, []), some (101, 3, 59, 0, 2, [57, 2261]), zN, zN, some (11, 1, 2, 0, 0, []), some (7, 1, 1, 0, 0, []), some (9, 3, 3, 0, 1, []), zN, zN, some (17, 3, 0, 4, 0, []), zN, zN, some (4, 1, 1, 0, 0, []), some (100, 1, 2, 0, 0, [])]
def zk59 : List (Option zC) := [some (2, 1, 0, 0, 1, []), some (7, 1, 2, 0, 0, []), some (1, 1, 0, 0, 0, []), some (6, 2, 4, 0, 0, []), zN, some (3, 2, 4, 0, 0, []), zN, some (5, 1, 0, 0, 0, []), some (18, 3, 2, 1, 15, [1100]), zN, zN, some (3, 1, 1, 0, 0, []), some (21, 1, 0, 0, 0, []), some (16, 3, 3, 34, 0, []), zN, zN, some (4, 1, 2, 0, 0, []), some (5, 1, 0, 0, 0, []), some (18, 3, 2, 0, 11, [1097]), zN, zN, some (3, 1, 1, 0, 0, []), some (21, 1, 0, 0, 0, []), some (13, 1, 1, 0, 0, []), some (11, 1, 2, 0, 0, []), some (2, 1, 0, 0, 1, []), some (11, 1, 0, 0, 0, []), some (7, 1, 2, 0, 0, []), some (9, 3, 4, 0, 1, []), zN, zN, some (17, 3, 0, 5, 0, []), zN, zN, some (4, 1, 2, 0, 0, []), some (100, 1, 2, 0, 0, [])]
def zk60 : List (Option zC) := [some (5, 1, 0, 0, 0, []), some (1, 1, 0, 0, 0, []), some (19, 3, 5, 14, 76, [1214]), zN, zN, some (4, 1, 1, 0, 0, []), some (100, 1, 2, 0, 0, [])]
def zk61 : List (Option zC) := [some (3, 1, 1, 0, 0, []), some (101, 3, 43, 1, 1, [120, 2198]), zN, zN, some (15, 3, 1, 13, 0, []), zN, zN, some (5, 1, 0, 0, 0, []), some (1, 1, 0, 0, 1, []), some (101, 3, 13, 0, 2, [86, 1262]), zN, zN, some (100, 1, 1, 0, 0, []), some (5, 1, 0, 0, 0, []), some (5, 1, 0, 0, 0, []), some (5, 1, 0, 0, 0, []), some (18, 3, 5, 2, 26, [1202]), zN, zN, some (18, 3, 0, 4, 117, [1142]), zN, zN, some (3, 1, 1, 0, 0, []), some (101, 3, 62, 0, 3, [146, 2273]), zN, zN, some (101, 3, 39, 0, 2, [108, 2181]), zN, zN, some (100, 1, 1, 0, 0, [])]
def zk62 : List (Option zC) := [some (5, 1, 0, 0, 0, []), some (18, 3, 5, 1, 19, [1201]), zN, zN, some (3, 1, 1, 0, 0, []), some (3, 1, 2, 0, 0, []), some (101, 3, 53, 0, 3, [346, 2237]), zN, zN, some (7, 1, 3, 0, 0, []), some (4, 1, 3, 0, 0, []), some (3, 1, 2, 0, 0, []), some (13, 1, 1, 0, 0, []), some (14, 1, 0, 0, 0, []), some (15, 3, 1, 19, 0, []), zN, zN, some (1, 1, 0, 0, 1, []), some (100, 1, 1, 0, 0, []), some (4, 1, 3, 0, 0, []), some (3, 1, 2, 0, 0, []), some (13, 1, 1, 0, 0, []), some (14, 1, 0, 0, 0, []), some (15, 3, 3, 30, 0, []), zN, zN, some (1, 1, 0, 0, 0, []), some (17, 3, 0, 31, 0, []), zN, zN, some (1, 1, 0, 0, 2, []), some (100, 1, 1, 0, 0, [])]
def zk63 : List (Option zC) := [some (3, 1, 1, 0, 0, []), some (101, 3, 43, 1, 1, [120, 2198]), zN, zN, some (15, 3, 0, 15, 0, []), zN, zN, some (3, 1, 2, 0, 0, []), some (1, 1, 0, 0, 3, []), some (101, 3, 44, 1, 2, [124, 2202]), zN, zN, some (15, 3, 1, 21, 0, []), zN, zN, some (5, 1, 0, 0, 0, []), some (1, 1, 0, 0, 1, []), some (101, 3, 13, 0, 2, [86, 1262]), zN, zN, some (100, 1, 1, 0, 0, []), some (3, 1, 1, 0, 0, []), some (1, 1, 0, 0, 2, []), some (10, 1, 7, 0, 0, []), some (15, 3, 0, 33, 0, []), zN, zN, some (5, 1, 0, 0, 0, []), some (1, 1, 0, 0, 5, []), some (101, 3, 13, 0, 2, [86, 1262]), zN, zN, some (100, 1, 1, 0, 0, []), some (3, 1, 2, 0, 0, []), some (30, 26, 0, 87, 0, [60, 69, 78]), zN, zN, zN, zN, zN, zN, zN, zN, zN, zN, zN, zN, zN, zN, zN, zN, zN, zN, zN, zN, zN, zN, zN, zN, zN, some (5, 1, 0, 0, 0, []), some (3, 1, 1, 0, 0, []), some (101, 3, 64, 1, 1, [150, 2281]), zN, zN, some (101, 3, 39, 0, 2, [108, 2181]), zN, zN, some (100, 1, 1, 0, 0, []), some (5, 1, 0, 0, 0, []), some (3, 1, 1, 0, 0, []), some (101, 3, 67, 1, 1, [153, 3077]), zN, zN, some (101, 3, 39, 0, 2, [108, 2181]), zN, zN, some (100, 1, 1, 0, 0, []), some (5, 1, 0, 0, 0, []), some (3, 1, 1, 0, 0, []), some (101, 3, 65, 1, 1, [156, 2284]), zN, zN, some (101, 3, 39, 0, 2, [108, 2181]), zN, zN, some (100, 1, 1, 0, 0, []), some (5, 1, 0, 0, 0, []), some (5, 1, 0, 0, 0, []), some (3, 1, 1, 0, 0, []), some (101, 3, 68, 0, 2, [159, 3080]), zN, zN, some (15, 3, 0, 100, 0, []), zN, zN, some (1, 1, 0, 0, 1, []), some (17, 3, 0, 101, 0, []), zN, zN, some (1, 1, 0, 0, 0, []), some (101, 3, 39, 0, 2, [108, 2181]), zN, zN, some (100, 1, 1, 0, 0, [])]
def zk64 : List (Option zC) := [some (3, 1, 0, 0, 0, []), some (1, 1, 0, 0, 1, []), some (16, 3, 2, 11, 0, []), zN, zN, some (3, 1, 0, 0, 0, []), some (1, 1, 0, 0, 2, []), some (10, 1, 7, 0, 0, []), some (15, 3, 0, 13, 0, []), zN, zN, some (1, 1, 0, 0, 0, []), some (100, 1, 1, 0, 0, []), some (3, 1, 0, 0, 0, []), some (3, 1, 0, 0, 0, []), some (13, 1, 0, 0, 0, []), some (10, 1, 3, 0, 0, []), some (3, 1, 0, 0, 0, []), some (101, 3, 65, 1, 1, [156, 2284]), zN, zN, some (10, 1, 2, 0, 0, []), some (100, 1, 1, 0, 0, [])]
def zk65 : List (Option zC) := [some (3, 1, 0, 0, 0, []), some (3, 1, 0, 0, 0, []), some (13, 1, 0, 0, 0, []), some (10, 1, 3, 0, 0, []), some (6, 1, 1, 0, 0, []), some (1, 1, 0, 0, 2, []), some (3, 1, 1, 0, 0, []), some (10, 1, 2, 0, 0, []), some (1, 1, 0, 0, 1, []), some (10, 1, 1, 0, 0, []), some (13, 1, 1, 0, 0, []), some (3, 1, 0, 0, 0, []), some (13, 1, 1, 0, 0, []), some (101, 3, 66, 1, 2, [350, 2287]), zN, zN, some (13, 1, 2, 0, 0, []), some (100, 1, 1, 0, 0, [])]
def zk66 : List (Option zC) := [some (4, 1, 0, 0, 0, []), some (7, 2, 4, 0, 0, []), zN, some (4, 1, 2, 0, 0, []), some (7, 2, 6, 0, 0, []), zN, some (1, 1, 0, 0, 0, []), some (6, 2, 8, 0, 0, []), zN, some (3, 2, 8, 0, 0, []), zN, some (1, 2, 1, 0, 100, []), zN, some (16, 3, 3, 44, 0, []), zN, zN, some (4, 2, 6, 0, 0, []), zN, some (2, 1, 0, 0, 0, []), some (14, 1, 0, 0, 0, []), some (15, 3, 0, 44, 0, []), zN, zN, some (4, 2, 4, 0, 0, []), zN, some (4, 2, 6, 0, 0, []), zN, some (11, 1, 7, 0, 0, []), some (7, 2, 9, 0, 0, []), zN, some (4, 2, 6, 0, 0, []), zN, some (7, 2, 4, 0, 0, []), zN, some (4, 2, 9, 0, 0, []), zN, some (7, 2, 6, 0, 0, []), zN, some (9, 3, 8, 0, 1, []), zN, zN, some (17, 3, 0, 9, 0, []), zN, zN, some (2, 1, 0, 0, 1, []), some (4, 2, 4, 0, 0, []), zN, some (39, 3, 210, 0, 0, [3074]), zN, zN, some (100, 1, 2, 0, 0, [])]
def zk67 : List (Option zC) := [some (1, 1, 0, 0, 0, []), some (6, 1, 1, 0, 0, []), some (3, 1, 0, 0, 0, []), some (6, 1, 2, 0, 0, []), some (3, 1, 2, 0, 0, []), some (15, 3, 5, 24, 0, []), zN, zN, some (3, 1, 2, 0, 0, []), some (1, 1, 0, 0, 2, []), some (10, 1, 7, 0, 0, []), some (15, 3, 1, 24, 0, []), zN, zN, some (9, 3, 1, 0, 1, []), zN, zN, some (3, 1, 2, 0, 0, []), some (1, 1, 0, 0, 2, []), some (10, 1, 6, 0, 0, []), some (6, 1, 2, 0, 0, []), some (17, 3, 0, 4, 0, []), zN, zN, some (3, 1, 1, 0, 0, []), some (100, 1, 1, 0, 0, [])]
def zk68 : List (Option zC) := [some (3, 1, 1, 0, 0, []), some (101, 3, 64, 1, 1, [150, 2281]), zN, zN, some (15, 3, 1, 9, 0, []), zN, zN, some (1, 1, 0, 0, 0, []), some (100, 1, 4, 0, 0, []), some (1, 1, 0, 0, 1, []), some (3, 1, 1, 0, 0, []), some (3, 1, 1, 0, 0, []), some (13, 1, 0, 0, 0, []), some (10, 1, 3, 0, 0, []), some (1, 1, 0, 0, 2, []), some (10, 1, 6, 0, 0, []), some (37, 3, 168, 0, 0, [3084]), zN, zN, some (6, 1, 2, 0, 0, []), some (5, 1, 0, 0, 0, []), some (18, 3, 5, 1, 19, [1201]), zN, zN, some (3, 1, 1, 0, 0, []), some (101, 3, 65, 1, 1, [156, 2284]), zN, zN, some (101, 3, 69, 0, 2, [176, 3087]), zN, zN, some (3, 1, 2, 0, 0, []), some (13, 1, 1, 0, 0, []), some (11, 1, 7, 0, 0, []), some (2, 1, 0, 0, 0, []), some (14, 1, 0, 0, 0, []), some (15, 3, 1, 43, 0, []), zN, zN, some (1, 1, 0, 0, 1, []), some (17, 3, 0, 44, 0, []), zN, zN, some (1, 1, 0, 0, 0, []), some (100, 1, 4, 0, 0, [])]
def zk69 : List (Option zC) := [some (5, 1, 0, 0, 0, []), some (3, 1, 1, 0, 0, []), some (101, 3, 45, 0, 2, [49, 2241]), zN, zN, some (5, 1, 0, 0, 0, []), some (101, 3, 58, 0, 1, [53, 2257]), zN, zN, some (100, 1, 2, 0, 0, [])]
def zk70 : List (Option zC) := [some (3, 1, 1, 0, 0, []), some (101, 3, 43, 1, 1, [120, 2198]), zN, zN, some (15, 3, 0, 12, 0, []), zN, zN, some (3, 1, 2, 0, 0, []), some (1, 1, 0, 0, (-1), []), some (16, 3, 3, 18, 0, []), zN, zN, some (5, 1, 0, 0, 0, []), some (1, 1, 0, 0, 1, []), some (101, 3, 13, 0, 2, [86, 1262]), zN, zN, some (100, 1, 1, 0, 0, []), some (5, 1, 0, 0, 0, []), some (18, 3, 5, 1, 19, [1201]), zN, zN, some (3, 1, 1, 0, 0, []), some (101, 3, 71, 0, 2, [162, 3095]), zN, zN, some (6, 1, 3, 0, 0, []), some (3, 1, 2, 0, 0, []), some (1, 1, 0, 0, (-1), []), some (16, 3, 1, 38, 0, []), zN, zN, some (5, 1, 0, 0, 0, []), some (3, 1, 3, 0, 0, []), some (101, 3, 39, 0, 2, [108, 2181]), zN, zN, some (100, 1, 1, 0, 0, []), some (3, 1, 2, 0, 0, []), some (3, 1, 3, 0, 0, []), some (16, 3, 2, 49, 0, []), zN, zN, some (5, 1, 0, 0, 0, []), some (1, 1, 0, 0, 5, []), some (101, 3, 13, 0, 2, [86, 1262]), zN, zN, some (100, 1, 1, 0, 0, []), some (1, 1, 0, 0, 2, []), some (3, 1, 2, 0, 0, []), some (10, 1, 2, 0, 0, []), some (3, 1, 3, 0, 0, []), some (16, 3, 3, 66, 0, []), zN, zN, some (5, 1, 0, 0, 0, []), some (3, 1, 1, 0, 0, []), some (3, 1, 2, 0, 0, []), some (101, 3, 72, 1, 2, [165, 3099]), zN, zN, some (101, 3, 39, 0, 2, [108, 2181]), zN, zN, some (100, 1, 1, 0, 0, []), some (5, 1, 0, 0, 0, []), some (3, 1, 1, 0, 0, []), some (1, 1, 0, 0, 1, []), some (3, 1, 1, 0, 0, []), some (3, 1, 3, 0, 0, []), some (1, 1, 0, 0, 1, []), some (10, 1, 1, 0, 0, []), some (3, 1, 2, 0, 0, []), some (10, 1, 1, 0, 0, []), some (101, 3, 72, 1, 2, [165, 3099]), zN, zN, some (37, 3, 168, 0, 0, [3084]), zN, zN, some (10, 1, 6, 0, 0, []), some (101, 3, 39, 0, 2, [108, 2181]), zN, zN, some (100, 1, 1, 0, 0, [])]
def zk71 : List (Option zC) := [some (5, 1, 0, 0, 0, []), some (3, 1, 1, 0, 0, []), some (101, 3, 45, 0, 2, [49, 2241]), zN, zN, some (1, 1, 0, 0, 1, []), some (6, 1, 2, 0, 0, []), some (1, 1, 0, 0, 0, []), some (6, 1, 3, 0, 0, []), some (3, 1, 3, 0, 0, []), some (5, 1, 0, 0, 0, []), some (18, 3, 2, 3, 21, [1104]), zN, zN, some (16, 3, 3, 34, 0, []), zN, zN, some (3, 1, 2, 0, 0, []), some (5, 1, 0, 0, 0, []), some (18, 3, 2, 1, 15, [1100]), zN, zN, some (3, 1, 3, 0, 0, []), some (21, 1, 0, 0, 0, []), some (1, 1, 0, 0, 1, []), some (10, 1, 0, 0, 0, []), some (10, 1, 2, 0, 0, []), some (6, 1, 2, 0, 0, []), some (9, 3, 3, 0, 1, []), zN, zN, some (17, 3, 0, 9, 0, []), zN, zN, some (3, 1, 2, 0, 0, []), some (100, 1, 1, 0, 0, [])]
def zk72 : List (Option zC) := [some (1, 1, 0, 0, 0, []), some (6, 1, 2, 0, 0, []), some (1, 1, 0, 0, 1, []), some (6, 1, 3, 0, 0, []), some (3, 1, 3, 0, 0, []), some (3, 1, 0, 0, 0, []), some (3, 1, 3, 0, 0, []), some (10, 1, 6, 0, 0, []), some (16, 3, 4, 36, 0, []), zN, zN, some (3, 1, 0, 0, 0, []), some (3, 1, 3, 0, 0, []), some (10, 1, 7, 0, 0, []), some (15, 3, 0, 20, 0, []), zN, zN, some (17, 3, 0, 30, 0, []), zN, zN, some (3, 1, 2, 0, 0, []), some (3, 1, 1, 0, 0, []), some (16, 3, 1, 27, 0, []), zN, zN, some (3, 1, 3, 0, 0, []), some (100, 1, 1, 0, 0, []), some (9, 3, 2, 0, 1, []), zN, zN, some (9, 3, 3, 0, 1, []), zN, zN, some (17, 3, 0, 4, 0, []), zN, zN, some (1, 1, 0, 0, 1, []), some (100, 1, 1, 0, 0, [])]
def zk73 : List (Option zC) := [some (3, 1, 1, 0, 0, []), some (1, 1, 0, 0, 1, []), some (16, 3, 2, 12, 0, []), zN, zN, some (3, 1, 1, 0, 0, []), some (1, 3, 2, 0, 3000, []), zN, zN, some (16, 3, 5, 18, 0, []), zN, zN, some (5, 1, 0, 0, 0, []), some (1, 1, 0, 0, 1, []), some (101, 3, 13, 0, 2, [86, 1262]), zN, zN, some (100, 1, 1, 0, 0, []), some (5, 1, 0, 0, 0, []), some (1, 1, 0, 0, 0, []), some (3, 1, 1, 0, 0, []), some (101, 3, 62, 0, 3, [146, 2273]), zN, zN, some (6, 1, 2, 0, 0, []), some (3, 1, 2, 0, 0, []), some (15, 3, 1, 35, 0, []), zN, zN, some (5, 1, 0, 0, 0, []), some (1, 1, 0, 0, 0, []), some (101, 3, 39, 0, 2, [108, 2181]), zN, zN, some (100, 1, 1, 0, 0, []), some (3, 1, 2, 0, 0, []), some (1, 1, 0, 0, 1, []), some (16, 3, 0, 48, 0, []), zN, zN, some (5, 1, 0, 0, 0, []), some (3, 1, 1, 0, 0, []), some (101, 3, 74, 0, 2, [173, 3106]), zN, zN, some (15, 3, 0, 54, 0, []), zN, zN, some (5, 1, 0, 0, 0, []), some (1, 1, 0, 0, 1, []), some (101, 3, 39, 0, 2, [108, 2181]), zN, zN, some (100, 1, 1, 0, 0, []), some (5, 1, 0, 0, 0, []), some (1, 1, 0, 0, 2, []), some (101, 3, 39, 0, 2, [108, 2181]), zN, zN, some (100, 1, 1, 0, 0, [])]
def zk74 : List (Option zC) := [some (1, 1, 0, 0, 0, []), some (6, 1, 2, 0, 0, []), some (3, 1, 2, 0, 0, []), some (5, 1, 0, 0, 0, []), some (18, 3, 5, 10, 63, [1210]), zN, zN, some (20, 1, 0, 0, 0, []), some (16, 3, 3, 32, 0, []), zN, zN, some (5, 1, 0, 0, 0, []), some (18, 3, 5, 10, 63, [1210]), zN, zN, some (3, 1, 2, 0, 0, []), some (3, 1, 2, 0, 0, []), some (15, 3, 1, 24, 0, []), zN, zN, some (2, 1, 0, 0, 1, []), some (17, 3, 0, 25, 0, []), zN, zN, some (2, 1, 0, 0, 0, []), some (22, 1, 1, 0, 0, []), some (9, 3, 2, 0, 1, []), zN, zN, some (17, 3, 0, 2, 0, []), zN, zN, some (1, 1, 0, 0, 1, []), some (6, 1, 2, 0, 0, []), some (3, 1, 2, 0, 0, []), some (3, 1, 1, 0, 0, []), some (1, 1, 0, 0, 2, []), some (10, 1, 6, 0, 0, []), some (16, 3, 4, 58, 0, []), zN, zN, some (3, 1, 1, 0, 0, []), some (3, 1, 2, 0, 0, []), some (10, 1, 7, 0, 0, []), some (15, 3, 1, 52, 0, []), zN, zN, some (5, 1, 0, 0, 0, []), some (3, 1, 2, 0, 0, []), some (101, 3, 75, 0, 2, [353, 3110]), zN, zN, some (9, 3, 2, 0, 1, []), zN, zN, some (17, 3, 0, 34, 0, []), zN, zN, some (3, 1, 1, 0, 0, []), some (1, 2, 1, 0, 64, []), zN, some (10, 1, 6, 0, 0, []), some (6, 1, 2, 0, 0, []), some (3, 1, 2, 0, 0, []), some (5, 1, 0, 0, 0, []), some (18, 3, 5, 10, 63, [1210]), zN, zN, some (20, 1, 0, 0, 0, []), some (16, 3, 3, 94, 0, []), zN, zN, some (5, 1, 0, 0, 0, []), some (18, 3, 5, 10, 63, [1210]), zN, zN, some (3, 1, 2, 0, 0, []), some (21, 1, 1, 0, 0, []), some (3, 1, 1, 0, 0, []), some (1, 2, 1, 0, 64, []), zN, some (10, 1, 7, 0, 0, []), some (12, 1, 1, 0, 0, []), some (2, 1, 0, 0, 1, []), some (11, 1, 3, 0, 0, []), some (2, 1, 0, 0, 1, []), some (14, 1, 0, 0, 0, []), some (15, 3, 1, 94, 0, []), zN, zN, some (1, 1, 0, 0, 1, []), some (17, 3, 0, 95, 0, []), zN, zN, some (1, 1, 0, 0, 0, []), some (100, 1, 4, 0, 0, [])]
def zk75 : List (Option zC) := [some (3, 1, 1, 0, 0, []), some (1, 2, 1, 0, 64, []), zN, some (10, 1, 6, 0, 0, []), some (6, 1, 2, 0, 0, []), some (3, 1, 1, 0, 0, []), some (1, 2, 1, 0, 64, []), zN, some (10, 1, 7, 0, 0, []), some (6, 1, 3, 0, 0, []), some (5, 1, 0, 0, 0, []), some (18, 3, 5, 10, 63, [1210]), zN, zN, some (20, 1, 0, 0, 0, []), some (1, 1, 0, 0, 1, []), some (10, 1, 1, 0, 0, []), some (6, 2, 4, 0, 0, []), zN, some (3, 2, 4, 0, 0, []), zN, some (3, 1, 2, 0, 0, []), some (16, 3, 2, 87, 0, []), zN, zN, some (5, 1, 0, 0, 0, []), some (18, 3, 5, 10, 63, [1210]), zN, zN, some (3, 2, 4, 0, 0, []), zN, some (3, 1, 2, 0, 0, []), some (10, 1, 1, 0, 0, []), some (21, 1, 1, 0, 0, []), some (3, 1, 3, 0, 0, []), some (12, 1, 0, 0, 0, []), some (7, 2, 5, 0, 0, []), zN, some (3, 1, 3, 0, 0, []), some (15, 3, 5, 69, 0, []), zN, zN, some (3, 2, 4, 0, 0, []), zN, some (3, 1, 2, 0, 0, []), some (16, 3, 5, 69, 0, []), zN, zN, some (4, 2, 5, 0, 0, []), zN, some (5, 1, 0, 0, 0, []), some (18, 3, 5, 10, 63, [1210]), zN, zN, some (3, 2, 4, 0, 0, []), zN, some (3, 1, 2, 0, 0, []), some (10, 1, 1, 0, 0, []), some (1, 1, 0, 0, 1, []), some (10, 1, 1, 0, 0, []), some (21, 1, 1, 0, 0, []), some (1, 2, 1, 0, 64, []), zN, some (3, 1, 3, 0, 0, []), some (10, 1, 1, 0, 0, []), some (12, 1, 1, 0, 0, []), some (11, 1, 4, 0, 0, []), some (7, 2, 5, 0, 0, []), zN, some (5, 1, 0, 0, 0, []), some (18, 3, 5, 10, 63, [1210]), zN, zN, some (3, 2, 4, 0, 0, []), zN, some (24, 1, 0, 0, 0, []), some (21, 1, 1, 0, 0, []), some (4, 2, 5, 0, 0, []), zN, some (11, 1, 4, 0, 0, []), some (22, 1, 1, 0, 0, []), some (9, 3, 4, 0, (-1), []), zN, zN, some (17, 3, 0, 19, 0, []), zN, zN, some (100, 1, 0, 0, 0, [])]
def zk76 : List (Option zC) := [some (3, 1, 1, 0, 0, []), some (101, 3, 43, 1, 1, [120, 2198]), zN, zN, some (15, 3, 0, 15, 0, []), zN, zN, some (3, 1, 2, 0, 0, []), some (1, 1, 0, 0, 1, []), some (101, 3, 44, 1, 2, [124, 2202]), zN, zN, some (15, 3, 1, 22, 0, []), zN, zN, some (5, 1, 0, 0, 0, []), some (1, 1, 0, 0, 1, []), some (101, 3, 13, 0, 2, [86, 1262]), zN, zN, some (13, 1, 1, 0, 0, []), some (100, 1, 2, 0, 0, []), some (5, 1, 0, 0, 0, []), some (5, 1, 0, 0, 0, []), some (18, 3, 5, 1, 19, [1201]), zN, zN, some (3, 1, 1, 0, 0, []), some (101, 3, 69, 0, 2, [176, 3087]), zN, zN, some (3, 1, 1, 0, 0, []), some (13, 1, 1, 0, 0, []), some (3, 1, 2, 0, 0, []), some (101, 3, 77, 1, 3, [179, 3118]), zN, zN, some (101, 3, 60, 0, 2, [142, 2265]), zN, zN, some (100, 1, 2, 0, 0, [])]
def zk77 : List (Option zC) := [some (3, 2, 4, 0, 0, []), zN, some (15, 3, 1, 9, 0, []), zN, zN, some (4, 1, 0, 0, 0, []), some (17, 3, 0, 10, 0, []), zN, zN, some (4, 1, 2, 0, 0, []), some (4, 1, 0, 0, 0, []), some (4, 1, 2, 0, 0, []), some (101, 3, 66, 1, 2, [350, 2287]), zN, zN, some (11, 1, 6, 0, 0, []), some (100, 1, 2, 0, 0, [])]
def zk78 : List (Option zC) := [some (3, 1, 1, 0, 0, []), some (101, 3, 43, 1, 1, [120, 2198]), zN, zN, some (15, 3, 0, 11, 0, []), zN, zN, some (3, 1, 2, 0, 0, []), some (15, 3, 3, 17, 0, []), zN, zN, some (5, 1, 0, 0, 0, []), some (1, 1, 0, 0, 1, []), some (101, 3, 13, 0, 2, [86, 1262]), zN, zN, some (100, 1, 1, 0, 0, []), some (5, 1, 0, 0, 0, []), some (18, 3, 5, 1, 19, [1201]), zN, zN, some (3, 1, 1, 0, 0, []), some (101, 3, 45, 0, 2, [128, 2205]), zN, zN, some (3, 1, 2, 0, 0, []), some (5, 1, 0, 0, 0, []), some (18, 3, 5, 1, 19, [1201]), zN, zN, some (18, 3, 2, 3, 131, [1106]), zN, zN, some (16, 3, 2, 42, 0, []), zN, zN, some (5, 1, 0, 0, 0, []), some (1, 1, 0, 0, 5, []), some (101, 3, 13, 0, 2, [86, 1262]), zN, zN, some (100, 1, 1, 0, 0, []), some (5, 1, 0, 0, 0, []), some (5, 1, 0, 0, 0, []), some (18, 3, 5, 1, 19, [1201]), zN, zN, some (3, 1, 2, 0, 0, []), some (101, 3, 79, 0, 2, [183, 3125]), zN, zN, some (101, 3, 39, 0, 2, [108, 2181]), zN, zN, some (100, 1, 1, 0, 0, [])]
def zk79 : List (Option zC) := [some (2, 3, 1, 61, 1000, [3129]), zN, zN, some (5, 1, 0, 0, 0, []), some (3, 1, 1, 0, 0, []), some (101, 3, 59, 0, 2, [57, 2261]), zN, zN, some (11, 1, 2, 0, 0, []), some (2, 1, 0, 0, 1, []), some (5, 1, 0, 0, 0, []), some (18, 3, 2, 0, 11, [1097]), zN, zN, some (3, 1, 1, 0, 0, []), some (21, 1, 0, 0, 0, []), some (5, 1, 0, 0, 0, []), some (18, 3, 2, 1, 15, [1100]), zN, zN, some (3, 1, 1, 0, 0, []), some (21, 1, 0, 0, 0, []), some (101, 3, 55, 1, 2, [63, 2246]), zN, zN, some (39, 3, 67, 0, 0, [3130]), zN, zN, some (11, 1, 6, 0, 0, []), some (13, 1, 2, 0, 0, []), some (100, 1, 1, 0, 0, [])]
def zk80 : List (Option zC) := [some (3, 1, 1, 0, 0, []), some (101, 3, 43, 1, 1, [120, 2198]), zN, zN, some (15, 3, 0, 24, 0, []), zN, zN, some (3, 1, 2, 0, 0, []), some (3, 1, 3, 0, 0, []), some (1, 3, 2, 0, 500, []), zN, zN, some (101, 3, 81, 1, 3, [186, 3135]), zN, zN, some (15, 3, 0, 24, 0, []), zN, zN, some (3, 2, 4, 0, 0, []), zN, some (1, 1, 0, 0, (-1), []), some (16, 3, 3, 30, 0, []), zN, zN, some (5, 1, 0, 0, 0, []), some (1, 1, 0, 0, 1, []), some (101, 3, 13, 0, 2, [86, 1262]), zN, zN, some (100, 1, 1, 0, 0, []), some (5, 1, 0, 0, 0, []), some (18, 3, 5, 1, 19, [1201]), zN, zN, some (3, 1, 1, 0, 0, []), some (101, 3, 69, 0, 2, [176, 3087]), zN, zN, some (7, 2, 5, 0, 0, []), zN, some (1, 1, 0, 0, 0, []), some (6, 2, 7, 0, 0, []), zN, some (3, 1, 2, 0, 0, []), some (6, 2, 8, 0, 0, []), zN, some (3, 2, 8, 0, 0, []), zN, some (3, 1, 3, 0, 0, []), some (16, 3, 4, 106, 0, []), zN, zN, some (3, 2, 8, 0, 0, []), zN, some (3, 1, 1, 0, 0, []), some (16, 3, 0, 100, 0, []), zN, zN, some (5, 1, 0, 0, 0, []), some (18, 3, 5, 1, 19, [1201]), zN, zN, some (3, 2, 8, 0, 0, []), zN, some (101, 3, 69, 0, 2, [176, 3087]), zN, zN, some (3, 1, 1, 0, 0, []), some (13, 1, 1, 0, 0, []), some (11, 1, 2, 0, 0, []), some (4, 2, 5, 0, 0, []), zN, some (3, 2, 8, 0, 0, []), zN, some (13, 1, 1, 0, 0, []), some (11, 1, 2, 0, 0, []), some (14, 1, 0, 0, 0, []), some (15, 3, 0, 83, 0, []), zN, zN, some (17, 3, 0, 100, 0, []), zN, zN, some (3, 2, 7, 0, 0, []), zN, some (3, 2, 4, 0, 0, []), zN, some (16, 3, 1, 97, 0, []), zN, zN, some (5, 1, 0, 0, 0, []), some (3, 2, 8, 0, 0, []), zN, some (101, 3, 39, 0, 2, [108, 2181]), zN, zN, some (100, 1, 1, 0, 0, []), some (9, 3, 7, 0, 1, []), zN, zN, some (9, 3, 8, 0, 1, []), zN, zN, some (17, 3, 0, 46, 0, []), zN, zN, some (5, 1, 0, 0, 0, []), some (3, 2, 4, 0, 0, []), zN, some (3, 2, 7, 0, 0, []), zN, some (101, 3, 82, 0, 3, [190, 3138]), zN, zN, some (100, 1, 1, 0, 0, [])]
def zk81 : List (Option zC) := [some (3, 1, 0, 0, 0, []), some (101, 3, 43, 1, 1, [120, 2198]), zN, zN, some (15, 3, 0, 30, 0, []), zN, zN, some (3, 1, 1, 0, 0, []), some (101, 3, 43, 1, 1, [120, 2198]), zN, zN, some (15, 3, 0, 30, 0, []), zN, zN, some (3, 1, 1, 0, 0, []), some (3, 1, 0, 0, 0, []), some (16, 3, 2, 30, 0, []), zN, zN, some (3, 1, 1, 0, 0, []), some (3, 1, 0, 0, 0, []), some (10, 1, 1, 0, 0, []), some (3, 1, 2, 0, 0, []), some (16, 3, 4, 30, 0, []), zN, zN, some (1, 1, 0, 0, 1, []), some (17, 3, 0, 31, 0, []), zN, zN, some (1, 1, 0, 0, 0, []), some (100, 1, 4, 0, 0, [])]
def zk82 : List (Option zC) := [some (3, 1, 1, 0, 0, []), some (1, 1, 0, 0, (-1), []), some (16, 3, 1, 13, 0, []), zN, zN, some (5, 1, 0, 0, 0, []), some (3, 1, 2, 0, 0, []), some (101, 3, 39, 0, 2, [108, 2181]), zN, zN, some (17, 3, 0, 18, 0, []), zN, zN, some (5, 1, 0, 0, 0, []), some (1, 1, 0, 0, 5, []), some (101, 3, 13, 0, 2, [86, 1262]), zN, zN, some (100, 1, 1, 0, 0, [])]
def zk83 : List (Option zC) := [some (3, 1, 1, 0, 0, []), some (3, 1, 2, 0, 0, []), some (1, 3, 2, 0, 200, []), zN, zN, some (101, 3, 81, 1, 3, [186, 3135]), zN, zN, some (15, 3, 0, 19, 0, []), zN, zN, some (3, 1, 3, 0, 0, []), some (1, 1, 0, 0, 2, []), some (101, 3, 44, 1, 2, [124, 2202]), zN, zN, some (15, 3, 1, 25, 0, []), zN, zN, some (5, 1, 0, 0, 0, []), some (1, 1, 0, 0, 1, []), some (101, 3, 13, 0, 2, [86, 1262]), zN, zN, some (100, 1, 1, 0, 0, []), some (3, 1, 2, 0, 0, []), some (3, 1, 1, 0, 0, []), some (10, 1, 1, 0, 0, []), some (1, 1, 0, 0, 1, []), some (10, 1, 0, 0, 0, []), some (6, 2, 4, 0, 0, []), zN, some (1, 1, 0, 0, 0, []), some (6, 2, 5, 0, 0, []), zN, some (3, 2, 5, 0, 0, []), zN, some (3, 2, 4, 0, 0, []), zN, some (16, 3, 3, 76, 0, []), zN, zN, some (3, 2, 5, 0, 0, []), zN, some (5, 1, 0, 0, 0, []), some (18, 3, 5, 8, 55, [1208]), zN, zN, some (20, 1, 0, 0, 0, []), some (16, 3, 3, 76, 0, []), zN, zN, some (5, 1, 0, 0, 0, []), some (18, 3, 5, 8, 55, [1208]), zN, zN, some (3, 2, 5, 0, 0, []), zN, some (5, 1, 0, 0, 0, []), some (18, 3, 5, 1, 19, [1201]), zN, zN, some (3, 1, 1, 0, 0, []), some (3, 2, 5, 0, 0, []), zN, some (10, 1, 0, 0, 0, []), some (101, 3, 69, 0, 2, [176, 3087]), zN, zN, some (22, 1, 1, 0, 0, []), some (9, 3, 5, 0, 1, []), zN, zN, some (17, 3, 0, 35, 0, []), zN, zN, some (1, 1, 0, 0, 0, []), some (6, 2, 5, 0, 0, []), zN, some (1, 1, 0, 0, 0, []), some (6, 2, 6, 0, 0, []), zN, some (1, 1, 0, 0, 0, []), some (6, 2, 7, 0, 0, []), zN, some (1, 1, 0, 0, 0, []), some (6, 2, 8, 0, 0, []), zN, some (1, 1, 0, 0, 0, []), some (6, 2, 9, 0, 0, []), zN, some (3, 2, 9, 0, 0, []), zN, some (3, 2, 4, 0, 0, []), zN, some (16, 3, 3, 155, 0, []), zN, zN, some (5, 1, 0, 0, 0, []), some (3, 1, 1, 0, 0, []), some (3, 2, 4, 0, 0, []), zN, some (3, 2, 9, 0, 0, []), zN, some (101, 3, 84, 0, 4, [193, 3146]), zN, zN, some (6, 2, 10, 0, 0, []), zN, some (5, 1, 0, 0, 0, []), some (3, 1, 1, 0, 0, []), some (3, 2, 9, 0, 0, []), zN, some (3, 2, 9, 0, 0, []), zN, some (101, 3, 84, 0, 4, [193, 3146]), zN, zN, some (15, 3, 1, 124, 0, []), zN, zN, some (9, 3, 5, 0, 1, []), zN, zN, some (3, 2, 10, 0, 0, []), zN, some (15, 3, 5, 132, 0, []), zN, zN, some (9, 3, 6, 0, 1, []), zN, zN, some (3, 2, 10, 0, 0, []), zN, some (3, 2, 7, 0, 0, []), zN, some (16, 3, 5, 149, 0, []), zN, zN, some (3, 2, 10, 0, 0, []), zN, some (6, 2, 7, 0, 0, []), zN, some (3, 1, 1, 0, 0, []), some (3, 2, 9, 0, 0, []), zN, some (10, 1, 0, 0, 0, []), some (6, 2, 8, 0, 0, []), zN, some (9, 3, 9, 0, 1, []), zN, zN, some (17, 3, 0, 91, 0, []), zN, zN, some (3, 1, 3, 0, 0, []), some (1, 1, 0, 0, 2, []), some (16, 3, 1, 180, 0, []), zN, zN, some (3, 2, 7, 0, 0, []), zN, some (15, 3, 1, 173, 0, []), zN, zN, some (5, 1, 0, 0, 0, []), some (1, 1, 0, 0, 5, []), some (101, 3, 13, 0, 2, [86, 1262]), zN, zN, some (17, 3, 0, 179, 0, []), zN, zN, some (5, 1, 0, 0, 0, []), some (3, 2, 8, 0, 0, []), zN, some (101, 3, 39, 0, 2, [108, 2181]), zN, zN, some (100, 1, 1, 0, 0, []), some (5, 1, 0, 0, 0, []), some (3, 1, 3, 0, 0, []), some (15, 3, 1, 190, 0, []), zN, zN, some (3, 2, 5, 0, 0, []), zN, some (17, 3, 0, 192, 0, []), zN, zN, some (3, 2, 6, 0, 0, []), zN, some (101, 3, 39, 0, 2, [108, 2181]), zN, zN, some (100, 1, 1, 0, 0, [])]
def zk84 : List (Option zC) := [some (1, 1, 0, 0, 0, []), some (6, 2, 4, 0, 0, []), zN, some (1, 1, 0, 0, 0, []), some (6, 2, 5, 0, 0, []), zN, some (3, 2, 5, 0, 0, []), zN, some (3, 1, 2, 0, 0, []), some (16, 3, 3, 74, 0, []), zN, zN, some (3, 2, 5, 0, 0, []), zN, some (5, 1, 0, 0, 0, []), some (18, 3, 5, 8, 55, [1208]), zN, zN, some (20, 1, 0, 0, 0, []), some (16, 3, 3, 74, 0, []), zN, zN, some (3, 1, 3, 0, 0, []), some (5, 1, 0, 0, 0, []), some (18, 3, 5, 8, 55, [1208]), zN, zN, some (20, 1, 0, 0, 0, []), some (16, 3, 3, 74, 0, []), zN, zN, some (3, 2, 5, 0, 0, []), zN, some (3, 1, 3, 0, 0, []), some (16, 3, 0, 68, 0, []), zN, zN, some (5, 1, 0, 0, 0, []), some (18, 3, 5, 8, 55, [1208]), zN, zN, some (3, 2, 5, 0, 0, []), zN, some (21, 1, 1, 0, 0, []), some (3, 1, 1, 0, 0, []), some (3, 1, 3, 0, 0, []), some (10, 1, 0, 0, 0, []), some (13, 1, 1, 0, 0, []), some (11, 1, 2, 0, 0, []), some (5, 1, 0, 0, 0, []), some (18, 3, 5, 8, 55, [1208]), zN, zN, some (3, 1, 3, 0, 0, []), some (21, 1, 1, 0, 0, []), some (3, 1, 1, 0, 0, []), some (3, 2, 5, 0, 0, []), zN, some (10, 1, 0, 0, 0, []), some (13, 1, 1, 0, 0, []), some (11, 1, 2, 0, 0, []), some (14, 1, 0, 0, 0, []), some (15, 3, 1, 68, 0, []), zN, zN, some (9, 3, 4, 0, 1, []), zN, zN, some (9, 3, 5, 0, 1, []), zN, zN, some (17, 3, 0, 6, 0, []), zN, zN, some (3, 2, 4, 0, 0, []), zN, some (100, 1, 1, 0, 0, [])]
def zk85 : List (Option zC) := [some (3, 1, 1, 0, 0, []), some (15, 3, 2, 20, 0, []), zN, zN, some (3, 1, 2, 0, 0, []), some (1, 1, 0, 0, 1, []), some (16, 3, 2, 20, 0, []), zN, zN, some (3, 1, 2, 0, 0, []), some (1, 3, 2, 0, 2000, []), zN, zN, some (16, 3, 4, 20, 0, []), zN, zN, some (3, 1, 3, 0, 0, []), some (15, 3, 3, 26, 0, []), zN, zN, some (5, 1, 0, 0, 0, []), some (1, 1, 0, 0, 1, []), some (101, 3, 13, 0, 2, [86, 1262]), zN, zN, some (100, 1, 1, 0, 0, []), some (1, 1, 0, 0, 0, []), some (6, 2, 4, 0, 0, []), zN, some (1, 1, 0, 0, 1, []), some (6, 2, 5, 0, 0, []), zN, some (3, 2, 5, 0, 0, []), zN, some (3, 1, 2, 0, 0, []), some (16, 3, 4, 75, 0, []), zN, zN, some (5, 1, 0, 0, 0, []), some (3, 2, 5, 0, 0, []), zN, some (101, 3, 52, 0, 2, [138, 2233]), zN, zN, some (3, 1, 1, 0, 0, []), some (13, 1, 1, 0, 0, []), some (14, 1, 0, 0, 0, []), some (15, 3, 0, 53, 0, []), zN, zN, some (17, 3, 0, 69, 0, []), zN, zN, some (3, 2, 4, 0, 0, []), zN, some (3, 1, 3, 0, 0, []), some (16, 3, 1, 66, 0, []), zN, zN, some (5, 1, 0, 0, 0, []), some (3, 2, 5, 0, 0, []), zN, some (101, 3, 39, 0, 2, [108, 2181]), zN, zN, some (100, 1, 1, 0, 0, []), some (9, 3, 4, 0, 1, []), zN, zN, some (9, 3, 5, 0, 1, []), zN, zN, some (17, 3, 0, 32, 0, []), zN, zN, some (5, 1, 0, 0, 0, []), some (1, 1, 0, 0, 5, []), some (101, 3, 13, 0, 2, [86, 1262]), zN, zN, some (100, 1, 1, 0, 0, [])]
def zk86 : List (Option zC) := [some (3, 1, 1, 0, 0, []), some (1, 1, 0, 0, 1, []), some (16, 3, 2, 20, 0, []), zN, zN, some (3, 1, 1, 0, 0, []), some (1, 3, 2, 0, 500, []), zN, zN, some (16, 3, 4, 20, 0, []), zN, zN, some (3, 1, 2, 0, 0, []), some (1, 1, 0, 0, 3, []), some (101, 3, 44, 1, 2, [124, 2202]), zN, zN, some (15, 3, 1, 26, 0, []), zN, zN, some (5, 1, 0, 0, 0, []), some (1, 1, 0, 0, 1, []), some (101, 3, 13, 0, 2, [86, 1262]), zN, zN, some (100, 1, 1, 0, 0, []), some (5, 1, 0, 0, 0, []), some (3, 1, 1, 0, 0, []), some (101, 3, 87, 0, 2, [197, 3158]), zN, zN, some (5, 1, 0, 0, 0, []), some (3, 1, 1, 0, 0, []), some (101, 3, 89, 0, 2, [200, 3167]), zN, zN, some (1, 1, 0, 0, 0, []), some (6, 1, 3, 0, 0, []), some (1, 1, 0, 0, 0, []), some (6, 2, 4, 0, 0, []), zN, some (1, 1, 0, 0, 1, []), some (6, 2, 5, 0, 0, []), zN, some (1, 1, 0, 0, 1, []), some (6, 2, 6, 0, 0, []), zN, some (3, 2, 6, 0, 0, []), zN, some (3, 1, 1, 0, 0, []), some (16, 3, 4, 121, 0, []), zN, zN, some (3, 2, 6, 0, 0, []), zN, some (5, 1, 0, 0, 0, []), some (18, 3, 5, 8, 55, [1208]), zN, zN, some (20, 1, 0, 0, 0, []), some (16, 3, 3, 121, 0, []), zN, zN, some (5, 1, 0, 0, 0, []), some (18, 3, 5, 8, 55, [1208]), zN, zN, some (3, 2, 6, 0, 0, []), zN, some (21, 1, 1, 0, 0, []), some (2, 1, 0, 0, 0, []), some (14, 1, 0, 0, 0, []), some (15, 3, 5, 78, 0, []), zN, zN, some (9, 3, 3, 0, 1, []), zN, zN, some (5, 1, 0, 0, 0, []), some (18, 3, 5, 8, 55, [1208]), zN, zN, some (3, 2, 6, 0, 0, []), zN, some (21, 1, 1, 0, 0, []), some (2, 1, 0, 0, 1, []), some (14, 1, 0, 0, 0, []), some (15, 3, 1, 93, 0, []), zN, zN, some (9, 3, 4, 0, 1, []), zN, zN, some (5, 1, 0, 0, 0, []), some (18, 3, 5, 8, 55, [1208]), zN, zN, some (3, 2, 6, 0, 0, []), zN, some (21, 1, 1, 0, 0, []), some (5, 1, 0, 0, 0, []), some (18, 3, 5, 8, 55, [1208]), zN, zN, some (3, 2, 5, 0, 0, []), zN, some (21, 1, 1, 0, 0, []), some (14, 1, 0, 0, 0, []), some (15, 3, 5, 115, 0, []), zN, zN, some (3, 2, 6, 0, 0, []), zN, some (6, 2, 5, 0, 0, []), zN, some (9, 3, 6, 0, 1, []), zN, zN, some (17, 3, 0, 47, 0, []), zN, zN, some (3, 1, 2, 0, 0, []), some (30, 26, 0, 174, 0, [148, 154, 167]), zN, zN, zN, zN, zN, zN, zN, zN, zN, zN, zN, zN, zN, zN, zN, zN, zN, zN, zN, zN, zN, zN, zN, zN, zN, some (5, 1, 0, 0, 0, []), some (3, 1, 3, 0, 0, []), some (101, 3, 39, 0, 2, [108, 2181]), zN, zN, some (100, 1, 1, 0, 0, []), some (5, 1, 0, 0, 0, []), some (5, 1, 0, 0, 0, []), some (18, 3, 5, 8, 55, [1208]), zN, zN, some (3, 2, 5, 0, 0, []), zN, some (21, 1, 1, 0, 0, []), some (13, 1, 2, 0, 0, []), some (101, 3, 39, 0, 2, [108, 2181]), zN, zN, some (100, 1, 1, 0, 0, []), some (5, 1, 0, 0, 0, []), some (3, 2, 5, 0, 0, []), zN, some (101, 3, 39, 0, 2, [108, 2181]), zN, zN, some (100, 1, 1, 0, 0, []), some (5, 1, 0, 0, 0, []), some (3, 2, 4, 0, 0, []), zN, some (101, 3, 39, 0, 2, [108, 2181]), zN, zN, some (100, 1, 1, 0, 0, [])]
def zk87 : List (Option zC) := [some (1, 1, 0, 0, 0, []), some (6, 1, 2, 0, 0, []), some (3, 1, 2, 0, 0, []), some (5, 1, 0, 0, 0, []), some (18, 3, 5, 9, 59, [1209]), zN, zN, some (20, 1, 0, 0, 0, []), some (16, 3, 3, 24, 0, []), zN, zN, some (5, 1, 0, 0, 0, []), some (18, 3, 5, 9, 59, [1209]), zN, zN, some (3, 1, 2, 0, 0, []), some (3, 1, 2, 0, 0, []), some (22, 1, 0, 0, 0, []), some (9, 3, 2, 0, 1, []), zN, zN, some (17, 3, 0, 2, 0, []), zN, zN, some (1, 1, 0, 0, 1, []), some (6, 1, 2, 0, 0, []), some (3, 1, 2, 0, 0, []), some (3, 1, 1, 0, 0, []), some (16, 3, 4, 93, 0, []), zN, zN, some (5, 1, 0, 0, 0, []), some (3, 1, 2, 0, 0, []), some (101, 3, 52, 0, 2, [138, 2233]), zN, zN, some (7, 1, 3, 0, 0, []), some (4, 1, 3, 0, 0, []), some (2, 1, 0, 0, 1, []), some (14, 1, 0, 0, 0, []), some (15, 3, 2, 87, 0, []), zN, zN, some (4, 1, 3, 0, 0, []), some (3, 1, 1, 0, 0, []), some (13, 1, 1, 0, 0, []), some (14, 1, 0, 0, 0, []), some (15, 3, 5, 53, 0, []), zN, zN, some (17, 3, 0, 87, 0, []), zN, zN, some (5, 1, 0, 0, 0, []), some (3, 1, 2, 0, 0, []), some (101, 3, 88, 0, 2, [356, 3162]), zN, zN, some (6, 2, 5, 0, 0, []), zN, some (5, 1, 0, 0, 0, []), some (4, 1, 3, 0, 0, []), some (13, 1, 2, 0, 0, []), some (101, 3, 88, 0, 2, [356, 3162]), zN, zN, some (6, 2, 6, 0, 0, []), zN, some (5, 1, 0, 0, 0, []), some (18, 3, 5, 9, 59, [1209]), zN, zN, some (3, 2, 5, 0, 0, []), zN, some (3, 2, 6, 0, 0, []), zN, some (37, 3, 168, 0, 0, [3084]), zN, zN, some (3, 2, 5, 0, 0, []), zN, some (3, 2, 6, 0, 0, []), zN, some (38, 3, 289, 0, 0, [3166]), zN, zN, some (22, 1, 0, 0, 0, []), some (9, 3, 2, 0, 1, []), zN, zN, some (17, 3, 0, 26, 0, []), zN, zN, some (100, 1, 0, 0, 0, [])]
def zk88 : List (Option zC) := [some (3, 1, 1, 0, 0, []), some (6, 1, 2, 0, 0, []), some (1, 1, 0, 0, 0, []), some (6, 1, 3, 0, 0, []), some (3, 1, 3, 0, 0, []), some (5, 1, 0, 0, 0, []), some (18, 3, 5, 9, 59, [1209]), zN, zN, some (20, 1, 0, 0, 0, []), some (16, 3, 3, 36, 0, []), zN, zN, some (5, 1, 0, 0, 0, []), some (18, 3, 5, 9, 59, [1209]), zN, zN, some (3, 1, 2, 0, 0, []), some (21, 1, 0, 0, 0, []), some (3, 1, 2, 0, 0, []), some (16, 3, 3, 36, 0, []), zN, zN, some (5, 1, 0, 0, 0, []), some (18, 3, 5, 9, 59, [1209]), zN, zN, some (3, 1, 2, 0, 0, []), some (21, 1, 0, 0, 0, []), some (6, 1, 2, 0, 0, []), some (9, 3, 3, 0, 1, []), zN, zN, some (17, 3, 0, 4, 0, []), zN, zN, some (3, 1, 2, 0, 0, []), some (100, 1, 1, 0, 0, [])]
def zk89 : List (Option zC) := [some (1, 1, 0, 0, 0, []), some (6, 1, 2, 0, 0, []), some (3, 1, 2, 0, 0, []), some (5, 1, 0, 0, 0, []), some (18, 3, 5, 8, 55, [1208]), zN, zN, some (20, 1, 0, 0, 0, []), some (16, 3, 3, 24, 0, []), zN, zN, some (5, 1, 0, 0, 0, []), some (18, 3, 5, 8, 55, [1208]), zN, zN, some (3, 1, 2, 0, 0, []), some (2, 1, 0, 0, 0, []), some (22, 1, 1, 0, 0, []), some (9, 3, 2, 0, 1, []), zN, zN, some (17, 3, 0, 2, 0, []), zN, zN, some (1, 1, 0, 0, 1, []), some (6, 1, 2, 0, 0, []), some (3, 1, 2, 0, 0, []), some (3, 1, 1, 0, 0, []), some (16, 3, 4, 51, 0, []), zN, zN, some (5, 1, 0, 0, 0, []), some (18, 3, 5, 8, 55, [1208]), zN, zN, some (5, 1, 0, 0, 0, []), some (3, 1, 2, 0, 0, []), some (101, 3, 88, 0, 2, [356, 3162]), zN, zN, some (24, 1, 0, 0, 0, []), some (21, 1, 1, 0, 0, []), some (2, 1, 0, 0, 1, []), some (11, 1, 0, 0, 0, []), some (22, 1, 1, 0, 0, []), some (9, 3, 2, 0, 1, []), zN, zN, some (17, 3, 0, 26, 0, []), zN, zN, some (100, 1, 0, 0, 0, [])]
def zk90 : List (Option zC) := [some (3, 1, 1, 0, 0, []), some (1, 1, 0, 0, 1, []), some (16, 3, 2, 17, 0, []), zN, zN, some (3, 1, 1, 0, 0, []), some (1, 3, 2, 0, 2000, []), zN, zN, some (16, 3, 4, 17, 0, []), zN, zN, some (3, 1, 2, 0, 0, []), some (1, 1, 0, 0, (-1), []), some (16, 3, 3, 23, 0, []), zN, zN, some (5, 1, 0, 0, 0, []), some (1, 1, 0, 0, 1, []), some (101, 3, 13, 0, 2, [86, 1262]), zN, zN, some (100, 1, 1, 0, 0, []), some (2, 1, 0, 0, 0, []), some (7, 1, 3, 0, 0, []), some (1, 1, 0, 0, 1, []), some (6, 2, 5, 0, 0, []), zN, some (1, 1, 0, 0, 0, []), some (6, 2, 6, 0, 0, []), zN, some (1, 1, 0, 0, 1, []), some (6, 2, 7, 0, 0, []), zN, some (3, 2, 7, 0, 0, []), zN, some (3, 1, 1, 0, 0, []), some (16, 3, 4, 98, 0, []), zN, zN, some (5, 1, 0, 0, 0, []), some (18, 3, 5, 1, 19, [1201]), zN, zN, some (3, 2, 7, 0, 0, []), zN, some (101, 3, 69, 0, 2, [176, 3087]), zN, zN, some (7, 2, 8, 0, 0, []), zN, some (4, 2, 8, 0, 0, []), zN, some (3, 2, 5, 0, 0, []), zN, some (13, 1, 1, 0, 0, []), some (11, 1, 2, 0, 0, []), some (4, 1, 3, 0, 0, []), some (3, 2, 7, 0, 0, []), zN, some (13, 1, 1, 0, 0, []), some (11, 1, 2, 0, 0, []), some (14, 1, 0, 0, 0, []), some (15, 3, 4, 69, 0, []), zN, zN, some (17, 3, 0, 92, 0, []), zN, zN, some (4, 2, 8, 0, 0, []), zN, some (7, 1, 3, 0, 0, []), some (3, 2, 7, 0, 0, []), zN, some (6, 2, 5, 0, 0, []), zN, some (3, 2, 6, 0, 0, []), zN, some (3, 1, 2, 0, 0, []), some (16, 3, 1, 89, 0, []), zN, zN, some (5, 1, 0, 0, 0, []), some (3, 2, 7, 0, 0, []), zN, some (101, 3, 39, 0, 2, [108, 2181]), zN, zN, some (100, 1, 1, 0, 0, []), some (9, 3, 6, 0, 1, []), zN, zN, some (9, 3, 7, 0, 1, []), zN, zN, some (17, 3, 0, 34, 0, []), zN, zN, some (5, 1, 0, 0, 0, []), some (3, 1, 2, 0, 0, []), some (3, 2, 6, 0, 0, []), zN, some (101, 3, 82, 0, 3, [190, 3138]), zN, zN, some (100, 1, 1, 0, 0, [])]
def zk91 : List (Option zC) := [some (3, 1, 1, 0, 0, []), some (101, 3, 43, 1, 1, [120, 2198]), zN, zN, some (15, 3, 1, 13, 0, []), zN, zN, some (5, 1, 0, 0, 0, []), some (1, 1, 0, 0, 1, []), some (101, 3, 13, 0, 2, [86, 1262]), zN, zN, some (100, 1, 1, 0, 0, []), some (5, 1, 0, 0, 0, []), some (18, 3, 5, 1, 19, [1201]), zN, zN, some (3, 1, 1, 0, 0, []), some (101, 3, 45, 0, 2, [128, 2205]), zN, zN, some (5, 1, 0, 0, 0, []), some (5, 1, 0, 0, 0, []), some (18, 3, 5, 1, 19, [1201]), zN, zN, some (101, 3, 92, 0, 1, [203, 3179]), zN, zN, some (15, 3, 0, 36, 0, []), zN, zN, some (1, 1, 0, 0, 1, []), some (17, 3, 0, 37, 0, []), zN, zN, some (1, 1, 0, 0, 0, []), some (101, 3, 39, 0, 2, [108, 2181]), zN, zN, some (100, 1, 1, 0, 0, [])]
def zk92 : List (Option zC) := [some (2, 1, 0, 0, 1, []), some (7, 1, 1, 0, 0, []), some (1, 1, 0, 0, 0, []), some (6, 1, 3, 0, 0, []), some (3, 1, 3, 0, 0, []), some (5, 1, 0, 0, 0, []), some (18, 3, 2, 3, 21, [1104]), zN, zN, some (16, 3, 3, 42, 0, []), zN, zN, some (5, 1, 0, 0, 0, []), some (18, 3, 2, 0, 11, [1097]), zN, zN, some (3, 1, 3, 0, 0, []), some (21, 1, 0, 0, 0, []), some (13, 1, 1, 0, 0, []), some (4, 1, 1, 0, 0, []), some (2, 1, 0, 0, 1, []), some (11, 1, 0, 0, 0, []), some (14, 1, 0, 0, 0, []), some (15, 3, 5, 28, 0, []), zN, zN, some (1, 1, 0, 0, 0, []), some (100, 1, 4, 0, 0, []), some (4, 1, 1, 0, 0, []), some (5, 1, 0, 0, 0, []), some (3, 1, 3, 0, 0, []), some (101, 3, 59, 0, 2, [57, 2261]), zN, zN, some (11, 1, 2, 0, 0, []), some (7, 1, 1, 0, 0, []), some (9, 3, 3, 0, 1, []), zN, zN, some (17, 3, 0, 4, 0, []), zN, zN, some (1, 1, 0, 0, 1, []), some (100, 1, 4, 0, 0, [])]
def zk93 : List (Option zC) := [some (3, 1, 1, 0, 0, []), some (101, 3, 43, 1, 1, [120, 2198]), zN, zN, some (15, 3, 0, 12, 0, []), zN, zN, some (3, 1, 2, 0, 0, []), some (1, 1, 0, 0, (-1), []), some (16, 3, 3, 18, 0, []), zN, zN, some (5, 1, 0, 0, 0, []), some (1, 1, 0, 0, 1, []), some (101, 3, 13, 0, 2, [86, 1262]), zN, zN, some (100, 1, 1, 0, 0, []), some (3, 1, 1, 0, 0, []), some (6, 1, 3, 0, 0, []), some (1, 1, 0, 0, 0, []), some (6, 2, 4, 0, 0, []), zN, some (1, 1, 0, 0, 0, []), some (6, 2, 5, 0, 0, []), zN, some (3, 2, 5, 0, 0, []), zN, some (1, 2, 1, 0, 100, []), zN, some (16, 3, 4, 71, 0, []), zN, zN, some (3, 2, 4, 0, 0, []), zN, some (3, 1, 2, 0, 0, []), some (16, 3, 1, 45, 0, []), zN, zN, some (5, 1, 0, 0, 0, []), some (3, 1, 3, 0, 0, []), some (101, 3, 39, 0, 2, [108, 2181]), zN, zN, some (100, 1, 1, 0, 0, []), some (9, 3, 4, 0, 1, []), zN, zN, some (3, 1, 3, 0, 0, []), some (1, 1, 0, 0, 2, []), some (16, 3, 4, 56, 0, []), zN, zN, some (17, 3, 0, 71, 0, []), zN, zN, some (5, 1, 0, 0, 0, []), some (18, 3, 5, 1, 19, [1201]), zN, zN, some (3, 1, 3, 0, 0, []), some (101, 3, 71, 0, 2, [162, 3095]), zN, zN, some (6, 1, 3, 0, 0, []), some (9, 3, 5, 0, 1, []), zN, zN, some (17, 3, 0, 26, 0, []), zN, zN, some (5, 1, 0, 0, 0, []), some (3, 1, 2, 0, 0, []), some (3, 2, 4, 0, 0, []), zN, some (101, 3, 82, 0, 3, [190, 3138]), zN, zN, some (100, 1, 1, 0, 0, [])]
def zk94 : List (Option zC) := [some (3, 1, 1, 0, 0, []), some (101, 3, 43, 1, 1, [120, 2198]), zN, zN, some (15, 3, 0, 15, 0, []), zN, zN, some (3, 1, 3, 0, 0, []), some (1, 1, 0, 0, 1, []), some (101, 3, 44, 1, 2, [124, 2202]), zN, zN, some (15, 3, 1, 22, 0, []), zN, zN, some (5, 1, 0, 0, 0, []), some (1, 1, 0, 0, 1, []), some (101, 3, 13, 0, 2, [86, 1262]), zN, zN, some (13, 1, 1, 0, 0, []), some (100, 1, 2, 0, 0, []), some (5, 1, 0, 0, 0, []), some (18, 3, 5, 1, 19, [1201]), zN, zN, some (3, 1, 1, 0, 0, []), some (101, 3, 69, 0, 2, [176, 3087]), zN, zN, some (7, 2, 4, 0, 0, []), zN, some (5, 1, 0, 0, 0, []), some (18, 3, 5, 1, 19, [1201]), zN, zN, some (3, 1, 1, 0, 0, []), some (101, 3, 71, 0, 2, [162, 3095]), zN, zN, some (6, 2, 6, 0, 0, []), zN, some (3, 1, 2, 0, 0, []), some (15, 3, 0, 63, 0, []), zN, zN, some (5, 1, 0, 0, 0, []), some (3, 1, 1, 0, 0, []), some (13, 1, 1, 0, 0, []), some (3, 2, 6, 0, 0, []), zN, some (13, 1, 1, 0, 0, []), some (11, 1, 2, 0, 0, []), some (4, 2, 4, 0, 0, []), zN, some (3, 1, 3, 0, 0, []), some (101, 3, 77, 1, 3, [179, 3118]), zN, zN, some (101, 3, 60, 0, 2, [142, 2265]), zN, zN, some (100, 1, 2, 0, 0, []), some (5, 1, 0, 0, 0, []), some (4, 2, 4, 0, 0, []), zN, some (3, 2, 6, 0, 0, []), zN, some (13, 1, 1, 0, 0, []), some (3, 1, 3, 0, 0, []), some (101, 3, 77, 1, 3, [179, 3118]), zN, zN, some (101, 3, 60, 0, 2, [142, 2265]), zN, zN, some (100, 1, 2, 0, 0, [])]
def zk95 : List (Option zC) := [some (3, 1, 1, 0, 0, []), some (1, 1, 0, 0, 1, []), some (16, 3, 2, 32, 0, []), zN, zN, some (3, 1, 1, 0, 0, []), some (1, 3, 2, 0, 500, []), zN, zN, some (16, 3, 4, 32, 0, []), zN, zN, some (3, 1, 2, 0, 0, []), some (1, 1, 0, 0, 1, []), some (16, 3, 2, 32, 0, []), zN, zN, some (3, 1, 2, 0, 0, []), some (1, 3, 2, 0, 2000, []), zN, zN, some (16, 3, 4, 32, 0, []), zN, zN, some (3, 1, 3, 0, 0, []), some (1, 1, 0, 0, 1, []), some (101, 3, 44, 1, 2, [124, 2202]), zN, zN, some (15, 3, 1, 38, 0, []), zN, zN, some (5, 1, 0, 0, 0, []), some (1, 1, 0, 0, 1, []), some (101, 3, 13, 0, 2, [86, 1262]), zN, zN, some (100, 1, 1, 0, 0, []), some (5, 1, 0, 0, 0, []), some (101, 3, 96, 0, 1, [207, 3195]), zN, zN, some (1, 1, 0, 0, 1, []), some (6, 2, 4, 0, 0, []), zN, some (3, 2, 4, 0, 0, []), zN, some (3, 1, 2, 0, 0, []), some (16, 3, 4, 90, 0, []), zN, zN, some (5, 1, 0, 0, 0, []), some (3, 2, 4, 0, 0, []), zN, some (101, 3, 52, 0, 2, [138, 2233]), zN, zN, some (7, 2, 5, 0, 0, []), zN, some (4, 2, 5, 0, 0, []), zN, some (5, 1, 0, 0, 0, []), some (18, 3, 5, 9, 59, [1209]), zN, zN, some (20, 1, 0, 0, 0, []), some (13, 1, 1, 0, 0, []), some (14, 1, 0, 0, 0, []), some (15, 3, 3, 84, 0, []), zN, zN, some (5, 1, 0, 0, 0, []), some (18, 3, 5, 9, 59, [1209]), zN, zN, some (2, 1, 0, 0, 0, []), some (4, 2, 5, 0, 0, []), zN, some (39, 3, 210, 0, 0, [3074]), zN, zN, some (13, 1, 2, 0, 0, []), some (1, 1, 0, 0, 1, []), some (22, 1, 0, 0, 0, []), some (9, 3, 4, 0, 1, []), zN, zN, some (17, 3, 0, 45, 0, []), zN, zN, some (1, 1, 0, 0, 0, []), some (6, 2, 4, 0, 0, []), zN, some (1, 1, 0, 0, 0, []), some (6, 2, 5, 0, 0, []), zN, some (1, 1, 0, 0, 1, []), some (6, 2, 6, 0, 0, []), zN, some (3, 2, 6, 0, 0, []), zN, some (3, 1, 1, 0, 0, []), some (16, 3, 4, 138, 0, []), zN, zN, some (3, 2, 6, 0, 0, []), zN, some (5, 1, 0, 0, 0, []), some (18, 3, 5, 9, 59, [1209]), zN, zN, some (20, 1, 0, 0, 0, []), some (16, 3, 3, 138, 0, []), zN, zN, some (5, 1, 0, 0, 0, []), some (18, 3, 5, 9, 59, [1209]), zN, zN, some (3, 2, 6, 0, 0, []), zN, some (21, 1, 0, 0, 0, []), some (15, 3, 1, 132, 0, []), zN, zN, some (9, 3, 4, 0, 1, []), zN, zN, some (3, 2, 6, 0, 0, []), zN, some (6, 2, 5, 0, 0, []), zN, some (9, 3, 6, 0, 1, []), zN, zN, some (17, 3, 0, 99, 0, []), zN, zN, some (3, 1, 3, 0, 0, []), some (15, 3, 1, 149, 0, []), zN, zN, some (5, 1, 0, 0, 0, []), some (3, 2, 4, 0, 0, []), zN, some (101, 3, 39, 0, 2, [108, 2181]), zN, zN, some (100, 1, 1, 0, 0, []), some (3, 2, 4, 0, 0, []), zN, some (15, 3, 1, 162, 0, []), zN, zN, some (5, 1, 0, 0, 0, []), some (1, 1, 0, 0, 5, []), some (101, 3, 13, 0, 2, [86, 1262]), zN, zN, some (17, 3, 0, 168, 0, []), zN, zN, some (5, 1, 0, 0, 0, []), some (3, 2, 5, 0, 0, []), zN, some (101, 3, 39, 0, 2, [108, 2181]), zN, zN, some (100, 1, 1, 0, 0, [])]
def zk96 : List (Option zC) := [some (1, 1, 0, 0, 0, []), some (6, 1, 1, 0, 0, []), some (3, 1, 1, 0, 0, []), some (5, 1, 0, 0, 0, []), some (18, 3, 5, 9, 59, [1209]), zN, zN, some (20, 1, 0, 0, 0, []), some (16, 3, 3, 24, 0, []), zN, zN, some (5, 1, 0, 0, 0, []), some (18, 3, 5, 9, 59, [1209]), zN, zN, some (3, 1, 1, 0, 0, []), some (1, 1, 0, 0, 0, []), some (22, 1, 0, 0, 0, []), some (9, 3, 1, 0, 1, []), zN, zN, some (17, 3, 0, 2, 0, []), zN, zN, some (100, 1, 0, 0, 0, [])]
def zk97 : List (Option zC) := [some (3, 1, 1, 0, 0, []), some (101, 3, 43, 1, 1, [120, 2198]), zN, zN, some (15, 3, 1, 13, 0, []), zN, zN, some (5, 1, 0, 0, 0, []), some (1, 1, 0, 0, 1, []), some (101, 3, 13, 0, 2, [86, 1262]), zN, zN, some (100, 1, 1, 0, 0, []), some (5, 1, 0, 0, 0, []), some (5, 1, 0, 0, 0, []), some (3, 1, 1, 0, 0, []), some (101, 3, 98, 0, 2, [213, 3203]), zN, zN, some (15, 3, 0, 26, 0, []), zN, zN, some (1, 1, 0, 0, 1, []), some (17, 3, 0, 27, 0, []), zN, zN, some (1, 1, 0, 0, 0, []), some (101, 3, 39, 0, 2, [108, 2181]), zN, zN, some (100, 1, 1, 0, 0, [])]
def zk98 : List (Option zC) := [some (5, 1, 0, 0, 0, []), some (1, 1, 0, 0, 0, []), some (3, 1, 1, 0, 0, []), some (101, 3, 62, 0, 3, [146, 2273]), zN, zN, some (1, 1, 0, 0, 2, []), some (16, 3, 0, 12, 0, []), zN, zN, some (1, 1, 0, 0, 0, []), some (100, 1, 4, 0, 0, []), some (5, 1, 0, 0, 0, []), some (18, 3, 5, 1, 19, [1201]), zN, zN, some (3, 1, 1, 0, 0, []), some (101, 3, 45, 0, 2, [128, 2205]), zN, zN, some (5, 1, 0, 0, 0, []), some (18, 3, 5, 1, 19, [1201]), zN, zN, some (18, 3, 2, 3, 131, [1106]), zN, zN, some (6, 1, 2, 0, 0, []), some (1, 1, 0, 0, 0, []), some (6, 1, 3, 0, 0, []), some (3, 1, 3, 0, 0, []), some (3, 1, 2, 0, 0, []), some (16, 3, 3, 78, 0, []), zN, zN, some (5, 1, 0, 0, 0, []), some (18, 3, 5, 1, 19, [1201]), zN, zN, some (3, 1, 1, 0, 0, []), some (101, 3, 45, 0, 2, [128, 2205]), zN, zN, some (3, 1, 1, 0, 0, []), some (1, 1, 0, 0, 1, []), some (5, 1, 0, 0, 0, []), some (18, 3, 5, 1, 19, [1201]), zN, zN, some (18, 3, 2, 0, 132, [1099]), zN, zN, some (3, 1, 3, 0, 0, []), some (21, 1, 0, 0, 0, []), some (37, 3, 168, 0, 0, [3084]), zN, zN, some (10, 1, 6, 0, 0, []), some (6, 2, 4, 0, 0, []), zN, some (5, 1, 0, 0, 0, []), some (1, 1, 0, 0, 0, []), some (3, 2, 4, 0, 0, []), zN, some (101, 3, 62, 0, 3, [146, 2273]), zN, zN, some (15, 3, 0, 72, 0, []), zN, zN, some (1, 1, 0, 0, 0, []), some (100, 1, 4, 0, 0, []), some (9, 3, 3, 0, 1, []), zN, zN, some (17, 3, 0, 30, 0, []), zN, zN, some (1, 1, 0, 0, 1, []), some (100, 1, 4, 0, 0, [])]
def zk99 : List (Option zC) := [some (3, 1, 1, 0, 0, []), some (15, 3, 2, 23, 0, []), zN, zN, some (3, 1, 1, 0, 0, []), some (1, 3, 2, 0, 2000, []), zN, zN, some (16, 3, 4, 23, 0, []), zN, zN, some (3, 1, 2, 0, 0, []), some (1, 1, 0, 0, 1, []), some (16, 3, 2, 23, 0, []), zN, zN, some (3, 1, 2, 0, 0, []), some (1, 3, 2, 0, 500, []), zN, zN, some (16, 3, 5, 29, 0, []), zN, zN, some (5, 1, 0, 0, 0, []), some (1, 1, 0, 0, 1, []), some (101, 3, 13, 0, 2, [86, 1262]), zN, zN, some (100, 1, 1, 0, 0, []), some (5, 1, 0, 0, 0, []), some (3, 1, 2, 0, 0, []), some (101, 3, 100, 0, 2, [216, 3211]), zN, zN, some (1, 1, 0, 0, 0, []), some (6, 1, 3, 0, 0, []), some (1, 1, 0, 0, 1, []), some (6, 2, 4, 0, 0, []), zN, some (3, 2, 4, 0, 0, []), zN, some (3, 1, 2, 0, 0, []), some (16, 3, 4, 64, 0, []), zN, zN, some (3, 1, 3, 0, 0, []), some (5, 1, 0, 0, 0, []), some (3, 1, 1, 0, 0, []), some (3, 2, 4, 0, 0, []), zN, some (3, 1, 2, 0, 0, []), some (101, 3, 101, 0, 4, [219, 3215]), zN, zN, some (37, 3, 168, 0, 0, [3084]), zN, zN, some (6, 1, 3, 0, 0, []), some (9, 3, 4, 0, 1, []), zN, zN, some (17, 3, 0, 39, 0, []), zN, zN, some (5, 1, 0, 0, 0, []), some (3, 1, 3, 0, 0, []), some (101, 3, 39, 0, 2, [108, 2181]), zN, zN, some (100, 1, 1, 0, 0, [])]
def zk100 : List (Option zC) := [some (1, 1, 0, 0, 1, []), some (6, 1, 2, 0, 0, []), some (3, 1, 2, 0, 0, []), some (3, 1, 1, 0, 0, []), some (16, 3, 4, 33, 0, []), zN, zN, some (3, 1, 2, 0, 0, []), some (5, 1, 0, 0, 0, []), some (18, 3, 5, 8, 55, [1208]), zN, zN, some (20, 1, 0, 0, 0, []), some (16, 3, 3, 33, 0, []), zN, zN, some (5, 1, 0, 0, 0, []), some (18, 3, 5, 8, 55, [1208]), zN, zN, some (3, 1, 2, 0, 0, []), some (5, 1, 0, 0, 0, []), some (3, 1, 2, 0, 0, []), some (101, 3, 52, 0, 2, [138, 2233]), zN, zN, some (22, 1, 1, 0, 0, []), some (9, 3, 2, 0, 1, []), zN, zN, some (17, 3, 0, 2, 0, []), zN, zN, some (100, 1, 0, 0, 0, [])]
def zk101 : List (Option zC) := [some (3, 1, 2, 0, 0, []), some (13, 1, 1, 0, 0, []), some (7, 2, 4, 0, 0, []), zN, some (1, 1, 0, 0, 1, []), some (6, 2, 6, 0, 0, []), zN, some (3, 2, 6, 0, 0, []), zN, some (3, 1, 3, 0, 0, []), some (1, 1, 0, 0, 1, []), some (10, 1, 0, 0, 0, []), some (16, 3, 4, 73, 0, []), zN, zN, some (5, 1, 0, 0, 0, []), some (18, 3, 5, 8, 55, [1208]), zN, zN, some (4, 2, 4, 0, 0, []), zN, some (13, 1, 2, 0, 0, []), some (21, 1, 1, 0, 0, []), some (7, 2, 7, 0, 0, []), zN, some (4, 2, 7, 0, 0, []), zN, some (4, 2, 4, 0, 0, []), zN, some (14, 1, 0, 0, 0, []), some (15, 3, 1, 35, 0, []), zN, zN, some (1, 1, 0, 0, 0, []), some (100, 1, 1, 0, 0, []), some (4, 2, 7, 0, 0, []), zN, some (3, 1, 1, 0, 0, []), some (13, 1, 1, 0, 0, []), some (14, 1, 0, 0, 0, []), some (15, 3, 1, 46, 0, []), zN, zN, some (3, 2, 6, 0, 0, []), zN, some (100, 1, 1, 0, 0, []), some (4, 2, 7, 0, 0, []), zN, some (2, 1, 0, 0, 1, []), some (14, 1, 0, 0, 0, []), some (15, 3, 2, 61, 0, []), zN, zN, some (4, 2, 7, 0, 0, []), zN, some (3, 1, 3, 0, 0, []), some (13, 1, 1, 0, 0, []), some (14, 1, 0, 0, 0, []), some (15, 3, 5, 63, 0, []), zN, zN, some (1, 1, 0, 0, 0, []), some (100, 1, 1, 0, 0, []), some (4, 2, 7, 0, 0, []), zN, some (7, 2, 4, 0, 0, []), zN, some (9, 3, 6, 0, 1, []), zN, zN, some (17, 3, 0, 7, 0, []), zN, zN, some (1, 1, 0, 0, 0, []), some (100, 1, 1, 0, 0, [])]
def zk102 : List (Option zC) := [some (3, 1, 1, 0, 0, []), some (1, 1, 0, 0, 2, []), some (16, 3, 2, 19, 0, []), zN, zN, some (3, 1, 1, 0, 0, []), some (1, 2, 1, 0, 15, []), zN, some (16, 3, 4, 19, 0, []), zN, zN, some (3, 1, 2, 0, 0, []), some (1, 1, 0, 0, 2, []), some (101, 3, 44, 1, 2, [124, 2202]), zN, zN, some (15, 3, 1, 25, 0, []), zN, zN, some (5, 1, 0, 0, 0, []), some (1, 1, 0, 0, 1, []), some (101, 3, 13, 0, 2, [86, 1262]), zN, zN, some (100, 1, 1, 0, 0, []), some (1, 1, 0, 0, 1, []), some (3, 1, 1, 0, 0, []), some (10, 1, 8, 0, 0, []), some (1, 1, 0, 0, 1, []), some (10, 1, 1, 0, 0, []), some (6, 1, 3, 0, 0, []), some (3, 1, 3, 0, 0, []), some (3, 1, 1, 0, 0, []), some (1, 1, 0, 0, 1, []), some (10, 1, 1, 0, 0, []), some (10, 1, 8, 0, 0, []), some (6, 2, 4, 0, 0, []), zN, some (3, 1, 2, 0, 0, []), some (36, 25, 0, 92, 0, [0, 64, 1, 85]), zN, zN, zN, zN, zN, zN, zN, zN, zN, zN, zN, zN, zN, zN, zN, zN, zN, zN, zN, zN, zN, zN, zN, zN, some (5, 1, 0, 0, 0, []), some (5, 1, 0, 0, 0, []), some (18, 3, 5, 1, 19, [1201]), zN, zN, some (3, 1, 3, 0, 0, []), some (101, 3, 103, 0, 2, [222, 3223]), zN, zN, some (15, 3, 0, 80, 0, []), zN, zN, some (1, 1, 0, 0, 1, []), some (17, 3, 0, 81, 0, []), zN, zN, some (1, 1, 0, 0, 0, []), some (101, 3, 39, 0, 2, [108, 2181]), zN, zN, some (100, 1, 1, 0, 0, []), some (5, 1, 0, 0, 0, []), some (3, 2, 4, 0, 0, []), zN, some (101, 3, 39, 0, 2, [108, 2181]), zN, zN, some (100, 1, 1, 0, 0, []), some (5, 1, 0, 0, 0, []), some (5, 1, 0, 0, 0, []), some (1, 1, 0, 0, 0, []), some (3, 2, 4, 0, 0, []), zN, some (101, 3, 62, 0, 3, [146, 2273]), zN, zN, some (101, 3, 39, 0, 2, [108, 2181]), zN, zN, some (100, 1, 1, 0, 0, [])]
def zk103 : List (Option zC) := [some (5, 1, 0, 0, 0, []), some (3, 1, 1, 0, 0, []), some (101, 3, 45, 0, 2, [49, 2241]), zN, zN, some (5, 1, 0, 0, 0, []), some (18, 3, 2, 3, 21, [1104]), zN, zN, some (1, 1, 0, 0, 1, []), some (16, 3, 1, 27, 0, []), zN, zN, some (5, 1, 0, 0, 0, []), some (18, 3, 2, 1, 15, [1100]), zN, zN, some (1, 1, 0, 0, 0, []), some (21, 1, 0, 0, 0, []), some (1, 1, 0, 0, 1, []), some (16, 3, 1, 27, 0, []), zN, zN, some (1, 1, 0, 0, 1, []), some (17, 3, 0, 28, 0, []), zN, zN, some (1, 1, 0, 0, 0, []), some (100, 1, 4, 0, 0, [])]
def zk104 : List (Option zC) := [some (3, 1, 1, 0, 0, []), some (15, 3, 2, 24, 0, []), zN, zN, some (3, 1, 2, 0, 0, []), some (1, 1, 0, 0, 1, []), some (16, 3, 2, 24, 0, []), zN, zN, some (3, 1, 2, 0, 0, []), some (1, 3, 2, 0, 2000, []), zN, zN, some (16, 3, 4, 24, 0, []), zN, zN, some (3, 1, 3, 0, 0, []), some (1, 1, 0, 0, 1, []), some (101, 3, 44, 1, 2, [124, 2202]), zN, zN, some (15, 3, 1, 30, 0, []), zN, zN, some (5, 1, 0, 0, 0, []), some (1, 1, 0, 0, 1, []), some (101, 3, 13, 0, 2, [86, 1262]), zN, zN, some (100, 1, 1, 0, 0, []), some (1, 1, 0, 0, 0, []), some (6, 2, 4, 0, 0, []), zN, some (1, 1, 0, 0, 0, []), some (6, 2, 5, 0, 0, []), zN, some (1, 1, 0, 0, 1, []), some (6, 2, 6, 0, 0, []), zN, some (3, 2, 6, 0, 0, []), zN, some (3, 1, 2, 0, 0, []), some (16, 3, 4, 81, 0, []), zN, zN, some (5, 1, 0, 0, 0, []), some (3, 2, 6, 0, 0, []), zN, some (101, 3, 52, 0, 2, [138, 2233]), zN, zN, some (3, 1, 1, 0, 0, []), some (13, 1, 1, 0, 0, []), some (14, 1, 0, 0, 0, []), some (15, 3, 1, 75, 0, []), zN, zN, some (9, 3, 4, 0, 1, []), zN, zN, some (3, 2, 4, 0, 0, []), zN, some (1, 1, 0, 0, 1, []), some (16, 3, 1, 71, 0, []), zN, zN, some (3, 2, 6, 0, 0, []), zN, some (17, 3, 0, 73, 0, []), zN, zN, some (3, 2, 5, 0, 0, []), zN, some (6, 2, 5, 0, 0, []), zN, some (9, 3, 6, 0, 1, []), zN, zN, some (17, 3, 0, 39, 0, []), zN, zN, some (3, 1, 3, 0, 0, []), some (15, 3, 1, 92, 0, []), zN, zN, some (5, 1, 0, 0, 0, []), some (3, 2, 4, 0, 0, []), zN, some (101, 3, 39, 0, 2, [108, 2181]), zN, zN, some (100, 1, 1, 0, 0, []), some (3, 2, 4, 0, 0, []), zN, some (15, 3, 1, 105, 0, []), zN, zN, some (5, 1, 0, 0, 0, []), some (1, 1, 0, 0, 5, []), some (101, 3, 13, 0, 2, [86, 1262]), zN, zN, some (17, 3, 0, 111, 0, []), zN, zN, some (5, 1, 0, 0, 0, []), some (3, 2, 5, 0, 0, []), zN, some (101, 3, 39, 0, 2, [108, 2181]), zN, zN, some (100, 1, 1, 0, 0, [])]
def zk105 : List (Option zC) := [some (5, 1, 0, 0, 0, []), some (3, 1, 1, 0, 0, []), some (101, 3, 106, 0, 2, [225, 3235]), zN, zN, some (15, 3, 1, 14, 0, []), zN, zN, some (5, 1, 0, 0, 0, []), some (1, 1, 0, 0, 2, []), some (101, 3, 13, 0, 2, [86, 1262]), zN, zN, some (100, 1, 1, 0, 0, []), some (5, 1, 0, 0, 0, []), some (5, 1, 0, 0, 0, []), some (18, 3, 5, 2, 26, [1202]), zN, zN, some (18, 3, 0, 0, 228, [1128]), zN, zN, some (3, 1, 1, 0, 0, []), some (21, 1, 0, 0, 0, []), some (101, 3, 39, 0, 2, [108, 2181]), zN, zN, some (100, 1, 1, 0, 0, [])]
def zk106 : List (Option zC) := [some (3, 1, 1, 0, 0, []), some (15, 3, 2, 28, 0, []), zN, zN, some (3, 1, 1, 0, 0, []), some (5, 1, 0, 0, 0, []), some (18, 3, 5, 2, 26, [1202]), zN, zN, some (18, 3, 0, 1, 105, [1130]), zN, zN, some (16, 3, 3, 28, 0, []), zN, zN, some (3, 1, 1, 0, 0, []), some (5, 1, 0, 0, 0, []), some (18, 3, 5, 5, 39, [1205]), zN, zN, some (20, 1, 0, 0, 0, []), some (16, 3, 3, 28, 0, []), zN, zN, some (1, 1, 0, 0, 1, []), some (17, 3, 0, 29, 0, []), zN, zN, some (1, 1, 0, 0, 0, []), some (100, 1, 4, 0, 0, [])]
def zk107 : List (Option zC) := [some (3, 1, 2, 0, 0, []), some (1, 1, 0, 0, (-1), []), some (16, 3, 3, 11, 0, []), zN, zN, some (5, 1, 0, 0, 0, []), some (1, 1, 0, 0, 1, []), some (101, 3, 13, 0, 2, [86, 1262]), zN, zN, some (100, 1, 1, 0, 0, []), some (5, 1, 0, 0, 0, []), some (3, 1, 1, 0, 0, []), some (101, 3, 106, 0, 2, [225, 3235]), zN, zN, some (15, 3, 1, 25, 0, []), zN, zN, some (5, 1, 0, 0, 0, []), some (1, 1, 0, 0, 2, []), some (101, 3, 13, 0, 2, [86, 1262]), zN, zN, some (100, 1, 1, 0, 0, []), some (5, 1, 0, 0, 0, []), some (3, 1, 1, 0, 0, []), some (101, 3, 108, 0, 2, [231, 3243]), zN, zN, some (8, 1, 3, 0, 0, []), some (3, 1, 2, 0, 0, []), some (1, 1, 0, 0, (-1), []), some (16, 3, 1, 45, 0, []), zN, zN, some (5, 1, 0, 0, 0, []), some (5, 1, 3, 0, 0, []), some (18, 3, 4, 1, 235, [1167]), zN, zN, some (101, 3, 39, 0, 2, [108, 2181]), zN, zN, some (100, 1, 1, 0, 0, []), some (3, 1, 2, 0, 0, []), some (5, 1, 3, 0, 0, []), some (18, 3, 4, 1, 235, [1167]), zN, zN, some (16, 3, 3, 66, 0, []), zN, zN, some (5, 1, 0, 0, 0, []), some (5, 1, 3, 0, 0, []), some (18, 3, 4, 0, 236, [1164]), zN, zN, some (3, 1, 2, 0, 0, []), some (21, 1, 0, 0, 0, []), some (101, 3, 39, 0, 2, [108, 2181]), zN, zN, some (17, 3, 0, 71, 0, []), zN, zN, some (5, 1, 0, 0, 0, []), some (1, 1, 0, 0, 5, []), some (101, 3, 13, 0, 2, [86, 1262]), zN, zN, some (100, 1, 1, 0, 0, [])]
def zk108 : List (Option zC) := [some (5, 1, 0, 0, 0, []), some (18, 3, 5, 5, 39, [1205]), zN, zN, some (3, 1, 1, 0, 0, []), some (21, 1, 4, 0, 0, []), some (8, 1, 2, 0, 0, []), some (5, 1, 2, 0, 0, []), some (18, 3, 4, 4, 342, [1173]), zN, zN, some (15, 3, 1, 42, 0, []), zN, zN, some (5, 1, 2, 0, 0, []), some (5, 1, 0, 0, 0, []), some (18, 3, 5, 2, 26, [1202]), zN, zN, some (18, 3, 0, 0, 228, [1128]), zN, zN, some (3, 1, 1, 0, 0, []), some (21, 1, 0, 0, 0, []), some (5, 1, 0, 0, 0, []), some (18, 3, 5, 2, 26, [1202]), zN, zN, some (18, 3, 0, 4, 117, [1142]), zN, zN, some (5, 1, 0, 0, 0, []), some (18, 3, 5, 2, 26, [1202]), zN, zN, some (5, 1, 0, 0, 0, []), some (18, 3, 5, 1, 19, [1201]), zN, zN, some (101, 3, 109, 0, 5, [279, 3247]), zN, zN, some (5, 1, 2, 0, 0, []), some (100, 1, 3, 0, 0, [])]
def zk109 : List (Option zC) := [some (5, 1, 0, 0, 0, []), some (18, 3, 4, 0, 9, [1162]), zN, zN, some (1, 1, 0, 0, 0, []), some (3, 1, 1, 0, 0, []), some (22, 1, 0, 0, 0, []), some (5, 1, 0, 0, 0, []), some (1, 1, 0, 0, 1, []), some (19, 3, 4, 1, 15, [1165]), zN, zN, some (5, 1, 0, 0, 0, []), some (1, 1, 0, 0, 3, []), some (19, 3, 4, 2, 19, [1168]), zN, zN, some (5, 1, 0, 0, 0, []), some (1, 1, 0, 0, (-1), []), some (19, 3, 4, 3, 22, [1170]), zN, zN, some (5, 1, 0, 0, 0, []), some (1, 1, 0, 0, 1, []), some (19, 3, 4, 4, 25, [1172]), zN, zN, some (1, 1, 0, 0, 1, []), some (6, 2, 5, 0, 0, []), zN, some (3, 2, 5, 0, 0, []), zN, some (5, 1, 3, 0, 0, []), some (18, 3, 0, 3, 29, [1137]), zN, zN, some (16, 3, 4, 146, 0, []), zN, zN, some (3, 2, 5, 0, 0, []), zN, some (5, 1, 0, 0, 0, []), some (18, 3, 4, 0, 9, [1162]), zN, zN, some (20, 1, 0, 0, 0, []), some (16, 3, 3, 146, 0, []), zN, zN, some (5, 2, 4, 0, 0, []), zN, some (3, 1, 2, 0, 0, []), some (5, 1, 0, 0, 0, []), some (18, 3, 4, 0, 9, [1162]), zN, zN, some (3, 2, 5, 0, 0, []), zN, some (1, 1, 0, 0, 1, []), some (10, 1, 1, 0, 0, []), some (21, 1, 0, 0, 0, []), some (101, 3, 53, 0, 3, [34, 3251]), zN, zN, some (7, 2, 6, 0, 0, []), zN, some (5, 1, 0, 0, 0, []), some (5, 1, 0, 0, 0, []), some (4, 2, 6, 0, 0, []), zN, some (101, 3, 110, 0, 2, [40, 3252]), zN, zN, some (19, 3, 4, 3, 22, [1170]), zN, zN, some (5, 1, 0, 0, 0, []), some (18, 3, 4, 3, 22, [1170]), zN, zN, some (1, 1, 0, 0, (-1), []), some (16, 3, 0, 90, 0, []), zN, zN, some (5, 1, 0, 0, 0, []), some (1, 1, 0, 0, 1, []), some (19, 3, 4, 2, 19, [1168]), zN, zN, some (100, 1, 0, 0, 0, []), some (4, 2, 6, 0, 0, []), zN, some (5, 1, 3, 0, 0, []), some (18, 3, 0, 2, 44, [1133]), zN, zN, some (13, 1, 1, 0, 0, []), some (14, 1, 0, 0, 0, []), some (15, 3, 5, 107, 0, []), zN, zN, some (5, 1, 0, 0, 0, []), some (1, 1, 0, 0, 2, []), some (19, 3, 4, 2, 19, [1168]), zN, zN, some (100, 1, 0, 0, 0, []), some (5, 1, 0, 0, 0, []), some (18, 3, 4, 0, 9, [1162]), zN, zN, some (3, 2, 5, 0, 0, []), zN, some (4, 2, 6, 0, 0, []), zN, some (13, 1, 2, 0, 0, []), some (22, 1, 0, 0, 0, []), some (5, 1, 0, 0, 0, []), some (23, 1, 0, 0, 0, []), some (18, 3, 4, 1, 15, [1165]), zN, zN, some (1, 1, 0, 0, 1, []), some (10, 1, 0, 0, 0, []), some (19, 3, 4, 1, 15, [1165]), zN, zN, some (4, 2, 6, 0, 0, []), zN, some (2, 1, 0, 0, 0, []), some (14, 1, 0, 0, 0, []), some (15, 3, 1, 140, 0, []), zN, zN, some (5, 1, 0, 0, 0, []), some (1, 1, 0, 0, 0, []), some (19, 3, 4, 2, 19, [1168]), zN, zN, some (100, 1, 0, 0, 0, []), some (9, 3, 5, 0, 1, []), zN, zN, some (17, 3, 0, 30, 0, []), zN, zN, some (100, 1, 0, 0, 0, [])]
def zk110 : List (Option zC) := [some (1, 1, 0, 0, 0, []), some (6, 1, 3, 0, 0, []), some (3, 1, 3, 0, 0, []), some (5, 1, 0, 0, 0, []), some (18, 3, 4, 1, 15, [1165]), zN, zN, some (16, 3, 3, 30, 0, []), zN, zN, some (5, 1, 0, 0, 0, []), some (18, 3, 4, 0, 9, [1162]), zN, zN, some (3, 1, 3, 0, 0, []), some (21, 1, 0, 0, 0, []), some (13, 1, 1, 0, 0, []), some (4, 1, 1, 0, 0, []), some (14, 1, 0, 0, 0, []), some (15, 3, 1, 24, 0, []), zN, zN, some (3, 1, 3, 0, 0, []), some (100, 1, 1, 0, 0, []), some (9, 3, 3, 0, 1, []), zN, zN, some (17, 3, 0, 2, 0, []), zN, zN, some (1, 1, 0, 0, (-1), []), some (100, 1, 1, 0, 0, [])]
def zk111 : List (Option zC) := [some (5, 1, 0, 0, 0, []), some (3, 1, 1, 0, 0, []), some (101, 3, 106, 0, 2, [225, 3235]), zN, zN, some (15, 3, 1, 14, 0, []), zN, zN, some (5, 1, 0, 0, 0, []), some (1, 1, 0, 0, 2, []), some (101, 3, 13, 0, 2, [86, 1262]), zN, zN, some (100, 1, 1, 0, 0, []), some (5, 1, 0, 0, 0, []), some (5, 1, 0, 0, 0, []), some (3, 1, 1, 0, 0, []), some (101, 3, 108, 0, 2, [231, 3243]), zN, zN, some (18, 3, 4, 2, 239, [1169]), zN, zN, some (101, 3, 39, 0, 2, [108, 2181]), zN, zN, some (100, 1, 1, 0, 0, [])]
def zk112 : List (Option zC) := [some (3, 1, 2, 0, 0, []), some (1, 1, 0, 0, 2, []), some (101, 3, 44, 1, 2, [124, 2202]), zN, zN, some (15, 3, 1, 14, 0, []), zN, zN, some (5, 1, 0, 0, 0, []), some (1, 1, 0, 0, 1, []), some (101, 3, 13, 0, 2, [86, 1262]), zN, zN, some (100, 1, 1, 0, 0, []), some (5, 1, 0, 0, 0, []), some (3, 1, 1, 0, 0, []), some (101, 3, 106, 0, 2, [225, 3235]), zN, zN, some (15, 3, 1, 28, 0, []), zN, zN, some (5, 1, 0, 0, 0, []), some (1, 1, 0, 0, 2, []), some (101, 3, 13, 0, 2, [86, 1262]), zN, zN, some (100, 1, 1, 0, 0, []), some (5, 1, 0, 0, 0, []), some (3, 1, 1, 0, 0, []), some (101, 3, 108, 0, 2, [231, 3243]), zN, zN, some (8, 1, 3, 0, 0, []), some (5, 1, 3, 0, 0, []), some (18, 3, 4, 2, 239, [1169]), zN, zN, some (1, 1, 0, 0, 1, []), some (16, 3, 0, 48, 0, []), zN, zN, some (5, 1, 0, 0, 0, []), some (1, 1, 0, 0, 5, []), some (101, 3, 13, 0, 2, [86, 1262]), zN, zN, some (100, 1, 1, 0, 0, []), some (3, 1, 2, 0, 0, []), some (36, 27, 0, 99, 0, [0, 76, 1, 85]), zN, zN, zN, zN, zN, zN, zN, zN, zN, zN, zN, zN, zN, zN, zN, zN, zN, zN, zN, zN, zN, zN, zN, zN, zN, zN, some (5, 1, 0, 0, 0, []), some (5, 1, 3, 0, 0, []), some (18, 3, 4, 3, 242, [1171]), zN, zN, some (101, 3, 39, 0, 2, [108, 2181]), zN, zN, some (100, 1, 1, 0, 0, []), some (5, 1, 0, 0, 0, []), some (5, 1, 3, 0, 0, []), some (18, 3, 4, 1, 235, [1167]), zN, zN, some (5, 1, 3, 0, 0, []), some (18, 3, 4, 3, 242, [1171]), zN, zN, some (10, 1, 1, 0, 0, []), some (101, 3, 39, 0, 2, [108, 2181]), zN, zN, some (100, 1, 1, 0, 0, []), some (5, 1, 0, 0, 0, []), some (5, 1, 3, 0, 0, []), some (101, 3, 113, 0, 1, [245, 3264]), zN, zN, some (101, 3, 39, 0, 2, [108, 2181]), zN, zN, some (100, 1, 1, 0, 0, [])]
def zk113 : List (Option zC) := [some (5, 1, 0, 0, 0, []), some (101, 3, 114, 0, 1, [53, 3268]), zN, zN, some (6, 1, 1, 0, 0, []), some (1, 1, 0, 0, 0, []), some (5, 1, 0, 0, 0, []), some (18, 3, 4, 3, 22, [1170]), zN, zN, some (37, 3, 47, 0, 0, [3272]), zN, zN, some (6, 1, 2, 0, 0, []), some (3, 1, 2, 0, 0, []), some (5, 1, 0, 0, 0, []), some (18, 3, 4, 1, 15, [1165]), zN, zN, some (16, 3, 3, 39, 0, []), zN, zN, some (3, 1, 1, 0, 0, []), some (5, 1, 0, 0, 0, []), some (18, 3, 4, 0, 9, [1162]), zN, zN, some (3, 1, 2, 0, 0, []), some (21, 1, 0, 0, 0, []), some (38, 3, 57, 0, 0, [3273]), zN, zN, some (6, 1, 1, 0, 0, []), some (9, 3, 2, 0, 1, []), zN, zN, some (17, 3, 0, 14, 0, []), zN, zN, some (3, 1, 1, 0, 0, []), some (100, 1, 1, 0, 0, [])]
def zk114 : List (Option zC) := [some (5, 1, 0, 0, 0, []), some (18, 3, 4, 0, 9, [1162]), zN, zN, some (1, 1, 0, 0, 0, []), some (5, 1, 0, 0, 0, []), some (18, 3, 4, 1, 15, [1165]), zN, zN, some (1, 1, 0, 0, 1, []), some (10, 1, 1, 0, 0, []), some (37, 3, 47, 0, 0, [3272]), zN, zN, some (21, 1, 0, 0, 0, []), some (100, 1, 1, 0, 0, [])]
def zk115 : List (Option zC) := [some (3, 1, 2, 0, 0, []), some (1, 1, 0, 0, 1, []), some (101, 3, 44, 1, 2, [124, 2202]), zN, zN, some (15, 3, 1, 14, 0, []), zN, zN, some (5, 1, 0, 0, 0, []), some (1, 1, 0, 0, 1, []), some (101, 3, 13, 0, 2, [86, 1262]), zN, zN, some (100, 1, 1, 0, 0, []), some (5, 1, 0, 0, 0, []), some (3, 1, 1, 0, 0, []), some (101, 3, 106, 0, 2, [225, 3235]), zN, zN, some (15, 3, 1, 28, 0, []), zN, zN, some (5, 1, 0, 0, 0, []), some (1, 1, 0, 0, 2, []), some (101, 3, 13, 0, 2, [86, 1262]), zN, zN, some (100, 1, 1, 0, 0, []), some (5, 1, 0, 0, 0, []), some (3, 1, 1, 0, 0, []), some (101, 3, 108, 0, 2, [231, 3243]), zN, zN, some (8, 1, 3, 0, 0, []), some (5, 1, 3, 0, 0, []), some (101, 3, 116, 0, 1, [249, 3278]), zN, zN, some (6, 2, 4, 0, 0, []), zN, some (5, 1, 0, 0, 0, []), some (3, 1, 2, 0, 0, []), some (15, 3, 1, 55, 0, []), zN, zN, some (5, 1, 3, 0, 0, []), some (18, 3, 4, 0, 236, [1164]), zN, zN, some (3, 2, 4, 0, 0, []), zN, some (21, 1, 0, 0, 0, []), some (17, 3, 0, 57, 0, []), zN, zN, some (3, 2, 4, 0, 0, []), zN, some (101, 3, 39, 0, 2, [108, 2181]), zN, zN, some (100, 1, 1, 0, 0, [])]
def zk116 : List (Option zC) := [some (1, 1, 0, 0, 0, []), some (6, 1, 1, 0, 0, []), some (1, 1, 0, 0, 1, []), some (6, 1, 2, 0, 0, []), some (3, 1, 2, 0, 0, []), some (5, 1, 0, 0, 0, []), some (18, 3, 4, 1, 15, [1165]), zN, zN, some (16, 3, 3, 35, 0, []), zN, zN, some (5, 1, 0, 0, 0, []), some (18, 3, 4, 0, 9, [1162]), zN, zN, some (3, 1, 2, 0, 0, []), some (21, 1, 0, 0, 0, []), some (5, 1, 0, 0, 0, []), some (18, 3, 4, 0, 9, [1162]), zN, zN, some (3, 1, 1, 0, 0, []), some (21, 1, 0, 0, 0, []), some (16, 3, 5, 29, 0, []), zN, zN, some (3, 1, 2, 0, 0, []), some (6, 1, 1, 0, 0, []), some (9, 3, 2, 0, 1, []), zN, zN, some (17, 3, 0, 4, 0, []), zN, zN, some (3, 1, 1, 0, 0, []), some (100, 1, 1, 0, 0, [])]
def zk117 : List (Option zC) := [some (3, 1, 2, 0, 0, []), some (1, 1, 0, 0, 1, []), some (101, 3, 44, 1, 2, [124, 2202]), zN, zN, some (15, 3, 1, 14, 0, []), zN, zN, some (5, 1, 0, 0, 0, []), some (1, 1, 0, 0, 1, []), some (101, 3, 13, 0, 2, [86, 1262]), zN, zN, some (100, 1, 1, 0, 0, []), some (5, 1, 0, 0, 0, []), some (3, 1, 1, 0, 0, []), some (101, 3, 106, 0, 2, [225, 3235]), zN, zN, some (15, 3, 1, 28, 0, []), zN, zN, some (5, 1, 0, 0, 0, []), some (1, 1, 0, 0, 2, []), some (101, 3, 13, 0, 2, [86, 1262]), zN, zN, some (100, 1, 1, 0, 0, []), some (5, 1, 0, 0, 0, []), some (3, 1, 1, 0, 0, []), some (101, 3, 108, 0, 2, [231, 3243]), zN, zN, some (8, 1, 3, 0, 0, []), some (5, 1, 3, 0, 0, []), some (101, 3, 118, 0, 1, [252, 3286]), zN, zN, some (6, 2, 4, 0, 0, []), zN, some (5, 1, 0, 0, 0, []), some (3, 1, 2, 0, 0, []), some (15, 3, 1, 54, 0, []), zN, zN, some (5, 1, 3, 0, 0, []), some (3, 2, 4, 0, 0, []), zN, some (101, 3, 119, 0, 2, [255, 3294]), zN, zN, some (17, 3, 0, 56, 0, []), zN, zN, some (3, 2, 4, 0, 0, []), zN, some (101, 3, 39, 0, 2, [108, 2181]), zN, zN, some (100, 1, 1, 0, 0, [])]
def zk118 : List (Option zC) := [some (1, 1, 0, 0, 0, []), some (6, 1, 1, 0, 0, []), some (1, 1, 0, 0, 1, []), some (6, 1, 2, 0, 0, []), some (3, 1, 2, 0, 0, []), some (5, 1, 0, 0, 0, []), some (18, 3, 4, 1, 15, [1165]), zN, zN, some (16, 3, 3, 33, 0, []), zN, zN, some (5, 1, 0, 0, 0, []), some (3, 1, 2, 0, 0, []), some (101, 3, 119, 0, 2, [60, 3290]), zN, zN, some (5, 1, 0, 0, 0, []), some (3, 1, 1, 0, 0, []), some (101, 3, 119, 0, 2, [60, 3290]), zN, zN, some (16, 3, 5, 27, 0, []), zN, zN, some (3, 1, 2, 0, 0, []), some (6, 1, 1, 0, 0, []), some (9, 3, 2, 0, 1, []), zN, zN, some (17, 3, 0, 4, 0, []), zN, zN, some (3, 1, 1, 0, 0, []), some (100, 1, 1, 0, 0, [])]
def zk119 : List (Option zC) := [some (3, 1, 1, 0, 0, []), some (1, 1, 0, 0, 1, []), some (10, 1, 0, 0, 0, []), some (6, 1, 2, 0, 0, []), some (3, 1, 2, 0, 0, []), some (5, 1, 0, 0, 0, []), some (18, 3, 4, 1, 15, [1165]), zN, zN, some (16, 3, 3, 35, 0, []), zN, zN, some (5, 1, 0, 0, 0, []), some (18, 3, 4, 0, 9, [1162]), zN, zN, some (3, 1, 2, 0, 0, []), some (21, 1, 0, 0, 0, []), some (5, 1, 0, 0, 0, []), some (18, 3, 4, 0, 9, [1162]), zN, zN, some (3, 1, 2, 0, 0, []), some (1, 1, 0, 0, 1, []), some (10, 1, 1, 0, 0, []), some (21, 1, 0, 0, 0, []), some (16, 3, 5, 35, 0, []), zN, zN, some (9, 3, 2, 0, 1, []), zN, zN, some (17, 3, 0, 4, 0, []), zN, zN, some (3, 1, 2, 0, 0, []), some (3, 1, 1, 0, 0, []), some (10, 1, 1, 0, 0, []), some (100, 1, 1, 0, 0, [])]
def zk120 : List (Option zC) := [some (3, 1, 2, 0, 0, []), some (1, 1, 0, 0, 2, []), some (101, 3, 44, 1, 2, [124, 2202]), zN, zN, some (15, 3, 1, 15, 0, []), zN, zN, some (5, 1, 0, 0, 0, []), some (1, 1, 0, 0, 1, []), some (101, 3, 13, 0, 2, [86, 1262]), zN, zN, some (13, 1, 1, 0, 0, []), some (100, 1, 2, 0, 0, []), some (5, 1, 0, 0, 0, []), some (3, 1, 1, 0, 0, []), some (101, 3, 106, 0, 2, [225, 3235]), zN, zN, some (15, 3, 1, 30, 0, []), zN, zN, some (5, 1, 0, 0, 0, []), some (1, 1, 0, 0, 2, []), some (101, 3, 13, 0, 2, [86, 1262]), zN, zN, some (13, 1, 1, 0, 0, []), some (100, 1, 2, 0, 0, []), some (5, 1, 0, 0, 0, []), some (3, 1, 1, 0, 0, []), some (101, 3, 108, 0, 2, [231, 3243]), zN, zN, some (8, 1, 3, 0, 0, []), some (2, 1, 0, 0, 0, []), some (7, 2, 4, 0, 0, []), zN, some (1, 1, 0, 0, 0, []), some (6, 2, 6, 0, 0, []), zN, some (1, 1, 0, 0, 0, []), some (6, 2, 7, 0, 0, []), zN, some (1, 1, 0, 0, 0, []), some (6, 2, 8, 0, 0, []), zN, some (3, 2, 8, 0, 0, []), zN, some (5, 1, 3, 0, 0, []), some (18, 3, 4, 1, 235, [1167]), zN, zN, some (16, 3, 3, 116, 0, []), zN, zN, some (5, 1, 3, 0, 0, []), some (18, 3, 4, 0, 236, [1164]), zN, zN, some (3, 2, 8, 0, 0, []), zN, some (21, 1, 0, 0, 0, []), some (6, 2, 9, 0, 0, []), zN, some (4, 2, 4, 0, 0, []), zN, some (3, 2, 9, 0, 0, []), zN, some (13, 1, 1, 0, 0, []), some (11, 1, 0, 0, 0, []), some (7, 2, 4, 0, 0, []), zN, some (3, 2, 6, 0, 0, []), zN, some (3, 2, 9, 0, 0, []), zN, some (1, 1, 0, 0, 2, []), some (10, 1, 7, 0, 0, []), some (10, 1, 0, 0, 0, []), some (6, 2, 6, 0, 0, []), zN, some (3, 2, 7, 0, 0, []), zN, some (3, 1, 2, 0, 0, []), some (1, 1, 0, 0, 2, []), some (16, 3, 1, 106, 0, []), zN, zN, some (5, 1, 0, 0, 0, []), some (18, 3, 5, 1, 19, [1201]), zN, zN, some (3, 2, 9, 0, 0, []), zN, some (101, 3, 103, 0, 2, [222, 3223]), zN, zN, some (15, 3, 0, 106, 0, []), zN, zN, some (1, 1, 0, 0, 1, []), some (17, 3, 0, 107, 0, []), zN, zN, some (1, 1, 0, 0, 0, []), some (10, 1, 0, 0, 0, []), some (6, 2, 7, 0, 0, []), zN, some (9, 3, 8, 0, 1, []), zN, zN, some (17, 3, 0, 48, 0, []), zN, zN, some (3, 1, 2, 0, 0, []), some (15, 3, 1, 127, 0, []), zN, zN, some (5, 1, 0, 0, 0, []), some (4, 2, 4, 0, 0, []), zN, some (101, 3, 60, 0, 2, [142, 2265]), zN, zN, some (100, 1, 2, 0, 0, []), some (5, 1, 0, 0, 0, []), some (3, 1, 2, 0, 0, []), some (1, 1, 0, 0, 1, []), some (16, 3, 1, 138, 0, []), zN, zN, some (3, 2, 6, 0, 0, []), zN, some (17, 3, 0, 140, 0, []), zN, zN, some (3, 2, 7, 0, 0, []), zN, some (101, 3, 39, 0, 2, [108, 2181]), zN, zN, some (13, 1, 1, 0, 0, []), some (100, 1, 2, 0, 0, [])]
def zk121 : List (Option zC) := [some (3, 1, 2, 0, 0, []), some (15, 3, 3, 10, 0, []), zN, zN, some (5, 1, 0, 0, 0, []), some (1, 1, 0, 0, 1, []), some (101, 3, 13, 0, 2, [86, 1262]), zN, zN, some (100, 1, 1, 0, 0, []), some (5, 1, 0, 0, 0, []), some (3, 1, 1, 0, 0, []), some (101, 3, 106, 0, 2, [225, 3235]), zN, zN, some (15, 3, 1, 24, 0, []), zN, zN, some (5, 1, 0, 0, 0, []), some (1, 1, 0, 0, 2, []), some (101, 3, 13, 0, 2, [86, 1262]), zN, zN, some (100, 1, 1, 0, 0, []), some (5, 1, 0, 0, 0, []), some (3, 1, 1, 0, 0, []), some (101, 3, 108, 0, 2, [231, 3243]), zN, zN, some (8, 1, 3, 0, 0, []), some (3, 1, 2, 0, 0, []), some (5, 1, 3, 0, 0, []), some (18, 3, 4, 1, 235, [1167]), zN, zN, some (1, 1, 0, 0, 1, []), some (10, 1, 1, 0, 0, []), some (16, 3, 2, 46, 0, []), zN, zN, some (5, 1, 0, 0, 0, []), some (1, 1, 0, 0, 5, []), some (101, 3, 13, 0, 2, [86, 1262]), zN, zN, some (100, 1, 1, 0, 0, []), some (5, 1, 0, 0, 0, []), some (2, 3, 1, 258, 1000, [3303]), zN, zN, some (5, 1, 3, 0, 0, []), some (18, 3, 4, 0, 236, [1164]), zN, zN, some (3, 1, 2, 0, 0, []), some (1, 1, 0, 0, 1, []), some (10, 1, 0, 0, 0, []), some (21, 1, 0, 0, 0, []), some (13, 1, 1, 0, 0, []), some (11, 1, 2, 0, 0, []), some (1, 1, 0, 0, 1, []), some (5, 1, 3, 0, 0, []), some (18, 3, 4, 0, 236, [1164]), zN, zN, some (3, 1, 2, 0, 0, []), some (21, 1, 0, 0, 0, []), some (37, 3, 168, 0, 0, [3084]), zN, zN, some (13, 1, 1, 0, 0, []), some (11, 1, 6, 0, 0, []), some (13, 1, 2, 0, 0, []), some (101, 3, 39, 0, 2, [108, 2181]), zN, zN, some (100, 1, 1, 0, 0, [])]
def zk122 : List (Option zC) := [some (3, 1, 2, 0, 0, []), some (1, 1, 0, 0, 3, []), some (101, 3, 44, 1, 2, [124, 2202]), zN, zN, some (15, 3, 1, 14, 0, []), zN, zN, some (5, 1, 0, 0, 0, []), some (1, 1, 0, 0, 1, []), some (101, 3, 13, 0, 2, [86, 1262]), zN, zN, some (100, 1, 1, 0, 0, []), some (5, 1, 0, 0, 0, []), some (3, 1, 1, 0, 0, []), some (101, 3, 106, 0, 2, [225, 3235]), zN, zN, some (15, 3, 1, 28, 0, []), zN, zN, some (5, 1, 0, 0, 0, []), some (1, 1, 0, 0, 2, []), some (101, 3, 13, 0, 2, [86, 1262]), zN, zN, some (100, 1, 1, 0, 0, []), some (5, 1, 0, 0, 0, []), some (3, 1, 1, 0, 0, []), some (101, 3, 108, 0, 2, [231, 3243]), zN, zN, some (8, 1, 3, 0, 0, []), some (3, 1, 2, 0, 0, []), some (30, 25, 0, 107, 0, [60, 69, 79]), zN, zN, zN, zN, zN, zN, zN, zN, zN, zN, zN, zN, zN, zN, zN, zN, zN, zN, zN, zN, zN, zN, zN, zN, some (5, 1, 0, 0, 0, []), some (5, 1, 3, 0, 0, []), some (101, 3, 123, 1, 1, [260, 3308]), zN, zN, some (101, 3, 39, 0, 2, [108, 2181]), zN, zN, some (100, 1, 1, 0, 0, []), some (5, 1, 0, 0, 0, []), some (5, 1, 0, 0, 0, []), some (5, 1, 3, 0, 0, []), some (101, 3, 124, 0, 2, [264, 3311]), zN, zN, some (101, 3, 39, 0, 2, [108, 2181]), zN, zN, some (100, 1, 1, 0, 0, []), some (5, 1, 0, 0, 0, []), some (5, 1, 3, 0, 0, []), some (101, 3, 125, 0, 2, [267, 4099]), zN, zN, some (6, 2, 4, 0, 0, []), zN, some (3, 2, 4, 0, 0, []), zN, some (1, 1, 0, 0, (-1), []), some (16, 3, 1, 100, 0, []), zN, zN, some (5, 1, 0, 0, 0, []), some (1, 1, 0, 0, 5, []), some (101, 3, 13, 0, 2, [86, 1262]), zN, zN, some (17, 3, 0, 106, 0, []), zN, zN, some (5, 1, 0, 0, 0, []), some (3, 2, 4, 0, 0, []), zN, some (101, 3, 39, 0, 2, [108, 2181]), zN, zN, some (100, 1, 1, 0, 0, []), some (5, 1, 0, 0, 0, []), some (5, 1, 3, 0, 0, []), some (101, 3, 126, 1, 1, [270, 4103]), zN, zN, some (101, 3, 39, 0, 2, [108, 2181]), zN, zN, some (100, 1, 1, 0, 0, [])]
def zk123 : List (Option zC) := [some (1, 1, 0, 0, 0, []), some (6, 1, 1, 0, 0, []), some (1, 1, 0, 0, 1, []), some (6, 1, 2, 0, 0, []), some (3, 1, 2, 0, 0, []), some (5, 1, 0, 0, 0, []), some (18, 3, 4, 1, 235, [1167]), zN, zN, some (16, 3, 3, 55, 0, []), zN, zN, some (5, 1, 0, 0, 0, []), some (18, 3, 4, 0, 236, [1164]), zN, zN, some (3, 1, 2, 0, 0, []), some (21, 1, 0, 0, 0, []), some (101, 3, 64, 1, 1, [150, 2281]), zN, zN, some (6, 1, 3, 0, 0, []), some (3, 1, 1, 0, 0, []), some (3, 1, 3, 0, 0, []), some (15, 3, 0, 46, 0, []), zN, zN, some (3, 1, 3, 0, 0, []), some (5, 1, 0, 0, 0, []), some (18, 3, 4, 0, 236, [1164]), zN, zN, some (3, 1, 2, 0, 0, []), some (1, 1, 0, 0, 1, []), some (10, 1, 1, 0, 0, []), some (21, 1, 0, 0, 0, []), some (101, 3, 64, 1, 1, [150, 2281]), zN, zN, some (16, 3, 1, 46, 0, []), zN, zN, some (1, 1, 0, 0, 1, []), some (17, 3, 0, 47, 0, []), zN, zN, some (1, 1, 0, 0, 0, []), some (10, 1, 0, 0, 0, []), some (6, 1, 1, 0, 0, []), some (9, 3, 2, 0, 1, []), zN, zN, some (17, 3, 0, 4, 0, []), zN, zN, some (3, 1, 1, 0, 0, []), some (100, 1, 1, 0, 0, [])]
def zk124 : List (Option zC) := [some (1, 1, 0, 0, 0, []), some (6, 1, 2, 0, 0, []), some (1, 1, 0, 0, 0, []), some (6, 1, 3, 0, 0, []), some (3, 1, 3, 0, 0, []), some (5, 1, 1, 0, 0, []), some (18, 3, 4, 1, 235, [1167]), zN, zN, some (16, 3, 3, 39, 0, []), zN, zN, some (3, 1, 2, 0, 0, []), some (5, 1, 0, 0, 0, []), some (5, 1, 1, 0, 0, []), some (18, 3, 4, 0, 236, [1164]), zN, zN, some (3, 1, 3, 0, 0, []), some (21, 1, 0, 0, 0, []), some (101, 3, 68, 0, 2, [159, 3080]), zN, zN, some (15, 3, 0, 30, 0, []), zN, zN, some (1, 1, 0, 0, 1, []), some (17, 3, 0, 31, 0, []), zN, zN, some (1, 1, 0, 0, 0, []), some (10, 1, 0, 0, 0, []), some (6, 1, 2, 0, 0, []), some (9, 3, 3, 0, 1, []), zN, zN, some (17, 3, 0, 4, 0, []), zN, zN, some (3, 1, 2, 0, 0, []), some (100, 1, 1, 0, 0, [])]
def zk125 : List (Option zC) := [some (1, 1, 0, 0, 0, []), some (6, 1, 2, 0, 0, []), some (3, 1, 2, 0, 0, []), some (5, 1, 1, 0, 0, []), some (18, 3, 4, 1, 235, [1167]), zN, zN, some (16, 3, 3, 31, 0, []), zN, zN, some (5, 1, 0, 0, 0, []), some (5, 1, 1, 0, 0, []), some (18, 3, 4, 0, 236, [1164]), zN, zN, some (3, 1, 2, 0, 0, []), some (21, 1, 0, 0, 0, []), some (101, 3, 68, 0, 2, [159, 3080]), zN, zN, some (15, 3, 0, 25, 0, []), zN, zN, some (3, 1, 2, 0, 0, []), some (100, 1, 1, 0, 0, []), some (9, 3, 2, 0, 1, []), zN, zN, some (17, 3, 0, 2, 0, []), zN, zN, some (1, 1, 0, 0, (-1), []), some (100, 1, 1, 0, 0, [])]
def zk126 : List (Option zC) := [some (1, 1, 0, 0, 0, []), some (6, 1, 1, 0, 0, []), some (1, 1, 0, 0, 0, []), some (6, 1, 2, 0, 0, []), some (1, 1, 0, 0, 0, []), some (6, 1, 3, 0, 0, []), some (1, 1, 0, 0, 0, []), some (6, 2, 4, 0, 0, []), zN, some (3, 2, 4, 0, 0, []), zN, some (5, 1, 0, 0, 0, []), some (18, 3, 4, 1, 235, [1167]), zN, zN, some (16, 3, 3, 69, 0, []), zN, zN, some (5, 1, 0, 0, 0, []), some (18, 3, 4, 0, 236, [1164]), zN, zN, some (3, 2, 4, 0, 0, []), zN, some (21, 1, 0, 0, 0, []), some (101, 3, 64, 1, 1, [150, 2281]), zN, zN, some (6, 2, 5, 0, 0, []), zN, some (3, 2, 5, 0, 0, []), zN, some (15, 3, 1, 40, 0, []), zN, zN, some (1, 1, 0, 0, 0, []), some (6, 1, 2, 0, 0, []), some (17, 3, 0, 54, 0, []), zN, zN, some (3, 2, 5, 0, 0, []), zN, some (3, 1, 3, 0, 0, []), some (16, 3, 1, 52, 0, []), zN, zN, some (3, 1, 2, 0, 0, []), some (1, 1, 0, 0, 1, []), some (10, 1, 0, 0, 0, []), some (17, 3, 0, 53, 0, []), zN, zN, some (1, 1, 0, 0, 1, []), some (6, 1, 2, 0, 0, []), some (3, 2, 5, 0, 0, []), zN, some (6, 1, 3, 0, 0, []), some (3, 1, 1, 0, 0, []), some (3, 1, 2, 0, 0, []), some (37, 3, 168, 0, 0, [3084]), zN, zN, some (6, 1, 1, 0, 0, []), some (9, 3, 4, 0, 1, []), zN, zN, some (17, 3, 0, 9, 0, []), zN, zN, some (3, 1, 1, 0, 0, []), some (100, 1, 1, 0, 0, [])]
def zk127 : List (Option zC) := [some (3, 1, 2, 0, 0, []), some (1, 1, 0, 0, 2, []), some (101, 3, 44, 1, 2, [124, 2202]), zN, zN, some (15, 3, 1, 14, 0, []), zN, zN, some (5, 1, 0, 0, 0, []), some (1, 1, 0, 0, 1, []), some (101, 3, 13, 0, 2, [86, 1262]), zN, zN, some (100, 1, 1, 0, 0, []), some (5, 1, 0, 0, 0, []), some (3, 1, 1, 0, 0, []), some (101, 3, 106, 0, 2, [225, 3235]), zN, zN, some (15, 3, 1, 28, 0, []), zN, zN, some (5, 1, 0, 0, 0, []), some (1, 1, 0, 0, 2, []), some (101, 3, 13, 0, 2, [86, 1262]), zN, zN, some (100, 1, 1, 0, 0, []), some (5, 1, 0, 0, 0, []), some (5, 1, 0, 0, 0, []), some (3, 1, 1, 0, 0, []), some (101, 3, 108, 0, 2, [231, 3243]), zN, zN, some (101, 3, 128, 0, 2, [273, 4110]), zN, zN, some (6, 1, 3, 0, 0, []), some (1, 1, 0, 0, 0, []), some (6, 2, 4, 0, 0, []), zN, some (1, 1, 0, 0, 0, []), some (6, 2, 5, 0, 0, []), zN, some (1, 1, 0, 0, 0, []), some (6, 2, 6, 0, 0, []), zN, some (1, 1, 0, 0, 0, []), some (6, 2, 7, 0, 0, []), zN, some (3, 2, 7, 0, 0, []), zN, some (3, 1, 3, 0, 0, []), some (16, 3, 3, 144, 0, []), zN, zN, some (5, 1, 0, 0, 0, []), some (18, 3, 5, 9, 59, [1209]), zN, zN, some (3, 2, 7, 0, 0, []), zN, some (21, 1, 0, 0, 0, []), some (15, 3, 1, 69, 0, []), zN, zN, some (17, 3, 0, 138, 0, []), zN, zN, some (3, 2, 4, 0, 0, []), zN, some (5, 1, 0, 0, 0, []), some (3, 2, 7, 0, 0, []), zN, some (3, 2, 7, 0, 0, []), zN, some (101, 3, 129, 0, 3, [276, 4114]), zN, zN, some (15, 3, 1, 86, 0, []), zN, zN, some (1, 1, 0, 0, 1, []), some (17, 3, 0, 87, 0, []), zN, zN, some (1, 1, 0, 0, 0, []), some (10, 1, 0, 0, 0, []), some (6, 2, 4, 0, 0, []), zN, some (5, 1, 0, 0, 0, []), some (3, 1, 3, 0, 0, []), some (3, 2, 7, 0, 0, []), zN, some (101, 3, 129, 0, 3, [276, 4114]), zN, zN, some (6, 2, 8, 0, 0, []), zN, some (3, 2, 8, 0, 0, []), zN, some (3, 2, 5, 0, 0, []), zN, some (16, 3, 4, 125, 0, []), zN, zN, some (3, 2, 8, 0, 0, []), zN, some (3, 2, 5, 0, 0, []), zN, some (16, 3, 1, 138, 0, []), zN, zN, some (5, 1, 0, 0, 0, []), some (18, 3, 5, 9, 59, [1209]), zN, zN, some (3, 2, 7, 0, 0, []), zN, some (21, 1, 0, 0, 0, []), some (3, 2, 6, 0, 0, []), zN, some (16, 3, 3, 138, 0, []), zN, zN, some (3, 2, 8, 0, 0, []), zN, some (6, 2, 5, 0, 0, []), zN, some (5, 1, 0, 0, 0, []), some (18, 3, 5, 9, 59, [1209]), zN, zN, some (3, 2, 7, 0, 0, []), zN, some (21, 1, 0, 0, 0, []), some (6, 2, 6, 0, 0, []), zN, some (9, 3, 7, 0, 1, []), zN, zN, some (17, 3, 0, 50, 0, []), zN, zN, some (3, 1, 2, 0, 0, []), some (15, 3, 1, 155, 0, []), zN, zN, some (5, 1, 0, 0, 0, []), some (3, 2, 4, 0, 0, []), zN, some (101, 3, 39, 0, 2, [108, 2181]), zN, zN, some (100, 1, 1, 0, 0, []), some (3, 2, 5, 0, 0, []), zN, some (15, 3, 1, 166, 0, []), zN, zN, some (5, 1, 0, 0, 0, []), some (1, 1, 0, 0, 5, []), some (101, 3, 13, 0, 2, [86, 1262]), zN, zN, some (100, 1, 1, 0, 0, []), some (5, 1, 0, 0, 0, []), some (3, 1, 2, 0, 0, []), some (1, 1, 0, 0, 1, []), some (16, 3, 1, 177, 0, []), zN, zN, some (3, 2, 6, 0, 0, []), zN, some (17, 3, 0, 179, 0, []), zN, zN, some (3, 2, 5, 0, 0, []), zN, some (101, 3, 39, 0, 2, [108, 2181]), zN, zN, some (100, 1, 1, 0, 0, [])]
def zk128 : List (Option zC) := [some (5, 1, 1, 0, 0, []), some (18, 3, 4, 1, 235, [1167]), zN, zN, some (5, 1, 0, 0, 0, []), some (18, 3, 5, 9, 59, [1209]), zN, zN, some (20, 1, 0, 0, 0, []), some (38, 3, 289, 0, 0, [3166]), zN, zN, some (6, 1, 2, 0, 0, []), some (1, 1, 0, 0, 0, []), some (6, 1, 3, 0, 0, []), some (3, 1, 3, 0, 0, []), some (3, 1, 2, 0, 0, []), some (16, 3, 3, 41, 0, []), zN, zN, some (5, 1, 0, 0, 0, []), some (18, 3, 5, 9, 59, [1209]), zN, zN, some (3, 1, 3, 0, 0, []), some (5, 1, 1, 0, 0, []), some (18, 3, 4, 0, 236, [1164]), zN, zN, some (3, 1, 3, 0, 0, []), some (21, 1, 0, 0, 0, []), some (101, 3, 64, 1, 1, [150, 2281]), zN, zN, some (22, 1, 0, 0, 0, []), some (9, 3, 3, 0, 1, []), zN, zN, some (17, 3, 0, 15, 0, []), zN, zN, some (3, 1, 2, 0, 0, []), some (100, 1, 1, 0, 0, [])]
def zk129 : List (Option zC) := [some (1, 1, 0, 0, 0, []), some (6, 1, 3, 0, 0, []), some (1, 1, 0, 0, 0, []), some (6, 2, 4, 0, 0, []), zN, some (3, 2, 4, 0, 0, []), zN, some (3, 1, 1, 0, 0, []), some (16, 3, 3, 60, 0, []), zN, zN, some (3, 2, 4, 0, 0, []), zN, some (5, 1, 0, 0, 0, []), some (18, 3, 5, 9, 59, [1209]), zN, zN, some (20, 1, 0, 0, 0, []), some (16, 3, 3, 60, 0, []), zN, zN, some (3, 1, 2, 0, 0, []), some (5, 1, 0, 0, 0, []), some (18, 3, 5, 9, 59, [1209]), zN, zN, some (20, 1, 0, 0, 0, []), some (16, 3, 3, 60, 0, []), zN, zN, some (3, 1, 3, 0, 0, []), some (5, 1, 0, 0, 0, []), some (18, 3, 5, 9, 59, [1209]), zN, zN, some (3, 2, 4, 0, 0, []), zN, some (21, 1, 0, 0, 0, []), some (5, 1, 0, 0, 0, []), some (18, 3, 5, 9, 59, [1209]), zN, zN, some (3, 1, 2, 0, 0, []), some (21, 1, 0, 0, 0, []), some (16, 3, 1, 51, 0, []), zN, zN, some (1, 1, 0, 0, 1, []), some (17, 3, 0, 52, 0, []), zN, zN, some (1, 1, 0, 0, 0, []), some (10, 1, 0, 0, 0, []), some (6, 1, 3, 0, 0, []), some (9, 3, 4, 0, 1, []), zN, zN, some (17, 3, 0, 5, 0, []), zN, zN, some (3, 1, 3, 0, 0, []), some (100, 1, 1, 0, 0, [])]
def zk130 : List (Option zC) := [some (3, 1, 2, 0, 0, []), some (1, 1, 0, 0, 3, []), some (101, 3, 44, 1, 2, [124, 2202]), zN, zN, some (15, 3, 0, 16, 0, []), zN, zN, some (3, 1, 3, 0, 0, []), some (1, 1, 0, 0, 3, []), some (101, 3, 44, 1, 2, [124, 2202]), zN, zN, some (15, 3, 1, 22, 0, []), zN, zN, some (5, 1, 0, 0, 0, []), some (1, 1, 0, 0, 1, []), some (101, 3, 13, 0, 2, [86, 1262]), zN, zN, some (100, 1, 1, 0, 0, []), some (5, 1, 0, 0, 0, []), some (3, 1, 1, 0, 0, []), some (101, 3, 106, 0, 2, [225, 3235]), zN, zN, some (15, 3, 1, 36, 0, []), zN, zN, some (5, 1, 0, 0, 0, []), some (1, 1, 0, 0, 2, []), some (101, 3, 13, 0, 2, [86, 1262]), zN, zN, some (100, 1, 1, 0, 0, []), some (3, 1, 2, 0, 0, []), some (5, 1, 0, 0, 0, []), some (18, 3, 5, 2, 26, [1202]), zN, zN, some (18, 3, 0, 4, 117, [1142]), zN, zN, some (16, 3, 1, 53, 0, []), zN, zN, some (5, 1, 0, 0, 0, []), some (1, 1, 0, 0, 4, []), some (101, 3, 13, 0, 2, [86, 1262]), zN, zN, some (100, 1, 1, 0, 0, []), some (5, 1, 0, 0, 0, []), some (3, 1, 1, 0, 0, []), some (101, 3, 108, 0, 2, [231, 3243]), zN, zN, some (8, 2, 4, 0, 0, []), zN, some (5, 1, 0, 0, 0, []), some (18, 3, 5, 6, 44, [1206]), zN, zN, some (5, 1, 0, 0, 0, []), some (18, 3, 5, 2, 26, [1202]), zN, zN, some (18, 3, 0, 0, 228, [1128]), zN, zN, some (3, 1, 1, 0, 0, []), some (21, 1, 0, 0, 0, []), some (3, 1, 2, 0, 0, []), some (5, 1, 0, 0, 0, []), some (18, 3, 5, 2, 26, [1202]), zN, zN, some (5, 1, 0, 0, 0, []), some (18, 3, 5, 1, 19, [1201]), zN, zN, some (101, 3, 109, 0, 5, [279, 3247]), zN, zN, some (3, 1, 3, 0, 0, []), some (30, 26, 0, 168, 0, [112, 144, 156]), zN, zN, zN, zN, zN, zN, zN, zN, zN, zN, zN, zN, zN, zN, zN, zN, zN, zN, zN, zN, zN, zN, zN, zN, zN, some (5, 2, 4, 0, 0, []), zN, some (5, 1, 0, 0, 0, []), some (18, 3, 5, 6, 44, [1206]), zN, zN, some (101, 3, 131, 0, 2, [283, 4122]), zN, zN, some (6, 2, 5, 0, 0, []), zN, some (3, 2, 5, 0, 0, []), zN, some (1, 1, 0, 0, (-1), []), some (16, 3, 1, 137, 0, []), zN, zN, some (5, 1, 0, 0, 0, []), some (1, 1, 0, 0, 5, []), some (101, 3, 13, 0, 2, [86, 1262]), zN, zN, some (17, 3, 0, 143, 0, []), zN, zN, some (5, 1, 0, 0, 0, []), some (3, 2, 5, 0, 0, []), zN, some (101, 3, 39, 0, 2, [108, 2181]), zN, zN, some (100, 1, 1, 0, 0, []), some (5, 1, 0, 0, 0, []), some (5, 1, 0, 0, 0, []), some (18, 3, 5, 6, 44, [1206]), zN, zN, some (18, 3, 4, 1, 235, [1167]), zN, zN, some (101, 3, 39, 0, 2, [108, 2181]), zN, zN, some (100, 1, 1, 0, 0, []), some (5, 1, 0, 0, 0, []), some (5, 1, 0, 0, 0, []), some (18, 3, 5, 6, 44, [1206]), zN, zN, some (18, 3, 4, 2, 239, [1169]), zN, zN, some (101, 3, 39, 0, 2, [108, 2181]), zN, zN, some (100, 1, 1, 0, 0, []), some (5, 1, 0, 0, 0, []), some (5, 1, 0, 0, 0, []), some (18, 3, 5, 6, 44, [1206]), zN, zN, some (101, 3, 114, 0, 1, [286, 4126]), zN, zN, some (101, 3, 39, 0, 2, [108, 2181]), zN, zN, some (100, 1, 1, 0, 0, [])]
def zk131 : List (Option zC) := [some (5, 1, 0, 0, 0, []), some (18, 3, 4, 1, 15, [1165]), zN, zN, some (5, 1, 1, 0, 0, []), some (18, 3, 4, 1, 15, [1165]), zN, zN, some (38, 3, 57, 0, 0, [3273]), zN, zN, some (6, 1, 2, 0, 0, []), some (1, 1, 0, 0, 0, []), some (6, 1, 3, 0, 0, []), some (3, 1, 3, 0, 0, []), some (3, 1, 2, 0, 0, []), some (16, 3, 3, 42, 0, []), zN, zN, some (5, 1, 0, 0, 0, []), some (18, 3, 4, 0, 9, [1162]), zN, zN, some (3, 1, 3, 0, 0, []), some (21, 1, 0, 0, 0, []), some (5, 1, 1, 0, 0, []), some (18, 3, 4, 0, 9, [1162]), zN, zN, some (3, 1, 3, 0, 0, []), some (21, 1, 0, 0, 0, []), some (16, 3, 0, 36, 0, []), zN, zN, some (3, 1, 3, 0, 0, []), some (100, 1, 1, 0, 0, []), some (9, 3, 3, 0, 1, []), zN, zN, some (17, 3, 0, 14, 0, []), zN, zN, some (5, 1, 0, 0, 0, []), some (18, 3, 4, 1, 15, [1165]), zN, zN, some (5, 1, 1, 0, 0, []), some (18, 3, 4, 1, 15, [1165]), zN, zN, some (16, 3, 1, 57, 0, []), zN, zN, some (1, 1, 0, 0, (-1), []), some (17, 3, 0, 58, 0, []), zN, zN, some (3, 1, 2, 0, 0, []), some (100, 1, 1, 0, 0, [])]
def zk132 : List (Option zC) := [some (3, 1, 2, 0, 0, []), some (1, 1, 0, 0, 1, []), some (16, 3, 3, 11, 0, []), zN, zN, some (5, 1, 0, 0, 0, []), some (1, 1, 0, 0, 1, []), some (101, 3, 13, 0, 2, [86, 1262]), zN, zN, some (100, 1, 1, 0, 0, []), some (5, 1, 0, 0, 0, []), some (3, 1, 1, 0, 0, []), some (101, 3, 106, 0, 2, [225, 3235]), zN, zN, some (15, 3, 1, 25, 0, []), zN, zN, some (5, 1, 0, 0, 0, []), some (1, 1, 0, 0, 2, []), some (101, 3, 13, 0, 2, [86, 1262]), zN, zN, some (100, 1, 1, 0, 0, []), some (5, 1, 0, 0, 0, []), some (3, 1, 1, 0, 0, []), some (101, 3, 108, 0, 2, [231, 3243]), zN, zN, some (8, 1, 3, 0, 0, []), some (3, 1, 2, 0, 0, []), some (5, 1, 3, 0, 0, []), some (18, 3, 4, 1, 235, [1167]), zN, zN, some (16, 3, 2, 45, 0, []), zN, zN, some (5, 1, 0, 0, 0, []), some (1, 1, 0, 0, 5, []), some (101, 3, 13, 0, 2, [86, 1262]), zN, zN, some (100, 1, 1, 0, 0, []), some (5, 1, 3, 0, 0, []), some (18, 3, 4, 0, 236, [1164]), zN, zN, some (3, 1, 2, 0, 0, []), some (21, 1, 0, 0, 0, []), some (6, 2, 4, 0, 0, []), zN, some (5, 1, 3, 0, 0, []), some (18, 3, 4, 0, 236, [1164]), zN, zN, some (3, 1, 2, 0, 0, []), some (1, 1, 0, 0, 1, []), some (10, 1, 1, 0, 0, []), some (21, 1, 0, 0, 0, []), some (6, 2, 5, 0, 0, []), zN, some (3, 2, 4, 0, 0, []), zN, some (101, 3, 64, 1, 1, [150, 2281]), zN, zN, some (15, 3, 0, 92, 0, []), zN, zN, some (3, 2, 5, 0, 0, []), zN, some (101, 3, 64, 1, 1, [150, 2281]), zN, zN, some (15, 3, 0, 92, 0, []), zN, zN, some (3, 2, 4, 0, 0, []), zN, some (101, 3, 64, 1, 1, [150, 2281]), zN, zN, some (3, 2, 5, 0, 0, []), zN, some (101, 3, 64, 1, 1, [150, 2281]), zN, zN, some (16, 3, 1, 98, 0, []), zN, zN, some (5, 1, 0, 0, 0, []), some (1, 1, 0, 0, 0, []), some (101, 3, 39, 0, 2, [108, 2181]), zN, zN, some (100, 1, 1, 0, 0, []), some (5, 1, 0, 0, 0, []), some (3, 2, 4, 0, 0, []), zN, some (101, 3, 67, 1, 1, [153, 3077]), zN, zN, some (3, 2, 5, 0, 0, []), zN, some (101, 3, 67, 1, 1, [153, 3077]), zN, zN, some (16, 3, 0, 116, 0, []), zN, zN, some (1, 1, 0, 0, 1, []), some (17, 3, 0, 117, 0, []), zN, zN, some (1, 1, 0, 0, 2, []), some (101, 3, 39, 0, 2, [108, 2181]), zN, zN, some (100, 1, 1, 0, 0, [])]
def zk133 : List (Option zC) := [some (3, 1, 3, 0, 0, []), some (1, 1, 0, 0, 3, []), some (101, 3, 44, 1, 2, [124, 2202]), zN, zN, some (15, 3, 1, 14, 0, []), zN, zN, some (5, 1, 0, 0, 0, []), some (1, 1, 0, 0, 1, []), some (101, 3, 13, 0, 2, [86, 1262]), zN, zN, some (100, 1, 1, 0, 0, []), some (5, 1, 0, 0, 0, []), some (3, 1, 1, 0, 0, []), some (101, 3, 106, 0, 2, [225, 3235]), zN, zN, some (15, 3, 0, 30, 0, []), zN, zN, some (5, 1, 0, 0, 0, []), some (3, 1, 2, 0, 0, []), some (101, 3, 106, 0, 2, [225, 3235]), zN, zN, some (15, 3, 1, 36, 0, []), zN, zN, some (5, 1, 0, 0, 0, []), some (1, 1, 0, 0, 2, []), some (101, 3, 13, 0, 2, [86, 1262]), zN, zN, some (100, 1, 1, 0, 0, []), some (3, 1, 1, 0, 0, []), some (3, 1, 2, 0, 0, []), some (16, 3, 1, 47, 0, []), zN, zN, some (5, 1, 0, 0, 0, []), some (1, 1, 0, 0, 4, []), some (101, 3, 13, 0, 2, [86, 1262]), zN, zN, some (100, 1, 1, 0, 0, []), some (5, 1, 0, 0, 0, []), some (3, 1, 1, 0, 0, []), some (101, 3, 108, 0, 2, [231, 3243]), zN, zN, some (8, 2, 4, 0, 0, []), zN, some (5, 1, 0, 0, 0, []), some (3, 1, 2, 0, 0, []), some (101, 3, 108, 0, 2, [231, 3243]), zN, zN, some (8, 2, 5, 0, 0, []), zN, some (5, 2, 4, 0, 0, []), zN, some (18, 3, 4, 1, 235, [1167]), zN, zN, some (5, 2, 5, 0, 0, []), zN, some (18, 3, 4, 1, 235, [1167]), zN, zN, some (38, 3, 289, 0, 0, [3166]), zN, zN, some (6, 2, 6, 0, 0, []), zN, some (3, 1, 3, 0, 0, []), some (30, 27, 0, 140, 0, [104, 116, 128]), zN, zN, zN, zN, zN, zN, zN, zN, zN, zN, zN, zN, zN, zN, zN, zN, zN, zN, zN, zN, zN, zN, zN, zN, zN, zN, some (5, 1, 0, 0, 0, []), some (5, 2, 4, 0, 0, []), zN, some (5, 2, 5, 0, 0, []), zN, some (101, 3, 134, 0, 2, [292, 4135]), zN, zN, some (101, 3, 39, 0, 2, [108, 2181]), zN, zN, some (100, 1, 1, 0, 0, []), some (5, 1, 0, 0, 0, []), some (5, 2, 5, 0, 0, []), zN, some (5, 2, 4, 0, 0, []), zN, some (101, 3, 134, 0, 2, [292, 4135]), zN, zN, some (101, 3, 39, 0, 2, [108, 2181]), zN, zN, some (100, 1, 1, 0, 0, []), some (5, 1, 0, 0, 0, []), some (5, 2, 4, 0, 0, []), zN, some (5, 2, 5, 0, 0, []), zN, some (101, 3, 135, 0, 2, [295, 4139]), zN, zN, some (101, 3, 39, 0, 2, [108, 2181]), zN, zN, some (100, 1, 1, 0, 0, []), some (5, 1, 0, 0, 0, []), some (3, 2, 6, 0, 0, []), zN, some (1, 1, 0, 0, 1, []), some (10, 1, 1, 0, 0, []), some (101, 3, 39, 0, 2, [108, 2181]), zN, zN, some (100, 1, 1, 0, 0, [])]
def zk134 : List (Option zC) := [some (1, 1, 0, 0, 0, []), some (6, 1, 2, 0, 0, []), some (1, 1, 0, 0, 0, []), some (6, 1, 3, 0, 0, []), some (3, 1, 3, 0, 0, []), some (5, 1, 0, 0, 0, []), some (18, 3, 4, 1, 15, [1165]), zN, zN, some (16, 3, 3, 49, 0, []), zN, zN, some (3, 1, 3, 0, 0, []), some (5, 1, 1, 0, 0, []), some (18, 3, 4, 1, 15, [1165]), zN, zN, some (16, 3, 3, 49, 0, []), zN, zN, some (3, 1, 2, 0, 0, []), some (5, 1, 0, 0, 0, []), some (18, 3, 4, 0, 9, [1162]), zN, zN, some (3, 1, 3, 0, 0, []), some (21, 1, 0, 0, 0, []), some (5, 1, 1, 0, 0, []), some (18, 3, 4, 0, 9, [1162]), zN, zN, some (3, 1, 3, 0, 0, []), some (21, 1, 0, 0, 0, []), some (16, 3, 5, 40, 0, []), zN, zN, some (1, 1, 0, 0, 1, []), some (17, 3, 0, 41, 0, []), zN, zN, some (1, 1, 0, 0, 0, []), some (10, 1, 0, 0, 0, []), some (6, 1, 2, 0, 0, []), some (9, 3, 3, 0, 1, []), zN, zN, some (17, 3, 0, 4, 0, []), zN, zN, some (3, 1, 2, 0, 0, []), some (100, 1, 1, 0, 0, [])]
def zk135 : List (Option zC) := [some (1, 1, 0, 0, 0, []), some (6, 1, 2, 0, 0, []), some (1, 1, 0, 0, 0, []), some (6, 1, 3, 0, 0, []), some (1, 1, 0, 0, 0, []), some (6, 2, 4, 0, 0, []), zN, some (3, 2, 4, 0, 0, []), zN, some (5, 1, 0, 0, 0, []), some (18, 3, 4, 1, 15, [1165]), zN, zN, some (16, 3, 3, 95, 0, []), zN, zN, some (3, 2, 4, 0, 0, []), zN, some (5, 1, 1, 0, 0, []), some (18, 3, 4, 1, 15, [1165]), zN, zN, some (16, 3, 3, 95, 0, []), zN, zN, some (5, 1, 0, 0, 0, []), some (18, 3, 4, 0, 9, [1162]), zN, zN, some (3, 2, 4, 0, 0, []), zN, some (21, 1, 0, 0, 0, []), some (5, 1, 1, 0, 0, []), some (18, 3, 4, 0, 9, [1162]), zN, zN, some (3, 2, 4, 0, 0, []), zN, some (21, 1, 0, 0, 0, []), some (101, 3, 136, 1, 2, [64, 4143]), zN, zN, some (6, 2, 5, 0, 0, []), zN, some (3, 2, 5, 0, 0, []), zN, some (15, 3, 1, 52, 0, []), zN, zN, some (17, 3, 0, 89, 0, []), zN, zN, some (3, 1, 2, 0, 0, []), some (3, 1, 3, 0, 0, []), some (15, 3, 0, 83, 0, []), zN, zN, some (3, 2, 5, 0, 0, []), zN, some (15, 3, 5, 66, 0, []), zN, zN, some (1, 1, 0, 0, 1, []), some (17, 3, 0, 67, 0, []), zN, zN, some (1, 1, 0, 0, 0, []), some (3, 1, 3, 0, 0, []), some (15, 3, 5, 75, 0, []), zN, zN, some (1, 1, 0, 0, 1, []), some (17, 3, 0, 76, 0, []), zN, zN, some (1, 1, 0, 0, 0, []), some (16, 3, 0, 83, 0, []), zN, zN, some (1, 1, 0, 0, 1, []), some (17, 3, 0, 84, 0, []), zN, zN, some (1, 1, 0, 0, 0, []), some (10, 1, 0, 0, 0, []), some (6, 1, 2, 0, 0, []), some (3, 2, 5, 0, 0, []), zN, some (6, 1, 3, 0, 0, []), some (9, 3, 4, 0, 1, []), zN, zN, some (17, 3, 0, 7, 0, []), zN, zN, some (3, 1, 2, 0, 0, []), some (100, 1, 1, 0, 0, [])]
def zk136 : List (Option zC) := [some (3, 1, 0, 0, 0, []), some (3, 1, 1, 0, 0, []), some (16, 3, 3, 9, 0, []), zN, zN, some (1, 1, 0, 0, (-1), []), some (17, 3, 0, 19, 0, []), zN, zN, some (3, 1, 0, 0, 0, []), some (3, 1, 1, 0, 0, []), some (16, 3, 1, 18, 0, []), zN, zN, some (1, 1, 0, 0, 0, []), some (17, 3, 0, 19, 0, []), zN, zN, some (1, 1, 0, 0, 1, []), some (100, 1, 1, 0, 0, [])]
def zk137 : List (Option zC) := [some (3, 1, 3, 0, 0, []), some (1, 1, 0, 0, 2, []), some (101, 3, 44, 1, 2, [124, 2202]), zN, zN, some (15, 3, 1, 14, 0, []), zN, zN, some (5, 1, 0, 0, 0, []), some (1, 1, 0, 0, 1, []), some (101, 3, 13, 0, 2, [86, 1262]), zN, zN, some (100, 1, 1, 0, 0, []), some (5, 1, 0, 0, 0, []), some (3, 1, 1, 0, 0, []), some (101, 3, 106, 0, 2, [225, 3235]), zN, zN, some (15, 3, 0, 30, 0, []), zN, zN, some (5, 1, 0, 0, 0, []), some (3, 1, 2, 0, 0, []), some (101, 3, 106, 0, 2, [225, 3235]), zN, zN, some (15, 3, 1, 36, 0, []), zN, zN, some (5, 1, 0, 0, 0, []), some (1, 1, 0, 0, 2, []), some (101, 3, 13, 0, 2, [86, 1262]), zN, zN, some (100, 1, 1, 0, 0, []), some (3, 1, 1, 0, 0, []), some (3, 1, 2, 0, 0, []), some (16, 3, 1, 47, 0, []), zN, zN, some (5, 1, 0, 0, 0, []), some (1, 1, 0, 0, 4, []), some (101, 3, 13, 0, 2, [86, 1262]), zN, zN, some (100, 1, 1, 0, 0, []), some (5, 1, 0, 0, 0, []), some (3, 1, 1, 0, 0, []), some (101, 3, 108, 0, 2, [231, 3243]), zN, zN, some (8, 2, 4, 0, 0, []), zN, some (5, 1, 0, 0, 0, []), some (3, 1, 2, 0, 0, []), some (101, 3, 108, 0, 2, [231, 3243]), zN, zN, some (8, 2, 5, 0, 0, []), zN, some (1, 1, 0, 0, 0, []), some (6, 2, 6, 0, 0, []), zN, some (3, 2, 6, 0, 0, []), zN, some (5, 2, 4, 0, 0, []), zN, some (18, 3, 4, 1, 235, [1167]), zN, zN, some (16, 3, 3, 134, 0, []), zN, zN, some (5, 2, 5, 0, 0, []), zN, some (5, 2, 4, 0, 0, []), zN, some (18, 3, 4, 0, 236, [1164]), zN, zN, some (3, 2, 6, 0, 0, []), zN, some (21, 1, 0, 0, 0, []), some (13, 1, 1, 0, 0, []), some (101, 3, 110, 0, 2, [298, 4150]), zN, zN, some (6, 2, 7, 0, 0, []), zN, some (3, 2, 7, 0, 0, []), zN, some (1, 1, 0, 0, (-1), []), some (16, 3, 0, 128, 0, []), zN, zN, some (5, 1, 0, 0, 0, []), some (3, 1, 3, 0, 0, []), some (15, 3, 1, 112, 0, []), zN, zN, some (5, 2, 4, 0, 0, []), zN, some (18, 3, 4, 0, 236, [1164]), zN, zN, some (3, 2, 6, 0, 0, []), zN, some (21, 1, 0, 0, 0, []), some (17, 3, 0, 124, 0, []), zN, zN, some (3, 1, 3, 0, 0, []), some (1, 1, 0, 0, 1, []), some (16, 3, 1, 122, 0, []), zN, zN, some (3, 2, 6, 0, 0, []), zN, some (17, 3, 0, 124, 0, []), zN, zN, some (3, 2, 7, 0, 0, []), zN, some (101, 3, 39, 0, 2, [108, 2181]), zN, zN, some (100, 1, 1, 0, 0, []), some (9, 3, 6, 0, 1, []), zN, zN, some (17, 3, 0, 64, 0, []), zN, zN, some (5, 1, 0, 0, 0, []), some (1, 1, 0, 0, 5, []), some (101, 3, 13, 0, 2, [86, 1262]), zN, zN, some (100, 1, 1, 0, 0, [])]
def zk138 : List (Option zC) := [some (5, 1, 0, 0, 0, []), some (3, 1, 1, 0, 0, []), some (101, 3, 106, 0, 2, [225, 3235]), zN, zN, some (15, 3, 1, 14, 0, []), zN, zN, some (5, 1, 0, 0, 0, []), some (1, 1, 0, 0, 2, []), some (101, 3, 13, 0, 2, [86, 1262]), zN, zN, some (100, 1, 1, 0, 0, []), some (5, 1, 0, 0, 0, []), some (3, 1, 1, 0, 0, []), some (101, 3, 108, 0, 2, [231, 3243]), zN, zN, some (8, 1, 2, 0, 0, []), some (1, 1, 0, 0, 0, []), some (6, 1, 3, 0, 0, []), some (1, 1, 0, 0, 0, []), some (6, 2, 4, 0, 0, []), zN, some (3, 2, 4, 0, 0, []), zN, some (5, 1, 0, 0, 0, []), some (18, 3, 5, 2, 26, [1202]), zN, zN, some (18, 3, 0, 1, 105, [1130]), zN, zN, some (16, 3, 3, 106, 0, []), zN, zN, some (5, 1, 0, 0, 0, []), some (3, 2, 4, 0, 0, []), zN, some (101, 3, 108, 0, 2, [231, 3243]), zN, zN, some (8, 2, 5, 0, 0, []), zN, some (5, 2, 5, 0, 0, []), zN, some (18, 3, 4, 2, 239, [1169]), zN, zN, some (5, 1, 2, 0, 0, []), some (18, 3, 4, 2, 239, [1169]), zN, zN, some (16, 3, 1, 81, 0, []), zN, zN, some (5, 1, 2, 0, 0, []), some (18, 3, 4, 2, 239, [1169]), zN, zN, some (1, 1, 0, 0, 1, []), some (16, 3, 1, 77, 0, []), zN, zN, some (5, 2, 5, 0, 0, []), zN, some (101, 3, 113, 0, 1, [245, 3264]), zN, zN, some (5, 1, 2, 0, 0, []), some (101, 3, 113, 0, 1, [245, 3264]), zN, zN, some (16, 3, 1, 81, 0, []), zN, zN, some (1, 1, 0, 0, 1, []), some (17, 3, 0, 82, 0, []), zN, zN, some (1, 1, 0, 0, 0, []), some (6, 2, 6, 0, 0, []), zN, some (3, 1, 3, 0, 0, []), some (3, 2, 6, 0, 0, []), zN, some (15, 3, 0, 97, 0, []), zN, zN, some (1, 1, 0, 0, 1, []), some (3, 2, 4, 0, 0, []), zN, some (10, 1, 8, 0, 0, []), some (17, 3, 0, 98, 0, []), zN, zN, some (1, 1, 0, 0, 0, []), some (10, 1, 4, 0, 0, []), some (6, 1, 3, 0, 0, []), some (9, 3, 4, 0, 1, []), zN, zN, some (17, 3, 0, 25, 0, []), zN, zN, some (5, 1, 0, 0, 0, []), some (3, 1, 3, 0, 0, []), some (101, 3, 39, 0, 2, [108, 2181]), zN, zN, some (100, 1, 1, 0, 0, [])]
def zk139 : List (Option zC) := [some (3, 1, 1, 0, 0, []), some (3, 1, 2, 0, 0, []), some (1, 3, 2, 0, 500, []), zN, zN, some (101, 3, 81, 1, 3, [186, 3135]), zN, zN, some (15, 3, 0, 19, 0, []), zN, zN, some (3, 1, 3, 0, 0, []), some (1, 1, 0, 0, 4, []), some (101, 3, 44, 1, 2, [124, 2202]), zN, zN, some (15, 3, 1, 25, 0, []), zN, zN, some (5, 1, 0, 0, 0, []), some (1, 1, 0, 0, 1, []), some (101, 3, 13, 0, 2, [86, 1262]), zN, zN, some (100, 1, 1, 0, 0, []), some (1, 1, 0, 0, 0, []), some (6, 2, 4, 0, 0, []), zN, some (3, 1, 1, 0, 0, []), some (6, 2, 5, 0, 0, []), zN, some (3, 2, 5, 0, 0, []), zN, some (3, 1, 2, 0, 0, []), some (16, 3, 4, 63, 0, []), zN, zN, some (3, 2, 4, 0, 0, []), zN, some (5, 1, 0, 0, 0, []), some (3, 2, 5, 0, 0, []), zN, some (3, 1, 3, 0, 0, []), some (101, 3, 140, 0, 3, [302, 4159]), zN, zN, some (15, 3, 0, 53, 0, []), zN, zN, some (1, 1, 0, 0, 1, []), some (17, 3, 0, 54, 0, []), zN, zN, some (1, 1, 0, 0, 0, []), some (10, 1, 0, 0, 0, []), some (6, 2, 4, 0, 0, []), zN, some (9, 3, 5, 0, 1, []), zN, zN, some (17, 3, 0, 31, 0, []), zN, zN, some (5, 1, 0, 0, 0, []), some (3, 2, 4, 0, 0, []), zN, some (101, 3, 39, 0, 2, [108, 2181]), zN, zN, some (100, 1, 1, 0, 0, [])]
def zk140 : List (Option zC) := [some (3, 1, 2, 0, 0, []), some (1, 1, 0, 0, 3, []), some (16, 3, 1, 14, 0, []), zN, zN, some (5, 1, 0, 0, 0, []), some (18, 3, 5, 1, 19, [1201]), zN, zN, some (3, 1, 1, 0, 0, []), some (101, 3, 103, 0, 2, [222, 3223]), zN, zN, some (100, 1, 4, 0, 0, []), some (3, 1, 2, 0, 0, []), some (1, 1, 0, 0, 4, []), some (16, 3, 1, 27, 0, []), zN, zN, some (5, 1, 0, 0, 0, []), some (3, 1, 1, 0, 0, []), some (101, 3, 68, 0, 2, [159, 3080]), zN, zN, some (17, 3, 0, 48, 0, []), zN, zN, some (5, 1, 0, 0, 0, []), some (5, 1, 0, 0, 0, []), some (18, 3, 5, 2, 26, [1202]), zN, zN, some (18, 3, 0, 4, 117, [1142]), zN, zN, some (3, 1, 1, 0, 0, []), some (101, 3, 62, 0, 3, [146, 2273]), zN, zN, some (3, 1, 2, 0, 0, []), some (16, 3, 1, 47, 0, []), zN, zN, some (1, 1, 0, 0, 1, []), some (17, 3, 0, 48, 0, []), zN, zN, some (1, 1, 0, 0, 0, []), some (100, 1, 4, 0, 0, [])]
def zk141 : List (Option zC) := [some (3, 1, 1, 0, 0, []), some (3, 1, 2, 0, 0, []), some (1, 3, 2, 0, 500, []), zN, zN, some (101, 3, 81, 1, 3, [186, 3135]), zN, zN, some (15, 3, 0, 25, 0, []), zN, zN, some (3, 1, 3, 0, 0, []), some (1, 1, 0, 0, (-1), []), some (16, 3, 2, 25, 0, []), zN, zN, some (3, 2, 4, 0, 0, []), zN, some (1, 1, 0, 0, 1, []), some (101, 3, 44, 1, 2, [124, 2202]), zN, zN, some (15, 3, 1, 31, 0, []), zN, zN, some (5, 1, 0, 0, 0, []), some (1, 1, 0, 0, 1, []), some (101, 3, 13, 0, 2, [86, 1262]), zN, zN, some (100, 1, 1, 0, 0, []), some (1, 1, 0, 0, 0, []), some (6, 2, 5, 0, 0, []), zN, some (3, 1, 1, 0, 0, []), some (6, 2, 6, 0, 0, []), zN, some (3, 2, 6, 0, 0, []), zN, some (3, 1, 2, 0, 0, []), some (16, 3, 4, 92, 0, []), zN, zN, some (5, 1, 0, 0, 0, []), some (3, 2, 6, 0, 0, []), zN, some (101, 3, 142, 0, 2, [305, 4167]), zN, zN, some (6, 2, 7, 0, 0, []), zN, some (3, 2, 7, 0, 0, []), zN, some (1, 1, 0, 0, (-1), []), some (16, 3, 1, 60, 0, []), zN, zN, some (17, 3, 0, 86, 0, []), zN, zN, some (3, 2, 5, 0, 0, []), zN, some (3, 1, 3, 0, 0, []), some (16, 3, 1, 83, 0, []), zN, zN, some (5, 1, 0, 0, 0, []), some (3, 2, 4, 0, 0, []), zN, some (15, 3, 1, 77, 0, []), zN, zN, some (3, 2, 6, 0, 0, []), zN, some (17, 3, 0, 79, 0, []), zN, zN, some (3, 2, 7, 0, 0, []), zN, some (101, 3, 39, 0, 2, [108, 2181]), zN, zN, some (100, 1, 1, 0, 0, []), some (9, 3, 5, 0, 1, []), zN, zN, some (9, 3, 6, 0, 1, []), zN, zN, some (17, 3, 0, 37, 0, []), zN, zN, some (5, 1, 0, 0, 0, []), some (3, 1, 3, 0, 0, []), some (3, 2, 5, 0, 0, []), zN, some (101, 3, 82, 0, 3, [190, 3138]), zN, zN, some (100, 1, 1, 0, 0, [])]
def zk142 : List (Option zC) := [some (5, 1, 0, 0, 0, []), some (3, 1, 1, 0, 0, []), some (101, 3, 52, 0, 2, [138, 2233]), zN, zN, some (7, 1, 2, 0, 0, []), some (4, 1, 2, 0, 0, []), some (3, 1, 1, 0, 0, []), some (13, 1, 1, 0, 0, []), some (14, 1, 0, 0, 0, []), some (15, 3, 5, 21, 0, []), zN, zN, some (4, 1, 2, 0, 0, []), some (2, 3, 1, 359, 999999999, [4171]), zN, zN, some (14, 1, 0, 0, 0, []), some (15, 3, 5, 23, 0, []), zN, zN, some (1, 1, 0, 0, (-1), []), some (100, 1, 1, 0, 0, []), some (5, 1, 0, 0, 0, []), some (4, 1, 2, 0, 0, []), some (13, 1, 2, 0, 0, []), some (101, 3, 52, 0, 2, [138, 2233]), zN, zN, some (3, 1, 1, 0, 0, []), some (13, 1, 1, 0, 0, []), some (14, 1, 0, 0, 0, []), some (15, 3, 1, 40, 0, []), zN, zN, some (4, 1, 2, 0, 0, []), some (13, 1, 2, 0, 0, []), some (17, 3, 0, 41, 0, []), zN, zN, some (1, 1, 0, 0, (-1), []), some (100, 1, 1, 0, 0, [])]
def zk143 : List (Option zC) := [some (3, 1, 1, 0, 0, []), some (3, 1, 2, 0, 0, []), some (1, 2, 1, 0, 50, []), zN, some (101, 3, 81, 1, 3, [186, 3135]), zN, zN, some (15, 3, 0, 27, 0, []), zN, zN, some (3, 1, 3, 0, 0, []), some (1, 1, 0, 0, 1, []), some (16, 3, 2, 27, 0, []), zN, zN, some (3, 1, 3, 0, 0, []), some (1, 2, 1, 0, 30, []), zN, some (16, 3, 4, 27, 0, []), zN, zN, some (3, 2, 4, 0, 0, []), zN, some (1, 1, 0, 0, (-1), []), some (16, 3, 3, 33, 0, []), zN, zN, some (5, 1, 0, 0, 0, []), some (1, 1, 0, 0, 1, []), some (101, 3, 13, 0, 2, [86, 1262]), zN, zN, some (100, 1, 1, 0, 0, []), some (1, 1, 0, 0, 0, []), some (6, 2, 5, 0, 0, []), zN, some (3, 1, 1, 0, 0, []), some (6, 2, 6, 0, 0, []), zN, some (3, 2, 6, 0, 0, []), zN, some (3, 1, 2, 0, 0, []), some (16, 3, 4, 81, 0, []), zN, zN, some (5, 1, 0, 0, 0, []), some (3, 2, 6, 0, 0, []), zN, some (3, 1, 3, 0, 0, []), some (101, 3, 144, 0, 3, [308, 4176]), zN, zN, some (15, 3, 1, 58, 0, []), zN, zN, some (17, 3, 0, 75, 0, []), zN, zN, some (3, 2, 5, 0, 0, []), zN, some (3, 2, 4, 0, 0, []), zN, some (16, 3, 1, 72, 0, []), zN, zN, some (5, 1, 0, 0, 0, []), some (3, 2, 6, 0, 0, []), zN, some (101, 3, 39, 0, 2, [108, 2181]), zN, zN, some (100, 1, 1, 0, 0, []), some (9, 3, 5, 0, 1, []), zN, zN, some (9, 3, 6, 0, 1, []), zN, zN, some (17, 3, 0, 39, 0, []), zN, zN, some (5, 1, 0, 0, 0, []), some (3, 2, 4, 0, 0, []), zN, some (3, 2, 5, 0, 0, []), zN, some (101, 3, 82, 0, 3, [190, 3138]), zN, zN, some (100, 1, 1, 0, 0, [])]
def zk144 : List (Option zC) := [some (3, 1, 1, 0, 0, []), some (6, 1, 3, 0, 0, []), some (1, 1, 0, 0, 1, []), some (6, 2, 4, 0, 0, []), zN, some (3, 2, 4, 0, 0, []), zN, some (3, 1, 2, 0, 0, []), some (16, 3, 3, 47, 0, []), zN, zN, some (5, 1, 0, 0, 0, []), some (3, 1, 3, 0, 0, []), some (101, 3, 52, 0, 2, [138, 2233]), zN, zN, some (7, 2, 5, 0, 0, []), zN, some (4, 2, 5, 0, 0, []), zN, some (3, 1, 1, 0, 0, []), some (13, 1, 1, 0, 0, []), some (14, 1, 0, 0, 0, []), some (15, 3, 5, 35, 0, []), zN, zN, some (4, 2, 5, 0, 0, []), zN, some (2, 3, 1, 359, 999999999, [4171]), zN, zN, some (14, 1, 0, 0, 0, []), some (15, 3, 5, 37, 0, []), zN, zN, some (1, 1, 0, 0, 0, []), some (100, 1, 4, 0, 0, []), some (4, 2, 5, 0, 0, []), zN, some (13, 1, 2, 0, 0, []), some (6, 1, 3, 0, 0, []), some (9, 3, 4, 0, 1, []), zN, zN, some (17, 3, 0, 5, 0, []), zN, zN, some (5, 1, 0, 0, 0, []), some (3, 1, 3, 0, 0, []), some (101, 3, 52, 0, 2, [138, 2233]), zN, zN, some (3, 1, 1, 0, 0, []), some (13, 1, 1, 0, 0, []), some (14, 1, 0, 0, 0, []), some (15, 3, 1, 62, 0, []), zN, zN, some (1, 1, 0, 0, 1, []), some (17, 3, 0, 63, 0, []), zN, zN, some (1, 1, 0, 0, 0, []), some (100, 1, 4, 0, 0, [])]
def zk145 : List (Option zC) := [some (3, 1, 1, 0, 0, []), some (3, 1, 2, 0, 0, []), some (1, 2, 1, 0, 50, []), zN, some (101, 3, 81, 1, 3, [186, 3135]), zN, zN, some (15, 3, 0, 19, 0, []), zN, zN, some (3, 1, 3, 0, 0, []), some (1, 2, 1, 0, 6, []), zN, some (101, 3, 44, 1, 2, [124, 2202]), zN, zN, some (15, 3, 1, 25, 0, []), zN, zN, some (5, 1, 0, 0, 0, []), some (1, 1, 0, 0, 1, []), some (101, 3, 13, 0, 2, [86, 1262]), zN, zN, some (100, 1, 1, 0, 0, []), some (1, 1, 0, 0, 0, []), some (6, 2, 4, 0, 0, []), zN, some (1, 1, 0, 0, 0, []), some (6, 2, 5, 0, 0, []), zN, some (1, 1, 0, 0, 0, []), some (6, 2, 6, 0, 0, []), zN, some (1, 1, 0, 0, 0, []), some (6, 2, 7, 0, 0, []), zN, some (3, 1, 1, 0, 0, []), some (6, 2, 8, 0, 0, []), zN, some (3, 2, 8, 0, 0, []), zN, some (3, 1, 2, 0, 0, []), some (16, 3, 4, 144, 0, []), zN, zN, some (5, 1, 0, 0, 0, []), some (18, 3, 5, 6, 44, [1206]), zN, zN, some (3, 2, 8, 0, 0, []), zN, some (5, 1, 0, 0, 0, []), some (18, 3, 5, 2, 26, [1202]), zN, zN, some (18, 3, 0, 4, 117, [1142]), zN, zN, some (5, 1, 0, 0, 0, []), some (18, 3, 5, 2, 26, [1202]), zN, zN, some (5, 1, 0, 0, 0, []), some (18, 3, 5, 1, 19, [1201]), zN, zN, some (101, 3, 109, 0, 5, [279, 3247]), zN, zN, some (3, 2, 4, 0, 0, []), zN, some (5, 1, 0, 0, 0, []), some (18, 3, 5, 6, 44, [1206]), zN, zN, some (18, 3, 4, 2, 239, [1169]), zN, zN, some (3, 1, 3, 0, 0, []), some (16, 3, 1, 87, 0, []), zN, zN, some (1, 1, 0, 0, 1, []), some (17, 3, 0, 88, 0, []), zN, zN, some (1, 1, 0, 0, 0, []), some (10, 1, 0, 0, 0, []), some (6, 2, 4, 0, 0, []), zN, some (5, 1, 0, 0, 0, []), some (18, 3, 5, 6, 44, [1206]), zN, zN, some (18, 3, 4, 1, 235, [1167]), zN, zN, some (3, 2, 5, 0, 0, []), zN, some (16, 3, 5, 116, 0, []), zN, zN, some (5, 1, 0, 0, 0, []), some (18, 3, 5, 6, 44, [1206]), zN, zN, some (18, 3, 4, 1, 235, [1167]), zN, zN, some (6, 2, 5, 0, 0, []), zN, some (3, 2, 8, 0, 0, []), zN, some (6, 2, 6, 0, 0, []), zN, some (3, 2, 7, 0, 0, []), zN, some (5, 1, 0, 0, 0, []), some (18, 3, 5, 6, 44, [1206]), zN, zN, some (18, 3, 4, 0, 236, [1164]), zN, zN, some (5, 1, 0, 0, 0, []), some (18, 3, 5, 6, 44, [1206]), zN, zN, some (101, 3, 116, 0, 1, [249, 3278]), zN, zN, some (21, 1, 0, 0, 0, []), some (37, 3, 168, 0, 0, [3084]), zN, zN, some (6, 2, 7, 0, 0, []), zN, some (9, 3, 8, 0, 1, []), zN, zN, some (17, 3, 0, 40, 0, []), zN, zN, some (3, 1, 3, 0, 0, []), some (30, 27, 0, 193, 4, [172, 179, 186]), zN, zN, zN, zN, zN, zN, zN, zN, zN, zN, zN, zN, zN, zN, zN, zN, zN, zN, zN, zN, zN, zN, zN, zN, zN, zN, some (5, 1, 0, 0, 0, []), some (3, 2, 6, 0, 0, []), zN, some (101, 3, 39, 0, 2, [108, 2181]), zN, zN, some (100, 1, 1, 0, 0, []), some (5, 1, 0, 0, 0, []), some (3, 2, 5, 0, 0, []), zN, some (101, 3, 39, 0, 2, [108, 2181]), zN, zN, some (100, 1, 1, 0, 0, []), some (5, 1, 0, 0, 0, []), some (3, 2, 7, 0, 0, []), zN, some (101, 3, 39, 0, 2, [108, 2181]), zN, zN, some (100, 1, 1, 0, 0, []), some (5, 1, 0, 0, 0, []), some (3, 2, 4, 0, 0, []), zN, some (101, 3, 39, 0, 2, [108, 2181]), zN, zN, some (100, 1, 1, 0, 0, [])]
def zk146 : List (Option zC) := [some (3, 1, 1, 0, 0, []), some (3, 1, 2, 0, 0, []), some (1, 2, 1, 0, 50, []), zN, some (101, 3, 81, 1, 3, [186, 3135]), zN, zN, some (15, 3, 0, 15, 0, []), zN, zN, some (3, 1, 3, 0, 0, []), some (1, 1, 0, 0, 1, []), some (16, 3, 3, 21, 0, []), zN, zN, some (5, 1, 0, 0, 0, []), some (1, 1, 0, 0, 1, []), some (101, 3, 13, 0, 2, [86, 1262]), zN, zN, some (100, 1, 1, 0, 0, []), some (1, 1, 0, 0, 0, []), some (6, 2, 4, 0, 0, []), zN, some (3, 1, 1, 0, 0, []), some (6, 2, 5, 0, 0, []), zN, some (3, 2, 5, 0, 0, []), zN, some (3, 1, 2, 0, 0, []), some (16, 3, 4, 84, 0, []), zN, zN, some (5, 1, 0, 0, 0, []), some (18, 3, 5, 6, 44, [1206]), zN, zN, some (3, 2, 5, 0, 0, []), zN, some (5, 1, 0, 0, 0, []), some (18, 3, 5, 2, 26, [1202]), zN, zN, some (18, 3, 0, 4, 117, [1142]), zN, zN, some (5, 1, 0, 0, 0, []), some (18, 3, 5, 2, 26, [1202]), zN, zN, some (5, 1, 0, 0, 0, []), some (18, 3, 5, 1, 19, [1201]), zN, zN, some (101, 3, 109, 0, 5, [279, 3247]), zN, zN, some (3, 2, 4, 0, 0, []), zN, some (5, 1, 0, 0, 0, []), some (18, 3, 5, 6, 44, [1206]), zN, zN, some (18, 3, 4, 1, 235, [1167]), zN, zN, some (3, 1, 3, 0, 0, []), some (16, 3, 1, 74, 0, []), zN, zN, some (1, 1, 0, 0, 1, []), some (17, 3, 0, 75, 0, []), zN, zN, some (1, 1, 0, 0, 0, []), some (10, 1, 0, 0, 0, []), some (6, 2, 4, 0, 0, []), zN, some (9, 3, 5, 0, 1, []), zN, zN, some (17, 3, 0, 27, 0, []), zN, zN, some (5, 1, 0, 0, 0, []), some (3, 2, 4, 0, 0, []), zN, some (101, 3, 39, 0, 2, [108, 2181]), zN, zN, some (100, 1, 1, 0, 0, [])]
def zk147 : List (Option zC) := [some (3, 1, 1, 0, 0, []), some (3, 1, 2, 0, 0, []), some (1, 3, 2, 0, 200, []), zN, zN, some (101, 3, 81, 1, 3, [186, 3135]), zN, zN, some (15, 3, 0, 19, 0, []), zN, zN, some (3, 1, 3, 0, 0, []), some (1, 1, 0, 0, 2, []), some (101, 3, 44, 1, 2, [124, 2202]), zN, zN, some (15, 3, 1, 25, 0, []), zN, zN, some (5, 1, 0, 0, 0, []), some (1, 1, 0, 0, 1, []), some (101, 3, 13, 0, 2, [86, 1262]), zN, zN, some (100, 1, 1, 0, 0, []), some (3, 1, 2, 0, 0, []), some (3, 1, 1, 0, 0, []), some (10, 1, 1, 0, 0, []), some (1, 1, 0, 0, 1, []), some (10, 1, 0, 0, 0, []), some (6, 2, 4, 0, 0, []), zN, some (1, 1, 0, 0, 0, []), some (6, 2, 5, 0, 0, []), zN, some (3, 2, 5, 0, 0, []), zN, some (3, 2, 4, 0, 0, []), zN, some (16, 3, 3, 76, 0, []), zN, zN, some (3, 2, 5, 0, 0, []), zN, some (5, 1, 0, 0, 0, []), some (18, 3, 5, 9, 59, [1209]), zN, zN, some (20, 1, 0, 0, 0, []), some (16, 3, 3, 76, 0, []), zN, zN, some (5, 1, 0, 0, 0, []), some (18, 3, 5, 9, 59, [1209]), zN, zN, some (3, 2, 5, 0, 0, []), zN, some (5, 1, 0, 0, 0, []), some (18, 3, 5, 1, 19, [1201]), zN, zN, some (3, 1, 1, 0, 0, []), some (3, 2, 5, 0, 0, []), zN, some (10, 1, 0, 0, 0, []), some (101, 3, 148, 0, 2, [311, 4192]), zN, zN, some (22, 1, 0, 0, 0, []), some (9, 3, 5, 0, 1, []), zN, zN, some (17, 3, 0, 35, 0, []), zN, zN, some (1, 1, 0, 0, 0, []), some (6, 2, 5, 0, 0, []), zN, some (1, 1, 0, 0, 0, []), some (6, 2, 6, 0, 0, []), zN, some (1, 1, 0, 0, 0, []), some (6, 2, 7, 0, 0, []), zN, some (1, 1, 0, 0, 0, []), some (6, 2, 8, 0, 0, []), zN, some (3, 2, 8, 0, 0, []), zN, some (3, 2, 4, 0, 0, []), zN, some (16, 3, 3, 149, 0, []), zN, zN, some (3, 2, 5, 0, 0, []), zN, some (5, 1, 0, 0, 0, []), some (3, 2, 8, 0, 0, []), zN, some (3, 2, 8, 0, 0, []), zN, some (101, 3, 129, 0, 3, [276, 4114]), zN, zN, some (15, 3, 1, 112, 0, []), zN, zN, some (1, 1, 0, 0, 1, []), some (17, 3, 0, 113, 0, []), zN, zN, some (1, 1, 0, 0, 0, []), some (10, 1, 0, 0, 0, []), some (6, 2, 5, 0, 0, []), zN, some (5, 1, 0, 0, 0, []), some (3, 2, 4, 0, 0, []), zN, some (3, 2, 8, 0, 0, []), zN, some (101, 3, 129, 0, 3, [276, 4114]), zN, zN, some (6, 2, 9, 0, 0, []), zN, some (3, 2, 9, 0, 0, []), zN, some (3, 2, 6, 0, 0, []), zN, some (16, 3, 5, 143, 0, []), zN, zN, some (3, 2, 9, 0, 0, []), zN, some (6, 2, 6, 0, 0, []), zN, some (3, 1, 1, 0, 0, []), some (3, 2, 8, 0, 0, []), zN, some (10, 1, 0, 0, 0, []), some (6, 2, 7, 0, 0, []), zN, some (9, 3, 8, 0, 1, []), zN, zN, some (17, 3, 0, 88, 0, []), zN, zN, some (3, 1, 3, 0, 0, []), some (15, 3, 1, 160, 0, []), zN, zN, some (5, 1, 0, 0, 0, []), some (3, 2, 5, 0, 0, []), zN, some (101, 3, 39, 0, 2, [108, 2181]), zN, zN, some (100, 1, 1, 0, 0, []), some (5, 1, 0, 0, 0, []), some (3, 1, 3, 0, 0, []), some (1, 1, 0, 0, 1, []), some (16, 3, 1, 171, 0, []), zN, zN, some (3, 2, 6, 0, 0, []), zN, some (17, 3, 0, 173, 0, []), zN, zN, some (3, 2, 7, 0, 0, []), zN, some (101, 3, 39, 0, 2, [108, 2181]), zN, zN, some (100, 1, 1, 0, 0, [])]
def zk148 : List (Option zC) := [some (5, 1, 0, 0, 0, []), some (3, 1, 1, 0, 0, []), some (101, 3, 45, 0, 2, [49, 2241]), zN, zN, some (5, 1, 0, 0, 0, []), some (101, 3, 149, 0, 1, [83, 4196]), zN, zN, some (2, 1, 0, 0, 1, []), some (7, 1, 2, 0, 0, []), some (1, 1, 0, 0, 0, []), some (6, 2, 4, 0, 0, []), zN, some (3, 2, 4, 0, 0, []), zN, some (5, 1, 0, 0, 0, []), some (18, 3, 2, 3, 21, [1104]), zN, zN, some (16, 3, 3, 48, 0, []), zN, zN, some (4, 1, 2, 0, 0, []), some (31, 3, 0, 25, 0, [2209]), zN, zN, some (3, 2, 4, 0, 0, []), zN, some (21, 1, 0, 0, 0, []), some (5, 1, 0, 0, 0, []), some (18, 3, 2, 2, 18, [1103]), zN, zN, some (3, 2, 4, 0, 0, []), zN, some (21, 1, 0, 0, 0, []), some (101, 3, 55, 1, 2, [63, 2246]), zN, zN, some (11, 1, 2, 0, 0, []), some (7, 1, 2, 0, 0, []), some (9, 3, 4, 0, 1, []), zN, zN, some (17, 3, 0, 14, 0, []), zN, zN, some (4, 1, 2, 0, 0, []), some (13, 1, 2, 0, 0, []), some (100, 1, 1, 0, 0, [])]
def zk149 : List (Option zC) := [some (1, 1, 0, 0, 0, []), some (6, 1, 1, 0, 0, []), some (3, 1, 1, 0, 0, []), some (5, 1, 0, 0, 0, []), some (18, 3, 2, 3, 21, [1104]), zN, zN, some (16, 3, 3, 71, 0, []), zN, zN, some (3, 1, 1, 0, 0, []), some (6, 1, 2, 0, 0, []), some (3, 1, 2, 0, 0, []), some (15, 3, 5, 53, 0, []), zN, zN, some (5, 1, 0, 0, 0, []), some (18, 3, 2, 2, 18, [1103]), zN, zN, some (3, 1, 2, 0, 0, []), some (1, 1, 0, 0, 1, []), some (10, 1, 1, 0, 0, []), some (21, 1, 0, 0, 0, []), some (5, 1, 0, 0, 0, []), some (18, 3, 2, 1, 15, [1100]), zN, zN, some (3, 1, 1, 0, 0, []), some (21, 1, 0, 0, 0, []), some (16, 3, 3, 53, 0, []), zN, zN, some (5, 1, 0, 0, 0, []), some (18, 3, 2, 2, 18, [1103]), zN, zN, some (3, 1, 2, 0, 0, []), some (5, 1, 0, 0, 0, []), some (18, 3, 2, 2, 18, [1103]), zN, zN, some (3, 1, 2, 0, 0, []), some (1, 1, 0, 0, 1, []), some (10, 1, 1, 0, 0, []), some (21, 1, 0, 0, 0, []), some (22, 1, 0, 0, 0, []), some (9, 3, 2, 0, (-1), []), zN, zN, some (17, 3, 0, 12, 0, []), zN, zN, some (5, 1, 0, 0, 0, []), some (18, 3, 2, 2, 18, [1103]), zN, zN, some (3, 1, 2, 0, 0, []), some (5, 1, 0, 0, 0, []), some (18, 3, 2, 1, 15, [1100]), zN, zN, some (3, 1, 1, 0, 0, []), some (21, 1, 0, 0, 0, []), some (22, 1, 0, 0, 0, []), some (9, 3, 1, 0, 1, []), zN, zN, some (17, 3, 0, 2, 0, []), zN, zN, some (100, 1, 0, 0, 0, [])]
def zk150 : List (Option zC) := [some (3, 1, 1, 0, 0, []), some (101, 3, 43, 1, 1, [120, 2198]), zN, zN, some (15, 3, 0, 14, 0, []), zN, zN, some (3, 1, 2, 0, 0, []), some (101, 3, 43, 1, 1, [120, 2198]), zN, zN, some (15, 3, 1, 20, 0, []), zN, zN, some (5, 1, 0, 0, 0, []), some (1, 1, 0, 0, 1, []), some (101, 3, 13, 0, 2, [86, 1262]), zN, zN, some (100, 1, 1, 0, 0, []), some (5, 1, 0, 0, 0, []), some (5, 1, 0, 0, 0, []), some (18, 3, 5, 1, 19, [1201]), zN, zN, some (3, 1, 1, 0, 0, []), some (101, 3, 148, 0, 2, [311, 4192]), zN, zN, some (5, 1, 0, 0, 0, []), some (18, 3, 5, 1, 19, [1201]), zN, zN, some (3, 1, 2, 0, 0, []), some (101, 3, 148, 0, 2, [311, 4192]), zN, zN, some (16, 3, 1, 44, 0, []), zN, zN, some (1, 1, 0, 0, 1, []), some (17, 3, 0, 45, 0, []), zN, zN, some (1, 1, 0, 0, 0, []), some (101, 3, 39, 0, 2, [108, 2181]), zN, zN, some (100, 1, 1, 0, 0, [])]
def zk151_0 : List (Option zC) := [some (3, 1, 1, 0, 0, []), some (1, 1, 0, 0, 2, []), some (16, 3, 2, 29, 0, []), zN, zN, some (3, 1, 1, 0, 0, []), some (1, 2, 1, 0, 9, []), zN, some (16, 3, 4, 29, 0, []), zN, zN, some (3, 1, 2, 0, 0, []), some (1, 1, 0, 0, 1, []), some (16, 3, 2, 29, 0, []), zN, zN, some (3, 1, 2, 0, 0, []), some (3, 1, 1, 0, 0, []), some (16, 3, 3, 29, 0, []), zN, zN, some (3, 1, 3, 0, 0, []), some (1, 1, 0, 0, 5, []), some (101, 3, 44, 1, 2, [124, 2202]), zN, zN, some (15, 3, 1, 36, 0, []), zN, zN, some (5, 1, 0, 0, 0, []), some (1, 1, 0, 0, 1, []), some (101, 3, 13, 0, 2, [86, 1262]), zN, zN, some (13, 1, 1, 0, 0, []), some (100, 1, 2, 0, 0, []), some (1, 1, 0, 0, 1, []), some (3, 1, 1, 0, 0, []), some (3, 1, 2, 0, 0, []), some (10, 1, 1, 0, 0, []), some (10, 1, 8, 0, 0, []), some (1, 1, 0, 0, 1, []), some (10, 1, 0, 0, 0, []), some (6, 2, 4, 0, 0, []), zN, some (3, 2, 4, 0, 0, []), zN, some (3, 1, 2, 0, 0, []), some (10, 1, 8, 0, 0, []), some (1, 1, 0, 0, 1, []), some (10, 1, 1, 0, 0, []), some (6, 2, 5, 0, 0, []), zN, some (3, 2, 4, 0, 0, []), zN, some (3, 1, 1, 0, 0, []), some (10, 1, 8, 0, 0, []), some (1, 1, 0, 0, 1, []), some (10, 1, 1, 0, 0, []), some (6, 2, 6, 0, 0, []), zN, some (3, 2, 4, 0, 0, []), zN, some (3, 2, 4, 0, 0, []), zN, some (10, 1, 2, 0, 0, []), some (3, 1, 1, 0, 0, []), some (3, 1, 2, 0, 0, []), some (10, 1, 0, 0, 0, []), some (10, 1, 8, 0, 0, []), some (1, 1, 0, 0, 1, []), some (10, 1, 1, 0, 0, []), some (6, 2, 7, 0, 0, []), zN, some (5, 1, 0, 0, 0, []), some (18, 3, 5, 1, 19, [1201]), zN, zN, some (3, 2, 5, 0, 0, []), zN, some (101, 3, 103, 0, 2, [222, 3223]), zN, zN, some (15, 3, 0, 114, 0, []), zN, zN, some (5, 1, 0, 0, 0, []), some (18, 3, 5, 1, 19, [1201]), zN, zN, some (3, 2, 6, 0, 0, []), zN, some (101, 3, 103, 0, 2, [222, 3223]), zN, zN, some (15, 3, 0, 114, 0, []), zN, zN, some (5, 1, 0, 0, 0, []), some (18, 3, 5, 1, 19, [1201]), zN, zN, some (3, 2, 7, 0, 0, []), zN, some (101, 3, 103, 0, 2, [222, 3223]), zN, zN, some (15, 3, 0, 114, 0, []), zN, zN, some (1, 1, 0, 0, 1, []), some (17, 3, 0, 115, 0, []), zN, zN, some (1, 1, 0, 0, 0, []), some (6, 2, 8, 0, 0, []), zN, some (3, 1, 3, 0, 0, []), some (1, 1, 0, 0, 3, []), some (16, 3, 5, 134, 0, []), zN, zN, some (3, 2, 8, 0, 0, []), zN, some (15, 3, 1, 134, 0, []), zN, zN, some (5, 1, 0, 0, 0, []), some (1, 1, 0, 0, 5, []), some (101, 3, 13, 0, 2, [86, 1262]), zN, zN, some (13, 1, 1, 0, 0, []), some (100, 1, 2, 0, 0, []), some (3, 1, 3, 0, 0, []), some (30, 33, 0, 222, 0, [168, 184, 192, 200, 208]), zN, zN, zN, zN, zN, zN, zN, zN, zN, zN, zN, zN, zN, zN, zN, zN, zN, zN, zN, zN, zN, zN, zN, zN, zN, zN, zN, zN, zN, zN, zN, zN, some (5, 1, 0, 0, 0, []), some (3, 2, 8, 0, 0, []), zN, some (15, 3, 0, 178, 0, []), zN, zN, some (1, 1, 0, 0, 1, []), some (17, 3, 0, 179, 0, []), zN, zN, some (1, 1, 0, 0, 0, []), some (101, 3, 39, 0, 2, [108, 2181]), zN, zN, some (13, 1, 1, 0, 0, []), some (100, 1, 2, 0, 0, []), some (5, 1, 0, 0, 0, []), some (3, 2, 5, 0, 0, []), zN, some (101, 3, 39, 0, 2, [108, 2181]), zN, zN, some (13, 1, 1, 0, 0, []), some (100, 1, 2, 0, 0, []), some (5, 1, 0, 0, 0, []), some (3, 2, 6, 0, 0, []), zN, some (101, 3, 39, 0, 2, [108, 2181]), zN, zN, some (13, 1, 1, 0, 0, []), some (100, 1, 2, 0, 0, [])]
def zk151_1 : List (Option zC) := [some (5, 1, 0, 0, 0, []), some (3, 2, 7, 0, 0, []), zN, some (101, 3, 39, 0, 2, [108, 2181]), zN, zN, some (13, 1, 1, 0, 0, []), some (100, 1, 2, 0, 0, []), some (5, 1, 0, 0, 0, []), some (3, 2, 5, 0, 0, []), zN, some (13, 1, 1, 0, 0, []), some (3, 1, 1, 0, 0, []), some (12, 1, 0, 0, 0, []), some (3, 2, 6, 0, 0, []), zN, some (13, 1, 1, 0, 0, []), some (11, 1, 2, 0, 0, []), some (101, 3, 60, 0, 2, [142, 2265]), zN, zN, some (100, 1, 2, 0, 0, []), some (5, 1, 0, 0, 0, []), some (3, 2, 7, 0, 0, []), zN, some (13, 1, 1, 0, 0, []), some (3, 1, 1, 0, 0, []), some (12, 1, 0, 0, 0, []), some (101, 3, 60, 0, 2, [142, 2265]), zN, zN, some (100, 1, 2, 0, 0, [])]
def zk151 : List (Option zC) := zk151_0 ++ zk151_1
def zk152 : List (Option zC) := [some (3, 1, 1, 0, 0, []), some (101, 3, 43, 1, 1, [120, 2198]), zN, zN, some (15, 3, 1, 13, 0, []), zN, zN, some (5, 1, 0, 0, 0, []), some (1, 1, 0, 0, 1, []), some (101, 3, 13, 0, 2, [86, 1262]), zN, zN, some (100, 1, 1, 0, 0, []), some (5, 1, 0, 0, 0, []), some (18, 3, 5, 2, 26, [1202]), zN, zN, some (18, 3, 0, 1, 105, [1130]), zN, zN, some (1, 2, 1, 0, 6, []), zN, some (16, 3, 2, 31, 0, []), zN, zN, some (5, 1, 0, 0, 0, []), some (1, 1, 0, 0, 3, []), some (101, 3, 13, 0, 2, [86, 1262]), zN, zN, some (100, 1, 1, 0, 0, []), some (5, 1, 0, 0, 0, []), some (101, 3, 153, 0, 1, [314, 4212]), zN, zN, some (5, 1, 0, 0, 0, []), some (18, 3, 5, 2, 26, [1202]), zN, zN, some (3, 1, 1, 0, 0, []), some (101, 3, 34, 0, 2, [317, 4220]), zN, zN, some (5, 1, 0, 0, 0, []), some (101, 3, 38, 0, 1, [102, 2177]), zN, zN, some (5, 1, 0, 0, 0, []), some (5, 1, 0, 0, 0, []), some (18, 3, 5, 2, 26, [1202]), zN, zN, some (18, 3, 0, 1, 105, [1130]), zN, zN, some (1, 1, 0, 0, 1, []), some (10, 1, 1, 0, 0, []), some (101, 3, 39, 0, 2, [108, 2181]), zN, zN, some (100, 1, 1, 0, 0, [])]
def zk153 : List (Option zC) := [some (5, 1, 0, 0, 0, []), some (18, 3, 5, 11, 66, [1211]), zN, zN, some (5, 1, 0, 0, 0, []), some (18, 3, 5, 4, 33, [1204]), zN, zN, some (20, 1, 0, 0, 0, []), some (16, 3, 2, 16, 0, []), zN, zN, some (5, 1, 0, 0, 0, []), some (101, 3, 154, 0, 1, [339, 4216]), zN, zN, some (5, 1, 0, 0, 0, []), some (18, 3, 5, 4, 33, [1204]), zN, zN, some (5, 1, 0, 0, 0, []), some (18, 3, 5, 11, 66, [1211]), zN, zN, some (21, 1, 4, 0, 0, []), some (5, 1, 0, 0, 0, []), some (18, 3, 5, 2, 26, [1202]), zN, zN, some (101, 3, 37, 0, 2, [98, 2173]), zN, zN, some (5, 1, 0, 0, 0, []), some (23, 1, 0, 0, 0, []), some (18, 3, 5, 11, 66, [1211]), zN, zN, some (1, 1, 0, 0, 1, []), some (10, 1, 0, 0, 0, []), some (19, 3, 5, 11, 66, [1211]), zN, zN, some (100, 1, 0, 0, 0, [])]
def zk154 : List (Option zC) := [some (5, 1, 0, 0, 0, []), some (18, 3, 5, 4, 33, [1204]), zN, zN, some (1, 1, 0, 0, 0, []), some (21, 1, 4, 0, 0, []), some (8, 1, 1, 0, 0, []), some (1, 1, 0, 0, 1, []), some (6, 1, 2, 0, 0, []), some (3, 1, 2, 0, 0, []), some (5, 1, 0, 0, 0, []), some (18, 3, 5, 4, 33, [1204]), zN, zN, some (20, 1, 0, 0, 0, []), some (16, 3, 3, 38, 0, []), zN, zN, some (5, 1, 0, 0, 0, []), some (18, 3, 5, 4, 33, [1204]), zN, zN, some (3, 1, 2, 0, 0, []), some (1, 1, 0, 0, 1, []), some (10, 1, 1, 0, 0, []), some (5, 1, 0, 0, 0, []), some (18, 3, 5, 4, 33, [1204]), zN, zN, some (3, 1, 2, 0, 0, []), some (21, 1, 4, 0, 0, []), some (22, 1, 4, 0, 0, []), some (9, 3, 2, 0, 1, []), zN, zN, some (17, 3, 0, 9, 0, []), zN, zN, some (5, 1, 0, 0, 0, []), some (18, 3, 5, 4, 33, [1204]), zN, zN, some (5, 1, 0, 0, 0, []), some (18, 3, 5, 4, 33, [1204]), zN, zN, some (20, 1, 0, 0, 0, []), some (1, 1, 0, 0, 1, []), some (10, 1, 1, 0, 0, []), some (5, 1, 1, 0, 0, []), some (22, 1, 4, 0, 0, []), some (5, 1, 0, 0, 0, []), some (5, 1, 0, 0, 0, []), some (18, 3, 5, 4, 33, [1204]), zN, zN, some (20, 1, 0, 0, 0, []), some (1, 1, 0, 0, 1, []), some (10, 1, 1, 0, 0, []), some (19, 3, 5, 11, 66, [1211]), zN, zN, some (100, 1, 0, 0, 0, [])]
def zk155 : List (Option zC) := [some (3, 1, 2, 0, 0, []), some (101, 3, 43, 1, 1, [120, 2198]), zN, zN, some (15, 3, 1, 13, 0, []), zN, zN, some (5, 1, 0, 0, 0, []), some (1, 1, 0, 0, 1, []), some (101, 3, 13, 0, 2, [86, 1262]), zN, zN, some (100, 1, 1, 0, 0, []), some (5, 1, 0, 0, 0, []), some (3, 1, 1, 0, 0, []), some (101, 3, 106, 0, 2, [225, 3235]), zN, zN, some (15, 3, 1, 27, 0, []), zN, zN, some (5, 1, 0, 0, 0, []), some (1, 1, 0, 0, 2, []), some (101, 3, 13, 0, 2, [86, 1262]), zN, zN, some (100, 1, 1, 0, 0, []), some (5, 1, 0, 0, 0, []), some (18, 3, 5, 2, 26, [1202]), zN, zN, some (18, 3, 0, 0, 228, [1128]), zN, zN, some (3, 1, 1, 0, 0, []), some (21, 1, 0, 0, 0, []), some (6, 1, 3, 0, 0, []), some (3, 1, 3, 0, 0, []), some (3, 1, 2, 0, 0, []), some (16, 3, 1, 48, 0, []), zN, zN, some (5, 1, 0, 0, 0, []), some (1, 1, 0, 0, 4, []), some (101, 3, 13, 0, 2, [86, 1262]), zN, zN, some (100, 1, 1, 0, 0, []), some (5, 1, 0, 0, 0, []), some (3, 1, 1, 0, 0, []), some (3, 1, 2, 0, 0, []), some (101, 3, 156, 0, 3, [320, 4225]), zN, zN, some (5, 1, 0, 0, 0, []), some (3, 1, 3, 0, 0, []), some (101, 3, 39, 0, 2, [108, 2181]), zN, zN, some (100, 1, 1, 0, 0, [])]
def zk156 : List (Option zC) := [some (5, 1, 0, 0, 0, []), some (101, 3, 153, 0, 1, [314, 4212]), zN, zN, some (5, 1, 0, 0, 0, []), some (18, 3, 5, 2, 26, [1202]), zN, zN, some (18, 3, 0, 0, 228, [1128]), zN, zN, some (3, 1, 1, 0, 0, []), some (3, 1, 2, 0, 0, []), some (22, 1, 0, 0, 0, []), some (5, 1, 0, 0, 0, []), some (101, 3, 38, 0, 1, [102, 2177]), zN, zN, some (100, 1, 0, 0, 0, [])]
def zk157 : List (Option zC) := [some (5, 1, 0, 0, 0, []), some (3, 1, 1, 0, 0, []), some (101, 3, 106, 0, 2, [225, 3235]), zN, zN, some (15, 3, 1, 14, 0, []), zN, zN, some (5, 1, 0, 0, 0, []), some (1, 1, 0, 0, 2, []), some (101, 3, 13, 0, 2, [86, 1262]), zN, zN, some (100, 1, 1, 0, 0, []), some (5, 1, 0, 0, 0, []), some (101, 3, 153, 0, 1, [314, 4212]), zN, zN, some (5, 1, 0, 0, 0, []), some (18, 3, 5, 2, 26, [1202]), zN, zN, some (3, 1, 1, 0, 0, []), some (101, 3, 158, 0, 2, [324, 4233]), zN, zN, some (5, 1, 0, 0, 0, []), some (101, 3, 38, 0, 1, [102, 2177]), zN, zN, some (5, 1, 0, 0, 0, []), some (5, 1, 0, 0, 0, []), some (18, 3, 5, 2, 26, [1202]), zN, zN, some (18, 3, 0, 1, 105, [1130]), zN, zN, some (101, 3, 39, 0, 2, [108, 2181]), zN, zN, some (100, 1, 1, 0, 0, [])]
def zk158 : List (Option zC) := [some (3, 1, 1, 0, 0, []), some (1, 1, 0, 0, 1, []), some (10, 1, 0, 0, 0, []), some (6, 1, 2, 0, 0, []), some (3, 1, 2, 0, 0, []), some (5, 1, 0, 0, 0, []), some (18, 3, 0, 1, 15, [1129]), zN, zN, some (16, 3, 3, 41, 0, []), zN, zN, some (3, 1, 2, 0, 0, []), some (5, 1, 0, 0, 0, []), some (18, 3, 0, 0, 9, [1127]), zN, zN, some (20, 1, 0, 0, 0, []), some (16, 3, 3, 41, 0, []), zN, zN, some (5, 1, 0, 0, 0, []), some (18, 3, 0, 0, 9, [1127]), zN, zN, some (3, 1, 2, 0, 0, []), some (1, 1, 0, 0, 1, []), some (10, 1, 1, 0, 0, []), some (5, 1, 0, 0, 0, []), some (18, 3, 0, 0, 9, [1127]), zN, zN, some (3, 1, 2, 0, 0, []), some (21, 1, 0, 0, 0, []), some (22, 1, 0, 0, 0, []), some (9, 3, 2, 0, 1, []), zN, zN, some (17, 3, 0, 4, 0, []), zN, zN, some (5, 1, 0, 0, 0, []), some (23, 1, 0, 0, 0, []), some (18, 3, 0, 1, 15, [1129]), zN, zN, some (1, 1, 0, 0, 1, []), some (10, 1, 1, 0, 0, []), some (19, 3, 0, 1, 15, [1129]), zN, zN, some (100, 1, 0, 0, 0, [])]
def zk159 : List (Option zC) := [some (5, 1, 0, 0, 0, []), some (3, 1, 1, 0, 0, []), some (101, 3, 106, 0, 2, [225, 3235]), zN, zN, some (15, 3, 1, 14, 0, []), zN, zN, some (5, 1, 0, 0, 0, []), some (1, 1, 0, 0, 2, []), some (101, 3, 13, 0, 2, [86, 1262]), zN, zN, some (100, 1, 1, 0, 0, []), some (5, 1, 0, 0, 0, []), some (3, 1, 1, 0, 0, []), some (101, 3, 108, 0, 2, [231, 3243]), zN, zN, some (8, 1, 2, 0, 0, []), some (5, 1, 2, 0, 0, []), some (18, 3, 4, 1, 235, [1167]), zN, zN, some (1, 1, 0, 0, 2, []), some (16, 3, 2, 37, 0, []), zN, zN, some (5, 1, 2, 0, 0, []), some (18, 3, 4, 0, 236, [1164]), zN, zN, some (1, 1, 0, 0, 1, []), some (21, 1, 0, 0, 0, []), some (15, 3, 1, 43, 0, []), zN, zN, some (5, 1, 0, 0, 0, []), some (1, 1, 0, 0, 5, []), some (101, 3, 13, 0, 2, [86, 1262]), zN, zN, some (100, 1, 1, 0, 0, []), some (5, 1, 2, 0, 0, []), some (18, 3, 4, 0, 236, [1164]), zN, zN, some (1, 1, 0, 0, 1, []), some (21, 1, 0, 0, 0, []), some (6, 1, 3, 0, 0, []), some (5, 1, 0, 0, 0, []), some (3, 1, 1, 0, 0, []), some (3, 1, 3, 0, 0, []), some (101, 3, 156, 0, 3, [320, 4225]), zN, zN, some (5, 1, 0, 0, 0, []), some (3, 1, 3, 0, 0, []), some (101, 3, 39, 0, 2, [108, 2181]), zN, zN, some (100, 1, 1, 0, 0, [])]
def zk160 : List (Option zC) := [some (5, 1, 0, 0, 0, []), some (3, 1, 1, 0, 0, []), some (101, 3, 106, 0, 2, [225, 3235]), zN, zN, some (15, 3, 0, 16, 0, []), zN, zN, some (5, 1, 0, 0, 0, []), some (3, 1, 2, 0, 0, []), some (101, 3, 106, 0, 2, [225, 3235]), zN, zN, some (15, 3, 1, 22, 0, []), zN, zN, some (5, 1, 0, 0, 0, []), some (1, 1, 0, 0, 2, []), some (101, 3, 13, 0, 2, [86, 1262]), zN, zN, some (100, 1, 1, 0, 0, []), some (3, 1, 1, 0, 0, []), some (3, 1, 2, 0, 0, []), some (16, 3, 1, 33, 0, []), zN, zN, some (5, 1, 0, 0, 0, []), some (1, 1, 0, 0, 4, []), some (101, 3, 13, 0, 2, [86, 1262]), zN, zN, some (100, 1, 1, 0, 0, []), some (5, 1, 0, 0, 0, []), some (101, 3, 153, 0, 1, [314, 4212]), zN, zN, some (5, 1, 0, 0, 0, []), some (18, 3, 5, 2, 26, [1202]), zN, zN, some (18, 3, 0, 0, 228, [1128]), zN, zN, some (3, 1, 1, 0, 0, []), some (21, 1, 0, 0, 0, []), some (6, 1, 3, 0, 0, []), some (5, 1, 0, 0, 0, []), some (18, 3, 5, 2, 26, [1202]), zN, zN, some (18, 3, 0, 0, 228, [1128]), zN, zN, some (3, 1, 1, 0, 0, []), some (5, 1, 0, 0, 0, []), some (18, 3, 5, 2, 26, [1202]), zN, zN, some (18, 3, 0, 0, 228, [1128]), zN, zN, some (3, 1, 2, 0, 0, []), some (21, 1, 0, 0, 0, []), some (22, 1, 0, 0, 0, []), some (5, 1, 0, 0, 0, []), some (18, 3, 5, 2, 26, [1202]), zN, zN, some (18, 3, 0, 0, 228, [1128]), zN, zN, some (3, 1, 2, 0, 0, []), some (3, 1, 3, 0, 0, []), some (22, 1, 0, 0, 0, []), some (5, 1, 0, 0, 0, []), some (101, 3, 38, 0, 1, [102, 2177]), zN, zN, some (5, 1, 0, 0, 0, []), some (5, 1, 0, 0, 0, []), some (3, 1, 1, 0, 0, []), some (101, 3, 108, 0, 2, [231, 3243]), zN, zN, some (18, 3, 4, 1, 235, [1167]), zN, zN, some (101, 3, 39, 0, 2, [108, 2181]), zN, zN, some (100, 1, 1, 0, 0, [])]
def zk161 : List (Option zC) := [some (3, 1, 1, 0, 0, []), some (1, 1, 0, 0, 2, []), some (101, 3, 44, 1, 2, [124, 2202]), zN, zN, some (15, 3, 0, 16, 0, []), zN, zN, some (3, 1, 1, 0, 0, []), some (3, 1, 2, 0, 0, []), some (101, 3, 162, 1, 2, [327, 4249]), zN, zN, some (15, 3, 1, 22, 0, []), zN, zN, some (5, 1, 0, 0, 0, []), some (1, 1, 0, 0, 1, []), some (101, 3, 13, 0, 2, [86, 1262]), zN, zN, some (100, 1, 1, 0, 0, []), some (3, 1, 1, 0, 0, []), some (15, 3, 1, 36, 0, []), zN, zN, some (5, 1, 0, 0, 0, []), some (18, 3, 5, 2, 26, [1202]), zN, zN, some (18, 3, 0, 2, 111, [1135]), zN, zN, some (17, 3, 0, 58, 0, []), zN, zN, some (3, 1, 1, 0, 0, []), some (1, 1, 0, 0, 1, []), some (16, 3, 1, 51, 0, []), zN, zN, some (5, 1, 0, 0, 0, []), some (18, 3, 5, 2, 26, [1202]), zN, zN, some (18, 3, 0, 3, 114, [1139]), zN, zN, some (17, 3, 0, 58, 0, []), zN, zN, some (5, 1, 0, 0, 0, []), some (18, 3, 5, 2, 26, [1202]), zN, zN, some (18, 3, 0, 4, 117, [1142]), zN, zN, some (6, 1, 3, 0, 0, []), some (3, 1, 3, 0, 0, []), some (3, 1, 2, 0, 0, []), some (16, 3, 1, 70, 0, []), zN, zN, some (5, 1, 0, 0, 0, []), some (1, 1, 0, 0, 4, []), some (101, 3, 13, 0, 2, [86, 1262]), zN, zN, some (100, 1, 1, 0, 0, []), some (5, 1, 0, 0, 0, []), some (101, 3, 153, 0, 1, [314, 4212]), zN, zN, some (3, 1, 1, 0, 0, []), some (15, 3, 1, 89, 0, []), zN, zN, some (5, 1, 0, 0, 0, []), some (18, 3, 5, 2, 26, [1202]), zN, zN, some (3, 1, 2, 0, 0, []), some (19, 3, 0, 2, 111, [1135]), zN, zN, some (17, 3, 0, 113, 0, []), zN, zN, some (3, 1, 1, 0, 0, []), some (1, 1, 0, 0, 1, []), some (16, 3, 1, 105, 0, []), zN, zN, some (5, 1, 0, 0, 0, []), some (18, 3, 5, 2, 26, [1202]), zN, zN, some (3, 1, 2, 0, 0, []), some (19, 3, 0, 3, 114, [1139]), zN, zN, some (17, 3, 0, 113, 0, []), zN, zN, some (5, 1, 0, 0, 0, []), some (18, 3, 5, 2, 26, [1202]), zN, zN, some (3, 1, 2, 0, 0, []), some (19, 3, 0, 4, 117, [1142]), zN, zN, some (5, 1, 0, 0, 0, []), some (101, 3, 38, 0, 1, [102, 2177]), zN, zN, some (5, 1, 0, 0, 0, []), some (3, 1, 3, 0, 0, []), some (101, 3, 39, 0, 2, [108, 2181]), zN, zN, some (100, 1, 1, 0, 0, [])]
def zk162 : List (Option zC) := [some (3, 1, 0, 0, 0, []), some (15, 3, 1, 9, 0, []), zN, zN, some (3, 1, 1, 0, 0, []), some (101, 3, 43, 1, 1, [120, 2198]), zN, zN, some (100, 1, 4, 0, 0, []), some (3, 1, 0, 0, 0, []), some (1, 1, 0, 0, 1, []), some (16, 3, 1, 33, 0, []), zN, zN, some (3, 1, 1, 0, 0, []), some (1, 1, 0, 0, 1, []), some (16, 3, 2, 29, 0, []), zN, zN, some (3, 1, 1, 0, 0, []), some (1, 2, 1, 0, 100, []), zN, some (16, 3, 4, 29, 0, []), zN, zN, some (1, 1, 0, 0, 1, []), some (17, 3, 0, 38, 0, []), zN, zN, some (1, 1, 0, 0, 0, []), some (17, 3, 0, 38, 0, []), zN, zN, some (3, 1, 1, 0, 0, []), some (1, 1, 0, 0, 3, []), some (101, 3, 44, 1, 2, [124, 2202]), zN, zN, some (100, 1, 4, 0, 0, [])]
def zk163 : List (Option zC) := [some (5, 1, 0, 0, 0, []), some (3, 1, 1, 0, 0, []), some (101, 3, 106, 0, 2, [225, 3235]), zN, zN, some (15, 3, 1, 14, 0, []), zN, zN, some (5, 1, 0, 0, 0, []), some (1, 1, 0, 0, 2, []), some (101, 3, 13, 0, 2, [86, 1262]), zN, zN, some (100, 1, 1, 0, 0, []), some (5, 1, 0, 0, 0, []), some (18, 3, 5, 7, 51, [1207]), zN, zN, some (5, 1, 0, 0, 0, []), some (3, 1, 1, 0, 0, []), some (101, 3, 108, 0, 2, [231, 3243]), zN, zN, some (5, 1, 0, 0, 0, []), some (18, 3, 5, 1, 19, [1201]), zN, zN, some (101, 3, 164, 0, 3, [330, 4256]), zN, zN, some (5, 1, 0, 0, 0, []), some (5, 1, 0, 0, 0, []), some (18, 3, 5, 7, 51, [1207]), zN, zN, some (18, 3, 1, 1, 334, [1194]), zN, zN, some (101, 3, 39, 0, 2, [108, 2181]), zN, zN, some (100, 1, 1, 0, 0, [])]
def zk164 : List (Option zC) := [some (5, 1, 0, 0, 0, []), some (1, 1, 0, 0, 0, []), some (19, 3, 1, 1, 15, [1193]), zN, zN, some (1, 1, 0, 0, 0, []), some (6, 1, 3, 0, 0, []), some (3, 1, 3, 0, 0, []), some (5, 1, 1, 0, 0, []), some (18, 3, 4, 1, 19, [1166]), zN, zN, some (16, 3, 3, 42, 0, []), zN, zN, some (3, 1, 3, 0, 0, []), some (15, 3, 5, 25, 0, []), zN, zN, some (5, 1, 0, 0, 0, []), some (1, 2, 1, 0, 32, []), zN, some (101, 3, 165, 0, 2, [22, 4260]), zN, zN, some (5, 1, 0, 0, 0, []), some (5, 1, 1, 0, 0, []), some (18, 3, 4, 0, 26, [1163]), zN, zN, some (3, 1, 3, 0, 0, []), some (21, 1, 0, 0, 0, []), some (5, 1, 2, 0, 0, []), some (101, 3, 166, 0, 3, [29, 4264]), zN, zN, some (9, 3, 3, 0, 1, []), zN, zN, some (17, 3, 0, 7, 0, []), zN, zN, some (100, 1, 0, 0, 0, [])]
def zk165 : List (Option zC) := [some (5, 1, 0, 0, 0, []), some (18, 3, 1, 1, 15, [1193]), zN, zN, some (5, 1, 0, 0, 0, []), some (18, 3, 1, 0, 9, [1191]), zN, zN, some (20, 1, 0, 0, 0, []), some (16, 3, 3, 32, 0, []), zN, zN, some (5, 1, 0, 0, 0, []), some (18, 3, 1, 0, 9, [1191]), zN, zN, some (5, 1, 0, 0, 0, []), some (18, 3, 1, 1, 15, [1193]), zN, zN, some (3, 1, 1, 0, 0, []), some (22, 1, 0, 0, 0, []), some (5, 1, 0, 0, 0, []), some (23, 1, 0, 0, 0, []), some (18, 3, 1, 1, 15, [1193]), zN, zN, some (1, 1, 0, 0, 1, []), some (10, 1, 0, 0, 0, []), some (19, 3, 1, 1, 15, [1193]), zN, zN, some (100, 1, 0, 0, 0, [])]
def zk166 : List (Option zC) := [some (3, 1, 1, 0, 0, []), some (1, 1, 0, 0, 1, []), some (16, 3, 4, 11, 0, []), zN, zN, some (5, 1, 0, 0, 0, []), some (3, 1, 1, 0, 0, []), some (101, 3, 167, 0, 2, [33, 4268]), zN, zN, some (100, 1, 0, 0, 0, []), some (5, 1, 2, 0, 0, []), some (3, 1, 1, 0, 0, []), some (101, 3, 45, 0, 2, [36, 4272]), zN, zN, some (1, 1, 0, 0, 0, []), some (6, 1, 3, 0, 0, []), some (3, 1, 3, 0, 0, []), some (5, 1, 2, 0, 0, []), some (18, 3, 2, 3, 41, [1105]), zN, zN, some (16, 3, 3, 78, 0, []), zN, zN, some (3, 1, 3, 0, 0, []), some (15, 3, 5, 36, 0, []), zN, zN, some (5, 1, 0, 0, 0, []), some (1, 2, 1, 0, 42, []), zN, some (101, 3, 165, 0, 2, [22, 4260]), zN, zN, some (5, 1, 0, 0, 0, []), some (5, 1, 2, 0, 0, []), some (18, 3, 2, 0, 42, [1098]), zN, zN, some (3, 1, 3, 0, 0, []), some (21, 1, 0, 0, 0, []), some (101, 3, 167, 0, 2, [33, 4268]), zN, zN, some (5, 1, 2, 0, 0, []), some (18, 3, 2, 1, 45, [1101]), zN, zN, some (3, 1, 3, 0, 0, []), some (21, 1, 0, 0, 0, []), some (1, 1, 0, 0, 1, []), some (16, 3, 5, 72, 0, []), zN, zN, some (5, 1, 0, 0, 0, []), some (1, 2, 1, 0, 94, []), zN, some (101, 3, 165, 0, 2, [22, 4260]), zN, zN, some (5, 1, 0, 0, 0, []), some (5, 1, 2, 0, 0, []), some (18, 3, 2, 1, 45, [1101]), zN, zN, some (3, 1, 3, 0, 0, []), some (21, 1, 0, 0, 0, []), some (101, 3, 167, 0, 2, [33, 4268]), zN, zN, some (9, 3, 3, 0, 1, []), zN, zN, some (17, 3, 0, 18, 0, []), zN, zN, some (100, 1, 0, 0, 0, [])]
def zk167 : List (Option zC) := [some (1, 1, 0, 0, 1, []), some (6, 1, 2, 0, 0, []), some (1, 1, 0, 0, 0, []), some (6, 1, 3, 0, 0, []), some (3, 1, 3, 0, 0, []), some (1, 2, 1, 0, 9, []), zN, some (16, 3, 3, 29, 0, []), zN, zN, some (3, 1, 1, 0, 0, []), some (3, 1, 2, 0, 0, []), some (10, 1, 6, 0, 0, []), some (1, 2, 1, 0, 10, []), zN, some (16, 3, 2, 29, 0, []), zN, zN, some (3, 1, 2, 0, 0, []), some (1, 2, 1, 0, 10, []), zN, some (10, 1, 2, 0, 0, []), some (6, 1, 2, 0, 0, []), some (9, 3, 3, 0, 1, []), zN, zN, some (17, 3, 0, 4, 0, []), zN, zN, some (3, 1, 2, 0, 0, []), some (15, 3, 5, 54, 0, []), zN, zN, some (5, 1, 0, 0, 0, []), some (1, 2, 1, 0, 48, []), zN, some (3, 1, 1, 0, 0, []), some (3, 1, 2, 0, 0, []), some (10, 1, 6, 0, 0, []), some (1, 2, 1, 0, 10, []), zN, some (10, 1, 7, 0, 0, []), some (10, 1, 0, 0, 0, []), some (101, 3, 165, 0, 2, [22, 4260]), zN, zN, some (3, 1, 2, 0, 0, []), some (1, 2, 1, 0, 10, []), zN, some (10, 1, 6, 0, 0, []), some (6, 1, 2, 0, 0, []), some (17, 3, 0, 29, 0, []), zN, zN, some (100, 1, 0, 0, 0, [])]
def zk168 : List (Option zC) := [some (3, 1, 1, 0, 0, []), some (15, 3, 3, 10, 0, []), zN, zN, some (5, 1, 0, 0, 0, []), some (1, 1, 0, 0, 1, []), some (101, 3, 13, 0, 2, [86, 1262]), zN, zN, some (100, 1, 1, 0, 0, []), some (3, 1, 1, 0, 0, []), some (5, 1, 0, 0, 0, []), some (18, 3, 5, 7, 51, [1207]), zN, zN, some (18, 3, 1, 1, 334, [1194]), zN, zN, some (16, 3, 3, 37, 0, []), zN, zN, some (5, 1, 0, 0, 0, []), some (5, 1, 0, 0, 0, []), some (18, 3, 5, 7, 51, [1207]), zN, zN, some (18, 3, 1, 0, 335, [1192]), zN, zN, some (3, 1, 1, 0, 0, []), some (21, 1, 0, 0, 0, []), some (101, 3, 39, 0, 2, [108, 2181]), zN, zN, some (17, 3, 0, 42, 0, []), zN, zN, some (5, 1, 0, 0, 0, []), some (1, 1, 0, 0, 5, []), some (101, 3, 13, 0, 2, [86, 1262]), zN, zN, some (100, 1, 1, 0, 0, [])]
def zk169 : List (Option zC) := [some (5, 1, 0, 0, 0, []), some (18, 3, 5, 11, 66, [1211]), zN, zN, some (1, 1, 0, 0, 1, []), some (16, 3, 2, 20, 0, []), zN, zN, some (5, 1, 0, 0, 0, []), some (18, 3, 5, 11, 66, [1211]), zN, zN, some (5, 1, 0, 0, 0, []), some (18, 3, 5, 4, 33, [1204]), zN, zN, some (20, 1, 0, 0, 0, []), some (16, 3, 5, 26, 0, []), zN, zN, some (5, 1, 0, 0, 0, []), some (1, 1, 0, 0, 5, []), some (101, 3, 13, 0, 2, [86, 1262]), zN, zN, some (100, 1, 1, 0, 0, []), some (5, 1, 0, 0, 0, []), some (23, 1, 0, 0, 0, []), some (18, 3, 5, 11, 66, [1211]), zN, zN, some (1, 1, 0, 0, 1, []), some (10, 1, 1, 0, 0, []), some (19, 3, 5, 11, 66, [1211]), zN, zN, some (5, 1, 0, 0, 0, []), some (18, 3, 5, 2, 26, [1202]), zN, zN, some (5, 1, 0, 0, 0, []), some (18, 3, 5, 4, 33, [1204]), zN, zN, some (5, 1, 0, 0, 0, []), some (18, 3, 5, 11, 66, [1211]), zN, zN, some (21, 1, 4, 0, 0, []), some (101, 3, 37, 0, 2, [98, 2173]), zN, zN, some (5, 1, 0, 0, 0, []), some (101, 3, 38, 0, 1, [102, 2177]), zN, zN, some (5, 1, 0, 0, 0, []), some (5, 1, 0, 0, 0, []), some (18, 3, 5, 11, 66, [1211]), zN, zN, some (101, 3, 39, 0, 2, [108, 2181]), zN, zN, some (100, 1, 1, 0, 0, [])]
def zk170_0 : List (Option zC) := [some (5, 1, 0, 0, 0, []), some (34, 3, 1, 0, 0, [4286]), zN, zN, some (5, 1, 0, 0, 0, []), some (1, 2, 1, 0, 10, []), zN, some (25, 2, 0, 0, 0, []), zN, some (19, 3, 6, 2, 7, [4298]), zN, zN, some (5, 1, 0, 0, 0, []), some (1, 2, 1, 0, 10, []), zN, some (25, 2, 0, 0, 0, []), zN, some (19, 3, 6, 3, 13, [4299]), zN, zN, some (5, 1, 0, 0, 0, []), some (1, 2, 1, 0, 80, []), zN, some (25, 2, 0, 0, 0, []), zN, some (19, 3, 6, 4, 16, [4300]), zN, zN, some (5, 1, 0, 0, 0, []), some (1, 2, 1, 0, 10, []), zN, some (25, 2, 0, 0, 0, []), zN, some (19, 3, 6, 6, 19, [4302]), zN, zN, some (5, 1, 0, 0, 0, []), some (1, 2, 1, 0, 10, []), zN, some (25, 2, 0, 0, 0, []), zN, some (19, 3, 6, 7, 22, [4303]), zN, zN, some (5, 1, 0, 0, 0, []), some (1, 3, 2, 0, 1400, []), zN, zN, some (25, 2, 0, 0, 0, []), zN, some (19, 3, 6, 11, 25, [4307]), zN, zN, some (5, 1, 0, 0, 0, []), some (1, 3, 2, 0, 3001, []), zN, zN, some (25, 2, 3, 0, 0, []), zN, some (19, 3, 6, 13, 28, [4309]), zN, zN, some (5, 1, 0, 0, 0, []), some (1, 3, 2, 0, 201, []), zN, zN, some (25, 2, 1, 0, 0, []), zN, some (19, 3, 6, 14, 32, [4310]), zN, zN, some (5, 1, 0, 0, 0, []), some (1, 3, 2, 0, 2001, []), zN, zN, some (25, 2, 1, 0, 0, []), zN, some (19, 3, 6, 15, 36, [4311]), zN, zN, some (5, 1, 0, 0, 0, []), some (1, 2, 1, 0, 10, []), zN, some (25, 2, 0, 0, 0, []), zN, some (19, 3, 6, 16, 39, [4312]), zN, zN, some (5, 1, 0, 0, 0, []), some (1, 3, 2, 0, 501, []), zN, zN, some (25, 2, 0, 0, 0, []), zN, some (19, 3, 6, 17, 42, [4313]), zN, zN, some (5, 1, 0, 0, 0, []), some (1, 3, 2, 0, 2001, []), zN, zN, some (25, 2, 3, 0, 0, []), zN, some (19, 3, 6, 18, 45, [4314]), zN, zN, some (5, 1, 0, 0, 0, []), some (1, 2, 1, 0, 101, []), zN, some (25, 2, 0, 0, 0, []), zN, some (19, 3, 6, 19, 48, [4315]), zN, zN, some (5, 1, 0, 0, 0, []), some (1, 2, 1, 0, 101, []), zN, some (25, 2, 0, 0, 0, []), zN, some (19, 3, 6, 20, 51, [4316]), zN, zN, some (5, 1, 0, 0, 0, []), some (1, 2, 1, 0, 101, []), zN, some (25, 2, 0, 0, 0, []), zN, some (19, 3, 6, 26, 54, [4322]), zN, zN, some (5, 1, 0, 0, 0, []), some (1, 3, 2, 0, 201, []), zN, zN, some (25, 2, 1, 0, 0, []), zN, some (19, 3, 6, 27, 57, [4323]), zN, zN, some (5, 1, 0, 0, 0, []), some (1, 3, 2, 0, 6000, []), zN, zN, some (25, 2, 0, 0, 0, []), zN, some (19, 3, 6, 28, 60, [4324]), zN, zN, some (5, 1, 0, 0, 0, []), some (1, 3, 2, 0, 400, []), zN, zN, some (25, 2, 2, 0, 0, []), zN, some (19, 3, 6, 30, 63, [4326]), zN, zN, some (5, 1, 0, 0, 0, []), some (1, 1, 0, 0, (-1), []), some (19, 3, 6, 32, 67, [4328]), zN, zN, some (5, 1, 0, 0, 0, []), some (1, 1, 0, 0, (-1), []), some (19, 3, 6, 33, 71, [4329]), zN, zN, some (5, 1, 0, 0, 0, []), some (1, 2, 1, 0, 6, []), zN, some (25, 2, 1, 0, 0, []), zN, some (19, 3, 6, 42, 74, [5122]), zN, zN, some (5, 1, 0, 0, 0, []), some (1, 2, 1, 0, 8, []), zN, some (25, 2, 1, 0, 0, []), zN, some (23, 1, 0, 0, 0, []), some (1, 1, 0, 0, 0, []), some (2, 3, 1, 77, 13550, [4287]), zN, zN, some (22, 1, 1, 0, 0, []), some (23, 1, 0, 0, 0, []), some (1, 1, 0, 0, 1, []), some (2, 3, 1, 79, 1373818, [4288]), zN, zN, some (22, 1, 1, 0, 0, []), some (23, 1, 0, 0, 0, []), some (1, 1, 0, 0, 2, []), some (2, 3, 1, 81, 10495135, [4289]), zN, zN, some (22, 1, 1, 0, 0, []), some (23, 1, 0, 0, 0, []), some (1, 1, 0, 0, 3, [])]
def zk170_1 : List (Option zC) := [some (2, 3, 1, 83, 8798, [4290]), zN, zN, some (22, 1, 1, 0, 0, []), some (23, 1, 0, 0, 0, []), some (1, 1, 0, 0, 4, []), some (2, 3, 1, 85, 8740238, [4291]), zN, zN, some (22, 1, 1, 0, 0, []), some (23, 1, 0, 0, 0, []), some (1, 1, 0, 0, 5, []), some (2, 3, 1, 87, 8341892836, [4292]), zN, zN, some (22, 1, 1, 0, 0, []), some (23, 1, 0, 0, 0, []), some (1, 2, 1, 0, 6, []), zN, some (2, 3, 1, 89, 7047854770, [4293]), zN, zN, some (22, 1, 1, 0, 0, []), some (23, 1, 0, 0, 0, []), some (1, 2, 1, 0, 7, []), zN, some (2, 3, 1, 91, 40586, [4294]), zN, zN, some (22, 1, 1, 0, 0, []), some (19, 3, 6, 43, 93, [5123]), zN, zN, some (5, 1, 0, 0, 0, []), some (18, 3, 6, 2, 7, [4298]), zN, zN, some (1, 2, 1, 0, 7, []), zN, some (1, 2, 3, 96, 100000, [4295]), zN, some (22, 1, 0, 0, 0, []), some (5, 1, 0, 0, 0, []), some (18, 3, 6, 2, 7, [4298]), zN, zN, some (1, 2, 1, 0, 8, []), zN, some (1, 2, 1, 0, 30, []), zN, some (22, 1, 0, 0, 0, []), some (100, 1, 0, 0, 0, [])]
def zk170 : List (Option zC) := zk170_0 ++ zk170_1
def zk171 : List (Option zC) := [some (5, 1, 0, 0, 0, []), some (1, 1, 0, 0, 0, []), some (19, 3, 6, 1, 97, [4297]), zN, zN, some (5, 1, 0, 0, 0, []), some (18, 3, 6, 0, 100, [4296]), zN, zN, some (100, 1, 1, 0, 0, [])]
def zk172 : List (Option zC) := [some (5, 1, 0, 0, 0, []), some (3, 1, 1, 0, 0, []), some (13, 1, 1, 0, 0, []), some (2, 1, 0, 0, 0, []), some (2, 3, 1, 134, 4, [5222]), zN, zN, some (101, 3, 173, 1, 3, [103, 5223]), zN, zN, some (15, 3, 0, 17, 0, []), zN, zN, some (1, 1, 0, 0, 0, []), some (17, 3, 0, 18, 0, []), zN, zN, some (1, 1, 0, 0, 1, []), some (101, 3, 174, 0, 2, [136, 5226]), zN, zN, some (15, 3, 0, 48, 0, []), zN, zN, some (3, 1, 1, 0, 0, []), some (1, 1, 0, 0, 4, []), some (16, 3, 1, 36, 0, []), zN, zN, some (5, 1, 0, 0, 0, []), some (18, 3, 6, 5, 139, [4301]), zN, zN, some (17, 3, 0, 49, 0, []), zN, zN, some (5, 1, 0, 0, 0, []), some (18, 3, 6, 2, 7, [4298]), zN, zN, some (1, 2, 1, 0, 6, []), zN, some (3, 1, 1, 0, 0, []), some (10, 1, 0, 0, 0, []), some (21, 1, 0, 0, 0, []), some (17, 3, 0, 49, 0, []), zN, zN, some (1, 1, 0, 0, (-1), []), some (100, 1, 1, 0, 0, [])]
def zk173 : List (Option zC) := [some (4, 1, 0, 0, 0, []), some (4, 1, 2, 0, 0, []), some (14, 1, 0, 0, 0, []), some (15, 3, 2, 17, 0, []), zN, zN, some (4, 1, 0, 0, 0, []), some (4, 2, 4, 0, 0, []), zN, some (14, 1, 0, 0, 0, []), some (15, 3, 4, 17, 0, []), zN, zN, some (1, 1, 0, 0, 1, []), some (17, 3, 0, 18, 0, []), zN, zN, some (1, 1, 0, 0, 0, []), some (100, 1, 4, 0, 0, [])]
def zk174 : List (Option zC) := [some (5, 1, 0, 0, 0, []), some (1, 1, 0, 0, 0, []), some (19, 3, 6, 1, 97, [4297]), zN, zN, some (5, 1, 0, 0, 0, []), some (3, 1, 1, 0, 0, []), some (19, 3, 6, 0, 100, [4296]), zN, zN, some (3, 1, 1, 0, 0, []), some (15, 3, 1, 18, 0, []), zN, zN, some (1, 1, 0, 0, 1, []), some (17, 3, 0, 19, 0, []), zN, zN, some (1, 1, 0, 0, 0, []), some (100, 1, 4, 0, 0, [])]
def zk175 : List (Option zC) := [some (3, 1, 1, 0, 0, []), some (101, 3, 176, 1, 1, [109, 5234]), zN, zN, some (15, 3, 0, 26, 0, []), zN, zN, some (3, 1, 2, 0, 0, []), some (1, 1, 0, 0, (-1), []), some (16, 3, 2, 26, 0, []), zN, zN, some (3, 1, 3, 0, 0, []), some (13, 1, 1, 0, 0, []), some (2, 1, 0, 0, 0, []), some (2, 1, 0, 0, 1, []), some (101, 3, 173, 1, 3, [103, 5223]), zN, zN, some (15, 3, 0, 26, 0, []), zN, zN, some (1, 1, 0, 0, 1, []), some (17, 3, 0, 27, 0, []), zN, zN, some (1, 1, 0, 0, 0, []), some (6, 2, 4, 0, 0, []), zN, some (5, 1, 0, 0, 0, []), some (3, 2, 4, 0, 0, []), zN, some (15, 3, 0, 39, 0, []), zN, zN, some (1, 1, 0, 0, 0, []), some (17, 3, 0, 40, 0, []), zN, zN, some (1, 1, 0, 0, 1, []), some (101, 3, 174, 0, 2, [136, 5226]), zN, zN, some (15, 3, 1, 48, 0, []), zN, zN, some (1, 1, 0, 0, (-1), []), some (100, 1, 1, 0, 0, []), some (5, 1, 0, 0, 0, []), some (3, 1, 1, 0, 0, []), some (101, 3, 177, 0, 2, [116, 5238]), zN, zN, some (3, 1, 2, 0, 0, []), some (1, 1, 0, 0, (-1), []), some (16, 3, 1, 63, 0, []), zN, zN, some (5, 1, 0, 0, 0, []), some (18, 3, 6, 8, 113, [4304]), zN, zN, some (100, 1, 1, 0, 0, []), some (3, 1, 2, 0, 0, []), some (5, 1, 0, 0, 0, []), some (18, 3, 6, 8, 113, [4304]), zN, zN, some (16, 3, 2, 79, 0, []), zN, zN, some (5, 1, 0, 0, 0, []), some (1, 1, 0, 0, 5, []), some (101, 3, 178, 0, 2, [142, 5242]), zN, zN, some (17, 3, 0, 98, 0, []), zN, zN, some (3, 1, 3, 0, 0, []), some (15, 3, 1, 92, 0, []), zN, zN, some (5, 1, 0, 0, 0, []), some (18, 3, 6, 6, 19, [4302]), zN, zN, some (3, 1, 2, 0, 0, []), some (21, 1, 0, 0, 0, []), some (17, 3, 0, 98, 0, []), zN, zN, some (5, 1, 0, 0, 0, []), some (18, 3, 6, 7, 22, [4303]), zN, zN, some (3, 1, 2, 0, 0, []), some (21, 1, 0, 0, 0, []), some (100, 1, 1, 0, 0, [])]
def zk176 : List (Option zC) := [some (3, 1, 0, 0, 0, []), some (13, 1, 1, 0, 0, []), some (2, 1, 0, 0, 1, []), some (2, 3, 1, 107, 999999999, [5237]), zN, zN, some (101, 3, 173, 1, 3, [103, 5223]), zN, zN, some (100, 1, 4, 0, 0, [])]
def zk177 : List (Option zC) := [some (5, 1, 0, 0, 0, []), some (1, 1, 0, 0, 0, []), some (19, 3, 6, 8, 113, [4304]), zN, zN, some (3, 1, 1, 0, 0, []), some (6, 1, 2, 0, 0, []), some (1, 1, 0, 0, 2, []), some (6, 1, 3, 0, 0, []), some (3, 1, 3, 0, 0, []), some (13, 1, 1, 0, 0, []), some (3, 1, 3, 0, 0, []), some (13, 1, 1, 0, 0, []), some (11, 1, 2, 0, 0, []), some (3, 1, 2, 0, 0, []), some (13, 1, 1, 0, 0, []), some (14, 1, 0, 0, 0, []), some (15, 3, 4, 101, 0, []), zN, zN, some (3, 1, 2, 0, 0, []), some (3, 1, 3, 0, 0, []), some (10, 1, 7, 0, 0, []), some (15, 3, 0, 29, 0, []), zN, zN, some (17, 3, 0, 85, 0, []), zN, zN, some (5, 1, 0, 0, 0, []), some (18, 3, 6, 6, 19, [4302]), zN, zN, some (5, 1, 0, 0, 0, []), some (18, 3, 6, 8, 113, [4304]), zN, zN, some (3, 1, 3, 0, 0, []), some (22, 1, 0, 0, 0, []), some (5, 1, 0, 0, 0, []), some (18, 3, 6, 7, 22, [4303]), zN, zN, some (5, 1, 0, 0, 0, []), some (18, 3, 6, 8, 113, [4304]), zN, zN, some (1, 1, 0, 0, 0, []), some (22, 1, 0, 0, 0, []), some (3, 1, 2, 0, 0, []), some (3, 1, 3, 0, 0, []), some (10, 1, 7, 0, 0, []), some (15, 3, 1, 75, 0, []), zN, zN, some (5, 1, 0, 0, 0, []), some (18, 3, 6, 7, 22, [4303]), zN, zN, some (5, 1, 0, 0, 0, []), some (18, 3, 6, 8, 113, [4304]), zN, zN, some (24, 1, 0, 0, 0, []), some (21, 1, 0, 0, 0, []), some (1, 1, 0, 0, 1, []), some (10, 1, 0, 0, 0, []), some (22, 1, 0, 0, 0, []), some (3, 1, 2, 0, 0, []), some (3, 1, 3, 0, 0, []), some (10, 1, 6, 0, 0, []), some (6, 1, 2, 0, 0, []), some (17, 3, 0, 49, 0, []), zN, zN, some (5, 1, 0, 0, 0, []), some (23, 1, 0, 0, 0, []), some (18, 3, 6, 8, 113, [4304]), zN, zN, some (1, 1, 0, 0, 1, []), some (10, 1, 0, 0, 0, []), some (19, 3, 6, 8, 113, [4304]), zN, zN, some (3, 1, 3, 0, 0, []), some (3, 1, 3, 0, 0, []), some (1, 1, 0, 0, 2, []), some (16, 3, 1, 95, 0, []), zN, zN, some (1, 1, 0, 0, 1, []), some (17, 3, 0, 96, 0, []), zN, zN, some (1, 1, 0, 0, 2, []), some (10, 1, 0, 0, 0, []), some (6, 1, 3, 0, 0, []), some (17, 3, 0, 9, 0, []), zN, zN, some (3, 1, 2, 0, 0, []), some (1, 1, 0, 0, 1, []), some (16, 3, 1, 107, 0, []), zN, zN, some (100, 1, 0, 0, 0, []), some (5, 1, 0, 0, 0, []), some (18, 3, 6, 6, 19, [4302]), zN, zN, some (5, 1, 0, 0, 0, []), some (18, 3, 6, 8, 113, [4304]), zN, zN, some (3, 1, 2, 0, 0, []), some (22, 1, 0, 0, 0, []), some (5, 1, 0, 0, 0, []), some (18, 3, 6, 7, 22, [4303]), zN, zN, some (5, 1, 0, 0, 0, []), some (18, 3, 6, 8, 113, [4304]), zN, zN, some (1, 1, 0, 0, 1, []), some (22, 1, 0, 0, 0, []), some (5, 1, 0, 0, 0, []), some (23, 1, 0, 0, 0, []), some (18, 3, 6, 8, 113, [4304]), zN, zN, some (1, 1, 0, 0, 1, []), some (10, 1, 0, 0, 0, []), some (19, 3, 6, 8, 113, [4304]), zN, zN, some (100, 1, 0, 0, 0, [])]
def zk178 : List (Option zC) := [some (5, 1, 0, 0, 0, []), some (3, 1, 1, 0, 0, []), some (19, 3, 6, 0, 100, [4296]), zN, zN, some (1, 1, 0, 0, (-1), []), some (100, 1, 1, 0, 0, [])]
def zk179 : List (Option zC) := [some (5, 1, 0, 0, 0, []), some (3, 1, 1, 0, 0, []), some (101, 3, 176, 1, 1, [109, 5234]), zN, zN, some (15, 3, 0, 12, 0, []), zN, zN, some (1, 1, 0, 0, 0, []), some (17, 3, 0, 13, 0, []), zN, zN, some (1, 1, 0, 0, 1, []), some (101, 3, 174, 0, 2, [136, 5226]), zN, zN, some (15, 3, 0, 27, 0, []), zN, zN, some (5, 1, 0, 0, 0, []), some (3, 1, 1, 0, 0, []), some (101, 3, 180, 0, 2, [146, 5250]), zN, zN, some (17, 3, 0, 30, 0, []), zN, zN, some (2, 3, 1, 148, (-1), [5268]), zN, zN, some (100, 1, 2, 0, 0, [])]
def zk180 : List (Option zC) := [some (5, 1, 0, 0, 0, []), some (3, 1, 1, 0, 0, []), some (5, 1, 0, 0, 0, []), some (18, 3, 6, 2, 7, [4298]), zN, zN, some (1, 2, 1, 0, 9, []), zN, some (21, 1, 0, 0, 0, []), some (101, 3, 181, 0, 3, [131, 5254]), zN, zN, some (100, 1, 2, 0, 0, [])]
def zk181 : List (Option zC) := [some (3, 1, 1, 0, 0, []), some (1, 1, 0, 0, 1, []), some (16, 3, 1, 7, 0, []), zN, zN, some (2, 1, 0, 0, 0, []), some (100, 1, 2, 0, 0, []), some (5, 1, 0, 0, 0, []), some (3, 1, 1, 0, 0, []), some (101, 3, 182, 0, 2, [124, 5258]), zN, zN, some (3, 1, 1, 0, 0, []), some (13, 1, 1, 0, 0, []), some (11, 1, 1, 0, 0, []), some (7, 1, 3, 0, 0, []), some (3, 1, 2, 0, 0, []), some (15, 3, 0, 25, 0, []), zN, zN, some (3, 1, 2, 0, 0, []), some (1, 1, 0, 0, 2, []), some (16, 3, 1, 37, 0, []), zN, zN, some (3, 1, 2, 0, 0, []), some (15, 3, 1, 33, 0, []), zN, zN, some (4, 1, 3, 0, 0, []), some (17, 3, 0, 36, 0, []), zN, zN, some (4, 1, 3, 0, 0, []), some (2, 1, 0, 0, 1, []), some (11, 1, 1, 0, 0, []), some (100, 1, 2, 0, 0, []), some (2, 1, 0, 0, 1, []), some (7, 2, 5, 0, 0, []), zN, some (1, 1, 0, 0, 1, []), some (6, 2, 7, 0, 0, []), zN, some (1, 1, 0, 0, 0, []), some (6, 2, 8, 0, 0, []), zN, some (3, 2, 8, 0, 0, []), zN, some (5, 1, 0, 0, 0, []), some (18, 3, 6, 8, 113, [4304]), zN, zN, some (16, 3, 3, 126, 0, []), zN, zN, some (4, 2, 5, 0, 0, []), zN, some (3, 1, 2, 0, 0, []), some (1, 1, 0, 0, 1, []), some (16, 3, 1, 84, 0, []), zN, zN, some (2, 1, 0, 0, 1, []), some (5, 1, 0, 0, 0, []), some (18, 3, 6, 6, 19, [4302]), zN, zN, some (3, 2, 8, 0, 0, []), zN, some (21, 1, 0, 0, 0, []), some (5, 1, 0, 0, 0, []), some (18, 3, 6, 7, 22, [4303]), zN, zN, some (3, 2, 8, 0, 0, []), zN, some (21, 1, 0, 0, 0, []), some (101, 3, 184, 1, 2, [128, 5265]), zN, zN, some (11, 1, 0, 0, 0, []), some (17, 3, 0, 94, 0, []), zN, zN, some (2, 1, 0, 0, 1, []), some (5, 1, 0, 0, 0, []), some (18, 3, 6, 6, 19, [4302]), zN, zN, some (3, 2, 8, 0, 0, []), zN, some (21, 1, 0, 0, 0, []), some (13, 1, 1, 0, 0, []), some (11, 1, 0, 0, 0, []), some (11, 1, 2, 0, 0, []), some (7, 2, 5, 0, 0, []), zN, some (3, 2, 7, 0, 0, []), zN, some (15, 3, 0, 117, 0, []), zN, zN, some (5, 1, 0, 0, 0, []), some (18, 3, 6, 7, 22, [4303]), zN, zN, some (3, 2, 8, 0, 0, []), zN, some (21, 1, 0, 0, 0, []), some (1, 1, 0, 0, 1, []), some (16, 3, 1, 117, 0, []), zN, zN, some (1, 1, 0, 0, 1, []), some (17, 3, 0, 118, 0, []), zN, zN, some (1, 1, 0, 0, 0, []), some (6, 2, 7, 0, 0, []), zN, some (9, 3, 8, 0, 1, []), zN, zN, some (17, 3, 0, 46, 0, []), zN, zN, some (3, 1, 2, 0, 0, []), some (1, 1, 0, 0, 1, []), some (16, 3, 0, 136, 0, []), zN, zN, some (3, 2, 7, 0, 0, []), zN, some (15, 3, 0, 144, 0, []), zN, zN, some (4, 2, 5, 0, 0, []), zN, some (3, 1, 1, 0, 0, []), some (13, 1, 1, 0, 0, []), some (11, 1, 1, 0, 0, []), some (17, 3, 0, 146, 0, []), zN, zN, some (4, 2, 5, 0, 0, []), zN, some (100, 1, 2, 0, 0, [])]
def zk182 : List (Option zC) := [some (5, 1, 0, 0, 0, []), some (3, 1, 1, 0, 0, []), some (101, 3, 177, 0, 2, [116, 5238]), zN, zN, some (2, 1, 0, 0, 1, []), some (7, 1, 2, 0, 0, []), some (1, 1, 0, 0, 0, []), some (6, 2, 4, 0, 0, []), zN, some (3, 2, 4, 0, 0, []), zN, some (5, 1, 0, 0, 0, []), some (18, 3, 6, 8, 113, [4304]), zN, zN, some (16, 3, 3, 45, 0, []), zN, zN, some (4, 1, 2, 0, 0, []), some (5, 1, 0, 0, 0, []), some (18, 3, 6, 6, 19, [4302]), zN, zN, some (3, 2, 4, 0, 0, []), zN, some (21, 1, 0, 0, 0, []), some (5, 1, 0, 0, 0, []), some (18, 3, 6, 7, 22, [4303]), zN, zN, some (3, 2, 4, 0, 0, []), zN, some (21, 1, 0, 0, 0, []), some (101, 3, 183, 1, 2, [120, 5262]), zN, zN, some (11, 1, 2, 0, 0, []), some (7, 1, 2, 0, 0, []), some (9, 3, 4, 0, 1, []), zN, zN, some (17, 3, 0, 10, 0, []), zN, zN, some (4, 1, 2, 0, 0, []), some (100, 1, 2, 0, 0, [])]
def zk183 : List (Option zC) := [some (2, 1, 0, 0, 1, []), some (7, 1, 2, 0, 0, []), some (1, 1, 0, 0, 0, []), some (6, 2, 4, 0, 0, []), zN, some (3, 2, 4, 0, 0, []), zN, some (3, 1, 1, 0, 0, []), some (16, 3, 3, 24, 0, []), zN, zN, some (4, 1, 2, 0, 0, []), some (3, 1, 0, 0, 0, []), some (13, 1, 1, 0, 0, []), some (11, 1, 2, 0, 0, []), some (2, 1, 0, 0, 1, []), some (11, 1, 0, 0, 0, []), some (7, 1, 2, 0, 0, []), some (9, 3, 4, 0, 1, []), zN, zN, some (17, 3, 0, 5, 0, []), zN, zN, some (4, 1, 2, 0, 0, []), some (100, 1, 2, 0, 0, [])]
def zk184 : List (Option zC) := [some (2, 1, 0, 0, 1, []), some (7, 1, 2, 0, 0, []), some (1, 1, 0, 0, 0, []), some (6, 2, 4, 0, 0, []), zN, some (3, 2, 4, 0, 0, []), zN, some (3, 1, 1, 0, 0, []), some (16, 3, 3, 22, 0, []), zN, zN, some (4, 1, 2, 0, 0, []), some (3, 1, 0, 0, 0, []), some (13, 1, 1, 0, 0, []), some (11, 1, 2, 0, 0, []), some (7, 1, 2, 0, 0, []), some (9, 3, 4, 0, 1, []), zN, zN, some (17, 3, 0, 5, 0, []), zN, zN, some (4, 1, 2, 0, 0, []), some (100, 1, 2, 0, 0, [])]
def zk185 : List (Option zC) := [some (5, 1, 0, 0, 0, []), some (3, 1, 1, 0, 0, []), some (101, 3, 176, 1, 1, [109, 5234]), zN, zN, some (15, 3, 0, 12, 0, []), zN, zN, some (1, 1, 0, 0, 0, []), some (17, 3, 0, 13, 0, []), zN, zN, some (1, 1, 0, 0, 1, []), some (101, 3, 174, 0, 2, [136, 5226]), zN, zN, some (15, 3, 0, 34, 0, []), zN, zN, some (5, 1, 0, 0, 0, []), some (3, 1, 1, 0, 0, []), some (5, 1, 0, 0, 0, []), some (18, 3, 6, 2, 7, [4298]), zN, zN, some (1, 2, 1, 0, 9, []), zN, some (21, 1, 0, 0, 0, []), some (101, 3, 186, 0, 3, [150, 5273]), zN, zN, some (17, 3, 0, 35, 0, []), zN, zN, some (1, 1, 0, 0, (-1), []), some (100, 1, 1, 0, 0, [])]
def zk186 : List (Option zC) := [some (5, 1, 0, 0, 0, []), some (3, 1, 1, 0, 0, []), some (3, 1, 2, 0, 0, []), some (101, 3, 181, 0, 3, [131, 5254]), zN, zN, some (7, 1, 3, 0, 0, []), some (4, 1, 3, 0, 0, []), some (3, 1, 1, 0, 0, []), some (13, 1, 1, 0, 0, []), some (14, 1, 0, 0, 0, []), some (15, 3, 3, 18, 0, []), zN, zN, some (1, 1, 0, 0, 0, []), some (17, 3, 0, 30, 0, []), zN, zN, some (4, 1, 3, 0, 0, []), some (3, 1, 1, 0, 0, []), some (13, 1, 1, 0, 0, []), some (14, 1, 0, 0, 0, []), some (15, 3, 1, 29, 0, []), zN, zN, some (1, 1, 0, 0, 1, []), some (17, 3, 0, 30, 0, []), zN, zN, some (1, 1, 0, 0, 2, []), some (100, 1, 1, 0, 0, [])]
def zk187 : List (Option zC) := [some (5, 1, 0, 0, 0, []), some (3, 1, 1, 0, 0, []), some (101, 3, 176, 1, 1, [109, 5234]), zN, zN, some (15, 3, 0, 20, 0, []), zN, zN, some (3, 1, 2, 0, 0, []), some (13, 1, 1, 0, 0, []), some (2, 1, 0, 0, 0, []), some (2, 3, 1, 169, 3, [5281]), zN, zN, some (101, 3, 173, 1, 3, [103, 5223]), zN, zN, some (15, 3, 1, 24, 0, []), zN, zN, some (1, 1, 0, 0, 1, []), some (17, 3, 0, 36, 0, []), zN, zN, some (3, 1, 1, 0, 0, []), some (1, 1, 0, 0, 2, []), some (10, 1, 7, 0, 0, []), some (1, 1, 0, 0, 1, []), some (16, 3, 1, 35, 0, []), zN, zN, some (1, 1, 0, 0, 5, []), some (17, 3, 0, 36, 0, []), zN, zN, some (1, 1, 0, 0, 0, []), some (101, 3, 174, 0, 2, [136, 5226]), zN, zN, some (15, 3, 1, 44, 0, []), zN, zN, some (1, 1, 0, 0, (-1), []), some (100, 1, 1, 0, 0, []), some (5, 1, 0, 0, 0, []), some (3, 1, 1, 0, 0, []), some (101, 3, 188, 0, 2, [164, 5282]), zN, zN, some (3, 1, 2, 0, 0, []), some (30, 26, 0, 91, 0, [76, 81, 86]), zN, zN, zN, zN, zN, zN, zN, zN, zN, zN, zN, zN, zN, zN, zN, zN, zN, zN, zN, zN, zN, zN, zN, zN, zN, some (5, 1, 0, 0, 0, []), some (101, 3, 190, 0, 1, [171, 5289]), zN, zN, some (100, 1, 1, 0, 0, []), some (5, 1, 0, 0, 0, []), some (18, 3, 6, 9, 154, [4305]), zN, zN, some (100, 1, 1, 0, 0, []), some (5, 1, 0, 0, 0, []), some (18, 3, 6, 10, 161, [4306]), zN, zN, some (100, 1, 1, 0, 0, []), some (5, 1, 0, 0, 0, []), some (3, 1, 1, 0, 0, []), some (101, 3, 191, 0, 2, [175, 5293]), zN, zN, some (15, 3, 0, 103, 0, []), zN, zN, some (1, 1, 0, 0, 1, []), some (17, 3, 0, 104, 0, []), zN, zN, some (1, 1, 0, 0, 0, []), some (100, 1, 1, 0, 0, [])]
def zk188 : List (Option zC) := [some (5, 1, 0, 0, 0, []), some (1, 1, 0, 0, 0, []), some (19, 3, 6, 9, 154, [4305]), zN, zN, some (3, 1, 1, 0, 0, []), some (6, 1, 2, 0, 0, []), some (3, 1, 2, 0, 0, []), some (1, 1, 0, 0, 2, []), some (10, 1, 7, 0, 0, []), some (15, 3, 1, 30, 0, []), zN, zN, some (5, 1, 0, 0, 0, []), some (23, 1, 0, 0, 0, []), some (18, 3, 6, 9, 154, [4305]), zN, zN, some (1, 1, 0, 0, 1, []), some (10, 1, 0, 0, 0, []), some (19, 3, 6, 9, 154, [4305]), zN, zN, some (3, 1, 2, 0, 0, []), some (1, 1, 0, 0, 2, []), some (10, 1, 6, 0, 0, []), some (6, 1, 2, 0, 0, []), some (17, 3, 0, 7, 0, []), zN, zN, some (5, 1, 0, 0, 0, []), some (1, 1, 0, 0, 2, []), some (5, 1, 0, 0, 0, []), some (18, 3, 6, 9, 154, [4305]), zN, zN, some (1, 1, 0, 0, 1, []), some (10, 1, 0, 0, 0, []), some (101, 3, 184, 1, 2, [128, 5265]), zN, zN, some (2, 1, 0, 0, 1, []), some (11, 1, 1, 0, 0, []), some (3, 1, 1, 0, 0, []), some (13, 1, 1, 0, 0, []), some (101, 3, 189, 1, 2, [157, 5286]), zN, zN, some (13, 1, 2, 0, 0, []), some (19, 3, 6, 10, 161, [4306]), zN, zN, some (100, 1, 0, 0, 0, [])]
def zk189 : List (Option zC) := [some (4, 1, 0, 0, 0, []), some (7, 2, 4, 0, 0, []), zN, some (4, 1, 2, 0, 0, []), some (7, 2, 6, 0, 0, []), zN, some (4, 2, 6, 0, 0, []), zN, some (2, 1, 0, 0, 0, []), some (14, 1, 0, 0, 0, []), some (15, 3, 0, 31, 0, []), zN, zN, some (4, 2, 4, 0, 0, []), zN, some (4, 2, 6, 0, 0, []), zN, some (11, 1, 7, 0, 0, []), some (7, 2, 8, 0, 0, []), zN, some (4, 2, 6, 0, 0, []), zN, some (7, 2, 4, 0, 0, []), zN, some (4, 2, 8, 0, 0, []), zN, some (7, 2, 6, 0, 0, []), zN, some (17, 3, 0, 6, 0, []), zN, zN, some (4, 2, 4, 0, 0, []), zN, some (100, 1, 2, 0, 0, [])]
def zk190 : List (Option zC) := [some (1, 1, 0, 0, 2, []), some (5, 1, 0, 0, 0, []), some (18, 3, 6, 9, 154, [4305]), zN, zN, some (101, 3, 184, 1, 2, [128, 5265]), zN, zN, some (13, 1, 2, 0, 0, []), some (5, 1, 0, 0, 0, []), some (18, 3, 6, 10, 161, [4306]), zN, zN, some (10, 1, 2, 0, 0, []), some (100, 1, 1, 0, 0, [])]
def zk191 : List (Option zC) := [some (5, 1, 0, 0, 0, []), some (3, 1, 1, 0, 0, []), some (101, 3, 188, 0, 2, [164, 5282]), zN, zN, some (5, 1, 0, 0, 0, []), some (18, 3, 6, 9, 154, [4305]), zN, zN, some (6, 1, 2, 0, 0, []), some (5, 1, 0, 0, 0, []), some (5, 1, 0, 0, 0, []), some (18, 3, 6, 10, 161, [4306]), zN, zN, some (101, 3, 182, 0, 2, [124, 5258]), zN, zN, some (7, 1, 3, 0, 0, []), some (1, 1, 0, 0, 0, []), some (6, 2, 5, 0, 0, []), zN, some (4, 1, 3, 0, 0, []), some (2, 3, 1, 167, 2, [5297]), zN, zN, some (11, 1, 7, 0, 0, []), some (2, 1, 0, 0, 0, []), some (14, 1, 0, 0, 0, []), some (15, 3, 1, 44, 0, []), zN, zN, some (9, 3, 5, 0, 1, []), zN, zN, some (4, 1, 3, 0, 0, []), some (2, 3, 1, 167, 2, [5297]), zN, zN, some (11, 1, 6, 0, 0, []), some (7, 1, 3, 0, 0, []), some (17, 3, 0, 22, 0, []), zN, zN, some (3, 2, 5, 0, 0, []), zN, some (3, 1, 2, 0, 0, []), some (1, 1, 0, 0, 1, []), some (10, 1, 1, 0, 0, []), some (16, 3, 2, 56, 0, []), zN, zN, some (1, 1, 0, 0, 1, []), some (17, 3, 0, 57, 0, []), zN, zN, some (1, 1, 0, 0, 0, []), some (100, 1, 4, 0, 0, [])]
def zk192 : List (Option zC) := [some (5, 1, 0, 0, 0, []), some (3, 1, 1, 0, 0, []), some (101, 3, 176, 1, 1, [109, 5234]), zN, zN, some (15, 3, 0, 17, 0, []), zN, zN, some (3, 1, 2, 0, 0, []), some (1, 1, 0, 0, (-1), []), some (16, 3, 2, 17, 0, []), zN, zN, some (1, 1, 0, 0, 0, []), some (17, 3, 0, 18, 0, []), zN, zN, some (1, 1, 0, 0, 1, []), some (101, 3, 174, 0, 2, [136, 5226]), zN, zN, some (15, 3, 1, 26, 0, []), zN, zN, some (1, 1, 0, 0, (-1), []), some (100, 1, 1, 0, 0, []), some (3, 1, 2, 0, 0, []), some (1, 1, 0, 0, (-1), []), some (16, 3, 1, 37, 0, []), zN, zN, some (5, 1, 0, 0, 0, []), some (3, 1, 1, 0, 0, []), some (101, 3, 193, 0, 2, [184, 5302]), zN, zN, some (100, 1, 1, 0, 0, []), some (5, 1, 0, 0, 0, []), some (3, 1, 1, 0, 0, []), some (101, 3, 194, 0, 2, [187, 5306]), zN, zN, some (3, 1, 2, 0, 0, []), some (5, 1, 0, 0, 0, []), some (18, 3, 6, 12, 178, [4308]), zN, zN, some (16, 3, 3, 59, 0, []), zN, zN, some (5, 1, 0, 0, 0, []), some (18, 3, 6, 11, 25, [4307]), zN, zN, some (3, 1, 2, 0, 0, []), some (21, 1, 0, 0, 0, []), some (17, 3, 0, 64, 0, []), zN, zN, some (5, 1, 0, 0, 0, []), some (1, 1, 0, 0, 5, []), some (101, 3, 178, 0, 2, [142, 5242]), zN, zN, some (100, 1, 1, 0, 0, [])]
def zk193 : List (Option zC) := [some (5, 1, 0, 0, 0, []), some (3, 1, 1, 0, 0, []), some (101, 3, 177, 0, 2, [116, 5238]), zN, zN, some (1, 1, 0, 0, 1, []), some (6, 1, 2, 0, 0, []), some (1, 1, 0, 0, 0, []), some (6, 1, 3, 0, 0, []), some (3, 1, 3, 0, 0, []), some (5, 1, 0, 0, 0, []), some (18, 3, 6, 8, 113, [4304]), zN, zN, some (16, 3, 3, 34, 0, []), zN, zN, some (3, 1, 2, 0, 0, []), some (5, 1, 0, 0, 0, []), some (18, 3, 6, 7, 22, [4303]), zN, zN, some (3, 1, 3, 0, 0, []), some (21, 1, 0, 0, 0, []), some (1, 1, 0, 0, 1, []), some (10, 1, 0, 0, 0, []), some (10, 1, 2, 0, 0, []), some (6, 1, 2, 0, 0, []), some (9, 3, 3, 0, 1, []), zN, zN, some (17, 3, 0, 9, 0, []), zN, zN, some (3, 1, 2, 0, 0, []), some (100, 1, 1, 0, 0, [])]
def zk194 : List (Option zC) := [some (5, 1, 0, 0, 0, []), some (1, 1, 0, 0, 0, []), some (19, 3, 6, 12, 178, [4308]), zN, zN, some (1, 1, 0, 0, 1, []), some (6, 1, 2, 0, 0, []), some (3, 1, 2, 0, 0, []), some (13, 1, 1, 0, 0, []), some (3, 1, 2, 0, 0, []), some (13, 1, 1, 0, 0, []), some (11, 1, 2, 0, 0, []), some (3, 1, 1, 0, 0, []), some (13, 1, 1, 0, 0, []), some (14, 1, 0, 0, 0, []), some (15, 3, 4, 39, 0, []), zN, zN, some (3, 1, 1, 0, 0, []), some (3, 1, 2, 0, 0, []), some (10, 1, 7, 0, 0, []), some (15, 3, 1, 33, 0, []), zN, zN, some (5, 1, 0, 0, 0, []), some (5, 1, 0, 0, 0, []), some (3, 1, 2, 0, 0, []), some (101, 3, 195, 0, 2, [181, 5310]), zN, zN, some (19, 3, 6, 12, 178, [4308]), zN, zN, some (9, 3, 2, 0, 1, []), zN, zN, some (17, 3, 0, 7, 0, []), zN, zN, some (9, 3, 2, 0, (-1), []), zN, zN, some (3, 1, 2, 0, 0, []), some (15, 3, 5, 76, 0, []), zN, zN, some (3, 1, 1, 0, 0, []), some (3, 1, 2, 0, 0, []), some (10, 1, 7, 0, 0, []), some (15, 3, 1, 70, 0, []), zN, zN, some (3, 1, 2, 0, 0, []), some (3, 1, 1, 0, 0, []), some (3, 1, 2, 0, 0, []), some (10, 1, 6, 0, 0, []), some (16, 3, 0, 70, 0, []), zN, zN, some (5, 1, 0, 0, 0, []), some (5, 1, 0, 0, 0, []), some (3, 1, 1, 0, 0, []), some (3, 1, 2, 0, 0, []), some (10, 1, 6, 0, 0, []), some (101, 3, 195, 0, 2, [181, 5310]), zN, zN, some (19, 3, 6, 12, 178, [4308]), zN, zN, some (9, 3, 2, 0, (-1), []), zN, zN, some (17, 3, 0, 42, 0, []), zN, zN, some (100, 1, 0, 0, 0, [])]
def zk195 : List (Option zC) := [some (5, 1, 0, 0, 0, []), some (18, 3, 6, 11, 25, [4307]), zN, zN, some (5, 1, 0, 0, 0, []), some (18, 3, 6, 12, 178, [4308]), zN, zN, some (3, 1, 1, 0, 0, []), some (22, 1, 0, 0, 0, []), some (5, 1, 0, 0, 0, []), some (18, 3, 6, 12, 178, [4308]), zN, zN, some (1, 1, 0, 0, 1, []), some (10, 1, 0, 0, 0, []), some (100, 1, 1, 0, 0, [])]
def zk196 : List (Option zC) := [some (5, 1, 0, 0, 0, []), some (3, 1, 1, 0, 0, []), some (13, 1, 1, 0, 0, []), some (2, 1, 0, 0, 1, []), some (2, 3, 1, 190, 3000, [5318]), zN, zN, some (101, 3, 173, 1, 3, [103, 5223]), zN, zN, some (15, 3, 0, 17, 0, []), zN, zN, some (1, 1, 0, 0, 0, []), some (17, 3, 0, 18, 0, []), zN, zN, some (1, 1, 0, 0, 1, []), some (101, 3, 174, 0, 2, [136, 5226]), zN, zN, some (15, 3, 1, 26, 0, []), zN, zN, some (1, 1, 0, 0, (-1), []), some (100, 1, 1, 0, 0, []), some (5, 1, 0, 0, 0, []), some (3, 1, 1, 0, 0, []), some (101, 3, 194, 0, 2, [187, 5306]), zN, zN, some (1, 1, 0, 0, 0, []), some (6, 1, 2, 0, 0, []), some (3, 1, 2, 0, 0, []), some (3, 1, 1, 0, 0, []), some (16, 3, 4, 59, 0, []), zN, zN, some (5, 1, 0, 0, 0, []), some (18, 3, 6, 13, 28, [4309]), zN, zN, some (3, 1, 2, 0, 0, []), some (3, 1, 2, 0, 0, []), some (15, 3, 1, 51, 0, []), zN, zN, some (1, 1, 0, 0, 1, []), some (17, 3, 0, 52, 0, []), zN, zN, some (1, 1, 0, 0, 0, []), some (22, 1, 2, 0, 0, []), some (9, 3, 2, 0, 1, []), zN, zN, some (17, 3, 0, 33, 0, []), zN, zN, some (1, 1, 0, 0, 0, []), some (6, 1, 2, 0, 0, []), some (1, 1, 0, 0, 0, []), some (6, 1, 3, 0, 0, []), some (3, 1, 3, 0, 0, []), some (5, 1, 0, 0, 0, []), some (18, 3, 6, 12, 178, [4308]), zN, zN, some (1, 1, 0, 0, 1, []), some (10, 1, 1, 0, 0, []), some (16, 3, 3, 143, 0, []), zN, zN, some (5, 1, 0, 0, 0, []), some (18, 3, 6, 11, 25, [4307]), zN, zN, some (3, 1, 3, 0, 0, []), some (21, 1, 0, 0, 0, []), some (6, 2, 4, 0, 0, []), zN, some (3, 1, 2, 0, 0, []), some (3, 2, 4, 0, 0, []), zN, some (10, 1, 0, 0, 0, []), some (6, 1, 2, 0, 0, []), some (3, 1, 1, 0, 0, []), some (6, 2, 5, 0, 0, []), zN, some (3, 2, 5, 0, 0, []), zN, some (3, 2, 4, 0, 0, []), zN, some (16, 3, 2, 137, 0, []), zN, zN, some (5, 1, 0, 0, 0, []), some (18, 3, 6, 13, 28, [4309]), zN, zN, some (3, 2, 5, 0, 0, []), zN, some (5, 1, 0, 0, 0, []), some (18, 3, 6, 13, 28, [4309]), zN, zN, some (3, 2, 5, 0, 0, []), zN, some (21, 1, 2, 0, 0, []), some (15, 3, 1, 125, 0, []), zN, zN, some (5, 1, 0, 0, 0, []), some (18, 3, 6, 13, 28, [4309]), zN, zN, some (3, 2, 5, 0, 0, []), zN, some (3, 2, 4, 0, 0, []), zN, some (10, 1, 1, 0, 0, []), some (21, 1, 2, 0, 0, []), some (15, 3, 0, 129, 0, []), zN, zN, some (1, 1, 0, 0, 1, []), some (17, 3, 0, 130, 0, []), zN, zN, some (1, 1, 0, 0, 0, []), some (22, 1, 2, 0, 0, []), some (9, 3, 5, 0, (-1), []), zN, zN, some (17, 3, 0, 89, 0, []), zN, zN, some (9, 3, 3, 0, 1, []), zN, zN, some (17, 3, 0, 63, 0, []), zN, zN, some (5, 1, 0, 0, 0, []), some (18, 3, 6, 13, 28, [4309]), zN, zN, some (3, 1, 1, 0, 0, []), some (21, 1, 2, 0, 0, []), some (15, 3, 0, 156, 0, []), zN, zN, some (1, 1, 0, 0, 1, []), some (17, 3, 0, 166, 0, []), zN, zN, some (3, 1, 2, 0, 0, []), some (3, 1, 1, 0, 0, []), some (16, 3, 5, 165, 0, []), zN, zN, some (1, 1, 0, 0, 2, []), some (17, 3, 0, 166, 0, []), zN, zN, some (1, 1, 0, 0, 0, []), some (100, 1, 1, 0, 0, [])]
def zk197 : List (Option zC) := [some (5, 1, 0, 0, 0, []), some (3, 1, 1, 0, 0, []), some (101, 3, 176, 1, 1, [109, 5234]), zN, zN, some (15, 3, 0, 22, 0, []), zN, zN, some (3, 1, 2, 0, 0, []), some (13, 1, 1, 0, 0, []), some (2, 1, 0, 0, 0, []), some (2, 1, 0, 0, 1, []), some (101, 3, 173, 1, 3, [103, 5223]), zN, zN, some (15, 3, 0, 22, 0, []), zN, zN, some (1, 1, 0, 0, 0, []), some (17, 3, 0, 23, 0, []), zN, zN, some (1, 1, 0, 0, 1, []), some (101, 3, 174, 0, 2, [136, 5226]), zN, zN, some (15, 3, 0, 43, 0, []), zN, zN, some (5, 1, 0, 0, 0, []), some (3, 1, 1, 0, 0, []), some (101, 3, 182, 0, 2, [124, 5258]), zN, zN, some (3, 1, 1, 0, 0, []), some (13, 1, 1, 0, 0, []), some (3, 1, 2, 0, 0, []), some (101, 3, 198, 1, 3, [192, 5323]), zN, zN, some (17, 3, 0, 46, 0, []), zN, zN, some (2, 3, 1, 148, (-1), [5268]), zN, zN, some (100, 1, 2, 0, 0, [])]
def zk198 : List (Option zC) := [some (4, 1, 0, 0, 0, []), some (4, 1, 2, 0, 0, []), some (101, 3, 189, 1, 2, [157, 5286]), zN, zN, some (7, 2, 5, 0, 0, []), zN, some (3, 2, 4, 0, 0, []), zN, some (15, 3, 1, 19, 0, []), zN, zN, some (4, 1, 0, 0, 0, []), some (4, 2, 5, 0, 0, []), zN, some (11, 1, 6, 0, 0, []), some (17, 3, 0, 23, 0, []), zN, zN, some (4, 1, 2, 0, 0, []), some (4, 2, 5, 0, 0, []), zN, some (11, 1, 6, 0, 0, []), some (100, 1, 2, 0, 0, [])]
def zk199 : List (Option zC) := [some (5, 1, 0, 0, 0, []), some (3, 1, 1, 0, 0, []), some (101, 3, 176, 1, 1, [109, 5234]), zN, zN, some (15, 3, 0, 16, 0, []), zN, zN, some (3, 1, 2, 0, 0, []), some (15, 3, 2, 16, 0, []), zN, zN, some (1, 1, 0, 0, 0, []), some (17, 3, 0, 17, 0, []), zN, zN, some (1, 1, 0, 0, 1, []), some (101, 3, 174, 0, 2, [136, 5226]), zN, zN, some (15, 3, 1, 25, 0, []), zN, zN, some (1, 1, 0, 0, (-1), []), some (100, 1, 1, 0, 0, []), some (5, 1, 0, 0, 0, []), some (3, 1, 1, 0, 0, []), some (101, 3, 177, 0, 2, [116, 5238]), zN, zN, some (3, 1, 2, 0, 0, []), some (5, 1, 0, 0, 0, []), some (18, 3, 6, 8, 113, [4304]), zN, zN, some (16, 3, 3, 77, 0, []), zN, zN, some (2, 3, 1, 196, 1000, [5330]), zN, zN, some (5, 1, 0, 0, 0, []), some (18, 3, 6, 6, 19, [4302]), zN, zN, some (3, 1, 2, 0, 0, []), some (21, 1, 0, 0, 0, []), some (5, 1, 0, 0, 0, []), some (18, 3, 6, 7, 22, [4303]), zN, zN, some (3, 1, 2, 0, 0, []), some (21, 1, 0, 0, 0, []), some (101, 3, 183, 1, 2, [120, 5262]), zN, zN, some (11, 1, 2, 0, 0, []), some (5, 1, 0, 0, 0, []), some (18, 3, 6, 6, 19, [4302]), zN, zN, some (3, 1, 2, 0, 0, []), some (21, 1, 0, 0, 0, []), some (5, 1, 0, 0, 0, []), some (18, 3, 6, 7, 22, [4303]), zN, zN, some (3, 1, 2, 0, 0, []), some (21, 1, 0, 0, 0, []), some (101, 3, 184, 1, 2, [128, 5265]), zN, zN, some (11, 1, 6, 0, 0, []), some (13, 1, 2, 0, 0, []), some (17, 3, 0, 82, 0, []), zN, zN, some (5, 1, 0, 0, 0, []), some (1, 1, 0, 0, 5, []), some (101, 3, 178, 0, 2, [142, 5242]), zN, zN, some (100, 1, 1, 0, 0, [])]
def zk200 : List (Option zC) := [some (5, 1, 0, 0, 0, []), some (3, 1, 1, 0, 0, []), some (101, 3, 176, 1, 1, [109, 5234]), zN, zN, some (15, 3, 0, 29, 0, []), zN, zN, some (3, 1, 2, 0, 0, []), some (3, 1, 3, 0, 0, []), some (1, 3, 2, 0, 500, []), zN, zN, some (101, 3, 201, 1, 3, [198, 5335]), zN, zN, some (15, 3, 0, 29, 0, []), zN, zN, some (3, 2, 4, 0, 0, []), zN, some (1, 1, 0, 0, (-1), []), some (16, 3, 2, 29, 0, []), zN, zN, some (1, 1, 0, 0, 0, []), some (17, 3, 0, 30, 0, []), zN, zN, some (1, 1, 0, 0, 1, []), some (101, 3, 174, 0, 2, [136, 5226]), zN, zN, some (15, 3, 1, 38, 0, []), zN, zN, some (1, 1, 0, 0, (-1), []), some (100, 1, 1, 0, 0, []), some (5, 1, 0, 0, 0, []), some (3, 1, 1, 0, 0, []), some (101, 3, 182, 0, 2, [124, 5258]), zN, zN, some (7, 2, 5, 0, 0, []), zN, some (1, 1, 0, 0, 0, []), some (6, 2, 7, 0, 0, []), zN, some (3, 1, 2, 0, 0, []), some (6, 2, 8, 0, 0, []), zN, some (3, 2, 8, 0, 0, []), zN, some (3, 1, 3, 0, 0, []), some (16, 3, 4, 104, 0, []), zN, zN, some (3, 2, 8, 0, 0, []), zN, some (3, 1, 1, 0, 0, []), some (16, 3, 0, 98, 0, []), zN, zN, some (5, 1, 0, 0, 0, []), some (3, 2, 8, 0, 0, []), zN, some (101, 3, 182, 0, 2, [124, 5258]), zN, zN, some (3, 1, 1, 0, 0, []), some (13, 1, 1, 0, 0, []), some (11, 1, 2, 0, 0, []), some (4, 2, 5, 0, 0, []), zN, some (3, 2, 8, 0, 0, []), zN, some (13, 1, 1, 0, 0, []), some (11, 1, 2, 0, 0, []), some (14, 1, 0, 0, 0, []), some (15, 3, 0, 85, 0, []), zN, zN, some (17, 3, 0, 98, 0, []), zN, zN, some (3, 2, 7, 0, 0, []), zN, some (3, 2, 4, 0, 0, []), zN, some (16, 3, 1, 95, 0, []), zN, zN, some (3, 2, 8, 0, 0, []), zN, some (100, 1, 1, 0, 0, []), some (9, 3, 7, 0, 1, []), zN, zN, some (9, 3, 8, 0, 1, []), zN, zN, some (17, 3, 0, 51, 0, []), zN, zN, some (3, 2, 4, 0, 0, []), zN, some (1, 1, 0, 0, (-1), []), some (16, 3, 1, 115, 0, []), zN, zN, some (3, 2, 7, 0, 0, []), zN, some (17, 3, 0, 120, 0, []), zN, zN, some (5, 1, 0, 0, 0, []), some (1, 1, 0, 0, 5, []), some (101, 3, 178, 0, 2, [142, 5242]), zN, zN, some (100, 1, 1, 0, 0, [])]
def zk201 : List (Option zC) := [some (3, 1, 0, 0, 0, []), some (101, 3, 176, 1, 1, [109, 5234]), zN, zN, some (15, 3, 0, 31, 0, []), zN, zN, some (3, 1, 1, 0, 0, []), some (101, 3, 176, 1, 1, [109, 5234]), zN, zN, some (15, 3, 0, 31, 0, []), zN, zN, some (3, 1, 1, 0, 0, []), some (3, 1, 0, 0, 0, []), some (10, 1, 1, 0, 0, []), some (13, 1, 1, 0, 0, []), some (2, 1, 0, 0, 0, []), some (3, 1, 2, 0, 0, []), some (13, 1, 1, 0, 0, []), some (101, 3, 173, 1, 3, [103, 5223]), zN, zN, some (15, 3, 0, 31, 0, []), zN, zN, some (1, 1, 0, 0, 1, []), some (17, 3, 0, 32, 0, []), zN, zN, some (1, 1, 0, 0, 0, []), some (100, 1, 4, 0, 0, [])]
def zk202_0 : List (Option zC) := [some (5, 1, 0, 0, 0, []), some (3, 1, 1, 0, 0, []), some (3, 1, 2, 0, 0, []), some (1, 3, 2, 0, 200, []), zN, zN, some (101, 3, 201, 1, 3, [198, 5335]), zN, zN, some (15, 3, 0, 28, 0, []), zN, zN, some (3, 1, 3, 0, 0, []), some (13, 1, 1, 0, 0, []), some (2, 1, 0, 0, 0, []), some (2, 3, 1, 167, 2, [5297]), zN, zN, some (101, 3, 173, 1, 3, [103, 5223]), zN, zN, some (15, 3, 0, 28, 0, []), zN, zN, some (1, 1, 0, 0, 0, []), some (17, 3, 0, 29, 0, []), zN, zN, some (1, 1, 0, 0, 1, []), some (101, 3, 174, 0, 2, [136, 5226]), zN, zN, some (15, 3, 1, 37, 0, []), zN, zN, some (1, 1, 0, 0, (-1), []), some (100, 1, 1, 0, 0, []), some (3, 1, 1, 0, 0, []), some (6, 2, 4, 0, 0, []), zN, some (3, 2, 4, 0, 0, []), zN, some (3, 1, 2, 0, 0, []), some (16, 3, 4, 67, 0, []), zN, zN, some (5, 1, 0, 0, 0, []), some (18, 3, 6, 14, 32, [4310]), zN, zN, some (3, 2, 4, 0, 0, []), zN, some (3, 1, 1, 0, 0, []), some (10, 1, 1, 0, 0, []), some (5, 1, 0, 0, 0, []), some (3, 2, 4, 0, 0, []), zN, some (101, 3, 182, 0, 2, [124, 5258]), zN, zN, some (22, 1, 1, 0, 0, []), some (9, 3, 4, 0, 1, []), zN, zN, some (17, 3, 0, 40, 0, []), zN, zN, some (1, 1, 0, 0, 0, []), some (6, 2, 4, 0, 0, []), zN, some (1, 1, 0, 0, 0, []), some (6, 2, 5, 0, 0, []), zN, some (1, 1, 0, 0, (-1), []), some (6, 2, 6, 0, 0, []), zN, some (1, 1, 0, 0, 0, []), some (6, 2, 7, 0, 0, []), zN, some (3, 1, 1, 0, 0, []), some (6, 2, 8, 0, 0, []), zN, some (3, 2, 8, 0, 0, []), zN, some (3, 1, 2, 0, 0, []), some (16, 3, 4, 173, 0, []), zN, zN, some (5, 1, 0, 0, 0, []), some (3, 2, 8, 0, 0, []), zN, some (3, 1, 1, 0, 0, []), some (3, 1, 1, 0, 0, []), some (3, 2, 8, 0, 0, []), zN, some (1, 1, 0, 0, 1, []), some (10, 1, 1, 0, 0, []), some (101, 3, 203, 0, 5, [202, 5342]), zN, zN, some (6, 2, 9, 0, 0, []), zN, some (3, 2, 9, 0, 0, []), zN, some (5, 1, 0, 0, 0, []), some (3, 2, 8, 0, 0, []), zN, some (3, 1, 1, 0, 0, []), some (3, 2, 8, 0, 0, []), zN, some (1, 1, 0, 0, 1, []), some (10, 1, 0, 0, 0, []), some (3, 1, 2, 0, 0, []), some (101, 3, 203, 0, 5, [202, 5342]), zN, zN, some (10, 1, 0, 0, 0, []), some (6, 2, 10, 0, 0, []), zN, some (3, 2, 4, 0, 0, []), zN, some (3, 2, 9, 0, 0, []), zN, some (15, 3, 1, 130, 0, []), zN, zN, some (1, 1, 0, 0, 1, []), some (17, 3, 0, 131, 0, []), zN, zN, some (1, 1, 0, 0, 0, []), some (10, 1, 0, 0, 0, []), some (6, 2, 4, 0, 0, []), zN, some (3, 2, 5, 0, 0, []), zN, some (3, 2, 10, 0, 0, []), zN, some (15, 3, 5, 145, 0, []), zN, zN, some (1, 1, 0, 0, 1, []), some (17, 3, 0, 146, 0, []), zN, zN, some (1, 1, 0, 0, 0, []), some (10, 1, 0, 0, 0, []), some (6, 2, 5, 0, 0, []), zN, some (3, 2, 10, 0, 0, []), zN, some (3, 2, 7, 0, 0, []), zN, some (16, 3, 4, 159, 0, []), zN, zN, some (17, 3, 0, 167, 0, []), zN, zN, some (3, 2, 10, 0, 0, []), zN, some (6, 2, 7, 0, 0, []), zN, some (3, 2, 8, 0, 0, []), zN, some (6, 2, 6, 0, 0, []), zN, some (9, 3, 8, 0, 1, []), zN, zN, some (17, 3, 0, 82, 0, []), zN, zN, some (3, 1, 3, 0, 0, []), some (15, 3, 1, 182, 0, []), zN, zN, some (3, 2, 4, 0, 0, []), zN, some (17, 3, 0, 207, 0, []), zN, zN, some (3, 1, 3, 0, 0, []), some (1, 1, 0, 0, 1, []), some (16, 3, 1, 192, 0, []), zN, zN, some (3, 2, 5, 0, 0, []), zN, some (17, 3, 0, 207, 0, []), zN, zN, some (3, 2, 6, 0, 0, []), zN, some (15, 3, 3, 205, 0, []), zN, zN, some (5, 1, 0, 0, 0, []), some (1, 1, 0, 0, 5, []), some (101, 3, 178, 0, 2, [142, 5242])]
def zk202_1 : List (Option zC) := [zN, zN, some (17, 3, 0, 207, 0, []), zN, zN, some (3, 2, 6, 0, 0, []), zN, some (100, 1, 1, 0, 0, [])]
def zk202 : List (Option zC) := zk202_0 ++ zk202_1
def zk203 : List (Option zC) := [some (1, 1, 0, 0, 0, []), some (6, 2, 5, 0, 0, []), zN, some (3, 1, 3, 0, 0, []), some (6, 2, 6, 0, 0, []), zN, some (3, 2, 6, 0, 0, []), zN, some (3, 2, 4, 0, 0, []), zN, some (16, 3, 4, 57, 0, []), zN, zN, some (3, 2, 5, 0, 0, []), zN, some (5, 1, 0, 0, 0, []), some (18, 3, 6, 14, 32, [4310]), zN, zN, some (3, 2, 6, 0, 0, []), zN, some (3, 1, 2, 0, 0, []), some (10, 1, 1, 0, 0, []), some (21, 1, 1, 0, 0, []), some (3, 1, 1, 0, 0, []), some (13, 1, 1, 0, 0, []), some (11, 1, 2, 0, 0, []), some (5, 1, 0, 0, 0, []), some (18, 3, 6, 14, 32, [4310]), zN, zN, some (3, 1, 1, 0, 0, []), some (3, 1, 2, 0, 0, []), some (10, 1, 1, 0, 0, []), some (21, 1, 1, 0, 0, []), some (3, 2, 6, 0, 0, []), zN, some (13, 1, 1, 0, 0, []), some (11, 1, 2, 0, 0, []), some (14, 1, 0, 0, 0, []), some (15, 3, 1, 47, 0, []), zN, zN, some (1, 1, 0, 0, 1, []), some (17, 3, 0, 48, 0, []), zN, zN, some (1, 1, 0, 0, 0, []), some (10, 1, 0, 0, 0, []), some (6, 2, 5, 0, 0, []), zN, some (9, 3, 6, 0, 1, []), zN, zN, some (17, 3, 0, 6, 0, []), zN, zN, some (3, 2, 5, 0, 0, []), zN, some (100, 1, 1, 0, 0, [])]
def zk204 : List (Option zC) := [some (5, 1, 0, 0, 0, []), some (3, 1, 1, 0, 0, []), some (15, 3, 2, 25, 0, []), zN, zN, some (3, 1, 2, 0, 0, []), some (13, 1, 1, 0, 0, []), some (2, 1, 0, 0, 1, []), some (2, 3, 1, 206, 2000, [5350]), zN, zN, some (101, 3, 173, 1, 3, [103, 5223]), zN, zN, some (15, 3, 0, 25, 0, []), zN, zN, some (3, 1, 3, 0, 0, []), some (15, 3, 2, 25, 0, []), zN, zN, some (1, 1, 0, 0, 0, []), some (17, 3, 0, 26, 0, []), zN, zN, some (1, 1, 0, 0, 1, []), some (101, 3, 174, 0, 2, [136, 5226]), zN, zN, some (15, 3, 1, 34, 0, []), zN, zN, some (1, 1, 0, 0, (-1), []), some (100, 1, 1, 0, 0, []), some (5, 1, 0, 0, 0, []), some (3, 1, 2, 0, 0, []), some (101, 3, 205, 0, 2, [208, 5351]), zN, zN, some (5, 1, 0, 0, 0, []), some (3, 1, 1, 0, 0, []), some (3, 1, 2, 0, 0, []), some (3, 1, 3, 0, 0, []), some (101, 3, 206, 0, 4, [211, 5355]), zN, zN, some (6, 2, 4, 0, 0, []), zN, some (3, 2, 4, 0, 0, []), zN, some (15, 3, 3, 61, 0, []), zN, zN, some (5, 1, 0, 0, 0, []), some (1, 1, 0, 0, 5, []), some (101, 3, 178, 0, 2, [142, 5242]), zN, zN, some (17, 3, 0, 63, 0, []), zN, zN, some (3, 2, 4, 0, 0, []), zN, some (100, 1, 1, 0, 0, [])]
def zk205 : List (Option zC) := [some (1, 1, 0, 0, 1, []), some (6, 1, 2, 0, 0, []), some (3, 1, 2, 0, 0, []), some (3, 1, 1, 0, 0, []), some (16, 3, 4, 24, 0, []), zN, zN, some (5, 1, 0, 0, 0, []), some (18, 3, 6, 15, 36, [4311]), zN, zN, some (3, 1, 2, 0, 0, []), some (5, 1, 0, 0, 0, []), some (3, 1, 2, 0, 0, []), some (101, 3, 180, 0, 2, [146, 5250]), zN, zN, some (22, 1, 1, 0, 0, []), some (9, 3, 2, 0, 1, []), zN, zN, some (17, 3, 0, 2, 0, []), zN, zN, some (100, 1, 0, 0, 0, [])]
def zk206 : List (Option zC) := [some (1, 1, 0, 0, 0, []), some (6, 2, 4, 0, 0, []), zN, some (1, 1, 0, 0, 1, []), some (6, 2, 5, 0, 0, []), zN, some (3, 2, 5, 0, 0, []), zN, some (3, 1, 2, 0, 0, []), some (16, 3, 4, 46, 0, []), zN, zN, some (5, 1, 0, 0, 0, []), some (18, 3, 6, 15, 36, [4311]), zN, zN, some (3, 2, 5, 0, 0, []), zN, some (21, 1, 1, 0, 0, []), some (3, 1, 1, 0, 0, []), some (13, 1, 1, 0, 0, []), some (14, 1, 0, 0, 0, []), some (15, 3, 0, 28, 0, []), zN, zN, some (17, 3, 0, 40, 0, []), zN, zN, some (3, 2, 4, 0, 0, []), zN, some (3, 1, 3, 0, 0, []), some (16, 3, 1, 37, 0, []), zN, zN, some (3, 2, 5, 0, 0, []), zN, some (100, 1, 1, 0, 0, []), some (9, 3, 4, 0, 1, []), zN, zN, some (9, 3, 5, 0, 1, []), zN, zN, some (17, 3, 0, 6, 0, []), zN, zN, some (3, 1, 3, 0, 0, []), some (1, 1, 0, 0, (-1), []), some (16, 3, 1, 56, 0, []), zN, zN, some (3, 2, 4, 0, 0, []), zN, some (17, 3, 0, 57, 0, []), zN, zN, some (1, 1, 0, 0, (-1), []), some (100, 1, 1, 0, 0, [])]
def zk207 : List (Option zC) := [some (5, 1, 0, 0, 0, []), some (3, 1, 1, 0, 0, []), some (15, 3, 2, 31, 0, []), zN, zN, some (3, 1, 2, 0, 0, []), some (13, 1, 1, 0, 0, []), some (2, 1, 0, 0, 1, []), some (2, 3, 1, 206, 2000, [5350]), zN, zN, some (101, 3, 173, 1, 3, [103, 5223]), zN, zN, some (15, 3, 0, 31, 0, []), zN, zN, some (3, 1, 3, 0, 0, []), some (13, 1, 1, 0, 0, []), some (2, 1, 0, 0, 0, []), some (2, 1, 0, 0, 1, []), some (101, 3, 173, 1, 3, [103, 5223]), zN, zN, some (15, 3, 0, 31, 0, []), zN, zN, some (1, 1, 0, 0, 0, []), some (17, 3, 0, 32, 0, []), zN, zN, some (1, 1, 0, 0, 1, []), some (101, 3, 174, 0, 2, [136, 5226]), zN, zN, some (15, 3, 1, 40, 0, []), zN, zN, some (1, 1, 0, 0, (-1), []), some (100, 1, 1, 0, 0, []), some (5, 1, 0, 0, 0, []), some (3, 1, 2, 0, 0, []), some (101, 3, 205, 0, 2, [208, 5351]), zN, zN, some (5, 1, 0, 0, 0, []), some (3, 1, 1, 0, 0, []), some (3, 1, 2, 0, 0, []), some (3, 1, 3, 0, 0, []), some (15, 3, 1, 56, 0, []), zN, zN, some (1, 1, 0, 0, (-1), []), some (17, 3, 0, 57, 0, []), zN, zN, some (1, 1, 0, 0, 0, []), some (101, 3, 206, 0, 4, [211, 5355]), zN, zN, some (6, 2, 4, 0, 0, []), zN, some (3, 2, 4, 0, 0, []), zN, some (15, 3, 3, 75, 0, []), zN, zN, some (5, 1, 0, 0, 0, []), some (1, 1, 0, 0, 5, []), some (101, 3, 178, 0, 2, [142, 5242]), zN, zN, some (17, 3, 0, 77, 0, []), zN, zN, some (3, 2, 4, 0, 0, []), zN, some (100, 1, 1, 0, 0, [])]
def zk208 : List (Option zC) := [some (5, 1, 0, 0, 0, []), some (3, 1, 1, 0, 0, []), some (13, 1, 1, 0, 0, []), some (2, 1, 0, 0, 1, []), some (2, 3, 1, 215, 500, [6151]), zN, zN, some (101, 3, 173, 1, 3, [103, 5223]), zN, zN, some (15, 3, 0, 39, 0, []), zN, zN, some (3, 1, 2, 0, 0, []), some (13, 1, 1, 0, 0, []), some (2, 1, 0, 0, 1, []), some (2, 3, 1, 206, 2000, [5350]), zN, zN, some (101, 3, 173, 1, 3, [103, 5223]), zN, zN, some (15, 3, 0, 39, 0, []), zN, zN, some (3, 1, 3, 0, 0, []), some (13, 1, 1, 0, 0, []), some (2, 1, 0, 0, 0, []), some (2, 1, 0, 0, 1, []), some (101, 3, 173, 1, 3, [103, 5223]), zN, zN, some (15, 3, 0, 39, 0, []), zN, zN, some (1, 1, 0, 0, 0, []), some (17, 3, 0, 40, 0, []), zN, zN, some (1, 1, 0, 0, 1, []), some (101, 3, 174, 0, 2, [136, 5226]), zN, zN, some (15, 3, 1, 48, 0, []), zN, zN, some (1, 1, 0, 0, (-1), []), some (100, 1, 1, 0, 0, []), some (5, 1, 0, 0, 0, []), some (3, 1, 2, 0, 0, []), some (101, 3, 205, 0, 2, [208, 5351]), zN, zN, some (1, 1, 0, 0, 0, []), some (6, 2, 4, 0, 0, []), zN, some (1, 1, 0, 0, (-1), []), some (6, 2, 5, 0, 0, []), zN, some (1, 1, 0, 0, 1, []), some (6, 2, 6, 0, 0, []), zN, some (3, 2, 6, 0, 0, []), zN, some (3, 1, 1, 0, 0, []), some (16, 3, 4, 95, 0, []), zN, zN, some (5, 1, 0, 0, 0, []), some (3, 2, 6, 0, 0, []), zN, some (3, 1, 2, 0, 0, []), some (1, 1, 0, 0, 0, []), some (101, 3, 206, 0, 4, [211, 5355]), zN, zN, some (15, 3, 2, 82, 0, []), zN, zN, some (17, 3, 0, 89, 0, []), zN, zN, some (9, 3, 4, 0, 1, []), zN, zN, some (3, 2, 6, 0, 0, []), zN, some (6, 2, 5, 0, 0, []), zN, some (9, 3, 6, 0, 1, []), zN, zN, some (17, 3, 0, 62, 0, []), zN, zN, some (3, 1, 3, 0, 0, []), some (15, 3, 1, 104, 0, []), zN, zN, some (3, 2, 4, 0, 0, []), zN, some (17, 3, 0, 119, 0, []), zN, zN, some (3, 2, 5, 0, 0, []), zN, some (15, 3, 3, 117, 0, []), zN, zN, some (5, 1, 0, 0, 0, []), some (1, 1, 0, 0, 5, []), some (101, 3, 178, 0, 2, [142, 5242]), zN, zN, some (17, 3, 0, 119, 0, []), zN, zN, some (3, 2, 5, 0, 0, []), zN, some (100, 1, 1, 0, 0, [])]
def zk209 : List (Option zC) := [some (5, 1, 0, 0, 0, []), some (3, 1, 1, 0, 0, []), some (101, 3, 176, 1, 1, [109, 5234]), zN, zN, some (15, 3, 0, 12, 0, []), zN, zN, some (1, 1, 0, 0, 0, []), some (17, 3, 0, 13, 0, []), zN, zN, some (1, 1, 0, 0, 1, []), some (101, 3, 174, 0, 2, [136, 5226]), zN, zN, some (15, 3, 1, 21, 0, []), zN, zN, some (1, 1, 0, 0, (-1), []), some (100, 1, 1, 0, 0, []), some (5, 1, 0, 0, 0, []), some (3, 1, 1, 0, 0, []), some (1, 1, 0, 0, 0, []), some (101, 3, 186, 0, 3, [150, 5273]), zN, zN, some (1, 1, 0, 0, 2, []), some (16, 3, 3, 33, 0, []), zN, zN, some (1, 1, 0, 0, 0, []), some (100, 1, 1, 0, 0, []), some (5, 1, 0, 0, 0, []), some (3, 1, 1, 0, 0, []), some (101, 3, 177, 0, 2, [116, 5238]), zN, zN, some (5, 1, 0, 0, 0, []), some (18, 3, 6, 16, 39, [4312]), zN, zN, some (8, 1, 2, 0, 0, []), some (5, 1, 0, 0, 0, []), some (18, 3, 6, 8, 113, [4304]), zN, zN, some (6, 1, 3, 0, 0, []), some (1, 1, 0, 0, 0, []), some (6, 2, 4, 0, 0, []), zN, some (3, 2, 4, 0, 0, []), zN, some (3, 1, 3, 0, 0, []), some (16, 3, 3, 74, 0, []), zN, zN, some (5, 1, 2, 0, 0, []), some (3, 2, 4, 0, 0, []), zN, some (5, 1, 0, 0, 0, []), some (18, 3, 6, 6, 19, [4302]), zN, zN, some (3, 2, 4, 0, 0, []), zN, some (21, 1, 0, 0, 0, []), some (22, 1, 0, 0, 0, []), some (9, 3, 4, 0, 1, []), zN, zN, some (17, 3, 0, 51, 0, []), zN, zN, some (1, 1, 0, 0, 0, []), some (6, 2, 4, 0, 0, []), zN, some (3, 2, 4, 0, 0, []), zN, some (3, 1, 3, 0, 0, []), some (16, 3, 3, 105, 0, []), zN, zN, some (5, 1, 0, 0, 0, []), some (3, 1, 1, 0, 0, []), some (5, 1, 2, 0, 0, []), some (3, 2, 4, 0, 0, []), zN, some (21, 1, 0, 0, 0, []), some (10, 1, 6, 0, 0, []), some (1, 1, 0, 0, 0, []), some (101, 3, 186, 0, 3, [150, 5273]), zN, zN, some (15, 3, 5, 99, 0, []), zN, zN, some (1, 1, 0, 0, 0, []), some (100, 1, 1, 0, 0, []), some (9, 3, 4, 0, 1, []), zN, zN, some (17, 3, 0, 77, 0, []), zN, zN, some (1, 1, 0, 0, 1, []), some (100, 1, 1, 0, 0, [])]
def zk210_0 : List (Option zC) := [some (5, 1, 0, 0, 0, []), some (3, 1, 1, 0, 0, []), some (13, 1, 1, 0, 0, []), some (2, 1, 0, 0, 1, []), some (2, 3, 1, 215, 500, [6151]), zN, zN, some (101, 3, 173, 1, 3, [103, 5223]), zN, zN, some (15, 3, 0, 29, 0, []), zN, zN, some (3, 1, 2, 0, 0, []), some (13, 1, 1, 0, 0, []), some (2, 1, 0, 0, 0, []), some (2, 3, 1, 169, 3, [5281]), zN, zN, some (101, 3, 173, 1, 3, [103, 5223]), zN, zN, some (15, 3, 0, 29, 0, []), zN, zN, some (1, 1, 0, 0, 0, []), some (17, 3, 0, 30, 0, []), zN, zN, some (1, 1, 0, 0, 1, []), some (101, 3, 174, 0, 2, [136, 5226]), zN, zN, some (15, 3, 1, 38, 0, []), zN, zN, some (1, 1, 0, 0, (-1), []), some (100, 1, 1, 0, 0, []), some (5, 1, 0, 0, 0, []), some (3, 1, 1, 0, 0, []), some (101, 3, 205, 0, 2, [208, 5351]), zN, zN, some (1, 1, 0, 0, 1, []), some (6, 1, 3, 0, 0, []), some (3, 1, 3, 0, 0, []), some (3, 1, 1, 0, 0, []), some (16, 3, 4, 63, 0, []), zN, zN, some (5, 1, 0, 0, 0, []), some (18, 3, 6, 17, 42, [4313]), zN, zN, some (3, 1, 3, 0, 0, []), some (3, 1, 3, 0, 0, []), some (22, 1, 0, 0, 0, []), some (9, 3, 3, 0, 1, []), zN, zN, some (17, 3, 0, 45, 0, []), zN, zN, some (1, 1, 0, 0, 1, []), some (6, 1, 3, 0, 0, []), some (3, 1, 3, 0, 0, []), some (3, 1, 1, 0, 0, []), some (16, 3, 4, 104, 0, []), zN, zN, some (5, 1, 0, 0, 0, []), some (18, 3, 6, 15, 36, [4311]), zN, zN, some (3, 1, 3, 0, 0, []), some (21, 1, 1, 0, 0, []), some (2, 1, 0, 0, 1, []), some (3, 1, 1, 0, 0, []), some (13, 1, 1, 0, 0, []), some (101, 3, 173, 1, 3, [103, 5223]), zN, zN, some (15, 3, 0, 98, 0, []), zN, zN, some (5, 1, 0, 0, 0, []), some (3, 1, 3, 0, 0, []), some (5, 1, 0, 0, 0, []), some (18, 3, 6, 15, 36, [4311]), zN, zN, some (3, 1, 3, 0, 0, []), some (21, 1, 1, 0, 0, []), some (13, 1, 2, 0, 0, []), some (3, 1, 1, 0, 0, []), some (101, 3, 211, 0, 4, [217, 6160]), zN, zN, some (9, 3, 3, 0, 1, []), zN, zN, some (17, 3, 0, 65, 0, []), zN, zN, some (1, 1, 0, 0, 0, []), some (6, 1, 3, 0, 0, []), some (1, 1, 0, 0, 0, []), some (6, 2, 4, 0, 0, []), zN, some (1, 1, 0, 0, 0, []), some (6, 2, 5, 0, 0, []), zN, some (1, 1, 0, 0, 0, []), some (6, 2, 6, 0, 0, []), zN, some (1, 1, 0, 0, 1, []), some (6, 2, 7, 0, 0, []), zN, some (3, 2, 7, 0, 0, []), zN, some (3, 1, 1, 0, 0, []), some (16, 3, 4, 191, 0, []), zN, zN, some (5, 1, 0, 0, 0, []), some (18, 3, 6, 17, 42, [4313]), zN, zN, some (3, 2, 7, 0, 0, []), zN, some (21, 1, 0, 0, 0, []), some (3, 2, 7, 0, 0, []), zN, some (16, 3, 0, 139, 0, []), zN, zN, some (17, 3, 0, 185, 0, []), zN, zN, some (5, 1, 0, 0, 0, []), some (3, 2, 7, 0, 0, []), zN, some (3, 1, 1, 0, 0, []), some (101, 3, 212, 0, 3, [221, 6164]), zN, zN, some (6, 2, 8, 0, 0, []), zN, some (9, 3, 3, 0, 1, []), zN, zN, some (3, 2, 4, 0, 0, []), zN, some (3, 2, 8, 0, 0, []), zN, some (1, 1, 0, 0, 1, []), some (16, 3, 1, 163, 0, []), zN, zN, some (1, 1, 0, 0, 1, []), some (17, 3, 0, 164, 0, []), zN, zN, some (1, 1, 0, 0, 0, []), some (10, 1, 0, 0, 0, []), some (6, 2, 4, 0, 0, []), zN, some (3, 2, 8, 0, 0, []), zN, some (3, 2, 5, 0, 0, []), zN, some (16, 3, 4, 177, 0, []), zN, zN, some (17, 3, 0, 185, 0, []), zN, zN, some (3, 2, 8, 0, 0, []), zN, some (6, 2, 5, 0, 0, []), zN, some (3, 2, 7, 0, 0, []), zN, some (6, 2, 6, 0, 0, []), zN, some (9, 3, 7, 0, 1, []), zN, zN, some (17, 3, 0, 118, 0, []), zN, zN, some (3, 1, 2, 0, 0, []), some (15, 3, 1, 199, 0, []), zN, zN, some (3, 1, 3, 0, 0, []), some (17, 3, 0, 221, 0, []), zN, zN, some (3, 1, 2, 0, 0, [])]
def zk210_1 : List (Option zC) := [some (1, 1, 0, 0, 1, []), some (16, 3, 1, 209, 0, []), zN, zN, some (3, 2, 5, 0, 0, []), zN, some (17, 3, 0, 221, 0, []), zN, zN, some (3, 1, 2, 0, 0, []), some (1, 1, 0, 0, 2, []), some (16, 3, 1, 219, 0, []), zN, zN, some (3, 2, 6, 0, 0, []), zN, some (17, 3, 0, 221, 0, []), zN, zN, some (3, 2, 4, 0, 0, []), zN, some (100, 1, 1, 0, 0, [])]
def zk210 : List (Option zC) := zk210_0 ++ zk210_1
def zk211 : List (Option zC) := [some (5, 1, 0, 0, 0, []), some (18, 3, 6, 17, 42, [4313]), zN, zN, some (3, 1, 1, 0, 0, []), some (21, 1, 0, 0, 0, []), some (5, 1, 0, 0, 0, []), some (18, 3, 6, 17, 42, [4313]), zN, zN, some (3, 1, 2, 0, 0, []), some (21, 1, 0, 0, 0, []), some (16, 3, 3, 24, 0, []), zN, zN, some (5, 1, 0, 0, 0, []), some (18, 3, 6, 17, 42, [4313]), zN, zN, some (3, 1, 1, 0, 0, []), some (21, 1, 0, 0, 0, []), some (17, 3, 0, 30, 0, []), zN, zN, some (5, 1, 0, 0, 0, []), some (18, 3, 6, 17, 42, [4313]), zN, zN, some (3, 1, 2, 0, 0, []), some (21, 1, 0, 0, 0, []), some (6, 2, 4, 0, 0, []), zN, some (5, 1, 0, 0, 0, []), some (18, 3, 6, 17, 42, [4313]), zN, zN, some (3, 1, 1, 0, 0, []), some (21, 1, 0, 0, 0, []), some (5, 1, 0, 0, 0, []), some (18, 3, 6, 17, 42, [4313]), zN, zN, some (3, 1, 2, 0, 0, []), some (21, 1, 0, 0, 0, []), some (10, 1, 0, 0, 0, []), some (3, 2, 4, 0, 0, []), zN, some (10, 1, 1, 0, 0, []), some (6, 2, 5, 0, 0, []), zN, some (1, 1, 0, 0, 1, []), some (6, 2, 6, 0, 0, []), zN, some (3, 2, 6, 0, 0, []), zN, some (3, 1, 3, 0, 0, []), some (16, 3, 4, 96, 0, []), zN, zN, some (5, 1, 0, 0, 0, []), some (18, 3, 6, 17, 42, [4313]), zN, zN, some (3, 2, 6, 0, 0, []), zN, some (5, 1, 0, 0, 0, []), some (18, 3, 6, 17, 42, [4313]), zN, zN, some (3, 2, 6, 0, 0, []), zN, some (21, 1, 0, 0, 0, []), some (3, 2, 5, 0, 0, []), zN, some (16, 3, 1, 82, 0, []), zN, zN, some (3, 2, 4, 0, 0, []), zN, some (17, 3, 0, 89, 0, []), zN, zN, some (5, 1, 0, 0, 0, []), some (18, 3, 6, 17, 42, [4313]), zN, zN, some (3, 2, 6, 0, 0, []), zN, some (21, 1, 0, 0, 0, []), some (22, 1, 0, 0, 0, []), some (9, 3, 6, 0, 1, []), zN, zN, some (17, 3, 0, 53, 0, []), zN, zN, some (100, 1, 0, 0, 0, [])]
def zk212 : List (Option zC) := [some (1, 1, 0, 0, 0, []), some (6, 1, 3, 0, 0, []), some (1, 1, 0, 0, 1, []), some (6, 2, 4, 0, 0, []), zN, some (3, 2, 4, 0, 0, []), zN, some (3, 1, 2, 0, 0, []), some (16, 3, 4, 36, 0, []), zN, zN, some (3, 1, 3, 0, 0, []), some (5, 1, 0, 0, 0, []), some (18, 3, 6, 17, 42, [4313]), zN, zN, some (3, 2, 4, 0, 0, []), zN, some (21, 1, 0, 0, 0, []), some (3, 1, 1, 0, 0, []), some (16, 3, 1, 27, 0, []), zN, zN, some (1, 1, 0, 0, 1, []), some (17, 3, 0, 28, 0, []), zN, zN, some (1, 1, 0, 0, 0, []), some (10, 1, 0, 0, 0, []), some (6, 1, 3, 0, 0, []), some (9, 3, 4, 0, 1, []), zN, zN, some (17, 3, 0, 5, 0, []), zN, zN, some (3, 1, 3, 0, 0, []), some (100, 1, 1, 0, 0, [])]
def zk213 : List (Option zC) := [some (5, 1, 0, 0, 0, []), some (3, 1, 1, 0, 0, []), some (13, 1, 1, 0, 0, []), some (2, 1, 0, 0, 1, []), some (2, 3, 1, 206, 2000, [5350]), zN, zN, some (101, 3, 173, 1, 3, [103, 5223]), zN, zN, some (15, 3, 0, 22, 0, []), zN, zN, some (3, 1, 2, 0, 0, []), some (1, 1, 0, 0, (-1), []), some (16, 3, 2, 22, 0, []), zN, zN, some (1, 1, 0, 0, 0, []), some (17, 3, 0, 23, 0, []), zN, zN, some (1, 1, 0, 0, 1, []), some (101, 3, 174, 0, 2, [136, 5226]), zN, zN, some (15, 3, 1, 31, 0, []), zN, zN, some (1, 1, 0, 0, (-1), []), some (100, 1, 1, 0, 0, []), some (2, 1, 0, 0, 0, []), some (7, 1, 3, 0, 0, []), some (2, 1, 0, 0, 1, []), some (7, 2, 5, 0, 0, []), zN, some (1, 1, 0, 0, 0, []), some (6, 2, 7, 0, 0, []), zN, some (1, 1, 0, 0, 1, []), some (6, 2, 8, 0, 0, []), zN, some (3, 2, 8, 0, 0, []), zN, some (3, 1, 1, 0, 0, []), some (16, 3, 4, 99, 0, []), zN, zN, some (5, 1, 0, 0, 0, []), some (3, 2, 8, 0, 0, []), zN, some (101, 3, 182, 0, 2, [124, 5258]), zN, zN, some (7, 2, 9, 0, 0, []), zN, some (4, 2, 9, 0, 0, []), zN, some (4, 2, 5, 0, 0, []), zN, some (11, 1, 2, 0, 0, []), some (4, 1, 3, 0, 0, []), some (3, 2, 8, 0, 0, []), zN, some (13, 1, 1, 0, 0, []), some (11, 1, 2, 0, 0, []), some (14, 1, 0, 0, 0, []), some (15, 3, 4, 73, 0, []), zN, zN, some (17, 3, 0, 93, 0, []), zN, zN, some (4, 2, 9, 0, 0, []), zN, some (7, 1, 3, 0, 0, []), some (3, 2, 8, 0, 0, []), zN, some (13, 1, 1, 0, 0, []), some (7, 2, 5, 0, 0, []), zN, some (3, 2, 7, 0, 0, []), zN, some (3, 1, 2, 0, 0, []), some (16, 3, 1, 90, 0, []), zN, zN, some (3, 2, 8, 0, 0, []), zN, some (100, 1, 1, 0, 0, []), some (9, 3, 7, 0, 1, []), zN, zN, some (9, 3, 8, 0, 1, []), zN, zN, some (17, 3, 0, 42, 0, []), zN, zN, some (3, 1, 2, 0, 0, []), some (1, 1, 0, 0, (-1), []), some (16, 3, 1, 109, 0, []), zN, zN, some (3, 2, 7, 0, 0, []), zN, some (17, 3, 0, 114, 0, []), zN, zN, some (5, 1, 0, 0, 0, []), some (1, 1, 0, 0, 5, []), some (101, 3, 178, 0, 2, [142, 5242]), zN, zN, some (100, 1, 1, 0, 0, [])]
def zk214 : List (Option zC) := [some (5, 1, 0, 0, 0, []), some (3, 1, 1, 0, 0, []), some (101, 3, 176, 1, 1, [109, 5234]), zN, zN, some (15, 3, 0, 12, 0, []), zN, zN, some (1, 1, 0, 0, 0, []), some (17, 3, 0, 13, 0, []), zN, zN, some (1, 1, 0, 0, 1, []), some (101, 3, 174, 0, 2, [136, 5226]), zN, zN, some (15, 3, 1, 21, 0, []), zN, zN, some (1, 1, 0, 0, (-1), []), some (100, 1, 1, 0, 0, []), some (5, 1, 0, 0, 0, []), some (3, 1, 1, 0, 0, []), some (101, 3, 177, 0, 2, [116, 5238]), zN, zN, some (2, 1, 0, 0, 1, []), some (7, 1, 2, 0, 0, []), some (1, 1, 0, 0, 0, []), some (6, 2, 4, 0, 0, []), zN, some (3, 2, 4, 0, 0, []), zN, some (5, 1, 0, 0, 0, []), some (18, 3, 6, 8, 113, [4304]), zN, zN, some (16, 3, 3, 83, 0, []), zN, zN, some (5, 1, 0, 0, 0, []), some (18, 3, 6, 6, 19, [4302]), zN, zN, some (3, 2, 4, 0, 0, []), zN, some (21, 1, 0, 0, 0, []), some (13, 1, 1, 0, 0, []), some (4, 1, 2, 0, 0, []), some (2, 1, 0, 0, 1, []), some (11, 1, 0, 0, 0, []), some (14, 1, 0, 0, 0, []), some (15, 3, 5, 57, 0, []), zN, zN, some (1, 1, 0, 0, 0, []), some (100, 1, 1, 0, 0, []), some (4, 1, 2, 0, 0, []), some (5, 1, 0, 0, 0, []), some (18, 3, 6, 6, 19, [4302]), zN, zN, some (3, 2, 4, 0, 0, []), zN, some (21, 1, 0, 0, 0, []), some (5, 1, 0, 0, 0, []), some (18, 3, 6, 7, 22, [4303]), zN, zN, some (3, 2, 4, 0, 0, []), zN, some (21, 1, 0, 0, 0, []), some (101, 3, 183, 1, 2, [120, 5262]), zN, zN, some (11, 1, 2, 0, 0, []), some (7, 1, 2, 0, 0, []), some (9, 3, 4, 0, 1, []), zN, zN, some (17, 3, 0, 31, 0, []), zN, zN, some (1, 1, 0, 0, 1, []), some (100, 1, 1, 0, 0, [])]
def zk215 : List (Option zC) := [some (5, 1, 0, 0, 0, []), some (3, 1, 1, 0, 0, []), some (101, 3, 176, 1, 1, [109, 5234]), zN, zN, some (15, 3, 0, 17, 0, []), zN, zN, some (3, 1, 2, 0, 0, []), some (1, 1, 0, 0, (-1), []), some (16, 3, 2, 17, 0, []), zN, zN, some (1, 1, 0, 0, 0, []), some (17, 3, 0, 18, 0, []), zN, zN, some (1, 1, 0, 0, 1, []), some (101, 3, 174, 0, 2, [136, 5226]), zN, zN, some (15, 3, 1, 26, 0, []), zN, zN, some (1, 1, 0, 0, (-1), []), some (100, 1, 1, 0, 0, []), some (3, 1, 1, 0, 0, []), some (6, 1, 3, 0, 0, []), some (1, 1, 0, 0, 0, []), some (6, 2, 4, 0, 0, []), zN, some (3, 2, 4, 0, 0, []), zN, some (3, 1, 2, 0, 0, []), some (16, 3, 0, 54, 0, []), zN, zN, some (3, 1, 3, 0, 0, []), some (1, 1, 0, 0, 2, []), some (16, 3, 5, 54, 0, []), zN, zN, some (5, 1, 0, 0, 0, []), some (3, 1, 3, 0, 0, []), some (101, 3, 193, 0, 2, [184, 5302]), zN, zN, some (6, 1, 3, 0, 0, []), some (9, 3, 4, 0, 1, []), zN, zN, some (17, 3, 0, 31, 0, []), zN, zN, some (3, 1, 2, 0, 0, []), some (1, 1, 0, 0, (-1), []), some (16, 3, 1, 66, 0, []), zN, zN, some (3, 2, 4, 0, 0, []), zN, some (1, 1, 0, 0, 1, []), some (10, 1, 0, 0, 0, []), some (17, 3, 0, 81, 0, []), zN, zN, some (3, 2, 4, 0, 0, []), zN, some (3, 1, 2, 0, 0, []), some (16, 3, 1, 76, 0, []), zN, zN, some (3, 1, 3, 0, 0, []), some (17, 3, 0, 81, 0, []), zN, zN, some (5, 1, 0, 0, 0, []), some (1, 1, 0, 0, 5, []), some (101, 3, 178, 0, 2, [142, 5242]), zN, zN, some (100, 1, 1, 0, 0, [])]
def zk216 : List (Option zC) := [some (5, 1, 0, 0, 0, []), some (3, 1, 1, 0, 0, []), some (101, 3, 176, 1, 1, [109, 5234]), zN, zN, some (15, 3, 0, 22, 0, []), zN, zN, some (3, 1, 3, 0, 0, []), some (13, 1, 1, 0, 0, []), some (2, 1, 0, 0, 0, []), some (2, 1, 0, 0, 1, []), some (101, 3, 173, 1, 3, [103, 5223]), zN, zN, some (15, 3, 0, 22, 0, []), zN, zN, some (1, 1, 0, 0, 0, []), some (17, 3, 0, 23, 0, []), zN, zN, some (1, 1, 0, 0, 1, []), some (101, 3, 174, 0, 2, [136, 5226]), zN, zN, some (15, 3, 1, 33, 0, []), zN, zN, some (2, 3, 1, 148, (-1), [5268]), zN, zN, some (100, 1, 2, 0, 0, []), some (5, 1, 0, 0, 0, []), some (3, 1, 1, 0, 0, []), some (101, 3, 182, 0, 2, [124, 5258]), zN, zN, some (7, 2, 4, 0, 0, []), zN, some (5, 1, 0, 0, 0, []), some (3, 1, 1, 0, 0, []), some (101, 3, 193, 0, 2, [184, 5302]), zN, zN, some (13, 1, 1, 0, 0, []), some (7, 2, 6, 0, 0, []), zN, some (3, 1, 2, 0, 0, []), some (15, 3, 0, 66, 0, []), zN, zN, some (3, 1, 1, 0, 0, []), some (13, 1, 1, 0, 0, []), some (4, 2, 6, 0, 0, []), zN, some (11, 1, 2, 0, 0, []), some (4, 2, 4, 0, 0, []), zN, some (3, 1, 3, 0, 0, []), some (101, 3, 198, 1, 3, [192, 5323]), zN, zN, some (17, 3, 0, 74, 0, []), zN, zN, some (4, 2, 4, 0, 0, []), zN, some (4, 2, 6, 0, 0, []), zN, some (3, 1, 3, 0, 0, []), some (101, 3, 198, 1, 3, [192, 5323]), zN, zN, some (100, 1, 2, 0, 0, [])]
def zk217 : List (Option zC) := [some (5, 1, 0, 0, 0, []), some (3, 1, 1, 0, 0, []), some (13, 1, 1, 0, 0, []), some (2, 1, 0, 0, 0, []), some (2, 3, 1, 206, 2000, [5350]), zN, zN, some (101, 3, 173, 1, 3, [103, 5223]), zN, zN, some (15, 3, 0, 29, 0, []), zN, zN, some (3, 1, 2, 0, 0, []), some (13, 1, 1, 0, 0, []), some (2, 1, 0, 0, 1, []), some (2, 3, 1, 215, 500, [6151]), zN, zN, some (101, 3, 173, 1, 3, [103, 5223]), zN, zN, some (15, 3, 0, 29, 0, []), zN, zN, some (1, 1, 0, 0, 0, []), some (17, 3, 0, 30, 0, []), zN, zN, some (1, 1, 0, 0, 1, []), some (101, 3, 174, 0, 2, [136, 5226]), zN, zN, some (15, 3, 1, 38, 0, []), zN, zN, some (1, 1, 0, 0, (-1), []), some (100, 1, 1, 0, 0, []), some (5, 1, 0, 0, 0, []), some (3, 1, 2, 0, 0, []), some (101, 3, 205, 0, 2, [208, 5351]), zN, zN, some (5, 1, 0, 0, 0, []), some (3, 1, 1, 0, 0, []), some (3, 1, 2, 0, 0, []), some (101, 3, 218, 0, 3, [224, 6188]), zN, zN, some (100, 1, 1, 0, 0, [])]
def zk218 : List (Option zC) := [some (5, 1, 0, 0, 0, []), some (18, 3, 6, 18, 45, [4314]), zN, zN, some (3, 1, 1, 0, 0, []), some (1, 1, 0, 0, 1, []), some (22, 1, 2, 0, 0, []), some (1, 1, 0, 0, 0, []), some (6, 1, 3, 0, 0, []), some (1, 1, 0, 0, 1, []), some (6, 2, 4, 0, 0, []), zN, some (3, 2, 4, 0, 0, []), zN, some (3, 1, 2, 0, 0, []), some (16, 3, 4, 84, 0, []), zN, zN, some (5, 1, 0, 0, 0, []), some (18, 3, 6, 15, 36, [4311]), zN, zN, some (3, 2, 4, 0, 0, []), zN, some (21, 1, 1, 0, 0, []), some (3, 1, 1, 0, 0, []), some (13, 1, 1, 0, 0, []), some (14, 1, 0, 0, 0, []), some (15, 3, 1, 78, 0, []), zN, zN, some (3, 2, 4, 0, 0, []), zN, some (3, 1, 1, 0, 0, []), some (16, 3, 1, 40, 0, []), zN, zN, some (17, 3, 0, 78, 0, []), zN, zN, some (1, 1, 0, 0, 1, []), some (5, 1, 0, 0, 0, []), some (18, 3, 6, 18, 45, [4314]), zN, zN, some (3, 2, 4, 0, 0, []), zN, some (21, 1, 2, 0, 0, []), some (15, 3, 0, 55, 0, []), zN, zN, some (1, 1, 0, 0, 0, []), some (17, 3, 0, 62, 0, []), zN, zN, some (5, 1, 0, 0, 0, []), some (3, 2, 4, 0, 0, []), zN, some (3, 1, 2, 0, 0, []), some (101, 3, 218, 0, 3, [224, 6188]), zN, zN, some (10, 1, 0, 0, 0, []), some (6, 2, 5, 0, 0, []), zN, some (3, 2, 5, 0, 0, []), zN, some (3, 1, 3, 0, 0, []), some (16, 3, 5, 76, 0, []), zN, zN, some (3, 2, 5, 0, 0, []), zN, some (17, 3, 0, 77, 0, []), zN, zN, some (3, 1, 3, 0, 0, []), some (6, 1, 3, 0, 0, []), some (9, 3, 4, 0, 1, []), zN, zN, some (17, 3, 0, 12, 0, []), zN, zN, some (5, 1, 0, 0, 0, []), some (18, 3, 6, 18, 45, [4314]), zN, zN, some (3, 1, 1, 0, 0, []), some (1, 1, 0, 0, 0, []), some (22, 1, 2, 0, 0, []), some (3, 1, 3, 0, 0, []), some (100, 1, 1, 0, 0, [])]
def zk219 : List (Option zC) := [some (5, 1, 0, 0, 0, []), some (3, 1, 1, 0, 0, []), some (13, 1, 1, 0, 0, []), some (2, 3, 1, 167, 2, [5297]), zN, zN, some (2, 3, 1, 227, 15, [6196]), zN, zN, some (101, 3, 173, 1, 3, [103, 5223]), zN, zN, some (15, 3, 0, 31, 0, []), zN, zN, some (3, 1, 2, 0, 0, []), some (13, 1, 1, 0, 0, []), some (2, 1, 0, 0, 0, []), some (2, 3, 1, 167, 2, [5297]), zN, zN, some (101, 3, 173, 1, 3, [103, 5223]), zN, zN, some (15, 3, 0, 31, 0, []), zN, zN, some (1, 1, 0, 0, 0, []), some (17, 3, 0, 32, 0, []), zN, zN, some (1, 1, 0, 0, 1, []), some (101, 3, 174, 0, 2, [136, 5226]), zN, zN, some (15, 3, 1, 40, 0, []), zN, zN, some (1, 1, 0, 0, (-1), []), some (100, 1, 1, 0, 0, []), some (1, 1, 0, 0, 1, []), some (3, 1, 1, 0, 0, []), some (10, 1, 8, 0, 0, []), some (1, 1, 0, 0, 1, []), some (10, 1, 1, 0, 0, []), some (6, 1, 3, 0, 0, []), some (3, 1, 2, 0, 0, []), some (15, 3, 1, 66, 0, []), zN, zN, some (5, 1, 0, 0, 0, []), some (3, 1, 3, 0, 0, []), some (101, 3, 220, 0, 2, [229, 6197]), zN, zN, some (15, 3, 0, 62, 0, []), zN, zN, some (1, 1, 0, 0, 1, []), some (17, 3, 0, 89, 0, []), zN, zN, some (1, 1, 0, 0, 0, []), some (17, 3, 0, 89, 0, []), zN, zN, some (3, 1, 2, 0, 0, []), some (1, 1, 0, 0, 1, []), some (16, 3, 1, 79, 0, []), zN, zN, some (3, 1, 3, 0, 0, []), some (3, 1, 1, 0, 0, []), some (1, 1, 0, 0, 1, []), some (10, 1, 1, 0, 0, []), some (10, 1, 8, 0, 0, []), some (17, 3, 0, 89, 0, []), zN, zN, some (5, 1, 0, 0, 0, []), some (3, 1, 3, 0, 0, []), some (3, 1, 1, 0, 0, []), some (1, 1, 0, 0, 1, []), some (10, 1, 1, 0, 0, []), some (10, 1, 8, 0, 0, []), some (1, 1, 0, 0, 0, []), some (101, 3, 186, 0, 3, [150, 5273]), zN, zN, some (100, 1, 1, 0, 0, [])]
def zk220 : List (Option zC) := [some (3, 1, 1, 0, 0, []), some (1, 1, 0, 0, 2, []), some (16, 3, 3, 7, 0, []), zN, zN, some (1, 1, 0, 0, 0, []), some (100, 1, 4, 0, 0, []), some (5, 1, 0, 0, 0, []), some (3, 1, 1, 0, 0, []), some (101, 3, 177, 0, 2, [116, 5238]), zN, zN, some (5, 1, 0, 0, 0, []), some (18, 3, 6, 8, 113, [4304]), zN, zN, some (1, 1, 0, 0, 1, []), some (16, 3, 1, 34, 0, []), zN, zN, some (5, 1, 0, 0, 0, []), some (18, 3, 6, 7, 22, [4303]), zN, zN, some (1, 1, 0, 0, 0, []), some (21, 1, 0, 0, 0, []), some (1, 1, 0, 0, 1, []), some (16, 3, 1, 34, 0, []), zN, zN, some (1, 1, 0, 0, 1, []), some (17, 3, 0, 35, 0, []), zN, zN, some (1, 1, 0, 0, 0, []), some (100, 1, 4, 0, 0, [])]
def zk221 : List (Option zC) := [some (5, 1, 0, 0, 0, []), some (5, 1, 0, 0, 0, []), some (1, 1, 0, 0, 1, []), some (3, 1, 1, 0, 0, []), some (101, 3, 222, 0, 3, [255, 6205]), zN, zN, some (101, 3, 174, 0, 2, [136, 5226]), zN, zN, some (15, 3, 0, 22, 0, []), zN, zN, some (5, 1, 0, 0, 0, []), some (18, 3, 6, 2, 7, [4298]), zN, zN, some (3, 1, 1, 0, 0, []), some (21, 1, 0, 0, 0, []), some (17, 3, 0, 23, 0, []), zN, zN, some (1, 1, 0, 0, (-1), []), some (100, 1, 1, 0, 0, [])]
def zk222 : List (Option zC) := [some (3, 1, 1, 0, 0, []), some (15, 3, 1, 8, 0, []), zN, zN, some (1, 1, 0, 0, 1, []), some (17, 3, 0, 21, 0, []), zN, zN, some (5, 1, 0, 0, 0, []), some (3, 1, 2, 0, 0, []), some (101, 3, 223, 0, 2, [252, 6209]), zN, zN, some (15, 3, 0, 20, 0, []), zN, zN, some (1, 1, 0, 0, 0, []), some (17, 3, 0, 21, 0, []), zN, zN, some (1, 1, 0, 0, 2, []), some (100, 1, 1, 0, 0, [])]
def zk223 : List (Option zC) := [some (3, 1, 1, 0, 0, []), some (13, 1, 1, 0, 0, []), some (2, 1, 0, 0, 0, []), some (5, 1, 0, 0, 0, []), some (18, 3, 6, 2, 7, [4298]), zN, zN, some (1, 2, 1, 0, 6, []), zN, some (21, 1, 0, 0, 0, []), some (1, 1, 0, 0, 1, []), some (10, 1, 1, 0, 0, []), some (13, 1, 1, 0, 0, []), some (101, 3, 173, 1, 3, [103, 5223]), zN, zN, some (100, 1, 4, 0, 0, [])]
def zk224 : List (Option zC) := [some (5, 1, 0, 0, 0, []), some (3, 1, 2, 0, 0, []), some (1, 1, 0, 0, (-1), []), some (16, 3, 2, 10, 0, []), zN, zN, some (1, 1, 0, 0, 1, []), some (17, 3, 0, 11, 0, []), zN, zN, some (1, 1, 0, 0, 0, []), some (3, 1, 1, 0, 0, []), some (101, 3, 225, 0, 3, [262, 6217]), zN, zN, some (15, 3, 1, 20, 0, []), zN, zN, some (1, 1, 0, 0, (-1), []), some (100, 1, 1, 0, 0, []), some (3, 1, 2, 0, 0, []), some (1, 1, 0, 0, (-1), []), some (16, 3, 1, 32, 0, []), zN, zN, some (5, 1, 0, 0, 0, []), some (18, 3, 6, 21, 232, [4317]), zN, zN, some (17, 3, 0, 54, 0, []), zN, zN, some (3, 1, 2, 0, 0, []), some (5, 1, 0, 0, 0, []), some (18, 3, 6, 21, 232, [4317]), zN, zN, some (16, 3, 3, 49, 0, []), zN, zN, some (5, 1, 0, 0, 0, []), some (18, 3, 6, 19, 48, [4315]), zN, zN, some (3, 1, 2, 0, 0, []), some (21, 1, 0, 0, 0, []), some (17, 3, 0, 54, 0, []), zN, zN, some (5, 1, 0, 0, 0, []), some (1, 1, 0, 0, 5, []), some (101, 3, 178, 0, 2, [142, 5242]), zN, zN, some (100, 1, 1, 0, 0, [])]
def zk225 : List (Option zC) := [some (5, 1, 0, 0, 0, []), some (5, 1, 0, 0, 0, []), some (3, 1, 1, 0, 0, []), some (3, 1, 2, 0, 0, []), some (101, 3, 222, 0, 3, [255, 6205]), zN, zN, some (101, 3, 174, 0, 2, [136, 5226]), zN, zN, some (15, 3, 1, 15, 0, []), zN, zN, some (1, 1, 0, 0, 0, []), some (100, 1, 4, 0, 0, []), some (5, 1, 0, 0, 0, []), some (5, 1, 0, 0, 0, []), some (18, 3, 6, 2, 7, [4298]), zN, zN, some (3, 1, 2, 0, 0, []), some (21, 1, 0, 0, 0, []), some (101, 3, 226, 0, 2, [259, 6221]), zN, zN, some (1, 1, 0, 0, 1, []), some (100, 1, 4, 0, 0, [])]
def zk226 : List (Option zC) := [some (5, 1, 0, 0, 0, []), some (3, 1, 1, 0, 0, []), some (5, 1, 0, 0, 0, []), some (18, 3, 6, 2, 7, [4298]), zN, zN, some (1, 2, 1, 0, 9, []), zN, some (21, 1, 0, 0, 0, []), some (101, 3, 227, 0, 3, [235, 6225]), zN, zN, some (100, 1, 0, 0, 0, [])]
def zk227 : List (Option zC) := [some (5, 1, 0, 0, 0, []), some (3, 1, 2, 0, 0, []), some (19, 3, 6, 25, 239, [4321]), zN, zN, some (5, 1, 0, 0, 0, []), some (18, 3, 6, 19, 48, [4315]), zN, zN, some (1, 1, 0, 0, 0, []), some (3, 1, 1, 0, 0, []), some (22, 1, 0, 0, 0, []), some (5, 1, 0, 0, 0, []), some (1, 1, 0, 0, 1, []), some (19, 3, 6, 21, 232, [4317]), zN, zN, some (5, 1, 0, 0, 0, []), some (1, 1, 0, 0, (-1), []), some (19, 3, 6, 22, 242, [4318]), zN, zN, some (5, 1, 0, 0, 0, []), some (1, 1, 0, 0, (-1), []), some (19, 3, 6, 23, 245, [4319]), zN, zN, some (5, 1, 0, 0, 0, []), some (18, 3, 6, 22, 242, [4318]), zN, zN, some (15, 3, 3, 158, 0, []), zN, zN, some (5, 1, 0, 0, 0, []), some (5, 1, 0, 0, 0, []), some (18, 3, 6, 19, 48, [4315]), zN, zN, some (5, 1, 0, 0, 0, []), some (18, 3, 6, 21, 232, [4317]), zN, zN, some (1, 1, 0, 0, 1, []), some (10, 1, 1, 0, 0, []), some (21, 1, 0, 0, 0, []), some (5, 1, 0, 0, 0, []), some (18, 3, 6, 25, 239, [4321]), zN, zN, some (101, 3, 181, 0, 3, [131, 5254]), zN, zN, some (7, 1, 3, 0, 0, []), some (5, 1, 0, 0, 0, []), some (4, 1, 3, 0, 0, []), some (101, 3, 228, 0, 2, [248, 6229]), zN, zN, some (6, 2, 5, 0, 0, []), zN, some (3, 2, 5, 0, 0, []), zN, some (15, 3, 2, 80, 0, []), zN, zN, some (5, 1, 0, 0, 0, []), some (1, 1, 0, 0, 1, []), some (19, 3, 6, 22, 242, [4318]), zN, zN, some (5, 1, 0, 0, 0, []), some (3, 2, 5, 0, 0, []), zN, some (19, 3, 6, 23, 245, [4319]), zN, zN, some (17, 3, 0, 155, 0, []), zN, zN, some (4, 1, 3, 0, 0, []), some (5, 1, 0, 0, 0, []), some (18, 3, 6, 2, 7, [4298]), zN, zN, some (1, 2, 1, 0, 7, []), zN, some (21, 1, 0, 0, 0, []), some (13, 1, 1, 0, 0, []), some (14, 1, 0, 0, 0, []), some (15, 3, 5, 101, 0, []), zN, zN, some (5, 1, 0, 0, 0, []), some (1, 1, 0, 0, 2, []), some (19, 3, 6, 22, 242, [4318]), zN, zN, some (17, 3, 0, 155, 0, []), zN, zN, some (5, 1, 0, 0, 0, []), some (18, 3, 6, 19, 48, [4315]), zN, zN, some (5, 1, 0, 0, 0, []), some (18, 3, 6, 21, 232, [4317]), zN, zN, some (4, 1, 3, 0, 0, []), some (13, 1, 2, 0, 0, []), some (22, 1, 0, 0, 0, []), some (5, 1, 0, 0, 0, []), some (23, 1, 0, 0, 0, []), some (18, 3, 6, 21, 232, [4317]), zN, zN, some (1, 1, 0, 0, 1, []), some (10, 1, 0, 0, 0, []), some (19, 3, 6, 21, 232, [4317]), zN, zN, some (5, 1, 0, 0, 0, []), some (4, 1, 3, 0, 0, []), some (2, 1, 0, 0, 0, []), some (14, 1, 0, 0, 0, []), some (15, 3, 1, 133, 0, []), zN, zN, some (1, 1, 0, 0, 0, []), some (17, 3, 0, 152, 0, []), zN, zN, some (5, 1, 0, 0, 0, []), some (18, 3, 6, 21, 232, [4317]), zN, zN, some (5, 1, 0, 0, 0, []), some (18, 3, 6, 2, 7, [4298]), zN, zN, some (1, 2, 1, 0, 8, []), zN, some (21, 1, 0, 0, 0, []), some (16, 3, 5, 151, 0, []), zN, zN, some (1, 1, 0, 0, 3, []), some (17, 3, 0, 152, 0, []), zN, zN, some (1, 1, 0, 0, (-1), []), some (19, 3, 6, 22, 242, [4318]), zN, zN, some (17, 3, 0, 27, 0, []), zN, zN, some (100, 1, 0, 0, 0, [])]
def zk228 : List (Option zC) := [some (1, 1, 0, 0, 0, []), some (6, 1, 3, 0, 0, []), some (3, 1, 3, 0, 0, []), some (5, 1, 0, 0, 0, []), some (18, 3, 6, 21, 232, [4317]), zN, zN, some (16, 3, 3, 30, 0, []), zN, zN, some (5, 1, 0, 0, 0, []), some (18, 3, 6, 19, 48, [4315]), zN, zN, some (3, 1, 3, 0, 0, []), some (21, 1, 0, 0, 0, []), some (13, 1, 1, 0, 0, []), some (4, 1, 1, 0, 0, []), some (14, 1, 0, 0, 0, []), some (15, 3, 1, 24, 0, []), zN, zN, some (3, 1, 3, 0, 0, []), some (100, 1, 1, 0, 0, []), some (9, 3, 3, 0, 1, []), zN, zN, some (17, 3, 0, 2, 0, []), zN, zN, some (1, 1, 0, 0, (-1), []), some (100, 1, 1, 0, 0, [])]
def zk229 : List (Option zC) := [some (5, 1, 0, 0, 0, []), some (1, 1, 0, 0, 1, []), some (3, 1, 1, 0, 0, []), some (101, 3, 225, 0, 3, [262, 6217]), zN, zN, some (15, 3, 0, 16, 0, []), zN, zN, some (5, 1, 0, 0, 0, []), some (18, 3, 6, 22, 242, [4318]), zN, zN, some (17, 3, 0, 17, 0, []), zN, zN, some (1, 1, 0, 0, (-1), []), some (100, 1, 1, 0, 0, [])]
def zk230 : List (Option zC) := [some (5, 1, 0, 0, 0, []), some (3, 1, 2, 0, 0, []), some (13, 1, 1, 0, 0, []), some (2, 1, 0, 0, 0, []), some (2, 3, 1, 167, 2, [5297]), zN, zN, some (101, 3, 173, 1, 3, [103, 5223]), zN, zN, some (3, 1, 1, 0, 0, []), some (101, 3, 225, 0, 3, [262, 6217]), zN, zN, some (15, 3, 1, 19, 0, []), zN, zN, some (1, 1, 0, 0, (-1), []), some (100, 1, 1, 0, 0, []), some (5, 1, 0, 0, 0, []), some (18, 3, 6, 22, 242, [4318]), zN, zN, some (1, 1, 0, 0, 1, []), some (16, 3, 0, 33, 0, []), zN, zN, some (5, 1, 0, 0, 0, []), some (1, 1, 0, 0, 5, []), some (101, 3, 178, 0, 2, [142, 5242]), zN, zN, some (100, 1, 1, 0, 0, []), some (3, 1, 2, 0, 0, []), some (15, 3, 1, 44, 0, []), zN, zN, some (5, 1, 0, 0, 0, []), some (18, 3, 6, 23, 245, [4319]), zN, zN, some (17, 3, 0, 65, 0, []), zN, zN, some (3, 1, 2, 0, 0, []), some (1, 1, 0, 0, 1, []), some (16, 3, 1, 61, 0, []), zN, zN, some (5, 1, 0, 0, 0, []), some (18, 3, 6, 21, 232, [4317]), zN, zN, some (5, 1, 0, 0, 0, []), some (18, 3, 6, 23, 245, [4319]), zN, zN, some (10, 1, 1, 0, 0, []), some (17, 3, 0, 65, 0, []), zN, zN, some (5, 1, 0, 0, 0, []), some (101, 3, 231, 0, 1, [266, 6241]), zN, zN, some (100, 1, 1, 0, 0, [])]
def zk231 : List (Option zC) := [some (5, 1, 0, 0, 0, []), some (18, 3, 6, 19, 48, [4315]), zN, zN, some (5, 1, 0, 0, 0, []), some (18, 3, 6, 23, 245, [4319]), zN, zN, some (21, 1, 0, 0, 0, []), some (6, 1, 1, 0, 0, []), some (5, 1, 0, 0, 0, []), some (18, 3, 6, 23, 245, [4319]), zN, zN, some (6, 1, 2, 0, 0, []), some (3, 1, 2, 0, 0, []), some (5, 1, 0, 0, 0, []), some (18, 3, 6, 21, 232, [4317]), zN, zN, some (16, 3, 3, 50, 0, []), zN, zN, some (5, 1, 0, 0, 0, []), some (18, 3, 6, 19, 48, [4315]), zN, zN, some (3, 1, 2, 0, 0, []), some (21, 1, 0, 0, 0, []), some (3, 1, 1, 0, 0, []), some (16, 3, 3, 42, 0, []), zN, zN, some (5, 1, 0, 0, 0, []), some (18, 3, 6, 19, 48, [4315]), zN, zN, some (3, 1, 2, 0, 0, []), some (21, 1, 0, 0, 0, []), some (17, 3, 0, 43, 0, []), zN, zN, some (3, 1, 1, 0, 0, []), some (6, 1, 1, 0, 0, []), some (9, 3, 2, 0, 1, []), zN, zN, some (17, 3, 0, 15, 0, []), zN, zN, some (3, 1, 1, 0, 0, []), some (100, 1, 1, 0, 0, [])]
def zk232 : List (Option zC) := [some (5, 1, 0, 0, 0, []), some (3, 1, 2, 0, 0, []), some (13, 1, 1, 0, 0, []), some (2, 1, 0, 0, 0, []), some (2, 1, 0, 0, 1, []), some (101, 3, 173, 1, 3, [103, 5223]), zN, zN, some (3, 1, 1, 0, 0, []), some (101, 3, 225, 0, 3, [262, 6217]), zN, zN, some (15, 3, 1, 17, 0, []), zN, zN, some (1, 1, 0, 0, (-1), []), some (100, 1, 1, 0, 0, []), some (3, 1, 2, 0, 0, []), some (15, 3, 1, 33, 0, []), zN, zN, some (5, 1, 0, 0, 0, []), some (18, 3, 6, 19, 48, [4315]), zN, zN, some (5, 1, 0, 0, 0, []), some (101, 3, 233, 0, 1, [269, 6249]), zN, zN, some (21, 1, 0, 0, 0, []), some (17, 3, 0, 37, 0, []), zN, zN, some (5, 1, 0, 0, 0, []), some (101, 3, 233, 0, 1, [269, 6249]), zN, zN, some (100, 1, 1, 0, 0, [])]
def zk233 : List (Option zC) := [some (1, 1, 0, 0, 0, []), some (6, 1, 1, 0, 0, []), some (1, 1, 0, 0, 1, []), some (6, 1, 2, 0, 0, []), some (3, 1, 2, 0, 0, []), some (5, 1, 0, 0, 0, []), some (18, 3, 6, 21, 232, [4317]), zN, zN, some (16, 3, 3, 39, 0, []), zN, zN, some (5, 1, 0, 0, 0, []), some (18, 3, 6, 19, 48, [4315]), zN, zN, some (3, 1, 2, 0, 0, []), some (21, 1, 0, 0, 0, []), some (5, 1, 0, 0, 0, []), some (18, 3, 6, 19, 48, [4315]), zN, zN, some (3, 1, 1, 0, 0, []), some (21, 1, 0, 0, 0, []), some (16, 3, 5, 31, 0, []), zN, zN, some (3, 1, 2, 0, 0, []), some (17, 3, 0, 32, 0, []), zN, zN, some (3, 1, 1, 0, 0, []), some (6, 1, 1, 0, 0, []), some (9, 3, 2, 0, 1, []), zN, zN, some (17, 3, 0, 4, 0, []), zN, zN, some (3, 1, 1, 0, 0, []), some (100, 1, 1, 0, 0, [])]
def zk234 : List (Option zC) := [some (5, 1, 0, 0, 0, []), some (3, 1, 2, 0, 0, []), some (13, 1, 1, 0, 0, []), some (2, 1, 0, 0, 0, []), some (2, 1, 0, 0, 1, []), some (101, 3, 173, 1, 3, [103, 5223]), zN, zN, some (3, 1, 1, 0, 0, []), some (101, 3, 225, 0, 3, [262, 6217]), zN, zN, some (15, 3, 1, 17, 0, []), zN, zN, some (1, 1, 0, 0, (-1), []), some (100, 1, 1, 0, 0, []), some (1, 1, 0, 0, 0, []), some (6, 1, 3, 0, 0, []), some (1, 1, 0, 0, 0, []), some (6, 2, 4, 0, 0, []), zN, some (1, 1, 0, 0, 0, []), some (6, 2, 5, 0, 0, []), zN, some (1, 1, 0, 0, 0, []), some (6, 2, 6, 0, 0, []), zN, some (3, 2, 6, 0, 0, []), zN, some (5, 1, 0, 0, 0, []), some (18, 3, 6, 21, 232, [4317]), zN, zN, some (16, 3, 3, 103, 0, []), zN, zN, some (3, 2, 6, 0, 0, []), zN, some (15, 3, 5, 66, 0, []), zN, zN, some (5, 1, 0, 0, 0, []), some (18, 3, 6, 19, 48, [4315]), zN, zN, some (3, 2, 6, 0, 0, []), zN, some (21, 1, 0, 0, 0, []), some (5, 1, 0, 0, 0, []), some (18, 3, 6, 19, 48, [4315]), zN, zN, some (3, 2, 6, 0, 0, []), zN, some (1, 1, 0, 0, 1, []), some (10, 1, 1, 0, 0, []), some (21, 1, 0, 0, 0, []), some (16, 3, 5, 66, 0, []), zN, zN, some (3, 2, 5, 0, 0, []), zN, some (17, 3, 0, 68, 0, []), zN, zN, some (3, 2, 6, 0, 0, []), zN, some (6, 2, 5, 0, 0, []), zN, some (3, 2, 6, 0, 0, []), zN, some (3, 2, 5, 0, 0, []), zN, some (10, 1, 1, 0, 0, []), some (1, 1, 0, 0, 1, []), some (10, 1, 0, 0, 0, []), some (3, 2, 4, 0, 0, []), zN, some (16, 3, 4, 85, 0, []), zN, zN, some (17, 3, 0, 97, 0, []), zN, zN, some (3, 2, 6, 0, 0, []), zN, some (3, 2, 5, 0, 0, []), zN, some (10, 1, 1, 0, 0, []), some (1, 1, 0, 0, 1, []), some (10, 1, 0, 0, 0, []), some (6, 2, 4, 0, 0, []), zN, some (3, 2, 5, 0, 0, []), zN, some (6, 1, 3, 0, 0, []), some (9, 3, 6, 0, 1, []), zN, zN, some (17, 3, 0, 28, 0, []), zN, zN, some (3, 1, 2, 0, 0, []), some (15, 3, 1, 112, 0, []), zN, zN, some (3, 2, 4, 0, 0, []), zN, some (17, 3, 0, 113, 0, []), zN, zN, some (3, 1, 3, 0, 0, []), some (100, 1, 1, 0, 0, [])]
def zk235 : List (Option zC) := [some (5, 1, 0, 0, 0, []), some (3, 1, 2, 0, 0, []), some (13, 1, 1, 0, 0, []), some (2, 1, 0, 0, 0, []), some (2, 3, 1, 167, 2, [5297]), zN, zN, some (101, 3, 173, 1, 3, [103, 5223]), zN, zN, some (3, 1, 1, 0, 0, []), some (101, 3, 225, 0, 3, [262, 6217]), zN, zN, some (15, 3, 1, 21, 0, []), zN, zN, some (2, 3, 1, 148, (-1), [5268]), zN, zN, some (100, 1, 2, 0, 0, []), some (2, 1, 0, 0, 0, []), some (7, 1, 3, 0, 0, []), some (1, 1, 0, 0, 0, []), some (6, 2, 5, 0, 0, []), zN, some (3, 2, 5, 0, 0, []), zN, some (5, 1, 0, 0, 0, []), some (18, 3, 6, 21, 232, [4317]), zN, zN, some (16, 3, 3, 96, 0, []), zN, zN, some (4, 1, 3, 0, 0, []), some (3, 1, 2, 0, 0, []), some (15, 3, 1, 51, 0, []), zN, zN, some (5, 1, 0, 0, 0, []), some (18, 3, 6, 19, 48, [4315]), zN, zN, some (3, 2, 5, 0, 0, []), zN, some (21, 1, 0, 0, 0, []), some (13, 1, 1, 0, 0, []), some (17, 3, 0, 88, 0, []), zN, zN, some (3, 1, 2, 0, 0, []), some (1, 1, 0, 0, 1, []), some (16, 3, 1, 69, 0, []), zN, zN, some (5, 1, 0, 0, 0, []), some (18, 3, 6, 19, 48, [4315]), zN, zN, some (3, 2, 5, 0, 0, []), zN, some (21, 1, 0, 0, 0, []), some (1, 1, 0, 0, 2, []), some (10, 1, 7, 0, 0, []), some (13, 1, 1, 0, 0, []), some (17, 3, 0, 88, 0, []), zN, zN, some (5, 1, 0, 0, 0, []), some (5, 1, 0, 0, 0, []), some (18, 3, 6, 19, 48, [4315]), zN, zN, some (3, 2, 5, 0, 0, []), zN, some (21, 1, 0, 0, 0, []), some (101, 3, 220, 0, 2, [229, 6197]), zN, zN, some (15, 3, 0, 87, 0, []), zN, zN, some (2, 1, 0, 0, 1, []), some (17, 3, 0, 88, 0, []), zN, zN, some (2, 1, 0, 0, 0, []), some (11, 1, 0, 0, 0, []), some (7, 1, 3, 0, 0, []), some (9, 3, 5, 0, 1, []), zN, zN, some (17, 3, 0, 26, 0, []), zN, zN, some (4, 1, 3, 0, 0, []), some (100, 1, 2, 0, 0, [])]
def zk236 : List (Option zC) := [some (5, 1, 0, 0, 0, []), some (3, 1, 2, 0, 0, []), some (15, 3, 2, 9, 0, []), zN, zN, some (1, 1, 0, 0, 1, []), some (17, 3, 0, 10, 0, []), zN, zN, some (1, 1, 0, 0, 0, []), some (3, 1, 1, 0, 0, []), some (101, 3, 225, 0, 3, [262, 6217]), zN, zN, some (15, 3, 1, 19, 0, []), zN, zN, some (1, 1, 0, 0, (-1), []), some (100, 1, 1, 0, 0, []), some (3, 1, 2, 0, 0, []), some (13, 1, 1, 0, 0, []), some (2, 1, 0, 0, 1, []), some (11, 1, 0, 0, 0, []), some (5, 1, 0, 0, 0, []), some (18, 3, 6, 21, 232, [4317]), zN, zN, some (13, 1, 1, 0, 0, []), some (14, 1, 0, 0, 0, []), some (15, 3, 3, 57, 0, []), zN, zN, some (2, 3, 1, 196, 1000, [5330]), zN, zN, some (5, 1, 0, 0, 0, []), some (18, 3, 6, 19, 48, [4315]), zN, zN, some (3, 1, 2, 0, 0, []), some (1, 1, 0, 0, 1, []), some (10, 1, 0, 0, 0, []), some (21, 1, 0, 0, 0, []), some (13, 1, 1, 0, 0, []), some (11, 1, 2, 0, 0, []), some (5, 1, 0, 0, 0, []), some (18, 3, 6, 19, 48, [4315]), zN, zN, some (3, 1, 2, 0, 0, []), some (21, 1, 0, 0, 0, []), some (13, 1, 1, 0, 0, []), some (11, 1, 6, 0, 0, []), some (13, 1, 2, 0, 0, []), some (17, 3, 0, 62, 0, []), zN, zN, some (5, 1, 0, 0, 0, []), some (1, 1, 0, 0, 5, []), some (101, 3, 178, 0, 2, [142, 5242]), zN, zN, some (100, 1, 1, 0, 0, [])]
def zk237_0 : List (Option zC) := [some (5, 1, 0, 0, 0, []), some (3, 1, 2, 0, 0, []), some (13, 1, 1, 0, 0, []), some (2, 1, 0, 0, 0, []), some (2, 3, 1, 169, 3, [5281]), zN, zN, some (101, 3, 173, 1, 3, [103, 5223]), zN, zN, some (3, 1, 1, 0, 0, []), some (101, 3, 225, 0, 3, [262, 6217]), zN, zN, some (15, 3, 1, 19, 0, []), zN, zN, some (1, 1, 0, 0, (-1), []), some (100, 1, 1, 0, 0, []), some (1, 1, 0, 0, 0, []), some (6, 1, 3, 0, 0, []), some (1, 1, 0, 0, 0, []), some (6, 2, 4, 0, 0, []), zN, some (1, 1, 0, 0, (-1), []), some (6, 2, 5, 0, 0, []), zN, some (1, 1, 0, 0, 0, []), some (6, 2, 6, 0, 0, []), zN, some (1, 1, 0, 0, 0, []), some (6, 2, 7, 0, 0, []), zN, some (1, 1, 0, 0, 0, []), some (6, 2, 8, 0, 0, []), zN, some (1, 1, 0, 0, 0, []), some (6, 2, 9, 0, 0, []), zN, some (3, 2, 9, 0, 0, []), zN, some (5, 1, 0, 0, 0, []), some (18, 3, 6, 21, 232, [4317]), zN, zN, some (16, 3, 3, 198, 0, []), zN, zN, some (5, 1, 0, 0, 0, []), some (3, 2, 9, 0, 0, []), zN, some (101, 3, 238, 0, 2, [272, 6269]), zN, zN, some (6, 2, 10, 0, 0, []), zN, some (3, 2, 10, 0, 0, []), zN, some (15, 3, 5, 72, 0, []), zN, zN, some (3, 2, 10, 0, 0, []), zN, some (3, 2, 8, 0, 0, []), zN, some (16, 3, 1, 72, 0, []), zN, zN, some (1, 1, 0, 0, 1, []), some (17, 3, 0, 73, 0, []), zN, zN, some (1, 1, 0, 0, 0, []), some (6, 2, 11, 0, 0, []), zN, some (3, 2, 10, 0, 0, []), zN, some (15, 3, 5, 98, 0, []), zN, zN, some (5, 1, 0, 0, 0, []), some (5, 1, 0, 0, 0, []), some (18, 3, 6, 19, 48, [4315]), zN, zN, some (3, 2, 9, 0, 0, []), zN, some (21, 1, 0, 0, 0, []), some (101, 3, 191, 0, 2, [175, 5293]), zN, zN, some (15, 3, 0, 98, 0, []), zN, zN, some (1, 1, 0, 0, 1, []), some (17, 3, 0, 99, 0, []), zN, zN, some (1, 1, 0, 0, 0, []), some (6, 2, 12, 0, 0, []), zN, some (3, 1, 3, 0, 0, []), some (3, 2, 11, 0, 0, []), zN, some (15, 3, 0, 111, 0, []), zN, zN, some (1, 1, 0, 0, 1, []), some (17, 3, 0, 112, 0, []), zN, zN, some (1, 1, 0, 0, 0, []), some (10, 1, 0, 0, 0, []), some (6, 1, 3, 0, 0, []), some (3, 2, 4, 0, 0, []), zN, some (3, 2, 12, 0, 0, []), zN, some (15, 3, 0, 125, 0, []), zN, zN, some (1, 1, 0, 0, 1, []), some (17, 3, 0, 126, 0, []), zN, zN, some (1, 1, 0, 0, 0, []), some (10, 1, 0, 0, 0, []), some (6, 2, 4, 0, 0, []), zN, some (3, 2, 5, 0, 0, []), zN, some (15, 3, 3, 144, 0, []), zN, zN, some (3, 2, 12, 0, 0, []), zN, some (15, 3, 0, 144, 0, []), zN, zN, some (3, 2, 9, 0, 0, []), zN, some (17, 3, 0, 146, 0, []), zN, zN, some (3, 2, 5, 0, 0, []), zN, some (6, 2, 5, 0, 0, []), zN, some (3, 2, 10, 0, 0, []), zN, some (15, 3, 1, 157, 0, []), zN, zN, some (1, 1, 0, 0, 0, []), some (17, 3, 0, 170, 0, []), zN, zN, some (3, 2, 11, 0, 0, []), zN, some (15, 3, 0, 169, 0, []), zN, zN, some (3, 2, 6, 0, 0, []), zN, some (1, 1, 0, 0, 1, []), some (10, 1, 0, 0, 0, []), some (17, 3, 0, 170, 0, []), zN, zN, some (1, 1, 0, 0, 1, []), some (6, 2, 6, 0, 0, []), zN, some (3, 2, 6, 0, 0, []), zN, some (3, 2, 7, 0, 0, []), zN, some (16, 3, 5, 184, 0, []), zN, zN, some (3, 2, 6, 0, 0, []), zN, some (17, 3, 0, 186, 0, []), zN, zN, some (3, 2, 7, 0, 0, []), zN, some (6, 2, 7, 0, 0, []), zN, some (3, 2, 10, 0, 0, []), zN, some (6, 2, 8, 0, 0, []), zN, some (9, 3, 9, 0, 1, []), zN, zN, some (17, 3, 0, 39, 0, []), zN, zN, some (3, 1, 2, 0, 0, []), some (30, 25, 0, 245, 0, [224, 226, 229])]
def zk237_1 : List (Option zC) := [zN, zN, zN, zN, zN, zN, zN, zN, zN, zN, zN, zN, zN, zN, zN, zN, zN, zN, zN, zN, zN, zN, zN, zN, some (3, 1, 3, 0, 0, []), some (100, 1, 1, 0, 0, []), some (3, 2, 4, 0, 0, []), zN, some (100, 1, 1, 0, 0, []), some (3, 2, 5, 0, 0, []), zN, some (15, 3, 3, 242, 0, []), zN, zN, some (5, 1, 0, 0, 0, []), some (1, 1, 0, 0, 5, []), some (101, 3, 178, 0, 2, [142, 5242]), zN, zN, some (17, 3, 0, 244, 0, []), zN, zN, some (3, 2, 5, 0, 0, []), zN, some (100, 1, 1, 0, 0, []), some (3, 2, 7, 0, 0, []), zN, some (100, 1, 1, 0, 0, [])]
def zk237 : List (Option zC) := zk237_0 ++ zk237_1
def zk238 : List (Option zC) := [some (5, 1, 0, 0, 0, []), some (18, 3, 6, 19, 48, [4315]), zN, zN, some (3, 1, 1, 0, 0, []), some (21, 1, 0, 0, 0, []), some (15, 3, 0, 21, 0, []), zN, zN, some (5, 1, 0, 0, 0, []), some (18, 3, 6, 19, 48, [4315]), zN, zN, some (3, 1, 1, 0, 0, []), some (21, 1, 0, 0, 0, []), some (1, 1, 0, 0, 2, []), some (10, 1, 7, 0, 0, []), some (1, 1, 0, 0, 1, []), some (16, 3, 1, 23, 0, []), zN, zN, some (1, 1, 0, 0, 0, []), some (100, 1, 1, 0, 0, []), some (5, 1, 0, 0, 0, []), some (5, 1, 0, 0, 0, []), some (18, 3, 6, 19, 48, [4315]), zN, zN, some (3, 1, 1, 0, 0, []), some (21, 1, 0, 0, 0, []), some (101, 3, 188, 0, 2, [164, 5282]), zN, zN, some (5, 1, 0, 0, 0, []), some (101, 3, 190, 0, 1, [171, 5289]), zN, zN, some (100, 1, 1, 0, 0, [])]
def zk239 : List (Option zC) := [some (5, 1, 0, 0, 0, []), some (3, 1, 2, 0, 0, []), some (1, 1, 0, 0, 1, []), some (16, 3, 2, 10, 0, []), zN, zN, some (1, 1, 0, 0, 1, []), some (17, 3, 0, 11, 0, []), zN, zN, some (1, 1, 0, 0, 0, []), some (3, 1, 1, 0, 0, []), some (101, 3, 225, 0, 3, [262, 6217]), zN, zN, some (15, 3, 1, 20, 0, []), zN, zN, some (1, 1, 0, 0, (-1), []), some (100, 1, 1, 0, 0, []), some (3, 1, 2, 0, 0, []), some (5, 1, 0, 0, 0, []), some (18, 3, 6, 21, 232, [4317]), zN, zN, some (16, 3, 2, 34, 0, []), zN, zN, some (5, 1, 0, 0, 0, []), some (1, 1, 0, 0, 5, []), some (101, 3, 178, 0, 2, [142, 5242]), zN, zN, some (100, 1, 1, 0, 0, []), some (5, 1, 0, 0, 0, []), some (3, 1, 2, 0, 0, []), some (1, 1, 0, 0, 1, []), some (10, 1, 1, 0, 0, []), some (101, 3, 238, 0, 2, [272, 6269]), zN, zN, some (6, 1, 3, 0, 0, []), some (5, 1, 0, 0, 0, []), some (18, 3, 6, 9, 154, [4305]), zN, zN, some (6, 2, 4, 0, 0, []), zN, some (5, 1, 0, 0, 0, []), some (3, 1, 2, 0, 0, []), some (101, 3, 238, 0, 2, [272, 6269]), zN, zN, some (6, 2, 5, 0, 0, []), zN, some (3, 1, 3, 0, 0, []), some (15, 3, 0, 70, 0, []), zN, zN, some (3, 2, 5, 0, 0, []), zN, some (15, 3, 0, 70, 0, []), zN, zN, some (3, 1, 3, 0, 0, []), some (3, 2, 5, 0, 0, []), zN, some (16, 3, 1, 74, 0, []), zN, zN, some (1, 1, 0, 0, 0, []), some (17, 3, 0, 88, 0, []), zN, zN, some (5, 1, 0, 0, 0, []), some (18, 3, 6, 9, 154, [4305]), zN, zN, some (3, 2, 4, 0, 0, []), zN, some (16, 3, 0, 87, 0, []), zN, zN, some (1, 1, 0, 0, 1, []), some (17, 3, 0, 88, 0, []), zN, zN, some (1, 1, 0, 0, 2, []), some (100, 1, 1, 0, 0, [])]
def zk240 : List (Option zC) := [some (5, 1, 0, 0, 0, []), some (3, 1, 2, 0, 0, []), some (13, 1, 1, 0, 0, []), some (2, 1, 0, 0, 0, []), some (2, 3, 1, 167, 2, [5297]), zN, zN, some (101, 3, 173, 1, 3, [103, 5223]), zN, zN, some (3, 1, 1, 0, 0, []), some (101, 3, 225, 0, 3, [262, 6217]), zN, zN, some (15, 3, 1, 19, 0, []), zN, zN, some (1, 1, 0, 0, (-1), []), some (100, 1, 1, 0, 0, []), some (1, 1, 0, 0, 0, []), some (6, 1, 3, 0, 0, []), some (3, 1, 3, 0, 0, []), some (5, 1, 0, 0, 0, []), some (18, 3, 6, 21, 232, [4317]), zN, zN, some (16, 3, 3, 46, 0, []), zN, zN, some (5, 1, 0, 0, 0, []), some (18, 3, 6, 26, 54, [4322]), zN, zN, some (3, 1, 3, 0, 0, []), some (5, 1, 0, 0, 0, []), some (3, 1, 3, 0, 0, []), some (101, 3, 238, 0, 2, [272, 6269]), zN, zN, some (22, 1, 0, 0, 0, []), some (9, 3, 3, 0, 1, []), zN, zN, some (17, 3, 0, 21, 0, []), zN, zN, some (1, 1, 0, 0, 0, []), some (6, 1, 3, 0, 0, []), some (1, 1, 0, 0, 0, []), some (6, 2, 4, 0, 0, []), zN, some (1, 1, 0, 0, 0, []), some (6, 2, 5, 0, 0, []), zN, some (1, 1, 0, 0, 0, []), some (6, 2, 6, 0, 0, []), zN, some (3, 2, 6, 0, 0, []), zN, some (5, 1, 0, 0, 0, []), some (18, 3, 6, 21, 232, [4317]), zN, zN, some (16, 3, 3, 141, 0, []), zN, zN, some (5, 1, 0, 0, 0, []), some (18, 3, 6, 26, 54, [4322]), zN, zN, some (3, 2, 6, 0, 0, []), zN, some (21, 1, 0, 0, 0, []), some (6, 2, 7, 0, 0, []), zN, some (3, 2, 7, 0, 0, []), zN, some (15, 3, 0, 135, 0, []), zN, zN, some (5, 1, 0, 0, 0, []), some (3, 2, 6, 0, 0, []), zN, some (101, 3, 241, 0, 2, [275, 6281]), zN, zN, some (15, 3, 0, 92, 0, []), zN, zN, some (17, 3, 0, 135, 0, []), zN, zN, some (5, 1, 0, 0, 0, []), some (3, 2, 7, 0, 0, []), zN, some (101, 3, 242, 0, 2, [278, 6285]), zN, zN, some (6, 2, 8, 0, 0, []), zN, some (9, 3, 3, 0, 1, []), zN, zN, some (3, 2, 8, 0, 0, []), zN, some (3, 2, 4, 0, 0, []), zN, some (16, 3, 2, 135, 0, []), zN, zN, some (3, 2, 8, 0, 0, []), zN, some (3, 2, 4, 0, 0, []), zN, some (16, 3, 1, 127, 0, []), zN, zN, some (3, 2, 7, 0, 0, []), zN, some (3, 2, 5, 0, 0, []), zN, some (16, 3, 5, 127, 0, []), zN, zN, some (17, 3, 0, 135, 0, []), zN, zN, some (3, 2, 8, 0, 0, []), zN, some (6, 2, 4, 0, 0, []), zN, some (3, 2, 7, 0, 0, []), zN, some (6, 2, 5, 0, 0, []), zN, some (9, 3, 6, 0, 1, []), zN, zN, some (17, 3, 0, 57, 0, []), zN, zN, some (3, 1, 2, 0, 0, []), some (15, 3, 1, 149, 0, []), zN, zN, some (3, 1, 3, 0, 0, []), some (17, 3, 0, 173, 0, []), zN, zN, some (3, 1, 3, 0, 0, []), some (15, 3, 1, 161, 0, []), zN, zN, some (5, 1, 0, 0, 0, []), some (1, 1, 0, 0, 5, []), some (101, 3, 178, 0, 2, [142, 5242]), zN, zN, some (17, 3, 0, 173, 0, []), zN, zN, some (3, 1, 2, 0, 0, []), some (1, 1, 0, 0, 1, []), some (16, 3, 1, 171, 0, []), zN, zN, some (3, 2, 5, 0, 0, []), zN, some (17, 3, 0, 173, 0, []), zN, zN, some (3, 2, 4, 0, 0, []), zN, some (100, 1, 1, 0, 0, [])]
def zk241 : List (Option zC) := [some (1, 1, 0, 0, 0, []), some (6, 1, 2, 0, 0, []), some (3, 1, 2, 0, 0, []), some (3, 1, 1, 0, 0, []), some (16, 3, 3, 30, 0, []), zN, zN, some (5, 1, 0, 0, 0, []), some (18, 3, 6, 26, 54, [4322]), zN, zN, some (3, 1, 2, 0, 0, []), some (21, 1, 0, 0, 0, []), some (5, 1, 0, 0, 0, []), some (18, 3, 6, 26, 54, [4322]), zN, zN, some (3, 1, 1, 0, 0, []), some (21, 1, 0, 0, 0, []), some (16, 3, 1, 24, 0, []), zN, zN, some (1, 1, 0, 0, 1, []), some (100, 1, 4, 0, 0, []), some (9, 3, 2, 0, 1, []), zN, zN, some (17, 3, 0, 2, 0, []), zN, zN, some (1, 1, 0, 0, 0, []), some (100, 1, 4, 0, 0, [])]
def zk242 : List (Option zC) := [some (1, 1, 0, 0, 0, []), some (6, 1, 2, 0, 0, []), some (1, 1, 0, 0, 0, []), some (6, 1, 3, 0, 0, []), some (3, 1, 3, 0, 0, []), some (5, 1, 0, 0, 0, []), some (18, 3, 6, 21, 232, [4317]), zN, zN, some (16, 3, 3, 36, 0, []), zN, zN, some (3, 1, 2, 0, 0, []), some (5, 1, 0, 0, 0, []), some (18, 3, 6, 26, 54, [4322]), zN, zN, some (3, 1, 3, 0, 0, []), some (21, 1, 0, 0, 0, []), some (3, 1, 1, 0, 0, []), some (16, 3, 1, 27, 0, []), zN, zN, some (1, 1, 0, 0, 1, []), some (17, 3, 0, 28, 0, []), zN, zN, some (1, 1, 0, 0, 0, []), some (10, 1, 0, 0, 0, []), some (6, 1, 2, 0, 0, []), some (9, 3, 3, 0, 1, []), zN, zN, some (17, 3, 0, 4, 0, []), zN, zN, some (3, 1, 2, 0, 0, []), some (100, 1, 1, 0, 0, [])]
def zk243_0 : List (Option zC) := [some (3, 1, 3, 0, 0, []), some (13, 1, 1, 0, 0, []), some (2, 1, 0, 0, 0, []), some (2, 3, 1, 169, 3, [5281]), zN, zN, some (101, 3, 173, 1, 3, [103, 5223]), zN, zN, some (15, 3, 0, 28, 0, []), zN, zN, some (3, 1, 2, 0, 0, []), some (13, 1, 1, 0, 0, []), some (2, 1, 0, 0, 0, []), some (2, 3, 1, 169, 3, [5281]), zN, zN, some (101, 3, 173, 1, 3, [103, 5223]), zN, zN, some (15, 3, 0, 28, 0, []), zN, zN, some (1, 1, 0, 0, 1, []), some (17, 3, 0, 29, 0, []), zN, zN, some (1, 1, 0, 0, 0, []), some (6, 2, 4, 0, 0, []), zN, some (5, 1, 0, 0, 0, []), some (3, 2, 4, 0, 0, []), zN, some (15, 3, 1, 41, 0, []), zN, zN, some (1, 1, 0, 0, 1, []), some (17, 3, 0, 69, 0, []), zN, zN, some (5, 1, 0, 0, 0, []), some (3, 1, 1, 0, 0, []), some (101, 3, 223, 0, 2, [252, 6209]), zN, zN, some (15, 3, 1, 53, 0, []), zN, zN, some (1, 1, 0, 0, 2, []), some (17, 3, 0, 69, 0, []), zN, zN, some (3, 1, 2, 0, 0, []), some (5, 1, 0, 0, 0, []), some (18, 3, 6, 2, 7, [4298]), zN, zN, some (1, 2, 1, 0, 9, []), zN, some (21, 1, 0, 0, 0, []), some (16, 3, 1, 68, 0, []), zN, zN, some (1, 1, 0, 0, 4, []), some (17, 3, 0, 69, 0, []), zN, zN, some (1, 1, 0, 0, 0, []), some (101, 3, 174, 0, 2, [136, 5226]), zN, zN, some (15, 3, 1, 77, 0, []), zN, zN, some (1, 1, 0, 0, (-1), []), some (100, 1, 1, 0, 0, []), some (5, 1, 0, 0, 0, []), some (3, 1, 1, 0, 0, []), some (101, 3, 244, 0, 2, [281, 6293]), zN, zN, some (5, 1, 0, 0, 0, []), some (5, 1, 0, 0, 0, []), some (18, 3, 6, 2, 7, [4298]), zN, zN, some (3, 1, 1, 0, 0, []), some (21, 1, 0, 0, 0, []), some (3, 1, 2, 0, 0, []), some (101, 3, 227, 0, 3, [235, 6225]), zN, zN, some (3, 1, 3, 0, 0, []), some (15, 3, 5, 133, 0, []), zN, zN, some (3, 1, 3, 0, 0, []), some (1, 1, 0, 0, 1, []), some (16, 3, 1, 109, 0, []), zN, zN, some (5, 1, 0, 0, 0, []), some (18, 3, 6, 21, 232, [4317]), zN, zN, some (17, 3, 0, 132, 0, []), zN, zN, some (3, 1, 3, 0, 0, []), some (1, 1, 0, 0, 2, []), some (16, 3, 1, 121, 0, []), zN, zN, some (5, 1, 0, 0, 0, []), some (18, 3, 6, 22, 242, [4318]), zN, zN, some (17, 3, 0, 132, 0, []), zN, zN, some (5, 1, 0, 0, 0, []), some (18, 3, 6, 19, 48, [4315]), zN, zN, some (5, 1, 0, 0, 0, []), some (18, 3, 6, 21, 232, [4317]), zN, zN, some (1, 1, 0, 0, 1, []), some (10, 1, 1, 0, 0, []), some (21, 1, 0, 0, 0, []), some (100, 1, 1, 0, 0, []), some (1, 1, 0, 0, 0, []), some (6, 2, 5, 0, 0, []), zN, some (3, 2, 5, 0, 0, []), zN, some (5, 1, 0, 0, 0, []), some (18, 3, 6, 21, 232, [4317]), zN, zN, some (16, 3, 3, 177, 0, []), zN, zN, some (3, 2, 5, 0, 0, []), zN, some (5, 1, 0, 0, 0, []), some (18, 3, 6, 24, 284, [4320]), zN, zN, some (16, 3, 3, 177, 0, []), zN, zN, some (5, 1, 0, 0, 0, []), some (18, 3, 6, 19, 48, [4315]), zN, zN, some (3, 2, 5, 0, 0, []), zN, some (21, 1, 0, 0, 0, []), some (5, 1, 0, 0, 0, []), some (18, 3, 6, 20, 51, [4316]), zN, zN, some (3, 2, 5, 0, 0, []), zN, some (21, 1, 0, 0, 0, []), some (16, 3, 1, 177, 0, []), zN, zN, some (9, 3, 5, 0, 1, []), zN, zN, some (17, 3, 0, 136, 0, []), zN, zN, some (3, 2, 5, 0, 0, []), zN, some (5, 1, 0, 0, 0, []), some (18, 3, 6, 21, 232, [4317]), zN, zN, some (16, 3, 1, 203, 0, []), zN, zN, some (3, 2, 5, 0, 0, []), zN, some (5, 1, 0, 0, 0, []), some (18, 3, 6, 24, 284, [4320]), zN, zN, some (16, 3, 1, 203, 0, []), zN, zN, some (5, 1, 0, 0, 0, []), some (1, 1, 0, 0, 5, []), some (101, 3, 178, 0, 2, [142, 5242]), zN, zN]
def zk243_1 : List (Option zC) := [some (17, 3, 0, 205, 0, []), zN, zN, some (3, 2, 5, 0, 0, []), zN, some (100, 1, 1, 0, 0, [])]
def zk243 : List (Option zC) := zk243_0 ++ zk243_1
def zk244 : List (Option zC) := [some (5, 1, 0, 0, 0, []), some (5, 1, 0, 0, 0, []), some (18, 3, 6, 2, 7, [4298]), zN, zN, some (3, 1, 1, 0, 0, []), some (21, 1, 0, 0, 0, []), some (101, 3, 226, 0, 2, [259, 6221]), zN, zN, some (1, 1, 0, 0, 0, []), some (6, 1, 2, 0, 0, []), some (3, 1, 2, 0, 0, []), some (5, 1, 0, 0, 0, []), some (18, 3, 6, 21, 232, [4317]), zN, zN, some (16, 3, 3, 38, 0, []), zN, zN, some (5, 1, 0, 0, 0, []), some (18, 3, 6, 20, 51, [4316]), zN, zN, some (3, 1, 2, 0, 0, []), some (5, 1, 0, 0, 0, []), some (18, 3, 6, 19, 48, [4315]), zN, zN, some (3, 1, 2, 0, 0, []), some (21, 1, 0, 0, 0, []), some (22, 1, 0, 0, 0, []), some (9, 3, 2, 0, 1, []), zN, zN, some (17, 3, 0, 12, 0, []), zN, zN, some (5, 1, 0, 0, 0, []), some (5, 1, 0, 0, 0, []), some (18, 3, 6, 21, 232, [4317]), zN, zN, some (19, 3, 6, 24, 284, [4320]), zN, zN, some (100, 1, 0, 0, 0, [])]
def zk245_0 : List (Option zC) := [some (5, 1, 0, 0, 0, []), some (3, 1, 3, 0, 0, []), some (13, 1, 1, 0, 0, []), some (2, 1, 0, 0, 0, []), some (2, 3, 1, 169, 3, [5281]), zN, zN, some (101, 3, 173, 1, 3, [103, 5223]), zN, zN, some (3, 1, 1, 0, 0, []), some (3, 1, 2, 0, 0, []), some (101, 3, 246, 0, 4, [287, 6301]), zN, zN, some (15, 3, 1, 20, 0, []), zN, zN, some (1, 1, 0, 0, (-1), []), some (100, 1, 1, 0, 0, []), some (5, 1, 0, 0, 0, []), some (18, 3, 6, 21, 232, [4317]), zN, zN, some (5, 1, 0, 0, 0, []), some (18, 3, 6, 24, 284, [4320]), zN, zN, some (16, 3, 3, 38, 0, []), zN, zN, some (5, 1, 0, 0, 0, []), some (18, 3, 6, 21, 232, [4317]), zN, zN, some (17, 3, 0, 42, 0, []), zN, zN, some (5, 1, 0, 0, 0, []), some (18, 3, 6, 24, 284, [4320]), zN, zN, some (6, 2, 4, 0, 0, []), zN, some (1, 1, 0, 0, 0, []), some (6, 2, 5, 0, 0, []), zN, some (1, 1, 0, 0, 0, []), some (6, 2, 6, 0, 0, []), zN, some (1, 1, 0, 0, 0, []), some (6, 2, 7, 0, 0, []), zN, some (1, 1, 0, 0, 0, []), some (6, 2, 8, 0, 0, []), zN, some (1, 1, 0, 0, 0, []), some (6, 2, 9, 0, 0, []), zN, some (3, 2, 9, 0, 0, []), zN, some (3, 2, 4, 0, 0, []), zN, some (16, 3, 3, 190, 0, []), zN, zN, some (5, 1, 0, 0, 0, []), some (18, 3, 6, 19, 48, [4315]), zN, zN, some (3, 2, 9, 0, 0, []), zN, some (21, 1, 0, 0, 0, []), some (5, 1, 0, 0, 0, []), some (18, 3, 6, 20, 51, [4316]), zN, zN, some (3, 2, 9, 0, 0, []), zN, some (21, 1, 0, 0, 0, []), some (16, 3, 5, 87, 0, []), zN, zN, some (1, 1, 0, 0, 1, []), some (17, 3, 0, 109, 0, []), zN, zN, some (5, 1, 0, 0, 0, []), some (18, 3, 6, 19, 48, [4315]), zN, zN, some (3, 2, 9, 0, 0, []), zN, some (21, 1, 0, 0, 0, []), some (5, 1, 0, 0, 0, []), some (18, 3, 6, 20, 51, [4316]), zN, zN, some (3, 2, 9, 0, 0, []), zN, some (21, 1, 0, 0, 0, []), some (16, 3, 3, 108, 0, []), zN, zN, some (1, 1, 0, 0, 2, []), some (17, 3, 0, 109, 0, []), zN, zN, some (1, 1, 0, 0, 0, []), some (6, 2, 10, 0, 0, []), zN, some (3, 2, 5, 0, 0, []), zN, some (3, 2, 10, 0, 0, []), zN, some (1, 1, 0, 0, 1, []), some (16, 3, 1, 123, 0, []), zN, zN, some (1, 1, 0, 0, 1, []), some (17, 3, 0, 124, 0, []), zN, zN, some (1, 1, 0, 0, 0, []), some (10, 1, 0, 0, 0, []), some (6, 2, 5, 0, 0, []), zN, some (3, 2, 6, 0, 0, []), zN, some (3, 2, 10, 0, 0, []), zN, some (1, 1, 0, 0, 2, []), some (16, 3, 1, 139, 0, []), zN, zN, some (1, 1, 0, 0, 1, []), some (17, 3, 0, 140, 0, []), zN, zN, some (1, 1, 0, 0, 0, []), some (10, 1, 0, 0, 0, []), some (6, 2, 6, 0, 0, []), zN, some (3, 2, 7, 0, 0, []), zN, some (3, 2, 10, 0, 0, []), zN, some (15, 3, 5, 166, 0, []), zN, zN, some (3, 2, 8, 0, 0, []), zN, some (15, 3, 5, 166, 0, []), zN, zN, some (3, 2, 10, 0, 0, []), zN, some (3, 2, 8, 0, 0, []), zN, some (16, 3, 0, 166, 0, []), zN, zN, some (1, 1, 0, 0, 1, []), some (17, 3, 0, 167, 0, []), zN, zN, some (1, 1, 0, 0, 0, []), some (10, 1, 0, 0, 0, []), some (6, 2, 7, 0, 0, []), zN, some (3, 2, 10, 0, 0, []), zN, some (15, 3, 5, 180, 0, []), zN, zN, some (3, 2, 10, 0, 0, []), zN, some (17, 3, 0, 182, 0, []), zN, zN, some (3, 2, 8, 0, 0, []), zN, some (6, 2, 8, 0, 0, []), zN, some (9, 3, 9, 0, 1, []), zN, zN, some (17, 3, 0, 59, 0, []), zN, zN, some (3, 1, 3, 0, 0, []), some (15, 3, 1, 199, 0, []), zN, zN, some (3, 2, 5, 0, 0, []), zN, some (17, 3, 0, 223, 0, []), zN, zN, some (3, 1, 3, 0, 0, [])]
def zk245_1 : List (Option zC) := [some (1, 1, 0, 0, 1, []), some (16, 3, 1, 209, 0, []), zN, zN, some (3, 2, 6, 0, 0, []), zN, some (17, 3, 0, 223, 0, []), zN, zN, some (3, 1, 3, 0, 0, []), some (1, 1, 0, 0, 2, []), some (16, 3, 1, 219, 0, []), zN, zN, some (3, 2, 7, 0, 0, []), zN, some (17, 3, 0, 223, 0, []), zN, zN, some (3, 2, 4, 0, 0, []), zN, some (1, 1, 0, 0, 1, []), some (10, 1, 1, 0, 0, []), some (100, 1, 1, 0, 0, [])]
def zk245 : List (Option zC) := zk245_0 ++ zk245_1
def zk246 : List (Option zC) := [some (3, 1, 1, 0, 0, []), some (15, 3, 1, 8, 0, []), zN, zN, some (1, 1, 0, 0, 1, []), some (17, 3, 0, 38, 0, []), zN, zN, some (5, 1, 0, 0, 0, []), some (3, 1, 2, 0, 0, []), some (101, 3, 223, 0, 2, [252, 6209]), zN, zN, some (15, 3, 0, 24, 0, []), zN, zN, some (5, 1, 0, 0, 0, []), some (3, 1, 3, 0, 0, []), some (101, 3, 223, 0, 2, [252, 6209]), zN, zN, some (15, 3, 1, 28, 0, []), zN, zN, some (1, 1, 0, 0, 2, []), some (17, 3, 0, 38, 0, []), zN, zN, some (3, 1, 2, 0, 0, []), some (3, 1, 3, 0, 0, []), some (16, 3, 1, 37, 0, []), zN, zN, some (1, 1, 0, 0, 4, []), some (17, 3, 0, 38, 0, []), zN, zN, some (1, 1, 0, 0, 0, []), some (6, 2, 4, 0, 0, []), zN, some (5, 1, 0, 0, 0, []), some (3, 2, 4, 0, 0, []), zN, some (101, 3, 174, 0, 2, [136, 5226]), zN, zN, some (15, 3, 1, 51, 0, []), zN, zN, some (1, 1, 0, 0, 0, []), some (100, 1, 4, 0, 0, []), some (5, 1, 0, 0, 0, []), some (3, 1, 3, 0, 0, []), some (101, 3, 244, 0, 2, [281, 6293]), zN, zN, some (5, 1, 0, 0, 0, []), some (5, 1, 0, 0, 0, []), some (18, 3, 6, 2, 7, [4298]), zN, zN, some (3, 1, 2, 0, 0, []), some (21, 1, 0, 0, 0, []), some (101, 3, 226, 0, 2, [259, 6221]), zN, zN, some (1, 1, 0, 0, 1, []), some (100, 1, 4, 0, 0, [])]
def zk247 : List (Option zC) := [some (5, 1, 0, 0, 0, []), some (3, 1, 3, 0, 0, []), some (13, 1, 1, 0, 0, []), some (2, 1, 0, 0, 0, []), some (2, 3, 1, 167, 2, [5297]), zN, zN, some (101, 3, 173, 1, 3, [103, 5223]), zN, zN, some (3, 1, 1, 0, 0, []), some (3, 1, 2, 0, 0, []), some (101, 3, 246, 0, 4, [287, 6301]), zN, zN, some (15, 3, 1, 20, 0, []), zN, zN, some (1, 1, 0, 0, (-1), []), some (100, 1, 1, 0, 0, []), some (1, 1, 0, 0, 0, []), some (6, 2, 4, 0, 0, []), zN, some (3, 2, 4, 0, 0, []), zN, some (5, 1, 0, 0, 0, []), some (18, 3, 6, 21, 232, [4317]), zN, zN, some (16, 3, 3, 83, 0, []), zN, zN, some (5, 1, 0, 0, 0, []), some (5, 1, 0, 0, 0, []), some (18, 3, 6, 19, 48, [4315]), zN, zN, some (3, 2, 4, 0, 0, []), zN, some (21, 1, 0, 0, 0, []), some (101, 3, 248, 0, 2, [291, 6309]), zN, zN, some (6, 2, 5, 0, 0, []), zN, some (3, 2, 5, 0, 0, []), zN, some (15, 3, 2, 77, 0, []), zN, zN, some (3, 1, 3, 0, 0, []), some (15, 3, 1, 64, 0, []), zN, zN, some (5, 1, 0, 0, 0, []), some (18, 3, 6, 19, 48, [4315]), zN, zN, some (3, 2, 4, 0, 0, []), zN, some (21, 1, 0, 0, 0, []), some (17, 3, 0, 76, 0, []), zN, zN, some (3, 1, 3, 0, 0, []), some (1, 1, 0, 0, 1, []), some (16, 3, 1, 74, 0, []), zN, zN, some (3, 2, 4, 0, 0, []), zN, some (17, 3, 0, 76, 0, []), zN, zN, some (3, 2, 5, 0, 0, []), zN, some (100, 1, 1, 0, 0, []), some (9, 3, 4, 0, 1, []), zN, zN, some (17, 3, 0, 23, 0, []), zN, zN, some (5, 1, 0, 0, 0, []), some (1, 1, 0, 0, 5, []), some (101, 3, 178, 0, 2, [142, 5242]), zN, zN, some (100, 1, 1, 0, 0, [])]
def zk248 : List (Option zC) := [some (1, 1, 0, 0, 0, []), some (6, 1, 2, 0, 0, []), some (3, 1, 2, 0, 0, []), some (5, 1, 0, 0, 0, []), some (18, 3, 6, 24, 284, [4320]), zN, zN, some (16, 3, 3, 28, 0, []), zN, zN, some (5, 1, 0, 0, 0, []), some (18, 3, 6, 20, 51, [4316]), zN, zN, some (3, 1, 2, 0, 0, []), some (21, 1, 0, 0, 0, []), some (3, 1, 1, 0, 0, []), some (16, 3, 1, 22, 0, []), zN, zN, some (3, 1, 2, 0, 0, []), some (100, 1, 1, 0, 0, []), some (9, 3, 2, 0, 1, []), zN, zN, some (17, 3, 0, 2, 0, []), zN, zN, some (1, 1, 0, 0, (-1), []), some (100, 1, 1, 0, 0, [])]
def zk249 : List (Option zC) := [some (5, 1, 0, 0, 0, []), some (5, 1, 0, 0, 0, []), some (1, 1, 0, 0, 1, []), some (3, 1, 1, 0, 0, []), some (101, 3, 222, 0, 3, [255, 6205]), zN, zN, some (101, 3, 174, 0, 2, [136, 5226]), zN, zN, some (15, 3, 1, 15, 0, []), zN, zN, some (1, 1, 0, 0, (-1), []), some (100, 1, 1, 0, 0, []), some (5, 1, 0, 0, 0, []), some (3, 1, 1, 0, 0, []), some (101, 3, 250, 0, 2, [294, 6317]), zN, zN, some (7, 1, 2, 0, 0, []), some (1, 1, 0, 0, 0, []), some (6, 2, 4, 0, 0, []), zN, some (1, 1, 0, 0, 0, []), some (6, 2, 5, 0, 0, []), zN, some (3, 2, 5, 0, 0, []), zN, some (5, 1, 0, 0, 0, []), some (18, 3, 6, 2, 7, [4298]), zN, zN, some (1, 2, 1, 0, 6, []), zN, some (21, 1, 0, 0, 0, []), some (16, 3, 3, 69, 0, []), zN, zN, some (3, 2, 4, 0, 0, []), zN, some (5, 1, 0, 0, 0, []), some (3, 2, 5, 0, 0, []), zN, some (101, 3, 250, 0, 2, [294, 6317]), zN, zN, some (4, 1, 2, 0, 0, []), some (14, 1, 0, 0, 0, []), some (15, 3, 1, 59, 0, []), zN, zN, some (1, 1, 0, 0, 1, []), some (3, 2, 5, 0, 0, []), zN, some (10, 1, 8, 0, 0, []), some (17, 3, 0, 60, 0, []), zN, zN, some (1, 1, 0, 0, 0, []), some (10, 1, 4, 0, 0, []), some (6, 2, 4, 0, 0, []), zN, some (9, 3, 5, 0, 1, []), zN, zN, some (17, 3, 0, 27, 0, []), zN, zN, some (3, 2, 4, 0, 0, []), zN, some (100, 1, 1, 0, 0, [])]
def zk250 : List (Option zC) := [some (5, 1, 0, 0, 0, []), some (5, 1, 0, 0, 0, []), some (18, 3, 6, 2, 7, [4298]), zN, zN, some (3, 1, 1, 0, 0, []), some (21, 1, 0, 0, 0, []), some (101, 3, 226, 0, 2, [259, 6221]), zN, zN, some (5, 1, 0, 0, 0, []), some (18, 3, 6, 22, 242, [4318]), zN, zN, some (1, 1, 0, 0, 1, []), some (16, 3, 0, 26, 0, []), zN, zN, some (5, 1, 0, 0, 0, []), some (18, 3, 6, 22, 242, [4318]), zN, zN, some (13, 1, 1, 0, 0, []), some (17, 3, 0, 51, 0, []), zN, zN, some (2, 3, 1, 134, 4, [5222]), zN, zN, some (2, 3, 1, 196, 1000, [5330]), zN, zN, some (5, 1, 0, 0, 0, []), some (101, 3, 231, 0, 1, [266, 6241]), zN, zN, some (13, 1, 1, 0, 0, []), some (11, 1, 2, 0, 0, []), some (11, 1, 0, 0, 0, []), some (5, 1, 0, 0, 0, []), some (18, 3, 6, 21, 232, [4317]), zN, zN, some (13, 1, 1, 0, 0, []), some (11, 1, 0, 0, 0, []), some (5, 1, 0, 0, 0, []), some (18, 3, 6, 23, 245, [4319]), zN, zN, some (13, 1, 1, 0, 0, []), some (11, 1, 1, 0, 0, []), some (100, 1, 2, 0, 0, [])]
def zk251 : List (Option zC) := [some (5, 1, 0, 0, 0, []), some (3, 1, 1, 0, 0, []), some (3, 1, 2, 0, 0, []), some (1, 3, 2, 0, 500, []), zN, zN, some (101, 3, 201, 1, 3, [198, 5335]), zN, zN, some (15, 3, 0, 28, 0, []), zN, zN, some (3, 1, 3, 0, 0, []), some (13, 1, 1, 0, 0, []), some (2, 1, 0, 0, 0, []), some (2, 3, 1, 134, 4, [5222]), zN, zN, some (101, 3, 173, 1, 3, [103, 5223]), zN, zN, some (15, 3, 0, 28, 0, []), zN, zN, some (1, 1, 0, 0, 0, []), some (17, 3, 0, 29, 0, []), zN, zN, some (1, 1, 0, 0, 1, []), some (101, 3, 174, 0, 2, [136, 5226]), zN, zN, some (15, 3, 1, 37, 0, []), zN, zN, some (1, 1, 0, 0, (-1), []), some (100, 1, 1, 0, 0, []), some (1, 1, 0, 0, 0, []), some (6, 2, 4, 0, 0, []), zN, some (3, 1, 1, 0, 0, []), some (6, 2, 5, 0, 0, []), zN, some (3, 2, 5, 0, 0, []), zN, some (3, 1, 2, 0, 0, []), some (16, 3, 4, 137, 0, []), zN, zN, some (3, 1, 3, 0, 0, []), some (1, 1, 0, 0, 3, []), some (16, 3, 3, 79, 0, []), zN, zN, some (5, 1, 0, 0, 0, []), some (3, 2, 5, 0, 0, []), zN, some (5, 1, 0, 0, 0, []), some (18, 3, 6, 2, 7, [4298]), zN, zN, some (1, 2, 1, 0, 9, []), zN, some (21, 1, 0, 0, 0, []), some (101, 3, 186, 0, 3, [150, 5273]), zN, zN, some (3, 1, 3, 0, 0, []), some (16, 3, 1, 75, 0, []), zN, zN, some (1, 1, 0, 0, 1, []), some (17, 3, 0, 114, 0, []), zN, zN, some (1, 1, 0, 0, 0, []), some (17, 3, 0, 114, 0, []), zN, zN, some (3, 1, 3, 0, 0, []), some (1, 1, 0, 0, 3, []), some (16, 3, 1, 93, 0, []), zN, zN, some (5, 1, 0, 0, 0, []), some (3, 2, 5, 0, 0, []), zN, some (101, 3, 220, 0, 2, [229, 6197]), zN, zN, some (17, 3, 0, 114, 0, []), zN, zN, some (3, 2, 5, 0, 0, []), zN, some (1, 1, 0, 0, 2, []), some (10, 1, 7, 0, 0, []), some (15, 3, 1, 113, 0, []), zN, zN, some (5, 1, 0, 0, 0, []), some (3, 2, 5, 0, 0, []), zN, some (101, 3, 191, 0, 2, [175, 5293]), zN, zN, some (15, 3, 0, 113, 0, []), zN, zN, some (1, 1, 0, 0, 1, []), some (17, 3, 0, 114, 0, []), zN, zN, some (1, 1, 0, 0, 0, []), some (6, 2, 6, 0, 0, []), zN, some (3, 2, 4, 0, 0, []), zN, some (3, 2, 6, 0, 0, []), zN, some (15, 3, 0, 127, 0, []), zN, zN, some (1, 1, 0, 0, 1, []), some (17, 3, 0, 128, 0, []), zN, zN, some (1, 1, 0, 0, 0, []), some (10, 1, 0, 0, 0, []), some (6, 2, 4, 0, 0, []), zN, some (9, 3, 5, 0, 1, []), zN, zN, some (17, 3, 0, 43, 0, []), zN, zN, some (3, 2, 4, 0, 0, []), zN, some (100, 1, 1, 0, 0, [])]
def zk252 : List (Option zC) := [some (5, 1, 0, 0, 0, []), some (3, 1, 1, 0, 0, []), some (3, 1, 2, 0, 0, []), some (1, 3, 2, 0, 500, []), zN, zN, some (101, 3, 201, 1, 3, [198, 5335]), zN, zN, some (15, 3, 0, 32, 0, []), zN, zN, some (3, 1, 3, 0, 0, []), some (1, 1, 0, 0, (-1), []), some (16, 3, 2, 32, 0, []), zN, zN, some (3, 2, 4, 0, 0, []), zN, some (13, 1, 1, 0, 0, []), some (2, 1, 0, 0, 0, []), some (2, 1, 0, 0, 1, []), some (101, 3, 173, 1, 3, [103, 5223]), zN, zN, some (15, 3, 0, 32, 0, []), zN, zN, some (1, 1, 0, 0, 0, []), some (17, 3, 0, 33, 0, []), zN, zN, some (1, 1, 0, 0, 1, []), some (101, 3, 174, 0, 2, [136, 5226]), zN, zN, some (15, 3, 1, 41, 0, []), zN, zN, some (1, 1, 0, 0, (-1), []), some (100, 1, 1, 0, 0, []), some (1, 1, 0, 0, 0, []), some (6, 2, 5, 0, 0, []), zN, some (3, 1, 1, 0, 0, []), some (6, 2, 6, 0, 0, []), zN, some (3, 2, 6, 0, 0, []), zN, some (3, 1, 2, 0, 0, []), some (16, 3, 4, 125, 0, []), zN, zN, some (5, 1, 0, 0, 0, []), some (3, 2, 6, 0, 0, []), zN, some (101, 3, 180, 0, 2, [146, 5250]), zN, zN, some (7, 2, 7, 0, 0, []), zN, some (4, 2, 7, 0, 0, []), zN, some (3, 2, 6, 0, 0, []), zN, some (13, 1, 1, 0, 0, []), some (14, 1, 0, 0, 0, []), some (15, 3, 5, 119, 0, []), zN, zN, some (4, 2, 7, 0, 0, []), zN, some (2, 3, 1, 107, 999999999, [5237]), zN, zN, some (14, 1, 0, 0, 0, []), some (15, 3, 4, 119, 0, []), zN, zN, some (5, 1, 0, 0, 0, []), some (4, 2, 7, 0, 0, []), zN, some (13, 1, 2, 0, 0, []), some (101, 3, 180, 0, 2, [146, 5250]), zN, zN, some (3, 2, 6, 0, 0, []), zN, some (13, 1, 1, 0, 0, []), some (14, 1, 0, 0, 0, []), some (15, 3, 0, 96, 0, []), zN, zN, some (17, 3, 0, 119, 0, []), zN, zN, some (3, 2, 5, 0, 0, []), zN, some (3, 1, 3, 0, 0, []), some (16, 3, 1, 116, 0, []), zN, zN, some (3, 2, 4, 0, 0, []), zN, some (15, 3, 1, 112, 0, []), zN, zN, some (3, 2, 6, 0, 0, []), zN, some (17, 3, 0, 115, 0, []), zN, zN, some (4, 2, 7, 0, 0, []), zN, some (13, 1, 2, 0, 0, []), some (100, 1, 1, 0, 0, []), some (9, 3, 5, 0, 1, []), zN, zN, some (9, 3, 6, 0, 1, []), zN, zN, some (17, 3, 0, 47, 0, []), zN, zN, some (3, 1, 3, 0, 0, []), some (1, 1, 0, 0, (-1), []), some (16, 3, 1, 135, 0, []), zN, zN, some (3, 2, 5, 0, 0, []), zN, some (17, 3, 0, 140, 0, []), zN, zN, some (5, 1, 0, 0, 0, []), some (1, 1, 0, 0, 5, []), some (101, 3, 178, 0, 2, [142, 5242]), zN, zN, some (100, 1, 1, 0, 0, [])]
def zk253 : List (Option zC) := [some (5, 1, 0, 0, 0, []), some (3, 1, 1, 0, 0, []), some (3, 1, 2, 0, 0, []), some (1, 2, 1, 0, 50, []), zN, some (101, 3, 201, 1, 3, [198, 5335]), zN, zN, some (15, 3, 0, 33, 0, []), zN, zN, some (3, 1, 3, 0, 0, []), some (13, 1, 1, 0, 0, []), some (2, 1, 0, 0, 1, []), some (2, 3, 1, 297, 30, [6333]), zN, zN, some (101, 3, 173, 1, 3, [103, 5223]), zN, zN, some (15, 3, 0, 33, 0, []), zN, zN, some (3, 2, 4, 0, 0, []), zN, some (1, 1, 0, 0, (-1), []), some (16, 3, 2, 33, 0, []), zN, zN, some (1, 1, 0, 0, 0, []), some (17, 3, 0, 34, 0, []), zN, zN, some (1, 1, 0, 0, 1, []), some (101, 3, 174, 0, 2, [136, 5226]), zN, zN, some (15, 3, 1, 42, 0, []), zN, zN, some (1, 1, 0, 0, (-1), []), some (100, 1, 1, 0, 0, []), some (1, 1, 0, 0, 0, []), some (6, 2, 5, 0, 0, []), zN, some (3, 1, 1, 0, 0, []), some (6, 2, 6, 0, 0, []), zN, some (3, 2, 6, 0, 0, []), zN, some (3, 1, 2, 0, 0, []), some (16, 3, 4, 86, 0, []), zN, zN, some (5, 1, 0, 0, 0, []), some (3, 2, 6, 0, 0, []), zN, some (3, 1, 3, 0, 0, []), some (101, 3, 254, 0, 3, [299, 6334]), zN, zN, some (15, 3, 1, 67, 0, []), zN, zN, some (17, 3, 0, 80, 0, []), zN, zN, some (3, 2, 5, 0, 0, []), zN, some (3, 2, 4, 0, 0, []), zN, some (16, 3, 1, 77, 0, []), zN, zN, some (3, 2, 6, 0, 0, []), zN, some (100, 1, 1, 0, 0, []), some (9, 3, 5, 0, 1, []), zN, zN, some (9, 3, 6, 0, 1, []), zN, zN, some (17, 3, 0, 48, 0, []), zN, zN, some (3, 2, 4, 0, 0, []), zN, some (1, 1, 0, 0, (-1), []), some (16, 3, 1, 97, 0, []), zN, zN, some (3, 2, 5, 0, 0, []), zN, some (17, 3, 0, 102, 0, []), zN, zN, some (5, 1, 0, 0, 0, []), some (1, 1, 0, 0, 5, []), some (101, 3, 178, 0, 2, [142, 5242]), zN, zN, some (100, 1, 1, 0, 0, [])]
def zk254 : List (Option zC) := [some (3, 1, 1, 0, 0, []), some (13, 1, 1, 0, 0, []), some (7, 1, 3, 0, 0, []), some (1, 1, 0, 0, 1, []), some (6, 2, 5, 0, 0, []), zN, some (3, 2, 5, 0, 0, []), zN, some (3, 1, 2, 0, 0, []), some (16, 3, 4, 54, 0, []), zN, zN, some (5, 1, 0, 0, 0, []), some (4, 1, 3, 0, 0, []), some (13, 1, 2, 0, 0, []), some (101, 3, 180, 0, 2, [146, 5250]), zN, zN, some (7, 1, 3, 0, 0, []), some (3, 2, 5, 0, 0, []), zN, some (3, 1, 2, 0, 0, []), some (16, 3, 3, 32, 0, []), zN, zN, some (4, 1, 3, 0, 0, []), some (3, 1, 1, 0, 0, []), some (13, 1, 1, 0, 0, []), some (14, 1, 0, 0, 0, []), some (15, 3, 5, 46, 0, []), zN, zN, some (4, 1, 3, 0, 0, []), some (2, 1, 0, 0, 1, []), some (14, 1, 0, 0, 0, []), some (15, 3, 2, 46, 0, []), zN, zN, some (4, 1, 3, 0, 0, []), some (2, 3, 1, 107, 999999999, [5237]), zN, zN, some (14, 1, 0, 0, 0, []), some (15, 3, 5, 48, 0, []), zN, zN, some (1, 1, 0, 0, 0, []), some (100, 1, 4, 0, 0, []), some (9, 3, 5, 0, 1, []), zN, zN, some (17, 3, 0, 6, 0, []), zN, zN, some (4, 1, 3, 0, 0, []), some (3, 1, 1, 0, 0, []), some (13, 1, 1, 0, 0, []), some (14, 1, 0, 0, 0, []), some (15, 3, 1, 65, 0, []), zN, zN, some (1, 1, 0, 0, 1, []), some (17, 3, 0, 66, 0, []), zN, zN, some (1, 1, 0, 0, 0, []), some (100, 1, 4, 0, 0, [])]
def zk255 : List (Option zC) := [some (5, 1, 0, 0, 0, []), some (3, 1, 1, 0, 0, []), some (3, 1, 2, 0, 0, []), some (1, 2, 1, 0, 50, []), zN, some (101, 3, 201, 1, 3, [198, 5335]), zN, zN, some (15, 3, 0, 27, 0, []), zN, zN, some (3, 1, 3, 0, 0, []), some (13, 1, 1, 0, 0, []), some (2, 1, 0, 0, 0, []), some (2, 3, 1, 303, 6, [6342]), zN, zN, some (101, 3, 173, 1, 3, [103, 5223]), zN, zN, some (15, 3, 0, 27, 0, []), zN, zN, some (1, 1, 0, 0, 0, []), some (17, 3, 0, 28, 0, []), zN, zN, some (1, 1, 0, 0, 1, []), some (101, 3, 174, 0, 2, [136, 5226]), zN, zN, some (15, 3, 1, 36, 0, []), zN, zN, some (1, 1, 0, 0, (-1), []), some (100, 1, 1, 0, 0, []), some (1, 1, 0, 0, 0, []), some (6, 2, 4, 0, 0, []), zN, some (1, 1, 0, 0, 0, []), some (6, 2, 5, 0, 0, []), zN, some (1, 1, 0, 0, 0, []), some (6, 2, 6, 0, 0, []), zN, some (1, 1, 0, 0, 0, []), some (6, 2, 7, 0, 0, []), zN, some (3, 1, 1, 0, 0, []), some (6, 2, 8, 0, 0, []), zN, some (3, 2, 8, 0, 0, []), zN, some (3, 1, 2, 0, 0, []), some (16, 3, 4, 136, 0, []), zN, zN, some (5, 1, 0, 0, 0, []), some (3, 2, 8, 0, 0, []), zN, some (101, 3, 226, 0, 2, [259, 6221]), zN, zN, some (3, 2, 4, 0, 0, []), zN, some (5, 1, 0, 0, 0, []), some (18, 3, 6, 22, 242, [4318]), zN, zN, some (3, 1, 3, 0, 0, []), some (16, 3, 1, 77, 0, []), zN, zN, some (1, 1, 0, 0, 1, []), some (17, 3, 0, 78, 0, []), zN, zN, some (1, 1, 0, 0, 0, []), some (10, 1, 0, 0, 0, []), some (6, 2, 4, 0, 0, []), zN, some (5, 1, 0, 0, 0, []), some (18, 3, 6, 19, 48, [4315]), zN, zN, some (5, 1, 0, 0, 0, []), some (101, 3, 233, 0, 1, [269, 6249]), zN, zN, some (21, 1, 0, 0, 0, []), some (6, 2, 9, 0, 0, []), zN, some (3, 2, 9, 0, 0, []), zN, some (3, 2, 7, 0, 0, []), zN, some (16, 3, 5, 104, 0, []), zN, zN, some (3, 2, 9, 0, 0, []), zN, some (17, 3, 0, 106, 0, []), zN, zN, some (3, 2, 7, 0, 0, []), zN, some (6, 2, 7, 0, 0, []), zN, some (5, 1, 0, 0, 0, []), some (18, 3, 6, 21, 232, [4317]), zN, zN, some (3, 2, 6, 0, 0, []), zN, some (16, 3, 4, 120, 0, []), zN, zN, some (17, 3, 0, 130, 0, []), zN, zN, some (5, 1, 0, 0, 0, []), some (18, 3, 6, 21, 232, [4317]), zN, zN, some (6, 2, 6, 0, 0, []), zN, some (3, 2, 8, 0, 0, []), zN, some (6, 2, 5, 0, 0, []), zN, some (9, 3, 8, 0, 1, []), zN, zN, some (17, 3, 0, 51, 0, []), zN, zN, some (3, 1, 3, 0, 0, []), some (1, 1, 0, 0, 4, []), some (16, 3, 3, 146, 0, []), zN, zN, some (3, 2, 4, 0, 0, []), zN, some (17, 3, 0, 168, 0, []), zN, zN, some (3, 1, 3, 0, 0, []), some (1, 1, 0, 0, 4, []), some (16, 3, 1, 156, 0, []), zN, zN, some (3, 2, 5, 0, 0, []), zN, some (17, 3, 0, 168, 0, []), zN, zN, some (3, 1, 3, 0, 0, []), some (1, 1, 0, 0, 5, []), some (16, 3, 1, 166, 0, []), zN, zN, some (3, 2, 6, 0, 0, []), zN, some (17, 3, 0, 168, 0, []), zN, zN, some (3, 2, 7, 0, 0, []), zN, some (100, 1, 1, 0, 0, [])]
def zk256 : List (Option zC) := [some (5, 1, 0, 0, 0, []), some (3, 1, 1, 0, 0, []), some (3, 1, 2, 0, 0, []), some (1, 2, 1, 0, 50, []), zN, some (101, 3, 201, 1, 3, [198, 5335]), zN, zN, some (15, 3, 0, 20, 0, []), zN, zN, some (3, 1, 3, 0, 0, []), some (1, 1, 0, 0, 1, []), some (16, 3, 2, 20, 0, []), zN, zN, some (1, 1, 0, 0, 0, []), some (17, 3, 0, 21, 0, []), zN, zN, some (1, 1, 0, 0, 1, []), some (101, 3, 174, 0, 2, [136, 5226]), zN, zN, some (15, 3, 1, 29, 0, []), zN, zN, some (1, 1, 0, 0, (-1), []), some (100, 1, 1, 0, 0, []), some (1, 1, 0, 0, 0, []), some (6, 2, 4, 0, 0, []), zN, some (3, 1, 1, 0, 0, []), some (6, 2, 5, 0, 0, []), zN, some (3, 2, 5, 0, 0, []), zN, some (3, 1, 2, 0, 0, []), some (16, 3, 4, 71, 0, []), zN, zN, some (5, 1, 0, 0, 0, []), some (3, 2, 5, 0, 0, []), zN, some (101, 3, 226, 0, 2, [259, 6221]), zN, zN, some (3, 2, 4, 0, 0, []), zN, some (5, 1, 0, 0, 0, []), some (18, 3, 6, 21, 232, [4317]), zN, zN, some (3, 1, 3, 0, 0, []), some (16, 3, 1, 61, 0, []), zN, zN, some (1, 1, 0, 0, 1, []), some (17, 3, 0, 62, 0, []), zN, zN, some (1, 1, 0, 0, 0, []), some (10, 1, 0, 0, 0, []), some (6, 2, 4, 0, 0, []), zN, some (9, 3, 5, 0, 1, []), zN, zN, some (17, 3, 0, 35, 0, []), zN, zN, some (3, 2, 4, 0, 0, []), zN, some (100, 1, 1, 0, 0, [])]
def zk257_0 : List (Option zC) := [some (5, 1, 0, 0, 0, []), some (3, 1, 1, 0, 0, []), some (3, 1, 2, 0, 0, []), some (1, 3, 2, 0, 200, []), zN, zN, some (101, 3, 201, 1, 3, [198, 5335]), zN, zN, some (15, 3, 0, 28, 0, []), zN, zN, some (3, 1, 3, 0, 0, []), some (13, 1, 1, 0, 0, []), some (2, 1, 0, 0, 0, []), some (2, 3, 1, 167, 2, [5297]), zN, zN, some (101, 3, 173, 1, 3, [103, 5223]), zN, zN, some (15, 3, 0, 28, 0, []), zN, zN, some (1, 1, 0, 0, 0, []), some (17, 3, 0, 29, 0, []), zN, zN, some (1, 1, 0, 0, 1, []), some (101, 3, 174, 0, 2, [136, 5226]), zN, zN, some (15, 3, 1, 37, 0, []), zN, zN, some (1, 1, 0, 0, (-1), []), some (100, 1, 1, 0, 0, []), some (3, 1, 2, 0, 0, []), some (3, 1, 1, 0, 0, []), some (10, 1, 1, 0, 0, []), some (1, 1, 0, 0, 1, []), some (10, 1, 0, 0, 0, []), some (6, 2, 4, 0, 0, []), zN, some (1, 1, 0, 0, 0, []), some (6, 2, 5, 0, 0, []), zN, some (3, 2, 5, 0, 0, []), zN, some (3, 2, 4, 0, 0, []), zN, some (16, 3, 3, 75, 0, []), zN, zN, some (5, 1, 0, 0, 0, []), some (18, 3, 6, 27, 57, [4323]), zN, zN, some (3, 2, 5, 0, 0, []), zN, some (5, 1, 0, 0, 0, []), some (3, 1, 1, 0, 0, []), some (3, 2, 5, 0, 0, []), zN, some (10, 1, 0, 0, 0, []), some (101, 3, 258, 0, 2, [307, 6351]), zN, zN, some (22, 1, 1, 0, 0, []), some (9, 3, 5, 0, 1, []), zN, zN, some (17, 3, 0, 47, 0, []), zN, zN, some (1, 1, 0, 0, 0, []), some (6, 2, 5, 0, 0, []), zN, some (1, 1, 0, 0, 0, []), some (6, 2, 6, 0, 0, []), zN, some (1, 1, 0, 0, 0, []), some (6, 2, 7, 0, 0, []), zN, some (1, 1, 0, 0, 0, []), some (6, 2, 8, 0, 0, []), zN, some (3, 2, 8, 0, 0, []), zN, some (3, 2, 4, 0, 0, []), zN, some (16, 3, 3, 198, 0, []), zN, zN, some (1, 1, 0, 0, 0, []), some (6, 2, 9, 0, 0, []), zN, some (1, 1, 0, 0, 0, []), some (6, 2, 10, 0, 0, []), zN, some (1, 1, 0, 0, 0, []), some (6, 2, 11, 0, 0, []), zN, some (3, 2, 11, 0, 0, []), zN, some (3, 2, 4, 0, 0, []), zN, some (16, 3, 3, 157, 0, []), zN, zN, some (5, 1, 0, 0, 0, []), some (18, 3, 6, 27, 57, [4323]), zN, zN, some (3, 2, 11, 0, 0, []), zN, some (21, 1, 1, 0, 0, []), some (5, 1, 0, 0, 0, []), some (18, 3, 6, 27, 57, [4323]), zN, zN, some (3, 2, 8, 0, 0, []), zN, some (21, 1, 1, 0, 0, []), some (14, 1, 0, 0, 0, []), some (15, 3, 0, 131, 0, []), zN, zN, some (17, 3, 0, 151, 0, []), zN, zN, some (9, 3, 10, 0, 1, []), zN, zN, some (3, 2, 9, 0, 0, []), zN, some (3, 2, 11, 0, 0, []), zN, some (3, 2, 8, 0, 0, []), zN, some (16, 3, 3, 147, 0, []), zN, zN, some (1, 1, 0, 0, 1, []), some (17, 3, 0, 148, 0, []), zN, zN, some (1, 1, 0, 0, 0, []), some (10, 1, 0, 0, 0, []), some (6, 2, 9, 0, 0, []), zN, some (9, 3, 11, 0, 1, []), zN, zN, some (17, 3, 0, 103, 0, []), zN, zN, some (3, 2, 5, 0, 0, []), zN, some (3, 2, 9, 0, 0, []), zN, some (15, 3, 1, 168, 0, []), zN, zN, some (1, 1, 0, 0, 1, []), some (17, 3, 0, 169, 0, []), zN, zN, some (1, 1, 0, 0, 0, []), some (10, 1, 0, 0, 0, []), some (6, 2, 5, 0, 0, []), zN, some (3, 2, 10, 0, 0, []), zN, some (3, 2, 6, 0, 0, []), zN, some (16, 3, 4, 182, 0, []), zN, zN, some (17, 3, 0, 192, 0, []), zN, zN, some (3, 2, 10, 0, 0, []), zN, some (6, 2, 6, 0, 0, []), zN, some (3, 1, 1, 0, 0, []), some (3, 2, 8, 0, 0, []), zN, some (10, 1, 0, 0, 0, []), some (6, 2, 7, 0, 0, []), zN, some (9, 3, 8, 0, 1, []), zN, zN, some (17, 3, 0, 87, 0, []), zN, zN, some (3, 1, 3, 0, 0, []), some (15, 3, 1, 207, 0, [])]
def zk257_1 : List (Option zC) := [zN, zN, some (3, 2, 5, 0, 0, []), zN, some (17, 3, 0, 219, 0, []), zN, zN, some (3, 1, 3, 0, 0, []), some (1, 1, 0, 0, 1, []), some (16, 3, 1, 217, 0, []), zN, zN, some (3, 2, 6, 0, 0, []), zN, some (17, 3, 0, 219, 0, []), zN, zN, some (3, 2, 7, 0, 0, []), zN, some (100, 1, 1, 0, 0, [])]
def zk257 : List (Option zC) := zk257_0 ++ zk257_1
def zk258 : List (Option zC) := [some (5, 1, 0, 0, 0, []), some (3, 1, 1, 0, 0, []), some (101, 3, 177, 0, 2, [116, 5238]), zN, zN, some (2, 1, 0, 0, 0, []), some (7, 1, 2, 0, 0, []), some (1, 2, 1, 0, 29, []), zN, some (6, 2, 4, 0, 0, []), zN, some (3, 2, 4, 0, 0, []), zN, some (15, 3, 5, 66, 0, []), zN, zN, some (1, 1, 0, 0, 0, []), some (6, 2, 5, 0, 0, []), zN, some (3, 2, 5, 0, 0, []), zN, some (5, 1, 0, 0, 0, []), some (18, 3, 6, 8, 113, [4304]), zN, zN, some (16, 3, 3, 60, 0, []), zN, zN, some (5, 1, 0, 0, 0, []), some (18, 3, 6, 7, 22, [4303]), zN, zN, some (3, 2, 5, 0, 0, []), zN, some (21, 1, 0, 0, 0, []), some (3, 2, 4, 0, 0, []), zN, some (16, 3, 1, 52, 0, []), zN, zN, some (2, 3, 1, 305, 32, [6355]), zN, zN, some (4, 1, 2, 0, 0, []), some (11, 1, 2, 0, 0, []), some (3, 2, 4, 0, 0, []), zN, some (13, 1, 1, 0, 0, []), some (11, 1, 0, 0, 0, []), some (17, 3, 0, 53, 0, []), zN, zN, some (4, 1, 2, 0, 0, []), some (7, 1, 2, 0, 0, []), some (9, 3, 5, 0, 1, []), zN, zN, some (17, 3, 0, 19, 0, []), zN, zN, some (9, 3, 4, 0, (-1), []), zN, zN, some (17, 3, 0, 11, 0, []), zN, zN, some (4, 1, 2, 0, 0, []), some (100, 1, 2, 0, 0, [])]
def zk259 : List (Option zC) := [some (5, 1, 0, 0, 0, []), some (3, 1, 1, 0, 0, []), some (101, 3, 176, 1, 1, [109, 5234]), zN, zN, some (15, 3, 0, 19, 0, []), zN, zN, some (3, 1, 2, 0, 0, []), some (101, 3, 176, 1, 1, [109, 5234]), zN, zN, some (15, 3, 0, 19, 0, []), zN, zN, some (1, 1, 0, 0, 0, []), some (17, 3, 0, 20, 0, []), zN, zN, some (1, 1, 0, 0, 1, []), some (101, 3, 174, 0, 2, [136, 5226]), zN, zN, some (15, 3, 0, 48, 0, []), zN, zN, some (5, 1, 0, 0, 0, []), some (3, 1, 1, 0, 0, []), some (101, 3, 258, 0, 2, [307, 6351]), zN, zN, some (5, 1, 0, 0, 0, []), some (3, 1, 2, 0, 0, []), some (101, 3, 258, 0, 2, [307, 6351]), zN, zN, some (14, 1, 0, 0, 0, []), some (15, 3, 1, 44, 0, []), zN, zN, some (1, 1, 0, 0, 1, []), some (17, 3, 0, 49, 0, []), zN, zN, some (1, 1, 0, 0, 0, []), some (17, 3, 0, 49, 0, []), zN, zN, some (1, 1, 0, 0, (-1), []), some (100, 1, 1, 0, 0, [])]
def zk260_0 : List (Option zC) := [some (5, 1, 0, 0, 0, []), some (3, 1, 1, 0, 0, []), some (13, 1, 1, 0, 0, []), some (2, 3, 1, 167, 2, [5297]), zN, zN, some (2, 3, 1, 310, 9, [6364]), zN, zN, some (101, 3, 173, 1, 3, [103, 5223]), zN, zN, some (15, 3, 0, 44, 0, []), zN, zN, some (3, 1, 2, 0, 0, []), some (13, 1, 1, 0, 0, []), some (2, 1, 0, 0, 1, []), some (3, 1, 1, 0, 0, []), some (1, 1, 0, 0, 1, []), some (10, 1, 1, 0, 0, []), some (13, 1, 1, 0, 0, []), some (101, 3, 173, 1, 3, [103, 5223]), zN, zN, some (15, 3, 0, 44, 0, []), zN, zN, some (3, 1, 3, 0, 0, []), some (13, 1, 1, 0, 0, []), some (2, 1, 0, 0, 0, []), some (2, 3, 1, 312, 5, [6365]), zN, zN, some (101, 3, 173, 1, 3, [103, 5223]), zN, zN, some (15, 3, 0, 44, 0, []), zN, zN, some (1, 1, 0, 0, 0, []), some (17, 3, 0, 45, 0, []), zN, zN, some (1, 1, 0, 0, 1, []), some (101, 3, 174, 0, 2, [136, 5226]), zN, zN, some (15, 3, 1, 55, 0, []), zN, zN, some (2, 3, 1, 148, (-1), [5268]), zN, zN, some (100, 1, 2, 0, 0, []), some (1, 1, 0, 0, 1, []), some (3, 1, 1, 0, 0, []), some (3, 1, 2, 0, 0, []), some (10, 1, 1, 0, 0, []), some (10, 1, 8, 0, 0, []), some (1, 1, 0, 0, 1, []), some (10, 1, 0, 0, 0, []), some (6, 2, 4, 0, 0, []), zN, some (1, 1, 0, 0, 1, []), some (3, 1, 2, 0, 0, []), some (10, 1, 8, 0, 0, []), some (3, 2, 4, 0, 0, []), zN, some (10, 1, 2, 0, 0, []), some (1, 1, 0, 0, 1, []), some (10, 1, 1, 0, 0, []), some (6, 2, 5, 0, 0, []), zN, some (1, 1, 0, 0, 1, []), some (3, 1, 1, 0, 0, []), some (10, 1, 8, 0, 0, []), some (3, 2, 4, 0, 0, []), zN, some (10, 1, 2, 0, 0, []), some (1, 1, 0, 0, 1, []), some (10, 1, 1, 0, 0, []), some (6, 2, 6, 0, 0, []), zN, some (1, 1, 0, 0, 1, []), some (3, 1, 1, 0, 0, []), some (3, 1, 2, 0, 0, []), some (10, 1, 0, 0, 0, []), some (10, 1, 8, 0, 0, []), some (3, 2, 4, 0, 0, []), zN, some (10, 1, 2, 0, 0, []), some (3, 2, 4, 0, 0, []), zN, some (10, 1, 2, 0, 0, []), some (1, 1, 0, 0, 1, []), some (10, 1, 1, 0, 0, []), some (6, 2, 7, 0, 0, []), zN, some (5, 1, 0, 0, 0, []), some (3, 2, 5, 0, 0, []), zN, some (101, 3, 220, 0, 2, [229, 6197]), zN, zN, some (15, 3, 0, 130, 0, []), zN, zN, some (5, 1, 0, 0, 0, []), some (3, 2, 6, 0, 0, []), zN, some (101, 3, 220, 0, 2, [229, 6197]), zN, zN, some (15, 3, 0, 130, 0, []), zN, zN, some (5, 1, 0, 0, 0, []), some (3, 2, 7, 0, 0, []), zN, some (101, 3, 220, 0, 2, [229, 6197]), zN, zN, some (15, 3, 0, 130, 0, []), zN, zN, some (1, 1, 0, 0, 1, []), some (17, 3, 0, 131, 0, []), zN, zN, some (1, 1, 0, 0, 0, []), some (6, 2, 8, 0, 0, []), zN, some (3, 1, 3, 0, 0, []), some (30, 34, 0, 217, 0, [168, 179, 183, 187, 191]), zN, zN, zN, zN, zN, zN, zN, zN, zN, zN, zN, zN, zN, zN, zN, zN, zN, zN, zN, zN, zN, zN, zN, zN, zN, zN, zN, zN, zN, zN, zN, zN, zN, some (3, 2, 8, 0, 0, []), zN, some (15, 3, 0, 177, 0, []), zN, zN, some (2, 1, 0, 0, 1, []), some (17, 3, 0, 178, 0, []), zN, zN, some (2, 1, 0, 0, 0, []), some (100, 1, 2, 0, 0, []), some (3, 2, 5, 0, 0, []), zN, some (13, 1, 1, 0, 0, []), some (100, 1, 2, 0, 0, []), some (3, 2, 6, 0, 0, []), zN, some (13, 1, 1, 0, 0, []), some (100, 1, 2, 0, 0, []), some (3, 2, 7, 0, 0, []), zN, some (13, 1, 1, 0, 0, []), some (100, 1, 2, 0, 0, []), some (3, 2, 8, 0, 0, []), zN, some (15, 3, 0, 210, 0, []), zN, zN, some (2, 1, 0, 0, 1, []), some (3, 1, 1, 0, 0, []), some (12, 1, 0, 0, 0, []), some (3, 2, 5, 0, 0, [])]
def zk260_1 : List (Option zC) := [zN, some (13, 1, 1, 0, 0, []), some (11, 1, 2, 0, 0, []), some (3, 2, 6, 0, 0, []), zN, some (13, 1, 1, 0, 0, []), some (11, 1, 2, 0, 0, []), some (17, 3, 0, 216, 0, []), zN, zN, some (5, 1, 0, 0, 0, []), some (1, 1, 0, 0, 5, []), some (101, 3, 178, 0, 2, [142, 5242]), zN, zN, some (13, 1, 1, 0, 0, []), some (100, 1, 2, 0, 0, []), some (3, 2, 8, 0, 0, []), zN, some (15, 3, 0, 232, 0, []), zN, zN, some (2, 1, 0, 0, 1, []), some (3, 1, 1, 0, 0, []), some (12, 1, 0, 0, 0, []), some (3, 2, 7, 0, 0, []), zN, some (13, 1, 1, 0, 0, []), some (11, 1, 2, 0, 0, []), some (17, 3, 0, 238, 0, []), zN, zN, some (5, 1, 0, 0, 0, []), some (1, 1, 0, 0, 5, []), some (101, 3, 178, 0, 2, [142, 5242]), zN, zN, some (13, 1, 1, 0, 0, []), some (100, 1, 2, 0, 0, [])]
def zk260 : List (Option zC) := zk260_0 ++ zk260_1
def zk261 : List (Option zC) := [some (5, 1, 0, 0, 0, []), some (3, 1, 1, 0, 0, []), some (101, 3, 176, 1, 1, [109, 5234]), zN, zN, some (15, 3, 1, 12, 0, []), zN, zN, some (1, 1, 0, 0, 1, []), some (17, 3, 0, 29, 0, []), zN, zN, some (5, 1, 0, 0, 0, []), some (18, 3, 6, 2, 7, [4298]), zN, zN, some (1, 2, 1, 0, 6, []), zN, some (21, 1, 0, 0, 0, []), some (1, 2, 1, 0, 6, []), zN, some (16, 3, 1, 28, 0, []), zN, zN, some (1, 1, 0, 0, 3, []), some (17, 3, 0, 29, 0, []), zN, zN, some (1, 1, 0, 0, 0, []), some (101, 3, 174, 0, 2, [136, 5226]), zN, zN, some (15, 3, 1, 37, 0, []), zN, zN, some (1, 1, 0, 0, (-1), []), some (100, 1, 1, 0, 0, []), some (5, 1, 0, 0, 0, []), some (101, 3, 262, 0, 1, [314, 6370]), zN, zN, some (5, 1, 0, 0, 0, []), some (18, 3, 6, 2, 7, [4298]), zN, zN, some (5, 1, 0, 0, 0, []), some (18, 3, 6, 2, 7, [4298]), zN, zN, some (1, 2, 1, 0, 6, []), zN, some (21, 1, 0, 0, 0, []), some (3, 1, 1, 0, 0, []), some (22, 1, 0, 0, 0, []), some (5, 1, 0, 0, 0, []), some (18, 3, 6, 2, 7, [4298]), zN, zN, some (1, 2, 1, 0, 6, []), zN, some (24, 1, 0, 0, 0, []), some (21, 1, 0, 0, 0, []), some (1, 1, 0, 0, 1, []), some (10, 1, 0, 0, 0, []), some (22, 1, 0, 0, 0, []), some (5, 1, 0, 0, 0, []), some (18, 3, 6, 2, 7, [4298]), zN, zN, some (1, 2, 1, 0, 6, []), zN, some (21, 1, 0, 0, 0, []), some (1, 1, 0, 0, 1, []), some (10, 1, 1, 0, 0, []), some (100, 1, 1, 0, 0, [])]
def zk262 : List (Option zC) := [some (5, 1, 0, 0, 0, []), some (18, 3, 6, 5, 139, [4301]), zN, zN, some (1, 2, 1, 0, 8, []), zN, some (16, 3, 1, 48, 0, []), zN, zN, some (1, 1, 0, 0, 0, []), some (6, 1, 1, 0, 0, []), some (3, 1, 1, 0, 0, []), some (1, 2, 1, 0, 70, []), zN, some (16, 3, 3, 38, 0, []), zN, zN, some (5, 1, 0, 0, 0, []), some (18, 3, 6, 4, 16, [4300]), zN, zN, some (3, 1, 1, 0, 0, []), some (5, 1, 0, 0, 0, []), some (18, 3, 6, 4, 16, [4300]), zN, zN, some (3, 1, 1, 0, 0, []), some (1, 2, 1, 0, 10, []), zN, some (10, 1, 0, 0, 0, []), some (21, 1, 0, 0, 0, []), some (22, 1, 0, 0, 0, []), some (9, 3, 1, 0, 1, []), zN, zN, some (17, 3, 0, 11, 0, []), zN, zN, some (5, 1, 0, 0, 0, []), some (23, 1, 0, 0, 0, []), some (18, 3, 6, 5, 139, [4301]), zN, zN, some (1, 1, 0, 0, 1, []), some (10, 1, 1, 0, 0, []), some (19, 3, 6, 5, 139, [4301]), zN, zN, some (1, 1, 0, 0, 0, []), some (6, 1, 1, 0, 0, []), some (3, 1, 1, 0, 0, []), some (1, 2, 1, 0, 10, []), zN, some (16, 3, 3, 82, 0, []), zN, zN, some (5, 1, 0, 0, 0, []), some (18, 3, 6, 4, 16, [4300]), zN, zN, some (1, 2, 1, 0, 10, []), zN, some (5, 1, 0, 0, 0, []), some (18, 3, 6, 5, 139, [4301]), zN, zN, some (10, 1, 2, 0, 0, []), some (3, 1, 1, 0, 0, []), some (10, 1, 0, 0, 0, []), some (5, 1, 0, 0, 0, []), some (18, 3, 6, 2, 7, [4298]), zN, zN, some (3, 1, 1, 0, 0, []), some (21, 1, 0, 0, 0, []), some (22, 1, 0, 0, 0, []), some (9, 3, 1, 0, 1, []), zN, zN, some (17, 3, 0, 50, 0, []), zN, zN, some (5, 1, 0, 0, 0, []), some (23, 1, 0, 0, 0, []), some (18, 3, 6, 5, 139, [4301]), zN, zN, some (1, 1, 0, 0, 1, []), some (10, 1, 0, 0, 0, []), some (19, 3, 6, 5, 139, [4301]), zN, zN, some (100, 1, 0, 0, 0, [])]
def zk263 : List (Option zC) := [some (5, 1, 0, 0, 0, []), some (3, 1, 2, 0, 0, []), some (101, 3, 176, 1, 1, [109, 5234]), zN, zN, some (15, 3, 1, 12, 0, []), zN, zN, some (1, 1, 0, 0, 1, []), some (17, 3, 0, 39, 0, []), zN, zN, some (5, 1, 0, 0, 0, []), some (3, 1, 1, 0, 0, []), some (101, 3, 223, 0, 2, [252, 6209]), zN, zN, some (15, 3, 1, 24, 0, []), zN, zN, some (1, 1, 0, 0, 2, []), some (17, 3, 0, 39, 0, []), zN, zN, some (5, 1, 0, 0, 0, []), some (18, 3, 6, 2, 7, [4298]), zN, zN, some (3, 1, 1, 0, 0, []), some (21, 1, 0, 0, 0, []), some (3, 1, 2, 0, 0, []), some (16, 3, 1, 38, 0, []), zN, zN, some (1, 1, 0, 0, 4, []), some (17, 3, 0, 39, 0, []), zN, zN, some (1, 1, 0, 0, 0, []), some (101, 3, 174, 0, 2, [136, 5226]), zN, zN, some (15, 3, 1, 47, 0, []), zN, zN, some (1, 1, 0, 0, (-1), []), some (100, 1, 1, 0, 0, []), some (5, 1, 0, 0, 0, []), some (101, 3, 262, 0, 1, [314, 6370]), zN, zN, some (5, 1, 0, 0, 0, []), some (18, 3, 6, 2, 7, [4298]), zN, zN, some (3, 1, 1, 0, 0, []), some (21, 1, 0, 0, 0, []), some (6, 1, 3, 0, 0, []), some (5, 1, 0, 0, 0, []), some (18, 3, 6, 2, 7, [4298]), zN, zN, some (3, 1, 1, 0, 0, []), some (3, 1, 2, 0, 0, []), some (22, 1, 0, 0, 0, []), some (3, 1, 3, 0, 0, []), some (100, 1, 1, 0, 0, [])]
def zk264 : List (Option zC) := [some (5, 1, 0, 0, 0, []), some (5, 1, 0, 0, 0, []), some (1, 1, 0, 0, 1, []), some (3, 1, 1, 0, 0, []), some (101, 3, 222, 0, 3, [255, 6205]), zN, zN, some (101, 3, 174, 0, 2, [136, 5226]), zN, zN, some (15, 3, 1, 15, 0, []), zN, zN, some (1, 1, 0, 0, (-1), []), some (100, 1, 1, 0, 0, []), some (5, 1, 0, 0, 0, []), some (101, 3, 262, 0, 1, [314, 6370]), zN, zN, some (5, 1, 0, 0, 0, []), some (18, 3, 6, 2, 7, [4298]), zN, zN, some (1, 2, 1, 0, 6, []), zN, some (24, 1, 0, 0, 0, []), some (21, 1, 0, 0, 0, []), some (1, 1, 0, 0, 1, []), some (10, 1, 1, 0, 0, []), some (22, 1, 0, 0, 0, []), some (3, 1, 1, 0, 0, []), some (6, 1, 2, 0, 0, []), some (3, 1, 2, 0, 0, []), some (5, 1, 0, 0, 0, []), some (18, 3, 6, 2, 7, [4298]), zN, zN, some (1, 2, 1, 0, 6, []), zN, some (21, 1, 0, 0, 0, []), some (16, 3, 3, 63, 0, []), zN, zN, some (5, 1, 0, 0, 0, []), some (18, 3, 6, 2, 7, [4298]), zN, zN, some (3, 1, 2, 0, 0, []), some (5, 1, 0, 0, 0, []), some (18, 3, 6, 2, 7, [4298]), zN, zN, some (3, 1, 2, 0, 0, []), some (1, 1, 0, 0, 1, []), some (10, 1, 0, 0, 0, []), some (21, 1, 0, 0, 0, []), some (22, 1, 0, 0, 0, []), some (9, 3, 2, 0, 1, []), zN, zN, some (17, 3, 0, 32, 0, []), zN, zN, some (5, 1, 0, 0, 0, []), some (18, 3, 6, 2, 7, [4298]), zN, zN, some (1, 2, 1, 0, 6, []), zN, some (21, 1, 0, 0, 0, []), some (100, 1, 1, 0, 0, [])]
def zk265 : List (Option zC) := [some (5, 1, 0, 0, 0, []), some (1, 1, 0, 0, 1, []), some (3, 1, 1, 0, 0, []), some (101, 3, 225, 0, 3, [262, 6217]), zN, zN, some (15, 3, 1, 11, 0, []), zN, zN, some (1, 1, 0, 0, (-1), []), some (100, 1, 1, 0, 0, []), some (5, 1, 0, 0, 0, []), some (18, 3, 6, 21, 232, [4317]), zN, zN, some (1, 1, 0, 0, 1, []), some (16, 3, 0, 28, 0, []), zN, zN, some (5, 1, 0, 0, 0, []), some (18, 3, 6, 19, 48, [4315]), zN, zN, some (1, 1, 0, 0, 1, []), some (21, 1, 0, 0, 0, []), some (15, 3, 1, 34, 0, []), zN, zN, some (5, 1, 0, 0, 0, []), some (1, 1, 0, 0, 5, []), some (101, 3, 178, 0, 2, [142, 5242]), zN, zN, some (100, 1, 1, 0, 0, []), some (5, 1, 0, 0, 0, []), some (101, 3, 262, 0, 1, [314, 6370]), zN, zN, some (5, 1, 0, 0, 0, []), some (18, 3, 6, 2, 7, [4298]), zN, zN, some (3, 1, 1, 0, 0, []), some (5, 1, 0, 0, 0, []), some (18, 3, 6, 19, 48, [4315]), zN, zN, some (1, 1, 0, 0, 1, []), some (21, 1, 0, 0, 0, []), some (22, 1, 0, 0, 0, []), some (5, 1, 0, 0, 0, []), some (18, 3, 6, 2, 7, [4298]), zN, zN, some (3, 1, 1, 0, 0, []), some (21, 1, 0, 0, 0, []), some (100, 1, 1, 0, 0, [])]
def zk266 : List (Option zC) := [some (5, 1, 0, 0, 0, []), some (5, 1, 0, 0, 0, []), some (3, 1, 1, 0, 0, []), some (101, 3, 223, 0, 2, [252, 6209]), zN, zN, some (15, 3, 0, 17, 0, []), zN, zN, some (5, 1, 0, 0, 0, []), some (3, 1, 2, 0, 0, []), some (101, 3, 223, 0, 2, [252, 6209]), zN, zN, some (15, 3, 1, 21, 0, []), zN, zN, some (1, 1, 0, 0, 2, []), some (17, 3, 0, 31, 0, []), zN, zN, some (3, 1, 1, 0, 0, []), some (3, 1, 2, 0, 0, []), some (16, 3, 1, 30, 0, []), zN, zN, some (1, 1, 0, 0, 4, []), some (17, 3, 0, 31, 0, []), zN, zN, some (1, 1, 0, 0, 0, []), some (101, 3, 174, 0, 2, [136, 5226]), zN, zN, some (15, 3, 1, 39, 0, []), zN, zN, some (1, 1, 0, 0, (-1), []), some (100, 1, 1, 0, 0, []), some (5, 1, 0, 0, 0, []), some (101, 3, 262, 0, 1, [314, 6370]), zN, zN, some (5, 1, 0, 0, 0, []), some (18, 3, 6, 2, 7, [4298]), zN, zN, some (3, 1, 1, 0, 0, []), some (21, 1, 0, 0, 0, []), some (6, 1, 3, 0, 0, []), some (5, 1, 0, 0, 0, []), some (18, 3, 6, 2, 7, [4298]), zN, zN, some (3, 1, 1, 0, 0, []), some (5, 1, 0, 0, 0, []), some (18, 3, 6, 2, 7, [4298]), zN, zN, some (3, 1, 2, 0, 0, []), some (21, 1, 0, 0, 0, []), some (22, 1, 0, 0, 0, []), some (5, 1, 0, 0, 0, []), some (18, 3, 6, 2, 7, [4298]), zN, zN, some (3, 1, 2, 0, 0, []), some (3, 1, 3, 0, 0, []), some (22, 1, 0, 0, 0, []), some (5, 1, 0, 0, 0, []), some (5, 1, 0, 0, 0, []), some (18, 3, 6, 2, 7, [4298]), zN, zN, some (3, 1, 1, 0, 0, []), some (21, 1, 0, 0, 0, []), some (101, 3, 226, 0, 2, [259, 6221]), zN, zN, some (5, 1, 0, 0, 0, []), some (18, 3, 6, 21, 232, [4317]), zN, zN, some (100, 1, 1, 0, 0, [])]
def zk267 : List (Option zC) := [some (3, 1, 1, 0, 0, []), some (13, 1, 1, 0, 0, []), some (2, 1, 0, 0, 0, []), some (2, 3, 1, 167, 2, [5297]), zN, zN, some (101, 3, 173, 1, 3, [103, 5223]), zN, zN, some (15, 3, 0, 39, 0, []), zN, zN, some (3, 1, 2, 0, 0, []), some (13, 1, 1, 0, 0, []), some (3, 1, 1, 0, 0, []), some (1, 1, 0, 0, 2, []), some (16, 3, 1, 23, 0, []), zN, zN, some (2, 1, 0, 0, 0, []), some (17, 3, 0, 24, 0, []), zN, zN, some (2, 1, 0, 0, 1, []), some (3, 1, 1, 0, 0, []), some (101, 3, 268, 1, 1, [318, 7178]), zN, zN, some (13, 1, 1, 0, 0, []), some (101, 3, 173, 1, 3, [103, 5223]), zN, zN, some (15, 3, 0, 39, 0, []), zN, zN, some (1, 1, 0, 0, 1, []), some (17, 3, 0, 40, 0, []), zN, zN, some (1, 1, 0, 0, 0, []), some (6, 1, 3, 0, 0, []), some (5, 1, 0, 0, 0, []), some (3, 1, 3, 0, 0, []), some (15, 3, 1, 50, 0, []), zN, zN, some (1, 1, 0, 0, 1, []), some (17, 3, 0, 68, 0, []), zN, zN, some (5, 1, 0, 0, 0, []), some (18, 3, 6, 2, 7, [4298]), zN, zN, some (1, 2, 1, 0, 7, []), zN, some (3, 1, 1, 0, 0, []), some (10, 1, 0, 0, 0, []), some (21, 1, 0, 0, 0, []), some (3, 1, 2, 0, 0, []), some (16, 3, 1, 67, 0, []), zN, zN, some (1, 1, 0, 0, 4, []), some (17, 3, 0, 68, 0, []), zN, zN, some (1, 1, 0, 0, 0, []), some (101, 3, 174, 0, 2, [136, 5226]), zN, zN, some (15, 3, 1, 76, 0, []), zN, zN, some (1, 1, 0, 0, (-1), []), some (100, 1, 1, 0, 0, []), some (5, 1, 0, 0, 0, []), some (101, 3, 262, 0, 1, [314, 6370]), zN, zN, some (5, 1, 0, 0, 0, []), some (18, 3, 6, 2, 7, [4298]), zN, zN, some (1, 2, 1, 0, 7, []), zN, some (3, 1, 1, 0, 0, []), some (10, 1, 0, 0, 0, []), some (21, 1, 0, 0, 0, []), some (6, 2, 4, 0, 0, []), zN, some (5, 1, 0, 0, 0, []), some (18, 3, 6, 2, 7, [4298]), zN, zN, some (1, 2, 1, 0, 7, []), zN, some (3, 1, 1, 0, 0, []), some (10, 1, 0, 0, 0, []), some (3, 1, 2, 0, 0, []), some (22, 1, 0, 0, 0, []), some (3, 2, 4, 0, 0, []), zN, some (100, 1, 1, 0, 0, [])]
def zk268 : List (Option zC) := [some (3, 1, 0, 0, 0, []), some (15, 3, 1, 10, 0, []), zN, zN, some (1, 3, 4, 317, 999999999, [7181]), zN, zN, some (17, 3, 0, 21, 0, []), zN, zN, some (3, 1, 0, 0, 0, []), some (1, 1, 0, 0, 1, []), some (16, 3, 1, 20, 0, []), zN, zN, some (1, 2, 1, 0, 100, []), zN, some (17, 3, 0, 21, 0, []), zN, zN, some (1, 1, 0, 0, 3, []), some (100, 1, 1, 0, 0, [])]
def zk269 : List (Option zC) := [some (5, 1, 0, 0, 0, []), some (5, 1, 0, 0, 0, []), some (18, 3, 6, 5, 139, [4301]), zN, zN, some (15, 3, 1, 12, 0, []), zN, zN, some (1, 1, 0, 0, 5, []), some (17, 3, 0, 13, 0, []), zN, zN, some (1, 1, 0, 0, 0, []), some (101, 3, 174, 0, 2, [136, 5226]), zN, zN, some (15, 3, 1, 21, 0, []), zN, zN, some (1, 1, 0, 0, (-1), []), some (100, 1, 1, 0, 0, []), some (5, 1, 0, 0, 0, []), some (23, 1, 0, 0, 0, []), some (18, 3, 6, 5, 139, [4301]), zN, zN, some (1, 1, 0, 0, 1, []), some (10, 1, 1, 0, 0, []), some (19, 3, 6, 5, 139, [4301]), zN, zN, some (1, 1, 0, 0, 0, []), some (6, 1, 1, 0, 0, []), some (3, 1, 1, 0, 0, []), some (1, 2, 1, 0, 10, []), zN, some (16, 3, 3, 65, 0, []), zN, zN, some (5, 1, 0, 0, 0, []), some (18, 3, 6, 2, 7, [4298]), zN, zN, some (3, 1, 1, 0, 0, []), some (5, 1, 0, 0, 0, []), some (18, 3, 6, 4, 16, [4300]), zN, zN, some (1, 2, 1, 0, 10, []), zN, some (5, 1, 0, 0, 0, []), some (18, 3, 6, 5, 139, [4301]), zN, zN, some (10, 1, 2, 0, 0, []), some (3, 1, 1, 0, 0, []), some (10, 1, 0, 0, 0, []), some (21, 1, 0, 0, 0, []), some (22, 1, 0, 0, 0, []), some (9, 3, 1, 0, 1, []), zN, zN, some (17, 3, 0, 33, 0, []), zN, zN, some (5, 1, 0, 0, 0, []), some (18, 3, 6, 5, 139, [4301]), zN, zN, some (100, 1, 1, 0, 0, [])]
def zk270 : List (Option zC) := [some (5, 1, 0, 0, 0, []), some (1, 1, 0, 0, 1, []), some (3, 1, 1, 0, 0, []), some (101, 3, 225, 0, 3, [262, 6217]), zN, zN, some (15, 3, 1, 11, 0, []), zN, zN, some (1, 1, 0, 0, (-1), []), some (100, 1, 1, 0, 0, []), some (5, 1, 0, 0, 0, []), some (1, 1, 0, 0, 0, []), some (19, 3, 6, 29, 321, [4325]), zN, zN, some (1, 1, 0, 0, 0, []), some (6, 1, 2, 0, 0, []), some (3, 1, 2, 0, 0, []), some (5, 1, 0, 0, 0, []), some (18, 3, 6, 21, 232, [4317]), zN, zN, some (16, 3, 3, 52, 0, []), zN, zN, some (3, 1, 2, 0, 0, []), some (15, 3, 5, 36, 0, []), zN, zN, some (5, 1, 0, 0, 0, []), some (1, 2, 1, 0, 32, []), zN, some (101, 3, 271, 0, 2, [324, 7190]), zN, zN, some (5, 1, 0, 0, 0, []), some (5, 1, 0, 0, 0, []), some (18, 3, 6, 19, 48, [4315]), zN, zN, some (3, 1, 2, 0, 0, []), some (21, 1, 0, 0, 0, []), some (101, 3, 272, 0, 2, [330, 7194]), zN, zN, some (9, 3, 2, 0, 1, []), zN, zN, some (17, 3, 0, 18, 0, []), zN, zN, some (5, 1, 0, 0, 0, []), some (18, 3, 6, 29, 321, [4325]), zN, zN, some (100, 1, 1, 0, 0, [])]
def zk271 : List (Option zC) := [some (5, 1, 0, 0, 0, []), some (18, 3, 6, 28, 60, [4324]), zN, zN, some (5, 1, 0, 0, 0, []), some (18, 3, 6, 29, 321, [4325]), zN, zN, some (3, 1, 1, 0, 0, []), some (22, 1, 0, 0, 0, []), some (5, 1, 0, 0, 0, []), some (23, 1, 0, 0, 0, []), some (18, 3, 6, 29, 321, [4325]), zN, zN, some (1, 1, 0, 0, 1, []), some (10, 1, 0, 0, 0, []), some (19, 3, 6, 29, 321, [4325]), zN, zN, some (100, 1, 0, 0, 0, [])]
def zk272 : List (Option zC) := [some (3, 1, 1, 0, 0, []), some (1, 1, 0, 0, 2, []), some (16, 3, 3, 11, 0, []), zN, zN, some (5, 1, 0, 0, 0, []), some (3, 1, 1, 0, 0, []), some (101, 3, 273, 0, 2, [327, 7198]), zN, zN, some (100, 1, 0, 0, 0, []), some (5, 1, 0, 0, 0, []), some (3, 1, 1, 0, 0, []), some (101, 3, 177, 0, 2, [116, 5238]), zN, zN, some (1, 1, 0, 0, 0, []), some (6, 1, 2, 0, 0, []), some (3, 1, 2, 0, 0, []), some (5, 1, 0, 0, 0, []), some (18, 3, 6, 8, 113, [4304]), zN, zN, some (16, 3, 3, 81, 0, []), zN, zN, some (3, 1, 2, 0, 0, []), some (15, 3, 5, 36, 0, []), zN, zN, some (5, 1, 0, 0, 0, []), some (1, 2, 1, 0, 42, []), zN, some (101, 3, 271, 0, 2, [324, 7190]), zN, zN, some (5, 1, 0, 0, 0, []), some (5, 1, 0, 0, 0, []), some (18, 3, 6, 6, 19, [4302]), zN, zN, some (3, 1, 2, 0, 0, []), some (21, 1, 0, 0, 0, []), some (101, 3, 273, 0, 2, [327, 7198]), zN, zN, some (5, 1, 0, 0, 0, []), some (18, 3, 6, 7, 22, [4303]), zN, zN, some (3, 1, 2, 0, 0, []), some (21, 1, 0, 0, 0, []), some (1, 1, 0, 0, 1, []), some (16, 3, 1, 59, 0, []), zN, zN, some (17, 3, 0, 75, 0, []), zN, zN, some (5, 1, 0, 0, 0, []), some (1, 2, 1, 0, 94, []), zN, some (101, 3, 271, 0, 2, [324, 7190]), zN, zN, some (5, 1, 0, 0, 0, []), some (5, 1, 0, 0, 0, []), some (18, 3, 6, 7, 22, [4303]), zN, zN, some (3, 1, 2, 0, 0, []), some (21, 1, 0, 0, 0, []), some (101, 3, 273, 0, 2, [327, 7198]), zN, zN, some (9, 3, 2, 0, 1, []), zN, zN, some (17, 3, 0, 18, 0, []), zN, zN, some (100, 1, 0, 0, 0, [])]
def zk273 : List (Option zC) := [some (1, 1, 0, 0, 1, []), some (6, 1, 2, 0, 0, []), some (3, 1, 1, 0, 0, []), some (3, 1, 2, 0, 0, []), some (10, 1, 6, 0, 0, []), some (1, 2, 1, 0, 10, []), zN, some (16, 3, 2, 18, 0, []), zN, zN, some (3, 1, 2, 0, 0, []), some (1, 2, 1, 0, 10, []), zN, some (10, 1, 2, 0, 0, []), some (6, 1, 2, 0, 0, []), some (17, 3, 0, 2, 0, []), zN, zN, some (3, 1, 2, 0, 0, []), some (15, 3, 5, 43, 0, []), zN, zN, some (5, 1, 0, 0, 0, []), some (1, 2, 1, 0, 48, []), zN, some (3, 1, 1, 0, 0, []), some (3, 1, 2, 0, 0, []), some (10, 1, 6, 0, 0, []), some (1, 2, 1, 0, 10, []), zN, some (10, 1, 7, 0, 0, []), some (10, 1, 0, 0, 0, []), some (101, 3, 271, 0, 2, [324, 7190]), zN, zN, some (3, 1, 2, 0, 0, []), some (1, 2, 1, 0, 10, []), zN, some (10, 1, 6, 0, 0, []), some (6, 1, 2, 0, 0, []), some (17, 3, 0, 18, 0, []), zN, zN, some (100, 1, 0, 0, 0, [])]
def zk274 : List (Option zC) := [some (5, 1, 0, 0, 0, []), some (3, 1, 1, 0, 0, []), some (15, 3, 3, 9, 0, []), zN, zN, some (1, 1, 0, 0, 1, []), some (17, 3, 0, 22, 0, []), zN, zN, some (3, 1, 1, 0, 0, []), some (5, 1, 0, 0, 0, []), some (18, 3, 6, 29, 321, [4325]), zN, zN, some (16, 3, 2, 21, 0, []), zN, zN, some (1, 1, 0, 0, 5, []), some (17, 3, 0, 22, 0, []), zN, zN, some (1, 1, 0, 0, 0, []), some (101, 3, 174, 0, 2, [136, 5226]), zN, zN, some (15, 3, 0, 37, 0, []), zN, zN, some (5, 1, 0, 0, 0, []), some (18, 3, 6, 28, 60, [4324]), zN, zN, some (3, 1, 1, 0, 0, []), some (21, 1, 0, 0, 0, []), some (17, 3, 0, 38, 0, []), zN, zN, some (1, 1, 0, 0, (-1), []), some (100, 1, 1, 0, 0, [])]
def zk275 : List (Option zC) := [some (5, 1, 0, 0, 0, []), some (1, 1, 0, 0, 0, []), some (19, 3, 6, 1, 97, [4297]), zN, zN, some (5, 1, 0, 0, 0, []), some (18, 3, 6, 31, 333, [4327]), zN, zN, some (1, 2, 1, 0, 20, []), zN, some (10, 1, 0, 0, 0, []), some (1, 3, 2, 0, 400, []), zN, zN, some (16, 3, 5, 20, 0, []), zN, zN, some (1, 1, 0, 0, (-1), []), some (100, 1, 1, 0, 0, []), some (5, 1, 0, 0, 0, []), some (3, 1, 1, 0, 0, []), some (101, 3, 276, 0, 2, [336, 7210]), zN, zN, some (5, 1, 0, 0, 0, []), some (3, 1, 2, 0, 0, []), some (101, 3, 276, 0, 2, [336, 7210]), zN, zN, some (5, 1, 0, 0, 0, []), some (3, 1, 3, 0, 0, []), some (101, 3, 276, 0, 2, [336, 7210]), zN, zN, some (5, 1, 0, 0, 0, []), some (3, 2, 4, 0, 0, []), zN, some (101, 3, 276, 0, 2, [336, 7210]), zN, zN, some (5, 1, 0, 0, 0, []), some (3, 2, 5, 0, 0, []), zN, some (101, 3, 276, 0, 2, [336, 7210]), zN, zN, some (5, 1, 0, 0, 0, []), some (18, 3, 6, 31, 333, [4327]), zN, zN, some (100, 1, 1, 0, 0, [])]
def zk276 : List (Option zC) := [some (1, 2, 1, 0, 24, []), zN, some (6, 1, 2, 0, 0, []), some (3, 1, 2, 0, 0, []), some (15, 3, 2, 36, 0, []), zN, zN, some (5, 1, 0, 0, 0, []), some (18, 3, 6, 30, 63, [4326]), zN, zN, some (5, 1, 0, 0, 0, []), some (18, 3, 6, 31, 333, [4327]), zN, zN, some (3, 1, 1, 0, 0, []), some (3, 1, 2, 0, 0, []), some (10, 1, 9, 0, 0, []), some (13, 1, 3, 0, 0, []), some (22, 1, 2, 0, 0, []), some (5, 1, 0, 0, 0, []), some (23, 1, 0, 0, 0, []), some (18, 3, 6, 31, 333, [4327]), zN, zN, some (1, 1, 0, 0, 1, []), some (10, 1, 0, 0, 0, []), some (19, 3, 6, 31, 333, [4327]), zN, zN, some (9, 3, 2, 0, (-8), []), zN, zN, some (17, 3, 0, 3, 0, []), zN, zN, some (100, 1, 0, 0, 0, [])]
def zk277 : List (Option zC) := [some (5, 1, 0, 0, 0, []), some (3, 1, 1, 0, 0, []), some (13, 1, 1, 0, 0, []), some (2, 1, 0, 0, 0, []), some (5, 1, 0, 0, 0, []), some (18, 3, 6, 31, 333, [4327]), zN, zN, some (13, 1, 1, 0, 0, []), some (101, 3, 173, 1, 3, [103, 5223]), zN, zN, some (15, 3, 0, 19, 0, []), zN, zN, some (1, 1, 0, 0, 0, []), some (17, 3, 0, 20, 0, []), zN, zN, some (1, 1, 0, 0, 1, []), some (101, 3, 174, 0, 2, [136, 5226]), zN, zN, some (15, 3, 1, 28, 0, []), zN, zN, some (1, 1, 0, 0, (-1), []), some (100, 1, 1, 0, 0, []), some (5, 1, 0, 0, 0, []), some (3, 1, 1, 0, 0, []), some (19, 3, 6, 40, 339, [5120]), zN, zN, some (5, 1, 0, 0, 0, []), some (1, 1, 0, 0, 0, []), some (19, 3, 6, 37, 342, [4333]), zN, zN, some (5, 1, 0, 0, 0, []), some (1, 1, 0, 0, 0, []), some (19, 3, 6, 34, 365, [4330]), zN, zN, some (1, 1, 0, 0, 0, []), some (6, 1, 2, 0, 0, []), some (3, 1, 2, 0, 0, []), some (1, 2, 1, 0, 10, []), zN, some (16, 3, 3, 64, 0, []), zN, zN, some (5, 1, 0, 0, 0, []), some (18, 3, 6, 3, 13, [4299]), zN, zN, some (3, 1, 2, 0, 0, []), some (1, 1, 0, 0, 0, []), some (22, 1, 0, 0, 0, []), some (9, 3, 2, 0, 1, []), zN, zN, some (17, 3, 0, 45, 0, []), zN, zN, some (5, 1, 0, 0, 0, []), some (18, 3, 6, 3, 13, [4299]), zN, zN, some (1, 2, 1, 0, 7, []), zN, some (1, 2, 3, 96, 100000, [4295]), zN, some (22, 1, 0, 0, 0, []), some (5, 1, 0, 0, 0, []), some (18, 3, 6, 3, 13, [4299]), zN, zN, some (1, 2, 1, 0, 8, []), zN, some (1, 2, 1, 0, 30, []), zN, some (22, 1, 0, 0, 0, []), some (5, 1, 0, 0, 0, []), some (101, 3, 278, 0, 1, [375, 7218]), zN, zN, some (5, 1, 0, 0, 0, []), some (101, 3, 280, 0, 1, [371, 7228]), zN, zN, some (15, 3, 0, 107, 0, []), zN, zN, some (5, 1, 0, 0, 0, []), some (18, 3, 6, 38, 351, [4334]), zN, zN, some (15, 3, 0, 107, 0, []), zN, zN, some (5, 1, 0, 0, 0, []), some (101, 3, 281, 0, 1, [400, 7232]), zN, zN, some (17, 3, 0, 86, 0, []), zN, zN, some (5, 1, 0, 0, 0, []), some (1, 1, 0, 0, 0, []), some (19, 3, 6, 31, 333, [4327]), zN, zN, some (5, 1, 0, 0, 0, []), some (5, 1, 0, 0, 0, []), some (18, 3, 6, 34, 365, [4330]), zN, zN, some (19, 3, 6, 32, 67, [4328]), zN, zN, some (5, 1, 0, 0, 0, []), some (5, 1, 0, 0, 0, []), some (18, 3, 6, 34, 365, [4330]), zN, zN, some (15, 3, 5, 135, 0, []), zN, zN, some (5, 1, 0, 0, 0, []), some (18, 3, 6, 35, 368, [4331]), zN, zN, some (17, 3, 0, 136, 0, []), zN, zN, some (1, 1, 0, 0, (-1), []), some (19, 3, 6, 33, 71, [4329]), zN, zN, some (5, 1, 0, 0, 0, []), some (18, 3, 6, 34, 365, [4330]), zN, zN, some (15, 3, 5, 153, 0, []), zN, zN, some (5, 1, 0, 0, 0, []), some (1, 2, 1, 0, 9, []), zN, some (101, 3, 178, 0, 2, [142, 5242]), zN, zN, some (100, 1, 1, 0, 0, []), some (1, 1, 0, 0, 0, []), some (6, 1, 2, 0, 0, []), some (3, 1, 2, 0, 0, []), some (1, 2, 1, 0, 10, []), zN, some (16, 3, 3, 179, 0, []), zN, zN, some (5, 1, 0, 0, 0, []), some (18, 3, 6, 2, 7, [4298]), zN, zN, some (3, 1, 2, 0, 0, []), some (5, 1, 0, 0, 0, []), some (18, 3, 6, 3, 13, [4299]), zN, zN, some (3, 1, 2, 0, 0, []), some (21, 1, 0, 0, 0, []), some (22, 1, 0, 0, 0, []), some (9, 3, 2, 0, 1, []), zN, zN, some (17, 3, 0, 155, 0, []), zN, zN, some (5, 1, 0, 0, 0, []), some (1, 1, 0, 0, 0, []), some (19, 3, 6, 5, 139, [4301]), zN, zN, some (5, 1, 0, 0, 0, []), some (18, 3, 6, 2, 7, [4298]), zN, zN, some (1, 2, 1, 0, 6, []), zN, some (21, 1, 0, 0, 0, []), some (100, 1, 1, 0, 0, [])]
def zk278_0 : List (Option zC) := [some (5, 1, 0, 0, 0, []), some (5, 1, 0, 0, 0, []), some (18, 3, 6, 37, 342, [4333]), zN, zN, some (19, 3, 6, 36, 345, [4332]), zN, zN, some (5, 1, 0, 0, 0, []), some (5, 1, 0, 0, 0, []), some (18, 3, 6, 36, 345, [4332]), zN, zN, some (1, 2, 1, 0, 32, []), zN, some (1, 2, 1, 0, 32, []), zN, some (101, 3, 279, 0, 4, [348, 7222]), zN, zN, some (15, 3, 1, 38, 0, []), zN, zN, some (5, 1, 0, 0, 0, []), some (5, 1, 0, 0, 0, []), some (18, 3, 6, 36, 345, [4332]), zN, zN, some (1, 2, 1, 0, 10, []), zN, some (1, 2, 1, 0, 10, []), zN, some (101, 3, 279, 0, 4, [348, 7222]), zN, zN, some (15, 3, 0, 51, 0, []), zN, zN, some (5, 1, 0, 0, 0, []), some (23, 1, 0, 0, 0, []), some (18, 3, 6, 36, 345, [4332]), zN, zN, some (1, 1, 0, 0, 1, []), some (10, 1, 0, 0, 0, []), some (19, 3, 6, 36, 345, [4332]), zN, zN, some (17, 3, 0, 8, 0, []), zN, zN, some (5, 1, 0, 0, 0, []), some (5, 1, 0, 0, 0, []), some (18, 3, 6, 36, 345, [4332]), zN, zN, some (1, 1, 0, 0, 1, []), some (10, 1, 0, 0, 0, []), some (19, 3, 6, 37, 342, [4333]), zN, zN, some (5, 1, 0, 0, 0, []), some (5, 1, 0, 0, 0, []), some (18, 3, 6, 36, 345, [4332]), zN, zN, some (5, 1, 0, 0, 0, []), some (18, 3, 6, 40, 339, [5120]), zN, zN, some (16, 3, 2, 77, 0, []), zN, zN, some (1, 1, 0, 0, 0, []), some (17, 3, 0, 96, 0, []), zN, zN, some (5, 1, 0, 0, 0, []), some (18, 3, 6, 30, 63, [4326]), zN, zN, some (5, 1, 0, 0, 0, []), some (18, 3, 6, 36, 345, [4332]), zN, zN, some (21, 1, 2, 0, 0, []), some (1, 2, 1, 0, 59, []), zN, some (16, 3, 1, 95, 0, []), zN, zN, some (1, 1, 0, 0, 3, []), some (17, 3, 0, 96, 0, []), zN, zN, some (1, 1, 0, 0, 4, []), some (19, 3, 6, 38, 351, [4334]), zN, zN, some (5, 1, 0, 0, 0, []), some (5, 1, 0, 0, 0, []), some (18, 3, 6, 36, 345, [4332]), zN, zN, some (1, 2, 1, 0, 97, []), zN, some (1, 2, 1, 0, 122, []), zN, some (101, 3, 279, 0, 4, [348, 7222]), zN, zN, some (15, 3, 0, 226, 0, []), zN, zN, some (5, 1, 0, 0, 0, []), some (2, 1, 0, 0, 0, []), some (19, 3, 6, 41, 354, [5121]), zN, zN, some (5, 1, 0, 0, 0, []), some (5, 1, 0, 0, 0, []), some (18, 3, 6, 36, 345, [4332]), zN, zN, some (19, 3, 6, 37, 342, [4333]), zN, zN, some (5, 1, 0, 0, 0, []), some (5, 1, 0, 0, 0, []), some (18, 3, 6, 37, 342, [4333]), zN, zN, some (1, 2, 1, 0, 97, []), zN, some (1, 2, 1, 0, 122, []), zN, some (101, 3, 279, 0, 4, [348, 7222]), zN, zN, some (15, 3, 0, 200, 0, []), zN, zN, some (5, 1, 0, 0, 0, []), some (5, 1, 0, 0, 0, []), some (18, 3, 6, 37, 342, [4333]), zN, zN, some (5, 1, 0, 0, 0, []), some (18, 3, 6, 36, 345, [4332]), zN, zN, some (10, 1, 1, 0, 0, []), some (1, 2, 1, 0, 8, []), zN, some (16, 3, 3, 183, 0, []), zN, zN, some (2, 3, 1, 358, 27, [7226]), zN, zN, some (5, 1, 0, 0, 0, []), some (18, 3, 6, 41, 354, [5121]), zN, zN, some (11, 1, 2, 0, 0, []), some (5, 1, 0, 0, 0, []), some (18, 3, 6, 30, 63, [4326]), zN, zN, some (5, 1, 0, 0, 0, []), some (18, 3, 6, 37, 342, [4333]), zN, zN, some (21, 1, 2, 0, 0, []), some (13, 1, 1, 0, 0, []), some (11, 1, 0, 0, 0, []), some (2, 3, 1, 360, 96, [7227]), zN, zN, some (11, 1, 1, 0, 0, []), some (17, 3, 0, 184, 0, []), zN, zN, some (2, 1, 0, 0, 0, []), some (19, 3, 6, 41, 354, [5121]), zN, zN, some (5, 1, 0, 0, 0, []), some (23, 1, 0, 0, 0, []), some (18, 3, 6, 37, 342, [4333]), zN, zN, some (1, 1, 0, 0, 1, []), some (10, 1, 0, 0, 0, []), some (19, 3, 6, 37, 342, [4333]), zN, zN, some (17, 3, 0, 127, 0, []), zN, zN]
def zk278_1 : List (Option zC) := [some (5, 1, 0, 0, 0, []), some (5, 1, 0, 0, 0, []), some (18, 3, 6, 37, 342, [4333]), zN, zN, some (5, 1, 0, 0, 0, []), some (18, 3, 6, 36, 345, [4332]), zN, zN, some (10, 1, 1, 0, 0, []), some (1, 2, 1, 0, 8, []), zN, some (16, 3, 5, 219, 0, []), zN, zN, some (1, 1, 0, 0, 4, []), some (17, 3, 0, 220, 0, []), zN, zN, some (1, 1, 0, 0, 1, []), some (19, 3, 6, 38, 351, [4334]), zN, zN, some (17, 3, 0, 350, 0, []), zN, zN, some (5, 1, 0, 0, 0, []), some (5, 1, 0, 0, 0, []), some (18, 3, 6, 36, 345, [4332]), zN, zN, some (1, 2, 1, 0, 48, []), zN, some (1, 2, 1, 0, 57, []), zN, some (101, 3, 279, 0, 4, [348, 7222]), zN, zN, some (15, 3, 0, 350, 0, []), zN, zN, some (5, 1, 0, 0, 0, []), some (1, 1, 0, 0, 0, []), some (19, 3, 6, 39, 362, [4335]), zN, zN, some (5, 1, 0, 0, 0, []), some (5, 1, 0, 0, 0, []), some (18, 3, 6, 36, 345, [4332]), zN, zN, some (19, 3, 6, 37, 342, [4333]), zN, zN, some (5, 1, 0, 0, 0, []), some (5, 1, 0, 0, 0, []), some (18, 3, 6, 37, 342, [4333]), zN, zN, some (1, 2, 1, 0, 48, []), zN, some (1, 2, 1, 0, 57, []), zN, some (101, 3, 279, 0, 4, [348, 7222]), zN, zN, some (15, 3, 0, 327, 0, []), zN, zN, some (5, 1, 0, 0, 0, []), some (5, 1, 0, 0, 0, []), some (18, 3, 6, 37, 342, [4333]), zN, zN, some (5, 1, 0, 0, 0, []), some (18, 3, 6, 36, 345, [4332]), zN, zN, some (10, 1, 1, 0, 0, []), some (1, 2, 1, 0, 9, []), zN, some (16, 3, 3, 307, 0, []), zN, zN, some (1, 2, 1, 0, 10, []), zN, some (5, 1, 0, 0, 0, []), some (18, 3, 6, 39, 362, [4335]), zN, zN, some (10, 1, 2, 0, 0, []), some (5, 1, 0, 0, 0, []), some (18, 3, 6, 30, 63, [4326]), zN, zN, some (5, 1, 0, 0, 0, []), some (18, 3, 6, 37, 342, [4333]), zN, zN, some (21, 1, 2, 0, 0, []), some (10, 1, 0, 0, 0, []), some (1, 2, 1, 0, 48, []), zN, some (10, 1, 1, 0, 0, []), some (17, 3, 0, 311, 0, []), zN, zN, some (5, 1, 0, 0, 0, []), some (18, 3, 6, 39, 362, [4335]), zN, zN, some (19, 3, 6, 39, 362, [4335]), zN, zN, some (5, 1, 0, 0, 0, []), some (23, 1, 0, 0, 0, []), some (18, 3, 6, 37, 342, [4333]), zN, zN, some (1, 1, 0, 0, 1, []), some (10, 1, 0, 0, 0, []), some (19, 3, 6, 37, 342, [4333]), zN, zN, some (17, 3, 0, 254, 0, []), zN, zN, some (5, 1, 0, 0, 0, []), some (5, 1, 0, 0, 0, []), some (18, 3, 6, 37, 342, [4333]), zN, zN, some (5, 1, 0, 0, 0, []), some (18, 3, 6, 36, 345, [4332]), zN, zN, some (10, 1, 1, 0, 0, []), some (1, 2, 1, 0, 9, []), zN, some (16, 3, 5, 346, 0, []), zN, zN, some (1, 1, 0, 0, 4, []), some (17, 3, 0, 347, 0, []), zN, zN, some (1, 1, 0, 0, 2, []), some (19, 3, 6, 38, 351, [4334]), zN, zN, some (100, 1, 0, 0, 0, [])]
def zk278 : List (Option zC) := zk278_0 ++ zk278_1
def zk279 : List (Option zC) := [some (3, 1, 1, 0, 0, []), some (5, 1, 0, 0, 0, []), some (18, 3, 6, 40, 339, [5120]), zN, zN, some (16, 3, 3, 29, 0, []), zN, zN, some (5, 1, 0, 0, 0, []), some (18, 3, 6, 30, 63, [4326]), zN, zN, some (3, 1, 1, 0, 0, []), some (21, 1, 2, 0, 0, []), some (13, 1, 1, 0, 0, []), some (3, 1, 2, 0, 0, []), some (13, 1, 1, 0, 0, []), some (3, 1, 3, 0, 0, []), some (13, 1, 1, 0, 0, []), some (101, 3, 173, 1, 3, [103, 5223]), zN, zN, some (15, 3, 0, 29, 0, []), zN, zN, some (1, 1, 0, 0, 1, []), some (17, 3, 0, 30, 0, []), zN, zN, some (1, 1, 0, 0, 0, []), some (100, 1, 4, 0, 0, [])]
def zk280 : List (Option zC) := [some (5, 1, 0, 0, 0, []), some (18, 3, 6, 34, 365, [4330]), zN, zN, some (15, 3, 1, 11, 0, []), zN, zN, some (1, 1, 0, 0, 1, []), some (17, 3, 0, 12, 0, []), zN, zN, some (1, 1, 0, 0, 0, []), some (100, 1, 4, 0, 0, [])]
def zk281 : List (Option zC) := [some (5, 1, 0, 0, 0, []), some (1, 1, 0, 0, 0, []), some (101, 3, 282, 0, 2, [391, 7236]), zN, zN, some (15, 3, 0, 15, 0, []), zN, zN, some (5, 1, 0, 0, 0, []), some (101, 3, 283, 0, 1, [394, 7240]), zN, zN, some (17, 3, 0, 87, 0, []), zN, zN, some (5, 1, 0, 0, 0, []), some (1, 1, 0, 0, 1, []), some (101, 3, 282, 0, 2, [391, 7236]), zN, zN, some (15, 3, 1, 31, 0, []), zN, zN, some (5, 1, 0, 0, 0, []), some (1, 1, 0, 0, 2, []), some (101, 3, 282, 0, 2, [391, 7236]), zN, zN, some (15, 3, 0, 69, 0, []), zN, zN, some (5, 1, 0, 0, 0, []), some (1, 1, 0, 0, 1, []), some (101, 3, 282, 0, 2, [391, 7236]), zN, zN, some (15, 3, 0, 43, 0, []), zN, zN, some (1, 1, 0, 0, 0, []), some (17, 3, 0, 44, 0, []), zN, zN, some (1, 1, 0, 0, 1, []), some (6, 1, 1, 0, 0, []), some (5, 1, 0, 0, 0, []), some (101, 3, 285, 0, 1, [382, 7248]), zN, zN, some (5, 1, 0, 0, 0, []), some (18, 3, 6, 3, 13, [4299]), zN, zN, some (1, 2, 1, 0, 7, []), zN, some (3, 1, 1, 0, 0, []), some (10, 1, 0, 0, 0, []), some (5, 1, 0, 0, 0, []), some (3, 1, 1, 0, 0, []), some (101, 3, 268, 1, 1, [318, 7178]), zN, zN, some (101, 3, 287, 0, 2, [388, 7256]), zN, zN, some (22, 1, 0, 0, 0, []), some (17, 3, 0, 87, 0, []), zN, zN, some (5, 1, 0, 0, 0, []), some (5, 1, 0, 0, 0, []), some (1, 1, 0, 0, 3, []), some (101, 3, 282, 0, 2, [391, 7236]), zN, zN, some (1, 1, 0, 0, 2, []), some (101, 3, 284, 0, 3, [378, 7244]), zN, zN, some (5, 1, 0, 0, 0, []), some (101, 3, 285, 0, 1, [382, 7248]), zN, zN, some (5, 1, 0, 0, 0, []), some (101, 3, 288, 0, 1, [397, 7260]), zN, zN, some (5, 1, 0, 0, 0, []), some (5, 1, 0, 0, 0, []), some (18, 3, 6, 38, 351, [4334]), zN, zN, some (1, 1, 0, 0, 3, []), some (16, 3, 1, 100, 0, []), zN, zN, some (1, 1, 0, 0, 1, []), some (17, 3, 0, 101, 0, []), zN, zN, some (1, 1, 0, 0, 0, []), some (1, 1, 0, 0, 2, []), some (101, 3, 284, 0, 3, [378, 7244]), zN, zN, some (5, 1, 0, 0, 0, []), some (101, 3, 285, 0, 1, [382, 7248]), zN, zN, some (100, 1, 0, 0, 0, [])]
def zk282 : List (Option zC) := [some (5, 1, 0, 0, 0, []), some (101, 3, 280, 0, 1, [371, 7228]), zN, zN, some (15, 3, 0, 33, 0, []), zN, zN, some (5, 1, 0, 0, 0, []), some (18, 3, 6, 38, 351, [4334]), zN, zN, some (1, 1, 0, 0, 1, []), some (16, 3, 1, 33, 0, []), zN, zN, some (5, 1, 0, 0, 0, []), some (18, 3, 6, 41, 354, [5121]), zN, zN, some (5, 1, 0, 0, 0, []), some (18, 3, 6, 43, 93, [5123]), zN, zN, some (3, 1, 1, 0, 0, []), some (21, 1, 1, 0, 0, []), some (14, 1, 0, 0, 0, []), some (15, 3, 1, 33, 0, []), zN, zN, some (1, 1, 0, 0, 1, []), some (17, 3, 0, 34, 0, []), zN, zN, some (1, 1, 0, 0, 0, []), some (100, 1, 4, 0, 0, [])]
def zk283 : List (Option zC) := [some (5, 1, 0, 0, 0, []), some (18, 3, 6, 3, 13, [4299]), zN, zN, some (1, 2, 1, 0, 6, []), zN, some (21, 1, 0, 0, 0, []), some (6, 1, 1, 0, 0, []), some (5, 1, 0, 0, 0, []), some (3, 1, 1, 0, 0, []), some (1, 2, 1, 0, 6, []), zN, some (16, 3, 3, 19, 0, []), zN, zN, some (1, 1, 0, 0, 1, []), some (17, 3, 0, 20, 0, []), zN, zN, some (1, 1, 0, 0, 0, []), some (1, 1, 0, 0, 5, []), some (101, 3, 284, 0, 3, [378, 7244]), zN, zN, some (5, 1, 0, 0, 0, []), some (101, 3, 285, 0, 1, [382, 7248]), zN, zN, some (5, 1, 0, 0, 0, []), some (5, 1, 0, 0, 0, []), some (101, 3, 286, 0, 1, [385, 7252]), zN, zN, some (1, 1, 0, 0, 2, []), some (101, 3, 284, 0, 3, [378, 7244]), zN, zN, some (1, 1, 0, 0, 0, []), some (6, 1, 2, 0, 0, []), some (3, 1, 2, 0, 0, []), some (3, 1, 1, 0, 0, []), some (16, 3, 3, 81, 0, []), zN, zN, some (5, 1, 0, 0, 0, []), some (101, 3, 280, 0, 1, [371, 7228]), zN, zN, some (15, 3, 0, 81, 0, []), zN, zN, some (5, 1, 0, 0, 0, []), some (5, 1, 0, 0, 0, []), some (18, 3, 6, 42, 74, [5122]), zN, zN, some (3, 1, 2, 0, 0, []), some (21, 1, 1, 0, 0, []), some (5, 1, 0, 0, 0, []), some (18, 3, 6, 41, 354, [5121]), zN, zN, some (14, 1, 0, 0, 0, []), some (15, 3, 0, 70, 0, []), zN, zN, some (1, 1, 0, 0, 1, []), some (17, 3, 0, 71, 0, []), zN, zN, some (1, 1, 0, 0, 0, []), some (1, 1, 0, 0, 4, []), some (101, 3, 284, 0, 3, [378, 7244]), zN, zN, some (9, 3, 2, 0, 1, []), zN, zN, some (17, 3, 0, 39, 0, []), zN, zN, some (5, 1, 0, 0, 0, []), some (101, 3, 280, 0, 1, [371, 7228]), zN, zN, some (15, 3, 1, 89, 0, []), zN, zN, some (100, 1, 0, 0, 0, []), some (5, 1, 0, 0, 0, []), some (18, 3, 6, 42, 74, [5122]), zN, zN, some (3, 1, 1, 0, 0, []), some (5, 1, 0, 0, 0, []), some (18, 3, 6, 41, 354, [5121]), zN, zN, some (22, 1, 1, 0, 0, []), some (5, 1, 0, 0, 0, []), some (101, 3, 278, 0, 1, [375, 7218]), zN, zN, some (5, 1, 0, 0, 0, []), some (18, 3, 6, 3, 13, [4299]), zN, zN, some (3, 1, 1, 0, 0, []), some (5, 1, 0, 0, 0, []), some (1, 3, 4, 317, 999999999, [7181]), zN, zN, some (101, 3, 287, 0, 2, [388, 7256]), zN, zN, some (22, 1, 0, 0, 0, []), some (5, 1, 0, 0, 0, []), some (18, 3, 6, 3, 13, [4299]), zN, zN, some (1, 2, 1, 0, 6, []), zN, some (24, 1, 0, 0, 0, []), some (21, 1, 0, 0, 0, []), some (1, 1, 0, 0, 1, []), some (10, 1, 0, 0, 0, []), some (22, 1, 0, 0, 0, []), some (100, 1, 0, 0, 0, [])]
def zk284 : List (Option zC) := [some (3, 1, 1, 0, 0, []), some (15, 3, 1, 11, 0, []), zN, zN, some (5, 1, 0, 0, 0, []), some (18, 3, 6, 34, 365, [4330]), zN, zN, some (15, 3, 5, 12, 0, []), zN, zN, some (100, 1, 0, 0, 0, []), some (5, 1, 0, 0, 0, []), some (3, 1, 2, 0, 0, []), some (1, 1, 0, 0, 2, []), some (16, 3, 1, 30, 0, []), zN, zN, some (5, 1, 0, 0, 0, []), some (18, 3, 6, 38, 351, [4334]), zN, zN, some (1, 1, 0, 0, 4, []), some (16, 3, 1, 30, 0, []), zN, zN, some (1, 1, 0, 0, 1, []), some (17, 3, 0, 31, 0, []), zN, zN, some (3, 1, 2, 0, 0, []), some (19, 3, 6, 34, 365, [4330]), zN, zN, some (5, 1, 0, 0, 0, []), some (5, 1, 0, 0, 0, []), some (18, 3, 6, 36, 345, [4332]), zN, zN, some (19, 3, 6, 35, 368, [4331]), zN, zN, some (100, 1, 0, 0, 0, [])]
def zk285 : List (Option zC) := [some (5, 1, 0, 0, 0, []), some (101, 3, 280, 0, 1, [371, 7228]), zN, zN, some (15, 3, 0, 11, 0, []), zN, zN, some (5, 1, 0, 0, 0, []), some (101, 3, 278, 0, 1, [375, 7218]), zN, zN, some (100, 1, 0, 0, 0, [])]
def zk286 : List (Option zC) := [some (5, 1, 0, 0, 0, []), some (101, 3, 280, 0, 1, [371, 7228]), zN, zN, some (15, 3, 0, 15, 0, []), zN, zN, some (5, 1, 0, 0, 0, []), some (18, 3, 6, 38, 351, [4334]), zN, zN, some (1, 1, 0, 0, 1, []), some (16, 3, 0, 17, 0, []), zN, zN, some (1, 1, 0, 0, 0, []), some (100, 1, 4, 0, 0, []), some (1, 1, 0, 0, 0, []), some (6, 1, 1, 0, 0, []), some (3, 1, 1, 0, 0, []), some (5, 1, 0, 0, 0, []), some (18, 3, 6, 43, 93, [5123]), zN, zN, some (20, 1, 0, 0, 0, []), some (16, 3, 3, 50, 0, []), zN, zN, some (5, 1, 0, 0, 0, []), some (18, 3, 6, 41, 354, [5121]), zN, zN, some (5, 1, 0, 0, 0, []), some (18, 3, 6, 43, 93, [5123]), zN, zN, some (3, 1, 1, 0, 0, []), some (21, 1, 1, 0, 0, []), some (14, 1, 0, 0, 0, []), some (15, 3, 1, 44, 0, []), zN, zN, some (1, 1, 0, 0, 0, []), some (100, 1, 4, 0, 0, []), some (9, 3, 1, 0, 1, []), zN, zN, some (17, 3, 0, 19, 0, []), zN, zN, some (1, 1, 0, 0, 1, []), some (100, 1, 4, 0, 0, [])]
def zk287 : List (Option zC) := [some (5, 1, 0, 0, 0, []), some (5, 1, 0, 0, 0, []), some (18, 3, 6, 38, 351, [4334]), zN, zN, some (1, 1, 0, 0, 2, []), some (16, 3, 1, 13, 0, []), zN, zN, some (1, 1, 0, 0, 1, []), some (17, 3, 0, 14, 0, []), zN, zN, some (1, 1, 0, 0, 0, []), some (1, 1, 0, 0, 2, []), some (101, 3, 284, 0, 3, [378, 7244]), zN, zN, some (5, 1, 0, 0, 0, []), some (5, 1, 0, 0, 0, []), some (18, 3, 6, 39, 362, [4335]), zN, zN, some (13, 1, 1, 0, 0, []), some (2, 1, 0, 0, 1, []), some (3, 1, 1, 0, 0, []), some (13, 1, 1, 0, 0, []), some (101, 3, 173, 1, 3, [103, 5223]), zN, zN, some (1, 1, 0, 0, 3, []), some (101, 3, 284, 0, 3, [378, 7244]), zN, zN, some (5, 1, 0, 0, 0, []), some (18, 3, 6, 39, 362, [4335]), zN, zN, some (6, 1, 2, 0, 0, []), some (5, 1, 0, 0, 0, []), some (101, 3, 285, 0, 1, [382, 7248]), zN, zN, some (3, 1, 2, 0, 0, []), some (100, 1, 1, 0, 0, [])]
def zk288 : List (Option zC) := [some (1, 1, 0, 0, (-1), []), some (6, 1, 1, 0, 0, []), some (1, 1, 0, 0, 0, []), some (6, 1, 2, 0, 0, []), some (3, 1, 2, 0, 0, []), some (1, 1, 0, 0, 4, []), some (16, 3, 3, 31, 0, []), zN, zN, some (5, 1, 0, 0, 0, []), some (1, 1, 0, 0, 4, []), some (3, 1, 2, 0, 0, []), some (10, 1, 0, 0, 0, []), some (101, 3, 282, 0, 2, [391, 7236]), zN, zN, some (15, 3, 0, 23, 0, []), zN, zN, some (3, 1, 2, 0, 0, []), some (17, 3, 0, 24, 0, []), zN, zN, some (3, 1, 1, 0, 0, []), some (6, 1, 1, 0, 0, []), some (9, 3, 2, 0, 1, []), zN, zN, some (17, 3, 0, 4, 0, []), zN, zN, some (5, 1, 0, 0, 0, []), some (3, 1, 1, 0, 0, []), some (15, 3, 2, 40, 0, []), zN, zN, some (1, 1, 0, 0, 1, []), some (17, 3, 0, 41, 0, []), zN, zN, some (1, 1, 0, 0, 0, []), some (1, 1, 0, 0, 2, []), some (101, 3, 284, 0, 3, [378, 7244]), zN, zN, some (5, 1, 0, 0, 0, []), some (18, 3, 6, 3, 13, [4299]), zN, zN, some (1, 2, 1, 0, 9, []), zN, some (3, 1, 1, 0, 0, []), some (22, 1, 0, 0, 0, []), some (5, 1, 0, 0, 0, []), some (101, 3, 285, 0, 1, [382, 7248]), zN, zN, some (100, 1, 0, 0, 0, [])]
def zk289 : List (Option zC) := [some (5, 1, 0, 0, 0, []), some (1, 1, 0, 0, 0, []), some (19, 3, 6, 1, 97, [4297]), zN, zN, some (3, 1, 1, 0, 0, []), some (15, 3, 1, 16, 0, []), zN, zN, some (5, 1, 0, 0, 0, []), some (18, 3, 6, 32, 67, [4328]), zN, zN, some (17, 3, 0, 29, 0, []), zN, zN, some (3, 1, 1, 0, 0, []), some (1, 1, 0, 0, 1, []), some (16, 3, 1, 28, 0, []), zN, zN, some (5, 1, 0, 0, 0, []), some (18, 3, 6, 33, 71, [4329]), zN, zN, some (17, 3, 0, 29, 0, []), zN, zN, some (1, 1, 0, 0, (-1), []), some (100, 1, 1, 0, 0, [])]
def zprog_0 : List (List (Option zC)) := [zk0, zk1, zk2, zk3, zk4, zk5, zk6, zk7, zk8, zk9, zk10, zk11, zk12, zk13, zk14, zk15, zk16, zk17, zk18, zk19, zk20, zk21, zk22, zk23, zk24, zk25, zk26, zk27, zk28, zk29]
def zprog_1 : List (List (Option zC)) := [zk30, zk31, zk32, zk33, zk34, zk35, zk36, zk37, zk38, zk39, zk40, zk41, zk42, zk43, zk44, zk45, zk46, zk47, zk48, zk49, zk50, zk51, zk52, zk53, zk54, zk55, zk56, zk57, zk58, zk59]
def zprog_2 : List (List (Option zC)) := [zk60, zk61, zk62, zk63, zk64, zk65, zk66, zk67, zk68, zk69, zk70, zk71, zk72, zk73, zk74, zk75, zk76, zk77, zk78, zk79, zk80, zk81, zk82, zk83, zk84, zk85, zk86, zk87, zk88, zk89]
def zprog_3 : List (List (Option zC)) := [zk90, zk91, zk92, zk93, zk94, zk95, zk96, zk97, zk98, zk99, zk100, zk101, zk102, zk103, zk104, zk105, zk106, zk107, zk108, zk109, zk110, zk111, zk112, zk113, zk114, zk115, zk116, zk117, zk118, zk119]
def zprog_4 : List (List (Option zC)) := [zk120, zk121, zk122, zk123, zk124, zk125, zk126, zk127, zk128, zk129, zk130, zk131, zk132, zk133, zk134, zk135, zk136, zk137, zk138, zk139, zk140, zk141, zk142, zk143, zk144, zk145, zk146, zk147, zk148, zk149]
def zprog_5 : List (List (Option zC)) := [zk150, zk151, zk152, zk153, zk154, zk155, zk156, zk157, zk158, zk159, zk160, zk161, zk162, zk163, zk164, zk165, zk166, zk167, zk168, zk169, zk170, zk171, zk172, zk173, zk174, zk175, zk176, zk177, zk178, zk179]
def zprog_6 : List (List (Option zC)) := [zk180, zk181, zk182, zk183, zk184, zk185, zk186, zk187, zk188, zk189, zk190, zk191, zk192, zk193, zk194, zk195, zk196, zk197, zk198, zk199, zk200, zk201, zk202, zk203, zk204, zk205, zk206, zk207, zk208, zk209]
def zprog_7 : List (List (Option zC)) := [zk210, zk211, zk212, zk213, zk214, zk215, zk216, zk217, zk218, zk219, zk220, zk221, zk222, zk223, zk224, zk225, zk226, zk227, zk228, zk229, zk230, zk231, zk232, zk233, zk234, zk235, zk236, zk237, zk238, zk239]
def zprog_8 : List (List (Option zC)) := [zk240, zk241, zk242, zk243, zk244, zk245, zk246, zk247, zk248, zk249, zk250, zk251, zk252, zk253, zk254, zk255, zk256, zk257, zk258, zk259, zk260, zk261, zk262, zk263, zk264, zk265, zk266, zk267, zk268, zk269]
def zprog_9 : List (List (Option zC)) := [zk270, zk271, zk272, zk273, zk274, zk275, zk276, zk277, zk278, zk279, zk280, zk281, zk282, zk283, zk284, zk285, zk286, zk287, zk288, zk289]
def zprog : List (List (Option zC)) := zprog_0 ++ zprog_1 ++ zprog_2 ++ zprog_3 ++ zprog_4 ++ zprog_5 ++ zprog_6 ++ zprog_7 ++ zprog_8 ++ zprog_9
def zMs_0 : List (MethodName × ByteArray × Nat × Option FieldType × List Nat) := [(⟨"SumWalkerLaw", "law", "([I)Z"⟩, code, 4, some .boolean, [1, 1, 99, 0, 0, 0, 0]),
  (⟨"SumWalker", "<init>", "()V"⟩, prog_1_method_1_code, 2, none, [0, 0, 5, 1042, 1041, 0, 1025]),
  (⟨"java/lang/Object", "<init>", "()V"⟩, object_method_1_code, 1, none, [0, 0, 90, 1045, 1044, 0, 0]),
  (⟨"SumWalker$Reader", "<init>", "()V"⟩, prog_5_method_1_code, 1, none, [0, 0, 3, 1050, 1049, 0, 1026]),
  (⟨"SumWalker$Primes", "<init>", "()V"⟩, prog_4_method_1_code, 1, none, [0, 0, 2, 1095, 1094, 0, 1027]),
  (⟨"SumWalker$Desk", "<init>", "()V"⟩, prog_2_method_1_code, 1, none, [0, 0, 0, 1120, 1119, 0, 1028]),
  (⟨"SumWalker$Desk", "clear", "()V"⟩, prog_2_method_2_code, 1, none, [0, 0, 0, 1125, 1123, 1124, 1028]),
  (⟨"SumWalker$Walk", "<init>", "()V"⟩, prog_6_method_1_code, 1, none, [0, 0, 4, 1160, 1159, 0, 1029]),
  (⟨"SumWalker$Ink", "<init>", "()V"⟩, prog_3_method_1_code, 1, none, [0, 0, 1, 1189, 1188, 0, 1030]),
  (⟨"SumWalker", "status", "()I"⟩, prog_1_method_2_code, 1, some .int, [0, 0, 5, 1249, 1247, 1248, 1025]),
  (⟨"SumWalker", "feed", "(IIIII)I"⟩, prog_1_method_3_code, 6, some .int, [5, 0, 5, 1253, 1251, 1252, 1025]),
  (⟨"SumWalker$Reader", "tapeFour", "(I)V"⟩, prog_5_method_2_code, 3, none, [1, 0, 3, 1257, 1255, 1256, 1026]),
  (⟨"SumWalker", "load", "(I)I"⟩, prog_1_method_4_code, 3, some .int, [1, 0, 5, 1261, 1259, 1260, 1025]),
  (⟨"SumWalker", "refuse", "(I)I"⟩, prog_1_method_60_code, 2, some .int, [1, 0, 5, 2049, 2048, 0, 1025]),
  (⟨"SumWalker$Reader", "readDesk", "(ILSumWalker$Desk;)Z"⟩, prog_5_method_3_code, 4, some .boolean, [2, 0, 3, 2053, 2051, 2052, 1026]),
  (⟨"SumWalker$Reader", "step", "()V"⟩, prog_5_method_11_code, 3, none, [0, 0, 3, 2061, 2060, 1, 1026]),
  (⟨"SumWalker$Reader", "endOfRun", "(CC)I"⟩, prog_5_method_12_code, 4, some .int, [2, 0, 3, 2065, 2064, 2, 1026]),
  (⟨"SumWalker$Reader", "takeWord", "(I)V"⟩, prog_5_method_13_code, 2, none, [1, 0, 3, 2069, 2068, 3, 1026]),
  (⟨"SumWalker$Reader", "takeNumber", "(I)V"⟩, prog_5_method_14_code, 2, none, [1, 0, 3, 2074, 2073, 4, 1026]),
  (⟨"SumWalker$Reader", "readLine", "(LSumWalker$Desk;)Z"⟩, prog_5_method_4_code, 3, some .boolean, [1, 0, 3, 2078, 2077, 5, 1026]),
  (⟨"SumWalker$Reader", "fail", "(I)Z"⟩, prog_5_method_10_code, 2, some .boolean, [1, 0, 3, 2082, 2081, 6, 1026]),
  (⟨"SumWalker$Reader", "lineOf", "(J)I"⟩, prog_5_method_16_code, 2, some .int, [1, 1, 3, 2085, 2084, 0, 1026]),
  (⟨"SumWalker$Reader", "codeOf", "(Ljava/lang/String;)J"⟩, prog_5_method_15_code, 4, some .long, [1, 1, 3, 2089, 2088, 0, 1026]),
  (⟨"java/lang/String", "length", "()I"⟩, prog_11_method_54_code, 1, some .int, [0, 0, 90, 2093, 2091, 2092, 1033]),
  (⟨"java/lang/String", "coder", "()B"⟩, prog_11_method_152_code, 1, some .byte, [0, 0, 90, 2097, 2095, 2096, 1033]),
  (⟨"java/lang/String", "charAt", "(I)C"⟩, prog_11_method_56_code, 2, some .char, [1, 0, 90, 2103, 2101, 2102, 1033]),
  (⟨"java/lang/String", "isLatin1", "()Z"⟩, prog_11_method_154_code, 1, some .boolean, [0, 0, 90, 2107, 2105, 2106, 1033]),
  (⟨"java/lang/StringLatin1", "charAt", "([BI)C"⟩, prog_12_method_2_code, 2, some .char, [2, 1, 90, 2110, 2109, 0, 1034]),
  (⟨"java/lang/String", "checkIndex", "(II)V"⟩, prog_11_method_155_code, 2, none, [2, 1, 90, 2113, 2112, 0, 1033]),
  (⟨"jdk/internal/util/Preconditions", "checkIndex", "(IILjava/util/function/BiFunction;)I"⟩, prog_14_method_11_code, 3, some .int, [3, 1, 90, 2118, 2117, 0, 1035])]
def zMs_1 : List (MethodName × ByteArray × Nat × Option FieldType × List Nat) := [(⟨"SumWalker$Reader", "readRow", "(LSumWalker$Desk;)Z"⟩, prog_5_method_5_code, 3, some .boolean, [1, 0, 3, 2144, 2143, 7, 1026]),
  (⟨"SumWalker$Reader", "readName", "(I)Z"⟩, prog_5_method_6_code, 3, some .boolean, [1, 0, 3, 2148, 2147, 8, 1026]),
  (⟨"SumWalker$Reader", "lawOf", "(J)I"⟩, prog_5_method_17_code, 2, some .int, [1, 1, 3, 2151, 2150, 0, 1026]),
  (⟨"SumWalker$Reader", "readNumber", "(I)Z"⟩, prog_5_method_7_code, 2, some .boolean, [1, 0, 3, 2160, 2159, 9, 1026]),
  (⟨"SumWalker$Desk", "addRow", "(I)V"⟩, prog_2_method_4_code, 2, none, [1, 0, 0, 2164, 2162, 2163, 1028]),
  (⟨"SumWalker$Reader", "readSign", "()Z"⟩, prog_5_method_9_code, 1, some .boolean, [0, 0, 3, 2168, 2167, 10, 1026]),
  (⟨"SumWalker$Reader", "readLaw", "()Z"⟩, prog_5_method_8_code, 1, some .boolean, [0, 0, 3, 2172, 2171, 11, 1026]),
  (⟨"SumWalker$Desk", "copyFrom", "(LSumWalker$Desk;)V"⟩, prog_2_method_3_code, 3, none, [1, 0, 0, 2176, 2174, 2175, 1028]),
  (⟨"SumWalker", "forgetWalks", "()V"⟩, prog_1_method_72_code, 2, none, [0, 0, 5, 2180, 2179, 12, 1025]),
  (⟨"SumWalker", "done", "(I)I"⟩, prog_1_method_61_code, 2, some .int, [1, 0, 5, 2184, 2183, 13, 1025]),
  (⟨"SumWalker", "fault", "(I)I"⟩, prog_1_method_5_code, 2, some .int, [1, 0, 5, 2189, 2187, 2188, 1025]),
  (⟨"SumWalker", "many", "(I)I"⟩, prog_1_method_6_code, 2, some .int, [1, 0, 5, 2193, 2191, 2192, 1025]),
  (⟨"SumWalker", "factor", "(III)I"⟩, prog_1_method_7_code, 4, some .int, [3, 0, 5, 2197, 2195, 2196, 1025]),
  (⟨"SumWalker", "isNumber", "(I)Z"⟩, prog_1_method_64_code, 1, some .boolean, [1, 1, 5, 2200, 2199, 0, 1025]),
  (⟨"SumWalker", "isChoice", "(II)Z"⟩, prog_1_method_65_code, 2, some .boolean, [2, 1, 5, 2204, 2203, 0, 1025]),
  (⟨"SumWalker$Primes", "split", "(I)V"⟩, prog_4_method_2_code, 4, none, [1, 0, 2, 2208, 2206, 2207, 1027]),
  (⟨"SumWalker$Primes", "takeOut", "(II)I"⟩, prog_4_method_3_code, 6, some .int, [2, 0, 2, 2214, 2213, 14, 1027]),
  (⟨"SumWalker$Primes", "addPrime", "(II)V"⟩, prog_4_method_4_code, 3, none, [2, 0, 2, 2218, 2217, 15, 1027]),
  (⟨"SumWalker$Primes", "passes", "(II)Z"⟩, prog_4_method_6_code, 7, some .boolean, [2, 1, 2, 2222, 2221, 0, 1027]),
  (⟨"SumWalker$Primes", "powerModulo", "(III)J"⟩, prog_4_method_7_code, 8, some .long, [3, 1, 2, 2225, 2224, 0, 1027]),
  (⟨"SumWalker$Primes", "leastLargePrime", "(I)I"⟩, prog_4_method_5_code, 2, some .int, [1, 1, 2, 2228, 2227, 0, 1027]),
  (⟨"SumWalker", "sum", "(I)J"⟩, prog_1_method_8_code, 2, some .long, [1, 0, 5, 2232, 2230, 2231, 1025]),
  (⟨"SumWalker", "sumOf", "(I)J"⟩, prog_1_method_74_code, 2, some .long, [1, 0, 5, 2236, 2235, 16, 1025]),
  (⟨"SumWalker$Primes", "sumBy", "(II)J"⟩, prog_4_method_15_code, 3, some .long, [2, 0, 2, 2240, 2238, 2239, 1027]),
  (⟨"SumWalker$Primes", "addUnitary", "()J"⟩, prog_4_method_16_code, 4, some .long, [0, 0, 2, 2245, 2244, 17, 1027]),
  (⟨"SumWalker$Primes", "power", "(II)J"⟩, prog_4_method_13_code, 5, some .long, [2, 1, 2, 2248, 2247, 0, 1027]),
  (⟨"SumWalker$Primes", "addBare", "()J"⟩, prog_4_method_17_code, 4, some .long, [0, 0, 2, 2252, 2251, 18, 1027]),
  (⟨"SumWalker$Primes", "isBare", "()Z"⟩, prog_4_method_18_code, 2, some .boolean, [0, 0, 2, 2256, 2255, 19, 1027]),
  (⟨"SumWalker$Primes", "addAll", "()J"⟩, prog_4_method_11_code, 4, some .long, [0, 0, 2, 2260, 2259, 20, 1027]),
  (⟨"SumWalker$Primes", "addPowers", "(I)J"⟩, prog_4_method_12_code, 5, some .long, [1, 0, 2, 2264, 2263, 21, 1027])]
def zMs_2 : List (MethodName × ByteArray × Nat × Option FieldType × List Nat) := [(⟨"SumWalker", "doneLong", "(J)J"⟩, prog_1_method_62_code, 3, some .long, [1, 0, 5, 2268, 2267, 22, 1025]),
  (⟨"SumWalker", "kind", "(I)I"⟩, prog_1_method_9_code, 2, some .int, [1, 0, 5, 2272, 2270, 2271, 1025]),
  (⟨"SumWalker", "kindBy", "(II)I"⟩, prog_1_method_75_code, 5, some .int, [2, 0, 5, 2276, 2275, 23, 1025]),
  (⟨"SumWalker", "guide", "(II)I"⟩, prog_1_method_10_code, 3, some .int, [2, 0, 5, 2280, 2278, 2279, 1025]),
  (⟨"SumWalker", "guideOf", "(I)I"⟩, prog_1_method_80_code, 1, some .int, [1, 1, 5, 2283, 2282, 0, 1025]),
  (⟨"SumWalker", "oddGuideOf", "(I)I"⟩, prog_1_method_79_code, 2, some .int, [1, 1, 5, 2286, 2285, 0, 1025]),
  (⟨"SumWalker", "gcd", "(JJ)J"⟩, prog_1_method_76_code, 11, some .long, [2, 1, 5, 3073, 3072, 0, 1025]),
  (⟨"SumWalker", "twosOf", "(I)I"⟩, prog_1_method_78_code, 3, some .int, [1, 1, 5, 3079, 3078, 0, 1025]),
  (⟨"SumWalker", "hasDriver", "(I)Z"⟩, prog_1_method_81_code, 3, some .boolean, [1, 0, 5, 3083, 3082, 24, 1025]),
  (⟨"SumWalker$Primes", "addDivisors", "(I)J"⟩, prog_4_method_10_code, 2, some .long, [1, 0, 2, 3090, 3088, 3089, 1027]),
  (⟨"SumWalker", "divisor", "(II)I"⟩, prog_1_method_11_code, 4, some .int, [2, 0, 5, 3094, 3092, 3093, 1025]),
  (⟨"SumWalker$Primes", "countDivisors", "(I)I"⟩, prog_4_method_9_code, 4, some .int, [1, 0, 2, 3098, 3096, 3097, 1027]),
  (⟨"SumWalker", "lowDivisor", "(II)I"⟩, prog_1_method_82_code, 4, some .int, [2, 1, 5, 3101, 3100, 0, 1025]),
  (⟨"SumWalker", "whole", "(I)I"⟩, prog_1_method_12_code, 3, some .int, [1, 0, 5, 3105, 3103, 3104, 1025]),
  (⟨"SumWalker", "isWhole", "(I)Z"⟩, prog_1_method_83_code, 3, some .boolean, [1, 0, 5, 3109, 3108, 25, 1025]),
  (⟨"SumWalker", "reachWith", "(I)V"⟩, prog_1_method_84_code, 7, none, [1, 0, 5, 3113, 3112, 26, 1025]),
  (⟨"SumWalker", "index", "(II)J"⟩, prog_1_method_13_code, 3, some .long, [2, 0, 5, 3117, 3115, 3116, 1025]),
  (⟨"SumWalker", "partOfFraction", "(JJI)J"⟩, prog_1_method_77_code, 5, some .long, [3, 1, 5, 3120, 3119, 0, 1025]),
  (⟨"SumWalker", "part", "(II)I"⟩, prog_1_method_14_code, 3, some .int, [2, 0, 5, 3124, 3122, 3123, 1025]),
  (⟨"SumWalker$Primes", "thousandth", "(I)I"⟩, prog_4_method_14_code, 2, some .int, [1, 0, 2, 3128, 3126, 3127, 1027]),
  (⟨"SumWalker", "kin", "(IIII)I"⟩, prog_1_method_15_code, 9, some .int, [4, 0, 5, 3134, 3132, 3133, 1025]),
  (⟨"SumWalker", "isRange", "(III)Z"⟩, prog_1_method_66_code, 3, some .boolean, [3, 1, 5, 3137, 3136, 0, 1025]),
  (⟨"SumWalker", "doneCount", "(II)I"⟩, prog_1_method_63_code, 3, some .int, [2, 0, 5, 3141, 3140, 27, 1025]),
  (⟨"SumWalker", "kins", "(III)I"⟩, prog_1_method_16_code, 11, some .int, [3, 0, 5, 3145, 3143, 3144, 1025]),
  (⟨"SumWalker", "countKin", "(III)I"⟩, prog_1_method_85_code, 6, some .int, [3, 0, 5, 3149, 3148, 28, 1025]),
  (⟨"SumWalker", "before", "(III)I"⟩, prog_1_method_17_code, 6, some .int, [3, 0, 5, 3153, 3151, 3152, 1025]),
  (⟨"SumWalker", "families", "(II)I"⟩, prog_1_method_18_code, 7, some .int, [2, 0, 5, 3157, 3155, 3156, 1025]),
  (⟨"SumWalker", "joinFamilies", "(I)V"⟩, prog_1_method_88_code, 7, none, [1, 0, 5, 3161, 3160, 29, 1025]),
  (⟨"SumWalker", "leastOfFamily", "(I)I"⟩, prog_1_method_89_code, 4, some .int, [1, 0, 5, 3165, 3164, 30, 1025]),
  (⟨"SumWalker", "countFamilies", "(I)V"⟩, prog_1_method_90_code, 3, none, [1, 0, 5, 3170, 3169, 31, 1025])]
def zMs_3 : List (MethodName × ByteArray × Nat × Option FieldType × List Nat) := [(⟨"SumWalker", "record", "(II)I"⟩, prog_1_method_19_code, 10, some .int, [2, 0, 5, 3174, 3172, 3173, 1025]),
  (⟨"SumWalker", "practical", "(I)I"⟩, prog_1_method_20_code, 2, some .int, [1, 0, 5, 3178, 3176, 3177, 1025]),
  (⟨"SumWalker$Primes", "isPractical", "()Z"⟩, prog_4_method_19_code, 4, some .boolean, [0, 0, 2, 3182, 3180, 3181, 1027]),
  (⟨"SumWalker", "ladder", "(II)I"⟩, prog_1_method_21_code, 6, some .int, [2, 0, 5, 3186, 3184, 3185, 1025]),
  (⟨"SumWalker", "mean", "(IZI)J"⟩, prog_1_method_22_code, 7, some .long, [3, 0, 5, 3190, 3188, 3189, 1025]),
  (⟨"SumWalker", "untouched", "(III)I"⟩, prog_1_method_23_code, 7, some .int, [3, 0, 5, 3194, 3192, 3193, 1025]),
  (⟨"SumWalker", "clearMarks", "()V"⟩, prog_1_method_87_code, 2, none, [0, 0, 5, 3198, 3197, 32, 1025]),
  (⟨"SumWalker", "primitive", "(I)I"⟩, prog_1_method_24_code, 2, some .int, [1, 0, 5, 3202, 3200, 3201, 1025]),
  (⟨"SumWalker", "isPrimitive", "(I)Z"⟩, prog_1_method_91_code, 5, some .boolean, [1, 0, 5, 3206, 3205, 33, 1025]),
  (⟨"SumWalker", "depth", "(II)I"⟩, prog_1_method_25_code, 5, some .int, [2, 0, 5, 3210, 3208, 3209, 1025]),
  (⟨"SumWalker", "fillSums", "(I)V"⟩, prog_1_method_86_code, 3, none, [1, 0, 5, 3214, 3213, 34, 1025]),
  (⟨"SumWalker", "stepsTo", "(III)I"⟩, prog_1_method_92_code, 9, some .int, [3, 0, 5, 3218, 3217, 35, 1025]),
  (⟨"SumWalker", "euclid", "(II)I"⟩, prog_1_method_26_code, 5, some .int, [2, 0, 5, 3222, 3220, 3221, 1025]),
  (⟨"SumWalker$Primes", "isPrime", "(I)Z"⟩, prog_4_method_8_code, 2, some .boolean, [1, 0, 2, 3226, 3224, 3225, 1027]),
  (⟨"SumWalker", "touched", "(III)I"⟩, prog_1_method_27_code, 7, some .int, [3, 0, 5, 3230, 3228, 3229, 1025]),
  (⟨"SumWalker", "row", "(I)I"⟩, prog_1_method_28_code, 2, some .int, [1, 0, 5, 3234, 3232, 3233, 1025]),
  (⟨"SumWalker", "hasRow", "(I)Z"⟩, prog_1_method_68_code, 2, some .boolean, [1, 0, 5, 3238, 3237, 36, 1025]),
  (⟨"SumWalker", "value", "(II)I"⟩, prog_1_method_29_code, 4, some .int, [2, 0, 5, 3242, 3240, 3241, 1025]),
  (⟨"SumWalker", "walkOf", "(I)LSumWalker$Walk;"⟩, prog_1_method_73_code, 3, some (.object "SumWalker$Walk"), [1, 0, 5, 3246, 3245, 37, 1025]),
  (⟨"SumWalker$Walk", "tell", "(IILSumWalker$Desk;LSumWalker$Primes;)V"⟩, prog_6_method_2_code, 8, none, [4, 0, 4, 3250, 3248, 3249, 1029]),
  (⟨"SumWalker$Walk", "placeOf", "(J)I"⟩, prog_6_method_3_code, 4, some .int, [1, 0, 4, 3255, 3253, 3254, 1029]),
  (⟨"SumWalker", "ends", "(I)I"⟩, prog_1_method_30_code, 2, some .int, [1, 0, 5, 3259, 3257, 3258, 1025]),
  (⟨"SumWalker", "round", "(II)I"⟩, prog_1_method_31_code, 4, some .int, [2, 0, 5, 3263, 3261, 3262, 1025]),
  (⟨"SumWalker$Walk", "leastOfRound", "()I"⟩, prog_6_method_5_code, 3, some .int, [0, 0, 4, 3267, 3265, 3266, 1029]),
  (⟨"SumWalker$Walk", "lastValue", "()I"⟩, prog_6_method_4_code, 1, some .int, [0, 0, 4, 3271, 3269, 3270, 1029]),
  (⟨"SumWalker", "peak", "(II)I"⟩, prog_1_method_32_code, 5, some .int, [2, 0, 5, 3277, 3275, 3276, 1025]),
  (⟨"SumWalker$Walk", "peakPlace", "()I"⟩, prog_6_method_6_code, 3, some .int, [0, 0, 4, 3281, 3279, 3280, 1029]),
  (⟨"SumWalker", "climb", "(II)I"⟩, prog_1_method_33_code, 5, some .int, [2, 0, 5, 3285, 3283, 3284, 1025]),
  (⟨"SumWalker$Walk", "climbPlace", "()I"⟩, prog_6_method_7_code, 3, some .int, [0, 0, 4, 3289, 3287, 3288, 1029]),
  (⟨"SumWalker$Walk", "climbFrom", "(I)I"⟩, prog_6_method_8_code, 3, some .int, [1, 0, 4, 3293, 3291, 3292, 1029])]
def zMs_4 : List (MethodName × ByteArray × Nat × Option FieldType × List Nat) := [(⟨"SumWalker", "total", "(II)J"⟩, prog_1_method_34_code, 10, some .long, [2, 0, 5, 3298, 3296, 3297, 1025]),
  (⟨"SumWalker", "growth", "(II)I"⟩, prog_1_method_35_code, 4, some .int, [2, 0, 5, 3302, 3300, 3301, 1025]),
  (⟨"SumWalker", "kept", "(II)I"⟩, prog_1_method_36_code, 5, some .int, [2, 0, 5, 3307, 3305, 3306, 1025]),
  (⟨"SumWalker", "keptPlaces", "(LSumWalker$Walk;)I"⟩, prog_1_method_93_code, 4, some .int, [1, 1, 5, 3310, 3309, 0, 1025]),
  (⟨"SumWalker", "driverPlaces", "(LSumWalker$Walk;)I"⟩, prog_1_method_94_code, 4, some .int, [1, 0, 5, 4098, 4097, 38, 1025]),
  (⟨"SumWalker", "firstDriver", "(LSumWalker$Walk;)I"⟩, prog_1_method_95_code, 3, some .int, [1, 0, 5, 4102, 4101, 39, 1025]),
  (⟨"SumWalker", "longestSpell", "(LSumWalker$Walk;)I"⟩, prog_1_method_96_code, 6, some .int, [1, 1, 5, 4105, 4104, 0, 1025]),
  (⟨"SumWalker", "guides", "(II)I"⟩, prog_1_method_37_code, 9, some .int, [2, 0, 5, 4109, 4107, 4108, 1025]),
  (⟨"SumWalker", "markGuides", "(LSumWalker$Walk;)I"⟩, prog_1_method_97_code, 4, some .int, [1, 0, 5, 4113, 4112, 40, 1025]),
  (⟨"SumWalker", "countMarks", "(II)I"⟩, prog_1_method_101_code, 5, some .int, [2, 0, 5, 4117, 4116, 41, 1025]),
  (⟨"SumWalker", "splits", "(III)I"⟩, prog_1_method_38_code, 6, some .int, [3, 0, 5, 4121, 4119, 4120, 1025]),
  (⟨"SumWalker$Walk", "splitFrom", "(LSumWalker$Walk;)I"⟩, prog_6_method_9_code, 4, some .int, [1, 0, 4, 4125, 4123, 4124, 1029]),
  (⟨"SumWalker", "lost", "(II)I"⟩, prog_1_method_39_code, 6, some .int, [2, 0, 5, 4130, 4128, 4129, 1025]),
  (⟨"SumWalker", "duel", "(III)I"⟩, prog_1_method_40_code, 7, some .int, [3, 0, 5, 4134, 4132, 4133, 1025]),
  (⟨"SumWalker$Walk", "countAbove", "(LSumWalker$Walk;)I"⟩, prog_6_method_10_code, 4, some .int, [1, 0, 4, 4138, 4136, 4137, 1029]),
  (⟨"SumWalker$Walk", "countTurns", "(LSumWalker$Walk;)I"⟩, prog_6_method_11_code, 6, some .int, [1, 0, 4, 4142, 4140, 4141, 1029]),
  (⟨"java/lang/Integer", "compare", "(II)I"⟩, prog_9_method_40_code, 2, some .int, [2, 1, 90, 4145, 4144, 0, 1037]),
  (⟨"SumWalker", "meets", "(III)I"⟩, prog_1_method_41_code, 8, some .int, [3, 0, 5, 4149, 4147, 4148, 1025]),
  (⟨"SumWalker", "alike", "(I)I"⟩, prog_1_method_42_code, 7, some .int, [1, 0, 5, 4154, 4152, 4153, 1025]),
  (⟨"SumWalker", "counts", "(III)I"⟩, prog_1_method_43_code, 6, some .int, [3, 0, 5, 4158, 4156, 4157, 1025]),
  (⟨"SumWalker", "isCounted", "(II)Z"⟩, prog_1_method_98_code, 3, some .boolean, [2, 0, 5, 4162, 4161, 42, 1025]),
  (⟨"SumWalker", "mates", "(IIII)I"⟩, prog_1_method_44_code, 8, some .int, [4, 0, 5, 4166, 4164, 4165, 1025]),
  (⟨"SumWalker", "greaterMate", "(I)I"⟩, prog_1_method_99_code, 4, some .int, [1, 0, 5, 4170, 4169, 43, 1025]),
  (⟨"SumWalker", "rings", "(IIII)I"⟩, prog_1_method_45_code, 7, some .int, [4, 0, 5, 4175, 4173, 4174, 1025]),
  (⟨"SumWalker", "isRing", "(II)Z"⟩, prog_1_method_100_code, 7, some .boolean, [2, 0, 5, 4179, 4178, 44, 1025]),
  (⟨"SumWalker", "rows", "(III)I"⟩, prog_1_method_46_code, 9, some .int, [3, 0, 5, 4183, 4181, 4182, 1025]),
  (⟨"SumWalker", "lengths", "(III)I"⟩, prog_1_method_47_code, 6, some .int, [3, 0, 5, 4187, 4185, 4186, 1025]),
  (⟨"SumWalker", "shapes", "(III)I"⟩, prog_1_method_48_code, 10, some .int, [3, 0, 5, 4191, 4189, 4190, 1025]),
  (⟨"SumWalker$Primes", "shapeOf", "(I)I"⟩, prog_4_method_20_code, 5, some .int, [1, 0, 2, 4195, 4193, 4194, 1027]),
  (⟨"SumWalker$Primes", "sortFalling", "()V"⟩, prog_4_method_21_code, 3, none, [0, 0, 2, 4199, 4198, 45, 1027])]
def zMs_5 : List (MethodName × ByteArray × Nat × Option FieldType × List Nat) := [(⟨"SumWalker", "same", "(II)I"⟩, prog_1_method_49_code, 3, some .int, [2, 0, 5, 4203, 4201, 4202, 1025]),
  (⟨"SumWalker", "euler", "(III)J"⟩, prog_1_method_50_code, 9, some .long, [3, 0, 5, 4207, 4205, 4206, 1025]),
  (⟨"SumWalker", "put", "(I)I"⟩, prog_1_method_51_code, 2, some .int, [1, 0, 5, 4211, 4209, 4210, 1025]),
  (⟨"SumWalker", "keepAct", "()V"⟩, prog_1_method_69_code, 1, none, [0, 0, 5, 4215, 4214, 46, 1025]),
  (⟨"SumWalker", "dropOldestAct", "()V"⟩, prog_1_method_70_code, 3, none, [0, 0, 5, 4219, 4218, 47, 1025]),
  (⟨"SumWalker", "retell", "(II)I"⟩, prog_1_method_52_code, 4, some .int, [2, 0, 5, 4224, 4222, 4223, 1025]),
  (⟨"SumWalker", "startRowAt", "(II)V"⟩, prog_1_method_71_code, 3, none, [2, 0, 5, 4228, 4227, 48, 1025]),
  (⟨"SumWalker", "drop", "(I)I"⟩, prog_1_method_53_code, 2, some .int, [1, 0, 5, 4232, 4230, 4231, 1025]),
  (⟨"SumWalker$Desk", "removeRow", "(I)V"⟩, prog_2_method_5_code, 3, none, [1, 0, 0, 4236, 4234, 4235, 1028]),
  (⟨"SumWalker", "follow", "(I)I"⟩, prog_1_method_54_code, 4, some .int, [1, 0, 5, 4240, 4238, 4239, 1025]),
  (⟨"SumWalker", "trade", "(II)I"⟩, prog_1_method_55_code, 4, some .int, [2, 0, 5, 4244, 4242, 4243, 1025]),
  (⟨"SumWalker", "rule", "(II)I"⟩, prog_1_method_56_code, 4, some .int, [2, 0, 5, 4248, 4246, 4247, 1025]),
  (⟨"SumWalker", "canRule", "(II)Z"⟩, prog_1_method_67_code, 2, some .boolean, [2, 1, 5, 4251, 4250, 0, 1025]),
  (⟨"SumWalker", "print", "(I)I"⟩, prog_1_method_57_code, 2, some .int, [1, 0, 5, 4255, 4253, 4254, 1025]),
  (⟨"SumWalker$Ink", "writeRow", "(LSumWalker$Walk;LSumWalker$Primes;)V"⟩, prog_3_method_2_code, 4, none, [2, 0, 1, 4259, 4257, 4258, 1030]),
  (⟨"SumWalker$Ink", "write", "(I)V"⟩, prog_3_method_5_code, 2, none, [1, 0, 1, 4263, 4262, 49, 1030]),
  (⟨"SumWalker$Ink", "writeValue", "(ILSumWalker$Primes;)V"⟩, prog_3_method_3_code, 4, none, [2, 0, 1, 4267, 4266, 50, 1030]),
  (⟨"SumWalker$Ink", "writeNumber", "(I)V"⟩, prog_3_method_4_code, 4, none, [1, 0, 1, 4271, 4270, 51, 1030]),
  (⟨"SumWalker", "out", "(I)I"⟩, prog_1_method_58_code, 2, some .int, [1, 0, 5, 4276, 4274, 4275, 1025]),
  (⟨"SumWalker", "undo", "()I"⟩, prog_1_method_59_code, 1, some .int, [0, 0, 5, 4280, 4278, 4279, 1025]),
  (⟨"SumWalkerModel", "<init>", "()V"⟩, prog_8_method_1_code, 1, none, [0, 0, 6, 4285, 4284, 0, 1031]),
  (⟨"SumWalkerModel", "status", "()I"⟩, prog_8_method_3_code, 1, some .int, [0, 0, 6, 5217, 5215, 5216, 1031]),
  (⟨"SumWalkerModel", "many", "(I)I"⟩, prog_8_method_20_code, 2, some .int, [1, 0, 6, 5221, 5219, 5220, 1031]),
  (⟨"SumWalkerModel", "isIn", "(JJJ)Z"⟩, prog_8_method_6_code, 6, some .boolean, [3, 1, 6, 5225, 5224, 0, 1031]),
  (⟨"SumWalkerModel", "is", "(I)Z"⟩, prog_8_method_5_code, 2, some .boolean, [1, 0, 6, 5229, 5228, 52, 1031]),
  (⟨"SumWalkerModel", "factor", "(III)I"⟩, prog_8_method_21_code, 5, some .int, [3, 0, 6, 5233, 5231, 5232, 1031]),
  (⟨"SumWalkerModel", "isNumber", "(I)Z"⟩, prog_8_method_8_code, 1, some .boolean, [1, 1, 6, 5236, 5235, 0, 1031]),
  (⟨"SumWalkerModel", "factors", "(I)V"⟩, prog_8_method_10_code, 4, none, [1, 0, 6, 5241, 5240, 53, 1031]),
  (⟨"SumWalkerModel", "refuse", "(I)I"⟩, prog_8_method_4_code, 2, some .int, [1, 0, 6, 5245, 5244, 54, 1031]),
  (⟨"SumWalkerModel", "sum", "(I)J"⟩, prog_8_method_22_code, 2, some .long, [1, 0, 6, 5249, 5247, 5248, 1031])]
def zMs_6 : List (MethodName × ByteArray × Nat × Option FieldType × List Nat) := [(⟨"SumWalkerModel", "sumOf", "(I)J"⟩, prog_8_method_17_code, 2, some .long, [1, 0, 6, 5253, 5252, 55, 1031]),
  (⟨"SumWalkerModel", "sumOf", "(II)J"⟩, prog_8_method_16_code, 9, some .long, [2, 0, 6, 5257, 5256, 56, 1031]),
  (⟨"SumWalkerModel", "allOf", "(I)J"⟩, prog_8_method_13_code, 5, some .long, [1, 0, 6, 5261, 5260, 57, 1031]),
  (⟨"SumWalkerModel", "ofPower", "(II)J"⟩, prog_8_method_12_code, 5, some .long, [2, 1, 6, 5264, 5263, 0, 1031]),
  (⟨"SumWalkerModel", "power", "(II)J"⟩, prog_8_method_11_code, 5, some .long, [2, 1, 6, 5267, 5266, 0, 1031]),
  (⟨"SumWalkerModel", "kind", "(I)I"⟩, prog_8_method_23_code, 2, some .int, [1, 0, 6, 5272, 5270, 5271, 1031]),
  (⟨"SumWalkerModel", "kindBy", "(II)I"⟩, prog_8_method_18_code, 5, some .int, [2, 0, 6, 5276, 5275, 58, 1031]),
  (⟨"SumWalkerModel", "guide", "(II)I"⟩, prog_8_method_27_code, 3, some .int, [2, 0, 6, 5280, 5278, 5279, 1031]),
  (⟨"SumWalkerModel", "laysGuide", "(I)V"⟩, prog_8_method_24_code, 3, none, [1, 0, 6, 5285, 5284, 59, 1031]),
  (⟨"SumWalkerModel", "common", "(JJ)J"⟩, prog_8_method_19_code, 10, some .long, [2, 1, 6, 5288, 5287, 0, 1031]),
  (⟨"SumWalkerModel", "guideAt", "()I"⟩, prog_8_method_25_code, 1, some .int, [0, 0, 6, 5292, 5291, 60, 1031]),
  (⟨"SumWalkerModel", "isDriver", "(I)Z"⟩, prog_8_method_26_code, 6, some .boolean, [1, 0, 6, 5296, 5295, 61, 1031]),
  (⟨"SumWalkerModel", "divisor", "(II)I"⟩, prog_8_method_30_code, 3, some .int, [2, 0, 6, 5301, 5299, 5300, 1031]),
  (⟨"SumWalkerModel", "manyDivisors", "(I)I"⟩, prog_8_method_14_code, 4, some .int, [1, 0, 6, 5305, 5304, 62, 1031]),
  (⟨"SumWalkerModel", "laysDivisors", "(I)V"⟩, prog_8_method_28_code, 3, none, [1, 0, 6, 5309, 5308, 63, 1031]),
  (⟨"SumWalkerModel", "lays", "(I)I"⟩, prog_8_method_29_code, 2, some .int, [1, 0, 6, 5313, 5312, 64, 1031]),
  (⟨"SumWalkerModel", "whole", "(I)I"⟩, prog_8_method_31_code, 6, some .int, [1, 0, 6, 5317, 5315, 5316, 1031]),
  (⟨"SumWalkerModel", "index", "(II)J"⟩, prog_8_method_33_code, 3, some .long, [2, 0, 6, 5322, 5320, 5321, 1031]),
  (⟨"SumWalkerModel", "lowest", "(JJI)J"⟩, prog_8_method_32_code, 7, some .long, [3, 1, 6, 5325, 5324, 0, 1031]),
  (⟨"SumWalkerModel", "part", "(II)I"⟩, prog_8_method_34_code, 3, some .int, [2, 0, 6, 5329, 5327, 5328, 1031]),
  (⟨"SumWalkerModel", "kin", "(IIII)I"⟩, prog_8_method_35_code, 9, some .int, [4, 0, 6, 5334, 5332, 5333, 1031]),
  (⟨"SumWalkerModel", "isRange", "(III)Z"⟩, prog_8_method_9_code, 3, some .boolean, [3, 1, 6, 5337, 5336, 0, 1031]),
  (⟨"SumWalkerModel", "kins", "(III)I"⟩, prog_8_method_36_code, 11, some .int, [3, 0, 6, 5341, 5339, 5340, 1031]),
  (⟨"SumWalkerModel", "kinIn", "(IIII)I"⟩, prog_8_method_37_code, 7, some .int, [4, 0, 6, 5345, 5344, 65, 1031]),
  (⟨"SumWalkerModel", "before", "(III)I"⟩, prog_8_method_40_code, 5, some .int, [3, 0, 6, 5349, 5347, 5348, 1031]),
  (⟨"SumWalkerModel", "laysSums", "(I)V"⟩, prog_8_method_38_code, 3, none, [1, 0, 6, 5354, 5353, 66, 1031]),
  (⟨"SumWalkerModel", "beforeAt", "(III)I"⟩, prog_8_method_39_code, 6, some .int, [3, 0, 6, 5358, 5357, 67, 1031]),
  (⟨"SumWalkerModel", "touched", "(III)I"⟩, prog_8_method_41_code, 5, some .int, [3, 0, 6, 6146, 6144, 6145, 1031]),
  (⟨"SumWalkerModel", "untouched", "(III)I"⟩, prog_8_method_42_code, 7, some .int, [3, 0, 6, 6150, 6148, 6149, 1031]),
  (⟨"SumWalkerModel", "primitive", "(I)I"⟩, prog_8_method_43_code, 5, some .int, [1, 0, 6, 6155, 6153, 6154, 1031])]
def zMs_7 : List (MethodName × ByteArray × Nat × Option FieldType × List Nat) := [(⟨"SumWalkerModel", "families", "(II)I"⟩, prog_8_method_46_code, 9, some .int, [2, 0, 6, 6159, 6157, 6158, 1031]),
  (⟨"SumWalkerModel", "joins", "(III)V"⟩, prog_8_method_44_code, 7, none, [3, 0, 6, 6163, 6162, 68, 1031]),
  (⟨"SumWalkerModel", "sizeOf", "(II)I"⟩, prog_8_method_45_code, 5, some .int, [2, 0, 6, 6167, 6166, 69, 1031]),
  (⟨"SumWalkerModel", "record", "(II)I"⟩, prog_8_method_47_code, 11, some .int, [2, 0, 6, 6171, 6169, 6170, 1031]),
  (⟨"SumWalkerModel", "practical", "(I)I"⟩, prog_8_method_48_code, 5, some .int, [1, 0, 6, 6175, 6173, 6174, 1031]),
  (⟨"SumWalkerModel", "ladder", "(II)I"⟩, prog_8_method_49_code, 5, some .int, [2, 0, 6, 6179, 6177, 6178, 1031]),
  (⟨"SumWalkerModel", "mean", "(IZI)J"⟩, prog_8_method_50_code, 8, some .long, [3, 0, 6, 6183, 6181, 6182, 1031]),
  (⟨"SumWalkerModel", "depth", "(II)I"⟩, prog_8_method_52_code, 3, some .int, [2, 0, 6, 6187, 6185, 6186, 1031]),
  (⟨"SumWalkerModel", "depthOf", "(II)I"⟩, prog_8_method_51_code, 6, some .int, [2, 0, 6, 6191, 6190, 70, 1031]),
  (⟨"SumWalkerModel", "euclid", "(II)I"⟩, prog_8_method_53_code, 4, some .int, [2, 0, 6, 6195, 6193, 6194, 1031]),
  (⟨"SumWalkerModel", "isPrime", "(I)Z"⟩, prog_8_method_15_code, 2, some .boolean, [1, 0, 6, 6200, 6199, 71, 1031]),
  (⟨"SumWalkerModel", "row", "(I)I"⟩, prog_8_method_59_code, 2, some .int, [1, 0, 6, 6204, 6202, 6203, 1031]),
  (⟨"SumWalkerModel", "whyRow", "(ZI)I"⟩, prog_8_method_57_code, 3, some .int, [2, 0, 6, 6208, 6207, 72, 1031]),
  (⟨"SumWalkerModel", "isRow", "(I)Z"⟩, prog_8_method_7_code, 2, some .boolean, [1, 0, 6, 6212, 6211, 73, 1031]),
  (⟨"SumWalkerModel", "value", "(II)I"⟩, prog_8_method_60_code, 3, some .int, [2, 0, 6, 6216, 6214, 6215, 1031]),
  (⟨"SumWalkerModel", "hasRow", "(ZI)Z"⟩, prog_8_method_58_code, 3, some .boolean, [2, 0, 6, 6220, 6219, 74, 1031]),
  (⟨"SumWalkerModel", "goes", "(I)V"⟩, prog_8_method_55_code, 2, none, [1, 0, 6, 6224, 6223, 75, 1031]),
  (⟨"SumWalkerModel", "goesBy", "(II)V"⟩, prog_8_method_56_code, 6, none, [2, 0, 6, 6228, 6227, 76, 1031]),
  (⟨"SumWalkerModel", "placeOf", "(J)I"⟩, prog_8_method_54_code, 4, some .int, [1, 0, 6, 6232, 6231, 77, 1031]),
  (⟨"SumWalkerModel", "ends", "(I)I"⟩, prog_8_method_61_code, 2, some .int, [1, 0, 6, 6236, 6234, 6235, 1031]),
  (⟨"SumWalkerModel", "round", "(II)I"⟩, prog_8_method_63_code, 3, some .int, [2, 0, 6, 6240, 6238, 6239, 1031]),
  (⟨"SumWalkerModel", "leastOfRound", "()I"⟩, prog_8_method_62_code, 3, some .int, [0, 0, 6, 6244, 6243, 78, 1031]),
  (⟨"SumWalkerModel", "peak", "(II)I"⟩, prog_8_method_65_code, 3, some .int, [2, 0, 6, 6248, 6246, 6247, 1031]),
  (⟨"SumWalkerModel", "greatestPlace", "()I"⟩, prog_8_method_64_code, 3, some .int, [0, 0, 6, 6252, 6251, 79, 1031]),
  (⟨"SumWalkerModel", "climb", "(II)I"⟩, prog_8_method_66_code, 7, some .int, [2, 0, 6, 6256, 6254, 6255, 1031]),
  (⟨"SumWalkerModel", "total", "(II)J"⟩, prog_8_method_67_code, 6, some .long, [2, 0, 6, 6260, 6258, 6259, 1031]),
  (⟨"SumWalkerModel", "growth", "(II)I"⟩, prog_8_method_68_code, 3, some .int, [2, 0, 6, 6264, 6262, 6263, 1031]),
  (⟨"SumWalkerModel", "kept", "(II)I"⟩, prog_8_method_70_code, 13, some .int, [2, 0, 6, 6268, 6266, 6267, 1031]),
  (⟨"SumWalkerModel", "guideOf", "(I)I"⟩, prog_8_method_69_code, 2, some .int, [1, 0, 6, 6272, 6271, 80, 1031]),
  (⟨"SumWalkerModel", "lost", "(II)I"⟩, prog_8_method_71_code, 6, some .int, [2, 0, 6, 6276, 6274, 6275, 1031])]
def zMs_8 : List (MethodName × ByteArray × Nat × Option FieldType × List Nat) := [(⟨"SumWalkerModel", "guides", "(II)I"⟩, prog_8_method_74_code, 9, some .int, [2, 0, 6, 6280, 6278, 6279, 1031]),
  (⟨"SumWalkerModel", "hadAhead", "(I)Z"⟩, prog_8_method_73_code, 3, some .boolean, [1, 0, 6, 6284, 6283, 81, 1031]),
  (⟨"SumWalkerModel", "placesWith", "(I)I"⟩, prog_8_method_72_code, 4, some .int, [1, 0, 6, 6288, 6287, 82, 1031]),
  (⟨"SumWalkerModel", "splits", "(III)I"⟩, prog_8_method_75_code, 6, some .int, [3, 0, 6, 6292, 6290, 6291, 1031]),
  (⟨"SumWalkerModel", "laysAside", "(I)V"⟩, prog_8_method_77_code, 3, none, [1, 0, 6, 6296, 6295, 83, 1031]),
  (⟨"SumWalkerModel", "duel", "(III)I"⟩, prog_8_method_78_code, 11, some .int, [3, 0, 6, 6300, 6298, 6299, 1031]),
  (⟨"SumWalkerModel", "hasRows", "(ZII)Z"⟩, prog_8_method_76_code, 5, some .boolean, [3, 0, 6, 6304, 6303, 84, 1031]),
  (⟨"SumWalkerModel", "meets", "(III)I"⟩, prog_8_method_80_code, 6, some .int, [3, 0, 6, 6308, 6306, 6307, 1031]),
  (⟨"SumWalkerModel", "placeAside", "(I)I"⟩, prog_8_method_79_code, 3, some .int, [1, 0, 6, 6312, 6311, 85, 1031]),
  (⟨"SumWalkerModel", "alike", "(I)I"⟩, prog_8_method_82_code, 6, some .int, [1, 0, 6, 6316, 6314, 6315, 1031]),
  (⟨"SumWalkerModel", "endOf", "(I)J"⟩, prog_8_method_81_code, 2, some .long, [1, 0, 6, 6320, 6319, 86, 1031]),
  (⟨"SumWalkerModel", "counts", "(III)I"⟩, prog_8_method_83_code, 7, some .int, [3, 0, 6, 6324, 6322, 6323, 1031]),
  (⟨"SumWalkerModel", "mates", "(IIII)I"⟩, prog_8_method_84_code, 9, some .int, [4, 0, 6, 6328, 6326, 6327, 1031]),
  (⟨"SumWalkerModel", "rings", "(IIII)I"⟩, prog_8_method_86_code, 7, some .int, [4, 0, 6, 6332, 6330, 6331, 1031]),
  (⟨"SumWalkerModel", "isRing", "(II)Z"⟩, prog_8_method_85_code, 6, some .boolean, [2, 0, 6, 6337, 6336, 87, 1031]),
  (⟨"SumWalkerModel", "rows", "(III)I"⟩, prog_8_method_87_code, 10, some .int, [3, 0, 6, 6341, 6339, 6340, 1031]),
  (⟨"SumWalkerModel", "lengths", "(III)I"⟩, prog_8_method_88_code, 6, some .int, [3, 0, 6, 6346, 6344, 6345, 1031]),
  (⟨"SumWalkerModel", "shapes", "(III)I"⟩, prog_8_method_90_code, 12, some .int, [3, 0, 6, 6350, 6348, 6349, 1031]),
  (⟨"SumWalkerModel", "shapeOf", "(I)J"⟩, prog_8_method_89_code, 6, some .long, [1, 0, 6, 6354, 6353, 88, 1031]),
  (⟨"SumWalkerModel", "same", "(II)I"⟩, prog_8_method_91_code, 3, some .int, [2, 0, 6, 6359, 6357, 6358, 1031]),
  (⟨"SumWalkerModel", "euler", "(III)J"⟩, prog_8_method_92_code, 9, some .long, [3, 0, 6, 6363, 6361, 6362, 1031]),
  (⟨"SumWalkerModel", "put", "(I)I"⟩, prog_8_method_94_code, 2, some .int, [1, 0, 6, 6369, 6367, 6368, 1031]),
  (⟨"SumWalkerModel", "remembers", "()V"⟩, prog_8_method_93_code, 2, none, [0, 0, 6, 6373, 6372, 89, 1031]),
  (⟨"SumWalkerModel", "retell", "(II)I"⟩, prog_8_method_95_code, 4, some .int, [2, 0, 6, 6377, 6375, 6376, 1031]),
  (⟨"SumWalkerModel", "drop", "(I)I"⟩, prog_8_method_96_code, 3, some .int, [1, 0, 6, 6381, 6379, 6380, 1031]),
  (⟨"SumWalkerModel", "follow", "(I)I"⟩, prog_8_method_97_code, 2, some .int, [1, 0, 6, 7169, 6383, 7168, 1031]),
  (⟨"SumWalkerModel", "trade", "(II)I"⟩, prog_8_method_98_code, 4, some .int, [2, 0, 6, 7173, 7171, 7172, 1031]),
  (⟨"SumWalkerModel", "rule", "(II)I"⟩, prog_8_method_100_code, 5, some .int, [2, 0, 6, 7177, 7175, 7176, 1031]),
  (⟨"SumWalkerModel", "mostOf", "(I)I"⟩, prog_8_method_99_code, 1, some .int, [1, 1, 6, 7180, 7179, 0, 1031]),
  (⟨"SumWalkerModel", "undo", "()I"⟩, prog_8_method_101_code, 2, some .int, [0, 0, 6, 7185, 7183, 7184, 1031])]
def zMs_9 : List (MethodName × ByteArray × Nat × Option FieldType × List Nat) := [(⟨"SumWalkerModel", "print", "(I)I"⟩, prog_8_method_105_code, 3, some .int, [1, 0, 6, 7189, 7187, 7188, 1031]),
  (⟨"SumWalkerModel", "says", "(I)V"⟩, prog_8_method_102_code, 2, none, [1, 0, 6, 7193, 7192, 90, 1031]),
  (⟨"SumWalkerModel", "saysPrimes", "(I)V"⟩, prog_8_method_104_code, 3, none, [1, 0, 6, 7197, 7196, 91, 1031]),
  (⟨"SumWalkerModel", "saysNumber", "(I)V"⟩, prog_8_method_103_code, 3, none, [1, 0, 6, 7201, 7200, 92, 1031]),
  (⟨"SumWalkerModel", "out", "(I)I"⟩, prog_8_method_106_code, 2, some .int, [1, 0, 6, 7205, 7203, 7204, 1031]),
  (⟨"SumWalkerModel", "feed", "(IIIII)I"⟩, prog_8_method_108_code, 6, some .int, [5, 0, 6, 7209, 7207, 7208, 1031]),
  (⟨"SumWalkerModel", "feeds", "(I)V"⟩, prog_8_method_107_code, 3, none, [1, 0, 6, 7213, 7212, 93, 1031]),
  (⟨"SumWalkerModel", "load", "(I)I"⟩, prog_8_method_120_code, 3, some .int, [1, 0, 6, 7217, 7215, 7216, 1031]),
  (⟨"SumWalkerModel", "reads", "()V"⟩, prog_8_method_110_code, 1, none, [0, 0, 6, 7221, 7220, 94, 1031]),
  (⟨"SumWalkerModel", "isOf", "(III)Z"⟩, prog_8_method_109_code, 4, some .boolean, [3, 0, 6, 7225, 7224, 95, 1031]),
  (⟨"SumWalkerModel", "good", "()Z"⟩, prog_8_method_111_code, 1, some .boolean, [0, 0, 6, 7231, 7230, 96, 1031]),
  (⟨"SumWalkerModel", "line", "()V"⟩, prog_8_method_119_code, 2, none, [0, 0, 6, 7235, 7234, 97, 1031]),
  (⟨"SumWalkerModel", "isWord", "(I)Z"⟩, prog_8_method_114_code, 2, some .boolean, [1, 0, 6, 7239, 7238, 98, 1031]),
  (⟨"SumWalkerModel", "readsRow", "()V"⟩, prog_8_method_117_code, 3, none, [0, 0, 6, 7243, 7242, 99, 1031]),
  (⟨"SumWalkerModel", "must", "(ZI)V"⟩, prog_8_method_112_code, 3, none, [2, 0, 6, 7247, 7246, 100, 1031]),
  (⟨"SumWalkerModel", "goesOn", "()V"⟩, prog_8_method_113_code, 1, none, [0, 0, 6, 7251, 7250, 101, 1031]),
  (⟨"SumWalkerModel", "isName", "()Z"⟩, prog_8_method_115_code, 2, some .boolean, [0, 0, 6, 7255, 7254, 102, 1031]),
  (⟨"SumWalkerModel", "takesNumber", "(I)I"⟩, prog_8_method_116_code, 3, some .int, [1, 0, 6, 7259, 7258, 103, 1031]),
  (⟨"SumWalkerModel", "readsLaw", "()V"⟩, prog_8_method_118_code, 3, none, [0, 0, 6, 7263, 7262, 104, 1031]),
  (⟨"SumWalkerModel", "fault", "(I)I"⟩, prog_8_method_121_code, 2, some .int, [1, 0, 6, 7267, 7265, 7266, 1031])]
def zMs : List (MethodName × ByteArray × Nat × Option FieldType × List Nat) := zMs_0 ++ zMs_1 ++ zMs_2 ++ zMs_3 ++ zMs_4 ++ zMs_5 ++ zMs_6 ++ zMs_7 ++ zMs_8 ++ zMs_9
end
section
/-! a machine of small steps over whole numbers: what the bytecode does, as a function -/
abbrev zV : Type := Nat × Int
abbrev zI (x : Int) : zV := (0, x)
abbrev zL (x : Int) : zV := (1, x)
abbrev zR (x : Int) : zV := (2, x)
abbrev zJ : zV := (3, 0)
abbrev zO : zV := (4, 0)
/-- the script's length; the shapes of our cells in the order of their making; what all cells hold -/
abbrev zHp : Type := Nat × List (Nat × Nat) × (Int → Int → Int)
def w32 (x : Int) : Int := Int.bmod x 4294967296
def w64 (x : Int) : Int := Int.bmod x 18446744073709551616
def zand (x y : Int) : Int := (Int32.ofInt x &&& Int32.ofInt y).toInt
def zor (x y : Int) : Int := (Int32.ofInt x ||| Int32.ofInt y).toInt
def zshl (x y : Int) : Int := (Int32.ofInt x <<< (Int32.ofInt y &&& 31)).toInt
def zshr (x y : Int) : Int := (Int32.ofInt x >>> (Int32.ofInt y &&& 31)).toInt
def zushr (x y : Int) : Int := ((Int32.ofInt x).toUInt32 >>> ((Int32.ofInt y).toUInt32 &&& Int32.toUInt32 31)).toInt32.toInt
def zandL (x y : Int) : Int := (Int64.ofInt x &&& Int64.ofInt y).toInt
def zorL (x y : Int) : Int := (Int64.ofInt x ||| Int64.ofInt y).toInt
def zshlL (x y : Int) : Int := (Int64.ofInt x <<< ((Int32.ofInt y).toInt64 &&& 63)).toInt
def zushrL (x y : Int) : Int := ((Int64.ofInt x).toUInt64 >>> ((Int32.ofInt y).toInt64.toUInt64 &&& Int64.toUInt64 63)).toInt64.toInt
def zIar (op : Nat) (x y : Int) : Option Int := match op with
  | 0 => some (w32 (x + y))
  | 1 => some (w32 (x - y))
  | 2 => some (w32 (x * y))
  | 3 => some (zand x y)
  | 4 => some (zor x y)
  | 6 => if y = 0 then none else some (w32 (Int.tdiv x y))
  | 7 => if y = 0 then none else some (Int.tmod x y)
  | 8 => some (zshl x y)
  | 9 => some (zshr x y)
  | 10 => some (zushr x y)
  | _ => none
def zLar (op : Nat) (x y : Int) : Option Int := match op with
  | 0 => some (w64 (x + y))
  | 1 => some (w64 (x - y))
  | 2 => some (w64 (x * y))
  | 3 => some (zandL x y)
  | 4 => some (zorL x y)
  | 6 => if y = 0 then none else some (w64 (Int.tdiv x y))
  | 7 => if y = 0 then none else some (Int.tmod x y)
  | _ => none
def zcmp (x y : Int) : Int := if y < x then 1 else if x = y then 0 else -1
def zcond (op : Nat) (x y : Int) : Bool := match op with
  | 0 => decide (x = y)
  | 1 => decide (¬ x = y)
  | 2 => decide (x < y)
  | 3 => decide (y ≤ x)
  | 4 => decide (y < x)
  | _ => decide (x ≤ y)
def zstrs : List (List Int) := [[114, 111, 119], [98, 111, 117, 110, 100], [115, 116, 101, 112, 115], [108, 97, 119], [112, 108, 97, 105, 110], [117, 110, 105, 116, 97, 114, 121], [114, 101, 100, 117, 99, 101, 100], [98, 97, 114, 101]]
def zF (L : Nat) (a : Int) : Option (Nat × Nat) := if a = 0 then some (100, L) else if a = 1 then some (100, 168) else if a < 10 then some (90, 2) else if a < 18 then some (91, (zstrs.getD (a - 10).toNat []).length) else none
def zsh (S : zHp) (a : Int) : Option (Nat × Nat) := if a < 0 then none else if a < 32 then zF S.1 a else S.2.1[(a - 32).toNat]?
def zup (H : Int → Int → Int) (a j x : Int) : Int → Int → Int := fun a' j' => if a' = a ∧ j' = j then x else H a' j'
def znew (H : Int → Int → Int) (a : Int) (f : Int → Int) : Int → Int → Int := fun a' j' => if a' = a then f j' else H a' j'
/-- the kind of a field: 0 int, 1 long, 2 a reference, 3 boolean -/
def zkind : FieldType → Nat
  | .int => 0
  | .long => 1
  | .boolean => 3
  | _ => 2
def ztys : List (Nat → FieldType) := [tyX0, tyX1, tyX2, tyX3, tyX4, tyX5, tyX6]
def zft (ci k : Nat) : Nat := zkind ((ztys.getD ci tyX0) k)
def ztag (ft : Nat) (x : Int) : zV := match ft with
  | 0 => (0, x)
  | 1 => (1, x)
  | 2 => (2, x)
  | _ => (0, x)
def zbool (x : Int) : Bool := decide (x = 0) || decide (x = 1)
def zi8 (x : Int) : Int := (Int32.ofInt x).toInt8.toInt32.toInt
def zcat (v : zV) : Nat := if v.1 = 1 then 2 else 1
def zkill (ls : List zV) (i : Nat) : List zV := match i with
  | 0 => ls
  | k + 1 => if (ls.getD k zJ).1 = 1 then ls.set k zJ else ls
def zset1 (ls : List zV) (i : Nat) (v : zV) : List zV := (zkill ls i).set i v
def zset2 (ls : List zV) (i : Nat) (v : zV) : List zV := ((zkill ls i).set i v).set (i + 1) zJ
abbrev zNx : Type := Nat × List zV × List zV × zHp
abbrev zSem : Type := zC → Nat → List zV → List zV → zHp → Option zNx
def zs_iconst : zSem := fun i pc ls st S => some (pc + i.2.1, ls, zI i.2.2.2.2.1 :: st, S)
def zs_lconst : zSem := fun i pc ls st S => some (pc + i.2.1, ls, zL i.2.2.2.2.1 :: st, S)
def zs_iload : zSem := fun i pc ls st S => match ls[i.2.2.1]? with
  | some (0, x) => some (pc + i.2.1, ls, zI x :: st, S)
  | _ => none
def zs_lload : zSem := fun i pc ls st S => match ls[i.2.2.1]? with
  | some (1, x) => some (pc + i.2.1, ls, zL x :: st, S)
  | _ => none
def zs_aload : zSem := fun i pc ls st S => match ls[i.2.2.1]? with
  | some (2, x) => if x < 0 then none else some (pc + i.2.1, ls, zR x :: st, S)
  | some (4, x) => some (pc + i.2.1, ls, (4, x) :: st, S)
  | _ => none
def zs_istore : zSem := fun i pc ls st S => match st with
  | (0, x) :: st' => if i.2.2.1 < ls.length then some (pc + i.2.1, zset1 ls i.2.2.1 (zI x), st', S) else none
  | _ => none
def zs_lstore : zSem := fun i pc ls st S => match st with
  | (1, x) :: st' => if i.2.2.1 + 1 < ls.length then some (pc + i.2.1, zset2 ls i.2.2.1 (zL x), st', S) else none
  | _ => none
def zs_astore : zSem := fun i pc ls st S => match st with
  | (2, x) :: st' => if x < 0 then none else if i.2.2.1 < ls.length then some (pc + i.2.1, zset1 ls i.2.2.1 (zR x), st', S) else none
  | _ => none
def zs_iinc : zSem := fun i pc ls st S => match ls[i.2.2.1]? with
  | some (0, x) => some (pc + i.2.1, zset1 ls i.2.2.1 (zI (w32 (x + i.2.2.2.2.1))), st, S)
  | _ => none
def zs_iar : zSem := fun i pc ls st S => match st with
  | (0, y) :: (0, x) :: st' => (zIar i.2.2.1 x y).map fun r => (pc + i.2.1, ls, zI r :: st', S)
  | _ => none
def zs_lar : zSem := fun i pc ls st S => match st with
  | (1, y) :: (1, x) :: st' => (zLar i.2.2.1 x y).map fun r => (pc + i.2.1, ls, zL r :: st', S)
  | _ => none
def zs_lsh : zSem := fun i pc ls st S => match st with
  | (0, y) :: (1, x) :: st' => some (pc + i.2.1, ls, zL (if i.2.2.1 = 0 then zshlL x y else zushrL x y) :: st', S)
  | _ => none
def zs_un : zSem := fun i pc ls st S => match i.2.2.1, st with
  | 0, (0, x) :: st' => some (pc + i.2.1, ls, zI (w32 (-x)) :: st', S)
  | 1, (0, x) :: st' => some (pc + i.2.1, ls, zL x :: st', S)
  | 2, (1, x) :: st' => some (pc + i.2.1, ls, zI (w32 x) :: st', S)
  | 3, (0, x) :: st' => some (pc + i.2.1, ls, zI (zi8 x) :: st', S)
  | 4, (0, x) :: st' => if 0 ≤ x ∧ x < 65536 then some (pc + i.2.1, ls, zI x :: st', S) else none
  | _, _ => none
def zs_lcmp : zSem := fun i pc ls st S => match st with
  | (1, y) :: (1, x) :: st' => some (pc + i.2.1, ls, zI (zcmp x y) :: st', S)
  | _ => none
def zs_if : zSem := fun i pc ls st S => match st with
  | (0, x) :: st' => some (if zcond i.2.2.1 x 0 = true then i.2.2.2.1 else pc + i.2.1, ls, st', S)
  | _ => none
def zs_icmp : zSem := fun i pc ls st S => match st with
  | (0, y) :: (0, x) :: st' => some (if zcond i.2.2.1 x y = true then i.2.2.2.1 else pc + i.2.1, ls, st', S)
  | _ => none
def zs_goto : zSem := fun i pc ls st S => some (i.2.2.2.1, ls, st, S)
def zs_get : zSem := fun i pc ls st S => match st with
  | (2, a) :: st' => match zsh S a with
    | some (c, n) => if c = i.2.2.1 ∧ i.2.2.2.1 < n ∧ 32 ≤ a then some (pc + i.2.1, ls, ztag (zft i.2.2.1 i.2.2.2.1) (S.2.2 a i.2.2.2.1) :: st', S) else none
    | none => none
  | _ => none
def zokv (ft : Nat) (v : zV) : Bool := match ft with
  | 0 => v.1 == 0
  | 1 => v.1 == 1
  | 2 => v.1 == 2
  | _ => v.1 == 0 && zbool v.2
def zs_put : zSem := fun i pc ls st S => match st with
  | v :: (2, a) :: st' => match zsh S a with
    | some (c, n) => if c = i.2.2.1 ∧ i.2.2.2.1 < n ∧ 32 ≤ a ∧ zokv (zft i.2.2.1 i.2.2.2.1) v = true then some (pc + i.2.1, ls, st', S.1, S.2.1, zup S.2.2 a i.2.2.2.1 v.2) else none
    | none => none
  | _ => none
def zs_alen : zSem := fun i pc ls st S => match st with
  | (2, a) :: st' => match zsh S a with
    | some (c, n) => if 91 ≤ c then some (pc + i.2.1, ls, zI n :: st', S) else none
    | none => none
  | _ => none
def zldok (t c : Nat) : Bool := match t with
  | 0 => c == 100
  | 1 => c == 101
  | 2 => c == 102 || c == 103 || c == 91
  | _ => c == 104 || c == 105
def zs_ald : zSem := fun i pc ls st S => match st with
  | (0, j) :: (2, a) :: st' => match zsh S a with
    | some (c, n) => if zldok i.2.2.1 c = true ∧ 0 ≤ j ∧ j < n then some (pc + i.2.1, ls, ztag (if i.2.2.1 = 4 then 2 else if i.2.2.1 = 1 then 1 else 0) (S.2.2 a j) :: st', S) else none
    | none => none
  | _ => none
def zs_iast : zSem := fun i pc ls st S => match st with
  | (0, x) :: (0, j) :: (2, a) :: st' => match zsh S a with
    | some (c, n) => if c = 100 ∧ 0 ≤ j ∧ j < n ∧ 32 ≤ a then some (pc + i.2.1, ls, st', S.1, S.2.1, zup S.2.2 a j x) else none
    | none => none
  | _ => none
def zs_last : zSem := fun i pc ls st S => match st with
  | (1, x) :: (0, j) :: (2, a) :: st' => match zsh S a with
    | some (c, n) => if c = 101 ∧ 0 ≤ j ∧ j < n ∧ 32 ≤ a then some (pc + i.2.1, ls, st', S.1, S.2.1, zup S.2.2 a j x) else none
    | none => none
  | _ => none
def zs_bast : zSem := fun i pc ls st S => match st with
  | (0, x) :: (0, j) :: (2, a) :: st' => match zsh S a with
    | some (c, n) => if c = 102 ∧ 0 ≤ j ∧ j < n ∧ 32 ≤ a then some (pc + i.2.1, ls, st', S.1, S.2.1, zup S.2.2 a j (zi8 x)) else if c = 103 ∧ 0 ≤ j ∧ j < n ∧ 32 ≤ a ∧ zbool x = true then some (pc + i.2.1, ls, st', S.1, S.2.1, zup S.2.2 a j x) else none
    | none => none
  | _ => none
def zs_aast : zSem := fun i pc ls st S => match st with
  | (2, x) :: (0, j) :: (2, a) :: st' => match zsh S a, zsh S x with
    | some (c, n), some (c2, n2) => if ((c = 104 ∧ c2 = 0) ∨ (c = 105 ∧ c2 = 4)) ∧ 0 ≤ j ∧ j < n ∧ 32 ≤ a ∧ 32 ≤ x then some (pc + i.2.1, ls, st', S.1, S.2.1, zup S.2.2 a j x) else none
    | _, _ => none
  | _ => none
def zs_xast : zSem := fun i pc ls st S => match i.2.2.1 with
  | 0 => zs_iast i pc ls st S
  | 1 => zs_last i pc ls st S
  | 2 => zs_bast i pc ls st S
  | 4 => zs_aast i pc ls st S
  | _ => none
def zs_dup : zSem := fun i pc ls st S => match st with
  | v :: st' => if zcat v = 1 then some (pc + i.2.1, ls, v :: v :: st', S) else none
  | _ => none
def zs_dup2 : zSem := fun i pc ls st S => match st with
  | v :: st' => if zcat v = 2 then some (pc + i.2.1, ls, v :: v :: st', S) else match st' with
    | u :: st2 => if zcat u = 1 then some (pc + i.2.1, ls, v :: u :: v :: u :: st2, S) else none
    | _ => none
  | _ => none
def zs_newa : zSem := fun i pc ls st S => match st with
  | (0, n) :: st' => if 0 ≤ n ∧ n ≤ 100000 ∧ i.2.2.1 < 4 then some (pc + i.2.1, ls, zR (32 + S.2.1.length) :: st', S.1, S.2.1 ++ [(100 + i.2.2.1, n.toNat)], znew S.2.2 (32 + S.2.1.length) (fun _ => 0)) else none
  | _ => none
def zs_newq : zSem := fun i pc ls st S => match st with
  | (0, n) :: st' => if 0 ≤ n ∧ n ≤ 100000 ∧ (i.2.2.1 = 4 ∨ i.2.2.1 = 5) then some (pc + i.2.1, ls, zR (32 + S.2.1.length) :: st', S.1, S.2.1 ++ [(100 + i.2.2.1, n.toNat)], znew S.2.2 (32 + S.2.1.length) (fun _ => -1)) else none
  | _ => none
def znf : List Nat := [5, 2, 4, 11, 5, 15, 44]
def zs_new : zSem := fun i pc ls st S => if i.2.2.1 < 7 then some (pc + i.2.1, ls, zR (32 + S.2.1.length) :: st, S.1, S.2.1 ++ [(i.2.2.1, znf.getD i.2.2.1 0)], znew S.2.2 (32 + S.2.1.length) (fun j => if zft i.2.2.1 j.toNat = 2 then -1 else 0)) else none
def zs_table : zSem := fun i pc ls st S => match st with
  | (0, x) :: st' => if x < i.2.2.2.2.1 ∨ i.2.2.2.2.1 + i.2.2.2.2.2.length ≤ x then some (i.2.2.2.1, ls, st', S) else some ((i.2.2.2.2.2.getD (x - i.2.2.2.2.1).toNat 0).toNat, ls, st', S)
  | _ => none
def zlook (df : Nat) (x : Int) : List Int → Nat
  | k :: t :: r => if x = k then t.toNat else zlook df x r
  | _ => df
def zs_look : zSem := fun i pc ls st S => match st with
  | (0, x) :: st' => some (zlook i.2.2.2.1 x i.2.2.2.2.2, ls, st', S)
  | _ => none
def zs_stat : zSem := fun i pc ls st S => match i.2.2.1 with
  | 0 => some (pc + i.2.1, ls, zR 1 :: st, S)
  | 1 => some (pc + i.2.1, ls, zI 1 :: st, S)
  | _ => some (pc + i.2.1, ls, zO :: st, S)
def zs_ldcs : zSem := fun i pc ls st S => if i.2.2.1 < 8 then some (pc + i.2.1, ls, zR (2 + i.2.2.1) :: st, S) else none
def zs_pop : zSem := fun i pc ls st S => match st with
  | v :: st' => if zcat v = 1 then some (pc + i.2.1, ls, st', S) else none
  | _ => none
def zs_obj : zSem := fun i pc ls st S => match st with
  | (2, a) :: st' => if 0 ≤ a ∧ (st'.map zcat).sum ≤ 8 then some (pc + i.2.1, ls, st', S) else none
  | _ => none
def zs_sget : zSem := fun i pc ls st S => match st with
  | (2, a) :: st' => if 2 ≤ a ∧ a < 10 then some (pc + i.2.1, ls, (if i.2.2.1 = 0 then zR (a + 8) else zI 0) :: st', S) else none
  | _ => none
def zs_math : Nat → zSem := fun q i pc ls st S => match q, st with
  | 0, (0, y) :: (0, x) :: st' => if (st'.map zcat).sum ≤ 8 then some (pc + i.2.1, ls, zI (if x < y then y else x) :: st', S) else none
  | 1, (0, y) :: (0, x) :: st' => if (st'.map zcat).sum ≤ 8 then some (pc + i.2.1, ls, zI (if y < x then y else x) :: st', S) else none
  | 2, (1, y) :: (1, x) :: st' => if (st'.map zcat).sum ≤ 8 then some (pc + i.2.1, ls, zL (if y < x then x else y) :: st', S) else none
  | _, _ => none
def zs_no : zSem := fun _ _ _ _ _ => none
def zsems : List zSem := [zs_no, zs_iconst, zs_lconst, zs_iload, zs_lload, zs_aload, zs_istore, zs_lstore, zs_astore, zs_iinc, zs_iar, zs_lar, zs_lsh, zs_un, zs_lcmp, zs_if, zs_icmp, zs_goto, zs_get, zs_put, zs_alen, zs_ald, zs_xast, zs_dup, zs_dup2, zs_newa, zs_newq, zs_new, zs_no, zs_no, zs_table, zs_stat, zs_ldcs, zs_pop, zs_obj, zs_sget, zs_look, zs_math 0, zs_math 1, zs_math 2]
def zstep : zSem := fun i pc ls st S => (zsems.getD i.1 zs_no) i pc ls st S
/-- the methods' words -/
def zMd : MethodName × ByteArray × Nat × Option FieldType × List Nat := (⟨"", "", ""⟩, ⟨#[]⟩, 0, none, [])
def zmn (y : Nat) : MethodName := (zMs.getD y zMd).1
def zby (y : Nat) : ByteArray := (zMs.getD y zMd).2.1
def zml (y : Nat) : Nat := (zMs.getD y zMd).2.2.1
def zrt (y : Nat) : Option FieldType := (zMs.getD y zMd).2.2.2.1
def zin (y k : Nat) : Nat := (zMs.getD y zMd).2.2.2.2.getD k 0
def zargs : List zV → List zV
  | [] => []
  | v :: vs => if v.1 = 1 then v :: zJ :: zargs vs else v :: zargs vs
def zentry (y : Nat) (as : List zV) : List zV := zargs as ++ List.replicate (zml y - (zargs as).length) zJ
def zrecv (S : zHp) (b y : Nat) (as : List zV) : Bool := if b % 4 = 1 then true else match as with
  | (2, a) :: _ => match zsh S a with
    | some (c, _) => c == zin y 2
    | none => false
  | _ => false
def zrefok (v : zV) : Bool := decide (v.1 < 5) && !(v.1 == 3)
def zcall (i : zC) (st : List zV) (S : zHp) : Option (List zV × List zV) :=
  let n := i.2.2.2.2.1.toNat
  let as := (st.take n).reverse
  if as.length = n ∧ ((st.drop n).map zcat).sum ≤ 8 ∧ (zargs as).length ≤ zml i.2.2.1 ∧ zrecv S i.2.2.2.1 i.2.2.1 as = true ∧ as.all zrefok = true then some (as, st.drop n) else none
def zret (a : Nat) (st : List zV) : Option zV := match a, st with
  | 0, [] => some zJ
  | 1, [(0, x)] => some (zI x)
  | 2, [(1, x)] => some (zL x)
  | 3, [(2, x)] => if x < 0 then none else some (zR x)
  | 4, [(0, x)] => if zbool x = true then some (zI x) else none
  | 5, [(0, x)] => if 0 ≤ x ∧ x < 65536 then some (zI x) else none
  | 6, [(0, x)] => if -128 ≤ x ∧ x < 128 then some (zI x) else none
  | _, _ => none
def zfetch (y pc : Nat) : Option zC := (zprog.getD y []).getD pc none
def ex : Nat → Nat → Nat → Nat → List zV → List zV → zHp → Option (zV × zHp)
  | 0, _, _, _, _, _, _ => none
  | n + 1, d, y, pc, ls, st, S =>
    match zfetch y pc with
    | none => none
    | some i =>
      if i.1 = 100 then (zret i.2.2.1 st).map fun r => (r, S)
      else if i.1 = 101 then
        match d with
        | 0 => none
        | d' + 1 =>
          match zcall i st S with
          | none => none
          | some (as, st') =>
            match ex n d' i.2.2.1 0 (zentry i.2.2.1 as) [] S with
            | none => none
            | some (r, S') => ex n (d' + 1) y (pc + i.2.1) ls (if r.1 = 3 then st' else r :: st') S'
      else match zstep i pc ls st S with
        | none => none
        | some (pc', ls', st', S') => ex n d y pc' ls' st' S'
theorem ex_test : (ex 5000 20 1 0 (zentry 1 [zR 32]) [] (0, [(5, 15)], fun _ _ => 0)).isSome = true := by decide +kernel
end
section
/-! numbers, and how a state of the small machine stands for cells -/
def r32 (x : Int) : Prop := -2147483648 ≤ x ∧ x ≤ 2147483647
def r64 (x : Int) : Prop := -9223372036854775808 ≤ x ∧ x ≤ 9223372036854775807
theorem z32 {x : Int} (h : r32 x) : (Int32.ofInt x).toInt = x := Int32.toInt_ofInt_of_le (by have := h.1; omega) (by have := h.2; omega)
theorem z64 {x : Int} (h : r64 x) : (Int64.ofInt x).toInt = x := Int64.toInt_ofInt_of_le (by have := h.1; omega) (by have := h.2; omega)
theorem r32_i (x : Int32) : r32 x.toInt := ⟨by have := x.le_toInt; omega, by have := x.toInt_lt; omega⟩
theorem r64_i (x : Int64) : r64 x.toInt := ⟨by have := x.le_toInt; omega, by have := x.toInt_lt; omega⟩
theorem w32_eq (x : Int) : w32 x = (Int32.ofInt x).toInt := by rw [Int32.toInt_ofInt]; rfl
theorem w64_eq (x : Int) : w64 x = (Int64.ofInt x).toInt := by rw [Int64.toInt_ofInt]; rfl
theorem w32_of (x : Int) : Int32.ofInt (w32 x) = Int32.ofInt x := by rw [w32_eq, Int32.ofInt_toInt]
theorem w64_of (x : Int) : Int64.ofInt (w64 x) = Int64.ofInt x := by rw [w64_eq, Int64.ofInt_toInt]
theorem w32_r (x : Int) : r32 (w32 x) := by rw [w32_eq]; exact r32_i _
theorem w64_r (x : Int) : r64 (w64 x) := by rw [w64_eq]; exact r64_i _
theorem z32_inj {x y : Int} (hx : r32 x) (hy : r32 y) : Int32.ofInt x = Int32.ofInt y ↔ x = y := ⟨fun h => by rw [← z32 hx, ← z32 hy, h], fun h => by rw [h]⟩
theorem z64_inj {x y : Int} (hx : r64 x) (hy : r64 y) : Int64.ofInt x = Int64.ofInt y ↔ x = y := ⟨fun h => by rw [← z64 hx, ← z64 hy, h], fun h => by rw [h]⟩
theorem z32_lt {x y : Int} (hx : r32 x) (hy : r32 y) : Int32.ofInt x < Int32.ofInt y ↔ x < y := by rw [Int32.lt_iff_toInt_lt, z32 hx, z32 hy]
theorem z32_le {x y : Int} (hx : r32 x) (hy : r32 y) : Int32.ofInt x ≤ Int32.ofInt y ↔ x ≤ y := by rw [Int32.le_iff_toInt_le, z32 hx, z32 hy]
theorem z64_lt {x y : Int} (hx : r64 x) (hy : r64 y) : Int64.ofInt x < Int64.ofInt y ↔ x < y := by rw [Int64.lt_iff_toInt_lt, z64 hx, z64 hy]
theorem z32_0 : Int32.ofInt 0 = 0 := rfl
theorem z32_ne0 {y : Int} (hy : r32 y) (h : ¬ y = 0) : ¬ Int32.ofInt y = 0 := fun q => h ((z32_inj hy ⟨by decide, by decide⟩).mp q)
theorem z64_ne0 {y : Int} (hy : r64 y) (h : ¬ y = 0) : ¬ Int64.ofInt y = 0 := fun q => h ((z64_inj hy ⟨by decide, by decide⟩).mp q)
theorem z32_div {x y : Int} (hx : r32 x) (hy : r32 y) : Int32.ofInt x / Int32.ofInt y = Int32.ofInt (w32 (Int.tdiv x y)) := by
  apply Int32.toInt_inj.mp
  rw [Int32.toInt_div, z32 hx, z32 hy, w32_of, ← w32_eq]; rfl
theorem z64_div {x y : Int} (hx : r64 x) (hy : r64 y) : Int64.ofInt x / Int64.ofInt y = Int64.ofInt (w64 (Int.tdiv x y)) := by
  apply Int64.toInt_inj.mp
  rw [Int64.toInt_div, z64 hx, z64 hy, w64_of, ← w64_eq]; rfl
theorem z32_rem {x y : Int} (hx : r32 x) (hy : r32 y) : Int32.ofInt x - Int32.ofInt x / Int32.ofInt y * Int32.ofInt y = Int32.ofInt (Int.tmod x y) := by
  rw [z32_div hx hy, w32_of, ← Int32.ofInt_mul, ← Int32.ofInt_sub]
  congr 1
  have := Int.tmod_add_mul_tdiv x y
  rw [Int.mul_comm] at this
  omega
theorem z64_rem {x y : Int} (hx : r64 x) (hy : r64 y) : Int64.ofInt x - Int64.ofInt x / Int64.ofInt y * Int64.ofInt y = Int64.ofInt (Int.tmod x y) := by
  rw [z64_div hx hy, w64_of, ← Int64.ofInt_mul, ← Int64.ofInt_sub]
  congr 1
  have := Int.tmod_add_mul_tdiv x y
  rw [Int.mul_comm] at this
  omega
theorem r32_tmod {x y : Int} (hx : r32 x) (hy : r32 y) : r32 (Int.tmod x y) := by
  have h : Int.tmod x y = (Int32.ofInt x % Int32.ofInt y).toInt := by rw [Int32.toInt_mod, z32 hx, z32 hy]
  rw [h]; exact r32_i _
theorem r64_tmod {x y : Int} (hx : r64 x) (hy : r64 y) : r64 (Int.tmod x y) := by
  have h : Int.tmod x y = (Int64.ofInt x % Int64.ofInt y).toInt := by rw [Int64.toInt_mod, z64 hx, z64 hy]
  rw [h]; exact r64_i _
theorem z_clamp {j : Int} (hj : r32 j) (h0 : 0 ≤ j) : (Int32.ofInt j).toNatClampNeg = j.toNat := by
  show (Int32.ofInt j).toInt.toNat = j.toNat
  rw [z32 hj]
theorem z_in {j : Int} {n : Nat} (hj : r32 j) (h0 : 0 ≤ j) (h : j < n) : vp_in (Int32.ofInt j) n := by
  intro q
  rcases q with q | q
  · rw [← z32_0, z32_lt hj ⟨by decide, by decide⟩] at q; omega
  · rw [z_clamp hj h0] at q; omega
-- the parts of the world that stay
abbrev zG : Type := Nat × Nat × Nat × (Nat → Int32) × va_G × (Nat → ClassId) × Nat × (Nat → Nat) × (Nat → Nat) × Value
def gb (G : zG) : Nat := G.1
def gB (G : zG) : Nat := G.2.1
def gL (G : zG) : Nat := G.2.2.1
def gx (G : zG) : Nat → Int32 := G.2.2.2.1
def gD (G : zG) : va_G := G.2.2.2.2.1
def gA (G : zG) : Nat → ClassId := G.2.2.2.2.2.1
def gT (G : zG) : Nat := G.2.2.2.2.2.2.1
def gK (G : zG) : Nat → Nat := G.2.2.2.2.2.2.2.1
def gV (G : zG) : Nat → Nat := G.2.2.2.2.2.2.2.2.1
def gf (G : zG) : Value := G.2.2.2.2.2.2.2.2.2
def zA (G : zG) : Nat → Prop := fun q => gB G ≤ q
def zTys (G : zG) : List (ClassId × FieldType) := [(gA G 0, .int), (gA G 1, .long), (gA G 2, .byte), (gA G 3, .boolean), (gA G 4, .object RX0), (gA G 5, .object RX4)]
def zsmall : List Int := [2, 3, 5, 7, 11, 13, 17, 19, 23, 29, 31, 37, 41, 43, 47, 53, 59, 61, 67, 71, 73, 79, 83, 89, 97, 101, 103, 107, 109, 113, 127, 131, 137, 139, 149, 151, 157, 163, 167, 173, 179, 181, 191, 193, 197, 199, 211, 223, 227, 229, 233, 239, 241, 251, 257, 263, 269, 271, 277, 281, 283, 293, 307, 311, 313, 317, 331, 337, 347, 349, 353, 359, 367, 373, 379, 383, 389, 397, 401, 409, 419, 421, 431, 433, 439, 443, 449, 457, 461, 463, 467, 479, 487, 491, 499, 503, 509, 521, 523, 541, 547, 557, 563, 569, 571, 577, 587, 593, 599, 601, 607, 613, 617, 619, 631, 641, 643, 647, 653, 659, 661, 673, 677, 683, 691, 701, 709, 719, 727, 733, 739, 743, 751, 757, 761, 769, 773, 787, 797, 809, 811, 821, 823, 827, 829, 839, 853, 857, 859, 863, 877, 881, 883, 887, 907, 911, 919, 929, 937, 941, 947, 953, 967, 971, 977, 983, 991, 997]
def zstrlen : List Nat := zstrs.map List.length
def zstrbyt : List (List Int32) := zstrs.map (fun l => l.map Int32.ofInt)
def zstrix : List Nat := [132, 138, 139, 140, 141, 143, 145, 147]
def zstrtx : List String := ["row", "bound", "steps", "law", "plain", "unitary", "reduced", "bare"]
def zNw : List Cond := [.methodLinkNest "SumWalker" 9 ⟨"SumWalker$Reader", "<init>", "()V"⟩ "SumWalker", .methodLinkNest "SumWalker" 18 ⟨"SumWalker$Primes", "<init>", "()V"⟩ "SumWalker", .methodLinkNest "SumWalker" 43 ⟨"SumWalker$Walk", "<init>", "()V"⟩ "SumWalker", .methodLinkNest "SumWalker" 50 ⟨"SumWalker$Ink", "<init>", "()V"⟩ "SumWalker"]
def zFmt : String × String × String := ("jdk/internal/util/Preconditions", "SIOOBE_FORMATTER", "Ljava/util/function/BiFunction;")
def zFix (G : zG) (U : State) : Prop :=
  va_K (gD G) vwCl (zTys G) U ∧ va_X (gb G) (gL G) (gx G) U U.heap ∧ (gb G < gB G ∧ gB G ≤ U.heap.size) ∧
  va_Z "SumWalker$Primes" "SMALL" "[I" (.ref (gT G)) (zA G) U U.heap ∧ va_T .int (gT G) 168 (fun j => .int (Int32.ofInt (zsmall.getD j 0))) (zA G) U U.heap ∧
  va_Z "java/lang/String" "COMPACT_STRINGS" "Z" (.int 1) (zA G) U U.heap ∧ va_Z zFmt.1 zFmt.2.1 zFmt.2.2 (gf G) (zA G) U U.heap ∧ (gf G = .null ∨ ∃ t, gf G = .ref t) ∧
  vk_S 8 zstrlen zstrbyt (gK G) (gV G) (zA G) U U.heap ∧ (∀ i, i < 8 → vk_R "SumWalker$Reader" (zstrix.getD i 0) (zstrtx.getD i "") (gK G i) U) ∧
  (∀ w ∈ zNw, va_Nw w U) ∧ va_AO RX0 U ∧ va_AO RX4 U
theorem zFix.to {G : zG} {s U : State} (h : zFix G s) (hW : s.WarmedH U.vm) (hz : s.heap.size ≤ U.heap.size) (hq : ∀ a : Nat, a < s.heap.size → ¬ zA G a → U.heap[a]? = s.heap[a]?) : zFix G U := by
  obtain ⟨h1, h2, h3, h4, h5, h6, h7, h8, h9, h10, h11, h12, h13⟩ := h
  have al := hW.alike
  refine ⟨h1.moved al, (h2.kept (hq _ (by omega) (by unfold zA; omega))).moved al, ⟨h3.1, by omega⟩, (h4.kept hq).moved al, (h5.kept hq).moved al, (h6.kept hq).moved al, (h7.kept hq).moved al, h8, (h9.kept hq).moved al, fun i hi => vk_R.warm hW (h10 i hi), fun w hw => ?_, va_AO.moved al h12, va_AO.moved al h13⟩
  have hw1 := h11 w hw
  simp only [zNw, List.mem_cons, List.not_mem_nil, or_false] at hw
  rcases hw with rfl | rfl | rfl | rfl <;> exact va_Nw.warmM hW hw1
theorem zFix.same {G : zG} {u U : State} (h : zFix G u) (hv : U.vm = u.vm) (hh : U.heap = u.heap) : zFix G U := by
  obtain ⟨h1, h2, h3, h4, h5, h6, h7, h8, h9, h10, h11, h12, h13⟩ := h
  have al : u.vm.Alike U.vm := by rw [hv]; exact Vm.Alike.refl _
  refine ⟨h1.moved al, by rw [hh]; exact h2.moved al, by rw [hh]; exact h3, by rw [hh]; exact h4.moved al, by rw [hh]; exact h5.moved al, by rw [hh]; exact h6.moved al, by rw [hh]; exact h7.moved al, h8, by rw [hh]; exact h9.moved al, fun i hi => vk_R.same hv (h10 i hi), fun w hw => ?_, va_AO.moved al h12, va_AO.moved al h13⟩
  have hw1 := h11 w hw
  simp only [zNw, List.mem_cons, List.not_mem_nil, or_false] at hw
  rcases hw with rfl | rfl | rfl | rfl <;> exact va_Nw.same rfl hv.symm hw1
def zad (G : zG) (a : Int) : Nat := if a < 32 then (if a = 0 then gb G else if a = 1 then gT G else if a < 10 then gK G (a - 2).toNat else gV G (a - 10).toNat) else gB G + (a - 32).toNat
def zcv (G : zG) (v : zV) : Value := match v with
  | (0, x) => .int (Int32.ofInt x)
  | (1, x) => .long (Int64.ofInt x)
  | (2, a) => if a < 0 then .null else .ref (zad G a)
  | (4, _) => gf G
  | _ => .null
def zwf (v : zV) : Prop := (v.1 = 0 → r32 v.2) ∧ (v.1 = 1 → r64 v.2)
def zvt (k j : Nat) : Nat := if k < 100 then (ztag (zft k j) 0).1 else if k = 101 then 1 else if k < 104 then 0 else 2
def zrg (k j : Nat) (x : Int) : Prop := (zvt k j = 0 → r32 x) ∧ (zvt k j = 1 → r64 x)
def zarr (G : zG) (k : Nat) (f : Int → Int) : (Nat → Int32) ⊕ (Nat → Int64) ⊕ (Nat → UInt32) ⊕ (Nat → UInt64) ⊕ (Nat → Option Nat) :=
  if k = 101 then .inr (.inl fun j => Int64.ofInt (f j)) else if k < 104 then .inl fun j => Int32.ofInt (f j) else .inr (.inr (.inr (.inr fun j => if f j < 0 then none else some (zad G (f j)))))
def zcell (G : zG) (k n : Nat) (f : Int → Int) : va_E := if k < 100 then .inr (k, (List.range n).map fun j => zcv G (ztag (zft k j) (f j))) else .inl (gA G (k - 100), n, zarr G k f)
def zws (G : zG) (S : zHp) : va_W := (List.range S.2.1.length).map fun i => (gB G + i, zcell G (S.2.1.getD i (0, 0)).1 (S.2.1.getD i (0, 0)).2 (S.2.2 (32 + i)))
def zInv (G : zG) (S : zHp) : Prop :=
  (S.1 = gL G ∧ gL G < 2147483648) ∧ (∀ j : Nat, S.2.2 0 j = (gx G j).toInt) ∧ (∀ j : Nat, j < 168 → S.2.2 1 j = zsmall.getD j 0) ∧ (∀ i : Nat, i < 8 → ∀ j : Nat, S.2.2 (10 + i) j = (zstrs.getD i []).getD j 0) ∧
  ∀ (i k n : Nat), S.2.1[i]? = some (k, n) → n < 2147483648 ∧ (k < 7 ∧ n = znf.getD k 0 ∨ 100 ≤ k ∧ k < 106) ∧ ∀ j : Nat, zrg k j (S.2.2 (32 + i) j)
def zRel (G : zG) (S : zHp) (H : Heap) : Prop := H.size = gB G + S.2.1.length ∧ va_P (gD G) vwCl (zws G S) H ∧ zInv G S
theorem zws_get {G : zG} {S : zHp} {i k n : Nat} (h : S.2.1[i]? = some (k, n)) : (zws G S)[i]? = some (gB G + i, zcell G k n (S.2.2 (32 + i))) := by
  have hl : i < S.2.1.length := (List.getElem?_eq_some_iff.mp h).1
  unfold zws
  rw [List.getElem?_map, List.getElem?_range hl, Option.map_some, List.getD_eq_getElem?_getD, h]
  rfl
theorem zws_len (G : zG) (S : zHp) : (zws G S).length = S.2.1.length := by simp [zws]
theorem zws_at {G : zG} {S : zHp} {i : Nat} {q : Nat × va_E} (h : (zws G S)[i]? = some q) : i < S.2.1.length ∧ q.1 = gB G + i := by
  have hl : i < (zws G S).length := (List.getElem?_eq_some_iff.mp h).1
  rw [zws_len] at hl
  unfold zws at h
  rw [List.getElem?_map, List.getElem?_range hl] at h
  cases h
  exact ⟨hl, rfl⟩
theorem zws_D (G : zG) (S : zHp) : va_D (zA G) (zws G S) := by
  refine ⟨fun i j x y hi hj hxy => ?_, fun k q hk => ?_⟩
  · have h1 := (zws_at hi).2; have h2 := (zws_at hj).2; omega
  · have h1 := (zws_at hk).2
    show gB G ≤ q.1
    omega
theorem zsh_own {G : zG} {S : zHp} {a : Int} {q : Nat × Nat} (ha : 32 ≤ a) (h : zsh S a = some q) : S.2.1[(a - 32).toNat]? = some q ∧ a = 32 + ((a - 32).toNat : Int) ∧ zad G a = gB G + (a - 32).toNat := by
  unfold zsh at h
  rw [if_neg (by omega), if_neg (by omega)] at h
  refine ⟨h, by omega, ?_⟩
  unfold zad
  rw [if_neg (by omega)]
theorem zws_up {G : zG} {S : zHp} {a : Int} {j x : Int} {k n : Nat} (ha : 32 ≤ a) (h : S.2.1[(a - 32).toNat]? = some (k, n)) :
    zws G (S.1, S.2.1, zup S.2.2 a j x) = (zws G S).set (a - 32).toNat (gB G + (a - 32).toNat, zcell G k n (zup S.2.2 a j x a)) := by
  have hl : (a - 32).toNat < S.2.1.length := (List.getElem?_eq_some_iff.mp h).1
  apply List.ext_getElem?
  intro q
  rw [List.getElem?_set, zws_len, if_pos hl]
  by_cases hq : (a - 32).toNat = q
  · subst hq
    rw [if_pos rfl]
    refine (zws_get (G := G) (S := (S.1, S.2.1, zup S.2.2 a j x)) (k := k) (n := n) h).trans ?_
    rw [show (32 : Int) + ((a - 32).toNat : Int) = a by omega]
  · rw [if_neg hq]
    unfold zws
    rw [List.getElem?_map, List.getElem?_map]
    by_cases hq2 : q < S.2.1.length
    · rw [List.getElem?_range hq2]
      have e : (zup S.2.2 a j x) (32 + (q : Int)) = S.2.2 (32 + (q : Int)) := by
        funext t
        unfold zup
        rw [if_neg]
        omega
      show some (gB G + q, zcell G _ _ (zup S.2.2 a j x (32 + (q : Int)))) = some (gB G + q, zcell G _ _ (S.2.2 (32 + (q : Int))))
      rw [e]
    · have e1 : (List.range S.2.1.length)[q]? = none := by simp; omega
      show Option.map _ ((List.range S.2.1.length)[q]?) = _
      rw [e1]; rfl
theorem zws_push {G : zG} {S : zHp} {k n : Nat} {f : Int → Int} : zws G (S.1, S.2.1 ++ [(k, n)], znew S.2.2 (32 + S.2.1.length) f) = zws G S ++ [(gB G + S.2.1.length, zcell G k n f)] := by
  unfold zws
  show List.map _ (List.range (S.2.1 ++ [(k, n)]).length) = _
  rw [List.length_append, List.length_singleton, List.range_succ, List.map_append]
  congr 1
  · apply List.map_congr_left
    intro i hi
    have hl := List.mem_range.mp hi
    have e : (znew S.2.2 (32 + (S.2.1.length : Int)) f) (32 + (i : Int)) = S.2.2 (32 + (i : Int)) := by
      funext t
      unfold znew
      rw [if_neg]
      omega
    show (gB G + i, zcell G ((S.2.1 ++ [(k, n)]).getD i (0, 0)).1 ((S.2.1 ++ [(k, n)]).getD i (0, 0)).2 (znew S.2.2 (32 + (S.2.1.length : Int)) f (32 + (i : Int)))) = _
    rw [e, List.getD_eq_getElem?_getD, List.getElem?_append_left hl, List.getD_eq_getElem?_getD]
  · show [(gB G + S.2.1.length, zcell G ((S.2.1 ++ [(k, n)]).getD S.2.1.length (0, 0)).1 ((S.2.1 ++ [(k, n)]).getD S.2.1.length (0, 0)).2 (znew S.2.2 (32 + (S.2.1.length : Int)) f (32 + (S.2.1.length : Int))))] = _
    have e : (znew S.2.2 (32 + (S.2.1.length : Int)) f) (32 + (S.2.1.length : Int)) = f := by
      funext t
      unfold znew
      rw [if_pos rfl]
    rw [e, List.getD_eq_getElem?_getD, List.getElem?_append_right (Nat.le_refl _), Nat.sub_self]
    rfl
-- locals
def zloc (G : zG) : Nat → List zV → List (Nat × Value)
  | _, [] => []
  | i, v :: vs => if v.1 = 3 then zloc G (i + 1) vs else (i, zcv G v) :: zloc G (i + 1) vs
theorem zloc_mem {G : zG} : ∀ (ls : List zV) (i : Nat) (q : Nat × Value), q ∈ zloc G i ls ↔ ∃ (j : Nat) (v : zV), ls[j]? = some v ∧ v.1 ≠ 3 ∧ q = (i + j, zcv G v)
  | [], i, q => by simp [zloc]
  | v :: vs, i, q => by
    have ih := zloc_mem (G := G) vs (i + 1) q
    have key : (∃ (j : Nat) (w : zV), vs[j]? = some w ∧ w.1 ≠ 3 ∧ q = (i + 1 + j, zcv G w)) ↔ ∃ (j : Nat) (w : zV), (v :: vs)[j + 1]? = some w ∧ w.1 ≠ 3 ∧ q = (i + (j + 1), zcv G w) := by
      constructor
      · rintro ⟨j, w, h1, h2, h3⟩
        exact ⟨j, w, by simpa using h1, h2, by rw [h3]; congr 1; omega⟩
      · rintro ⟨j, w, h1, h2, h3⟩
        exact ⟨j, w, by simpa using h1, h2, by rw [h3]; congr 1; omega⟩
    rw [zloc]
    split
    · rename_i h3
      rw [ih, key]
      constructor
      · rintro ⟨j, w, h⟩; exact ⟨j + 1, w, h⟩
      · rintro ⟨j, w, h1, h2, h4⟩
        cases j with
        | zero => simp at h1; rw [h1] at h3; exact absurd h3 h2
        | succ j => exact ⟨j, w, h1, h2, h4⟩
    · rename_i h3
      rw [List.mem_cons, ih, key]
      constructor
      · rintro (h | ⟨j, w, h⟩)
        · exact ⟨0, v, rfl, h3, by simpa using h⟩
        · exact ⟨j + 1, w, h⟩
      · rintro ⟨j, w, h1, h2, h4⟩
        cases j with
        | zero => simp at h1; left; rw [h4, h1]; rfl
        | succ j => right; exact ⟨j, w, h1, h2, h4⟩
theorem lv_mono {ls : Array Slot} {nL : Nat} {l l' : List (Nat × Value)} (h : lv_has ls nL l) (hl : ∀ q ∈ l', q ∈ l) : lv_has ls nL l' := ⟨h.1, h.2.1, fun q hq => h.2.2 q (hl q hq)⟩
theorem zloc_at {G : zG} {lm : Array Slot} {nL : Nat} {ls : List zV} {i : Nat} {v : zV} (h : lv_has lm nL (zloc G 0 ls)) (hi : ls[i]? = some v) (hv : v.1 ≠ 3) : lm[i]? = some (.val (zcv G v)) := by
  have := h.2.2 (i, zcv G v) ((zloc_mem ls 0 _).mpr ⟨i, v, hi, hv, by simp⟩)
  exact this
theorem zkill_get (ls : List zV) (i j : Nat) (w : zV) (h : (zkill ls i)[j]? = some w) (hw : w.1 ≠ 3) : ls[j]? = some w ∧ ¬ (j + 1 = i ∧ w.1 = 1) := by
  unfold zkill at h
  cases i with
  | zero => exact ⟨h, by omega⟩
  | succ k =>
    dsimp only at h
    split at h
    · rename_i hk
      rw [List.getElem?_set] at h
      split at h
      · split at h
        · cases h; exact absurd rfl hw
        · cases h
      · rename_i hne
        exact ⟨h, fun q => hne (by omega)⟩
    · rename_i hk
      refine ⟨h, fun q => hk ?_⟩
      have : j = k := by omega
      subst this
      rw [List.getD_eq_getElem?_getD, h]
      exact q.2
theorem zcv_cat (G : zG) (v : zV) (h : gf G = .null ∨ ∃ t, gf G = .ref t) : (zcv G v).category = zcat v := by
  obtain ⟨k, x⟩ := v
  unfold zcv zcat
  split
  · rename_i e; cases e; rfl
  · rename_i e; cases e; rfl
  · rename_i a e
    cases e
    split <;> rfl
  · rename_i e
    cases e
    rcases h with h | ⟨t, h⟩ <;> rw [h] <;> rfl
  · rename_i h0 h1 h2 h4
    have : k ≠ 1 := fun q => h1 x (by rw [q])
    simp [this, Value.category]
theorem zset1_loc {G : zG} {ls : List zV} {i : Nat} {v : zV} (hg : gf G = .null ∨ ∃ t, gf G = .ref t) : ∀ q ∈ zloc G 0 (zset1 ls i v), q ∈ (i, zcv G v) :: (zloc G 0 ls).filter (fun q => !(q.1 == i) && !(q.1 + 1 == i && q.2.category == 2)) := by
  intro q hq
  obtain ⟨j, w, h1, h2, h3⟩ := (zloc_mem _ 0 q).mp hq
  rw [Nat.zero_add] at h3
  subst h3
  unfold zset1 at h1
  rw [List.getElem?_set] at h1
  split at h1
  · rename_i e
    split at h1
    · cases h1; rw [e]; exact List.mem_cons_self
    · cases h1
  · rename_i hne
    obtain ⟨g1, g2⟩ := zkill_get _ _ _ _ h1 h2
    refine List.mem_cons_of_mem _ (List.mem_filter.mpr ⟨(zloc_mem ls 0 _).mpr ⟨j, w, g1, h2, by simp⟩, ?_⟩)
    rw [zcv_cat G w hg]
    simp only [Bool.and_eq_true, Bool.not_eq_true', beq_eq_false_iff_ne, ne_eq, Bool.and_eq_false_iff]
    refine ⟨fun e => hne e.symm, ?_⟩
    by_cases e : j + 1 = i
    · right
      unfold zcat
      rw [if_neg (fun z => g2 ⟨e, z⟩)]
      decide
    · left; exact e
theorem zset2_loc {G : zG} {ls : List zV} {i : Nat} {v : zV} (hg : gf G = .null ∨ ∃ t, gf G = .ref t) : ∀ q ∈ zloc G 0 (zset2 ls i v), q ∈ (i, zcv G v) :: (zloc G 0 ls).filter (fun q => !(q.1 == i) && (!(q.1 == i + 1) && !(q.1 + 1 == i && q.2.category == 2))) := by
  intro q hq
  obtain ⟨j, w, h1, h2, h3⟩ := (zloc_mem _ 0 q).mp hq
  rw [Nat.zero_add] at h3
  subst h3
  unfold zset2 at h1
  rw [List.getElem?_set] at h1
  split at h1
  · split at h1
    · cases h1; exact absurd rfl h2
    · cases h1
  · rename_i hne1
    rw [List.getElem?_set] at h1
    split at h1
    · rename_i e
      split at h1
      · cases h1; rw [e]; exact List.mem_cons_self
      · cases h1
    · rename_i hne
      obtain ⟨g1, g2⟩ := zkill_get _ _ _ _ h1 h2
      refine List.mem_cons_of_mem _ (List.mem_filter.mpr ⟨(zloc_mem ls 0 _).mpr ⟨j, w, g1, h2, by simp⟩, ?_⟩)
      rw [zcv_cat G w hg]
      simp only [Bool.and_eq_true, Bool.not_eq_true', beq_eq_false_iff_ne, ne_eq, Bool.and_eq_false_iff]
      refine ⟨fun e => hne e.symm, fun e => hne1 e.symm, ?_⟩
      by_cases e : j + 1 = i
      · right
        unfold zcat
        rw [if_neg (fun z => g2 ⟨e, z⟩)]
        decide
      · left; exact e
theorem zkill_len (ls : List zV) (i : Nat) : (zkill ls i).length = ls.length := by
  unfold zkill
  cases i with
  | zero => rfl
  | succ k => dsimp only; split <;> simp
theorem zset1_len (ls : List zV) (i : Nat) (v : zV) : (zset1 ls i v).length = ls.length := by simp [zset1, zkill_len]
theorem zset2_len (ls : List zV) (i : Nat) (v : zV) : (zset2 ls i v).length = ls.length := by simp [zset2, zkill_len]
theorem zwfJ : zwf zJ := ⟨fun h => absurd h (by decide), fun h => absurd h (by decide)⟩
theorem zkill_wf {ls : List zV} {i : Nat} (h : ∀ v ∈ ls, zwf v) : ∀ v ∈ zkill ls i, zwf v := by
  unfold zkill
  cases i with
  | zero => exact h
  | succ k =>
    dsimp only
    split
    · intro v hv
      rcases List.mem_or_eq_of_mem_set hv with q | q
      · exact h v q
      · rw [q]; exact zwfJ
    · exact h
theorem zset1_wf {ls : List zV} {i : Nat} {x : zV} (h : ∀ v ∈ ls, zwf v) (hx : zwf x) : ∀ v ∈ zset1 ls i x, zwf v := by
  intro v hv
  rcases List.mem_or_eq_of_mem_set hv with q | q
  · exact zkill_wf h v q
  · rw [q]; exact hx
theorem zset2_wf {ls : List zV} {i : Nat} {x : zV} (h : ∀ v ∈ ls, zwf v) (hx : zwf x) : ∀ v ∈ zset2 ls i x, zwf v := by
  intro v hv
  rcases List.mem_or_eq_of_mem_set hv with q | q
  · rcases List.mem_or_eq_of_mem_set q with q | q
    · exact zkill_wf h v q
    · rw [q]; exact hx
  · rw [q]; exact zwfJ
end
section
/-! each instruction of the small machine stands for the machine's own: those that touch no cell -/
def zTs : List Cond := lw_tbl.filter goodWord
/-- what a method's body is proved in -/
def zCtx (G : zG) (y : Nat) (p : Program) (s : State) (m : MethodId) (args : Array Value) (meth : Method) (c : Code) : Prop :=
  p.tables.exec = Jvm.exec ∧ c.code = zby y ∧ c.maxLocals = zml y ∧ s.vm.findClass (zmn y).cls = some m.cls ∧ (∀ w ∈ zTs, w.before args s = true) ∧ zFix G s ∧ ((zmn y).name = "<init>" → meth.name = "<init>")
def zslots (S : zHp) : Nat := (S.2.1.map Prod.snd).sum
/-- the frame at a place of the small machine, and the cells behind it -/
def zAt (G : zG) (y : Nat) (s : State) (lm : Array Slot) (H : Heap) (locs : List Loc) (ls st : List zV) (S : zHp) : Prop :=
  zRel G S H ∧ va_S (zA G) s.heap H locs ∧ lv_has lm (zml y) (zloc G 0 ls) ∧ ls.length = zml y ∧ (∀ v ∈ ls, zwf v) ∧ (∀ v ∈ st, zwf v)
abbrev zChk : Type := Nat → Nat → zC → Bool
def zdc (y pc : Nat) (I : Instr) (len : Nat) : Bool := decide (decode (zby y) pc = .ok (I, len))
/-- a word of a list by its place, quick for the kernel -/
noncomputable def zat (l : List Cond) : Nat → Option Cond := List.rec (motive := fun _ => Nat → Option Cond) (fun _ => none) (fun a _ ih n => Nat.rec (motive := fun _ => Option Cond) (some a) (fun k _ => ih k) n) l
theorem zat_mem : ∀ (l : List Cond) (n : Nat) (w : Cond), zat l n = some w → w ∈ l
  | [], n, w, h => by cases h
  | a :: l, 0, w, h => by cases h; exact List.mem_cons_self
  | a :: l, n + 1, w, h => List.mem_cons_of_mem _ (zat_mem l n w h)
def zpart (k : Nat) : List Cond := match k with
  | 0 => k2_sels lw_privs
  | 1 => tables_1_1
  | 2 => tables_1_2
  | 3 => tables_1_3
  | 4 => tables_1_4
  | 5 => tables_1_5
  | 6 => tables_1_6
  | _ => tables_1_7
theorem zpart_in (k : Nat) (w : Cond) (h : w ∈ zpart k) : w ∈ lw_tbl := by
  have hl : lw_tbl = k2_sels lw_privs ++ (tables_1_1 ++ (tables_1_2 ++ (tables_1_3 ++ (tables_1_4 ++ (tables_1_5 ++ (tables_1_6 ++ tables_1_7)))))) := rfl
  rw [hl]
  simp only [List.mem_append]
  unfold zpart at h
  split at h
  · exact Or.inl h
  · exact Or.inr (Or.inl h)
  · exact Or.inr (Or.inr (Or.inl h))
  · exact Or.inr (Or.inr (Or.inr (Or.inl h)))
  · exact Or.inr (Or.inr (Or.inr (Or.inr (Or.inl h))))
  · exact Or.inr (Or.inr (Or.inr (Or.inr (Or.inr (Or.inl h)))))
  · exact Or.inr (Or.inr (Or.inr (Or.inr (Or.inr (Or.inr (Or.inl h))))))
  · exact Or.inr (Or.inr (Or.inr (Or.inr (Or.inr (Or.inr (Or.inr h))))))
noncomputable def zw (p : Nat) (w : Cond) : Bool := decide (zat (zpart (p / 1024)) (p % 1024) = some w) && goodWord w
theorem zw_in {p : Nat} {w : Cond} (h : zw p w = true) : w ∈ zTs := by
  simp only [zw, Bool.and_eq_true, decide_eq_true_eq] at h
  exact List.mem_filter.mpr ⟨zpart_in _ _ (zat_mem _ _ _ h.1), h.2⟩
theorem zdc_eq {y pc : Nat} {I : Instr} {len : Nat} (h : zdc y pc I len = true) : decode (zby y) pc = .ok (I, len) := by simpa [zdc] using h
/-- a semantics and its check: sound, if from the machine's next state on all is well -/
def zSound (q : zSem × zChk) : Prop :=
  ∀ (G : zG) (y : Nat) {p : Program} {l : Launch} {e : Env} {R : Room} {s : State} {m : MethodId} {args : Array Value} {below : List Frame} {meth : Method} {c : Code} {H : Heap} {locs : List Loc} {Q : State → Prop} (n0 m0 nF mF : Nat),
    zCtx G y p s m args meth c → R.cells = nF - n0 → R.slots = mF - m0 → 1 ≤ R.frames → 24 ≤ R.locals →
    ∀ (i : zC) (pc : Nat) (ls st : List zV) (S : zHp) (lm : Array Slot) (pc' : Nat) (ls' st' : List zV) (S' : zHp),
      q.2 y pc i = true → q.1 i pc ls st S = some (pc', ls', st', S') → zAt G y s lm H locs ls st S → n0 ≤ S.2.1.length → m0 ≤ zslots S → S'.2.1.length ≤ nF → zslots S' ≤ mF →
      (∀ (H' : Heap) (locs' : List Loc) (lm' : Array Slot), zAt G y s lm' H' locs' ls' st' S' → W p l e R s m args below meth c H' locs' (S'.2.1.length - n0) (zslots S' - m0) Q (F0 m pc' lm' (st'.map (zcv G)))) →
      W p l e R s m args below meth c H locs (S.2.1.length - n0) (zslots S - m0) Q (F0 m pc lm (st.map (zcv G)))
theorem zAt.st {G : zG} {y : Nat} {s : State} {lm : Array Slot} {H : Heap} {locs : List Loc} {ls st st' : List zV} {S : zHp} (h : zAt G y s lm H locs ls st S) (h' : ∀ v ∈ st', zwf v) : zAt G y s lm H locs ls st' S := ⟨h.1, h.2.1, h.2.2.1, h.2.2.2.1, h.2.2.2.2.1, h'⟩
theorem zwf_cons {v : zV} {st : List zV} (h : zwf v) (h2 : ∀ v ∈ st, zwf v) : ∀ w ∈ v :: st, zwf w := fun w hw => by
  rcases List.mem_cons.mp hw with q | q
  · rw [q]; exact h
  · exact h2 w q
theorem zwfI {x : Int} (h : r32 x) : zwf (zI x) := ⟨fun _ => h, fun q => absurd (show (0 : Nat) = 1 from q) (by decide)⟩
theorem zwfL {x : Int} (h : r64 x) : zwf (zL x) := ⟨fun q => absurd (show (1 : Nat) = 0 from q) (by decide), fun _ => h⟩
theorem zwfR (x : Int) : zwf (zR x) := ⟨fun q => absurd (show (2 : Nat) = 0 from q) (by decide), fun q => absurd (show (2 : Nat) = 1 from q) (by decide)⟩
theorem zwfO (x : Int) : zwf (4, x) := ⟨fun q => absurd (show (4 : Nat) = 0 from q) (by decide), fun q => absurd (show (4 : Nat) = 1 from q) (by decide)⟩
def zi32 (k : Int) : Bool := decide (-2147483648 ≤ k) && decide (k ≤ 2147483647)
theorem zi32_r {k : Int} (h : zi32 k = true) : r32 k := by simpa [zi32, r32] using h
def zi64 (k : Int) : Bool := decide (-9223372036854775808 ≤ k) && decide (k ≤ 9223372036854775807)
theorem zi64_r {k : Int} (h : zi64 k = true) : r64 k := by simpa [zi64, r64] using h
-- constants
noncomputable def zc_iconst : zChk := fun y pc i => zi32 i.2.2.2.2.1 && (match i.2.2.1 with
  | 0 => i.2.1 == 1 && zdc y pc (.iconst i.2.2.2.2.1) 1
  | 1 => i.2.1 == 2 && zdc y pc (.bipush i.2.2.2.2.1) 2 && decide ((Int8.ofInt i.2.2.2.2.1).toInt32 = Int32.ofInt i.2.2.2.2.1)
  | 2 => i.2.1 == 3 && zdc y pc (.sipush i.2.2.2.2.1) 3 && decide ((Int16.ofInt i.2.2.2.2.1).toInt32 = Int32.ofInt i.2.2.2.2.1)
  | 3 => i.2.1 == 2 && zdc y pc (.ldc i.2.2.2.1) 2 && zw (i.2.2.2.2.2.getD 0 0).toNat (.constant (zmn y).cls i.2.2.2.1 (Int32.ofInt i.2.2.2.2.1))
  | _ => i.2.1 == 3 && zdc y pc (.ldc_w i.2.2.2.1) 3 && zw (i.2.2.2.2.2.getD 0 0).toNat (.constant (zmn y).cls i.2.2.2.1 (Int32.ofInt i.2.2.2.2.1)))
theorem zp_iconst : zSound (zs_iconst, zc_iconst) := by
  intro G y p l e R s m args below meth c H locs Q n0 m0 nF mF cx hRc hRs hRf hRl i pc ls st S lm pc' ls' st' S' hc hs hat hn0 hm0 hnF hmF kk
  obtain ⟨hx, hb, hml, hown, hts, hfix, -⟩ := cx
  obtain ⟨op, len, a, b, k, ex⟩ := i
  cases hs
  simp only [zc_iconst, Bool.and_eq_true] at hc
  obtain ⟨hk, hc⟩ := hc
  have K := kk H locs lm (hat.st (zwf_cons (zwfI (zi32_r hk)) hat.2.2.2.2.2))
  dsimp only at hc K
  split at hc
  · simp only [Bool.and_eq_true, beq_iff_eq] at hc
    obtain ⟨rfl, h⟩ := hc
    exact lv_iconst hx hb (zdc_eq h) rfl K
  · simp only [Bool.and_eq_true, beq_iff_eq, decide_eq_true_eq] at hc
    obtain ⟨⟨rfl, h⟩, h2⟩ := hc
    exact lv_bipush hx hb (zdc_eq h) h2 K
  · simp only [Bool.and_eq_true, beq_iff_eq, decide_eq_true_eq] at hc
    obtain ⟨⟨rfl, h⟩, h2⟩ := hc
    exact lv_sipush hx hb (zdc_eq h) h2 K
  · simp only [Bool.and_eq_true, beq_iff_eq] at hc
    obtain ⟨⟨rfl, h⟩, h2⟩ := hc
    exact lv_ldc hx hb hown (hts _ (zw_in h2)) (zdc_eq h) K
  · simp only [Bool.and_eq_true, beq_iff_eq] at hc
    obtain ⟨⟨rfl, h⟩, h2⟩ := hc
    exact lv_ldcw hx hb hown (hts _ (zw_in h2)) (zdc_eq h) K
noncomputable def zc_lconst : zChk := fun y pc i => zi64 i.2.2.2.2.1 && (match i.2.2.1 with
  | 0 => i.2.1 == 1 && ((zdc y pc (.lconst 0) 1 && decide (i.2.2.2.2.1 = 0)) || (zdc y pc (.lconst 1) 1 && decide (i.2.2.2.2.1 = 1)))
  | _ => i.2.1 == 3 && zdc y pc (.ldc2_w i.2.2.2.1) 3 && zw (i.2.2.2.2.2.getD 0 0).toNat (.constantLong (zmn y).cls i.2.2.2.1 (Int64.ofInt i.2.2.2.2.1)))
theorem zp_lconst : zSound (zs_lconst, zc_lconst) := by
  intro G y p l e R s m args below meth c H locs Q n0 m0 nF mF cx hRc hRs hRf hRl i pc ls st S lm pc' ls' st' S' hc hs hat hn0 hm0 hnF hmF kk
  obtain ⟨hx, hb, hml, hown, hts, hfix, -⟩ := cx
  obtain ⟨op, len, a, b, k, ex⟩ := i
  cases hs
  simp only [zc_lconst, Bool.and_eq_true] at hc
  obtain ⟨hk, hc⟩ := hc
  have K := kk H locs lm (hat.st (zwf_cons (zwfL (zi64_r hk)) hat.2.2.2.2.2))
  dsimp only at hc K
  split at hc
  · simp only [Bool.and_eq_true, Bool.or_eq_true, beq_iff_eq, decide_eq_true_eq] at hc
    obtain ⟨rfl, ⟨h, rfl⟩ | ⟨h, rfl⟩⟩ := hc
    · exact lv_lconst hx hb (zdc_eq h) rfl K
    · exact lv_lconst hx hb (zdc_eq h) rfl K
  · simp only [Bool.and_eq_true, beq_iff_eq] at hc
    obtain ⟨⟨rfl, h⟩, h2⟩ := hc
    exact lv_ldc2 hx hb hown (hts _ (zw_in h2)) (zdc_eq h) K
-- loads
def zf4 (a : Nat) : Fin 4 := Fin.ofNat 4 a
theorem zf4_eq {a : Nat} (h : a < 4) : ((zf4 a : Fin 4) : Nat) = a := Nat.mod_eq_of_lt h
def zc_iload : zChk := fun y pc i => (i.2.1 == 1 && decide (i.2.2.1 < 4) && zdc y pc (.iload_n (zf4 i.2.2.1)) 1) || (i.2.1 == 2 && zdc y pc (.iload i.2.2.1) 2)
theorem zp_iload : zSound (zs_iload, zc_iload) := by
  intro G y p l e R s m args below meth c H locs Q n0 m0 nF mF cx hRc hRs hRf hRl i pc ls st S lm pc' ls' st' S' hc hs hat hn0 hm0 hnF hmF kk
  obtain ⟨hx, hb, hml, hown, hts, hfix, -⟩ := cx
  obtain ⟨op, len, a, b, k, ex⟩ := i
  unfold zs_iload at hs
  dsimp only at hs
  split at hs
  · rename_i x hx1
    cases hs
    have hw := hat.2.2.2.2.1 _ (List.mem_of_getElem? hx1)
    have K := kk H locs lm (hat.st (zwf_cons hw hat.2.2.2.2.2))
    have hl := zloc_at hat.2.2.1 hx1 (show (0 : Nat) ≠ 3 by decide)
    simp only [zc_iload, Bool.or_eq_true, Bool.and_eq_true, beq_iff_eq, decide_eq_true_eq] at hc
    rcases hc with ⟨⟨rfl, h4⟩, h⟩ | ⟨rfl, h⟩
    · exact lv_iload_n hx hb (zdc_eq h) (zf4_eq h4) hl K
    · exact lv_iload hx hb (zdc_eq h) hl K
  · cases hs
def zc_lload : zChk := fun y pc i => (i.2.1 == 1 && decide (i.2.2.1 < 4) && zdc y pc (.lload_n (zf4 i.2.2.1)) 1) || (i.2.1 == 2 && zdc y pc (.lload i.2.2.1) 2)
theorem zp_lload : zSound (zs_lload, zc_lload) := by
  intro G y p l e R s m args below meth c H locs Q n0 m0 nF mF cx hRc hRs hRf hRl i pc ls st S lm pc' ls' st' S' hc hs hat hn0 hm0 hnF hmF kk
  obtain ⟨hx, hb, hml, hown, hts, hfix, -⟩ := cx
  obtain ⟨op, len, a, b, k, ex⟩ := i
  unfold zs_lload at hs
  dsimp only at hs
  split at hs
  · rename_i x hx1
    cases hs
    have hw := hat.2.2.2.2.1 _ (List.mem_of_getElem? hx1)
    have K := kk H locs lm (hat.st (zwf_cons hw hat.2.2.2.2.2))
    have hl := zloc_at hat.2.2.1 hx1 (show (1 : Nat) ≠ 3 by decide)
    simp only [zc_lload, Bool.or_eq_true, Bool.and_eq_true, beq_iff_eq, decide_eq_true_eq] at hc
    rcases hc with ⟨⟨rfl, h4⟩, h⟩ | ⟨rfl, h⟩
    · exact lv_lload_n hx hb (zdc_eq h) (zf4_eq h4) hl K
    · exact lv_lload hx hb (zdc_eq h) hl K
  · cases hs
def zc_aload : zChk := fun y pc i => (i.2.1 == 1 && decide (i.2.2.1 < 4) && zdc y pc (.aload_n (zf4 i.2.2.1)) 1) || (i.2.1 == 2 && zdc y pc (.aload i.2.2.1) 2)
theorem zcv_ref {G : zG} {x : Int} (h : ¬ x < 0) : zcv G (zR x) = .ref (zad G x) := by show (if x < 0 then _ else _) = _; rw [if_neg h]
theorem zp_aload : zSound (zs_aload, zc_aload) := by
  intro G y p l e R s m args below meth c H locs Q n0 m0 nF mF cx hRc hRs hRf hRl i pc ls st S lm pc' ls' st' S' hc hs hat hn0 hm0 hnF hmF kk
  obtain ⟨hx, hb, hml, hown, hts, hfix, -⟩ := cx
  obtain ⟨op, len, a, b, k, ex⟩ := i
  unfold zs_aload at hs
  dsimp only at hs
  simp only [zc_aload, Bool.or_eq_true, Bool.and_eq_true, beq_iff_eq, decide_eq_true_eq] at hc
  split at hs
  · rename_i x hx1
    split at hs
    · cases hs
    · rename_i h0
      cases hs
      have K := kk H locs lm (hat.st (zwf_cons (zwfR x) hat.2.2.2.2.2))
      have hl := zloc_at hat.2.2.1 hx1 (show (2 : Nat) ≠ 3 by decide)
      rw [List.map_cons, zcv_ref h0] at K
      rw [zcv_ref h0] at hl
      rcases hc with ⟨⟨rfl, h4⟩, h⟩ | ⟨rfl, h⟩
      · exact lv_aload_n hx hb (zdc_eq h) (zf4_eq h4) hl K
      · exact lv_aload hx hb (zdc_eq h) hl K
  · rename_i x hx1
    cases hs
    have K := kk H locs lm (hat.st (zwf_cons (zwfO x) hat.2.2.2.2.2))
    have hl := zloc_at hat.2.2.1 hx1 (show (4 : Nat) ≠ 3 by decide)
    have e : zcv G (4, x) = gf G := rfl
    rw [List.map_cons, e] at K
    rw [e] at hl
    have hg := hfix.2.2.2.2.2.2.2.1
    rcases hg with hg | ⟨t, hg⟩
    · rw [hg] at K hl
      rcases hc with ⟨⟨rfl, h4⟩, h⟩ | ⟨rfl, h⟩
      · exact lv_aload_nN hx hb (zdc_eq h) (zf4_eq h4) hl K
      · exact lv_aloadN hx hb (zdc_eq h) hl K
    · rw [hg] at K hl
      rcases hc with ⟨⟨rfl, h4⟩, h⟩ | ⟨rfl, h⟩
      · exact lv_aload_n hx hb (zdc_eq h) (zf4_eq h4) hl K
      · exact lv_aload hx hb (zdc_eq h) hl K
  · cases hs
-- stores
theorem zwf_tl {v : zV} {st : List zV} (h : ∀ w ∈ v :: st, zwf w) : ∀ w ∈ st, zwf w := fun w hw => h w (List.mem_cons_of_mem _ hw)
theorem zwf_hd {v : zV} {st : List zV} (h : ∀ w ∈ v :: st, zwf w) : zwf v := h v List.mem_cons_self
theorem zAt.set1 {G : zG} {y : Nat} {s : State} {lm lm' : Array Slot} {H : Heap} {locs : List Loc} {ls st st' : List zV} {S : zHp} {i : Nat} {v : zV} (hg : gf G = .null ∨ ∃ t, gf G = .ref t) (h : zAt G y s lm H locs ls st S) (hv : zwf v) (h' : ∀ v ∈ st', zwf v) (hl : lv_has lm' (zml y) ((i, zcv G v) :: (zloc G 0 ls).filter (fun q => !(q.1 == i) && !(q.1 + 1 == i && q.2.category == 2)))) : zAt G y s lm' H locs (zset1 ls i v) st' S :=
  ⟨h.1, h.2.1, lv_mono hl (zset1_loc hg), (zset1_len ls i v).trans h.2.2.2.1, zset1_wf h.2.2.2.2.1 hv, h'⟩
theorem zAt.set2 {G : zG} {y : Nat} {s : State} {lm lm' : Array Slot} {H : Heap} {locs : List Loc} {ls st st' : List zV} {S : zHp} {i : Nat} {v : zV} (hg : gf G = .null ∨ ∃ t, gf G = .ref t) (h : zAt G y s lm H locs ls st S) (hv : zwf v) (h' : ∀ v ∈ st', zwf v) (hl : lv_has lm' (zml y) ((i, zcv G v) :: (zloc G 0 ls).filter (fun q => !(q.1 == i) && (!(q.1 == i + 1) && !(q.1 + 1 == i && q.2.category == 2))))) : zAt G y s lm' H locs (zset2 ls i v) st' S :=
  ⟨h.1, h.2.1, lv_mono hl (zset2_loc hg), (zset2_len ls i v).trans h.2.2.2.1, zset2_wf h.2.2.2.2.1 hv, h'⟩
def zc_istore : zChk := fun y pc i => (i.2.1 == 1 && decide (i.2.2.1 < 4) && zdc y pc (.istore_n (zf4 i.2.2.1)) 1) || (i.2.1 == 2 && zdc y pc (.istore i.2.2.1) 2)
theorem zp_istore : zSound (zs_istore, zc_istore) := by
  intro G y p l e R s m args below meth c H locs Q n0 m0 nF mF cx hRc hRs hRf hRl i pc ls st S lm pc' ls' st' S' hc hs hat hn0 hm0 hnF hmF kk
  obtain ⟨hx, hb, hml, hown, hts, hfix, -⟩ := cx
  obtain ⟨op, len, a, b, k, ex⟩ := i
  have hg := hfix.2.2.2.2.2.2.2.1
  unfold zs_istore at hs
  dsimp only at hs
  simp only [zc_istore, Bool.or_eq_true, Bool.and_eq_true, beq_iff_eq, decide_eq_true_eq] at hc
  split at hs
  · rename_i x st1
    split at hs
    · rename_i hlt
      cases hs
      rw [hat.2.2.2.1] at hlt
      have hw := hat.2.2.2.2.2
      have K := fun lm' hl => kk H locs lm' (hat.set1 hg (zwf_hd hw) (zwf_tl hw) hl)
      rcases hc with ⟨⟨rfl, h4⟩, h⟩ | ⟨rfl, h⟩
      · exact lv_istore_n hx hb (zdc_eq h) (zf4_eq h4) hat.2.2.1 hlt rfl K
      · exact lv_istore hx hb (zdc_eq h) hat.2.2.1 hlt rfl K
    · cases hs
  · cases hs
def zc_lstore : zChk := fun y pc i => (i.2.1 == 1 && decide (i.2.2.1 < 4) && zdc y pc (.lstore_n (zf4 i.2.2.1)) 1) || (i.2.1 == 2 && zdc y pc (.lstore i.2.2.1) 2)
theorem zp_lstore : zSound (zs_lstore, zc_lstore) := by
  intro G y p l e R s m args below meth c H locs Q n0 m0 nF mF cx hRc hRs hRf hRl i pc ls st S lm pc' ls' st' S' hc hs hat hn0 hm0 hnF hmF kk
  obtain ⟨hx, hb, hml, hown, hts, hfix, -⟩ := cx
  obtain ⟨op, len, a, b, k, ex⟩ := i
  have hg := hfix.2.2.2.2.2.2.2.1
  unfold zs_lstore at hs
  dsimp only at hs
  simp only [zc_lstore, Bool.or_eq_true, Bool.and_eq_true, beq_iff_eq, decide_eq_true_eq] at hc
  split at hs
  · rename_i x st1
    split at hs
    · rename_i hlt
      cases hs
      rw [hat.2.2.2.1] at hlt
      have hw := hat.2.2.2.2.2
      have K := fun lm' hl => kk H locs lm' (hat.set2 hg (zwf_hd hw) (zwf_tl hw) hl)
      rcases hc with ⟨⟨rfl, h4⟩, h⟩ | ⟨rfl, h⟩
      · exact lv_lstore_n hx hb (zdc_eq h) (zf4_eq h4) hat.2.2.1 hlt rfl K
      · exact lv_lstore hx hb (zdc_eq h) hat.2.2.1 hlt rfl K
    · cases hs
  · cases hs
def zc_astore : zChk := fun y pc i => (i.2.1 == 1 && decide (i.2.2.1 < 4) && zdc y pc (.astore_n (zf4 i.2.2.1)) 1) || (i.2.1 == 2 && zdc y pc (.astore i.2.2.1) 2)
theorem zp_astore : zSound (zs_astore, zc_astore) := by
  intro G y p l e R s m args below meth c H locs Q n0 m0 nF mF cx hRc hRs hRf hRl i pc ls st S lm pc' ls' st' S' hc hs hat hn0 hm0 hnF hmF kk
  obtain ⟨hx, hb, hml, hown, hts, hfix, -⟩ := cx
  obtain ⟨op, len, a, b, k, ex⟩ := i
  have hg := hfix.2.2.2.2.2.2.2.1
  unfold zs_astore at hs
  dsimp only at hs
  simp only [zc_astore, Bool.or_eq_true, Bool.and_eq_true, beq_iff_eq, decide_eq_true_eq] at hc
  split at hs
  · rename_i x st1
    split at hs
    · cases hs
    · rename_i h0
      split at hs
      · rename_i hlt
        cases hs
        rw [hat.2.2.2.1] at hlt
        have hw := hat.2.2.2.2.2
        have K := fun lm' hl => kk H locs lm' (hat.set1 (i := a) (v := zR x) hg (zwfR x) (zwf_tl hw) hl)
        rw [List.map_cons, zcv_ref h0]
        rw [zcv_ref h0] at K
        rcases hc with ⟨⟨rfl, h4⟩, h⟩ | ⟨rfl, h⟩
        · exact lv_astore_n hx hb (zdc_eq h) (zf4_eq h4) hat.2.2.1 hlt rfl K
        · exact lv_astore hx hb (zdc_eq h) hat.2.2.1 hlt rfl K
      · cases hs
  · cases hs
def zc_iinc : zChk := fun y pc i => i.2.1 == 3 && zdc y pc (.iinc i.2.2.1 i.2.2.2.2.1) 3
theorem zp_iinc : zSound (zs_iinc, zc_iinc) := by
  intro G y p l e R s m args below meth c H locs Q n0 m0 nF mF cx hRc hRs hRf hRl i pc ls st S lm pc' ls' st' S' hc hs hat hn0 hm0 hnF hmF kk
  obtain ⟨hx, hb, hml, hown, hts, hfix, -⟩ := cx
  obtain ⟨op, len, a, b, k, ex⟩ := i
  have hg := hfix.2.2.2.2.2.2.2.1
  unfold zs_iinc at hs
  dsimp only at hs
  simp only [zc_iinc, Bool.and_eq_true, beq_iff_eq] at hc
  split at hs
  · rename_i x hx1
    cases hs
    obtain ⟨rfl, h⟩ := hc
    have hlt := (List.getElem?_eq_some_iff.mp hx1).1
    rw [hat.2.2.2.1] at hlt
    obtain ⟨j, hj⟩ := List.getElem?_of_mem ((zloc_mem (G := G) ls 0 _).mpr ⟨a, _, hx1, (show (0 : Nat) ≠ 3 by decide), rfl⟩)
    rw [Nat.zero_add] at hj
    refine lv_iinc hx hb (zdc_eq h) hat.2.2.1 hj rfl hlt rfl (fun lm' hl => kk H locs lm' (hat.set1 hg (zwfI (w32_r _)) hat.2.2.2.2.2 ?_))
    show lv_has lm' _ ((a, .int (Int32.ofInt (w32 (x + k)))) :: _)
    rw [w32_of, Int32.ofInt_add]
    exact hl
  · cases hs
end
section
/-! arithmetic, branches, switches -/
def zI32 (a : Nat) : Option Instr := match a with
  | 0 => some .iadd
  | 1 => some .isub
  | 2 => some .imul
  | 3 => some .iand
  | 4 => some .ior
  | 6 => some .idiv
  | 7 => some .irem
  | 8 => some .ishl
  | 9 => some .ishr
  | 10 => some .iushr
  | _ => none
def zI64 (a : Nat) : Option Instr := match a with
  | 0 => some .ladd
  | 1 => some .lsub
  | 2 => some .lmul
  | 3 => some .land
  | 4 => some .lor
  | 6 => some .ldiv
  | 7 => some .lrem
  | _ => none
def zdo (y pc : Nat) (I : Option Instr) (len : Nat) : Bool := match I with
  | some I => zdc y pc I len
  | none => false
def zc_iar : zChk := fun y pc i => i.2.1 == 1 && zdo y pc (zI32 i.2.2.1) 1
theorem zp_iar : zSound (zs_iar, zc_iar) := by
  intro G y p l e R s m args below meth c H locs Q n0 m0 nF mF cx hRc hRs hRf hRl i pc ls st S lm pc' ls' st' S' hc hs hat hn0 hm0 hnF hmF kk
  obtain ⟨hx, hb, hml, hown, hts, hfix, -⟩ := cx
  obtain ⟨op, len, a, b, k, ex⟩ := i
  unfold zs_iar at hs
  dsimp only at hs
  simp only [zc_iar, Bool.and_eq_true, beq_iff_eq] at hc
  obtain ⟨rfl, hc⟩ := hc
  split at hs
  · rename_i yv xv st1
    have hwy := (zwf_hd hat.2.2.2.2.2).1 rfl
    have hwx := (zwf_hd (zwf_tl hat.2.2.2.2.2)).1 rfl
    have hwt := zwf_tl (zwf_tl hat.2.2.2.2.2)
    simp only [Option.map_eq_some_iff] at hs
    obtain ⟨r, hr, hs⟩ := hs
    cases hs
    have K := fun hr => kk H locs lm (hat.st (zwf_cons (zwfI (x := r) hr) hwt))
    unfold zIar at hr
    split at hr
    · cases hr
      refine lv_iadd hx hb (zdc_eq hc) ?_
      have K := K (w32_r _)
      rw [List.map_cons, show zcv G (zI (w32 (xv + yv))) = .int (Int32.ofInt (w32 (xv + yv))) from rfl, w32_of, Int32.ofInt_add] at K
      exact K
    · cases hr
      refine lv_isub hx hb (zdc_eq hc) ?_
      have K := K (w32_r _)
      rw [List.map_cons, show zcv G (zI (w32 (xv - yv))) = .int (Int32.ofInt (w32 (xv - yv))) from rfl, w32_of, Int32.ofInt_sub] at K
      exact K
    · cases hr
      refine lv_imul hx hb (zdc_eq hc) ?_
      have K := K (w32_r _)
      rw [List.map_cons, show zcv G (zI (w32 (xv * yv))) = .int (Int32.ofInt (w32 (xv * yv))) from rfl, w32_of, Int32.ofInt_mul] at K
      exact K
    · cases hr
      refine lv_iand hx hb (zdc_eq hc) ?_
      have K := K (r32_i _)
      rw [List.map_cons, show zcv G (zI (zand xv yv)) = .int (Int32.ofInt (zand xv yv)) from rfl, zand, Int32.ofInt_toInt] at K
      exact K
    · cases hr
      refine lv_ior hx hb (zdc_eq hc) ?_
      have K := K (r32_i _)
      rw [List.map_cons, show zcv G (zI (zor xv yv)) = .int (Int32.ofInt (zor xv yv)) from rfl, zor, Int32.ofInt_toInt] at K
      exact K
    · split at hr
      · cases hr
      · rename_i h0
        cases hr
        refine lv_idiv hx hb (zdc_eq hc) (z32_ne0 hwy h0) ?_
        have K := K (w32_r _)
        rw [List.map_cons, show zcv G (zI (w32 (Int.tdiv xv yv))) = .int (Int32.ofInt (w32 (Int.tdiv xv yv))) from rfl, ← z32_div hwx hwy] at K
        exact K
    · split at hr
      · cases hr
      · rename_i h0
        cases hr
        refine lv_irem hx hb (zdc_eq hc) (z32_ne0 hwy h0) ?_
        have K := K (r32_tmod hwx hwy)
        rw [List.map_cons, show zcv G (zI (Int.tmod xv yv)) = .int (Int32.ofInt (Int.tmod xv yv)) from rfl, ← z32_rem hwx hwy] at K
        exact K
    · cases hr
      refine lv_ishl hx hb (zdc_eq hc) ?_
      have K := K (r32_i _)
      rw [List.map_cons, show zcv G (zI (zshl xv yv)) = .int (Int32.ofInt (zshl xv yv)) from rfl, zshl, Int32.ofInt_toInt] at K
      exact K
    · cases hr
      refine lv_ishr hx hb (zdc_eq hc) ?_
      have K := K (r32_i _)
      rw [List.map_cons, show zcv G (zI (zshr xv yv)) = .int (Int32.ofInt (zshr xv yv)) from rfl, zshr, Int32.ofInt_toInt] at K
      exact K
    · cases hr
      refine lv_iushr hx hb (zdc_eq hc) rfl ?_
      have K := K (r32_i _)
      rw [List.map_cons, show zcv G (zI (zushr xv yv)) = .int (Int32.ofInt (zushr xv yv)) from rfl, zushr, Int32.ofInt_toInt] at K
      exact K
    · cases hr
  · cases hs
def zc_lar : zChk := fun y pc i => i.2.1 == 1 && zdo y pc (zI64 i.2.2.1) 1
theorem zp_lar : zSound (zs_lar, zc_lar) := by
  intro G y p l e R s m args below meth c H locs Q n0 m0 nF mF cx hRc hRs hRf hRl i pc ls st S lm pc' ls' st' S' hc hs hat hn0 hm0 hnF hmF kk
  obtain ⟨hx, hb, hml, hown, hts, hfix, -⟩ := cx
  obtain ⟨op, len, a, b, k, ex⟩ := i
  unfold zs_lar at hs
  dsimp only at hs
  simp only [zc_lar, Bool.and_eq_true, beq_iff_eq] at hc
  obtain ⟨rfl, hc⟩ := hc
  split at hs
  · rename_i yv xv st1
    have hwy := (zwf_hd hat.2.2.2.2.2).2 rfl
    have hwx := (zwf_hd (zwf_tl hat.2.2.2.2.2)).2 rfl
    have hwt := zwf_tl (zwf_tl hat.2.2.2.2.2)
    simp only [Option.map_eq_some_iff] at hs
    obtain ⟨r, hr, hs⟩ := hs
    cases hs
    have K := fun hr => kk H locs lm (hat.st (zwf_cons (zwfL (x := r) hr) hwt))
    unfold zLar at hr
    split at hr
    · cases hr
      refine lv_ladd hx hb (zdc_eq hc) ?_
      have K := K (w64_r _)
      rw [List.map_cons, show zcv G (zL (w64 (xv + yv))) = .long (Int64.ofInt (w64 (xv + yv))) from rfl, w64_of, Int64.ofInt_add] at K
      exact K
    · cases hr
      refine lv_lsub hx hb (zdc_eq hc) ?_
      have K := K (w64_r _)
      rw [List.map_cons, show zcv G (zL (w64 (xv - yv))) = .long (Int64.ofInt (w64 (xv - yv))) from rfl, w64_of, Int64.ofInt_sub] at K
      exact K
    · cases hr
      refine lv_lmul hx hb (zdc_eq hc) ?_
      have K := K (w64_r _)
      rw [List.map_cons, show zcv G (zL (w64 (xv * yv))) = .long (Int64.ofInt (w64 (xv * yv))) from rfl, w64_of, Int64.ofInt_mul] at K
      exact K
    · cases hr
      refine lv_land hx hb (zdc_eq hc) ?_
      have K := K (r64_i _)
      rw [List.map_cons, show zcv G (zL (zandL xv yv)) = .long (Int64.ofInt (zandL xv yv)) from rfl, zandL, Int64.ofInt_toInt] at K
      exact K
    · cases hr
      refine lv_lor hx hb (zdc_eq hc) ?_
      have K := K (r64_i _)
      rw [List.map_cons, show zcv G (zL (zorL xv yv)) = .long (Int64.ofInt (zorL xv yv)) from rfl, zorL, Int64.ofInt_toInt] at K
      exact K
    · split at hr
      · cases hr
      · rename_i h0
        cases hr
        refine lv_ldiv hx hb (zdc_eq hc) (z64_ne0 hwy h0) ?_
        have K := K (w64_r _)
        rw [List.map_cons, show zcv G (zL (w64 (Int.tdiv xv yv))) = .long (Int64.ofInt (w64 (Int.tdiv xv yv))) from rfl, ← z64_div hwx hwy] at K
        exact K
    · split at hr
      · cases hr
      · rename_i h0
        cases hr
        refine lv_lrem hx hb (zdc_eq hc) (z64_ne0 hwy h0) ?_
        have K := K (r64_tmod hwx hwy)
        rw [List.map_cons, show zcv G (zL (Int.tmod xv yv)) = .long (Int64.ofInt (Int.tmod xv yv)) from rfl, ← z64_rem hwx hwy] at K
        exact K
    · cases hr
  · cases hs
def zc_lsh : zChk := fun y pc i => i.2.1 == 1 && ((i.2.2.1 == 0 && zdc y pc .lshl 1) || (i.2.2.1 == 1 && zdc y pc .lushr 1))
theorem zp_lsh : zSound (zs_lsh, zc_lsh) := by
  intro G y p l e R s m args below meth c H locs Q n0 m0 nF mF cx hRc hRs hRf hRl i pc ls st S lm pc' ls' st' S' hc hs hat hn0 hm0 hnF hmF kk
  obtain ⟨hx, hb, hml, hown, hts, hfix, -⟩ := cx
  obtain ⟨op, len, a, b, k, ex⟩ := i
  unfold zs_lsh at hs
  dsimp only at hs
  simp only [zc_lsh, Bool.and_eq_true, Bool.or_eq_true, beq_iff_eq] at hc
  split at hs
  · rename_i yv xv st1
    have hwt := zwf_tl (zwf_tl hat.2.2.2.2.2)
    cases hs
    obtain ⟨rfl, ⟨rfl, hc⟩ | ⟨rfl, hc⟩⟩ := hc
    · refine lv_lshl hx hb (zdc_eq hc) rfl ?_
      have K := kk H locs lm (hat.st (zwf_cons (zwfL (by rw [if_pos rfl]; exact r64_i _)) hwt))
      rw [if_pos rfl, List.map_cons, show zcv G (zL (zshlL xv yv)) = .long (Int64.ofInt (zshlL xv yv)) from rfl, zshlL, Int64.ofInt_toInt] at K
      exact K
    · refine lv_lushr hx hb (zdc_eq hc) rfl ?_
      have K := kk H locs lm (hat.st (zwf_cons (zwfL (by rw [if_neg (by decide)]; exact r64_i _)) hwt))
      rw [if_neg (by decide), List.map_cons, show zcv G (zL (zushrL xv yv)) = .long (Int64.ofInt (zushrL xv yv)) from rfl, zushrL, Int64.ofInt_toInt] at K
      exact K
  · cases hs
def zIun (a : Nat) : Option Instr := match a with
  | 0 => some .ineg
  | 1 => some .i2l
  | 2 => some .l2i
  | 3 => some .i2b
  | 4 => some .i2c
  | _ => none
def zc_un : zChk := fun y pc i => i.2.1 == 1 && zdo y pc (zIun i.2.2.1) 1
theorem z_i2c {x : Int} (h : 0 ≤ x ∧ x < 65536) : ((Int32.ofInt x).toUInt32 % 65536).toInt32 = Int32.ofInt x := by
  rw [pk_char]
  have hr : r32 x := ⟨by omega, by omega⟩
  have h1 : (Int32.ofInt x).toBitVec.toNat = x.toNat := by
    have : Int32.ofInt x = nI x.toNat := by
      apply Int32.toInt_inj.mp
      rw [z32 hr, nI_toInt (by omega)]; omega
    rw [this, pk_tn (by omega)]
  rw [h1, Nat.mod_eq_of_lt (by omega)]
  apply Int32.toInt_inj.mp
  rw [z32 hr, nI_toInt (by omega)]; omega
theorem zp_un : zSound (zs_un, zc_un) := by
  intro G y p l e R s m args below meth c H locs Q n0 m0 nF mF cx hRc hRs hRf hRl i pc ls st S lm pc' ls' st' S' hc hs hat hn0 hm0 hnF hmF kk
  obtain ⟨hx, hb, hml, hown, hts, hfix, -⟩ := cx
  obtain ⟨op, len, a, b, k, ex⟩ := i
  unfold zs_un at hs
  dsimp only at hs
  simp only [zc_un, Bool.and_eq_true, beq_iff_eq] at hc
  obtain ⟨rfl, hc⟩ := hc
  have hwt := fun {v st1} (h : st = v :: st1) => zwf_tl (h ▸ hat.2.2.2.2.2)
  split at hs
  · rename_i xv st1
    cases hs
    refine lv_ineg hx hb (zdc_eq hc) ?_
    have K := kk H locs lm (hat.st (zwf_cons (zwfI (w32_r _)) (hwt rfl)))
    rw [List.map_cons, show zcv G (zI (w32 (-xv))) = .int (Int32.ofInt (w32 (-xv))) from rfl, w32_of, Int32.ofInt_neg] at K
    exact K
  · rename_i xv st1
    cases hs
    have hwx := (zwf_hd hat.2.2.2.2.2).1 rfl
    refine lv_i2l hx hb (zdc_eq hc) (v := Int64.ofInt xv) ?_ (kk H locs lm (hat.st (zwf_cons (zwfL ⟨by have := hwx.1; simp only at this; omega, by have := hwx.2; simp only at this; omega⟩) (hwt rfl))))
    apply Int64.toInt_inj.mp
    rw [Int32.toInt_toInt64, z32 hwx, z64]
    exact ⟨by have := hwx.1; simp only at this; omega, by have := hwx.2; simp only at this; omega⟩
  · rename_i xv st1
    cases hs
    refine lv_l2i hx hb (zdc_eq hc) (v := Int32.ofInt (w32 xv)) ?_ (kk H locs lm (hat.st (zwf_cons (zwfI (w32_r _)) (hwt rfl))))
    rw [Int64.toInt32_ofInt, w32_of]
  · rename_i xv st1
    cases hs
    refine lv_i2b hx hb (zdc_eq hc) rfl ?_
    have K := kk H locs lm (hat.st (zwf_cons (zwfI (r32_i _)) (hwt rfl)))
    rw [List.map_cons, show zcv G (zI (zi8 xv)) = .int (Int32.ofInt (zi8 xv)) from rfl, zi8, Int32.ofInt_toInt] at K
    exact K
  · rename_i xv st1
    split at hs
    · rename_i h0
      cases hs
      exact lv_i2c hx hb (zdc_eq hc) (z_i2c h0) (kk H locs lm (hat.st (zwf_cons (zwf_hd hat.2.2.2.2.2) (hwt rfl))))
    · cases hs
  · cases hs
theorem z_cmp {x y : Int} (hx : r64 x) (hy : r64 y) : lg_cmp (Int64.ofInt x) (Int64.ofInt y) = Int32.ofInt (zcmp x y) := by
  unfold lg_cmp zcmp
  have e1 : (Int64.ofInt x > Int64.ofInt y) ↔ y < x := z64_lt hy hx
  by_cases h1 : y < x
  · rw [if_pos (e1.mpr h1), if_pos h1]; rfl
  · rw [if_neg (fun q => h1 (e1.mp q)), if_neg h1]
    by_cases h2 : x = y
    · rw [if_pos ((z64_inj hx hy).mpr h2), if_pos h2]; rfl
    · rw [if_neg (fun q => h2 ((z64_inj hx hy).mp q)), if_neg h2]; rfl
theorem zcmp_r (x y : Int) : r32 (zcmp x y) := by
  unfold zcmp
  split
  · exact ⟨by decide, by decide⟩
  · split <;> exact ⟨by decide, by decide⟩
def zc_lcmp : zChk := fun y pc i => i.2.1 == 1 && zdc y pc .lcmp 1
theorem zp_lcmp : zSound (zs_lcmp, zc_lcmp) := by
  intro G y p l e R s m args below meth c H locs Q n0 m0 nF mF cx hRc hRs hRf hRl i pc ls st S lm pc' ls' st' S' hc hs hat hn0 hm0 hnF hmF kk
  obtain ⟨hx, hb, hml, hown, hts, hfix, -⟩ := cx
  obtain ⟨op, len, a, b, k, ex⟩ := i
  unfold zs_lcmp at hs
  dsimp only at hs
  simp only [zc_lcmp, Bool.and_eq_true, beq_iff_eq] at hc
  obtain ⟨rfl, hc⟩ := hc
  split at hs
  · rename_i yv xv st1
    cases hs
    have hwy := (zwf_hd hat.2.2.2.2.2).2 rfl
    have hwx := (zwf_hd (zwf_tl hat.2.2.2.2.2)).2 rfl
    have hwt := zwf_tl (zwf_tl hat.2.2.2.2.2)
    refine W.lcmp hx hb (zdc_eq hc) ?_
    rw [z_cmp hwx hwy]
    exact kk H locs lm (hat.st (zwf_cons (zwfI (zcmp_r _ _)) hwt))
  · cases hs
def zCd (a : Nat) : ClassFile.Cond := match a with
  | 0 => .eq
  | 1 => .ne
  | 2 => .lt
  | 3 => .ge
  | 4 => .gt
  | _ => .le
def zc_if : zChk := fun y pc i => i.2.1 == 3 && decide (i.2.2.1 < 6) && zdc y pc (.ifCond (zCd i.2.2.1) ((i.2.2.2.1 : Int) - pc)) 3
theorem r32_0 : r32 0 := ⟨by decide, by decide⟩
theorem zp_if : zSound (zs_if, zc_if) := by
  intro G y p l e R s m args below meth c H locs Q n0 m0 nF mF cx hRc hRs hRf hRl i pc ls st S lm pc' ls' st' S' hc hs hat hn0 hm0 hnF hmF kk
  obtain ⟨hx, hb, hml, hown, hts, hfix, -⟩ := cx
  obtain ⟨op, len, a, b, k, ex⟩ := i
  unfold zs_if at hs
  dsimp only at hs
  simp only [zc_if, Bool.and_eq_true, beq_iff_eq, decide_eq_true_eq] at hc
  obtain ⟨⟨rfl, h6⟩, hc⟩ := hc
  split at hs
  · rename_i xv st1
    cases hs
    have hwx := (zwf_hd hat.2.2.2.2.2).1 rfl
    have K := kk H locs lm (hat.st (zwf_tl hat.2.2.2.2.2))
    have ht : (pc : Int) + ((b : Int) - pc) = (b : Int) := by omega
    rw [List.map_cons, show zcv G (0, xv) = .int (Int32.ofInt xv) from rfl]
    match a, h6 with
    | 0, _ =>
      refine lv_if_eq hx hb (zdc_eq hc) ht (fun h => ?_) (fun h => ?_)
      · rw [← z32_0, z32_inj hwx r32_0] at h
        rw [if_pos (by simpa [zcond] using h)] at K; exact K
      · rw [← z32_0, z32_inj hwx r32_0] at h
        rw [if_neg (by simpa [zcond] using h)] at K; exact K
    | 1, _ =>
      refine lv_if_ne hx hb (zdc_eq hc) ht (fun h => ?_) (fun h => ?_)
      · rw [← z32_0, z32_inj hwx r32_0] at h
        rw [if_pos (by simpa [zcond] using h)] at K; exact K
      · rw [← z32_0, z32_inj hwx r32_0] at h
        rw [if_neg (by simpa [zcond] using h)] at K; exact K
    | 2, _ =>
      refine lv_if_lt hx hb (zdc_eq hc) ht (fun h => ?_) (fun h => ?_)
      · rw [← z32_0, z32_lt hwx r32_0] at h
        rw [if_pos (by simpa [zcond] using h)] at K; exact K
      · rw [← z32_0, z32_lt hwx r32_0] at h
        rw [if_neg (by simpa [zcond] using h)] at K; exact K
    | 3, _ =>
      refine lv_if_ge hx hb (zdc_eq hc) ht (fun h => ?_) (fun h => ?_)
      · rw [← z32_0, z32_le r32_0 hwx] at h
        rw [if_pos (by simpa [zcond] using h)] at K; exact K
      · rw [← z32_0, z32_le r32_0 hwx] at h
        rw [if_neg (by simpa [zcond] using h)] at K; exact K
    | 4, _ =>
      refine lv_if_gt hx hb (zdc_eq hc) ht (fun h => ?_) (fun h => ?_)
      · rw [← z32_0, z32_lt r32_0 hwx] at h
        rw [if_pos (by simpa [zcond] using h)] at K; exact K
      · rw [← z32_0, z32_lt r32_0 hwx] at h
        rw [if_neg (by simpa [zcond] using h)] at K; exact K
    | 5, _ =>
      refine lv_if_le hx hb (zdc_eq hc) ht (fun h => ?_) (fun h => ?_)
      · rw [← z32_0, z32_le hwx r32_0] at h
        rw [if_pos (by simpa [zcond] using h)] at K; exact K
      · rw [← z32_0, z32_le hwx r32_0] at h
        rw [if_neg (by simpa [zcond] using h)] at K; exact K
    | n + 6, h => omega
  · cases hs
def zc_icmp : zChk := fun y pc i => i.2.1 == 3 && decide (i.2.2.1 < 6) && zdc y pc (.if_icmp (zCd i.2.2.1) ((i.2.2.2.1 : Int) - pc)) 3
theorem zp_icmp : zSound (zs_icmp, zc_icmp) := by
  intro G y p l e R s m args below meth c H locs Q n0 m0 nF mF cx hRc hRs hRf hRl i pc ls st S lm pc' ls' st' S' hc hs hat hn0 hm0 hnF hmF kk
  obtain ⟨hx, hb, hml, hown, hts, hfix, -⟩ := cx
  obtain ⟨op, len, a, b, k, ex⟩ := i
  unfold zs_icmp at hs
  dsimp only at hs
  simp only [zc_icmp, Bool.and_eq_true, beq_iff_eq, decide_eq_true_eq] at hc
  obtain ⟨⟨rfl, h6⟩, hc⟩ := hc
  split at hs
  · rename_i yv xv st1
    cases hs
    have hwy := (zwf_hd hat.2.2.2.2.2).1 rfl
    have hwx := (zwf_hd (zwf_tl hat.2.2.2.2.2)).1 rfl
    have K := kk H locs lm (hat.st (zwf_tl (zwf_tl hat.2.2.2.2.2)))
    have ht : (pc : Int) + ((b : Int) - pc) = (b : Int) := by omega
    rw [List.map_cons, List.map_cons, show zcv G (0, xv) = .int (Int32.ofInt xv) from rfl, show zcv G (0, yv) = .int (Int32.ofInt yv) from rfl]
    match a, h6 with
    | 0, _ =>
      refine lv_icmp_eq hx hb (zdc_eq hc) ht (fun h => ?_) (fun h => ?_)
      · rw [z32_inj hwx hwy] at h
        rw [if_pos (by simpa [zcond] using h)] at K; exact K
      · rw [z32_inj hwx hwy] at h
        rw [if_neg (by simpa [zcond] using h)] at K; exact K
    | 1, _ =>
      refine lv_icmp_ne hx hb (zdc_eq hc) ht (fun h => ?_) (fun h => ?_)
      · rw [z32_inj hwx hwy] at h
        rw [if_pos (by simpa [zcond] using h)] at K; exact K
      · rw [z32_inj hwx hwy] at h
        rw [if_neg (by simpa [zcond] using h)] at K; exact K
    | 2, _ =>
      refine lv_icmp_lt hx hb (zdc_eq hc) ht (fun h => ?_) (fun h => ?_)
      · rw [z32_lt hwx hwy] at h
        rw [if_pos (by simpa [zcond] using h)] at K; exact K
      · rw [z32_lt hwx hwy] at h
        rw [if_neg (by simpa [zcond] using h)] at K; exact K
    | 3, _ =>
      refine lv_icmp_ge hx hb (zdc_eq hc) ht (fun h => ?_) (fun h => ?_)
      · rw [z32_le hwy hwx] at h
        rw [if_pos (by simpa [zcond] using h)] at K; exact K
      · rw [z32_le hwy hwx] at h
        rw [if_neg (by simpa [zcond] using h)] at K; exact K
    | 4, _ =>
      refine lv_icmp_gt hx hb (zdc_eq hc) ht (fun h => ?_) (fun h => ?_)
      · rw [z32_lt hwy hwx] at h
        rw [if_pos (by simpa [zcond] using h)] at K; exact K
      · rw [z32_lt hwy hwx] at h
        rw [if_neg (by simpa [zcond] using h)] at K; exact K
    | 5, _ =>
      refine lv_icmp_le hx hb (zdc_eq hc) ht (fun h => ?_) (fun h => ?_)
      · rw [z32_le hwx hwy] at h
        rw [if_pos (by simpa [zcond] using h)] at K; exact K
      · rw [z32_le hwx hwy] at h
        rw [if_neg (by simpa [zcond] using h)] at K; exact K
    | n + 6, h => omega
  · cases hs
def zc_goto : zChk := fun y pc i => i.2.1 == 3 && zdc y pc (.goto ((i.2.2.2.1 : Int) - pc)) 3
theorem zp_goto : zSound (zs_goto, zc_goto) := by
  intro G y p l e R s m args below meth c H locs Q n0 m0 nF mF cx hRc hRs hRf hRl i pc ls st S lm pc' ls' st' S' hc hs hat hn0 hm0 hnF hmF kk
  obtain ⟨hx, hb, hml, hown, hts, hfix, -⟩ := cx
  obtain ⟨op, len, a, b, k, ex⟩ := i
  cases hs
  simp only [zc_goto, Bool.and_eq_true, beq_iff_eq] at hc
  have ht : (pc : Int) + ((b : Int) - pc) = (b : Int) := by omega
  exact lv_goto hx hb (zdc_eq hc.2) ht (kk H locs lm hat)
def zc_dup : zChk := fun y pc i => i.2.1 == 1 && zdc y pc .dup 1
theorem zp_dup : zSound (zs_dup, zc_dup) := by
  intro G y p l e R s m args below meth c H locs Q n0 m0 nF mF cx hRc hRs hRf hRl i pc ls st S lm pc' ls' st' S' hc hs hat hn0 hm0 hnF hmF kk
  obtain ⟨hx, hb, hml, hown, hts, hfix, -⟩ := cx
  obtain ⟨op, len, a, b, k, ex⟩ := i
  have hg := hfix.2.2.2.2.2.2.2.1
  unfold zs_dup at hs
  dsimp only at hs
  simp only [zc_dup, Bool.and_eq_true, beq_iff_eq] at hc
  obtain ⟨rfl, hc⟩ := hc
  split at hs
  · split at hs
    · rename_i h1
      cases hs
      exact lv_dup hx hb (zdc_eq hc) ((zcv_cat G _ hg).trans h1) (kk H locs lm (hat.st (zwf_cons (zwf_hd hat.2.2.2.2.2) hat.2.2.2.2.2)))
    · cases hs
  · cases hs
def zc_dup2 : zChk := fun y pc i => i.2.1 == 1 && zdc y pc .dup2 1
theorem zp_dup2 : zSound (zs_dup2, zc_dup2) := by
  intro G y p l e R s m args below meth c H locs Q n0 m0 nF mF cx hRc hRs hRf hRl i pc ls st S lm pc' ls' st' S' hc hs hat hn0 hm0 hnF hmF kk
  obtain ⟨hx, hb, hml, hown, hts, hfix, -⟩ := cx
  obtain ⟨op, len, a, b, k, ex⟩ := i
  have hg := hfix.2.2.2.2.2.2.2.1
  unfold zs_dup2 at hs
  dsimp only at hs
  simp only [zc_dup2, Bool.and_eq_true, beq_iff_eq] at hc
  obtain ⟨rfl, hc⟩ := hc
  split at hs
  · split at hs
    · rename_i h1
      cases hs
      exact lv_dup2_2 hx hb (zdc_eq hc) ((zcv_cat G _ hg).trans h1) (kk H locs lm (hat.st (zwf_cons (zwf_hd hat.2.2.2.2.2) hat.2.2.2.2.2)))
    · rename_i h1
      split at hs
      · split at hs
        · rename_i h2
          cases hs
          have hw := hat.2.2.2.2.2
          exact lv_dup2_11 hx hb (zdc_eq hc) ((zcv_cat G _ hg).trans (by unfold zcat at h1 ⊢; split at h1 <;> simp_all)) ((zcv_cat G _ hg).trans h2) (kk H locs lm (hat.st (zwf_cons (zwf_hd hw) (zwf_cons (zwf_hd (zwf_tl hw)) hw))))
        · cases hs
      · cases hs
  · cases hs
def zc_pop : zChk := fun y pc i => i.2.1 == 1 && zdc y pc .pop 1
theorem zp_pop : zSound (zs_pop, zc_pop) := by
  intro G y p l e R s m args below meth c H locs Q n0 m0 nF mF cx hRc hRs hRf hRl i pc ls st S lm pc' ls' st' S' hc hs hat hn0 hm0 hnF hmF kk
  obtain ⟨hx, hb, hml, hown, hts, hfix, -⟩ := cx
  obtain ⟨op, len, a, b, k, ex⟩ := i
  have hg := hfix.2.2.2.2.2.2.2.1
  unfold zs_pop at hs
  dsimp only at hs
  simp only [zc_pop, Bool.and_eq_true, beq_iff_eq] at hc
  obtain ⟨rfl, hc⟩ := hc
  split at hs
  · split at hs
    · rename_i h1
      cases hs
      exact lv_pop hx hb (zdc_eq hc) ((zcv_cat G _ hg).trans h1) (kk H locs lm (hat.st (zwf_tl hat.2.2.2.2.2)))
    · cases hs
  · cases hs
def zc_table : zChk := fun y pc i => i.2.2.2.2.2.all (fun t => decide (0 ≤ t)) && zdc y pc (.tableswitch ((i.2.2.2.1 : Int) - pc) i.2.2.2.2.1 (i.2.2.2.2.1 + i.2.2.2.2.2.length - 1) (i.2.2.2.2.2.map (fun t : Int => t - (pc : Int))).toArray) i.2.1
theorem zp_table : zSound (zs_table, zc_table) := by
  intro G y p l e R s m args below meth c H locs Q n0 m0 nF mF cx hRc hRs hRf hRl i pc ls st S lm pc' ls' st' S' hc hs hat hn0 hm0 hnF hmF kk
  obtain ⟨hx, hb, hml, hown, hts, hfix, -⟩ := cx
  obtain ⟨op, len, a, b, k, ex⟩ := i
  unfold zs_table at hs
  dsimp only at hs
  simp only [zc_table, Bool.and_eq_true] at hc
  obtain ⟨hp, hc⟩ := hc
  split at hs
  · rename_i xv st1
    have hwx := (zwf_hd hat.2.2.2.2.2).1 rfl
    have e1 : (Int32.ofInt xv).toInt = xv := z32 hwx
    split at hs
    · rename_i h1
      cases hs
      exact lv_tableOut hx hb (zdc_eq hc) (by rw [e1]; omega) (by omega) (kk H locs lm (hat.st (zwf_tl hat.2.2.2.2.2)))
    · rename_i h1
      cases hs
      have hlt : (xv - k).toNat < ex.length := by omega
      have hm : ex[(xv - k).toNat] ∈ ex := List.getElem_mem hlt
      have h0 : 0 ≤ ex[(xv - k).toNat] := by simpa using List.all_eq_true.mp hp _ hm
      have hg : ex.getD (xv - k).toNat 0 = ex[(xv - k).toNat] := by rw [List.getD_eq_getElem?_getD, List.getElem?_eq_getElem hlt]; rfl
      refine lv_tableIn hx hb (zdc_eq hc) (off := ex[(xv - k).toNat] - pc) (by rw [e1]; omega) (by rw [e1]; omega) ?_ ?_ (kk H locs lm (hat.st (zwf_tl hat.2.2.2.2.2)))
      · rw [e1]
        simp [hlt]
      · rw [hg]; omega
  · cases hs
def zprs : Nat → List Int → List (Int × Int)
  | pc, k :: t :: r => (k, t - pc) :: zprs pc r
  | _, _ => []
def zlkok : List Int → Bool
  | _ :: t :: r => decide (0 ≤ t) && zlkok r
  | _ => true
def zc_look : zChk := fun y pc i => zlkok i.2.2.2.2.2 && ((zprs pc i.2.2.2.2.2).zip ((zprs pc i.2.2.2.2.2).drop 1)).all (fun (a, next) => decide (a.1 < next.1)) && zdc y pc (.lookupswitch ((i.2.2.2.1 : Int) - pc) (zprs pc i.2.2.2.2.2).toArray) i.2.1
theorem zlook_eq (pc b : Nat) (x : Int) : ∀ (ex : List Int), zlkok ex = true → (pc : Int) + Op.lookupswitch.offset (zprs pc ex) ((b : Int) - pc) x = (zlook b x ex : Int)
  | [], _ => by simp only [zprs, zlook]; rw [Op.lookupswitch.offset]; omega
  | [_], _ => by simp only [zprs, zlook]; rw [Op.lookupswitch.offset]; omega
  | k :: t :: r, h => by
    simp only [zlkok, Bool.and_eq_true, decide_eq_true_eq] at h
    simp only [zprs, zlook]
    rw [Op.lookupswitch.offset_cons]
    by_cases hk : x = k
    · subst hk
      simp; omega
    · rw [if_neg hk]
      have := zlook_eq pc b x r h.2
      rw [if_neg]
      · exact this
      · simpa [eq_comm] using hk
theorem zp_look : zSound (zs_look, zc_look) := by
  intro G y p l e R s m args below meth c H locs Q n0 m0 nF mF cx hRc hRs hRf hRl i pc ls st S lm pc' ls' st' S' hc hs hat hn0 hm0 hnF hmF kk
  obtain ⟨hx, hb, hml, hown, hts, hfix, -⟩ := cx
  obtain ⟨op, len, a, b, k, ex⟩ := i
  unfold zs_look at hs
  dsimp only at hs
  simp only [zc_look, Bool.and_eq_true] at hc
  obtain ⟨⟨hp, hq⟩, hc⟩ := hc
  split at hs
  · rename_i xv st1
    cases hs
    have hwx := (zwf_hd hat.2.2.2.2.2).1 rfl
    refine lv_lookup hx hb (zdc_eq hc) hq rfl ?_ (kk H locs lm (hat.st (zwf_tl hat.2.2.2.2.2)))
    rw [z32 hwx]
    exact zlook_eq pc b xv ex hp
  · cases hs
end
section
/-! reads and writes of cells -/
def zplaces : List (List Nat) := [[1143, 1145, 1147, 1149, 1151], [1195, 1197], [1107, 1109, 1111, 1113], [1066, 1068, 1070, 1072, 1074, 1076, 1078, 1080, 1082, 1084, 1086], [1174, 1176, 1178, 1180, 1182], [1215, 1217, 1219, 1221, 1223, 1225, 1227, 1229, 1231, 1233, 1235, 1237, 1239, 1241, 1243], [5124, 5126, 5128, 5130, 5132, 5134, 5136, 5138, 5140, 5142, 5144, 5146, 5148, 5150, 5152, 5154, 5156, 5158, 5160, 5162, 5164, 5166, 5168, 5170, 5172, 5174, 5176, 5178, 5180, 5182, 5184, 5186, 5188, 5190, 5192, 5194, 5196, 5198, 5200, 5202, 5204, 5206, 5208, 5210]]
theorem zin_of {ws : List Cond} {ps : List Nat} (hl : ws.length = ps.length) (h : (ws.zip ps).all (fun q => zw q.2 q.1) = true) : ∀ w ∈ ws, w ∈ zTs := by
  intro w hw
  obtain ⟨i, hi⟩ := List.getElem?_of_mem hw
  have hlt := (List.getElem?_eq_some_iff.mp hi).1
  have hz : (ws.zip ps)[i]? = some (w, ps[i]'(hl ▸ hlt)) := by
    rw [List.getElem?_zip_eq_some]
    exact ⟨hi, List.getElem?_eq_getElem _⟩
  exact zw_in (List.all_eq_true.mp h _ (List.mem_of_getElem? hz))
theorem zu0 : ∀ w ∈ u_ws RX0 TX0 5, w ∈ zTs := zin_of (ps := zplaces.getD 0 []) rfl (by decide +kernel)
theorem zu1 : ∀ w ∈ u_ws RX1 TX1 2, w ∈ zTs := zin_of (ps := zplaces.getD 1 []) rfl (by decide +kernel)
theorem zu2 : ∀ w ∈ u_ws RX2 TX2 4, w ∈ zTs := zin_of (ps := zplaces.getD 2 []) rfl (by decide +kernel)
theorem zu3 : ∀ w ∈ u_ws RX3 TX3 11, w ∈ zTs := zin_of (ps := zplaces.getD 3 []) rfl (by decide +kernel)
theorem zu4 : ∀ w ∈ u_ws RX4 TX4 5, w ∈ zTs := zin_of (ps := zplaces.getD 4 []) rfl (by decide +kernel)
theorem zu5 : ∀ w ∈ u_ws RX5 TX5 15, w ∈ zTs := zin_of (ps := zplaces.getD 5 []) rfl (by decide +kernel)
theorem zu6 : ∀ w ∈ u_ws RX6 TX6 44, w ∈ zTs := zin_of (ps := zplaces.getD 6 []) rfl (by decide +kernel)
/-- what is known of class ci: its name, its fields, their types -/
def zCl (ci : Nat) (C : String) (T : u_T) (N : Nat) (ty : Nat → FieldType) : Prop :=
  vwCl[ci]? = some (C, T, N) ∧ (∀ w ∈ u_ws C T N, w ∈ zTs) ∧ (∀ k, k < N → parseFieldDescriptor (T k).2.2.1 = some (ty k)) ∧ (∀ a, a < N → ∀ b, b < N → a ≠ b → (T a).2.1 ≠ (T b).2.1) ∧ ztys.getD ci tyX0 = ty ∧ znf.getD ci 0 = N
theorem zCl_all {ci : Nat} (h : ci < 7) : ∃ C T N ty, zCl ci C T N ty := by
  match ci, h with
  | 0, _ => exact ⟨_, _, _, _, rfl, zu0, tyX0_ok, nmX0, rfl, rfl⟩
  | 1, _ => exact ⟨_, _, _, _, rfl, zu1, tyX1_ok, nmX1, rfl, rfl⟩
  | 2, _ => exact ⟨_, _, _, _, rfl, zu2, tyX2_ok, nmX2, rfl, rfl⟩
  | 3, _ => exact ⟨_, _, _, _, rfl, zu3, tyX3_ok, nmX3, rfl, rfl⟩
  | 4, _ => exact ⟨_, _, _, _, rfl, zu4, tyX4_ok, nmX4, rfl, rfl⟩
  | 5, _ => exact ⟨_, _, _, _, rfl, zu5, tyX5_ok, nmX5, rfl, rfl⟩
  | 6, _ => exact ⟨_, _, _, _, rfl, zu6, tyX6_ok, nmX6, rfl, rfl⟩
  | n + 7, h => omega
def zTk (ci k : Nat) : String × String × String × Bool := (vwCl.getD ci (RX0, TX0, 0)).2.1 k
theorem zTk_eq {ci k : Nat} {C : String} {T : u_T} {N : Nat} {ty : Nat → FieldType} (h : zCl ci C T N ty) : zTk ci k = T k := by
  unfold zTk
  rw [List.getD_eq_getElem?_getD, h.1]; rfl
theorem zcell_obj {G : zG} {k n : Nat} {f : Int → Int} (h : k < 7) : zcell G k n f = .inr (k, (List.range n).map fun j => zcv G (ztag (zft k j) (f j))) := by
  unfold zcell
  rw [if_pos (by omega)]
theorem zcell_arr {G : zG} {k n : Nat} {f : Int → Int} (h : 100 ≤ k) : zcell G k n f = .inl (gA G (k - 100), n, zarr G k f) := by
  unfold zcell
  rw [if_neg (by omega)]
theorem zfield_at {G : zG} {k n j : Nat} {f : Int → Int} (hj : j < n) : ((List.range n).map fun j => zcv G (ztag (zft k j) (f j)))[j]? = some (zcv G (ztag (zft k j) (f j))) := by
  rw [List.getElem?_map, List.getElem?_range hj]; rfl
theorem zrg_wf {k j : Nat} {x : Int} (hk : k < 100) (h : zrg k j x) : zwf (ztag (zft k j) x) := by
  have e : zvt k j = (ztag (zft k j) 0).1 := by unfold zvt; rw [if_pos hk]
  have e1 : (ztag (zft k j) x).1 = (ztag (zft k j) 0).1 := by unfold ztag; split <;> rfl
  have e2 : (ztag (zft k j) x).2 = x := by unfold ztag; split <;> rfl
  unfold zwf
  rw [e1, e2, ← e]
  exact h
noncomputable def zc_get : zChk := fun y pc i => i.2.1 == 3 && decide (i.2.2.1 < 7) && zdc y pc (.getfield i.2.2.2.2.1.toNat) 3 && zw (i.2.2.2.2.2.getD 0 0).toNat (.fieldLink (zmn y).cls i.2.2.2.2.1.toNat (zTk i.2.2.1 i.2.2.2.1).1 (zTk i.2.2.1 i.2.2.2.1).2.1 (zTk i.2.2.1 i.2.2.2.1).2.2.1)
theorem zp_get : zSound (zs_get, zc_get) := by
  intro G y p l e R s m args below meth c H locs Q n0 m0 nF mF cx hRc hRs hRf hRl i pc ls st S lm pc' ls' st' S' hc hs hat hn0 hm0 hnF hmF kk
  obtain ⟨hx, hb, hml, hown, hts, hfix, -⟩ := cx
  obtain ⟨op, len, a, b, k, ex⟩ := i
  unfold zs_get at hs
  dsimp only at hs
  simp only [zc_get, Bool.and_eq_true, beq_iff_eq, decide_eq_true_eq] at hc
  obtain ⟨⟨⟨rfl, hci⟩, hd⟩, hw⟩ := hc
  obtain ⟨C, T, N, ty, hCl⟩ := zCl_all hci
  rw [zTk_eq hCl] at hw
  split at hs
  · rename_i av st1
    split at hs
    · rename_i c1 n1 hsh
      split at hs
      · rename_i hif
        obtain ⟨rfl, hb1, h32⟩ := hif
        cases hs
        obtain ⟨g1, g2, g3⟩ := zsh_own (G := G) h32 hsh
        obtain ⟨hsz, hP, hI⟩ := hat.1
        obtain ⟨-, hkn, hrg⟩ := hI.2.2.2.2 _ _ _ g1
        have hN : n1 = N := by
          rcases hkn with h | h
          · rw [h.2]; exact hCl.2.2.2.2.2
          · omega
        subst hN
        have hget := zws_get (G := G) g1
        rw [zcell_obj hci, ← g2, ← g3] at hget
        have hrg1 := hrg b
        rw [← g2] at hrg1
        have K := kk H locs lm (hat.st (zwf_cons (zrg_wf (by omega) hrg1) (zwf_tl hat.2.2.2.2.2)))
        rw [List.map_cons, zcv_ref (by omega)]
        exact va_get hx hb hts hCl.2.1 hown hfix.1 hP _ hget hCl.1 b hb1 (hts _ (zw_in hw)) (fun _ h => h) (zfield_at hb1) (zdc_eq hd) K
      · cases hs
    · cases hs
  · cases hs
theorem zfit_of {G : zG} {ty : FieldType} {v : zV} (hty : ty = .int ∨ ty = .long ∨ ty = .boolean ∨ (∃ n, ty = .object n) ∨ ∃ t, ty = .array t) (hv : zokv (zkind ty) v = true) : narrow ty (zcv G v) = zcv G v ∧ fits ty (zcv G v) = true := by
  obtain ⟨t, x⟩ := v
  have href : ∀ t x, t = 2 → (zcv G (t, x) = .null ∨ ∃ a, zcv G (t, x) = .ref a) := by
    intro t x h
    subst h
    show (if x < 0 then _ else _) = _ ∨ ∃ a, (if x < 0 then _ else _) = _
    split
    · exact Or.inl rfl
    · exact Or.inr ⟨_, rfl⟩
  rcases hty with rfl | rfl | rfl | ⟨n, rfl⟩ | ⟨t2, rfl⟩
  · simp [zokv, zkind] at hv; subst hv; exact ⟨rfl, rfl⟩
  · simp [zokv, zkind] at hv; subst hv; exact ⟨rfl, rfl⟩
  · simp [zokv, zkind, zbool] at hv
    obtain ⟨rfl, rfl | rfl⟩ := hv
    · exact ⟨rfl, rfl⟩
    · exact ⟨rfl, rfl⟩
  · simp [zokv, zkind] at hv
    rcases href t x hv with h | ⟨a, h⟩ <;> rw [h] <;> exact ⟨rfl, rfl⟩
  · simp [zokv, zkind] at hv
    rcases href t x hv with h | ⟨a, h⟩ <;> rw [h] <;> exact ⟨rfl, rfl⟩
def zfok (ty : FieldType) : Bool := match ty with
  | .int => true
  | .long => true
  | .boolean => true
  | .object _ => true
  | .array _ => true
  | _ => false
theorem zfok_of {ty : FieldType} (h : zfok ty = true) : ty = .int ∨ ty = .long ∨ ty = .boolean ∨ (∃ n, ty = .object n) ∨ ∃ t, ty = .array t := by
  cases ty <;> simp_all [zfok]
theorem ztag_v {ft : Nat} {v : zV} (h : zokv ft v = true) : ztag ft v.2 = v := by
  obtain ⟨t, x⟩ := v
  unfold zokv at h
  unfold ztag
  split at h
  · simp at h; subst h; rfl
  · simp at h; subst h; rfl
  · simp at h; subst h; rfl
  · rename_i h0 h1 h2
    simp at h
    rw [h.1]
theorem zset_fields {G : zG} {c n b : Nat} {f f' : Int → Int} {v : zV} (hb : b < n) (hv : zokv (zft c b) v = true) (h1 : f' b = v.2) (h2 : ∀ j : Int, j ≠ b → f' j = f j) :
    ((List.range n).map fun j => zcv G (ztag (zft c j) (f' j))) = ((List.range n).map fun j => zcv G (ztag (zft c j) (f j))).set b (zcv G v) := by
  apply List.ext_getElem?
  intro q
  rw [List.getElem?_set, List.length_map, List.length_range]
  by_cases hq : b = q
  · subst hq
    rw [if_pos rfl, if_pos hb, zfield_at hb, h1, ztag_v hv]
  · rw [if_neg hq]
    by_cases hq2 : q < n
    · rw [zfield_at hq2, zfield_at hq2, h2 q (by omega)]
    · rw [List.getElem?_eq_none (by simp; omega), List.getElem?_eq_none (by simp; omega)]
theorem zup_at {H : Int → Int → Int} {a j x : Int} : zup H a j x a j = x := by unfold zup; rw [if_pos ⟨rfl, rfl⟩]
theorem zup_ne {H : Int → Int → Int} {a j x a' j' : Int} (h : ¬ (a' = a ∧ j' = j)) : zup H a j x a' j' = H a' j' := by unfold zup; rw [if_neg h]
theorem zInv_up {G : zG} {S : zHp} {a j x : Int} {k n : Nat} (h : zInv G S) (ha : 32 ≤ a) (hs : S.2.1[(a - 32).toNat]? = some (k, n)) (hx : ∀ q : Nat, (q : Int) = j → zrg k q x) : zInv G (S.1, S.2.1, zup S.2.2 a j x) := by
  obtain ⟨h1, h2, h3, h4, h5⟩ := h
  refine ⟨h1, fun q => ?_, fun q hq => ?_, fun i hi q => ?_, fun i k' n' hi => ?_⟩
  · show zup S.2.2 a j x 0 q = _
    rw [zup_ne (by omega)]; exact h2 q
  · show zup S.2.2 a j x 1 q = _
    rw [zup_ne (by omega)]; exact h3 q hq
  · show zup S.2.2 a j x (10 + i) q = _
    rw [zup_ne (by omega)]; exact h4 i hi q
  · obtain ⟨g1, g2, g3⟩ := h5 i k' n' hi
    refine ⟨g1, g2, fun q => ?_⟩
    show zrg k' q (zup S.2.2 a j x (32 + i) q)
    by_cases hc : (32 + (i : Int) = a ∧ (q : Int) = j)
    · have hi2 : i = (a - 32).toNat := by omega
      subst hi2
      cases hs.symm.trans hi
      rw [hc.1, hc.2, zup_at]
      exact hx q hc.2
    · rw [zup_ne hc]; exact g3 q
theorem zrg_of {k j : Nat} {v : zV} (hk : k < 100) (hw : zwf v) (hv : zokv (zft k j) v = true) : zrg k j v.2 := by
  have e : zvt k j = (ztag (zft k j) 0).1 := by unfold zvt; rw [if_pos hk]
  have e1 : (ztag (zft k j) v.2).1 = (ztag (zft k j) 0).1 := by unfold ztag; split <;> rfl
  rw [ztag_v hv] at e1
  unfold zrg
  rw [e, ← e1]
  exact hw
noncomputable def zc_put : zChk := fun y pc i => i.2.1 == 3 && decide (i.2.2.1 < 7) && zdc y pc (.putfield i.2.2.2.2.1.toNat) 3 && zw (i.2.2.2.2.2.getD 0 0).toNat (.fieldLink (zmn y).cls i.2.2.2.2.1.toNat (zTk i.2.2.1 i.2.2.2.1).1 (zTk i.2.2.1 i.2.2.2.1).2.1 (zTk i.2.2.1 i.2.2.2.1).2.2.1) && zfok ((ztys.getD i.2.2.1 tyX0) i.2.2.2.1) && (!(zTk i.2.2.1 i.2.2.2.1).2.2.2 || (decide ((zmn y).name = "<init>") && decide ((zTk i.2.2.1 i.2.2.2.1).1 = (zmn y).cls)))
theorem zp_put : zSound (zs_put, zc_put) := by
  intro G y p l e R s m args below meth c H locs Q n0 m0 nF mF cx hRc hRs hRf hRl i pc ls st S lm pc' ls' st' S' hc hs hat hn0 hm0 hnF hmF kk
  obtain ⟨hx, hb, hml, hown, hts, hfix, hnm⟩ := cx
  obtain ⟨op, len, a, b, k, ex⟩ := i
  unfold zs_put at hs
  dsimp only at hs
  simp only [zc_put, Bool.and_eq_true, Bool.or_eq_true, beq_iff_eq, decide_eq_true_eq, Bool.not_eq_true'] at hc
  obtain ⟨⟨⟨⟨⟨rfl, hci⟩, hd⟩, hw⟩, hfo⟩, hfin⟩ := hc
  obtain ⟨C, T, N, ty, hCl⟩ := zCl_all hci
  rw [zTk_eq hCl] at hw hfin
  rw [hCl.2.2.2.2.1] at hfo
  split at hs
  · rename_i v av st1
    split at hs
    · rename_i c1 n1 hsh
      split at hs
      · rename_i hif
        obtain ⟨rfl, hb1, h32, hok⟩ := hif
        cases hs
        obtain ⟨g1, g2, g3⟩ := zsh_own (G := G) h32 hsh
        obtain ⟨hsz, hP, hI⟩ := hat.1
        obtain ⟨-, hkn, hrg⟩ := hI.2.2.2.2 _ _ _ g1
        have hN : n1 = N := by
          rcases hkn with h | h
          · rw [h.2]; exact hCl.2.2.2.2.2
          · omega
        subst hN
        have hwv := zwf_hd hat.2.2.2.2.2
        have hwt := zwf_tl (zwf_tl hat.2.2.2.2.2)
        have hget := zws_get (G := G) g1
        rw [zcell_obj hci, ← g2, ← g3] at hget
        have hok' : zokv (zkind (ty b)) v = true := by rw [← hCl.2.2.2.2.1]; exact hok
        obtain ⟨hn1, hf1⟩ := zfit_of (G := G) (zfok_of hfo) hok'
        have hws : zws G (S.1, S.2.1, zup S.2.2 av b v.2) = (zws G S).set (av - 32).toNat (zad G av, .inr (c1, ((List.range n1).map fun j => zcv G (ztag (zft c1 j) (S.2.2 av j))).set b (zcv G v))) := by
          rw [zws_up h32 g1, zcell_obj hci, zset_fields hb1 hok (f := S.2.2 av) zup_at (fun j hj => zup_ne (fun q => hj q.2)), ← g3]
        have hI' : zInv G (S.1, S.2.1, zup S.2.2 av b v.2) := by
          refine zInv_up hI h32 g1 (fun q hq => ?_)
          have e : q = b := by omega
          rw [e]
          exact zrg_of (by omega) hwv hok
        rw [List.map_cons, List.map_cons, zcv_ref (by omega)]
        have K : ∀ (H1 : Heap) (locs1 : List Loc), H1.size = H.size → va_P (gD G) vwCl ((zws G S).set (av - 32).toNat (zad G av, .inr (c1, ((List.range n1).map fun j => zcv G (ztag (zft c1 j) (S.2.2 av j))).set b (zcv G v)))) H1 → va_S (zA G) s.heap H1 locs1 → W p l e R s m args below meth c H1 locs1 (S.2.1.length - n0) (zslots S - m0) Q (F0 m (pc + 3) lm (st'.map (zcv G))) := by
          intro H1 locs1 hz h1 h2
          rw [← hws] at h1
          exact kk H1 locs1 lm ⟨⟨by rw [hz]; exact hsz, h1, hI'⟩, h2, hat.2.2.1, hat.2.2.2.1, hat.2.2.2.2.1, hwt⟩
        have hlen : b < ((List.range n1).map fun j => zcv G (ztag (zft c1 j) (S.2.2 av j))).length := by simp; exact hb1
        obtain ⟨r, h1, cell, q1, q2, q3, q4⟩ := hP _ _ hget
        have hr : r = (C, T, n1) := Option.some.inj (h1.symm.trans hCl.1)
        subst hr
        obtain ⟨hS, hfc, kC, hkC, hkind⟩ := hfix.1.1 c1 _ hCl.1
        obtain ⟨cf, kf, fi, f, hi, hsl⟩ := hS b hb1
        have hap := va_apart (own := (zmn y).cls) hts hCl.2.1 ty hCl.2.2.1 hCl.2.2.2.1 hfix.1 hCl.1
        have hst := (u_facts hfc hkC (u_lays hts hCl.2.1 hb1) hi).1
        have hlay := hts _ (hCl.2.1 _ (u_in_lay hb1))
        unfold u_lay at hlay
        have hfl : f.slot < cell.slots.size := by rw [hsl]; exact k2_hasslot (q4 b hb1)
        have hAd : zA G (zad G av) := by show gB G ≤ zad G av; omega
        have KK : ∀ H1 : Heap, H1[zad G av]? = some (cell.setSlot f.slot (zcv G v)) → H1.size = H.size → (∀ q, q ≠ zad G av → H1[q]? = H[q]?) → W p l e R s m args below meth c H1 (locs ++ [⟨zad G av, f.slot⟩]) (S.2.1.length - n0) (zslots S - m0) Q (F0 m (pc + 3) lm (st'.map (zcv G))) := by
          intro H1 e1 e2 e3
          rw [hsl] at e1
          exact K H1 _ e2 (hP.set (zws_D G S) hget ⟨_, hCl.1, t_OB.to (V := updV (vp_V _) b (zcv G v)) ⟨_, e1, q2, q3, t_set q4 hap hb1 (zcv G v)⟩ (fun j _ => vp_updV_set hlen (zcv G v) j)⟩ e3) (hat.2.1.put e2 e3 hAd)
        rcases hfin with hfin | ⟨hin, hdecl⟩
        · rw [if_neg (by rw [hfin]; decide)] at hlay
          have h6 := u_store hfc hkC hkind hlay hi (hCl.2.2.1 b hb1) hn1 hf1
          exact W.putK hx hb (f := f) ⟨hown, hts _ (zw_in hw), ⟨_, _, _, hi⟩, hst⟩ (by rw [q2]; exact h6) q1 q3 hfl rfl rfl (zdc_eq hd) KK
        · have hin2 : meth.name = "<init>" := hnm hin
          by_cases hf2 : (T b).2.2.2 = true
          · rw [if_pos hf2] at hlay
            have hcf : m.cls = cf := by
              obtain ⟨_, _, c', _, _, _, -, -, hf', -, -, -, hown2, -⟩ := Cond.laysFinal_spec hlay
              have e1 : c' = cf := by have := hi.symm.trans hf'; simp at this; exact this.1.symm
              rw [hdecl] at hown2
              rw [← e1]; exact Option.some.inj (hown.symm.trans hown2)
            have h6 := u_fits hfc hkC hkind (Or.inr hlay) hi (hCl.2.2.1 b hb1) hn1 hf1
            exact W.putFinK hx hb hown (hts _ (zw_in hw)) hi hst hcf hin2 (by rw [q2]; exact h6) q1 q3 hfl rfl rfl (zdc_eq hd) KK
          · rw [if_neg hf2] at hlay
            have h6 := u_store hfc hkC hkind hlay hi (hCl.2.2.1 b hb1) hn1 hf1
            exact W.putK hx hb (f := f) ⟨hown, hts _ (zw_in hw), ⟨_, _, _, hi⟩, hst⟩ (by rw [q2]; exact h6) q1 q3 hfl rfl rfl (zdc_eq hd) KK
      · cases hs
    · cases hs
  · cases hs
-- arrays
theorem zarr_i {G : zG} {k : Nat} {f : Int → Int} (h1 : ¬ k = 101) (h2 : k < 104) : zarr G k f = .inl fun j => Int32.ofInt (f j) := by unfold zarr; rw [if_neg h1, if_pos h2]
theorem zarr_l {G : zG} {f : Int → Int} : zarr G 101 f = .inr (.inl fun j => Int64.ofInt (f j)) := by unfold zarr; rw [if_pos rfl]
theorem zarr_q {G : zG} {k : Nat} {f : Int → Int} (h2 : 104 ≤ k) : zarr G k f = .inr (.inr (.inr (.inr fun j => if f j < 0 then none else some (zad G (f j))))) := by unfold zarr; rw [if_neg (by omega), if_neg (by omega)]
theorem zTys_at (G : zG) {k : Nat} (h : 100 ≤ k) (h2 : k < 106) : ∃ ty, (zTys G)[k - 100]? = some (gA G (k - 100), ty) := by
  have : k = 100 ∨ k = 101 ∨ k = 102 ∨ k = 103 ∨ k = 104 ∨ k = 105 := by omega
  rcases this with rfl | rfl | rfl | rfl | rfl | rfl <;> exact ⟨_, rfl⟩
theorem zsh_for {S : zHp} {a : Int} {q : Nat × Nat} (h : zsh S a = some q) (ha : a < 32) : 0 ≤ a ∧ zF S.1 a = some q := by
  unfold zsh at h
  split at h
  · cases h
  · first
      | exact ⟨by omega, h⟩
      | (rw [if_pos ha] at h; exact ⟨by omega, h⟩)
theorem zad_for {G : zG} {a : Int} (h : a < 32) : zad G a = if a = 0 then gb G else if a = 1 then gT G else if a < 10 then gK G (a - 2).toNat else gV G (a - 10).toNat := by unfold zad; rw [if_pos h]
/-- a foreign array: the script, the table, a text's bytes -/
theorem zfor_arr {S : zHp} {a : Int} {k n : Nat} (h : zsh S a = some (k, n)) (ha : a < 32) (hk : 91 ≤ k) : (a = 0 ∧ k = 100 ∧ n = S.1) ∨ (a = 1 ∧ k = 100 ∧ n = 168) ∨ (∃ i : Nat, i < 8 ∧ a = 10 + i ∧ k = 91 ∧ n = (zstrs.getD i []).length) := by
  obtain ⟨h0, h1⟩ := zsh_for h ha
  unfold zF at h1
  split at h1
  · cases h1; exact Or.inl ⟨by assumption, rfl, rfl⟩
  · split at h1
    · cases h1; exact Or.inr (Or.inl ⟨by assumption, rfl, rfl⟩)
    · split at h1
      · cases h1; omega
      · split at h1
        · cases h1; exact Or.inr (Or.inr ⟨(a - 10).toNat, by omega, by omega, rfl, rfl⟩)
        · cases h1
theorem zstr_len {i : Nat} (hi : i < 8) : zstrlen.getD i 0 = (zstrs.getD i []).length := by
  match i, hi with
  | 0, _ => rfl
  | 1, _ => rfl
  | 2, _ => rfl
  | 3, _ => rfl
  | 4, _ => rfl
  | 5, _ => rfl
  | 6, _ => rfl
  | 7, _ => rfl
  | n + 8, h => omega
def zc_alen : zChk := fun y pc i => i.2.1 == 1 && zdc y pc .arraylength 1
theorem zp_alen : zSound (zs_alen, zc_alen) := by
  intro G y p l e R s m args below meth c H locs Q n0 m0 nF mF cx hRc hRs hRf hRl i pc ls st S lm pc' ls' st' S' hc hs hat hn0 hm0 hnF hmF kk
  obtain ⟨hx, hb, hml, hown, hts, hfix, hnm⟩ := cx
  obtain ⟨op, len, a, b, k, ex⟩ := i
  unfold zs_alen at hs
  dsimp only at hs
  simp only [zc_alen, Bool.and_eq_true, beq_iff_eq] at hc
  obtain ⟨rfl, hd⟩ := hc
  split at hs
  · rename_i av st1
    split at hs
    · rename_i c1 n1 hsh
      split at hs
      · rename_i h91
        cases hs
        obtain ⟨hsz, hP, hI⟩ := hat.1
        have hnum : Int32.ofNat n1 = Int32.ofInt (n1 : Int) := Int32.ofInt_eq_ofNat.symm
        by_cases h32 : 32 ≤ av
        · obtain ⟨g1, g2, g3⟩ := zsh_own (G := G) h32 hsh
          obtain ⟨hn2, hkn, hrg⟩ := hI.2.2.2.2 _ _ _ g1
          have hk : 100 ≤ c1 ∧ c1 < 106 := by omega
          have hget := zws_get (G := G) g1
          rw [zcell_arr hk.1, ← g2, ← g3] at hget
          obtain ⟨ty, hty⟩ := zTys_at G hk.1 hk.2
          have K := kk H locs lm (hat.st (zwf_cons (zwfI ⟨by omega, by omega⟩) (zwf_tl hat.2.2.2.2.2)))
          rw [List.map_cons, zcv_ref (by omega)]
          exact va_alen hx hb hfix.1 hP _ _ hget hty hnum (zdc_eq hd) K
        · have h32' : av < 32 := by omega
          have h0 := (zsh_for hsh h32').1
          rw [List.map_cons, zcv_ref (by omega), zad_for h32']
          rcases zfor_arr hsh h32' h91 with ⟨rfl, rfl, rfl⟩ | ⟨rfl, rfl, rfl⟩ | ⟨i, hi, rfl, rfl, rfl⟩
          · rw [if_pos rfl]
            have hL := hI.1
            have K := kk H locs lm (hat.st (zwf_cons (zwfI ⟨by omega, by omega⟩) (zwf_tl hat.2.2.2.2.2)))
            rw [List.map_cons, show zcv G (zI (S.1 : Int)) = .int (Int32.ofInt (S.1 : Int)) from rfl, ← hnum, hL.1] at K
            exact va_slen hx hb hfix.2.1 (Nat.lt_of_lt_of_le hfix.2.2.1.1 hfix.2.2.1.2) (fun q => by have := hfix.2.2.1.1; unfold zA at q; omega) hat.2.1 (zdc_eq hd) K
          · rw [if_neg (by decide), if_pos rfl]
            have K := kk H locs lm (hat.st (zwf_cons (zwfI ⟨by omega, by omega⟩) (zwf_tl hat.2.2.2.2.2)))
            exact va_tlen hx hb hfix.2.2.2.2.1 hat.2.1 hnum (zdc_eq hd) K
          · rw [if_neg (by omega), if_neg (by omega), if_neg (by omega), show ((10 : Int) + i - 10).toNat = i by omega]
            have hl8 : (zstrs.getD i []).length < 100 := by
              have : ∀ j, j < 8 → (zstrs.getD j []).length < 100 := by decide
              exact this i hi
            have K := kk H locs lm (hat.st (zwf_cons (zwfI ⟨by omega, by omega⟩) (zwf_tl hat.2.2.2.2.2)))
            refine va_tlen hx hb ((hfix.2.2.2.2.2.2.2.2.1).1 i hi).2.2.2 hat.2.1 ?_ (zdc_eq hd) K
            rw [zstr_len hi]; exact hnum
      · cases hs
    · cases hs
  · cases hs
theorem zsmall_r : ∀ j, j < 168 → r32 (zsmall.getD j 0) := by
  have h : (List.range 168).all (fun j => zi32 (zsmall.getD j 0)) = true := by decide +kernel
  intro j hj
  exact zi32_r (List.all_eq_true.mp h j (List.mem_range.mpr hj))
theorem zstr_r : ∀ i, i < 8 → ∀ j, j < 100 → r32 ((zstrs.getD i []).getD j 0) ∧ (zstrbyt.getD i []).getD j 0 = Int32.ofInt ((zstrs.getD i []).getD j 0) := by
  have h : (List.range 8).all (fun i => (List.range 100).all fun j => zi32 ((zstrs.getD i []).getD j 0) && decide ((zstrbyt.getD i []).getD j 0 = Int32.ofInt ((zstrs.getD i []).getD j 0))) = true := by decide +kernel
  intro i hi j hj
  have h1 := List.all_eq_true.mp (List.all_eq_true.mp h i (List.mem_range.mpr hi)) j (List.mem_range.mpr hj)
  simp only [Bool.and_eq_true, decide_eq_true_eq] at h1
  exact ⟨zi32_r h1.1, h1.2⟩
def zIld (a : Nat) : Option Instr := match a with
  | 0 => some .iaload
  | 1 => some .laload
  | 2 => some .baload
  | 4 => some .aaload
  | _ => none
def zc_ald : zChk := fun y pc i => i.2.1 == 1 && zdo y pc (zIld i.2.2.1) 1
theorem zrg_arr {k j : Nat} {x : Int} (hk : 100 ≤ k) (h : zrg k j x) : (k = 101 → r64 x) ∧ (¬ k = 101 → k < 104 → r32 x) := by
  unfold zrg zvt at h
  rw [if_neg (by omega)] at h
  constructor
  · intro e
    rw [if_pos e] at h
    exact h.2 rfl
  · intro e e2
    rw [if_neg e, if_pos e2] at h
    exact h.1 rfl
theorem zp_ald : zSound (zs_ald, zc_ald) := by
  intro G y p l e R s m args below meth c H locs Q n0 m0 nF mF cx hRc hRs hRf hRl i pc ls st S lm pc' ls' st' S' hc hs hat hn0 hm0 hnF hmF kk
  obtain ⟨hx, hb, hml, hown, hts, hfix, hnm⟩ := cx
  obtain ⟨op, len, a, b, k, ex⟩ := i
  unfold zs_ald at hs
  dsimp only at hs
  simp only [zc_ald, Bool.and_eq_true, beq_iff_eq] at hc
  obtain ⟨rfl, hd⟩ := hc
  split at hs
  · rename_i jv av st1
    split at hs
    · rename_i c1 n1 hsh
      split at hs
      · rename_i hif
        obtain ⟨hok, hj0, hjn⟩ := hif
        cases hs
        obtain ⟨hsz, hP, hI⟩ := hat.1
        have hjr := (zwf_hd hat.2.2.2.2.2).1 rfl
        have hwt := zwf_tl (zwf_tl hat.2.2.2.2.2)
        have hvin := z_in hjr hj0 hjn
        have hcl := z_clamp hjr hj0
        have hjj : ((jv.toNat : Nat) : Int) = jv := by omega
        rw [List.map_cons, List.map_cons, show zcv G (0, jv) = .int (Int32.ofInt jv) from rfl]
        by_cases h32 : 32 ≤ av
        · obtain ⟨g1, g2, g3⟩ := zsh_own (G := G) h32 hsh
          obtain ⟨hn2, hkn, hrg⟩ := hI.2.2.2.2 _ _ _ g1
          have hk : 100 ≤ c1 ∧ c1 < 106 := by
            unfold zldok at hok
            split at hok <;> simp at hok <;> omega
          have hget := zws_get (G := G) g1
          rw [zcell_arr hk.1, ← g2, ← g3] at hget
          have hr := zrg_arr hk.1 (hrg jv.toNat)
          rw [← g2, hjj] at hr
          rw [zcv_ref (by omega)]
          unfold zldok at hok
          split at hok
          · have e : c1 = 100 := by simpa using hok
            subst e
            rw [zarr_i (by decide) (by decide)] at hget
            have K := kk H locs lm (hat.st (zwf_cons (zwfI (hr.2 (by decide) (by decide))) hwt))
            refine va_iald hx hb hfix.1 hP _ 0 hget rfl hvin (zdc_eq hd) ?_
            rw [hcl, hjj]
            exact K
          · have e : c1 = 101 := by simpa using hok
            subst e
            rw [zarr_l] at hget
            have K := kk H locs lm (hat.st (zwf_cons (zwfL (hr.1 rfl)) hwt))
            refine va_lald hx hb hfix.1 hP _ 1 hget rfl hvin (zdc_eq hd) ?_
            rw [hcl, hjj]
            exact K
          · have e : c1 = 102 ∨ c1 = 103 := by simp at hok; omega
            rcases e with rfl | rfl
            · rw [zarr_i (by decide) (by decide)] at hget
              have K := kk H locs lm (hat.st (zwf_cons (zwfI (hr.2 (by decide) (by decide))) hwt))
              refine va_bald hx hb hfix.1 hP _ 2 hget rfl hvin (zdc_eq hd) ?_
              rw [hcl, hjj]
              exact K
            · rw [zarr_i (by decide) (by decide)] at hget
              have K := kk H locs lm (hat.st (zwf_cons (zwfI (hr.2 (by decide) (by decide))) hwt))
              refine va_zald hx hb hfix.1 hP _ 3 hget rfl hvin (zdc_eq hd) ?_
              rw [hcl, hjj]
              exact K
          · rename_i t2 h0 h1 h2
            have ha4 : a = 4 := by
              unfold zIld at hd
              split at hd
              · exact absurd rfl h0
              · exact absurd rfl h1
              · exact absurd rfl h2
              · rfl
              · cases hd
            subst ha4
            rw [zarr_q (by simp at hok; omega)] at hget
            have K := kk H locs lm (hat.st (zwf_cons (zwfR _) hwt))
            have e : c1 = 104 ∨ c1 = 105 := by simpa using hok
            have hv2 : va_rf (if S.2.2 av jv < 0 then none else some (zad G (S.2.2 av jv))) = zcv G (zR (S.2.2 av jv)) := by
              show _ = (if S.2.2 av jv < 0 then _ else _)
              split <;> rfl
            rcases e with rfl | rfl
            · refine va_aldq hx hb hfix.1 hP _ 4 (C := RX0) hget rfl hvin (zdc_eq hd) ?_
              rw [hcl, hjj, hv2]
              exact K
            · refine va_aldq hx hb hfix.1 hP _ 5 (C := RX4) hget rfl hvin (zdc_eq hd) ?_
              rw [hcl, hjj, hv2]
              exact K
        · have h32' : av < 32 := by omega
          have h0 := (zsh_for hsh h32').1
          rw [zcv_ref (by omega), zad_for h32']
          have h91 : 91 ≤ c1 := by
            unfold zldok at hok
            split at hok <;> simp at hok <;> omega
          rcases zfor_arr hsh h32' h91 with ⟨rfl, rfl, rfl⟩ | ⟨rfl, rfl, rfl⟩ | ⟨i, hi, rfl, rfl, rfl⟩
          · rw [if_pos rfl]
            have ha0 : a = 0 := by
              unfold zldok at hok
              split at hok
              · rfl
              · simp at hok
              · simp at hok
              · simp at hok
            subst ha0
            have hL := hI.1
            have hsc := hI.2.1 jv.toNat
            rw [hjj] at hsc
            have K := kk H locs lm (hat.st (zwf_cons (zwfI (x := S.2.2 0 jv) (by rw [hsc]; exact r32_i _)) hwt))
            rw [hL.1] at hvin
            refine va_sld hx hb hfix.2.1 (Nat.lt_of_lt_of_le hfix.2.2.1.1 hfix.2.2.1.2) (fun q => by have := hfix.2.2.1.1; unfold zA at q; omega) hat.2.1 hvin (zdc_eq hd) ?_
            rw [List.map_cons, show zcv G (ztag (if 0 = 4 then 2 else if 0 = 1 then 1 else 0) (S.2.2 0 jv)) = .int (Int32.ofInt (S.2.2 0 jv)) from rfl, hsc, Int32.ofInt_toInt] at K
            rw [hcl]
            exact K
          · rw [if_neg (by decide), if_pos rfl]
            have ha0 : a = 0 := by
              unfold zldok at hok
              split at hok
              · rfl
              · simp at hok
              · simp at hok
              · simp at hok
            subst ha0
            have hsc := hI.2.2.1 jv.toNat (by omega)
            rw [hjj] at hsc
            have K := kk H locs lm (hat.st (zwf_cons (zwfI (x := S.2.2 1 jv) (by rw [hsc]; exact zsmall_r _ (by omega))) hwt))
            refine va_ti hx hb hfix.2.2.2.2.1 hat.2.1 hvin rfl (zdc_eq hd) ?_
            rw [hcl, ← hsc]
            exact K
          · rw [if_neg (by omega), if_neg (by omega), if_neg (by omega), show ((10 : Int) + i - 10).toNat = i by omega]
            have ha2 : a = 2 := by
              unfold zldok at hok
              split at hok
              · simp at hok
              · simp at hok
              · rfl
              · simp at hok
            subst ha2
            have hl8 : (zstrs.getD i []).length < 100 := by
              have : ∀ j, j < 8 → (zstrs.getD j []).length < 100 := by decide
              exact this i hi
            have hsc := hI.2.2.2.1 i hi jv.toNat
            rw [hjj] at hsc
            have hst := zstr_r i hi jv.toNat (by omega)
            have K := kk H locs lm (hat.st (zwf_cons (zwfI (x := S.2.2 (10 + i) jv) (by rw [hsc]; exact hst.1)) hwt))
            rw [← zstr_len hi] at hvin
            refine va_tb hx hb ((hfix.2.2.2.2.2.2.2.2.1).1 i hi).2.2.2 hat.2.1 hvin rfl (zdc_eq hd) ?_
            rw [hcl, hst.2, ← hsc]
            exact K
      · cases hs
    · cases hs
  · cases hs
end
section
/-! stores into arrays, new cells, statics, texts -/
theorem zws_arr {G : zG} {S : zHp} {a j x : Int} {k n : Nat} (h32 : 32 ≤ a) (g1 : S.2.1[(a - 32).toNat]? = some (k, n)) (hk : 100 ≤ k) :
    zws G (S.1, S.2.1, zup S.2.2 a j x) = (zws G S).set (a - 32).toNat (gB G + (a - 32).toNat, .inl (gA G (k - 100), n, zarr G k (zup S.2.2 a j x a))) := by
  rw [zws_up h32 g1, zcell_arr hk]
theorem zrg_arr_of {k j : Nat} {x : Int} (hk : 100 ≤ k) (h1 : k = 101 → r64 x) (h2 : ¬ k = 101 → k < 104 → r32 x) : zrg k j x := by
  unfold zrg zvt
  rw [if_neg (by omega)]
  by_cases e : k = 101
  · rw [if_pos e]; exact ⟨fun q => absurd q (by decide), fun _ => h1 e⟩
  · rw [if_neg e]
    by_cases e2 : k < 104
    · rw [if_pos e2]; exact ⟨fun _ => h2 e e2, fun q => absurd q (by decide)⟩
    · rw [if_neg e2]; exact ⟨fun q => absurd q (by decide), fun q => absurd q (by decide)⟩
/-- behind a store into one of our arrays -/
theorem zAt.arr {G : zG} {y : Nat} {s : State} {lm : Array Slot} {H H1 : Heap} {locs : List Loc} {ls st st' : List zV} {S : zHp} {a j x : Int} {k n : Nat} {v : Value} (h : zAt G y s lm H locs ls st S) (h32 : 32 ≤ a) (g1 : S.2.1[(a - 32).toNat]? = some (k, n)) (hk : 100 ≤ k) (hj : 0 ≤ j)
    (hx1 : k = 101 → r64 x) (hx2 : ¬ k = 101 → k < 104 → r32 x) (hw : ∀ v ∈ st', zwf v)
    (hc1 : ∀ f, vp_cell (gA G (k - 100)) (n, zarr G k f) = arrV (gA G (k - 100)) n (fun q => if k = 101 then .long (Int64.ofInt (f q)) else if k < 104 then .int (Int32.ofInt (f q)) else zcv G (zR (f q)))) (hv : (if k = 101 then .long (Int64.ofInt x) else if k < 104 then .int (Int32.ofInt x) else zcv G (zR x)) = v)
    (e1 : H1[gB G + (a - 32).toNat]? = some ((vp_cell (gA G (k - 100)) (n, zarr G k (S.2.2 a))).setSlot j.toNat v)) (e2 : H1.size = H.size) (e3 : ∀ q, q ≠ gB G + (a - 32).toNat → H1[q]? = H[q]?) : zAt G y s lm H1 (locs ++ [⟨gB G + (a - 32).toNat, j.toNat⟩]) ls st' (S.1, S.2.1, zup S.2.2 a j x) := by
  obtain ⟨⟨hsz, hP, hI⟩, hS, h3, h4, h5, -⟩ := h
  have hget := zws_get (G := G) g1
  have ea : 32 + (((a - 32).toNat : Nat) : Int) = a := by omega
  rw [zcell_arr hk, ea] at hget
  refine ⟨⟨by rw [e2]; exact hsz, ?_, zInv_up hI h32 g1 (fun q _ => zrg_arr_of hk hx1 hx2)⟩, hS.put e2 e3 (show gB G ≤ _ by omega), h3, h4, h5, hw⟩
  rw [zws_arr h32 g1 hk]
  refine hP.set (zws_D G S) hget ?_ e3
  show H1[_]? = some (vp_cell _ _)
  rw [e1, hc1, hc1, arrV_store]
  congr 2
  funext q
  unfold updV
  by_cases hq : q = j.toNat
  · rw [if_pos hq]
    have : (q : Int) = j := by omega
    rw [this, zup_at]
    exact hv.symm
  · rw [if_neg hq, zup_ne (fun z => hq (by omega))]
theorem zcell_i {G : zG} {k n : Nat} (h1 : ¬ k = 101) (h2 : k < 104) : ∀ f, vp_cell (gA G (k - 100)) (n, zarr G k f) = arrV (gA G (k - 100)) n (fun q => if k = 101 then .long (Int64.ofInt (f q)) else if k < 104 then .int (Int32.ofInt (f q)) else zcv G (zR (f q))) := by
  intro f
  rw [zarr_i h1 h2, vp_cell_i]
  congr 1
  funext q
  rw [if_neg h1, if_pos h2]
theorem zcell_l {G : zG} {n : Nat} : ∀ f, vp_cell (gA G (101 - 100)) (n, zarr G 101 f) = arrV (gA G (101 - 100)) n (fun q => if 101 = 101 then .long (Int64.ofInt (f q)) else if 101 < 104 then .int (Int32.ofInt (f q)) else zcv G (zR (f q))) := by
  intro f
  rw [zarr_l, vp_cell_l]
  congr 1
theorem zcell_q {G : zG} {k n : Nat} (h : 104 ≤ k) : ∀ f, vp_cell (gA G (k - 100)) (n, zarr G k f) = arrV (gA G (k - 100)) n (fun q => if k = 101 then .long (Int64.ofInt (f q)) else if k < 104 then .int (Int32.ofInt (f q)) else zcv G (zR (f q))) := by
  intro f
  rw [zarr_q h, vp_cell_q]
  congr 1
  funext q
  rw [if_neg (show ¬ k = 101 by omega), if_neg (show ¬ k < 104 by omega)]
  show va_rf (if f q < 0 then none else some (zad G (f q))) = (if f q < 0 then _ else _)
  split <;> rfl
def zIst (a : Nat) : Option Instr := match a with
  | 0 => some .iastore
  | 1 => some .lastore
  | 2 => some .bastore
  | 4 => some .aastore
  | _ => none
def zc_xast : zChk := fun y pc i => i.2.1 == 1 && zdo y pc (zIst i.2.2.1) 1
theorem zi8_n (x : Int) : narrow .byte (.int (Int32.ofInt x)) = .int (Int32.ofInt (zi8 x)) := by
  rw [zi8, Int32.ofInt_toInt]; rfl
theorem zp_xast : zSound (zs_xast, zc_xast) := by
  intro G y p l e R s m args below meth c H locs Q n0 m0 nF mF cx hRc hRs hRf hRl i pc ls st S lm pc' ls' st' S' hc hs hat hn0 hm0 hnF hmF kk
  obtain ⟨hx, hb, hml, hown, hts, hfix, hnm⟩ := cx
  obtain ⟨op, len, a, b, k, ex⟩ := i
  unfold zs_xast at hs
  dsimp only at hs
  simp only [zc_xast, Bool.and_eq_true, beq_iff_eq] at hc
  obtain ⟨rfl, hd⟩ := hc
  split at hs
  · unfold zs_iast at hs
    dsimp only at hs
    split at hs
    · rename_i xv jv av st1
      split at hs
      · rename_i c1 n1 hsh
        split at hs
        · rename_i hif
          obtain ⟨rfl, hj0, hjn, h32⟩ := hif
          cases hs
          obtain ⟨g1, g2, g3⟩ := zsh_own (G := G) h32 hsh
          have hw := hat.2.2.2.2.2
          have hxr := (zwf_hd hw).1 rfl
          have hjr := (zwf_hd (zwf_tl hw)).1 rfl
          have hget := zws_get (G := G) g1
          rw [zcell_arr (by decide), ← g2] at hget
          rw [List.map_cons, List.map_cons, List.map_cons, zcv_ref (by omega), g3, show zcv G (0, jv) = .int (Int32.ofInt jv) from rfl, show zcv G (0, xv) = .int (Int32.ofInt xv) from rfl]
          refine W.iast hx hb (hat.1.2.1 _ _ hget) ?_ ?_ ?_ rfl rfl (zdc_eq hd) (fun H1 e1 e2 e3 => ?_)
          · rw [zcell_i (by decide) (by decide)]; exact (hfix.1.2 0 _ rfl).1 _ _
          · rw [zcell_i (by decide) (by decide)]; exact fun q => by cases q
          · rw [zcell_i (by decide) (by decide), arrV_size]; exact z_in hjr hj0 hjn
          · rw [z_clamp hjr hj0] at e1 ⊢
            exact kk H1 _ lm (hat.arr h32 g1 (by decide) hj0 (fun q => absurd q (by decide)) (fun _ _ => hxr) (zwf_tl (zwf_tl (zwf_tl hw))) (zcell_i (by decide) (by decide)) rfl e1 e2 e3)
        · cases hs
      · cases hs
    · cases hs
  · unfold zs_last at hs
    dsimp only at hs
    split at hs
    · rename_i xv jv av st1
      split at hs
      · rename_i c1 n1 hsh
        split at hs
        · rename_i hif
          obtain ⟨rfl, hj0, hjn, h32⟩ := hif
          cases hs
          obtain ⟨g1, g2, g3⟩ := zsh_own (G := G) h32 hsh
          have hw := hat.2.2.2.2.2
          have hxr := (zwf_hd hw).2 rfl
          have hjr := (zwf_hd (zwf_tl hw)).1 rfl
          have hget := zws_get (G := G) g1
          rw [zcell_arr (by decide), ← g2] at hget
          rw [List.map_cons, List.map_cons, List.map_cons, zcv_ref (by omega), g3, show zcv G (0, jv) = .int (Int32.ofInt jv) from rfl, show zcv G (1, xv) = .long (Int64.ofInt xv) from rfl]
          refine W.last hx hb (hat.1.2.1 _ _ hget) ?_ ?_ ?_ rfl rfl (zdc_eq hd) (fun H1 e1 e2 e3 => ?_)
          · rw [zcell_l]; exact (hfix.1.2 1 _ rfl).1 _ _
          · rw [zcell_l]; exact fun q => by cases q
          · rw [zcell_l, arrV_size]; exact z_in hjr hj0 hjn
          · rw [z_clamp hjr hj0] at e1 ⊢
            exact kk H1 _ lm (hat.arr h32 g1 (by decide) hj0 (fun _ => hxr) (fun q => absurd rfl q) (zwf_tl (zwf_tl (zwf_tl hw))) zcell_l rfl e1 e2 e3)
        · cases hs
      · cases hs
    · cases hs
  · unfold zs_bast at hs
    dsimp only at hs
    split at hs
    · rename_i xv jv av st1
      split at hs
      · rename_i c1 n1 hsh
        split at hs
        · rename_i hif
          obtain ⟨rfl, hj0, hjn, h32⟩ := hif
          cases hs
          obtain ⟨g1, g2, g3⟩ := zsh_own (G := G) h32 hsh
          have hw := hat.2.2.2.2.2
          have hjr := (zwf_hd (zwf_tl hw)).1 rfl
          have hget := zws_get (G := G) g1
          rw [zcell_arr (by decide), ← g2] at hget
          rw [List.map_cons, List.map_cons, List.map_cons, zcv_ref (by omega), g3, show zcv G (0, jv) = .int (Int32.ofInt jv) from rfl, show zcv G (0, xv) = .int (Int32.ofInt xv) from rfl]
          refine W.bast hx hb (hat.1.2.1 _ _ hget) ?_ ?_ ?_ rfl rfl (zdc_eq hd) (fun H1 e1 e2 e3 => ?_)
          · rw [zcell_i (by decide) (by decide)]; exact (hfix.1.2 2 _ rfl).1 _ _
          · rw [zcell_i (by decide) (by decide)]; exact fun q => by cases q
          · rw [zcell_i (by decide) (by decide), arrV_size]; exact z_in hjr hj0 hjn
          · rw [z_clamp hjr hj0] at e1 ⊢
            exact kk H1 _ lm (hat.arr h32 g1 (by decide) hj0 (fun q => absurd q (by decide)) (fun _ _ => r32_i _) (zwf_tl (zwf_tl (zwf_tl hw))) (zcell_i (by decide) (by decide)) (zi8_n xv).symm e1 e2 e3)
        · split at hs
          · rename_i hif
            obtain ⟨rfl, hj0, hjn, h32, hz⟩ := hif
            cases hs
            obtain ⟨g1, g2, g3⟩ := zsh_own (G := G) h32 hsh
            have hw := hat.2.2.2.2.2
            have hxr := (zwf_hd hw).1 rfl
            have hjr := (zwf_hd (zwf_tl hw)).1 rfl
            have hget := zws_get (G := G) g1
            rw [zcell_arr (by decide), ← g2] at hget
            rw [List.map_cons, List.map_cons, List.map_cons, zcv_ref (by omega), g3, show zcv G (0, jv) = .int (Int32.ofInt jv) from rfl, show zcv G (0, xv) = .int (Int32.ofInt xv) from rfl]
            have hnz : narrow .boolean (.int (Int32.ofInt xv)) = .int (Int32.ofInt xv) := by
              simp only [zbool, Bool.or_eq_true, decide_eq_true_eq] at hz
              rcases hz with rfl | rfl <;> rfl
            refine W.zast hx hb (hat.1.2.1 _ _ hget) ?_ ?_ ?_ rfl rfl (zdc_eq hd) (fun H1 e1 e2 e3 => ?_)
            · rw [zcell_i (by decide) (by decide)]; exact (hfix.1.2 3 _ rfl).1 _ _
            · rw [zcell_i (by decide) (by decide)]; exact fun q => by cases q
            · rw [zcell_i (by decide) (by decide), arrV_size]; exact z_in hjr hj0 hjn
            · rw [z_clamp hjr hj0] at e1 ⊢
              exact kk H1 _ lm (hat.arr h32 g1 (by decide) hj0 (fun q => absurd q (by decide)) (fun _ _ => hxr) (zwf_tl (zwf_tl (zwf_tl hw))) (zcell_i (by decide) (by decide)) hnz.symm e1 e2 e3)
          · cases hs
      · cases hs
    · cases hs
  · unfold zs_aast at hs
    dsimp only at hs
    split at hs
    · rename_i xv jv av st1
      split at hs
      · rename_i c1 n1 c2 n2 hsh hsh2
        split at hs
        · rename_i hif
          obtain ⟨hcc, hj0, hjn, h32, h32x⟩ := hif
          cases hs
          obtain ⟨g1, g2, g3⟩ := zsh_own (G := G) h32 hsh
          obtain ⟨k1, k2, k3⟩ := zsh_own (G := G) h32x hsh2
          have hw := hat.2.2.2.2.2
          have hjr := (zwf_hd (zwf_tl hw)).1 rfl
          have hk : 104 ≤ c1 := by omega
          have hget := zws_get (G := G) g1
          rw [zcell_arr (by omega), ← g2] at hget
          have hget2 := zws_get (G := G) k1
          rw [zcell_obj (by omega), ← k2] at hget2
          rw [List.map_cons, List.map_cons, List.map_cons, zcv_ref (x := av) (by omega), zcv_ref (x := xv) (by omega), g3, k3, show zcv G (0, jv) = .int (Int32.ofInt jv) from rfl]
          obtain ⟨r', hr', cellV, v1, v2, v3, -⟩ := hat.1.2.1 _ _ hget2
          have hty : ∃ r : vw_C, vwCl[c2]? = some r ∧ (zTys G)[c1 - 100]? = some (gA G (c1 - 100), .object r.1) := by
            rcases hcc with ⟨rfl, rfl⟩ | ⟨rfl, rfl⟩
            · exact ⟨_, rfl, rfl⟩
            · exact ⟨_, rfl, rfl⟩
          obtain ⟨r, hr, ht⟩ := hty
          have hcls := (hfix.1.1 c2 r hr).2
          obtain ⟨kA, comp, w1, w2, w3, -⟩ := (hfix.1.2 _ _ ht).2
          have hcomp : comp = (gD G).1 c2 := Option.some.inj (w3.symm.trans hcls.1)
          subst hcomp
          obtain ⟨kC, hkC, -⟩ := hcls.2
          have hcq := zcell_q (G := G) (n := n1) hk
          refine W.aast hx hb (hat.1.2.1 _ _ hget) (fun q h => ?_) (fun h => ?_) (k := kA) ?_ w2 rfl hkC ⟨fun q => (z_in hjr hj0 hjn) (Or.inl q), ?_⟩ v1 (fun q h => by rw [v3] at h; cases h) (by rw [v2]; exact hkC) (by rw [v2]; exact va_assign hcls) rfl rfl (zdc_eq hd) (fun H1 e1 e2 e3 => ?_)
          · rw [hcq] at h; cases h
          · rw [hcq] at h; cases h
          · rw [hcq]; exact w1
          · rw [hcq, arrV_size]
            exact Nat.not_le.mp fun q => (z_in hjr hj0 hjn) (Or.inr q)
          · rw [z_clamp hjr hj0] at e1 ⊢
            exact kk H1 _ lm (hat.arr h32 g1 (by omega) hj0 (fun q => by omega) (fun _ q => by omega) (zwf_tl (zwf_tl (zwf_tl hw))) hcq (by rw [if_neg (by omega), if_neg (by omega), zcv_ref (by omega), k3]) e1 e2 e3)
        · cases hs
      · cases hs
    · cases hs
  · cases hs
end
section
/-! new cells, statics, texts, Object's constructor -/
theorem zslots_push {S : zHp} {k n : Nat} {H : Int → Int → Int} : zslots (S.1, S.2.1 ++ [(k, n)], H) = zslots S + n := by
  unfold zslots
  show ((S.2.1 ++ [(k, n)]).map Prod.snd).sum = _
  rw [List.map_append, List.sum_append]; rfl
theorem zlen_push {S : zHp} {k n : Nat} : (S.2.1 ++ [(k, n)]).length = S.2.1.length + 1 := by simp
theorem zInv_push {G : zG} {S : zHp} {k n : Nat} {f : Int → Int} (h : zInv G S) (hn : n < 2147483648) (hk : k < 7 ∧ n = znf.getD k 0 ∨ 100 ≤ k ∧ k < 106) (hf : ∀ j : Nat, zrg k j (f j)) : zInv G (S.1, S.2.1 ++ [(k, n)], znew S.2.2 (32 + S.2.1.length) f) := by
  obtain ⟨h1, h2, h3, h4, h5⟩ := h
  have ne : ∀ (a j : Int), a ≠ 32 + S.2.1.length → znew S.2.2 (32 + S.2.1.length) f a j = S.2.2 a j := fun a j q => by unfold znew; rw [if_neg q]
  refine ⟨h1, fun q => ?_, fun q hq => ?_, fun i hi q => ?_, fun i k' n' hi => ?_⟩
  · show znew _ _ f 0 q = _
    rw [ne _ _ (by omega)]; exact h2 q
  · show znew _ _ f 1 q = _
    rw [ne _ _ (by omega)]; exact h3 q hq
  · show znew _ _ f (10 + i) q = _
    rw [ne _ _ (by omega)]; exact h4 i hi q
  · by_cases hl : i < S.2.1.length
    · rw [List.getElem?_append_left hl] at hi
      obtain ⟨g1, g2, g3⟩ := h5 i k' n' hi
      refine ⟨g1, g2, fun q => ?_⟩
      show zrg k' q (znew _ _ f (32 + i) q)
      rw [ne _ _ (by omega)]
      exact g3 q
    · rw [List.getElem?_append_right (by omega)] at hi
      have hz : i - S.2.1.length < 1 := (List.getElem?_eq_some_iff.mp hi).1
      rw [show i - S.2.1.length = 0 by omega] at hi
      cases hi
      refine ⟨hn, hk, fun q => ?_⟩
      show zrg k q (znew _ _ f (32 + i) q)
      have e : (32 + (i : Int)) = 32 + (S.2.1.length : Int) := by omega
      rw [e]
      unfold znew
      rw [if_pos rfl]
      exact hf q
theorem zAt.push {G : zG} {y : Nat} {s : State} {lm : Array Slot} {H H1 : Heap} {locs : List Loc} {ls st st' : List zV} {S : zHp} {k n : Nat} {f : Int → Int} (h : zAt G y s lm H locs ls st S) (hn : n < 2147483648) (hk : k < 7 ∧ n = znf.getD k 0 ∨ 100 ≤ k ∧ k < 106) (hf : ∀ j : Nat, zrg k j (f j)) (hw : ∀ v ∈ st', zwf v)
    (z1 : H1.size = H.size + 1) (o1 : ∀ q, q < H.size → H1[q]? = H[q]?) (e1 : va_at (gD G) vwCl (H.size, zcell G k n f) H1) : zAt G y s lm H1 locs ls st' (S.1, S.2.1 ++ [(k, n)], znew S.2.2 (32 + S.2.1.length) f) := by
  obtain ⟨⟨hsz, hP, hI⟩, hS, h3, h4, h5, -⟩ := h
  refine ⟨⟨?_, ?_, zInv_push hI hn hk hf⟩, ⟨by have := hS.1; omega, fun x g1 g2 => (o1 x (Nat.lt_of_lt_of_le g1 hS.1)).trans (hS.2.1 x g1 g2), hS.2.2⟩, h3, h4, h5, hw⟩
  · show H1.size = gB G + (S.2.1 ++ [(k, n)]).length
    rw [zlen_push, z1, hsz]; omega
  · rw [zws_push]
    refine (hP.kept (fun q x hx => o1 x.1 ((hP q x hx).lt))).app (fun q x hx => ?_)
    have hz : q < 1 := (List.getElem?_eq_some_iff.mp hx).1
    rw [show q = 0 by omega] at hx
    cases hx
    rw [hsz] at e1
    exact e1
def zAty (a : Nat) : ArrayType := match a with
  | 0 => .int
  | 1 => .long
  | 2 => .byte
  | _ => .boolean
def zc_newa : zChk := fun y pc i => i.2.1 == 2 && zdc y pc (.newarray (zAty i.2.2.1)) 2
theorem zw_int : Cond.arrayClass .int ∈ zTs := zw_in (p := 1089) (by decide +kernel)
theorem zw_long : Cond.arrayClass .long ∈ zTs := zw_in (p := 1090) (by decide +kernel)
theorem zw_byte : Cond.arrayClass .byte ∈ zTs := zw_in (p := 2185) (by decide +kernel)
theorem zw_bool : Cond.arrayClass .boolean ∈ zTs := zw_in (p := 5213) (by decide +kernel)
theorem zrg0 (k j : Nat) : zrg k j 0 := ⟨fun _ => r32_0, fun _ => ⟨by decide, by decide⟩⟩
theorem zp_newa : zSound (zs_newa, zc_newa) := by
  intro G y p l e R s m args below meth c H locs Q n0 m0 nF mF cx hRc hRs hRf hRl i pc ls st S lm pc' ls' st' S' hc hs hat hn0 hm0 hnF hmF kk
  obtain ⟨hx, hb, hml, hown, hts, hfix, hnm⟩ := cx
  obtain ⟨op, len, a, b, k, ex⟩ := i
  unfold zs_newa at hs
  dsimp only at hs
  simp only [zc_newa, Bool.and_eq_true, beq_iff_eq] at hc
  obtain ⟨rfl, hd⟩ := hc
  split at hs
  · rename_i nv st1
    split at hs
    · rename_i hif
      obtain ⟨hn0', hnb, ha4⟩ := hif
      cases hs
      have hw := hat.2.2.2.2.2
      have hnr := (zwf_hd hw).1 rfl
      have hcl := z_clamp hnr hn0'
      have hneg : ¬ Int32.ofInt nv < 0 := fun q => (z_in (n := nv.toNat + 1) hnr hn0' (by omega)) (Or.inl q)
      rw [zlen_push] at hnF
      rw [zslots_push] at hmF
      have e1 : (S.2.1 ++ [(100 + a, nv.toNat)]).length - n0 = S.2.1.length - n0 + 1 := by rw [zlen_push]; omega
      have e2 : ∀ HH, zslots (S.1, S.2.1 ++ [(100 + a, nv.toNat)], HH) - m0 = zslots S - m0 + nv.toNat := by intro HH; rw [zslots_push]; omega
      have hsz := hat.1.1
      have hza : zad G (32 + (S.2.1.length : Int)) = H.size := by
        unfold zad
        rw [if_neg (by omega), hsz]; omega
      have KK : ∀ (H' : Heap), H'.size = H.size + 1 → (∀ q, q < H.size → H'[q]? = H[q]?) → va_at (gD G) vwCl (H.size, zcell G (100 + a) nv.toNat (fun _ => 0)) H' → W p l e R s m args below meth c H' locs (S.2.1.length - n0 + 1) (zslots S - m0 + nv.toNat) Q (F0 m (pc + 2) lm (.ref H.size :: st1.map (zcv G))) := by
        intro H' z1 o1 ea
        have K := kk H' locs lm (hat.push (by omega) (Or.inr ⟨by omega, by omega⟩) (fun j => zrg0 _ _) (zwf_cons (zwfR _) (zwf_tl hw)) z1 o1 ea)
        rw [List.map_cons, zcv_ref (by omega), hza] at K
        dsimp only at K
        rw [e1, e2] at K
        exact K
      rw [List.map_cons, show zcv G (0, nv) = .int (Int32.ofInt nv) from rfl]
      match a, ha4 with
      | 0, _ =>
        refine va_newaK hx hb (atype := .int) (hts _ zw_int) (g := F0 m pc lm (.int (Int32.ofInt nv) :: st1.map (zcv G))) rfl (zdc_eq hd) rfl hneg hcl (by show _ * 4 ≤ _; omega) (by omega) (by omega) rfl (fun H' cA ec z1 o1 hAr hNm => KK H' z1 o1 ?_)
        have hc2 : cA = gA G 0 := Option.some.inj (hNm.symm.trans (hfix.1.2 0 _ rfl).2)
        subst hc2
        rw [zcell_arr (by omega)]
        exact ec
      | 1, _ =>
        refine va_newaK hx hb (atype := .long) (hts _ zw_long) (g := F0 m pc lm (.int (Int32.ofInt nv) :: st1.map (zcv G))) rfl (zdc_eq hd) rfl hneg hcl (by show _ * 8 ≤ _; omega) (by omega) (by omega) rfl (fun H' cA ec z1 o1 hAr hNm => KK H' z1 o1 ?_)
        have hc2 : cA = gA G 1 := Option.some.inj (hNm.symm.trans (hfix.1.2 1 _ rfl).2)
        subst hc2
        rw [zcell_arr (by omega)]
        exact ec
      | 2, _ =>
        refine va_newaK hx hb (atype := .byte) (hts _ zw_byte) (g := F0 m pc lm (.int (Int32.ofInt nv) :: st1.map (zcv G))) rfl (zdc_eq hd) rfl hneg hcl (by show _ * 1 ≤ _; omega) (by omega) (by omega) rfl (fun H' cA ec z1 o1 hAr hNm => KK H' z1 o1 ?_)
        have hc2 : cA = gA G 2 := Option.some.inj (hNm.symm.trans (hfix.1.2 2 _ rfl).2)
        subst hc2
        rw [zcell_arr (by omega)]
        exact ec
      | 3, _ =>
        refine va_newaK hx hb (atype := .boolean) (hts _ zw_bool) (g := F0 m pc lm (.int (Int32.ofInt nv) :: st1.map (zcv G))) rfl (zdc_eq hd) rfl hneg hcl (by show _ * 1 ≤ _; omega) (by omega) (by omega) rfl (fun H' cA ec z1 o1 hAr hNm => KK H' z1 o1 ?_)
        have hc2 : cA = gA G 3 := Option.some.inj (hNm.symm.trans (hfix.1.2 3 _ rfl).2)
        subst hc2
        rw [zcell_arr (by omega)]
        exact ec
      | n + 4, h => omega
    · cases hs
  · cases hs
noncomputable def zc_newq : zChk := fun y pc i => i.2.1 == 3 && zdc y pc (.anewarray i.2.2.2.1) 3 && zw (i.2.2.2.2.2.getD 0 0).toNat (.classLink (zmn y).cls i.2.2.2.1 (if i.2.2.1 = 4 then RX0 else RX4))
theorem zp_newq : zSound (zs_newq, zc_newq) := by
  intro G y p l e R s m args below meth c H locs Q n0 m0 nF mF cx hRc hRs hRf hRl i pc ls st S lm pc' ls' st' S' hc hs hat hn0 hm0 hnF hmF kk
  obtain ⟨hx, hb, hml, hown, hts, hfix, hnm⟩ := cx
  obtain ⟨op, len, a, b, k, ex⟩ := i
  unfold zs_newq at hs
  dsimp only at hs
  simp only [zc_newq, Bool.and_eq_true, beq_iff_eq] at hc
  obtain ⟨⟨rfl, hd⟩, hcw⟩ := hc
  split at hs
  · rename_i nv st1
    split at hs
    · rename_i hif
      obtain ⟨hn0', hnb, ha4⟩ := hif
      cases hs
      have hw := hat.2.2.2.2.2
      have hnr := (zwf_hd hw).1 rfl
      have hcl := z_clamp hnr hn0'
      have hneg : ¬ Int32.ofInt nv < 0 := fun q => (z_in (n := nv.toNat + 1) hnr hn0' (by omega)) (Or.inl q)
      rw [zlen_push] at hnF
      rw [zslots_push] at hmF
      have e1 : (S.2.1 ++ [(100 + a, nv.toNat)]).length - n0 = S.2.1.length - n0 + 1 := by rw [zlen_push]; omega
      have e2 : ∀ HH, zslots (S.1, S.2.1 ++ [(100 + a, nv.toNat)], HH) - m0 = zslots S - m0 + nv.toNat := by intro HH; rw [zslots_push]; omega
      have hsz := hat.1.1
      have hza : zad G (32 + (S.2.1.length : Int)) = H.size := by
        unfold zad
        rw [if_neg (by omega), hsz]; omega
      have KK : ∀ (H' : Heap), H'.size = H.size + 1 → (∀ q, q < H.size → H'[q]? = H[q]?) → va_at (gD G) vwCl (H.size, zcell G (100 + a) nv.toNat (fun _ => -1)) H' → W p l e R s m args below meth c H' locs (S.2.1.length - n0 + 1) (zslots S - m0 + nv.toNat) Q (F0 m (pc + 3) lm (.ref H.size :: st1.map (zcv G))) := by
        intro H' z1 o1 ea
        have K := kk H' locs lm (hat.push (by omega) (Or.inr ⟨by omega, by omega⟩) (fun j => zrg_arr_of (by omega) (fun q => by omega) (fun _ q => by omega)) (zwf_cons (zwfR _) (zwf_tl hw)) z1 o1 ea)
        rw [List.map_cons, zcv_ref (by omega), hza] at K
        dsimp only at K
        rw [e1, e2] at K
        exact K
      rw [List.map_cons, show zcv G (0, nv) = .int (Int32.ofInt nv) from rfl]
      have key : ∀ (C : String), (zTys G)[a]? = some (gA G a, .object C) → (Cond.classLink (zmn y).cls b C).before args s = true → va_AO C s → W p l e R s m args below meth c H locs (S.2.1.length - n0) (zslots S - m0) Q (F0 m pc lm (.int (Int32.ofInt nv) :: st1.map (zcv G))) := by
        intro C htq hcw2 hao
        refine W.anew hx hb (C := C) hown hcw2 (va_AO.use hao) (g := F0 m pc lm (.int (Int32.ofInt nv) :: st1.map (zcv G))) rfl (zdc_eq hd) rfl hneg (by rw [hcl]; omega) (by omega) (by rw [hcl]; omega) (fun cA kA comp f1 f2 f3 f4 => ?_)
        rw [hcl]
        have hc2 : cA = gA G a := by
          obtain ⟨kA2, comp2, w1, w2, w3, w4⟩ := (hfix.1.2 _ _ htq).2
          exact Option.some.inj (f1.symm.trans w4)
        subst hc2
        refine KK _ (by simp) (fun q hq => by rw [Array.getElem?_push, if_neg (Nat.ne_of_lt hq)]) ?_
        rw [zcell_arr (by omega)]
        show (H.push _)[H.size]? = some (vp_cell (gA G (100 + a - 100)) (nv.toNat, zarr G (100 + a) _))
        rw [zcell_q (by omega), Array.getElem?_push_size, arrV_new, show 100 + a - 100 = a by omega]
        congr 2
        funext q
        rw [if_neg (by omega), if_neg (by omega)]; rfl
      rcases ha4 with rfl | rfl
      · exact key RX0 rfl (hts _ (zw_in hcw)) hfix.2.2.2.2.2.2.2.2.2.2.2.1
      · exact key RX4 rfl (hts _ (zw_in hcw)) hfix.2.2.2.2.2.2.2.2.2.2.2.2
    · cases hs
  · cases hs
def zinst : List (Nat × Nat) := [(5, 1117), (2, 1186), (4, 1092), (11, 1047), (5, 1157), (15, 1039), (44, 4282)]
def zinit : List Nat := [1028, 1030, 1027, 1026, 1029, 1025, 1031]
def zCn (ci : Nat) : String := (vwCl.getD ci (RX0, TX0, 0)).1
theorem zinst_ok : (List.range 7).all (fun ci => zw (zinst.getD ci (0, 0)).2 (.instantiable (zCn ci) (znf.getD ci 0)) && zw (zinit.getD ci 0) (.initialized (zCn ci))) = true := by decide +kernel
theorem zinst_in {ci : Nat} (h : ci < 7) : Cond.instantiable (zCn ci) (znf.getD ci 0) ∈ zTs ∧ Cond.initialized (zCn ci) ∈ zTs := by
  have := List.all_eq_true.mp zinst_ok ci (List.mem_range.mpr h)
  simp only [Bool.and_eq_true] at this
  exact ⟨zw_in this.1, zw_in this.2⟩
noncomputable def zc_new : zChk := fun y pc i => i.2.1 == 3 && zdc y pc (.new i.2.2.2.1) 3 && zw (i.2.2.2.2.2.getD 0 0).toNat (.classLink (zmn y).cls i.2.2.2.1 (zCn i.2.2.1))
theorem zdef (G : zG) {ty : FieldType} (h : zfok ty = true) : defaultValue ty = zcv G (ztag (zkind ty) (if zkind ty = 2 then -1 else 0)) := by
  rcases zfok_of h with rfl | rfl | rfl | ⟨n, rfl⟩ | ⟨t, rfl⟩ <;> rfl
theorem zfok_all : (List.range 7).all (fun ci => (List.range (znf.getD ci 0)).all fun k => zfok ((ztys.getD ci tyX0) k)) = true := by decide +kernel
theorem zp_new : zSound (zs_new, zc_new) := by
  intro G y p l e R s m args below meth c H locs Q n0 m0 nF mF cx hRc hRs hRf hRl i pc ls st S lm pc' ls' st' S' hc hs hat hn0 hm0 hnF hmF kk
  obtain ⟨hx, hb, hml, hown, hts, hfix, hnm⟩ := cx
  obtain ⟨op, len, a, b, k, ex⟩ := i
  unfold zs_new at hs
  dsimp only at hs
  simp only [zc_new, Bool.and_eq_true, beq_iff_eq] at hc
  obtain ⟨⟨rfl, hd⟩, hcw⟩ := hc
  split at hs
  · rename_i ha7
    cases hs
    have hw := hat.2.2.2.2.2
    obtain ⟨C, T, N, ty, hCl⟩ := zCl_all ha7
    have hCn : zCn a = C := by unfold zCn; rw [List.getD_eq_getElem?_getD, hCl.1]; rfl
    rw [hCn] at hcw
    obtain ⟨hin1, hin2⟩ := zinst_in ha7
    rw [hCn] at hin1 hin2
    rw [zlen_push] at hnF
    rw [zslots_push] at hmF
    rw [hCl.2.2.2.2.2] at hin1 hmF
    have e1 : (S.2.1 ++ [(a, N)]).length - n0 = S.2.1.length - n0 + 1 := by rw [zlen_push]; omega
    have e2 : ∀ HH, zslots (S.1, S.2.1 ++ [(a, N)], HH) - m0 = zslots S - m0 + N := by intro HH; rw [zslots_push]; omega
    have hsz := hat.1.1
    have hza : zad G (32 + (S.2.1.length : Int)) = H.size := by
      unfold zad
      rw [if_neg (by omega), hsz]; omega
    have hN100 : N < 100 := by
      have := hCl.2.2.2.2.2
      have h7 : ∀ ci, ci < 7 → znf.getD ci 0 < 100 := by decide
      rw [← this]; exact h7 a ha7
    obtain ⟨hS, hfc, kC0, hkC0, hkind⟩ := hfix.1.1 a _ hCl.1
    refine W.newcK hx hb (C := C) (n := N) hown (hts _ (zw_in hcw)) (hts _ hin1) (hts _ hin2) (g := F0 m pc lm (st.map (zcv G))) rfl (zdc_eq hd) (by omega) (by omega) hfc rfl (fun H' kC hkC ec z1 o1 => ?_)
    have hborn := u_born ty hts hCl.2.1 (hfix.1.1 a _ hCl.1) hkC ec hCl.2.2.1
    have ea : va_at (gD G) vwCl (H.size, zcell G a N (fun j => if zft a j.toNat = 2 then -1 else 0)) H' := by
      rw [zcell_obj ha7]
      refine ⟨_, hCl.1, hborn.to (fun j hj => ?_)⟩
      show _ = (List.getD _ j Value.null)
      rw [List.getD_eq_getElem?_getD]
      refine Eq.trans ?_ (congrArg (fun o => Option.getD o Value.null) (zfield_at (G := G) (k := a) (f := fun j : Int => if zft a j.toNat = 2 then -1 else 0) hj)).symm
      show _ = zcv G (ztag (zft a j) (if zft a (j : Int).toNat = 2 then -1 else 0))
      have hfo : zfok (ty j) = true := by
        have h9 := List.all_eq_true.mp zfok_all a (List.mem_range.mpr ha7)
        rw [hCl.2.2.2.2.2, hCl.2.2.2.2.1] at h9
        exact List.all_eq_true.mp h9 j (List.mem_range.mpr hj)
      have hft : zft a j = zkind (ty j) := by unfold zft; rw [hCl.2.2.2.2.1]
      rw [zdef G hfo, show (j : Int).toNat = j from rfl, hft]
    have K := kk H' locs lm (by
      rw [hCl.2.2.2.2.2]
      refine hat.push (k := a) (n := N) (by omega) (Or.inl ⟨ha7, hCl.2.2.2.2.2.symm⟩) (fun j => ?_) (zwf_cons (zwfR _) hw) z1 o1 ea
      unfold zrg zvt
      rw [if_pos (by omega)]
      show ((ztag (zft a j) 0).1 = 0 → r32 (if zft a (j : Int).toNat = 2 then -1 else 0)) ∧ ((ztag (zft a j) 0).1 = 1 → r64 (if zft a (j : Int).toNat = 2 then -1 else 0))
      constructor
      · intro _; split
        · exact ⟨by decide, by decide⟩
        · exact r32_0
      · intro _; split <;> exact ⟨by decide, by decide⟩)
    rw [List.map_cons, zcv_ref (by omega), hza] at K
    dsimp only at K
    rw [hCl.2.2.2.2.2, e1, e2] at K
    exact K
  · cases hs
noncomputable def zc_stat : zChk := fun y pc i => i.2.1 == 3 && zdc y pc (.getstatic i.2.2.2.1) 3 && (match i.2.2.1 with
  | 0 => zw (i.2.2.2.2.2.getD 0 0).toNat (.fieldLink (zmn y).cls i.2.2.2.1 "SumWalker$Primes" "SMALL" "[I")
  | 1 => zw (i.2.2.2.2.2.getD 0 0).toNat (.fieldLink (zmn y).cls i.2.2.2.1 "java/lang/String" "COMPACT_STRINGS" "Z")
  | _ => zw (i.2.2.2.2.2.getD 0 0).toNat (.fieldLink (zmn y).cls i.2.2.2.1 zFmt.1 zFmt.2.1 zFmt.2.2))
theorem zp_stat : zSound (zs_stat, zc_stat) := by
  intro G y p l e R s m args below meth c H locs Q n0 m0 nF mF cx hRc hRs hRf hRl i pc ls st S lm pc' ls' st' S' hc hs hat hn0 hm0 hnF hmF kk
  obtain ⟨hx, hb, hml, hown, hts, hfix, hnm⟩ := cx
  obtain ⟨op, len, a, b, k, ex⟩ := i
  unfold zs_stat at hs
  dsimp only at hs
  simp only [zc_stat, Bool.and_eq_true, beq_iff_eq] at hc
  obtain ⟨⟨rfl, hd⟩, hcw⟩ := hc
  split at hs
  · cases hs
    exact va_gets hx hb hfix.2.2.2.1 hat.2.1 hown (hts _ (zw_in hcw)) (fun _ h => h) (zdc_eq hd) (kk H locs lm (hat.st (zwf_cons (zwfR _) hat.2.2.2.2.2)))
  · cases hs
    exact va_gets hx hb hfix.2.2.2.2.2.1 hat.2.1 hown (hts _ (zw_in hcw)) (fun _ h => h) (zdc_eq hd) (kk H locs lm (hat.st (zwf_cons (zwfI ⟨by decide, by decide⟩) hat.2.2.2.2.2)))
  · rename_i h0 h1
    cases hs
    have hcw2 : zw (ex.getD 0 0).toNat (.fieldLink (zmn y).cls b zFmt.1 zFmt.2.1 zFmt.2.2) = true := by
      split at hcw
      · exact absurd rfl h0
      · exact absurd rfl h1
      · exact hcw
    exact va_gets hx hb hfix.2.2.2.2.2.2.1 hat.2.1 hown (hts _ (zw_in hcw2)) (fun _ h => h) (zdc_eq hd) (kk H locs lm (hat.st (zwf_cons (zwfO _) hat.2.2.2.2.2)))
def zc_ldcs : zChk := fun y pc i => i.2.1 == 2 && zdc y pc (.ldc i.2.2.2.1) 2 && decide (i.2.2.2.1 = zstrix.getD i.2.2.1 0) && decide ((zmn y).cls = "SumWalker$Reader")
theorem zp_ldcs : zSound (zs_ldcs, zc_ldcs) := by
  intro G y p l e R s m args below meth c H locs Q n0 m0 nF mF cx hRc hRs hRf hRl i pc ls st S lm pc' ls' st' S' hc hs hat hn0 hm0 hnF hmF kk
  obtain ⟨hx, hb, hml, hown, hts, hfix, hnm⟩ := cx
  obtain ⟨op, len, a, b, k, ex⟩ := i
  unfold zs_ldcs at hs
  dsimp only at hs
  simp only [zc_ldcs, Bool.and_eq_true, beq_iff_eq, decide_eq_true_eq] at hc
  obtain ⟨⟨⟨rfl, hd⟩, hix⟩, hcls⟩ := hc
  split at hs
  · rename_i h8
    cases hs
    have K := kk H locs lm (hat.st (zwf_cons (zwfR _) hat.2.2.2.2.2))
    have hz : zad G (2 + (a : Int)) = gK G a := by
      rw [zad_for (by omega), if_neg (by omega), if_neg (by omega), if_pos (by omega), show ((2 : Int) + a - 2).toNat = a by omega]
    rw [List.map_cons, zcv_ref (by omega), hz] at K
    rw [hcls] at hown
    have hR := hfix.2.2.2.2.2.2.2.2.2.1 a h8
    rw [← hix] at hR
    exact va_ldcS hx hb hown hR (zdc_eq hd) K
  · cases hs
noncomputable def zc_obj : zChk := fun y pc i => i.2.1 == 3 && zdc y pc (.invokespecial i.2.2.1) 3 && zw (i.2.2.2.2.2.getD 0 0).toNat (.methodLink (zmn y).cls i.2.2.1 Lib.objectInit)
theorem zw_oi : Cond.instanceMethod Lib.objectInit ∈ zTs ∧ Cond.code Lib.objectInit ⟨#[0xb1]⟩ 1 none ∈ zTs := ⟨zw_in (p := 1044) (by decide +kernel), zw_in (p := 1045) (by decide +kernel)⟩
theorem zp_obj : zSound (zs_obj, zc_obj) := by
  intro G y p l e R s m args below meth c H locs Q n0 m0 nF mF cx hRc hRs hRf hRl i pc ls st S lm pc' ls' st' S' hc hs hat hn0 hm0 hnF hmF kk
  obtain ⟨hx, hb, hml, hown, hts, hfix, hnm⟩ := cx
  obtain ⟨op, len, a, b, k, ex⟩ := i
  have hg := hfix.2.2.2.2.2.2.2.1
  unfold zs_obj at hs
  dsimp only at hs
  simp only [zc_obj, Bool.and_eq_true, beq_iff_eq] at hc
  obtain ⟨⟨rfl, hd⟩, hcw⟩ := hc
  split at hs
  · rename_i av st1
    split at hs
    · rename_i hif
      cases hs
      rw [List.map_cons, zcv_ref (by omega)]
      have hsum : ((st'.map (zcv G)).map fun v => v.category).sum = (st'.map zcat).sum := by
        rw [List.map_map]
        congr 1
        apply List.map_congr_left
        intro v _
        exact zcv_cat G v hg
      refine W.objInit hx hb hown (hts _ (zw_in hcw)) (hts _ zw_oi.1) (hts _ zw_oi.2) (g := F0 m pc lm (.ref (zad G av) :: st'.map (zcv G))) rfl ?_ rfl (zdc_eq hd) hRf ?_ (kk H locs lm (hat.st (zwf_tl hat.2.2.2.2.2)))
      · rw [hml]; exact hat.2.2.1.1
      · have := hif.2
        rw [hsum]
        show 2 * 0 + _ + 12 ≤ R.locals
        omega
    · cases hs
  · cases hs
noncomputable def zc_sget : zChk := fun y pc i => i.2.1 == 3 && zdc y pc (.getfield i.2.2.2.1) 3 && zw (i.2.2.2.2.2.getD 0 0).toNat (.fieldLink (zmn y).cls i.2.2.2.1 "java/lang/String" (if i.2.2.1 = 0 then "value" else "coder") (if i.2.2.1 = 0 then "[B" else "B"))
theorem zp_sget : zSound (zs_sget, zc_sget) := by
  intro G y p l e R s m args below meth c H locs Q n0 m0 nF mF cx hRc hRs hRf hRl i pc ls st S lm pc' ls' st' S' hc hs hat hn0 hm0 hnF hmF kk
  obtain ⟨hx, hb, hml, hown, hts, hfix, hnm⟩ := cx
  obtain ⟨op, len, a, b, k, ex⟩ := i
  unfold zs_sget at hs
  dsimp only at hs
  simp only [zc_sget, Bool.and_eq_true, beq_iff_eq] at hc
  obtain ⟨⟨rfl, hd⟩, hcw⟩ := hc
  split at hs
  · rename_i av st1
    split at hs
    · rename_i hif
      cases hs
      have hw := zwf_tl hat.2.2.2.2.2
      have hz : zad G av = gK G (av - 2).toNat := by
        rw [zad_for (by omega), if_neg (by omega), if_neg (by omega), if_pos (by omega)]
      rw [List.map_cons, zcv_ref (by omega), hz]
      have hSt := (hfix.2.2.2.2.2.2.2.2.1).1 (av - 2).toNat (by omega)
      by_cases h0 : a = 0
      · subst h0
        have K := kk H locs lm (hat.st (zwf_cons (by rw [if_pos rfl]; exact zwfR _) hw))
        have hz2 : zad G (av + 8) = gV G (av - 2).toNat := by
          rw [zad_for (by omega), if_neg (by omega), if_neg (by omega), if_neg (by omega), show (av + 8 - 10).toNat = (av - 2).toNat by omega]
        rw [if_pos rfl, List.map_cons, zcv_ref (by omega), hz2] at K
        exact vk_getf hx hb hSt.2.2.1 hat.2.1 hown (hts _ (zw_in hcw)) (fun _ h => h) (zdc_eq hd) K
      · have K := kk H locs lm (hat.st (zwf_cons (by rw [if_neg h0]; exact zwfI r32_0) hw))
        rw [if_neg h0] at K
        rw [if_neg h0, if_neg h0] at hcw
        exact vk_getf hx hb hSt.2.1 hat.2.1 hown (hts _ (zw_in hcw)) (fun _ h => h) (zdc_eq hd) K
    · cases hs
  · cases hs
theorem zsum_cat (G : zG) (hg : gf G = .null ∨ ∃ t, gf G = .ref t) (st : List zV) : ((st.map (zcv G)).map fun v => v.category).sum = (st.map zcat).sum := by
  rw [List.map_map]
  congr 1
  apply List.map_congr_left
  intro v _
  exact zcv_cat G v hg
theorem zw_math : (Cond.initialized "java/lang/Math" ∈ zTs) ∧ (Cond.static Lib.Math.max.name ∈ zTs ∧ Cond.code Lib.Math.max.name Lib.Math.max.code 2 (some .int) ∈ zTs) ∧ (Cond.static Lib.Math.min.name ∈ zTs ∧ Cond.code Lib.Math.min.name Lib.Math.min.code 2 (some .int) ∈ zTs) ∧ (Cond.static Lib.MathLoose.max_long.x ∈ zTs ∧ Cond.code Lib.MathLoose.max_long.x Lib.MathLoose.max_long.code 4 (some .long) ∈ zTs) :=
  ⟨zw_in (p := 1032) (by decide +kernel), ⟨zw_in (p := 3085) (by decide +kernel), zw_in (p := 3086) (by decide +kernel)⟩, ⟨zw_in (p := 2055) (by decide +kernel), zw_in (p := 2056) (by decide +kernel)⟩, ⟨zw_in (p := 3075) (by decide +kernel), zw_in (p := 3076) (by decide +kernel)⟩⟩
noncomputable def zc_math : Nat → zChk := fun q y pc i => i.2.1 == 3 && zdc y pc (.invokestatic i.2.2.1) 3 && zw (i.2.2.2.2.2.getD 0 0).toNat (.methodLink (zmn y).cls i.2.2.1 (match q with
  | 0 => Lib.Math.max.name
  | 1 => Lib.Math.min.name
  | _ => Lib.MathLoose.max_long.x))
theorem zp_math (q : Nat) : zSound (zs_math q, zc_math q) := by
  intro G y p l e R s m args below meth c H locs Q n0 m0 nF mF cx hRc hRs hRf hRl i pc ls st S lm pc' ls' st' S' hc hs hat hn0 hm0 hnF hmF kk
  obtain ⟨hx, hb, hml, hown, hts, hfix, hnm⟩ := cx
  obtain ⟨op, len, a, b, k, ex⟩ := i
  have hg := hfix.2.2.2.2.2.2.2.1
  unfold zs_math at hs
  dsimp only at hs
  simp only [zc_math, Bool.and_eq_true, beq_iff_eq] at hc
  obtain ⟨⟨rfl, hd⟩, hcw⟩ := hc
  have hm2 : c.maxLocals = lm.size := by rw [hml]; exact hat.2.2.1.1.symm
  have hw := hat.2.2.2.2.2
  obtain ⟨w0, ⟨w1, w2⟩, ⟨w3, w4⟩, ⟨w5, w6⟩⟩ := zw_math
  split at hs
  · rename_i yv xv st1
    split at hs
    · rename_i hsm
      cases hs
      have hry := (zwf_hd hw).1 rfl
      have hrx := (zwf_hd (zwf_tl hw)).1 rfl
      have K := kk H locs lm (hat.st (zwf_cons (zwfI (by split <;> assumption)) (zwf_tl (zwf_tl hw))))
      have ee : zcv G (zI (if xv < yv then yv else xv)) = .int (if Int32.ofInt xv < Int32.ofInt yv then Int32.ofInt yv else Int32.ofInt xv) := by
        by_cases h : xv < yv
        · rw [if_pos h, if_pos ((z32_lt hrx hry).mpr h)]; rfl
        · rw [if_neg h, if_neg (fun z => h ((z32_lt hrx hry).mp z))]; rfl
      rw [List.map_cons, ee] at K
      rw [List.map_cons, List.map_cons, show zcv G (0, yv) = .int (Int32.ofInt yv) from rfl, show zcv G (0, xv) = .int (Int32.ofInt xv) from rfl]
      exact va_mmax hx hb hm2 hown (hts _ (zw_in hcw)) (hts _ w1) (hts _ w0) (hts _ w2) hRf (by rw [zsum_cat G hg]; omega) (by omega) (by omega) (zdc_eq hd) K
    · cases hs
  · rename_i yv xv st1
    split at hs
    · rename_i hsm
      cases hs
      have hry := (zwf_hd hw).1 rfl
      have hrx := (zwf_hd (zwf_tl hw)).1 rfl
      have K := kk H locs lm (hat.st (zwf_cons (zwfI (by split <;> assumption)) (zwf_tl (zwf_tl hw))))
      have ee : zcv G (zI (if yv < xv then yv else xv)) = .int (if Int32.ofInt yv < Int32.ofInt xv then Int32.ofInt yv else Int32.ofInt xv) := by
        by_cases h : yv < xv
        · rw [if_pos h, if_pos ((z32_lt hry hrx).mpr h)]; rfl
        · rw [if_neg h, if_neg (fun z => h ((z32_lt hry hrx).mp z))]; rfl
      rw [List.map_cons, ee] at K
      rw [List.map_cons, List.map_cons, show zcv G (0, yv) = .int (Int32.ofInt yv) from rfl, show zcv G (0, xv) = .int (Int32.ofInt xv) from rfl]
      exact va_mmin hx hb hm2 hown (hts _ (zw_in hcw)) (hts _ w3) (hts _ w0) (hts _ w4) hRf (by rw [zsum_cat G hg]; omega) (by omega) (by omega) (zdc_eq hd) K
    · cases hs
  · rename_i yv xv st1
    split at hs
    · rename_i hsm
      cases hs
      have hry := (zwf_hd hw).2 rfl
      have hrx := (zwf_hd (zwf_tl hw)).2 rfl
      have K := kk H locs lm (hat.st (zwf_cons (zwfL (by split <;> assumption)) (zwf_tl (zwf_tl hw))))
      have ee : zcv G (zL (if yv < xv then xv else yv)) = .long (if Int64.ofInt yv < Int64.ofInt xv then Int64.ofInt xv else Int64.ofInt yv) := by
        by_cases h : yv < xv
        · rw [if_pos h, if_pos ((z64_lt hry hrx).mpr h)]; rfl
        · rw [if_neg h, if_neg (fun z => h ((z64_lt hry hrx).mp z))]; rfl
      rw [List.map_cons, ee] at K
      rw [List.map_cons, List.map_cons, show zcv G (1, yv) = .long (Int64.ofInt yv) from rfl, show zcv G (1, xv) = .long (Int64.ofInt xv) from rfl]
      exact va_mmax_long hx hb hm2 hown (hts _ (zw_in hcw)) (hts _ w5) (hts _ w0) (hts _ w6) hRf (by rw [zsum_cat G hg]; omega) (by omega) (by omega) (zdc_eq hd) K
    · cases hs
  · cases hs
def zc_no : zChk := fun _ _ _ => false
theorem zp_no : zSound (zs_no, zc_no) := by
  intro G y p l e R s m args below meth c H locs Q n0 m0 nF mF cx hRc hRs hRf hRl i pc ls st S lm pc' ls' st' S' hc hs
  cases hc
noncomputable def zchks : List zChk := [zc_no, zc_iconst, zc_lconst, zc_iload, zc_lload, zc_aload, zc_istore, zc_lstore, zc_astore, zc_iinc, zc_iar, zc_lar, zc_lsh, zc_un, zc_lcmp, zc_if, zc_icmp, zc_goto, zc_get, zc_put, zc_alen, zc_ald, zc_xast, zc_dup, zc_dup2, zc_newa, zc_newq, zc_new, zc_no, zc_no, zc_table, zc_stat, zc_ldcs, zc_pop, zc_obj, zc_sget, zc_look, zc_math 0, zc_math 1, zc_math 2]
noncomputable def zchk : zChk := fun y pc i => (zchks.getD i.1 zc_no) y pc i
theorem zp_all : ∀ q ∈ zsems.zip zchks, zSound q :=
  List.forall_mem_cons.mpr ⟨zp_no, List.forall_mem_cons.mpr ⟨zp_iconst, List.forall_mem_cons.mpr ⟨zp_lconst, List.forall_mem_cons.mpr ⟨zp_iload, List.forall_mem_cons.mpr ⟨zp_lload, List.forall_mem_cons.mpr ⟨zp_aload, List.forall_mem_cons.mpr ⟨zp_istore, List.forall_mem_cons.mpr ⟨zp_lstore, List.forall_mem_cons.mpr ⟨zp_astore, List.forall_mem_cons.mpr ⟨zp_iinc, List.forall_mem_cons.mpr ⟨zp_iar, List.forall_mem_cons.mpr ⟨zp_lar, List.forall_mem_cons.mpr ⟨zp_lsh, List.forall_mem_cons.mpr ⟨zp_un, List.forall_mem_cons.mpr ⟨zp_lcmp, List.forall_mem_cons.mpr ⟨zp_if, List.forall_mem_cons.mpr ⟨zp_icmp, List.forall_mem_cons.mpr ⟨zp_goto, List.forall_mem_cons.mpr ⟨zp_get, List.forall_mem_cons.mpr ⟨zp_put, List.forall_mem_cons.mpr ⟨zp_alen, List.forall_mem_cons.mpr ⟨zp_ald, List.forall_mem_cons.mpr ⟨zp_xast, List.forall_mem_cons.mpr ⟨zp_dup, List.forall_mem_cons.mpr ⟨zp_dup2, List.forall_mem_cons.mpr ⟨zp_newa, List.forall_mem_cons.mpr ⟨zp_newq, List.forall_mem_cons.mpr ⟨zp_new, List.forall_mem_cons.mpr ⟨zp_no, List.forall_mem_cons.mpr ⟨zp_no, List.forall_mem_cons.mpr ⟨zp_table, List.forall_mem_cons.mpr ⟨zp_stat, List.forall_mem_cons.mpr ⟨zp_ldcs, List.forall_mem_cons.mpr ⟨zp_pop, List.forall_mem_cons.mpr ⟨zp_obj, List.forall_mem_cons.mpr ⟨zp_sget, List.forall_mem_cons.mpr ⟨zp_look, List.forall_mem_cons.mpr ⟨zp_math 0, List.forall_mem_cons.mpr ⟨zp_math 1, List.forall_mem_cons.mpr ⟨zp_math 2, fun _ h => absurd h List.not_mem_nil⟩⟩⟩⟩⟩⟩⟩⟩⟩⟩⟩⟩⟩⟩⟩⟩⟩⟩⟩⟩⟩⟩⟩⟩⟩⟩⟩⟩⟩⟩⟩⟩⟩⟩⟩⟩⟩⟩⟩⟩
theorem zp_step : zSound (zstep, zchk) := by
  intro G y p l e R s m args below meth c H locs Q n0 m0 nF mF cx hRc hRs hRf hRl i pc ls st S lm pc' ls' st' S' hc hs
  have hq : zSound (zsems.getD i.1 zs_no, zchks.getD i.1 zc_no) := by
    by_cases h : i.1 < 40
    · apply zp_all
      apply List.mem_of_getElem? (i := i.1)
      rw [List.getElem?_zip_eq_some]
      constructor
      · show zsems[i.1]? = some (zsems.getD i.1 zs_no)
        rw [List.getD_eq_getElem?_getD, List.getElem?_eq_getElem (show i.1 < zsems.length from h)]; rfl
      · show zchks[i.1]? = some (zchks.getD i.1 zc_no)
        rw [List.getD_eq_getElem?_getD, List.getElem?_eq_getElem (show i.1 < zchks.length from h)]; rfl
    · rw [List.getD_eq_getElem?_getD, List.getD_eq_getElem?_getD, List.getElem?_eq_none (by show 40 ≤ i.1; omega), List.getElem?_eq_none (by show 40 ≤ i.1; omega)]
      exact zp_no
  exact hq G y n0 m0 nF mF cx hRc hRs hRf hRl i pc ls st S lm pc' ls' st' S' hc hs
end
section
/-! every method's code is the table's, by the kernel -/
/-- of a plain instruction, a call, a return: it is the machine's -/
def zret_ok (y a : Nat) : Bool := match a with
  | 0 => decide (zrt y = none)
  | 1 => decide (zrt y = some .int)
  | 2 => decide (zrt y = some .long)
  | 3 => match zrt y with
    | some (.object _) => true
    | _ => false
  | 4 => decide (zrt y = some .boolean)
  | 5 => decide (zrt y = some .char)
  | 6 => decide (zrt y = some .byte)
  | _ => false
def zret_i (a : Nat) : Instr := match a with
  | 0 => .return_
  | 2 => .lreturn
  | 3 => .areturn
  | _ => .ireturn
noncomputable def zone (y pc : Nat) (i : zC) : Bool :=
  if i.1 = 100 then zret_ok y i.2.2.1 && zdc y pc (zret_i i.2.2.1) 1
  else if i.1 = 101 then
    let ix := (i.2.2.2.2.2.getD 0 0).toNat
    let p := (i.2.2.2.2.2.getD 1 0).toNat
    let t := i.2.2.1
    i.2.1 == 3 && decide (i.2.2.2.2.1.toNat = zin t 0 + (if i.2.2.2.1 % 4 = 1 then 0 else 1)) && decide (t < zMs.length) && decide (0 < t) &&
    (match i.2.2.2.1 with
    | 0 => zdc y pc (.invokevirtual ix) 3 && zw p (.methodLink (zmn y).cls ix (zmn t)) && zin t 1 == 0 && decide (¬ (zmn t).name = "<init>")
    | 1 => zdc y pc (.invokestatic ix) 3 && zw p (.methodLink (zmn y).cls ix (zmn t)) && zin t 1 == 1
    | 2 => zdc y pc (.invokespecial ix) 3 && zw p (.methodLink (zmn y).cls ix (zmn t)) && zin t 1 == 0 && decide ((zmn t).name = "<init>") && decide (zrt t = none)
    | 6 => zdc y pc (.invokespecial ix) 3 && decide (.methodLinkNest (zmn y).cls ix (zmn t) "SumWalker" ∈ zNw) && zin t 1 == 0 && decide ((zmn t).name = "<init>") && decide (zrt t = none)
    | _ => false)
  else zchk y pc i
noncomputable def zcode : List (Option zC) → Nat → Nat → Bool
  | [], _, _ => true
  | none :: r, y, pc => zcode r y (pc + 1)
  | some i :: r, y, pc => zone y pc i && zcode r y (pc + 1)
/-- a method's own words: its code, how it is called -/
def zclname (k : Nat) : String := if k < 7 then zCn k else "java/lang/String"
noncomputable def zmeta (y : Nat) : Bool :=
  zw (zin y 3) (.code (zmn y) (zby y) (zml y) (zrt y)) && zw (zin y 6) (.initialized (zmn y).cls) && plainName (zmn y).cls && decide ((zmn y).cls ≠ "java/lang/invoke/MethodHandle") && decide ((zmn y).cls ≠ "java/lang/invoke/VarHandle") && decide ((parseMethodDescriptor (zmn y).desc).map (fun d => d.parameters.length) = some (zin y 0)) && decide (zml y ≤ 20) &&
  (if zin y 1 = 1 then zw (zin y 4) (.static (zmn y)) else zw (zin y 4) (.instanceMethod (zmn y)) && (decide ((zmn y).name = "<init>") || (zw (zin y 5) (.selects (zmn y).cls (zmn y) (zmn y)) && decide (zclname (zin y 2) = (zmn y).cls))))
theorem zk_ok1 : zcode zk1 1 0 = true := by decide +kernel
theorem zk_ok2 : zcode zk2 2 0 = true := by decide +kernel
theorem zk_ok3 : zcode zk3 3 0 = true := by decide +kernel
theorem zk_ok4 : zcode zk4 4 0 = true := by decide +kernel
theorem zk_ok5 : zcode zk5 5 0 = true := by decide +kernel
theorem zk_ok6 : zcode zk6 6 0 = true := by decide +kernel
theorem zk_ok7 : zcode zk7 7 0 = true := by decide +kernel
theorem zk_ok8 : zcode zk8 8 0 = true := by decide +kernel
theorem zk_ok9 : zcode zk9 9 0 = true := by decide +kernel
theorem zk_ok10 : zcode zk10 10 0 = true := by decide +kernel
theorem zk_ok11 : zcode zk11 11 0 = true := by decide +kernel
theorem zk_ok12 : zcode zk12 12 0 = true := by decide +kernel
theorem zk_ok13 : zcode zk13 13 0 = true := by decide +kernel
theorem zk_ok14 : zcode zk14 14 0 = true := by decide +kernel
theorem zk_ok15 : zcode zk15 15 0 = true := by decide +kernel
theorem zk_ok16 : zcode zk16 16 0 = true := by decide +kernel
theorem zk_ok17 : zcode zk17 17 0 = true := by decide +kernel
theorem zk_ok18 : zcode zk18 18 0 = true := by decide +kernel
theorem zk_ok19 : zcode zk19 19 0 = true := by decide +kernel
theorem zk_ok20 : zcode zk20 20 0 = true := by decide +kernel
theorem zk_ok21 : zcode zk21 21 0 = true := by decide +kernel
theorem zk_ok22 : zcode zk22 22 0 = true := by decide +kernel
theorem zk_ok23 : zcode zk23 23 0 = true := by decide +kernel
theorem zk_ok24 : zcode zk24 24 0 = true := by decide +kernel
theorem zk_ok25 : zcode zk25 25 0 = true := by decide +kernel
theorem zk_ok26 : zcode zk26 26 0 = true := by decide +kernel
theorem zk_ok27 : zcode zk27 27 0 = true := by decide +kernel
theorem zk_ok28 : zcode zk28 28 0 = true := by decide +kernel
theorem zk_ok29 : zcode zk29 29 0 = true := by decide +kernel
theorem zk_ok30 : zcode zk30 30 0 = true := by decide +kernel
theorem zk_ok31 : zcode zk31 31 0 = true := by decide +kernel
theorem zk_ok32 : zcode zk32 32 0 = true := by decide +kernel
theorem zk_ok33 : zcode zk33 33 0 = true := by decide +kernel
theorem zk_ok34 : zcode zk34 34 0 = true := by decide +kernel
theorem zk_ok35 : zcode zk35 35 0 = true := by decide +kernel
theorem zk_ok36 : zcode zk36 36 0 = true := by decide +kernel
theorem zk_ok37 : zcode zk37 37 0 = true := by decide +kernel
theorem zk_ok38 : zcode zk38 38 0 = true := by decide +kernel
theorem zk_ok39 : zcode zk39 39 0 = true := by decide +kernel
theorem zk_ok40 : zcode zk40 40 0 = true := by decide +kernel
theorem zk_ok41 : zcode zk41 41 0 = true := by decide +kernel
theorem zk_ok42 : zcode zk42 42 0 = true := by decide +kernel
theorem zk_ok43 : zcode zk43 43 0 = true := by decide +kernel
theorem zk_ok44 : zcode zk44 44 0 = true := by decide +kernel
theorem zk_ok45 : zcode zk45 45 0 = true := by decide +kernel
theorem zk_ok46 : zcode zk46 46 0 = true := by decide +kernel
theorem zk_ok47 : zcode zk47 47 0 = true := by decide +kernel
theorem zk_ok48 : zcode zk48 48 0 = true := by decide +kernel
theorem zk_ok49 : zcode zk49 49 0 = true := by decide +kernel
theorem zk_ok50 : zcode zk50 50 0 = true := by decide +kernel
theorem zk_ok51 : zcode zk51 51 0 = true := by decide +kernel
theorem zk_ok52 : zcode zk52 52 0 = true := by decide +kernel
theorem zk_ok53 : zcode zk53 53 0 = true := by decide +kernel
theorem zk_ok54 : zcode zk54 54 0 = true := by decide +kernel
theorem zk_ok55 : zcode zk55 55 0 = true := by decide +kernel
theorem zk_ok56 : zcode zk56 56 0 = true := by decide +kernel
theorem zk_ok57 : zcode zk57 57 0 = true := by decide +kernel
theorem zk_ok58 : zcode zk58 58 0 = true := by decide +kernel
theorem zk_ok59 : zcode zk59 59 0 = true := by decide +kernel
theorem zk_ok60 : zcode zk60 60 0 = true := by decide +kernel
theorem zk_ok61 : zcode zk61 61 0 = true := by decide +kernel
theorem zk_ok62 : zcode zk62 62 0 = true := by decide +kernel
theorem zk_ok63 : zcode zk63 63 0 = true := by decide +kernel
theorem zk_ok64 : zcode zk64 64 0 = true := by decide +kernel
theorem zk_ok65 : zcode zk65 65 0 = true := by decide +kernel
theorem zk_ok66 : zcode zk66 66 0 = true := by decide +kernel
theorem zk_ok67 : zcode zk67 67 0 = true := by decide +kernel
theorem zk_ok68 : zcode zk68 68 0 = true := by decide +kernel
theorem zk_ok69 : zcode zk69 69 0 = true := by decide +kernel
theorem zk_ok70 : zcode zk70 70 0 = true := by decide +kernel
theorem zk_ok71 : zcode zk71 71 0 = true := by decide +kernel
theorem zk_ok72 : zcode zk72 72 0 = true := by decide +kernel
theorem zk_ok73 : zcode zk73 73 0 = true := by decide +kernel
theorem zk_ok74 : zcode zk74 74 0 = true := by decide +kernel
theorem zk_ok75 : zcode zk75 75 0 = true := by decide +kernel
theorem zk_ok76 : zcode zk76 76 0 = true := by decide +kernel
theorem zk_ok77 : zcode zk77 77 0 = true := by decide +kernel
theorem zk_ok78 : zcode zk78 78 0 = true := by decide +kernel
theorem zk_ok79 : zcode zk79 79 0 = true := by decide +kernel
theorem zk_ok80 : zcode zk80 80 0 = true := by decide +kernel
theorem zk_ok81 : zcode zk81 81 0 = true := by decide +kernel
theorem zk_ok82 : zcode zk82 82 0 = true := by decide +kernel
theorem zk_ok83 : zcode zk83 83 0 = true := by decide +kernel
theorem zk_ok84 : zcode zk84 84 0 = true := by decide +kernel
theorem zk_ok85 : zcode zk85 85 0 = true := by decide +kernel
theorem zk_ok86 : zcode zk86 86 0 = true := by decide +kernel
theorem zk_ok87 : zcode zk87 87 0 = true := by decide +kernel
theorem zk_ok88 : zcode zk88 88 0 = true := by decide +kernel
theorem zk_ok89 : zcode zk89 89 0 = true := by decide +kernel
theorem zk_ok90 : zcode zk90 90 0 = true := by decide +kernel
theorem zk_ok91 : zcode zk91 91 0 = true := by decide +kernel
theorem zk_ok92 : zcode zk92 92 0 = true := by decide +kernel
theorem zk_ok93 : zcode zk93 93 0 = true := by decide +kernel
theorem zk_ok94 : zcode zk94 94 0 = true := by decide +kernel
theorem zk_ok95 : zcode zk95 95 0 = true := by decide +kernel
theorem zk_ok96 : zcode zk96 96 0 = true := by decide +kernel
theorem zk_ok97 : zcode zk97 97 0 = true := by decide +kernel
theorem zk_ok98 : zcode zk98 98 0 = true := by decide +kernel
theorem zk_ok99 : zcode zk99 99 0 = true := by decide +kernel
theorem zk_ok100 : zcode zk100 100 0 = true := by decide +kernel
theorem zk_ok101 : zcode zk101 101 0 = true := by decide +kernel
theorem zk_ok102 : zcode zk102 102 0 = true := by decide +kernel
theorem zk_ok103 : zcode zk103 103 0 = true := by decide +kernel
theorem zk_ok104 : zcode zk104 104 0 = true := by decide +kernel
theorem zk_ok105 : zcode zk105 105 0 = true := by decide +kernel
theorem zk_ok106 : zcode zk106 106 0 = true := by decide +kernel
theorem zk_ok107 : zcode zk107 107 0 = true := by decide +kernel
theorem zk_ok108 : zcode zk108 108 0 = true := by decide +kernel
theorem zk_ok109 : zcode zk109 109 0 = true := by decide +kernel
theorem zk_ok110 : zcode zk110 110 0 = true := by decide +kernel
theorem zk_ok111 : zcode zk111 111 0 = true := by decide +kernel
theorem zk_ok112 : zcode zk112 112 0 = true := by decide +kernel
theorem zk_ok113 : zcode zk113 113 0 = true := by decide +kernel
theorem zk_ok114 : zcode zk114 114 0 = true := by decide +kernel
theorem zk_ok115 : zcode zk115 115 0 = true := by decide +kernel
theorem zk_ok116 : zcode zk116 116 0 = true := by decide +kernel
theorem zk_ok117 : zcode zk117 117 0 = true := by decide +kernel
theorem zk_ok118 : zcode zk118 118 0 = true := by decide +kernel
theorem zk_ok119 : zcode zk119 119 0 = true := by decide +kernel
theorem zk_ok120 : zcode zk120 120 0 = true := by decide +kernel
theorem zk_ok121 : zcode zk121 121 0 = true := by decide +kernel
theorem zk_ok122 : zcode zk122 122 0 = true := by decide +kernel
theorem zk_ok123 : zcode zk123 123 0 = true := by decide +kernel
theorem zk_ok124 : zcode zk124 124 0 = true := by decide +kernel
theorem zk_ok125 : zcode zk125 125 0 = true := by decide +kernel
theorem zk_ok126 : zcode zk126 126 0 = true := by decide +kernel
theorem zk_ok127 : zcode zk127 127 0 = true := by decide +kernel
theorem zk_ok128 : zcode zk128 128 0 = true := by decide +kernel
theorem zk_ok129 : zcode zk129 129 0 = true := by decide +kernel
theorem zk_ok130 : zcode zk130 130 0 = true := by decide +kernel
theorem zk_ok131 : zcode zk131 131 0 = true := by decide +kernel
theorem zk_ok132 : zcode zk132 132 0 = true := by decide +kernel
theorem zk_ok133 : zcode zk133 133 0 = true := by decide +kernel
theorem zk_ok134 : zcode zk134 134 0 = true := by decide +kernel
theorem zk_ok135 : zcode zk135 135 0 = true := by decide +kernel
theorem zk_ok136 : zcode zk136 136 0 = true := by decide +kernel
theorem zk_ok137 : zcode zk137 137 0 = true := by decide +kernel
theorem zk_ok138 : zcode zk138 138 0 = true := by decide +kernel
theorem zk_ok139 : zcode zk139 139 0 = true := by decide +kernel
theorem zk_ok140 : zcode zk140 140 0 = true := by decide +kernel
theorem zk_ok141 : zcode zk141 141 0 = true := by decide +kernel
theorem zk_ok142 : zcode zk142 142 0 = true := by decide +kernel
theorem zk_ok143 : zcode zk143 143 0 = true := by decide +kernel
theorem zk_ok144 : zcode zk144 144 0 = true := by decide +kernel
theorem zk_ok145 : zcode zk145 145 0 = true := by decide +kernel
theorem zk_ok146 : zcode zk146 146 0 = true := by decide +kernel
theorem zk_ok147 : zcode zk147 147 0 = true := by decide +kernel
theorem zk_ok148 : zcode zk148 148 0 = true := by decide +kernel
theorem zk_ok149 : zcode zk149 149 0 = true := by decide +kernel
theorem zk_ok150 : zcode zk150 150 0 = true := by decide +kernel
theorem zk_ok151 : zcode zk151 151 0 = true := by decide +kernel
theorem zk_ok152 : zcode zk152 152 0 = true := by decide +kernel
theorem zk_ok153 : zcode zk153 153 0 = true := by decide +kernel
theorem zk_ok154 : zcode zk154 154 0 = true := by decide +kernel
theorem zk_ok155 : zcode zk155 155 0 = true := by decide +kernel
theorem zk_ok156 : zcode zk156 156 0 = true := by decide +kernel
theorem zk_ok157 : zcode zk157 157 0 = true := by decide +kernel
theorem zk_ok158 : zcode zk158 158 0 = true := by decide +kernel
theorem zk_ok159 : zcode zk159 159 0 = true := by decide +kernel
theorem zk_ok160 : zcode zk160 160 0 = true := by decide +kernel
theorem zk_ok161 : zcode zk161 161 0 = true := by decide +kernel
theorem zk_ok162 : zcode zk162 162 0 = true := by decide +kernel
theorem zk_ok163 : zcode zk163 163 0 = true := by decide +kernel
theorem zk_ok164 : zcode zk164 164 0 = true := by decide +kernel
theorem zk_ok165 : zcode zk165 165 0 = true := by decide +kernel
theorem zk_ok166 : zcode zk166 166 0 = true := by decide +kernel
theorem zk_ok167 : zcode zk167 167 0 = true := by decide +kernel
theorem zk_ok168 : zcode zk168 168 0 = true := by decide +kernel
theorem zk_ok169 : zcode zk169 169 0 = true := by decide +kernel
theorem zk_ok170 : zcode zk170 170 0 = true := by decide +kernel
theorem zk_ok171 : zcode zk171 171 0 = true := by decide +kernel
theorem zk_ok172 : zcode zk172 172 0 = true := by decide +kernel
theorem zk_ok173 : zcode zk173 173 0 = true := by decide +kernel
theorem zk_ok174 : zcode zk174 174 0 = true := by decide +kernel
theorem zk_ok175 : zcode zk175 175 0 = true := by decide +kernel
theorem zk_ok176 : zcode zk176 176 0 = true := by decide +kernel
theorem zk_ok177 : zcode zk177 177 0 = true := by decide +kernel
theorem zk_ok178 : zcode zk178 178 0 = true := by decide +kernel
theorem zk_ok179 : zcode zk179 179 0 = true := by decide +kernel
theorem zk_ok180 : zcode zk180 180 0 = true := by decide +kernel
theorem zk_ok181 : zcode zk181 181 0 = true := by decide +kernel
theorem zk_ok182 : zcode zk182 182 0 = true := by decide +kernel
theorem zk_ok183 : zcode zk183 183 0 = true := by decide +kernel
theorem zk_ok184 : zcode zk184 184 0 = true := by decide +kernel
theorem zk_ok185 : zcode zk185 185 0 = true := by decide +kernel
theorem zk_ok186 : zcode zk186 186 0 = true := by decide +kernel
theorem zk_ok187 : zcode zk187 187 0 = true := by decide +kernel
theorem zk_ok188 : zcode zk188 188 0 = true := by decide +kernel
theorem zk_ok189 : zcode zk189 189 0 = true := by decide +kernel
theorem zk_ok190 : zcode zk190 190 0 = true := by decide +kernel
theorem zk_ok191 : zcode zk191 191 0 = true := by decide +kernel
theorem zk_ok192 : zcode zk192 192 0 = true := by decide +kernel
theorem zk_ok193 : zcode zk193 193 0 = true := by decide +kernel
theorem zk_ok194 : zcode zk194 194 0 = true := by decide +kernel
theorem zk_ok195 : zcode zk195 195 0 = true := by decide +kernel
theorem zk_ok196 : zcode zk196 196 0 = true := by decide +kernel
theorem zk_ok197 : zcode zk197 197 0 = true := by decide +kernel
theorem zk_ok198 : zcode zk198 198 0 = true := by decide +kernel
theorem zk_ok199 : zcode zk199 199 0 = true := by decide +kernel
theorem zk_ok200 : zcode zk200 200 0 = true := by decide +kernel
theorem zk_ok201 : zcode zk201 201 0 = true := by decide +kernel
theorem zk_ok202 : zcode zk202 202 0 = true := by decide +kernel
theorem zk_ok203 : zcode zk203 203 0 = true := by decide +kernel
theorem zk_ok204 : zcode zk204 204 0 = true := by decide +kernel
theorem zk_ok205 : zcode zk205 205 0 = true := by decide +kernel
theorem zk_ok206 : zcode zk206 206 0 = true := by decide +kernel
theorem zk_ok207 : zcode zk207 207 0 = true := by decide +kernel
theorem zk_ok208 : zcode zk208 208 0 = true := by decide +kernel
theorem zk_ok209 : zcode zk209 209 0 = true := by decide +kernel
theorem zk_ok210 : zcode zk210 210 0 = true := by decide +kernel
theorem zk_ok211 : zcode zk211 211 0 = true := by decide +kernel
theorem zk_ok212 : zcode zk212 212 0 = true := by decide +kernel
theorem zk_ok213 : zcode zk213 213 0 = true := by decide +kernel
theorem zk_ok214 : zcode zk214 214 0 = true := by decide +kernel
theorem zk_ok215 : zcode zk215 215 0 = true := by decide +kernel
theorem zk_ok216 : zcode zk216 216 0 = true := by decide +kernel
theorem zk_ok217 : zcode zk217 217 0 = true := by decide +kernel
theorem zk_ok218 : zcode zk218 218 0 = true := by decide +kernel
theorem zk_ok219 : zcode zk219 219 0 = true := by decide +kernel
theorem zk_ok220 : zcode zk220 220 0 = true := by decide +kernel
theorem zk_ok221 : zcode zk221 221 0 = true := by decide +kernel
theorem zk_ok222 : zcode zk222 222 0 = true := by decide +kernel
theorem zk_ok223 : zcode zk223 223 0 = true := by decide +kernel
theorem zk_ok224 : zcode zk224 224 0 = true := by decide +kernel
theorem zk_ok225 : zcode zk225 225 0 = true := by decide +kernel
theorem zk_ok226 : zcode zk226 226 0 = true := by decide +kernel
theorem zk_ok227 : zcode zk227 227 0 = true := by decide +kernel
theorem zk_ok228 : zcode zk228 228 0 = true := by decide +kernel
theorem zk_ok229 : zcode zk229 229 0 = true := by decide +kernel
theorem zk_ok230 : zcode zk230 230 0 = true := by decide +kernel
theorem zk_ok231 : zcode zk231 231 0 = true := by decide +kernel
theorem zk_ok232 : zcode zk232 232 0 = true := by decide +kernel
theorem zk_ok233 : zcode zk233 233 0 = true := by decide +kernel
theorem zk_ok234 : zcode zk234 234 0 = true := by decide +kernel
theorem zk_ok235 : zcode zk235 235 0 = true := by decide +kernel
theorem zk_ok236 : zcode zk236 236 0 = true := by decide +kernel
theorem zk_ok237 : zcode zk237 237 0 = true := by decide +kernel
theorem zk_ok238 : zcode zk238 238 0 = true := by decide +kernel
theorem zk_ok239 : zcode zk239 239 0 = true := by decide +kernel
theorem zk_ok240 : zcode zk240 240 0 = true := by decide +kernel
theorem zk_ok241 : zcode zk241 241 0 = true := by decide +kernel
theorem zk_ok242 : zcode zk242 242 0 = true := by decide +kernel
theorem zk_ok243 : zcode zk243 243 0 = true := by decide +kernel
theorem zk_ok244 : zcode zk244 244 0 = true := by decide +kernel
theorem zk_ok245 : zcode zk245 245 0 = true := by decide +kernel
theorem zk_ok246 : zcode zk246 246 0 = true := by decide +kernel
theorem zk_ok247 : zcode zk247 247 0 = true := by decide +kernel
theorem zk_ok248 : zcode zk248 248 0 = true := by decide +kernel
theorem zk_ok249 : zcode zk249 249 0 = true := by decide +kernel
theorem zk_ok250 : zcode zk250 250 0 = true := by decide +kernel
theorem zk_ok251 : zcode zk251 251 0 = true := by decide +kernel
theorem zk_ok252 : zcode zk252 252 0 = true := by decide +kernel
theorem zk_ok253 : zcode zk253 253 0 = true := by decide +kernel
theorem zk_ok254 : zcode zk254 254 0 = true := by decide +kernel
theorem zk_ok255 : zcode zk255 255 0 = true := by decide +kernel
theorem zk_ok256 : zcode zk256 256 0 = true := by decide +kernel
theorem zk_ok257 : zcode zk257 257 0 = true := by decide +kernel
theorem zk_ok258 : zcode zk258 258 0 = true := by decide +kernel
theorem zk_ok259 : zcode zk259 259 0 = true := by decide +kernel
theorem zk_ok260 : zcode zk260 260 0 = true := by decide +kernel
theorem zk_ok261 : zcode zk261 261 0 = true := by decide +kernel
theorem zk_ok262 : zcode zk262 262 0 = true := by decide +kernel
theorem zk_ok263 : zcode zk263 263 0 = true := by decide +kernel
theorem zk_ok264 : zcode zk264 264 0 = true := by decide +kernel
theorem zk_ok265 : zcode zk265 265 0 = true := by decide +kernel
theorem zk_ok266 : zcode zk266 266 0 = true := by decide +kernel
theorem zk_ok267 : zcode zk267 267 0 = true := by decide +kernel
theorem zk_ok268 : zcode zk268 268 0 = true := by decide +kernel
theorem zk_ok269 : zcode zk269 269 0 = true := by decide +kernel
theorem zk_ok270 : zcode zk270 270 0 = true := by decide +kernel
theorem zk_ok271 : zcode zk271 271 0 = true := by decide +kernel
theorem zk_ok272 : zcode zk272 272 0 = true := by decide +kernel
theorem zk_ok273 : zcode zk273 273 0 = true := by decide +kernel
theorem zk_ok274 : zcode zk274 274 0 = true := by decide +kernel
theorem zk_ok275 : zcode zk275 275 0 = true := by decide +kernel
theorem zk_ok276 : zcode zk276 276 0 = true := by decide +kernel
theorem zk_ok277 : zcode zk277 277 0 = true := by decide +kernel
theorem zk_ok278 : zcode zk278 278 0 = true := by decide +kernel
theorem zk_ok279 : zcode zk279 279 0 = true := by decide +kernel
theorem zk_ok280 : zcode zk280 280 0 = true := by decide +kernel
theorem zk_ok281 : zcode zk281 281 0 = true := by decide +kernel
theorem zk_ok282 : zcode zk282 282 0 = true := by decide +kernel
theorem zk_ok283 : zcode zk283 283 0 = true := by decide +kernel
theorem zk_ok284 : zcode zk284 284 0 = true := by decide +kernel
theorem zk_ok285 : zcode zk285 285 0 = true := by decide +kernel
theorem zk_ok286 : zcode zk286 286 0 = true := by decide +kernel
theorem zk_ok287 : zcode zk287 287 0 = true := by decide +kernel
theorem zk_ok288 : zcode zk288 288 0 = true := by decide +kernel
theorem zk_ok289 : zcode zk289 289 0 = true := by decide +kernel
end
section
theorem zm_ok1 : zmeta 1 = true := by decide +kernel
theorem zm_ok3 : zmeta 3 = true := by decide +kernel
theorem zm_ok4 : zmeta 4 = true := by decide +kernel
theorem zm_ok5 : zmeta 5 = true := by decide +kernel
theorem zm_ok6 : zmeta 6 = true := by decide +kernel
theorem zm_ok7 : zmeta 7 = true := by decide +kernel
theorem zm_ok8 : zmeta 8 = true := by decide +kernel
theorem zm_ok9 : zmeta 9 = true := by decide +kernel
theorem zm_ok10 : zmeta 10 = true := by decide +kernel
theorem zm_ok11 : zmeta 11 = true := by decide +kernel
theorem zm_ok12 : zmeta 12 = true := by decide +kernel
theorem zm_ok13 : zmeta 13 = true := by decide +kernel
theorem zm_ok14 : zmeta 14 = true := by decide +kernel
theorem zm_ok15 : zmeta 15 = true := by decide +kernel
theorem zm_ok16 : zmeta 16 = true := by decide +kernel
theorem zm_ok17 : zmeta 17 = true := by decide +kernel
theorem zm_ok18 : zmeta 18 = true := by decide +kernel
theorem zm_ok19 : zmeta 19 = true := by decide +kernel
theorem zm_ok20 : zmeta 20 = true := by decide +kernel
theorem zm_ok21 : zmeta 21 = true := by decide +kernel
theorem zm_ok22 : zmeta 22 = true := by decide +kernel
theorem zm_ok23 : zmeta 23 = true := by decide +kernel
theorem zm_ok24 : zmeta 24 = true := by decide +kernel
theorem zm_ok25 : zmeta 25 = true := by decide +kernel
theorem zm_ok26 : zmeta 26 = true := by decide +kernel
theorem zm_ok27 : zmeta 27 = true := by decide +kernel
theorem zm_ok28 : zmeta 28 = true := by decide +kernel
theorem zm_ok29 : zmeta 29 = true := by decide +kernel
theorem zm_ok30 : zmeta 30 = true := by decide +kernel
theorem zm_ok31 : zmeta 31 = true := by decide +kernel
theorem zm_ok32 : zmeta 32 = true := by decide +kernel
theorem zm_ok33 : zmeta 33 = true := by decide +kernel
theorem zm_ok34 : zmeta 34 = true := by decide +kernel
theorem zm_ok35 : zmeta 35 = true := by decide +kernel
theorem zm_ok36 : zmeta 36 = true := by decide +kernel
theorem zm_ok37 : zmeta 37 = true := by decide +kernel
theorem zm_ok38 : zmeta 38 = true := by decide +kernel
theorem zm_ok39 : zmeta 39 = true := by decide +kernel
theorem zm_ok40 : zmeta 40 = true := by decide +kernel
theorem zm_ok41 : zmeta 41 = true := by decide +kernel
theorem zm_ok42 : zmeta 42 = true := by decide +kernel
theorem zm_ok43 : zmeta 43 = true := by decide +kernel
theorem zm_ok44 : zmeta 44 = true := by decide +kernel
theorem zm_ok45 : zmeta 45 = true := by decide +kernel
theorem zm_ok46 : zmeta 46 = true := by decide +kernel
theorem zm_ok47 : zmeta 47 = true := by decide +kernel
theorem zm_ok48 : zmeta 48 = true := by decide +kernel
theorem zm_ok49 : zmeta 49 = true := by decide +kernel
theorem zm_ok50 : zmeta 50 = true := by decide +kernel
theorem zm_ok51 : zmeta 51 = true := by decide +kernel
theorem zm_ok52 : zmeta 52 = true := by decide +kernel
theorem zm_ok53 : zmeta 53 = true := by decide +kernel
theorem zm_ok54 : zmeta 54 = true := by decide +kernel
theorem zm_ok55 : zmeta 55 = true := by decide +kernel
theorem zm_ok56 : zmeta 56 = true := by decide +kernel
theorem zm_ok57 : zmeta 57 = true := by decide +kernel
theorem zm_ok58 : zmeta 58 = true := by decide +kernel
theorem zm_ok59 : zmeta 59 = true := by decide +kernel
theorem zm_ok60 : zmeta 60 = true := by decide +kernel
theorem zm_ok61 : zmeta 61 = true := by decide +kernel
theorem zm_ok62 : zmeta 62 = true := by decide +kernel
theorem zm_ok63 : zmeta 63 = true := by decide +kernel
theorem zm_ok64 : zmeta 64 = true := by decide +kernel
theorem zm_ok65 : zmeta 65 = true := by decide +kernel
theorem zm_ok66 : zmeta 66 = true := by decide +kernel
theorem zm_ok67 : zmeta 67 = true := by decide +kernel
theorem zm_ok68 : zmeta 68 = true := by decide +kernel
theorem zm_ok69 : zmeta 69 = true := by decide +kernel
theorem zm_ok70 : zmeta 70 = true := by decide +kernel
theorem zm_ok71 : zmeta 71 = true := by decide +kernel
theorem zm_ok72 : zmeta 72 = true := by decide +kernel
theorem zm_ok73 : zmeta 73 = true := by decide +kernel
theorem zm_ok74 : zmeta 74 = true := by decide +kernel
theorem zm_ok75 : zmeta 75 = true := by decide +kernel
theorem zm_ok76 : zmeta 76 = true := by decide +kernel
theorem zm_ok77 : zmeta 77 = true := by decide +kernel
theorem zm_ok78 : zmeta 78 = true := by decide +kernel
theorem zm_ok79 : zmeta 79 = true := by decide +kernel
theorem zm_ok80 : zmeta 80 = true := by decide +kernel
theorem zm_ok81 : zmeta 81 = true := by decide +kernel
theorem zm_ok82 : zmeta 82 = true := by decide +kernel
theorem zm_ok83 : zmeta 83 = true := by decide +kernel
theorem zm_ok84 : zmeta 84 = true := by decide +kernel
theorem zm_ok85 : zmeta 85 = true := by decide +kernel
theorem zm_ok86 : zmeta 86 = true := by decide +kernel
theorem zm_ok87 : zmeta 87 = true := by decide +kernel
theorem zm_ok88 : zmeta 88 = true := by decide +kernel
theorem zm_ok89 : zmeta 89 = true := by decide +kernel
theorem zm_ok90 : zmeta 90 = true := by decide +kernel
theorem zm_ok91 : zmeta 91 = true := by decide +kernel
theorem zm_ok92 : zmeta 92 = true := by decide +kernel
theorem zm_ok93 : zmeta 93 = true := by decide +kernel
theorem zm_ok94 : zmeta 94 = true := by decide +kernel
theorem zm_ok95 : zmeta 95 = true := by decide +kernel
theorem zm_ok96 : zmeta 96 = true := by decide +kernel
theorem zm_ok97 : zmeta 97 = true := by decide +kernel
theorem zm_ok98 : zmeta 98 = true := by decide +kernel
theorem zm_ok99 : zmeta 99 = true := by decide +kernel
theorem zm_ok100 : zmeta 100 = true := by decide +kernel
theorem zm_ok101 : zmeta 101 = true := by decide +kernel
theorem zm_ok102 : zmeta 102 = true := by decide +kernel
theorem zm_ok103 : zmeta 103 = true := by decide +kernel
theorem zm_ok104 : zmeta 104 = true := by decide +kernel
theorem zm_ok105 : zmeta 105 = true := by decide +kernel
theorem zm_ok106 : zmeta 106 = true := by decide +kernel
theorem zm_ok107 : zmeta 107 = true := by decide +kernel
theorem zm_ok108 : zmeta 108 = true := by decide +kernel
theorem zm_ok109 : zmeta 109 = true := by decide +kernel
theorem zm_ok110 : zmeta 110 = true := by decide +kernel
theorem zm_ok111 : zmeta 111 = true := by decide +kernel
theorem zm_ok112 : zmeta 112 = true := by decide +kernel
theorem zm_ok113 : zmeta 113 = true := by decide +kernel
theorem zm_ok114 : zmeta 114 = true := by decide +kernel
theorem zm_ok115 : zmeta 115 = true := by decide +kernel
theorem zm_ok116 : zmeta 116 = true := by decide +kernel
theorem zm_ok117 : zmeta 117 = true := by decide +kernel
theorem zm_ok118 : zmeta 118 = true := by decide +kernel
theorem zm_ok119 : zmeta 119 = true := by decide +kernel
theorem zm_ok120 : zmeta 120 = true := by decide +kernel
theorem zm_ok121 : zmeta 121 = true := by decide +kernel
theorem zm_ok122 : zmeta 122 = true := by decide +kernel
theorem zm_ok123 : zmeta 123 = true := by decide +kernel
theorem zm_ok124 : zmeta 124 = true := by decide +kernel
theorem zm_ok125 : zmeta 125 = true := by decide +kernel
theorem zm_ok126 : zmeta 126 = true := by decide +kernel
theorem zm_ok127 : zmeta 127 = true := by decide +kernel
theorem zm_ok128 : zmeta 128 = true := by decide +kernel
theorem zm_ok129 : zmeta 129 = true := by decide +kernel
theorem zm_ok130 : zmeta 130 = true := by decide +kernel
theorem zm_ok131 : zmeta 131 = true := by decide +kernel
theorem zm_ok132 : zmeta 132 = true := by decide +kernel
theorem zm_ok133 : zmeta 133 = true := by decide +kernel
theorem zm_ok134 : zmeta 134 = true := by decide +kernel
theorem zm_ok135 : zmeta 135 = true := by decide +kernel
theorem zm_ok136 : zmeta 136 = true := by decide +kernel
theorem zm_ok137 : zmeta 137 = true := by decide +kernel
theorem zm_ok138 : zmeta 138 = true := by decide +kernel
theorem zm_ok139 : zmeta 139 = true := by decide +kernel
theorem zm_ok140 : zmeta 140 = true := by decide +kernel
theorem zm_ok141 : zmeta 141 = true := by decide +kernel
theorem zm_ok142 : zmeta 142 = true := by decide +kernel
theorem zm_ok143 : zmeta 143 = true := by decide +kernel
theorem zm_ok144 : zmeta 144 = true := by decide +kernel
theorem zm_ok145 : zmeta 145 = true := by decide +kernel
theorem zm_ok146 : zmeta 146 = true := by decide +kernel
theorem zm_ok147 : zmeta 147 = true := by decide +kernel
theorem zm_ok148 : zmeta 148 = true := by decide +kernel
theorem zm_ok149 : zmeta 149 = true := by decide +kernel
theorem zm_ok150 : zmeta 150 = true := by decide +kernel
theorem zm_ok151 : zmeta 151 = true := by decide +kernel
theorem zm_ok152 : zmeta 152 = true := by decide +kernel
theorem zm_ok153 : zmeta 153 = true := by decide +kernel
theorem zm_ok154 : zmeta 154 = true := by decide +kernel
theorem zm_ok155 : zmeta 155 = true := by decide +kernel
theorem zm_ok156 : zmeta 156 = true := by decide +kernel
theorem zm_ok157 : zmeta 157 = true := by decide +kernel
theorem zm_ok158 : zmeta 158 = true := by decide +kernel
theorem zm_ok159 : zmeta 159 = true := by decide +kernel
theorem zm_ok160 : zmeta 160 = true := by decide +kernel
theorem zm_ok161 : zmeta 161 = true := by decide +kernel
theorem zm_ok162 : zmeta 162 = true := by decide +kernel
theorem zm_ok163 : zmeta 163 = true := by decide +kernel
theorem zm_ok164 : zmeta 164 = true := by decide +kernel
theorem zm_ok165 : zmeta 165 = true := by decide +kernel
theorem zm_ok166 : zmeta 166 = true := by decide +kernel
theorem zm_ok167 : zmeta 167 = true := by decide +kernel
theorem zm_ok168 : zmeta 168 = true := by decide +kernel
theorem zm_ok169 : zmeta 169 = true := by decide +kernel
theorem zm_ok170 : zmeta 170 = true := by decide +kernel
theorem zm_ok171 : zmeta 171 = true := by decide +kernel
theorem zm_ok172 : zmeta 172 = true := by decide +kernel
theorem zm_ok173 : zmeta 173 = true := by decide +kernel
theorem zm_ok174 : zmeta 174 = true := by decide +kernel
theorem zm_ok175 : zmeta 175 = true := by decide +kernel
theorem zm_ok176 : zmeta 176 = true := by decide +kernel
theorem zm_ok177 : zmeta 177 = true := by decide +kernel
theorem zm_ok178 : zmeta 178 = true := by decide +kernel
theorem zm_ok179 : zmeta 179 = true := by decide +kernel
theorem zm_ok180 : zmeta 180 = true := by decide +kernel
theorem zm_ok181 : zmeta 181 = true := by decide +kernel
theorem zm_ok182 : zmeta 182 = true := by decide +kernel
theorem zm_ok183 : zmeta 183 = true := by decide +kernel
theorem zm_ok184 : zmeta 184 = true := by decide +kernel
theorem zm_ok185 : zmeta 185 = true := by decide +kernel
theorem zm_ok186 : zmeta 186 = true := by decide +kernel
theorem zm_ok187 : zmeta 187 = true := by decide +kernel
theorem zm_ok188 : zmeta 188 = true := by decide +kernel
theorem zm_ok189 : zmeta 189 = true := by decide +kernel
theorem zm_ok190 : zmeta 190 = true := by decide +kernel
theorem zm_ok191 : zmeta 191 = true := by decide +kernel
theorem zm_ok192 : zmeta 192 = true := by decide +kernel
theorem zm_ok193 : zmeta 193 = true := by decide +kernel
theorem zm_ok194 : zmeta 194 = true := by decide +kernel
theorem zm_ok195 : zmeta 195 = true := by decide +kernel
theorem zm_ok196 : zmeta 196 = true := by decide +kernel
theorem zm_ok197 : zmeta 197 = true := by decide +kernel
theorem zm_ok198 : zmeta 198 = true := by decide +kernel
theorem zm_ok199 : zmeta 199 = true := by decide +kernel
theorem zm_ok200 : zmeta 200 = true := by decide +kernel
theorem zm_ok201 : zmeta 201 = true := by decide +kernel
theorem zm_ok202 : zmeta 202 = true := by decide +kernel
theorem zm_ok203 : zmeta 203 = true := by decide +kernel
theorem zm_ok204 : zmeta 204 = true := by decide +kernel
theorem zm_ok205 : zmeta 205 = true := by decide +kernel
theorem zm_ok206 : zmeta 206 = true := by decide +kernel
theorem zm_ok207 : zmeta 207 = true := by decide +kernel
theorem zm_ok208 : zmeta 208 = true := by decide +kernel
theorem zm_ok209 : zmeta 209 = true := by decide +kernel
theorem zm_ok210 : zmeta 210 = true := by decide +kernel
theorem zm_ok211 : zmeta 211 = true := by decide +kernel
theorem zm_ok212 : zmeta 212 = true := by decide +kernel
theorem zm_ok213 : zmeta 213 = true := by decide +kernel
theorem zm_ok214 : zmeta 214 = true := by decide +kernel
theorem zm_ok215 : zmeta 215 = true := by decide +kernel
theorem zm_ok216 : zmeta 216 = true := by decide +kernel
theorem zm_ok217 : zmeta 217 = true := by decide +kernel
theorem zm_ok218 : zmeta 218 = true := by decide +kernel
theorem zm_ok219 : zmeta 219 = true := by decide +kernel
theorem zm_ok220 : zmeta 220 = true := by decide +kernel
theorem zm_ok221 : zmeta 221 = true := by decide +kernel
theorem zm_ok222 : zmeta 222 = true := by decide +kernel
theorem zm_ok223 : zmeta 223 = true := by decide +kernel
theorem zm_ok224 : zmeta 224 = true := by decide +kernel
theorem zm_ok225 : zmeta 225 = true := by decide +kernel
theorem zm_ok226 : zmeta 226 = true := by decide +kernel
theorem zm_ok227 : zmeta 227 = true := by decide +kernel
theorem zm_ok228 : zmeta 228 = true := by decide +kernel
theorem zm_ok229 : zmeta 229 = true := by decide +kernel
theorem zm_ok230 : zmeta 230 = true := by decide +kernel
theorem zm_ok231 : zmeta 231 = true := by decide +kernel
theorem zm_ok232 : zmeta 232 = true := by decide +kernel
theorem zm_ok233 : zmeta 233 = true := by decide +kernel
theorem zm_ok234 : zmeta 234 = true := by decide +kernel
theorem zm_ok235 : zmeta 235 = true := by decide +kernel
theorem zm_ok236 : zmeta 236 = true := by decide +kernel
theorem zm_ok237 : zmeta 237 = true := by decide +kernel
theorem zm_ok238 : zmeta 238 = true := by decide +kernel
theorem zm_ok239 : zmeta 239 = true := by decide +kernel
theorem zm_ok240 : zmeta 240 = true := by decide +kernel
theorem zm_ok241 : zmeta 241 = true := by decide +kernel
theorem zm_ok242 : zmeta 242 = true := by decide +kernel
theorem zm_ok243 : zmeta 243 = true := by decide +kernel
theorem zm_ok244 : zmeta 244 = true := by decide +kernel
theorem zm_ok245 : zmeta 245 = true := by decide +kernel
theorem zm_ok246 : zmeta 246 = true := by decide +kernel
theorem zm_ok247 : zmeta 247 = true := by decide +kernel
theorem zm_ok248 : zmeta 248 = true := by decide +kernel
theorem zm_ok249 : zmeta 249 = true := by decide +kernel
theorem zm_ok250 : zmeta 250 = true := by decide +kernel
theorem zm_ok251 : zmeta 251 = true := by decide +kernel
theorem zm_ok252 : zmeta 252 = true := by decide +kernel
theorem zm_ok253 : zmeta 253 = true := by decide +kernel
theorem zm_ok254 : zmeta 254 = true := by decide +kernel
theorem zm_ok255 : zmeta 255 = true := by decide +kernel
theorem zm_ok256 : zmeta 256 = true := by decide +kernel
theorem zm_ok257 : zmeta 257 = true := by decide +kernel
theorem zm_ok258 : zmeta 258 = true := by decide +kernel
theorem zm_ok259 : zmeta 259 = true := by decide +kernel
theorem zm_ok260 : zmeta 260 = true := by decide +kernel
theorem zm_ok261 : zmeta 261 = true := by decide +kernel
theorem zm_ok262 : zmeta 262 = true := by decide +kernel
theorem zm_ok263 : zmeta 263 = true := by decide +kernel
theorem zm_ok264 : zmeta 264 = true := by decide +kernel
theorem zm_ok265 : zmeta 265 = true := by decide +kernel
theorem zm_ok266 : zmeta 266 = true := by decide +kernel
theorem zm_ok267 : zmeta 267 = true := by decide +kernel
theorem zm_ok268 : zmeta 268 = true := by decide +kernel
theorem zm_ok269 : zmeta 269 = true := by decide +kernel
theorem zm_ok270 : zmeta 270 = true := by decide +kernel
theorem zm_ok271 : zmeta 271 = true := by decide +kernel
theorem zm_ok272 : zmeta 272 = true := by decide +kernel
theorem zm_ok273 : zmeta 273 = true := by decide +kernel
theorem zm_ok274 : zmeta 274 = true := by decide +kernel
theorem zm_ok275 : zmeta 275 = true := by decide +kernel
theorem zm_ok276 : zmeta 276 = true := by decide +kernel
theorem zm_ok277 : zmeta 277 = true := by decide +kernel
theorem zm_ok278 : zmeta 278 = true := by decide +kernel
theorem zm_ok279 : zmeta 279 = true := by decide +kernel
theorem zm_ok280 : zmeta 280 = true := by decide +kernel
theorem zm_ok281 : zmeta 281 = true := by decide +kernel
theorem zm_ok282 : zmeta 282 = true := by decide +kernel
theorem zm_ok283 : zmeta 283 = true := by decide +kernel
theorem zm_ok284 : zmeta 284 = true := by decide +kernel
theorem zm_ok285 : zmeta 285 = true := by decide +kernel
theorem zm_ok286 : zmeta 286 = true := by decide +kernel
theorem zm_ok287 : zmeta 287 = true := by decide +kernel
theorem zm_ok288 : zmeta 288 = true := by decide +kernel
theorem zm_ok289 : zmeta 289 = true := by decide +kernel
end
section
theorem zkl_0 : zcode zk0_0 0 0 = true := by decide +kernel
theorem zkl_3 : zcode zk0_3 0 270 = true := by decide +kernel
theorem zkl_6 : zcode zk0_6 0 540 = true := by decide +kernel
theorem zkl_9 : zcode zk0_9 0 810 = true := by decide +kernel
theorem zkl_12 : zcode zk0_12 0 1080 = true := by decide +kernel
theorem zkl_15 : zcode zk0_15 0 1350 = true := by decide +kernel
theorem zkl_18 : zcode zk0_18 0 1620 = true := by decide +kernel
theorem zkl_21 : zcode zk0_21 0 1890 = true := by decide +kernel
theorem zkl_24 : zcode zk0_24 0 2160 = true := by decide +kernel
end
section
theorem zkl_1 : zcode zk0_1 0 90 = true := by decide +kernel
theorem zkl_4 : zcode zk0_4 0 360 = true := by decide +kernel
theorem zkl_7 : zcode zk0_7 0 630 = true := by decide +kernel
theorem zkl_10 : zcode zk0_10 0 900 = true := by decide +kernel
theorem zkl_13 : zcode zk0_13 0 1170 = true := by decide +kernel
theorem zkl_16 : zcode zk0_16 0 1440 = true := by decide +kernel
theorem zkl_19 : zcode zk0_19 0 1710 = true := by decide +kernel
theorem zkl_22 : zcode zk0_22 0 1980 = true := by decide +kernel
theorem zkl_25 : zcode zk0_25 0 2250 = true := by decide +kernel
end
section
theorem zkl_2 : zcode zk0_2 0 180 = true := by decide +kernel
theorem zkl_5 : zcode zk0_5 0 450 = true := by decide +kernel
theorem zkl_8 : zcode zk0_8 0 720 = true := by decide +kernel
theorem zkl_11 : zcode zk0_11 0 990 = true := by decide +kernel
theorem zkl_14 : zcode zk0_14 0 1260 = true := by decide +kernel
theorem zkl_17 : zcode zk0_17 0 1530 = true := by decide +kernel
theorem zkl_20 : zcode zk0_20 0 1800 = true := by decide +kernel
theorem zkl_23 : zcode zk0_23 0 2070 = true := by decide +kernel
end
section
/-! a run of the small machine is a run of the machine: calls, returns, the whole -/
def zMono (f : zSem) : Prop := ∀ (i : zC) (pc : Nat) (ls st : List zV) (S : zHp) (q : zNx), f i pc ls st S = some q → S.2.1.length ≤ q.2.2.2.2.1.length ∧ zslots S ≤ zslots q.2.2.2 ∧ q.2.2.2.1 = S.1
theorem zmono_rf (S : zHp) (H : Int → Int → Int) : S.2.1.length ≤ S.2.1.length ∧ zslots S ≤ zslots (S.1, S.2.1, H) ∧ S.1 = S.1 := ⟨Nat.le_refl _, Nat.le_refl _, rfl⟩
theorem zmono_push (S : zHp) (k n : Nat) (H : Int → Int → Int) : S.2.1.length ≤ (S.2.1 ++ [(k, n)]).length ∧ zslots S ≤ zslots (S.1, S.2.1 ++ [(k, n)], H) ∧ S.1 = S.1 := ⟨by simp, by rw [zslots_push]; omega, rfl⟩
theorem zmono_all : ∀ f ∈ zsems, zMono f := by
  intro f hf
  simp only [zsems, List.mem_cons, List.not_mem_nil, or_false] at hf
  rcases hf with rfl | rfl | rfl | rfl | rfl | rfl | rfl | rfl | rfl | rfl | rfl | rfl | rfl | rfl | rfl | rfl | rfl | rfl | rfl | rfl | rfl | rfl | rfl | rfl | rfl | rfl | rfl | rfl | rfl | rfl | rfl | rfl | rfl | rfl | rfl | rfl | rfl | rfl | rfl | rfl <;> intro i pc ls st S q h <;> obtain ⟨op, len, a, b, k, ex⟩ := i
  · cases h
  · cases h; exact zmono_rf S _
  · cases h; exact zmono_rf S _
  · simp only [zs_iload] at h; split at h <;> cases h; exact zmono_rf S _
  · simp only [zs_lload] at h; split at h <;> cases h; exact zmono_rf S _
  · simp only [zs_aload] at h
    split at h
    · split at h <;> cases h; exact zmono_rf S _
    · cases h; exact zmono_rf S _
    · cases h
  · simp only [zs_istore] at h
    split at h
    · split at h <;> cases h; exact zmono_rf S _
    · cases h
  · simp only [zs_lstore] at h
    split at h
    · split at h <;> cases h; exact zmono_rf S _
    · cases h
  · simp only [zs_astore] at h
    split at h
    · split at h
      · cases h
      · split at h <;> cases h; exact zmono_rf S _
    · cases h
  · simp only [zs_iinc] at h; split at h <;> cases h; exact zmono_rf S _
  · simp only [zs_iar] at h
    split at h
    · simp only [Option.map_eq_some_iff] at h; obtain ⟨r, -, h⟩ := h; cases h; exact zmono_rf S _
    · cases h
  · simp only [zs_lar] at h
    split at h
    · simp only [Option.map_eq_some_iff] at h; obtain ⟨r, -, h⟩ := h; cases h; exact zmono_rf S _
    · cases h
  · simp only [zs_lsh] at h; split at h <;> cases h; exact zmono_rf S _
  · simp only [zs_un] at h
    split at h
    · cases h; exact zmono_rf S _
    · cases h; exact zmono_rf S _
    · cases h; exact zmono_rf S _
    · cases h; exact zmono_rf S _
    · split at h <;> cases h; exact zmono_rf S _
    · cases h
  · simp only [zs_lcmp] at h; split at h <;> cases h; exact zmono_rf S _
  · simp only [zs_if] at h; split at h <;> cases h; exact zmono_rf S _
  · simp only [zs_icmp] at h; split at h <;> cases h; exact zmono_rf S _
  · cases h; exact zmono_rf S _
  · simp only [zs_get] at h
    split at h
    · split at h
      · split at h <;> cases h; exact zmono_rf S _
      · cases h
    · cases h
  · simp only [zs_put] at h
    split at h
    · split at h
      · split at h <;> cases h; exact zmono_rf S _
      · cases h
    · cases h
  · simp only [zs_alen] at h
    split at h
    · split at h
      · split at h <;> cases h; exact zmono_rf S _
      · cases h
    · cases h
  · simp only [zs_ald] at h
    split at h
    · split at h
      · split at h <;> cases h; exact zmono_rf S _
      · cases h
    · cases h
  · simp only [zs_xast] at h
    split at h
    · simp only [zs_iast] at h
      split at h
      · split at h
        · split at h <;> cases h; exact zmono_rf S _
        · cases h
      · cases h
    · simp only [zs_last] at h
      split at h
      · split at h
        · split at h <;> cases h; exact zmono_rf S _
        · cases h
      · cases h
    · simp only [zs_bast] at h
      split at h
      · split at h
        · split at h
          · cases h; exact zmono_rf S _
          · split at h <;> cases h; exact zmono_rf S _
        · cases h
      · cases h
    · simp only [zs_aast] at h
      split at h
      · split at h
        · split at h <;> cases h; exact zmono_rf S _
        · cases h
      · cases h
    · cases h
  · simp only [zs_dup] at h
    split at h
    · split at h <;> cases h; exact zmono_rf S _
    · cases h
  · simp only [zs_dup2] at h
    split at h
    · split at h
      · cases h; exact zmono_rf S _
      · split at h
        · split at h <;> cases h; exact zmono_rf S _
        · cases h
    · cases h
  · simp only [zs_newa] at h
    split at h
    · split at h <;> cases h; exact zmono_push S _ _ _
    · cases h
  · simp only [zs_newq] at h
    split at h
    · split at h <;> cases h; exact zmono_push S _ _ _
    · cases h
  · simp only [zs_new] at h
    split at h <;> cases h; exact zmono_push S _ _ _
  · cases h
  · cases h
  · simp only [zs_table] at h
    split at h
    · split at h <;> cases h <;> exact zmono_rf S _
    · cases h
  · simp only [zs_stat] at h; split at h <;> cases h <;> exact zmono_rf S _
  · simp only [zs_ldcs] at h; split at h <;> cases h; exact zmono_rf S _
  · simp only [zs_pop] at h
    split at h
    · split at h <;> cases h; exact zmono_rf S _
    · cases h
  · simp only [zs_obj] at h
    split at h
    · split at h <;> cases h; exact zmono_rf S _
    · cases h
  · simp only [zs_sget] at h
    split at h
    · split at h <;> cases h; exact zmono_rf S _
    · cases h
  · simp only [zs_look] at h; split at h <;> cases h; exact zmono_rf S _
  · simp only [zs_math] at h
    split at h
    · split at h <;> cases h; exact zmono_rf S _
    · split at h <;> cases h; exact zmono_rf S _
    · split at h <;> cases h; exact zmono_rf S _
    · cases h
  · simp only [zs_math] at h
    split at h
    · split at h <;> cases h; exact zmono_rf S _
    · split at h <;> cases h; exact zmono_rf S _
    · split at h <;> cases h; exact zmono_rf S _
    · cases h
  · simp only [zs_math] at h
    split at h
    · split at h <;> cases h; exact zmono_rf S _
    · split at h <;> cases h; exact zmono_rf S _
    · split at h <;> cases h; exact zmono_rf S _
    · cases h
theorem zstep_mono : zMono zstep := by
  intro i pc ls st S q h
  unfold zstep at h
  by_cases hl : i.1 < zsems.length
  · rw [List.getD_eq_getElem?_getD, List.getElem?_eq_getElem hl] at h
    exact zmono_all _ (List.getElem_mem hl) i pc ls st S q h
  · rw [List.getD_eq_getElem?_getD, List.getElem?_eq_none (by omega)] at h
    cases h
theorem ex_mono : ∀ (n d y pc : Nat) (ls st : List zV) (S : zHp) (r : zV) (S' : zHp), ex n d y pc ls st S = some (r, S') → S.2.1.length ≤ S'.2.1.length ∧ zslots S ≤ zslots S' := by
  intro n
  induction n with
  | zero => intro d y pc ls st S r S' h; cases h
  | succ n ih =>
    intro d y pc ls st S r S' h
    rw [ex] at h
    split at h
    · cases h
    · split at h
      · simp only [Option.map_eq_some_iff] at h
        obtain ⟨q, -, h⟩ := h
        cases h
        exact ⟨Nat.le_refl _, Nat.le_refl _⟩
      · split at h
        · split at h
          · cases h
          · split at h
            · cases h
            · split at h
              · cases h
              · rename_i h1
                have a := ih _ _ _ _ _ _ _ _ h1
                have b := ih _ _ _ _ _ _ _ _ h
                exact ⟨Nat.le_trans a.1 b.1, Nat.le_trans a.2 b.2⟩
        · split at h
          · cases h
          · rename_i h1
            have a := zstep_mono _ _ _ _ _ _ h1
            have b := ih _ _ _ _ _ _ _ _ h
            exact ⟨Nat.le_trans a.1 b.1, Nat.le_trans a.2.1 b.2⟩
-- contracts
def zPc (G : zG) (as : List zV) (S : zHp) : Array Value → State → Prop := fun v U => v = (as.map (zcv G)).toArray ∧ zFix G U ∧ zRel G S U.heap
def zrv (G : zG) (r : zV) : Option Value := if r.1 = 3 then none else some (zcv G r)
def zQc (G : zG) (r : zV) (S' : zHp) : Array Value → State → Outcome → State → Prop := fun _ st o t => (o = .returned (zrv G r) ∧ zwf r) ∧ zRel G S' t.heap ∧ va_F (zA G) st t
def zrm (d : Nat) (S S' : zHp) : Room := { frames := d + 1, cells := S'.2.1.length - S.2.1.length, slots := zslots S' - zslots S, locals := 24 + 40 * d }
def zwords (y : Nat) : List Cond := Cond.code (zmn y) (zby y) (zml y) (zrt y) :: zTs
def zMet (G : zG) (l : Launch) (d y : Nat) (as : List zV) (S : zHp) (r : zV) (S' : zHp) : Prop :=
  Met l (zmn y) (zwords y) (zrm d S S') (zPc G as S) (zQc G r S') (S'.2.1.length - S.2.1.length) (zslots S' - zslots S) (zA G)
theorem zPc_blind (G : zG) (as : List zV) (S : zHp) : FrameBlind (zPc G as S) := fun a U g mk q => ⟨q.1, q.2.1.same rfl rfl, q.2.2⟩
theorem z_good {l : List Cond} (h : ∀ w ∈ l, w ∈ zTs) : GoodIn zTs l := fun w hw => ⟨h w hw, good_of_word (List.mem_filter.mp (h w hw)).2⟩
section ZW
variable {p : Program} {l : Launch} {e : Env} {R : Room} {s : State} {m : MethodId} {args : Array Value} {below : List Frame} {meth : Method} {c : Code} {H : Heap} {locs : List Loc} {cells slots : Nat} {Q : State → Prop}
theorem z_back {G : zG} {r : zV} {S1 : zHp} {mc ms pc : Nat} {lm : Array Slot} {st0 rest : List Value} {a : Array Value} (hr : va_Run p l e R s m args below meth c H locs cells slots mc ms (F0 m pc lm st0) rest (zQc G r S1 a) (zA G)) (hS : va_S (zA G) s.heap H locs)
    (kk : ∀ (H1 : Heap) (locs1 : List Loc), zwf r → zRel G S1 H1 → va_S (zA G) s.heap H1 locs1 → W p l e R s m args below meth c H1 locs1 (cells + mc) (slots + ms) Q (F0 m (pc + 3) lm ((zrv G r).toList ++ rest))) : W p l e R s m args below meth c H locs cells slots Q (F0 m pc lm st0) := by
  intro T hT X
  obtain ⟨v, st₀, t, T', L, h0, X', hL, e1, e2, ⟨⟨hv, hwr⟩, hrel, hz, hk⟩, st⟩ := hr T hT X
  cases hv
  rw [h0] at hz hk
  obtain ⟨t2, a1, b1⟩ := kk T'.heap (locs ++ L) hwr (by rw [e1]; exact hrel)
    ⟨Nat.le_trans hS.1 (by rw [e1]; exact hz), fun q h1 h2 => by rw [e1, hk q (Nat.lt_of_lt_of_le h1 hS.1) h2]; exact hS.2.1 q h1 h2, fun q hq => by
      rcases List.mem_append.mp hq with h | h
      · exact hS.2.2 q h
      · exact hL q h⟩ T' rfl X'
  exact ⟨t2, st t2 a1, b1⟩
end ZW
/-- a method of ours: its code is the table's, its words are there -/
def zOK (y : Nat) : Prop := zcode (zprog.getD y []) y 0 = true ∧ zmeta y = true
theorem zcode_at : ∀ (l : List (Option zC)) (y p0 k : Nat) (i : zC), zcode l y p0 = true → l.getD k none = some i → zone y (p0 + k) i = true
  | [], y, p0, k, i, h, hk => by simp at hk
  | none :: r, y, p0, 0, i, h, hk => by simp at hk
  | none :: r, y, p0, k + 1, i, h, hk => by
    have := zcode_at r y (p0 + 1) k i h (by simpa using hk)
    rwa [show p0 + (k + 1) = p0 + 1 + k by omega]
  | some j :: r, y, p0, 0, i, h, hk => by
    simp at hk
    subst hk
    simp only [zcode, Bool.and_eq_true] at h
    exact h.1
  | some j :: r, y, p0, k + 1, i, h, hk => by
    simp only [zcode, Bool.and_eq_true] at h
    have := zcode_at r y (p0 + 1) k i h.2 (by simpa using hk)
    rwa [show p0 + (k + 1) = p0 + 1 + k by omega]
theorem zfetch_ok {y pc : Nat} {i : zC} (h : zcode (zprog.getD y []) y 0 = true) (hf : zfetch y pc = some i) : zone y pc i = true := by
  have := zcode_at _ y 0 pc i h hf
  rwa [Nat.zero_add] at this
/-- where a method returns -/
def zRet (G : zG) (y : Nat) (p : Program) (l : Launch) (e : Env) (R : Room) (s : State) (m : MethodId) (args : Array Value) (below : List Frame) (meth : Method) (c : Code) (n0 m0 : Nat) (Q : State → Prop) (r : zV) (S' : zHp) : Prop :=
  ∀ (pc a : Nat) (ls st : List zV) (lm : Array Slot) (H : Heap) (locs : List Loc), zret_ok y a = true → decode (zby y) pc = .ok (zret_i a, 1) → zret a st = some r → zAt G y s lm H locs ls st S' →
    W p l e R s m args below meth c H locs (S'.2.1.length - n0) (zslots S' - m0) Q (F0 m pc lm (st.map (zcv G)))
theorem zargs_wf {as : List zV} (h : ∀ v ∈ as, zwf v) : ∀ v ∈ zargs as, zwf v := by
  induction as with
  | nil => intro v hv; cases hv
  | cons a t ih =>
    intro v hv
    have iht := ih (fun w hw => h w (List.mem_cons_of_mem _ hw))
    rw [zargs] at hv
    split at hv
    · rcases List.mem_cons.mp hv with q | q
      · rw [q]; exact h a List.mem_cons_self
      · rcases List.mem_cons.mp q with q | q
        · rw [q]; exact zwfJ
        · exact iht v q
    · rcases List.mem_cons.mp hv with q | q
      · rw [q]; exact h a List.mem_cons_self
      · exact iht v q
theorem zargs_len (G : zG) (hg : gf G = .null ∨ ∃ t, gf G = .ref t) : ∀ (as : List zV), (lg_sl (as.map (zcv G))).length = (zargs as).length
  | [] => rfl
  | a :: t => by
    have ih := zargs_len G hg t
    rw [List.map_cons, lg_sl, List.flatMap_cons, List.length_append, zargs, zcv_cat G a hg]
    unfold zcat
    by_cases h : a.1 = 1
    · rw [if_pos h, if_pos h, if_pos rfl]
      show 2 + (lg_sl (t.map (zcv G))).length = _
      rw [ih]; simp; omega
    · rw [if_neg h, if_neg h, if_neg (by decide)]
      show 1 + (lg_sl (t.map (zcv G))).length = _
      rw [ih]; simp; omega
theorem zloc_app (G : zG) : ∀ (a b : List zV) (i : Nat), zloc G i (a ++ b) = zloc G i a ++ zloc G (i + a.length) b
  | [], b, i => by simp [zloc]
  | v :: a, b, i => by
    have ih := zloc_app G a b (i + 1)
    rw [List.cons_append, zloc, zloc, ih, List.length_cons, show i + 1 + a.length = i + (a.length + 1) by omega]
    split <;> rfl
theorem zloc_junk (G : zG) : ∀ (k i : Nat), zloc G i (List.replicate k zJ) = []
  | 0, i => rfl
  | k + 1, i => by rw [List.replicate_succ, zloc, if_pos rfl]; exact zloc_junk G k (i + 1)
theorem zloc_args (G : zG) (hg : gf G = .null ∨ ∃ t, gf G = .ref t) : ∀ (as : List zV) (i : Nat), (∀ v ∈ as, v.1 ≠ 3) → zloc G i (zargs as) = lv_args i (as.map (zcv G))
  | [], i, _ => rfl
  | a :: t, i, h => by
    have h3 := h a List.mem_cons_self
    have ih := fun j => zloc_args G hg t j (fun v hv => h v (List.mem_cons_of_mem _ hv))
    rw [zargs, List.map_cons, lv_args, zcv_cat G a hg]
    unfold zcat
    by_cases h1 : a.1 = 1
    · rw [if_pos h1, if_pos h1, if_pos rfl, zloc, if_neg h3, zloc, if_pos rfl, ih]
    · rw [if_neg h1, if_neg h1, if_neg (by decide), zloc, if_neg h3, ih]
theorem zin2_all : (List.range 290).all (fun t => decide (zin t 2 < 7 ∨ zin t 2 = 90 ∨ zin t 2 = 99)) = true := by decide +kernel
theorem zin2_ok (t : Nat) (h : t < zMs.length) : zin t 2 < 7 ∨ zin t 2 = 90 ∨ zin t 2 = 99 := by
  have hl : zMs.length = 290 := by decide +kernel
  simpa using List.all_eq_true.mp zin2_all t (List.mem_range.mpr (by omega))
theorem zno2_all : (List.range 290).all (fun y => (zprog.getD y []).all fun o => match o with
  | some i => !(i.1 == 101 && i.2.2.1 == 2)
  | none => true) = true := by decide +kernel
theorem zno2 {y pc : Nat} {i : zC} (h : zfetch y pc = some i) (h1 : i.1 = 101) : i.2.2.1 ≠ 2 := by
  intro h2
  unfold zfetch at h
  by_cases hy : y < 290
  · have h3 := List.all_eq_true.mp zno2_all y (List.mem_range.mpr hy)
    rw [List.getD_eq_getElem?_getD (l := zprog.getD y [])] at h
    cases he : (zprog.getD y [])[pc]? with
    | none => rw [he] at h; cases h
    | some o =>
      rw [he] at h
      have ho : o = some i := h
      have h4 := List.all_eq_true.mp h3 o (List.mem_of_getElem? he)
      rw [ho] at h4
      simp [h1, h2] at h4
  · have hl : zprog.length = 290 := by decide +kernel
    rw [List.getD_eq_getElem?_getD (l := zprog), List.getElem?_eq_none (by omega)] at h
    simp at h
theorem zRet_met {G : zG} {y : Nat} {p : Program} {l : Launch} {e : Env} {R : Room} {s : State} {m : MethodId} {args : Array Value} {below : List Frame} {meth : Method} {c : Code} (n0 m0 : Nat) {r : zV} {S' : zHp} (cx : zCtx G y p s m args meth c) (hr : meth.sig.returnType = zrt y) (hlocks : meth.locks = false) :
    zRet G y p l e R s m args below meth c n0 m0 (MQ below (zQc G r S') args s (S'.2.1.length - n0) (zslots S' - m0) (zA G)) r S' := by
  intro pc a ls st lm H locs hok hd hz hat
  obtain ⟨hx, hb, hml, hown, hts, hfix, hnm⟩ := cx
  have hwr : zwf r := by
    have hw := hat.2.2.2.2.2
    unfold zret at hz
    split at hz
    · cases hz; exact zwfJ
    · cases hz; exact zwf_hd hw
    · cases hz; exact zwf_hd hw
    · split at hz <;> cases hz; exact zwf_hd hw
    · split at hz <;> cases hz; exact zwf_hd hw
    · split at hz <;> cases hz; exact zwf_hd hw
    · split at hz <;> cases hz; exact zwf_hd hw
    · cases hz
  have hq : ∀ (o : Option Value), zrv G r = o → ∀ t : State, t.heap = H → s.WarmedH t.vm → zQc G r S' args s (.returned o) t := fun o ho t ht hW => ⟨⟨by rw [ho], hwr⟩, by rw [ht]; exact hat.1, hat.2.1.F ht⟩
  have hf := hat.2.1.2.2
  unfold zret at hz
  split at hz
  · cases hz
    have h1 : zrt y = none := by simpa [zret_ok] using hok
    exact W.vret hx hb (hr.trans h1) (hq none rfl) hf hd hlocks
  · cases hz
    have h1 : zrt y = some .int := by simpa [zret_ok] using hok
    exact W.zret hx hb (hr.trans h1) rfl (hq _ rfl) hf hd hlocks
  · cases hz
    have h1 : zrt y = some .long := by simpa [zret_ok] using hok
    exact W.lret hx hb (hr.trans h1) (hq _ rfl) hf hd hlocks
  · rename_i x
    split at hz
    · cases hz
    · rename_i h0
      cases hz
      have h1 : ∃ n, zrt y = some (.object n) := by
        have hok' : (match zrt y with
          | some (.object _) => true
          | _ => false) = true := hok
        split at hok'
        · rename_i n h; exact ⟨n, h⟩
        · cases hok'
      obtain ⟨n, h1⟩ := h1
      rw [List.map_cons, List.map_nil, zcv_ref h0]
      exact W.aret hx hb (hr.trans h1) (Or.inl ⟨n, rfl⟩) (Or.inr ⟨_, rfl⟩) (hq _ (by show some (zcv G (zR x)) = _; rw [zcv_ref h0])) hf hd hlocks
  · rename_i x
    split at hz
    · rename_i h0
      cases hz
      have h1 : zrt y = some .boolean := by simpa [zret_ok] using hok
      refine W.zret hx hb (hr.trans h1) ?_ (hq _ rfl) hf hd hlocks
      simp only [zbool, Bool.or_eq_true, decide_eq_true_eq] at h0
      rcases h0 with rfl | rfl <;> rfl
    · cases hz
  · rename_i x
    split at hz
    · rename_i h0
      cases hz
      have h1 : zrt y = some .char := by simpa [zret_ok] using hok
      refine W.zret hx hb (hr.trans h1) ?_ (hq _ rfl) hf hd hlocks
      show Value.int _ = _
      congr 1
      exact z_i2c h0
    · cases hz
  · rename_i x
    split at hz
    · rename_i h0
      cases hz
      have h1 : zrt y = some .byte := by simpa [zret_ok] using hok
      refine W.zret hx hb (hr.trans h1) ?_ (hq _ rfl) hf hd hlocks
      show Value.int _ = _
      congr 1
      apply Int32.toInt_inj.mp
      rw [Int8.toInt_toInt32, Int32.toInt_toInt8, z32 ⟨by omega, by omega⟩]
      exact Int.bmod_eq_of_le (by omega) (by omega)
    · cases hz
  · cases hz
theorem zF_kind {L : Nat} {a : Int} {k n : Nat} (h : zF L a = some (k, n)) : k = 100 ∨ k = 90 ∨ k = 91 := by
  unfold zF at h
  split at h
  · cases h; omega
  · split at h
    · cases h; omega
    · split at h
      · cases h; omega
      · split at h <;> cases h; omega
theorem zF_str {L : Nat} {a : Int} {n : Nat} (h : zF L a = some (90, n)) : a ≠ 0 ∧ a ≠ 1 ∧ a < 10 := by
  unfold zF at h
  split at h
  · cases h
  · split at h
    · cases h
    · split at h
      · exact ⟨by assumption, by assumption, by assumption⟩
      · split at h <;> cases h
theorem zrev_map {α β : Type} (f : α → β) (l : List α) : (l.reverse.map f) = (l.map f).reverse := by rw [List.map_reverse]
theorem ex_walk (hall : ∀ t, 0 < t → t < zMs.length → t ≠ 2 → zOK t) (G : zG) : ∀ (n d y pc : Nat) (ls st : List zV) (S : zHp) (r : zV) (S' : zHp), zcode (zprog.getD y []) y 0 = true → ex n d y pc ls st S = some (r, S') →
    ∀ {p : Program} {l : Launch} {e : Env} {R : Room} {s : State} {m : MethodId} {args : Array Value} {below : List Frame} {meth : Method} {c : Code} {H : Heap} {locs : List Loc} {Q : State → Prop} {lm : Array Slot} (n0 m0 nF mF : Nat),
    zCtx G y p s m args meth c → R.cells = nF - n0 → R.slots = mF - m0 → d + 1 ≤ R.frames → 24 + 40 * d ≤ R.locals → zAt G y s lm H locs ls st S → n0 ≤ S.2.1.length → m0 ≤ zslots S → S'.2.1.length ≤ nF → zslots S' ≤ mF →
    zRet G y p l e R s m args below meth c n0 m0 Q r S' →
    W p l e R s m args below meth c H locs (S.2.1.length - n0) (zslots S - m0) Q (F0 m pc lm (st.map (zcv G))) := by
  intro n
  induction n with
  | zero => intro d y pc ls st S r S' hok h; cases h
  | succ n ih =>
    intro d y pc ls st S r S' hok h p l e R s m args below meth c H locs Q lm n0 m0 nF mF cx hRc hRs hRf hRl hat hn0 hm0 hnF hmF hret
    rw [ex] at h
    split at h
    · cases h
    · rename_i i hf
      have hz := zfetch_ok hok hf
      unfold zone at hz
      split at h
      · rename_i h100
        rw [if_pos h100] at hz
        simp only [Bool.and_eq_true] at hz
        simp only [Option.map_eq_some_iff] at h
        obtain ⟨q, h1, h2⟩ := h
        cases h2
        exact hret pc _ ls st lm H locs hz.1 (zdc_eq hz.2) h1 hat
      · rename_i h100
        rw [if_neg h100] at hz
        split at h
        · rename_i h101
          rw [if_pos h101] at hz
          split at h
          · cases h
          · rename_i d'
            split at h
            · cases h
            · rename_i as st1 hcall
              split at h
              · cases h
              · rename_i r1 S1 hex
                dsimp only at hz
                simp only [Bool.and_eq_true, beq_iff_eq, decide_eq_true_eq] at hz
                obtain ⟨⟨⟨⟨hlen, hnp⟩, htl⟩, ht0⟩, hk⟩ := hz
                have hn2 := zno2 hf h101
                generalize htt : i.2.2.1 = t at *
                obtain ⟨hokt, hmt⟩ := hall t ht0 htl hn2
                have mono1 := ex_mono _ _ _ _ _ _ _ _ _ hex
                have mono2 := ex_mono _ _ _ _ _ _ _ _ _ h
                have hg := cx.2.2.2.2.2.1.2.2.2.2.2.2.2.1
                -- the call's arguments
                unfold zcall at hcall
                dsimp only at hcall
                rw [htt] at hcall
                split at hcall
                · rename_i hif
                  obtain ⟨hal, hsum, hargl, hrecv, hrefok⟩ := hif
                  cases hcall
                  generalize hnn : i.2.2.2.2.1.toNat = nn at *
                  have hst : st = (st.take nn) ++ st.drop nn := (List.take_append_drop nn st).symm
                  have hwst := hat.2.2.2.2.2
                  have hwas : ∀ v ∈ (st.take nn).reverse, zwf v := fun v hv => hwst v (List.mem_of_mem_take (List.mem_reverse.mp hv))
                  have hwrest : ∀ v ∈ st.drop nn, zwf v := fun v hv => hwst v (List.mem_of_mem_drop hv)
                  have hjunk : ∀ v ∈ (st.take nn).reverse, v.1 ≠ 3 := by
                    intro v hv
                    have := List.all_eq_true.mp hrefok v hv
                    simp only [zrefok, Bool.and_eq_true, Bool.not_eq_true', beq_eq_false_iff_ne, ne_eq, decide_eq_true_eq] at this
                    exact this.2
                  generalize has : (st.take nn).reverse = as at *
                  have htake : st.take nn = as.reverse := by rw [← has, List.reverse_reverse]
                  -- the callee's contract
                  have hmm := hmt
                  unfold zmeta at hmm
                  simp only [Bool.and_eq_true, decide_eq_true_eq] at hmm
                  obtain ⟨⟨⟨⟨⟨⟨⟨mcode, minit⟩, mplain⟩, mh1⟩, mh2⟩, mpar⟩, mml⟩, mkind⟩ := hmm
                  have hM : zMet G l d' t as S r1 S1 := by
                    refine Met.ofW (cc := zby t) (maxL := zml t) (ret := zrt t) mplain rfl ?_
                    intro p2 e2 s2 m2 args2 below2 meth2 c2 s₁ B hml2 hv
                    obtain ⟨rfl, hfix2, hrel2⟩ := hv
                    have hts2 : ∀ w ∈ zwords t, w.before (as.map (zcv G)).toArray s2 = true := atoms_spec (ws := zwords t) B.pre
                    have hnm2 : meth2.name = (zmn t).name := (name_of_methodNamed B.named B.method).1
                    have cx2 : zCtx G t p2 s2 m2 (as.map (zcv G)).toArray meth2 c2 := ⟨B.exec, B.bytes, hml2, findClass_of_methodNamed B.named, fun w hw => hts2 w (List.mem_cons_of_mem _ hw), hfix2, fun q => by rw [hnm2]; exact q⟩
                    have hle : (lg_sl (as.map (zcv G))).length ≤ zml t := by rw [zargs_len G hg]; exact hargl
                    have hl := lv_entry (as.map (zcv G)) hle
                    rw [lg_entry_eq]
                    generalize (lg_sl (as.map (zcv G)) ++ List.replicate (zml t - (lg_sl (as.map (zcv G))).length) Slot.unset).toArray = lm2 at hl ⊢
                    have hat2 : zAt G t s2 lm2 s2.heap [] (zentry t as) [] S := by
                      refine ⟨hrel2, va_S.rf, lv_mono hl ?_, ?_, ?_, fun v hv => by cases hv⟩
                      · intro q hq
                        unfold zentry at hq
                        rw [zloc_app, zloc_junk, List.append_nil, zloc_args G hg as 0 hjunk] at hq
                        exact hq
                      · unfold zentry; simp; omega
                      · intro v hv
                        unfold zentry at hv
                        rcases List.mem_append.mp hv with q | q
                        · exact zargs_wf hwas v q
                        · rw [List.eq_of_mem_replicate q]; exact zwfJ
                    have K := ih d' t 0 (zentry t as) [] S r1 S1 hokt hex (p := p2) (l := l) (e := e2) (R := zrm d' S S1) (s := s2) (m := m2) (args := (as.map (zcv G)).toArray) (below := below2) (meth := meth2) (c := c2) (H := s2.heap) (locs := []) (lm := lm2)
                      (Q := MQ below2 (zQc G r1 S1) (as.map (zcv G)).toArray s2 (S1.2.1.length - S.2.1.length) (zslots S1 - zslots S) (zA G)) S.2.1.length (zslots S) S1.2.1.length (zslots S1) cx2 rfl rfl (Nat.le_refl _) (Nat.le_refl _) hat2 (Nat.le_refl _) (Nat.le_refl _) (Nat.le_refl _) (Nat.le_refl _) (zRet_met _ _ cx2 B.returns B.notSynchronized)
                    rw [Nat.sub_self, Nat.sub_self] at K
                    exact K
                  -- behind the call
                  have hsumv : (((st.drop nn).map (zcv G)).map fun v => v.category).sum ≤ 8 := by rw [zsum_cat G hg]; exact hsum
                  have hmapst : st.map (zcv G) = (as.map (zcv G)).reverse ++ (st.drop nn).map (zcv G) := by
                    conv => lhs; rw [hst, htake]
                    rw [List.map_append, List.map_reverse]
                  have KK : ∀ (H1 : Heap) (locs1 : List Loc), zwf r1 → zRel G S1 H1 → va_S (zA G) s.heap H1 locs1 → W p l e R s m args below meth c H1 locs1 (S.2.1.length - n0 + (S1.2.1.length - S.2.1.length)) (zslots S - m0 + (zslots S1 - zslots S)) Q (F0 m (pc + 3) lm ((zrv G r1).toList ++ (st.drop nn).map (zcv G))) := by
                    intro H1 locs1 hr1 hrel1 hS1
                    rw [show S.2.1.length - n0 + (S1.2.1.length - S.2.1.length) = S1.2.1.length - n0 by omega, show zslots S - m0 + (zslots S1 - zslots S) = zslots S1 - m0 by omega]
                    have K := ih (d' + 1) y (pc + i.2.1) ls (if r1.1 = 3 then st.drop nn else r1 :: st.drop nn) S1 r S' hok h (p := p) (l := l) (e := e) (R := R) (s := s) (m := m) (args := args) (below := below) (meth := meth) (c := c) (H := H1) (locs := locs1) (lm := lm) (Q := Q) n0 m0 nF mF cx hRc hRs hRf hRl
                      ⟨hrel1, hS1, hat.2.2.1, hat.2.2.2.1, hat.2.2.2.2.1, by split; exact hwrest; exact zwf_cons hr1 hwrest⟩ (by omega) (by omega) hnF hmF hret
                    rw [hlen] at K
                    unfold zrv
                    split at K
                    · rename_i h3; rw [if_pos h3]; exact K
                    · rename_i h3; rw [if_neg h3]; exact K
                  have hroom : (zrm d' S S1).frames + 1 ≤ R.frames ∧ 8 + (zml t + 11) + (zrm d' S S1).locals ≤ R.locals := by
                    constructor
                    · show d' + 1 + 1 ≤ R.frames; omega
                    · show 8 + (zml t + 11) + (24 + 40 * d') ≤ R.locals; omega
                  have hcap : S.2.1.length - n0 + (S1.2.1.length - S.2.1.length) ≤ R.cells ∧ zslots S - m0 + (zslots S1 - zslots S) ≤ R.slots := by
                    constructor <;> omega
                  obtain ⟨hx, hb, hml, hown, hts, hfix, hnm⟩ := id cx
                  have S0 : CallFix p m c (zby y) (zml y) s args zTs (zmn y).cls := ⟨hx, hb, hml, hown, hts⟩
                  have hPc : ∀ U : State, U.heap = H → s.WarmedH U.vm → zPc G as S (as.map (zcv G)).toArray U := fun U hU hW => ⟨rfl, hfix.to hW (by rw [hU]; exact hat.2.1.1) (fun a h1 h2 => by rw [hU]; exact hat.2.1.2.1 a h1 h2), by rw [hU]; exact hat.1⟩
                  have hdesc : (zmn t).cls ≠ "java/lang/invoke/MethodHandle" ∧ (zmn t).cls ≠ "java/lang/invoke/VarHandle" ∧ (parseMethodDescriptor (zmn t).desc).map (fun d => d.parameters.length) = some (zin t 0) := ⟨mh1, mh2, mpar⟩
                  have hszl : lm.size = zml y := hat.2.2.1.1
                  rw [hmapst]
                  have hlas : as.length = nn := hal
                  have hrcv : ∀ kd : Nat, ¬ kd % 4 = 1 → zrecv S kd t as = true → ∃ (av : Int) (as' : List zV) (n1 : Nat), as = (2, av) :: as' ∧ zsh S av = some (zin t 2, n1) ∧ 0 ≤ av := by
                    intro kd hkd hr
                    unfold zrecv at hr
                    rw [if_neg hkd] at hr
                    split at hr
                    · rename_i av as'
                      split at hr
                      · rename_i c1 n1 hsh
                        have e : c1 = zin t 2 := by simpa using hr
                        refine ⟨av, as', n1, rfl, by rw [← e]; exact hsh, ?_⟩
                        rcases Int.lt_or_le av 0 with q | q
                        · unfold zsh at hsh
                          rw [if_pos q] at hsh
                          cases hsh
                        · exact q
                      · cases hr
                    · cases hr
                  split at hk
                  · rename_i hkd
                    rw [hkd] at hrecv hnp
                    simp only [Bool.and_eq_true, beq_iff_eq, decide_eq_true_eq] at hk
                    obtain ⟨⟨⟨hd, hlk⟩, hz1⟩, hni⟩ := hk
                    rw [if_neg (by rw [hz1]; decide)] at mkind
                    simp only [Bool.and_eq_true, Bool.or_eq_true, decide_eq_true_eq] at mkind
                    obtain ⟨minst, msel⟩ := mkind
                    obtain ⟨msel, mcl⟩ := msel.resolve_left hni
                    obtain ⟨av, as', n1, rfl, hsh, hav⟩ := hrcv 0 (by decide) hrecv
                    have hcell : ∃ cellB : Cell, H[zad G av]? = some cellB ∧ cellB.vm.isStatics = false ∧ s.vm.findClass (zmn t).cls = some cellB.cls := by
                      rcases zin2_ok t htl with h7 | h90 | h99
                      · have h32 : 32 ≤ av := by
                          rcases Int.lt_or_le av 32 with q | q
                          · obtain ⟨-, hF⟩ := zsh_for hsh q
                            have := zF_kind hF
                            omega
                          · exact q
                        obtain ⟨g1, g2, g3⟩ := zsh_own (G := G) h32 hsh
                        have hget := zws_get (G := G) g1
                        rw [zcell_obj h7, ← g2, ← g3] at hget
                        obtain ⟨C, T, N, ty, hCl⟩ := zCl_all h7
                        have hC : C = (zmn t).cls := by
                          rw [← mcl]
                          unfold zclname
                          rw [if_pos h7]
                          unfold zCn
                          rw [List.getD_eq_getElem?_getD, hCl.1]; rfl
                        rw [← hC]
                        exact va_recv hfix.1 hat.1.2.1 hCl.1 hget
                      · rw [h90] at hsh
                        have hS8 : 2 ≤ av ∧ av < 10 := by
                          rcases Int.lt_or_le av 32 with q | q
                          · obtain ⟨-, hF⟩ := zsh_for hsh q
                            have := zF_str hF
                            have := (zsh_for hsh q).1
                            omega
                          · obtain ⟨g1, g2, g3⟩ := zsh_own (G := G) q hsh
                            have := (hat.1.2.2.2.2.2.2 _ _ _ g1).2.1
                            omega
                        have hz2 : zad G av = gK G (av - 2).toNat := by
                          rw [zad_for (by omega), if_neg (by omega), if_neg (by omega), if_pos (by omega)]
                        rw [hz2, ← mcl]
                        unfold zclname
                        rw [if_neg (by rw [h90]; decide)]
                        exact vk_recv hfix.2.2.2.2.2.2.2.2.1 (by omega) hat.2.1
                      · rw [h99] at hsh
                        rcases Int.lt_or_le av 32 with q | q
                        · obtain ⟨-, hF⟩ := zsh_for hsh q
                          have := zF_kind hF
                          omega
                        · obtain ⟨g1, g2, g3⟩ := zsh_own (G := G) q hsh
                          have := (hat.1.2.2.2.2.2.2 _ _ _ g1).2.1
                          omega
                    have hzr : zcv G (2, av) = .ref (zad G av) := zcv_ref (by omega)
                    have hPc2 : ∀ U : State, U.heap = H → s.WarmedH U.vm → zPc G ((2, av) :: as') S (Value.ref (zad G av) :: as'.map (zcv G)).toArray U := by
                      intro U h1 h2
                      have := hPc U h1 h2
                      rwa [List.map_cons, hzr] at this
                    refine z_back (va_runV (As := as'.map (zcv G)) (rest := (st.drop nn).map (zcv G)) (C := (zmn t).cls) S0 hM (cwV (zin t 0) hts (z_good ?_) rfl rfl rfl ⟨rfl, hdesc⟩ hroom) ⟨zPc_blind _ _ _, hcell, hPc2⟩ rfl ?_ hszl ?_ (lv_room hsumv) (zdc_eq hd) hcap) hat.2.1 KK
                    · intro w hw
                      simp only [wsV, List.mem_append, List.mem_cons, List.not_mem_nil, or_false, zwords] at hw
                      rcases hw with (rfl | rfl | rfl | rfl) | rfl | hw
                      · exact zw_in hlk
                      · exact zw_in minst
                      · exact zw_in msel
                      · exact zw_in minit
                      · exact zw_in mcode
                      · exact hw
                    · rw [List.length_map]
                      rw [List.length_cons] at hlas
                      rw [if_neg (by decide)] at hnp
                      omega
                    · rw [List.map_cons, hzr, List.reverse_cons, List.append_assoc]; rfl
                  · rename_i hkd
                    rw [hkd] at hrecv hnp
                    simp only [Bool.and_eq_true, beq_iff_eq] at hk
                    obtain ⟨⟨hd, hlk⟩, hz1⟩ := hk
                    rw [if_pos hz1] at mkind
                    refine z_back (va_runS (As := as.map (zcv G)) (rest := (st.drop nn).map (zcv G)) S0 hM (va_cwS (zin t 0) hts (z_good ?_) rfl rfl rfl hdesc hroom) ⟨zPc_blind _ _ _, hPc⟩ rfl ?_ hszl rfl (lv_room hsumv) (zdc_eq hd) hcap) hat.2.1 KK
                    · intro w hw
                      simp only [va_wsS, List.mem_append, List.mem_cons, List.not_mem_nil, or_false, zwords] at hw
                      rcases hw with (rfl | rfl | rfl) | rfl | hw
                      · exact zw_in hlk
                      · exact zw_in mkind
                      · exact zw_in minit
                      · exact zw_in mcode
                      · exact hw
                    · rw [List.length_map]
                      rw [if_pos (by decide)] at hnp
                      omega
                  · rename_i hkd
                    rw [hkd] at hrecv hnp
                    simp only [Bool.and_eq_true, beq_iff_eq, decide_eq_true_eq] at hk
                    obtain ⟨⟨⟨⟨hd, hlk⟩, hz1⟩, hni⟩, hrt⟩ := hk
                    rw [if_neg (by rw [hz1]; decide)] at mkind
                    simp only [Bool.and_eq_true] at mkind
                    obtain ⟨av, as', n1, rfl, hsh, hav⟩ := hrcv 2 (by decide) hrecv
                    have hzr : zcv G (2, av) = .ref (zad G av) := zcv_ref (by omega)
                    have hPc2 : ∀ U : State, U.heap = H → s.WarmedH U.vm → zPc G ((2, av) :: as') S (Value.ref (zad G av) :: as'.map (zcv G)).toArray U := by
                      intro U h1 h2
                      have := hPc U h1 h2
                      rwa [List.map_cons, hzr] at this
                    have hwe : zwords t = Cond.code (zmn t) (zby t) (zml t) none :: zTs := by unfold zwords; rw [hrt]
                    refine z_back (va_runI (As := as'.map (zcv G)) (rest := (st.drop nn).map (zcv G)) S0 hM (cwI (zin t 0) hts (z_good ?_) hwe rfl rfl (hts _ (zw_in minit)) (hts _ (zw_in hlk)) (hts _ (zw_in mkind.1)) hni hdesc hroom) ⟨zPc_blind _ _ _, hPc2⟩ rfl ?_ hszl ?_ (lv_room hsumv) (zdc_eq hd) hcap) hat.2.1 KK
                    · intro w hw
                      rcases List.mem_cons.mp hw with rfl | hw
                      · exact zw_in mcode
                      · exact hw
                    · rw [List.length_map]
                      rw [List.length_cons] at hlas
                      rw [if_neg (by decide)] at hnp
                      omega
                    · rw [List.map_cons, hzr, List.reverse_cons, List.append_assoc]; rfl
                  · rename_i hkd
                    rw [hkd] at hrecv hnp
                    simp only [Bool.and_eq_true, beq_iff_eq, decide_eq_true_eq] at hk
                    obtain ⟨⟨⟨⟨hd, hlk⟩, hz1⟩, hni⟩, hrt⟩ := hk
                    rw [if_neg (by rw [hz1]; decide)] at mkind
                    simp only [Bool.and_eq_true] at mkind
                    obtain ⟨av, as', n1, rfl, hsh, hav⟩ := hrcv 6 (by decide) hrecv
                    have hzr : zcv G (2, av) = .ref (zad G av) := zcv_ref (by omega)
                    have hPc2 : ∀ U : State, U.heap = H → s.WarmedH U.vm → zPc G ((2, av) :: as') S (Value.ref (zad G av) :: as'.map (zcv G)).toArray U := by
                      intro U h1 h2
                      have := hPc U h1 h2
                      rwa [List.map_cons, hzr] at this
                    have hwe : zwords t = Cond.code (zmn t) (zby t) (zml t) none :: zTs := by unfold zwords; rw [hrt]
                    refine z_back (va_runIN (As := as'.map (zcv G)) (rest := (st.drop nn).map (zcv G)) S0 hM ⟨va_cnB (zin t 0) hts (z_good ?_) hwe rfl rfl (hfix.2.2.2.2.2.2.2.2.2.2.1 _ hlk) (hts _ (zw_in minit)) hdesc hroom, hni, hts _ (zw_in mkind.1)⟩ ⟨zPc_blind _ _ _, hPc2⟩ rfl ?_ hszl ?_ (lv_room hsumv) (zdc_eq hd) hcap) hat.2.1 KK
                    · intro w hw
                      rcases List.mem_cons.mp hw with rfl | hw
                      · exact zw_in mcode
                      · exact hw
                    · rw [List.length_map]
                      rw [List.length_cons] at hlas
                      rw [if_neg (by decide)] at hnp
                      omega
                    · rw [List.map_cons, hzr, List.reverse_cons, List.append_assoc]; rfl
                  · cases hk
                · cases hcall
        · rename_i h101
          rw [if_neg h101] at hz
          split at h
          · cases h
          · rename_i pc' ls' st' S2 hstep
            have mono := ex_mono _ _ _ _ _ _ _ _ _ h
            have m2 := zstep_mono _ _ _ _ _ _ hstep
            refine zp_step G y n0 m0 nF mF cx hRc hRs (by omega) (by omega) i pc ls st S lm pc' ls' st' S2 hz hstep hat hn0 hm0 (Nat.le_trans mono.1 hnF) (Nat.le_trans mono.2 hmF) (fun H' locs' lm' hat' => ?_)
            have m21 : S.2.1.length ≤ S2.2.1.length := m2.1
            have m22 : zslots S ≤ zslots S2 := m2.2.1
            exact ih d y pc' ls' st' S2 r S' hok h n0 m0 nF mF cx hRc hRs hRf hRl hat' (by omega) (by omega) hnF hmF hret
end
section
/-! the whole claim out of a run of the small machine -/
theorem za_0 : ∀ a, a < 0 → (a + 1 ≠ 2 → zOK (a + 1)) := fun a h => absurd h (Nat.not_lt_zero a)
theorem za_17 : ∀ a, a < 17 → (a + 1 ≠ 2 → zOK (a + 1)) := (lt_s (lt_s (lt_s (lt_s (lt_s (lt_s (lt_s (lt_s (lt_s (lt_s (lt_s (lt_s (lt_s (lt_s (lt_s (lt_s (lt_s za_0 (fun _ => ⟨zk_ok1, zm_ok1⟩)) (fun h => absurd rfl h)) (fun _ => ⟨zk_ok3, zm_ok3⟩)) (fun _ => ⟨zk_ok4, zm_ok4⟩)) (fun _ => ⟨zk_ok5, zm_ok5⟩)) (fun _ => ⟨zk_ok6, zm_ok6⟩)) (fun _ => ⟨zk_ok7, zm_ok7⟩)) (fun _ => ⟨zk_ok8, zm_ok8⟩)) (fun _ => ⟨zk_ok9, zm_ok9⟩)) (fun _ => ⟨zk_ok10, zm_ok10⟩)) (fun _ => ⟨zk_ok11, zm_ok11⟩)) (fun _ => ⟨zk_ok12, zm_ok12⟩)) (fun _ => ⟨zk_ok13, zm_ok13⟩)) (fun _ => ⟨zk_ok14, zm_ok14⟩)) (fun _ => ⟨zk_ok15, zm_ok15⟩)) (fun _ => ⟨zk_ok16, zm_ok16⟩)) (fun _ => ⟨zk_ok17, zm_ok17⟩))
theorem za_34 : ∀ a, a < 34 → (a + 1 ≠ 2 → zOK (a + 1)) := (lt_s (lt_s (lt_s (lt_s (lt_s (lt_s (lt_s (lt_s (lt_s (lt_s (lt_s (lt_s (lt_s (lt_s (lt_s (lt_s (lt_s za_17 (fun _ => ⟨zk_ok18, zm_ok18⟩)) (fun _ => ⟨zk_ok19, zm_ok19⟩)) (fun _ => ⟨zk_ok20, zm_ok20⟩)) (fun _ => ⟨zk_ok21, zm_ok21⟩)) (fun _ => ⟨zk_ok22, zm_ok22⟩)) (fun _ => ⟨zk_ok23, zm_ok23⟩)) (fun _ => ⟨zk_ok24, zm_ok24⟩)) (fun _ => ⟨zk_ok25, zm_ok25⟩)) (fun _ => ⟨zk_ok26, zm_ok26⟩)) (fun _ => ⟨zk_ok27, zm_ok27⟩)) (fun _ => ⟨zk_ok28, zm_ok28⟩)) (fun _ => ⟨zk_ok29, zm_ok29⟩)) (fun _ => ⟨zk_ok30, zm_ok30⟩)) (fun _ => ⟨zk_ok31, zm_ok31⟩)) (fun _ => ⟨zk_ok32, zm_ok32⟩)) (fun _ => ⟨zk_ok33, zm_ok33⟩)) (fun _ => ⟨zk_ok34, zm_ok34⟩))
theorem za_51 : ∀ a, a < 51 → (a + 1 ≠ 2 → zOK (a + 1)) := (lt_s (lt_s (lt_s (lt_s (lt_s (lt_s (lt_s (lt_s (lt_s (lt_s (lt_s (lt_s (lt_s (lt_s (lt_s (lt_s (lt_s za_34 (fun _ => ⟨zk_ok35, zm_ok35⟩)) (fun _ => ⟨zk_ok36, zm_ok36⟩)) (fun _ => ⟨zk_ok37, zm_ok37⟩)) (fun _ => ⟨zk_ok38, zm_ok38⟩)) (fun _ => ⟨zk_ok39, zm_ok39⟩)) (fun _ => ⟨zk_ok40, zm_ok40⟩)) (fun _ => ⟨zk_ok41, zm_ok41⟩)) (fun _ => ⟨zk_ok42, zm_ok42⟩)) (fun _ => ⟨zk_ok43, zm_ok43⟩)) (fun _ => ⟨zk_ok44, zm_ok44⟩)) (fun _ => ⟨zk_ok45, zm_ok45⟩)) (fun _ => ⟨zk_ok46, zm_ok46⟩)) (fun _ => ⟨zk_ok47, zm_ok47⟩)) (fun _ => ⟨zk_ok48, zm_ok48⟩)) (fun _ => ⟨zk_ok49, zm_ok49⟩)) (fun _ => ⟨zk_ok50, zm_ok50⟩)) (fun _ => ⟨zk_ok51, zm_ok51⟩))
theorem za_68 : ∀ a, a < 68 → (a + 1 ≠ 2 → zOK (a + 1)) := (lt_s (lt_s (lt_s (lt_s (lt_s (lt_s (lt_s (lt_s (lt_s (lt_s (lt_s (lt_s (lt_s (lt_s (lt_s (lt_s (lt_s za_51 (fun _ => ⟨zk_ok52, zm_ok52⟩)) (fun _ => ⟨zk_ok53, zm_ok53⟩)) (fun _ => ⟨zk_ok54, zm_ok54⟩)) (fun _ => ⟨zk_ok55, zm_ok55⟩)) (fun _ => ⟨zk_ok56, zm_ok56⟩)) (fun _ => ⟨zk_ok57, zm_ok57⟩)) (fun _ => ⟨zk_ok58, zm_ok58⟩)) (fun _ => ⟨zk_ok59, zm_ok59⟩)) (fun _ => ⟨zk_ok60, zm_ok60⟩)) (fun _ => ⟨zk_ok61, zm_ok61⟩)) (fun _ => ⟨zk_ok62, zm_ok62⟩)) (fun _ => ⟨zk_ok63, zm_ok63⟩)) (fun _ => ⟨zk_ok64, zm_ok64⟩)) (fun _ => ⟨zk_ok65, zm_ok65⟩)) (fun _ => ⟨zk_ok66, zm_ok66⟩)) (fun _ => ⟨zk_ok67, zm_ok67⟩)) (fun _ => ⟨zk_ok68, zm_ok68⟩))
theorem za_85 : ∀ a, a < 85 → (a + 1 ≠ 2 → zOK (a + 1)) := (lt_s (lt_s (lt_s (lt_s (lt_s (lt_s (lt_s (lt_s (lt_s (lt_s (lt_s (lt_s (lt_s (lt_s (lt_s (lt_s (lt_s za_68 (fun _ => ⟨zk_ok69, zm_ok69⟩)) (fun _ => ⟨zk_ok70, zm_ok70⟩)) (fun _ => ⟨zk_ok71, zm_ok71⟩)) (fun _ => ⟨zk_ok72, zm_ok72⟩)) (fun _ => ⟨zk_ok73, zm_ok73⟩)) (fun _ => ⟨zk_ok74, zm_ok74⟩)) (fun _ => ⟨zk_ok75, zm_ok75⟩)) (fun _ => ⟨zk_ok76, zm_ok76⟩)) (fun _ => ⟨zk_ok77, zm_ok77⟩)) (fun _ => ⟨zk_ok78, zm_ok78⟩)) (fun _ => ⟨zk_ok79, zm_ok79⟩)) (fun _ => ⟨zk_ok80, zm_ok80⟩)) (fun _ => ⟨zk_ok81, zm_ok81⟩)) (fun _ => ⟨zk_ok82, zm_ok82⟩)) (fun _ => ⟨zk_ok83, zm_ok83⟩)) (fun _ => ⟨zk_ok84, zm_ok84⟩)) (fun _ => ⟨zk_ok85, zm_ok85⟩))
theorem za_102 : ∀ a, a < 102 → (a + 1 ≠ 2 → zOK (a + 1)) := (lt_s (lt_s (lt_s (lt_s (lt_s (lt_s (lt_s (lt_s (lt_s (lt_s (lt_s (lt_s (lt_s (lt_s (lt_s (lt_s (lt_s za_85 (fun _ => ⟨zk_ok86, zm_ok86⟩)) (fun _ => ⟨zk_ok87, zm_ok87⟩)) (fun _ => ⟨zk_ok88, zm_ok88⟩)) (fun _ => ⟨zk_ok89, zm_ok89⟩)) (fun _ => ⟨zk_ok90, zm_ok90⟩)) (fun _ => ⟨zk_ok91, zm_ok91⟩)) (fun _ => ⟨zk_ok92, zm_ok92⟩)) (fun _ => ⟨zk_ok93, zm_ok93⟩)) (fun _ => ⟨zk_ok94, zm_ok94⟩)) (fun _ => ⟨zk_ok95, zm_ok95⟩)) (fun _ => ⟨zk_ok96, zm_ok96⟩)) (fun _ => ⟨zk_ok97, zm_ok97⟩)) (fun _ => ⟨zk_ok98, zm_ok98⟩)) (fun _ => ⟨zk_ok99, zm_ok99⟩)) (fun _ => ⟨zk_ok100, zm_ok100⟩)) (fun _ => ⟨zk_ok101, zm_ok101⟩)) (fun _ => ⟨zk_ok102, zm_ok102⟩))
theorem za_119 : ∀ a, a < 119 → (a + 1 ≠ 2 → zOK (a + 1)) := (lt_s (lt_s (lt_s (lt_s (lt_s (lt_s (lt_s (lt_s (lt_s (lt_s (lt_s (lt_s (lt_s (lt_s (lt_s (lt_s (lt_s za_102 (fun _ => ⟨zk_ok103, zm_ok103⟩)) (fun _ => ⟨zk_ok104, zm_ok104⟩)) (fun _ => ⟨zk_ok105, zm_ok105⟩)) (fun _ => ⟨zk_ok106, zm_ok106⟩)) (fun _ => ⟨zk_ok107, zm_ok107⟩)) (fun _ => ⟨zk_ok108, zm_ok108⟩)) (fun _ => ⟨zk_ok109, zm_ok109⟩)) (fun _ => ⟨zk_ok110, zm_ok110⟩)) (fun _ => ⟨zk_ok111, zm_ok111⟩)) (fun _ => ⟨zk_ok112, zm_ok112⟩)) (fun _ => ⟨zk_ok113, zm_ok113⟩)) (fun _ => ⟨zk_ok114, zm_ok114⟩)) (fun _ => ⟨zk_ok115, zm_ok115⟩)) (fun _ => ⟨zk_ok116, zm_ok116⟩)) (fun _ => ⟨zk_ok117, zm_ok117⟩)) (fun _ => ⟨zk_ok118, zm_ok118⟩)) (fun _ => ⟨zk_ok119, zm_ok119⟩))
theorem za_136 : ∀ a, a < 136 → (a + 1 ≠ 2 → zOK (a + 1)) := (lt_s (lt_s (lt_s (lt_s (lt_s (lt_s (lt_s (lt_s (lt_s (lt_s (lt_s (lt_s (lt_s (lt_s (lt_s (lt_s (lt_s za_119 (fun _ => ⟨zk_ok120, zm_ok120⟩)) (fun _ => ⟨zk_ok121, zm_ok121⟩)) (fun _ => ⟨zk_ok122, zm_ok122⟩)) (fun _ => ⟨zk_ok123, zm_ok123⟩)) (fun _ => ⟨zk_ok124, zm_ok124⟩)) (fun _ => ⟨zk_ok125, zm_ok125⟩)) (fun _ => ⟨zk_ok126, zm_ok126⟩)) (fun _ => ⟨zk_ok127, zm_ok127⟩)) (fun _ => ⟨zk_ok128, zm_ok128⟩)) (fun _ => ⟨zk_ok129, zm_ok129⟩)) (fun _ => ⟨zk_ok130, zm_ok130⟩)) (fun _ => ⟨zk_ok131, zm_ok131⟩)) (fun _ => ⟨zk_ok132, zm_ok132⟩)) (fun _ => ⟨zk_ok133, zm_ok133⟩)) (fun _ => ⟨zk_ok134, zm_ok134⟩)) (fun _ => ⟨zk_ok135, zm_ok135⟩)) (fun _ => ⟨zk_ok136, zm_ok136⟩))
theorem za_153 : ∀ a, a < 153 → (a + 1 ≠ 2 → zOK (a + 1)) := (lt_s (lt_s (lt_s (lt_s (lt_s (lt_s (lt_s (lt_s (lt_s (lt_s (lt_s (lt_s (lt_s (lt_s (lt_s (lt_s (lt_s za_136 (fun _ => ⟨zk_ok137, zm_ok137⟩)) (fun _ => ⟨zk_ok138, zm_ok138⟩)) (fun _ => ⟨zk_ok139, zm_ok139⟩)) (fun _ => ⟨zk_ok140, zm_ok140⟩)) (fun _ => ⟨zk_ok141, zm_ok141⟩)) (fun _ => ⟨zk_ok142, zm_ok142⟩)) (fun _ => ⟨zk_ok143, zm_ok143⟩)) (fun _ => ⟨zk_ok144, zm_ok144⟩)) (fun _ => ⟨zk_ok145, zm_ok145⟩)) (fun _ => ⟨zk_ok146, zm_ok146⟩)) (fun _ => ⟨zk_ok147, zm_ok147⟩)) (fun _ => ⟨zk_ok148, zm_ok148⟩)) (fun _ => ⟨zk_ok149, zm_ok149⟩)) (fun _ => ⟨zk_ok150, zm_ok150⟩)) (fun _ => ⟨zk_ok151, zm_ok151⟩)) (fun _ => ⟨zk_ok152, zm_ok152⟩)) (fun _ => ⟨zk_ok153, zm_ok153⟩))
theorem za_170 : ∀ a, a < 170 → (a + 1 ≠ 2 → zOK (a + 1)) := (lt_s (lt_s (lt_s (lt_s (lt_s (lt_s (lt_s (lt_s (lt_s (lt_s (lt_s (lt_s (lt_s (lt_s (lt_s (lt_s (lt_s za_153 (fun _ => ⟨zk_ok154, zm_ok154⟩)) (fun _ => ⟨zk_ok155, zm_ok155⟩)) (fun _ => ⟨zk_ok156, zm_ok156⟩)) (fun _ => ⟨zk_ok157, zm_ok157⟩)) (fun _ => ⟨zk_ok158, zm_ok158⟩)) (fun _ => ⟨zk_ok159, zm_ok159⟩)) (fun _ => ⟨zk_ok160, zm_ok160⟩)) (fun _ => ⟨zk_ok161, zm_ok161⟩)) (fun _ => ⟨zk_ok162, zm_ok162⟩)) (fun _ => ⟨zk_ok163, zm_ok163⟩)) (fun _ => ⟨zk_ok164, zm_ok164⟩)) (fun _ => ⟨zk_ok165, zm_ok165⟩)) (fun _ => ⟨zk_ok166, zm_ok166⟩)) (fun _ => ⟨zk_ok167, zm_ok167⟩)) (fun _ => ⟨zk_ok168, zm_ok168⟩)) (fun _ => ⟨zk_ok169, zm_ok169⟩)) (fun _ => ⟨zk_ok170, zm_ok170⟩))
theorem za_187 : ∀ a, a < 187 → (a + 1 ≠ 2 → zOK (a + 1)) := (lt_s (lt_s (lt_s (lt_s (lt_s (lt_s (lt_s (lt_s (lt_s (lt_s (lt_s (lt_s (lt_s (lt_s (lt_s (lt_s (lt_s za_170 (fun _ => ⟨zk_ok171, zm_ok171⟩)) (fun _ => ⟨zk_ok172, zm_ok172⟩)) (fun _ => ⟨zk_ok173, zm_ok173⟩)) (fun _ => ⟨zk_ok174, zm_ok174⟩)) (fun _ => ⟨zk_ok175, zm_ok175⟩)) (fun _ => ⟨zk_ok176, zm_ok176⟩)) (fun _ => ⟨zk_ok177, zm_ok177⟩)) (fun _ => ⟨zk_ok178, zm_ok178⟩)) (fun _ => ⟨zk_ok179, zm_ok179⟩)) (fun _ => ⟨zk_ok180, zm_ok180⟩)) (fun _ => ⟨zk_ok181, zm_ok181⟩)) (fun _ => ⟨zk_ok182, zm_ok182⟩)) (fun _ => ⟨zk_ok183, zm_ok183⟩)) (fun _ => ⟨zk_ok184, zm_ok184⟩)) (fun _ => ⟨zk_ok185, zm_ok185⟩)) (fun _ => ⟨zk_ok186, zm_ok186⟩)) (fun _ => ⟨zk_ok187, zm_ok187⟩))
theorem za_204 : ∀ a, a < 204 → (a + 1 ≠ 2 → zOK (a + 1)) := (lt_s (lt_s (lt_s (lt_s (lt_s (lt_s (lt_s (lt_s (lt_s (lt_s (lt_s (lt_s (lt_s (lt_s (lt_s (lt_s (lt_s za_187 (fun _ => ⟨zk_ok188, zm_ok188⟩)) (fun _ => ⟨zk_ok189, zm_ok189⟩)) (fun _ => ⟨zk_ok190, zm_ok190⟩)) (fun _ => ⟨zk_ok191, zm_ok191⟩)) (fun _ => ⟨zk_ok192, zm_ok192⟩)) (fun _ => ⟨zk_ok193, zm_ok193⟩)) (fun _ => ⟨zk_ok194, zm_ok194⟩)) (fun _ => ⟨zk_ok195, zm_ok195⟩)) (fun _ => ⟨zk_ok196, zm_ok196⟩)) (fun _ => ⟨zk_ok197, zm_ok197⟩)) (fun _ => ⟨zk_ok198, zm_ok198⟩)) (fun _ => ⟨zk_ok199, zm_ok199⟩)) (fun _ => ⟨zk_ok200, zm_ok200⟩)) (fun _ => ⟨zk_ok201, zm_ok201⟩)) (fun _ => ⟨zk_ok202, zm_ok202⟩)) (fun _ => ⟨zk_ok203, zm_ok203⟩)) (fun _ => ⟨zk_ok204, zm_ok204⟩))
theorem za_221 : ∀ a, a < 221 → (a + 1 ≠ 2 → zOK (a + 1)) := (lt_s (lt_s (lt_s (lt_s (lt_s (lt_s (lt_s (lt_s (lt_s (lt_s (lt_s (lt_s (lt_s (lt_s (lt_s (lt_s (lt_s za_204 (fun _ => ⟨zk_ok205, zm_ok205⟩)) (fun _ => ⟨zk_ok206, zm_ok206⟩)) (fun _ => ⟨zk_ok207, zm_ok207⟩)) (fun _ => ⟨zk_ok208, zm_ok208⟩)) (fun _ => ⟨zk_ok209, zm_ok209⟩)) (fun _ => ⟨zk_ok210, zm_ok210⟩)) (fun _ => ⟨zk_ok211, zm_ok211⟩)) (fun _ => ⟨zk_ok212, zm_ok212⟩)) (fun _ => ⟨zk_ok213, zm_ok213⟩)) (fun _ => ⟨zk_ok214, zm_ok214⟩)) (fun _ => ⟨zk_ok215, zm_ok215⟩)) (fun _ => ⟨zk_ok216, zm_ok216⟩)) (fun _ => ⟨zk_ok217, zm_ok217⟩)) (fun _ => ⟨zk_ok218, zm_ok218⟩)) (fun _ => ⟨zk_ok219, zm_ok219⟩)) (fun _ => ⟨zk_ok220, zm_ok220⟩)) (fun _ => ⟨zk_ok221, zm_ok221⟩))
theorem za_238 : ∀ a, a < 238 → (a + 1 ≠ 2 → zOK (a + 1)) := (lt_s (lt_s (lt_s (lt_s (lt_s (lt_s (lt_s (lt_s (lt_s (lt_s (lt_s (lt_s (lt_s (lt_s (lt_s (lt_s (lt_s za_221 (fun _ => ⟨zk_ok222, zm_ok222⟩)) (fun _ => ⟨zk_ok223, zm_ok223⟩)) (fun _ => ⟨zk_ok224, zm_ok224⟩)) (fun _ => ⟨zk_ok225, zm_ok225⟩)) (fun _ => ⟨zk_ok226, zm_ok226⟩)) (fun _ => ⟨zk_ok227, zm_ok227⟩)) (fun _ => ⟨zk_ok228, zm_ok228⟩)) (fun _ => ⟨zk_ok229, zm_ok229⟩)) (fun _ => ⟨zk_ok230, zm_ok230⟩)) (fun _ => ⟨zk_ok231, zm_ok231⟩)) (fun _ => ⟨zk_ok232, zm_ok232⟩)) (fun _ => ⟨zk_ok233, zm_ok233⟩)) (fun _ => ⟨zk_ok234, zm_ok234⟩)) (fun _ => ⟨zk_ok235, zm_ok235⟩)) (fun _ => ⟨zk_ok236, zm_ok236⟩)) (fun _ => ⟨zk_ok237, zm_ok237⟩)) (fun _ => ⟨zk_ok238, zm_ok238⟩))
theorem za_255 : ∀ a, a < 255 → (a + 1 ≠ 2 → zOK (a + 1)) := (lt_s (lt_s (lt_s (lt_s (lt_s (lt_s (lt_s (lt_s (lt_s (lt_s (lt_s (lt_s (lt_s (lt_s (lt_s (lt_s (lt_s za_238 (fun _ => ⟨zk_ok239, zm_ok239⟩)) (fun _ => ⟨zk_ok240, zm_ok240⟩)) (fun _ => ⟨zk_ok241, zm_ok241⟩)) (fun _ => ⟨zk_ok242, zm_ok242⟩)) (fun _ => ⟨zk_ok243, zm_ok243⟩)) (fun _ => ⟨zk_ok244, zm_ok244⟩)) (fun _ => ⟨zk_ok245, zm_ok245⟩)) (fun _ => ⟨zk_ok246, zm_ok246⟩)) (fun _ => ⟨zk_ok247, zm_ok247⟩)) (fun _ => ⟨zk_ok248, zm_ok248⟩)) (fun _ => ⟨zk_ok249, zm_ok249⟩)) (fun _ => ⟨zk_ok250, zm_ok250⟩)) (fun _ => ⟨zk_ok251, zm_ok251⟩)) (fun _ => ⟨zk_ok252, zm_ok252⟩)) (fun _ => ⟨zk_ok253, zm_ok253⟩)) (fun _ => ⟨zk_ok254, zm_ok254⟩)) (fun _ => ⟨zk_ok255, zm_ok255⟩))
theorem za_272 : ∀ a, a < 272 → (a + 1 ≠ 2 → zOK (a + 1)) := (lt_s (lt_s (lt_s (lt_s (lt_s (lt_s (lt_s (lt_s (lt_s (lt_s (lt_s (lt_s (lt_s (lt_s (lt_s (lt_s (lt_s za_255 (fun _ => ⟨zk_ok256, zm_ok256⟩)) (fun _ => ⟨zk_ok257, zm_ok257⟩)) (fun _ => ⟨zk_ok258, zm_ok258⟩)) (fun _ => ⟨zk_ok259, zm_ok259⟩)) (fun _ => ⟨zk_ok260, zm_ok260⟩)) (fun _ => ⟨zk_ok261, zm_ok261⟩)) (fun _ => ⟨zk_ok262, zm_ok262⟩)) (fun _ => ⟨zk_ok263, zm_ok263⟩)) (fun _ => ⟨zk_ok264, zm_ok264⟩)) (fun _ => ⟨zk_ok265, zm_ok265⟩)) (fun _ => ⟨zk_ok266, zm_ok266⟩)) (fun _ => ⟨zk_ok267, zm_ok267⟩)) (fun _ => ⟨zk_ok268, zm_ok268⟩)) (fun _ => ⟨zk_ok269, zm_ok269⟩)) (fun _ => ⟨zk_ok270, zm_ok270⟩)) (fun _ => ⟨zk_ok271, zm_ok271⟩)) (fun _ => ⟨zk_ok272, zm_ok272⟩))
theorem za_289 : ∀ a, a < 289 → (a + 1 ≠ 2 → zOK (a + 1)) := (lt_s (lt_s (lt_s (lt_s (lt_s (lt_s (lt_s (lt_s (lt_s (lt_s (lt_s (lt_s (lt_s (lt_s (lt_s (lt_s (lt_s za_272 (fun _ => ⟨zk_ok273, zm_ok273⟩)) (fun _ => ⟨zk_ok274, zm_ok274⟩)) (fun _ => ⟨zk_ok275, zm_ok275⟩)) (fun _ => ⟨zk_ok276, zm_ok276⟩)) (fun _ => ⟨zk_ok277, zm_ok277⟩)) (fun _ => ⟨zk_ok278, zm_ok278⟩)) (fun _ => ⟨zk_ok279, zm_ok279⟩)) (fun _ => ⟨zk_ok280, zm_ok280⟩)) (fun _ => ⟨zk_ok281, zm_ok281⟩)) (fun _ => ⟨zk_ok282, zm_ok282⟩)) (fun _ => ⟨zk_ok283, zm_ok283⟩)) (fun _ => ⟨zk_ok284, zm_ok284⟩)) (fun _ => ⟨zk_ok285, zm_ok285⟩)) (fun _ => ⟨zk_ok286, zm_ok286⟩)) (fun _ => ⟨zk_ok287, zm_ok287⟩)) (fun _ => ⟨zk_ok288, zm_ok288⟩)) (fun _ => ⟨zk_ok289, zm_ok289⟩))
theorem z_hall : ∀ t, 0 < t → t < zMs.length → t ≠ 2 → zOK t := by
  intro t h0 h1 h2
  have hl : zMs.length = 290 := by decide +kernel
  obtain ⟨a, rfl⟩ : ∃ a, t = a + 1 := ⟨t - 1, by omega⟩
  exact za_289 a (by omega) h2
theorem zcode_app : ∀ (a b : List (Option zC)) (y p : Nat), zcode a y p = true → zcode b y (p + a.length) = true → zcode (a ++ b) y p = true
  | [], b, y, p, h1, h2 => h2
  | none :: a, b, y, p, h1, h2 => zcode_app a b y (p + 1) h1 (by rw [List.length_cons, Nat.add_comm a.length 1, ← Nat.add_assoc] at h2; exact h2)
  | some i :: a, b, y, p, h1, h2 => by
    simp only [zcode, Bool.and_eq_true] at h1
    simp only [List.cons_append, zcode, Bool.and_eq_true]
    exact ⟨h1.1, zcode_app a b y (p + 1) h1.2 (by rw [List.length_cons, Nat.add_comm a.length 1, ← Nat.add_assoc] at h2; exact h2)⟩
theorem zcode_app2 {a b : List (Option zC)} {y n m k : Nat} (h : zcode a y 0 = true ∧ a.length = n) (hb : zcode b y n = true) (hl : b.length = m) (hk : n + m = k) : zcode (a ++ b) y 0 = true ∧ (a ++ b).length = k :=
  ⟨zcode_app a b y 0 h.1 (by rw [Nat.zero_add, h.2]; exact hb), by rw [List.length_append, h.2, hl, hk]⟩
theorem zk_law : zcode zk0 0 0 = true := by
  have h0 : zcode zk0_0 0 0 = true ∧ zk0_0.length = 90 := ⟨zkl_0, by decide +kernel⟩
  have h1 := zcode_app2 (m := 90) (k := 180) h0 zkl_1 (by decide +kernel) (by decide)
  have h2 := zcode_app2 (m := 90) (k := 270) h1 zkl_2 (by decide +kernel) (by decide)
  have h3 := zcode_app2 (m := 90) (k := 360) h2 zkl_3 (by decide +kernel) (by decide)
  have h4 := zcode_app2 (m := 90) (k := 450) h3 zkl_4 (by decide +kernel) (by decide)
  have h5 := zcode_app2 (m := 90) (k := 540) h4 zkl_5 (by decide +kernel) (by decide)
  have h6 := zcode_app2 (m := 90) (k := 630) h5 zkl_6 (by decide +kernel) (by decide)
  have h7 := zcode_app2 (m := 90) (k := 720) h6 zkl_7 (by decide +kernel) (by decide)
  have h8 := zcode_app2 (m := 90) (k := 810) h7 zkl_8 (by decide +kernel) (by decide)
  have h9 := zcode_app2 (m := 90) (k := 900) h8 zkl_9 (by decide +kernel) (by decide)
  have h10 := zcode_app2 (m := 90) (k := 990) h9 zkl_10 (by decide +kernel) (by decide)
  have h11 := zcode_app2 (m := 90) (k := 1080) h10 zkl_11 (by decide +kernel) (by decide)
  have h12 := zcode_app2 (m := 90) (k := 1170) h11 zkl_12 (by decide +kernel) (by decide)
  have h13 := zcode_app2 (m := 90) (k := 1260) h12 zkl_13 (by decide +kernel) (by decide)
  have h14 := zcode_app2 (m := 90) (k := 1350) h13 zkl_14 (by decide +kernel) (by decide)
  have h15 := zcode_app2 (m := 90) (k := 1440) h14 zkl_15 (by decide +kernel) (by decide)
  have h16 := zcode_app2 (m := 90) (k := 1530) h15 zkl_16 (by decide +kernel) (by decide)
  have h17 := zcode_app2 (m := 90) (k := 1620) h16 zkl_17 (by decide +kernel) (by decide)
  have h18 := zcode_app2 (m := 90) (k := 1710) h17 zkl_18 (by decide +kernel) (by decide)
  have h19 := zcode_app2 (m := 90) (k := 1800) h18 zkl_19 (by decide +kernel) (by decide)
  have h20 := zcode_app2 (m := 90) (k := 1890) h19 zkl_20 (by decide +kernel) (by decide)
  have h21 := zcode_app2 (m := 90) (k := 1980) h20 zkl_21 (by decide +kernel) (by decide)
  have h22 := zcode_app2 (m := 90) (k := 2070) h21 zkl_22 (by decide +kernel) (by decide)
  have h23 := zcode_app2 (m := 90) (k := 2160) h22 zkl_23 (by decide +kernel) (by decide)
  have h24 := zcode_app2 (m := 90) (k := 2250) h23 zkl_24 (by decide +kernel) (by decide)
  have h25 := zcode_app2 (m := 3) (k := 2253) h24 zkl_25 (by decide +kernel) (by decide)
  exact h25.1
/-- the cells that are there at the start -/
def zH0 (xs : Nat → Int32) : Int → Int → Int := fun a j =>
  if a = 0 then (xs j.toNat).toInt else if a = 1 then zsmall.getD j.toNat 0 else if 10 ≤ a ∧ a < 18 then (zstrs.getD (a - 10).toNat []).getD j.toNat 0 else 0
def zRun (L : Nat) (xs : Nat → Int32) : Prop := ∃ (n : Nat) (S' : zHp), ex n 2000 0 0 [zR 0, zJ, zJ, zJ] [] (L, [], zH0 xs) = some (zI 1, S') ∧ S'.2.1.length ≤ 600000 ∧ zslots S' ≤ 7302250
def zGiven : List Cond := flatC (Jvm.Cond.and given_1 narrow_1)
theorem zg_in {args : Array Value} {s : State} (h : (Jvm.Cond.and given_1 narrow_1).before args s = true) (p : Nat) (w : Cond) (hw : zat zGiven p = some w) : w.before args s = true := flat_of_before _ h _ (zat_mem _ _ _ hw)
theorem zg_small : (List.range 168).all (fun j => decide (zat zGiven (12 + j) = some (Cond.eq (.elem (.static "SumWalker$Primes" "SMALL" "[I") (.int (Int32.ofNat j))) (.int (Int32.ofInt (zsmall.getD j 0)))))) = true := by decide +kernel
def zspl : List Nat := [180, 187, 197, 208, 218, 231, 247, 264]
def ztm (i : Nat) : Term := .string "SumWalker$Reader" (zstrix.getD i 0)
theorem zg_str : (List.range 8).all (fun i => decide (zat zGiven (zspl.getD i 0) = some (Cond.exactly (ztm i) "java/lang/String")) && decide (zat zGiven (zspl.getD i 0 + 1) = some (Cond.eq (.field (ztm i) "java/lang/String" "coder" "B") (.int 0))) && decide (zat zGiven (zspl.getD i 0 + 2) = some (Cond.arrayOf (.field (ztm i) "java/lang/String" "value" "[B") .byte)) &&
  decide (zat zGiven (zspl.getD i 0 + 3) = some (Cond.eq (.length (.field (ztm i) "java/lang/String" "value" "[B")) (.int (Int32.ofNat (zstrlen.getD i 0))))) && (List.range (zstrlen.getD i 0)).all (fun j => decide (zat zGiven (zspl.getD i 0 + 4 + j) = some (Cond.eq (.elem (.field (ztm i) "java/lang/String" "value" "[B") (.int (Int32.ofNat j))) (.int ((zstrbyt.getD i []).getD j 0)))))) = true := by decide +kernel
def znepl : List Nat := [196, 206, 207, 215, 216, 217, 227, 228, 229, 230, 242, 243, 244, 245, 246, 258, 259, 260, 261, 262, 263, 272, 273, 274, 275, 276, 277, 278]
def znepr : List (Nat × Nat) := [(0, 1), (0, 2), (1, 2), (0, 3), (1, 3), (2, 3), (0, 4), (1, 4), (2, 4), (3, 4), (0, 5), (1, 5), (2, 5), (3, 5), (4, 5), (0, 6), (1, 6), (2, 6), (3, 6), (4, 6), (5, 6), (0, 7), (1, 7), (2, 7), (3, 7), (4, 7), (5, 7), (6, 7)]
theorem zg_ne : (znepr.zip znepl).all (fun q => decide (zat zGiven q.2 = some (Cond.not (Cond.eq (ztm q.1.1) (ztm q.1.2))))) = true := by decide +kernel
theorem znepr_all : ∀ i j : Nat, i < 8 → j < 8 → i < j → ∃ p, ((i, j), p) ∈ znepr.zip znepl := by
  have h : (List.range 8).all (fun j => (List.range j).all fun i => (znepr.zip znepl).any fun q => decide (q.1 = (i, j))) = true := by decide +kernel
  intro i j hi hj hij
  have h1 := List.all_eq_true.mp (List.all_eq_true.mp h j (List.mem_range.mpr hj)) i (List.mem_range.mpr hij)
  obtain ⟨q, hq, e⟩ := List.any_eq_true.mp h1
  simp only [decide_eq_true_eq] at e
  exact ⟨q.2, by rw [← e]; exact hq⟩
def R_law : String := "SumWalkerLaw"
def lw_P (b : Addr) (xs : List Int32) (args : Array Value) (s : State) : Prop := args = #[.ref b] ∧ s.IntsAt b xs ∧ xs.length ≤ 3072 ∧ (Jvm.Cond.and given_1 narrow_1).before args s = true
def lw_Q (_ : Array Value) (s : State) (o : Outcome) (t : State) : Prop := o = .returned (some (.int 1)) ∧ Framed s o t [] 600000 7302250
def lw_Z (below : List Frame) (a : Array Value) (s : State) : State → Prop := fun t => ∃ o, t.status = .running ∧ Ended t below o ∧ lw_Q a s o t
/-- the law's own end, with 1 on the stack, nothing written that was there before, its room as the claim has it -/
theorem lw_ret {p : Program} {l : Launch} {e : Env} {s : State} {m : MethodId} {below : List Frame} {meth : Method} {c : Code} {b : Nat} (hx : p.tables.exec = Jvm.exec) (hb : c.code = code) (hr : meth.sig.returnType = ret) (hlocks : meth.locks = false) {pc : Nat} {H : Heap} {ls : Array Slot} (hdg : decode code pc = .ok (.ireturn, 1)) : W p l e room_1 s m #[Value.ref b] below meth c H [] 600000 7302250 (lw_Z below #[Value.ref b] s) (F0 m pc ls [.int 1]) := by
  intro T hT X
  obtain ⟨fs, hret, hrun, hended, hW, hframe⟩ := X.leave (v := some (.int 1)) (hlocks := hlocks) (fun h => by rw [hr] at h; cases h)
  have hmeth' : T.vm.method? m = some meth := X.method'
  refine ⟨T.setFrames fs, ?_, .returned (some (.int 1)), hrun, hended, rfl, ⟨_, rfl⟩, hW, hframe⟩
  jvm_step X.here [X.here.top, hx, hb, hdg, hmeth', hr, ret, narrow_b1]
  (try refine ⟨rfl, ?_⟩); (try refine ⟨rfl, ?_⟩)
  first | (intro acts; rw [hret _ acts rfl rfl rfl]) | rw [hret _ _ rfl rfl rfl]
  exact Steps.refl _
/-- what holds at the law's entry: the machine, the code, the tables' words (any of lw_tbl by 'hts w (by decide +kernel)'), the script of L ints xs at the cell b, what the Statement gives of the start (any of its parts by flat_of_before) -/
def lw_At (p : Program) (s : State) (m : MethodId) (meth : Method) (c : Code) (b L : Nat) (xs : Nat → Int32) : Prop :=
  p.tables.exec = Jvm.exec ∧ c.code = code ∧ meth.sig.returnType = ret ∧ c.maxLocals = 4 ∧ s.vm.findClass R_law = some m.cls ∧ (∀ w ∈ lw_tbl, w.before #[Value.ref b] s = true) ∧ va_X b L xs s s.heap ∧ b < s.heap.size ∧ meth.locks = false ∧ (Jvm.Cond.and given_1 narrow_1).before #[Value.ref b] s = true
theorem zl_in {args : Array Value} {s : State} (hts : ∀ w ∈ lw_tbl, w.before args s = true) (p : Nat) (w : Cond) (h : zat (zpart (p / 1024)) (p % 1024) = some w) : w.before args s = true := hts w (zpart_in _ _ (zat_mem _ _ _ h))
theorem zInv0 {G : zG} (hL : gL G ≤ 3072) : zInv G (gL G, [], zH0 (gx G)) := by
  refine ⟨⟨rfl, by omega⟩, fun j => ?_, fun j hj => ?_, fun i hi j => ?_, fun i k n h => by simp at h⟩
  · show zH0 (gx G) 0 j = _
    unfold zH0
    rw [if_pos rfl]; rfl
  · show zH0 (gx G) 1 j = _
    unfold zH0
    rw [if_neg (by decide), if_pos rfl]; rfl
  · show zH0 (gx G) (10 + i) j = _
    unfold zH0
    rw [if_neg (by omega), if_neg (by omega), if_pos (by omega), show ((10 : Int) + i - 10).toNat = i by omega]; rfl
set_option maxHeartbeats 4000000 in
theorem whole_open {p : Program} {e : Env} {s : State} {m : MethodId} {below : List Frame} {meth : Method} {c : Code} (l : Launch) {b L : Nat} {xs : Nat → Int32} (hL : L ≤ 3072) (C0 : lw_At p s m meth c b L xs) (hrun : zRun L xs) : W p l e room_1 s m #[Value.ref b] below meth c s.heap [] 0 0 (lw_Z below #[Value.ref b] s) (entryFrame m ([Value.ref b] : List Value).toArray 4) := by
  obtain ⟨hx, hb, hr, hml, hown, hts, hX, hbl, hlocks, hgv⟩ := id C0
  have htz : ∀ w ∈ zTs, w.before #[Value.ref b] s = true := fun w hw => hts w (List.mem_filter.mp hw).1
  have zk : ∀ ci, ci < 7 → ∀ C T N ty, zCl ci C T N ty → ∃ (cC : ClassId) (iS : Nat → Nat), u_Kn s C T N cC iS := by
    intro ci hci C T N ty hCl
    have hi := (zinst_in hci).1
    have hCn : zCn ci = C := by unfold zCn; rw [List.getD_eq_getElem?_getD, hCl.1]; rfl
    rw [hCn] at hi
    exact u_known htz hCl.2.1 (htz _ hi)
  have hall : ∀ ci : Nat, ∃ (q : ClassId × (Nat → Nat)), ∀ r : vw_C, vwCl[ci]? = some r → u_Kn s r.1 r.2.1 r.2.2 q.1 q.2 := by
    intro ci
    by_cases hci : ci < 7
    · obtain ⟨C, T, N, ty, hCl⟩ := zCl_all hci
      obtain ⟨cC, iS, hK⟩ := zk ci hci C T N ty hCl
      refine ⟨(cC, iS), fun r hr => ?_⟩
      cases hCl.1.symm.trans hr
      exact hK
    · exact ⟨(0, fun _ => 0), fun r hr => by
        rw [List.getElem?_eq_none (by show 7 ≤ ci; omega)] at hr
        cases hr⟩
  obtain ⟨dq, hdq⟩ := Classical.axiomOfChoice hall
  -- array classes
  have arr : ∀ t : FieldType, Cond.arrayClass t ∈ zTs → ∃ cA : ClassId, ArrOfT s cA t ∧ s.vm.findClass ("[" ++ t.toString) = some cA := by
    intro t ht
    obtain ⟨cA, k, comp, h1, h2, h3⟩ := Cond.arrayClass_spec (show (Cond.arrayClass t).holds #[Value.ref b] s none s [] = true from htz _ ht)
    exact ⟨cA, fun n z => ⟨fun k h => (by cases h), k, h2, comp, h3⟩, h1⟩
  obtain ⟨a0, A0, B0⟩ := arr _ zw_int
  obtain ⟨a1, A1, B1⟩ := arr _ zw_long
  obtain ⟨a2, A2, B2⟩ := arr _ zw_byte
  obtain ⟨a3, A3, B3⟩ := arr _ zw_bool
  have arq : ∀ C : String, (Cond.arrayOver (.object C)).before #[Value.ref b] s = true → ∃ cA : ClassId, ArrOfT s cA (.object C) ∧ va_RA s cA (.object C) := by
    intro C hC
    obtain ⟨comp, cA, k, h1, -, h3, h4, h5⟩ := Cond.arrayOver_spec (show (Cond.arrayOver (.object C)).holds #[Value.ref b] s none s [] = true from hC)
    exact ⟨cA, fun n z => ⟨fun k h => (by cases h), k, h3, comp, h4⟩, k, comp, h3, h4, h1, h5⟩
  have o4 : (Cond.arrayOver (.object RX0)).before #[Value.ref b] s = true := zl_in hts 1154 _ (by decide +kernel)
  have o5 : (Cond.arrayOver (.object RX4)).before #[Value.ref b] s = true := zl_in hts 1156 _ (by decide +kernel)
  obtain ⟨a4, A4, B4⟩ := arq _ o4
  obtain ⟨a5, A5, B5⟩ := arq _ o5
  have hA : ∀ a : Nat, a < s.heap.size → ¬ s.heap.size ≤ a := fun a h q => by omega
  -- the table, the statics
  obtain ⟨tS, htS, hTS⟩ := va_Tof (s := s) (args := #[Value.ref b]) (tm := .static "SumWalker$Primes" "SMALL" "[I") (ty := .int) (N := 168) (f := fun j => .int (Int32.ofInt (zsmall.getD j 0))) (A := fun q => s.heap.size ≤ q) (by decide)
    (zg_in hgv 10 _ (by decide +kernel)) (va_eqt (zg_in hgv 11 _ (by decide +kernel)))
    (fun j hj => va_eqt (zg_in hgv (12 + j) _ (by
      have := List.all_eq_true.mp zg_small j (List.mem_range.mpr hj)
      simpa using this))) hA
  have hZS := va_Zref (s := s) (args := #[Value.ref b]) (A := fun q => s.heap.size ≤ q) (zl_in hts 2210 (.laysStatic "SumWalker$Primes" "SMALL" "[I") (by decide +kernel)) (zl_in hts 1027 (.initialized "SumWalker$Primes") (by decide +kernel)) htS hA
  have hZC := va_Zof (s := s) (args := #[Value.ref b]) (A := fun q => s.heap.size ≤ q) (zl_in hts 2099 (.laysStatic "java/lang/String" "COMPACT_STRINGS" "Z") (by decide +kernel)) (zl_in hts 1033 (.initialized "java/lang/String") (by decide +kernel)) (va_eqi (zg_in hgv 4 (.eq (.static "java/lang/String" "COMPACT_STRINGS" "Z") (.int 1)) (by decide +kernel))) hA
  have hZF := va_Zqof (s := s) (args := #[Value.ref b]) (A := fun q => s.heap.size ≤ q) (zl_in hts 2115 (.laysStatic zFmt.1 zFmt.2.1 zFmt.2.2) (by decide +kernel)) (zl_in hts 1035 (.initialized zFmt.1) (by decide +kernel)) (zg_in hgv 5 _ (by decide +kernel)) hA
  obtain ⟨fv, hfv, hZf⟩ : ∃ fv : Value, (fv = .null ∨ ∃ t, fv = .ref t) ∧ va_Z zFmt.1 zFmt.2.1 zFmt.2.2 fv (fun q => s.heap.size ≤ q) s s.heap := by
    rcases hZF with h | ⟨t, h⟩
    · exact ⟨_, Or.inl rfl, h⟩
    · exact ⟨_, Or.inr ⟨t, rfl⟩, h⟩
  -- texts
  have hstr := fun i (hi : i < 8) => List.all_eq_true.mp zg_str i (List.mem_range.mpr hi)
  obtain ⟨adK, adV, hST, hev⟩ := vk_Sof (s := s) (args := #[Value.ref b]) (N := 8) (tm := ztm) (len := zstrlen) (byt := zstrbyt) (A := fun q => s.heap.size ≤ q)
    (fun i hi => by rw [zstr_len hi]; have : ∀ j, j < 8 → (zstrs.getD j []).length < 2 ^ 31 := by decide
                    exact this i hi)
    (fun i hi => by have := hstr i hi; simp only [Bool.and_eq_true, decide_eq_true_eq] at this; exact zg_in hgv _ _ this.1.1.1.1)
    (fun i hi => by have := hstr i hi; simp only [Bool.and_eq_true, decide_eq_true_eq] at this; exact zg_in hgv _ _ this.1.1.1.2)
    (fun i hi => by have := hstr i hi; simp only [Bool.and_eq_true, decide_eq_true_eq] at this; exact zg_in hgv _ _ this.1.1.2)
    (fun i hi => by have := hstr i hi; simp only [Bool.and_eq_true, decide_eq_true_eq] at this; exact zg_in hgv _ _ this.1.2)
    (fun i hi j hj => by
      have := hstr i hi
      simp only [Bool.and_eq_true, decide_eq_true_eq] at this
      have h2 := List.all_eq_true.mp this.2 j (List.mem_range.mpr hj)
      simp only [decide_eq_true_eq] at h2
      exact zg_in hgv _ _ h2)
    (fun i j hi hj hij => by
      have key : ∀ i j : Nat, i < 8 → j < 8 → i < j → (Cond.not (Cond.eq (ztm i) (ztm j))).before #[Value.ref b] s = true := by
        intro i j hi hj hij
        obtain ⟨p, hp⟩ := znepr_all i j hi hj hij
        have := List.all_eq_true.mp zg_ne _ hp
        simp only [decide_eq_true_eq] at this
        exact zg_in hgv _ _ this
      rcases Nat.lt_or_ge i j with q | q
      · exact Or.inl (key i j hi hj q)
      · exact Or.inr (key j i hj hi (by omega)))
    hA
  let G : zG := (b, s.heap.size, L, xs, (fun k => (dq k).1, fun k => (dq k).2), (fun k => if k = 0 then a0 else if k = 1 then a1 else if k = 2 then a2 else if k = 3 then a3 else if k = 4 then a4 else a5), tS, adK, adV, fv)
  have hfix : zFix G s := by
    refine ⟨⟨fun k q hq => hdq k q hq, fun k q hq => ?_⟩, hX, ⟨hbl, Nat.le_refl _⟩, hZS, hTS, hZC, hZf, hfv, hST, fun i hi => ?_, fun w hw => ?_, va_AO.of o4, va_AO.of o5⟩
    · match k, hq with
      | 0, hq => cases hq; exact ⟨A0, B0⟩
      | 1, hq => cases hq; exact ⟨A1, B1⟩
      | 2, hq => cases hq; exact ⟨A2, B2⟩
      | 3, hq => cases hq; exact ⟨A3, B3⟩
      | 4, hq => cases hq; exact ⟨A4, B4⟩
      | 5, hq => cases hq; exact ⟨A5, B5⟩
      | k + 6, hq => simp [zTys] at hq
    · refine vk_R.of (A := #[Value.ref b]) ?_ (hev i hi)
      match i, hi with
      | 0, _ => exact zl_in hts 2086 (.stringRef "SumWalker$Reader" 132 "row") (by decide +kernel)
      | 1, _ => exact zl_in hts 2138 (.stringRef "SumWalker$Reader" 138 "bound") (by decide +kernel)
      | 2, _ => exact zl_in hts 2139 (.stringRef "SumWalker$Reader" 139 "steps") (by decide +kernel)
      | 3, _ => exact zl_in hts 2140 (.stringRef "SumWalker$Reader" 140 "law") (by decide +kernel)
      | 4, _ => exact zl_in hts 2152 (.stringRef "SumWalker$Reader" 141 "plain") (by decide +kernel)
      | 5, _ => exact zl_in hts 2153 (.stringRef "SumWalker$Reader" 143 "unitary") (by decide +kernel)
      | 6, _ => exact zl_in hts 2154 (.stringRef "SumWalker$Reader" 145 "reduced") (by decide +kernel)
      | 7, _ => exact zl_in hts 2155 (.stringRef "SumWalker$Reader" 147 "bare") (by decide +kernel)
      | n + 8, h => omega
    · simp only [zNw, List.mem_cons, List.not_mem_nil, or_false] at hw
      rcases hw with rfl | rfl | rfl | rfl
      · exact va_Nw.of rfl (zl_in hts 1048 _ (by decide +kernel))
      · exact va_Nw.of rfl (zl_in hts 1093 _ (by decide +kernel))
      · exact va_Nw.of rfl (zl_in hts 1158 _ (by decide +kernel))
      · exact va_Nw.of rfl (zl_in hts 1187 _ (by decide +kernel))
  obtain ⟨n, S', hex, hcl, hsl⟩ := hrun
  have hgb : gf G = .null ∨ ∃ t, gf G = .ref t := hfv
  have hl := lv_entry ([.ref b]) (n := 4) (Nat.le_of_ble_eq_true rfl)
  rw [lg_entry_eq]
  generalize (lg_sl ([.ref b]) ++ List.replicate (4 - (lg_sl ([.ref b])).length) Slot.unset).toArray = lm at hl ⊢
  have hat : zAt G 0 s lm s.heap [] [zR 0, zJ, zJ, zJ] [] (L, [], zH0 xs) := by
    refine ⟨⟨rfl, fun k q h => by simp [zws] at h, zInv0 (G := G) hL⟩, va_S.rf, lv_mono hl ?_, rfl, ?_, fun v hv => by cases hv⟩
    · intro q hq
      have : zloc G 0 [zR 0, zJ, zJ, zJ] = [(0, .ref b)] := rfl
      rw [this] at hq
      exact hq
    · intro v hv
      simp only [List.mem_cons, List.not_mem_nil, or_false] at hv
      rcases hv with rfl | rfl | rfl | rfl
      · exact zwfR 0
      · exact zwfJ
      · exact zwfJ
      · exact zwfJ
  have cx : zCtx G 0 p s m #[Value.ref b] meth c := ⟨hx, hb, hml, hown, htz, hfix, fun q => absurd q (by decide)⟩
  have K := ex_walk z_hall G n 2000 0 0 [zR 0, zJ, zJ, zJ] [] (L, [], zH0 xs) (zI 1) S' zk_law hex (p := p) (l := l) (e := e) (R := room_1) (s := s) (m := m) (args := #[Value.ref b]) (below := below) (meth := meth) (c := c) (H := s.heap) (locs := []) (Q := lw_Z below #[Value.ref b] s) (lm := lm) 0 0 600000 7302250 cx rfl rfl (Nat.le_of_ble_eq_true rfl) (Nat.le_of_ble_eq_true rfl) hat (Nat.zero_le _) (Nat.zero_le _) hcl hsl ?_
  · exact K
  · intro pc a ls st lm' H' locs' hok hd hz hat'
    have ha4 : a = 4 := by
      have hrt : zrt 0 = some .boolean := rfl
      unfold zret_ok at hok
      rw [hrt] at hok
      split at hok
      · cases hok
      · cases hok
      · cases hok
      · cases hok
      · rfl
      · cases hok
      · cases hok
      · cases hok
    subst ha4
    have hst : st = [(0, 1)] := by
      unfold zret at hz
      split at hz
      · cases hz
      · rename_i h; cases h
      · rename_i h; cases h
      · rename_i h; cases h
      · rename_i x
        split at hz
        · cases hz; rfl
        · cases hz
      · rename_i h; cases h
      · rename_i h; cases h
      · cases hz
    subst hst
    refine va_forget (fun q hq => hat'.2.1.2.2 q hq) ?_
    refine W.widen (k := 600000) (n := 7302250) (by omega) (by omega) ?_
    exact lw_ret hx hb hr hlocks hd
end
section
/-! the built world: its shapes, its final places; rules for a run in it -/
def zSH : List (Nat × Nat) := [(5, 15), (3, 11), (100, 400), (101, 6), (2, 4), (100, 9), (100, 9), (100, 9), (0, 5), (100, 6), (0, 5), (100, 6), (104, 8), (105, 6), (4, 5), (100, 101), (1, 2), (100, 3232), (101, 501), (100, 501), (101, 47), (0, 5), (100, 6), (0, 5), (100, 6), (0, 5), (100, 6), (0, 5), (100, 6), (0, 5), (100, 6), (0, 5), (100, 6), (0, 5), (100, 6), (0, 5), (100, 6), (4, 5), (100, 101), (4, 5), (100, 101), (4, 5), (100, 101), (4, 5), (100, 101), (4, 5), (100, 101), (4, 5), (100, 101), (6, 44), (100, 10), (100, 10), (100, 80), (100, 10), (100, 10), (100, 1400), (103, 3001), (101, 201), (101, 2001), (100, 10), (100, 501), (103, 2001), (100, 101), (100, 101), (100, 101), (101, 201), (100, 6000), (102, 400), (101, 6), (101, 8)]
def zfx (a j : Int) : Option Int := match zSH[(a - 32).toNat]? with
  | some (0, _) => if j = 0 then some (a + 1) else none
  | some (1, _) => if j = 0 then some (a + 1) else none
  | some (2, _) => if 0 ≤ j ∧ j ≤ 2 then some (a + 1 + j) else none
  | some (3, _) => if j = 0 ∨ j = 1 then some (a + 1 + j) else none
  | some (4, _) => if j = 0 then some (a + 1) else none
  | some (5, _) => if 0 ≤ j then ([some 33, some 36, some 40, some 42, some 44, some 45, some 46, some 48, some 50, some 51, some 52].getD j.toNat none) else none
  | some (6, _) => if 0 ≤ j then ([none, none, some 82, some 83, some 84, none, some 85, some 86, none, none, none, some 87, none, some 88, some 89, some 90, some 91, some 92, some 93, some 94, some 95, none, none, none, none, none, some 96, some 97, some 98, none, some 99, none, none, none, none, none, none, none, none, none, none, none, some 100, some 101].getD j.toNat none) else none
  | some (105, _) => if 0 ≤ j ∧ j < 6 then some (69 + 2 * j) else none
  | _ => none
abbrev zHt : Type := Int → Int → Int
abbrev zWt : Type := Nat × (Nat → Int32)
def zM (w : zWt) (H : zHt) : zHt := fun a j => if a < 32 then zH0 w.2 a j else match zfx a j with
  | some v => v
  | none => H a j
def zS (w : zWt) (H : zHt) : zHp := (w.1, zSH, zM w H)
def zmk (H H' : zHt) : Prop := ∀ a j : Int, (a < 32 ∨ zfx a j ≠ none) → H' a j = H a j
def zgo (w : zWt) (d y pc : Nat) (ls st : List zV) (H : zHt) (Q : zV → zHt → Prop) : Prop := ∃ (n : Nat) (r : zV) (H' : zHt), ex n d y pc ls st (zS w H) = some (r, zS w H') ∧ zmk H H' ∧ Q r H'
def zcl (w : zWt) (d y : Nat) (as : List zV) (H : zHt) (Q : zV → zHt → Prop) : Prop := zgo w d y 0 (zentry y as) [] H Q
-- more fuel, more depth
theorem ex_more : ∀ (n k d y pc : Nat) (ls st : List zV) (S : zHp) (r : zV × zHp), ex n d y pc ls st S = some r → ex (n + k) d y pc ls st S = some r := by
  intro n
  induction n with
  | zero => intro k d y pc ls st S r h; cases h
  | succ n ih =>
    intro k d y pc ls st S r h
    rw [show n + 1 + k = (n + k) + 1 by omega, ex]
    rw [ex] at h
    split at h
    · cases h
    · rename_i i hf
      split at h
      · rename_i h1; rw [if_pos h1]; exact h
      · rename_i h1
        rw [if_neg h1]
        split at h
        · rename_i h2
          rw [if_pos h2]
          split at h
          · cases h
          · split at h
            · cases h
            · split at h
              · cases h
              · rename_i h3
                rw [ih k _ _ _ _ _ _ _ h3]
                exact ih k _ _ _ _ _ _ _ h
        · rename_i h2
          rw [if_neg h2]
          split at h
          · cases h
          · exact ih k _ _ _ _ _ _ _ h
theorem ex_more2 {n k d y pc : Nat} {ls st : List zV} {S : zHp} {r : zV × zHp} (h : ex n d y pc ls st S = some r) (hk : n ≤ k) : ex k d y pc ls st S = some r := by
  have := ex_more n (k - n) d y pc ls st S r h
  rwa [show n + (k - n) = k by omega] at this
-- less known locals
def zle : List zV → List zV → Prop
  | [], [] => True
  | a :: as, b :: bs => (b = zJ ∨ a = b) ∧ zle as bs
  | _, _ => False
theorem zle_len : ∀ {a b : List zV}, zle a b → a.length = b.length
  | [], [], _ => rfl
  | _ :: _, _ :: _, h => by simp [zle_len h.2]
theorem zle_get : ∀ {a b : List zV}, zle a b → ∀ {k : Nat} {v : zV}, b[k]? = some v → v ≠ zJ → a[k]? = some v
  | [], [], _, k, v, h, _ => by simp at h
  | a :: as, b :: bs, hl, 0, v, h, hv => by
    simp at h
    subst h
    rcases hl.1 with q | q
    · exact absurd q hv
    · simp [q]
  | a :: as, b :: bs, hl, k + 1, v, h, hv => by
    simp at h ⊢
    exact zle_get hl.2 h hv
theorem zle_set : ∀ {a b : List zV} (k : Nat) (v : zV), zle a b → zle (a.set k v) (b.set k v)
  | [], [], k, v, h => by simpa using h
  | a :: as, b :: bs, 0, v, h => ⟨Or.inr rfl, h.2⟩
  | a :: as, b :: bs, k + 1, v, h => ⟨h.1, zle_set k v h.2⟩
theorem zle_setJ : ∀ {a b : List zV} (k : Nat) , zle a b → zle a (b.set k zJ)
  | [], [], k, h => by simpa using h
  | a :: as, b :: bs, 0, h => ⟨Or.inl rfl, h.2⟩
  | a :: as, b :: bs, k + 1, h => ⟨h.1, zle_setJ k h.2⟩
theorem zle_setJ2 : ∀ {a b : List zV} (k : Nat), zle a b → b.getD k zJ = zJ → zle (a.set k zJ) b
  | [], [], k, h, _ => by simpa using h
  | a :: as, b :: bs, 0, h, hb => ⟨Or.inl (by simpa using hb), h.2⟩
  | a :: as, b :: bs, k + 1, h, hb => ⟨h.1, zle_setJ2 k h.2 (by simpa using hb)⟩
theorem zle_kill {a b : List zV} (h : zle a b) (i : Nat) : zle (zkill a i) (zkill b i) := by
  unfold zkill
  cases i with
  | zero => exact h
  | succ k =>
    dsimp only
    by_cases hb : (b.getD k zJ).1 = 1
    · have ha : (a.getD k zJ).1 = 1 := by
        have hk : k < b.length := by
          rcases Nat.lt_or_ge k b.length with q | q
          · exact q
          · rw [List.getD_eq_getElem?_getD, List.getElem?_eq_none q] at hb
            exact absurd hb (by decide)
        have hg : b[k]? = some (b.getD k zJ) := by rw [List.getD_eq_getElem?_getD, List.getElem?_eq_getElem hk]; rfl
        have := zle_get h hg (fun q => by rw [q] at hb; exact absurd hb (by decide))
        rw [List.getD_eq_getElem?_getD, this]
        exact hb
      rw [if_pos hb, if_pos ha]
      exact zle_set k zJ h
    · rw [if_neg hb]
      split
      · rename_i ha
        refine zle_setJ2 k h ?_
        have hk : k < b.length := by
          rcases Nat.lt_or_ge k b.length with q | q
          · exact q
          · rw [List.getD_eq_getElem?_getD, List.getElem?_eq_none (by rw [zle_len h]; exact q)] at ha
            exact absurd ha (by decide)
        have hg : b[k]? = some (b.getD k zJ) := by rw [List.getD_eq_getElem?_getD, List.getElem?_eq_getElem hk]; rfl
        rcases Classical.em (b.getD k zJ = zJ) with q | q
        · exact q
        · have := zle_get h hg q
          rw [List.getD_eq_getElem?_getD, this] at ha
          exact absurd ha hb
      · exact h
theorem zle_set1 {a b : List zV} (h : zle a b) (i : Nat) (v : zV) : zle (zset1 a i v) (zset1 b i v) := zle_set i v (zle_kill h i)
theorem zle_set2 {a b : List zV} (h : zle a b) (i : Nat) (v : zV) : zle (zset2 a i v) (zset2 b i v) := zle_set (i + 1) zJ (zle_set i v (zle_kill h i))
def zWk (f : zSem) : Prop := ∀ (i : zC) (pc : Nat) (a b st : List zV) (S : zHp) (pc' : Nat) (b' st' : List zV) (S' : zHp), zle a b → f i pc b st S = some (pc', b', st', S') → ∃ a', f i pc a st S = some (pc', a', st', S') ∧ zle a' b'
theorem zwk_of {f : zSem} (h : ∀ i pc a b st S, (f i pc b st S).map (fun q => (q.1, q.2.2)) = (f i pc a st S).map (fun q => (q.1, q.2.2))) (h2 : ∀ i pc b st S q, f i pc b st S = some q → q.2.1 = b) : zWk f := by
  intro i pc a b st S pc' b' st' S' hl hf
  have h3 := h i pc a b st S
  rw [hf] at h3
  have hb : b' = b := h2 i pc b st S _ hf
  cases hfa : f i pc a st S with
  | none => rw [hfa] at h3; cases h3
  | some q =>
    obtain ⟨q1, q2, q3, q4⟩ := q
    rw [hfa] at h3
    have ha : q2 = a := h2 i pc a st S _ hfa
    simp only [Option.map_some, Option.some.injEq, Prod.mk.injEq] at h3
    obtain ⟨e1, e2, e3⟩ := h3
    subst e1; subst e2; subst e3; subst ha; subst hb
    exact ⟨_, rfl, hl⟩
def zCar (f : zSem) : Prop := ∀ (i : zC) (pc : Nat) (ls st : List zV) (S : zHp), f i pc ls st S = (f i pc [] st S).map (fun q => (q.1, ls, q.2.2))
theorem zwk_car {f : zSem} (h : zCar f) : zWk f := by
  intro i pc a b st S pc' b' st' S' hl hf
  rw [h] at hf
  simp only [Option.map_eq_some_iff] at hf
  obtain ⟨⟨q1, q2, q3, q4⟩, hq, e⟩ := hf
  simp only [Prod.mk.injEq] at e
  obtain ⟨rfl, rfl, rfl, rfl⟩ := e
  refine ⟨a, ?_, hl⟩
  rw [h, hq]; rfl
theorem zcar_all : ∀ f ∈ [zs_no, zs_iconst, zs_lconst, zs_iar, zs_lar, zs_lsh, zs_un, zs_lcmp, zs_if, zs_icmp, zs_goto, zs_get, zs_put, zs_alen, zs_ald, zs_xast, zs_dup, zs_dup2, zs_newa, zs_newq, zs_new, zs_table, zs_stat, zs_ldcs, zs_pop, zs_obj, zs_sget, zs_look, zs_math 0, zs_math 1, zs_math 2], zCar f := by
  intro f hf
  simp only [List.mem_cons, List.not_mem_nil, or_false] at hf
  rcases hf with rfl | rfl | rfl | rfl | rfl | rfl | rfl | rfl | rfl | rfl | rfl | rfl | rfl | rfl | rfl | rfl | rfl | rfl | rfl | rfl | rfl | rfl | rfl | rfl | rfl | rfl | rfl | rfl | rfl | rfl | rfl <;> intro i pc ls st S <;> obtain ⟨op, len, a, b, k, ex⟩ := i
  · rfl
  · rfl
  · rfl
  · simp only [zs_iar]; split <;> simp [Option.map_map, Function.comp_def]
  · simp only [zs_lar]; split <;> simp [Option.map_map, Function.comp_def]
  · simp only [zs_lsh]; split <;> rfl
  · simp only [zs_un]
    split
    · rfl
    · rfl
    · rfl
    · rfl
    · split <;> rfl
    · rfl
  · simp only [zs_lcmp]; split <;> rfl
  · simp only [zs_if]; split <;> rfl
  · simp only [zs_icmp]; split <;> rfl
  · rfl
  · simp only [zs_get]
    split
    · split
      · split <;> rfl
      · rfl
    · rfl
  · simp only [zs_put]
    split
    · split
      · split <;> rfl
      · rfl
    · rfl
  · simp only [zs_alen]
    split
    · split
      · split <;> rfl
      · rfl
    · rfl
  · simp only [zs_ald]
    split
    · split
      · split <;> rfl
      · rfl
    · rfl
  · simp only [zs_xast]
    split
    · simp only [zs_iast]
      split
      · split
        · split <;> rfl
        · rfl
      · rfl
    · simp only [zs_last]
      split
      · split
        · split <;> rfl
        · rfl
      · rfl
    · simp only [zs_bast]
      split
      · split
        · split
          · rfl
          · split <;> rfl
        · rfl
      · rfl
    · simp only [zs_aast]
      split
      · split
        · split <;> rfl
        · rfl
      · rfl
    · rfl
  · simp only [zs_dup]
    split
    · split <;> rfl
    · rfl
  · simp only [zs_dup2]
    split
    · split
      · rfl
      · split
        · split <;> rfl
        · rfl
    · rfl
  · simp only [zs_newa]
    split
    · split <;> rfl
    · rfl
  · simp only [zs_newq]
    split
    · split <;> rfl
    · rfl
  · simp only [zs_new]
    split <;> rfl
  · simp only [zs_table]
    split
    · split <;> rfl
    · rfl
  · simp only [zs_stat]; split <;> rfl
  · simp only [zs_ldcs]; split <;> rfl
  · simp only [zs_pop]
    split
    · split <;> rfl
    · rfl
  · simp only [zs_obj]
    split
    · split <;> rfl
    · rfl
  · simp only [zs_sget]
    split
    · split <;> rfl
    · rfl
  · simp only [zs_look]; split <;> rfl
  · simp only [zs_math]
    split
    · split <;> rfl
    · split <;> rfl
    · split <;> rfl
    · rfl
  · simp only [zs_math]
    split
    · split <;> rfl
    · split <;> rfl
    · split <;> rfl
    · rfl
  · simp only [zs_math]
    split
    · split <;> rfl
    · split <;> rfl
    · split <;> rfl
    · rfl
theorem zne3 {k : Nat} {x : Int} (h : k ≠ 3) : ((k, x) : zV) ≠ zJ := fun q => h (congrArg Prod.fst q)
theorem zwk_all : ∀ f ∈ zsems, zWk f := by
  have C := fun f h => zwk_car (zcar_all f h)
  have w1 : zWk zs_iload := by
    intro i pc a b st S pc' b' st' S' hl hf
    simp only [zs_iload] at hf ⊢
    split at hf
    · rename_i x hx
      cases hf
      rw [zle_get hl hx (zne3 (by decide))]
      exact ⟨a, rfl, hl⟩
    · cases hf
  have w2 : zWk zs_lload := by
    intro i pc a b st S pc' b' st' S' hl hf
    simp only [zs_lload] at hf ⊢
    split at hf
    · rename_i x hx
      cases hf
      rw [zle_get hl hx (zne3 (by decide))]
      exact ⟨a, rfl, hl⟩
    · cases hf
  have w3 : zWk zs_aload := by
    intro i pc a b st S pc' b' st' S' hl hf
    simp only [zs_aload] at hf ⊢
    split at hf
    · rename_i x hx
      split at hf
      · cases hf
      · rename_i h0
        cases hf
        rw [zle_get hl hx (zne3 (by decide))]
        exact ⟨a, by simp only [if_neg h0], hl⟩
    · rename_i x hx
      cases hf
      rw [zle_get hl hx (zne3 (by decide))]
      exact ⟨a, rfl, hl⟩
    · cases hf
  have w4 : zWk zs_istore := by
    intro i pc a b st S pc' b' st' S' hl hf
    simp only [zs_istore] at hf ⊢
    split at hf
    · split at hf
      · rename_i hlt
        cases hf
        rw [if_pos (by rw [zle_len hl]; exact hlt)]
        exact ⟨_, rfl, zle_set1 hl _ _⟩
      · cases hf
    · cases hf
  have w5 : zWk zs_lstore := by
    intro i pc a b st S pc' b' st' S' hl hf
    simp only [zs_lstore] at hf ⊢
    split at hf
    · split at hf
      · rename_i hlt
        cases hf
        rw [if_pos (by rw [zle_len hl]; exact hlt)]
        exact ⟨_, rfl, zle_set2 hl _ _⟩
      · cases hf
    · cases hf
  have w6 : zWk zs_astore := by
    intro i pc a b st S pc' b' st' S' hl hf
    simp only [zs_astore] at hf ⊢
    split at hf
    · split at hf
      · cases hf
      · rename_i h0
        split at hf
        · rename_i hlt
          cases hf
          rw [if_neg h0, if_pos (by rw [zle_len hl]; exact hlt)]
          exact ⟨_, rfl, zle_set1 hl _ _⟩
        · cases hf
    · cases hf
  have w7 : zWk zs_iinc := by
    intro i pc a b st S pc' b' st' S' hl hf
    simp only [zs_iinc] at hf ⊢
    split at hf
    · rename_i x hx
      cases hf
      rw [zle_get hl hx (zne3 (by decide))]
      exact ⟨_, rfl, zle_set1 hl _ _⟩
    · cases hf
  intro f hf
  simp only [zsems, List.mem_cons, List.not_mem_nil, or_false] at hf
  rcases hf with rfl | rfl | rfl | rfl | rfl | rfl | rfl | rfl | rfl | rfl | rfl | rfl | rfl | rfl | rfl | rfl | rfl | rfl | rfl | rfl | rfl | rfl | rfl | rfl | rfl | rfl | rfl | rfl | rfl | rfl | rfl | rfl | rfl | rfl | rfl | rfl | rfl | rfl | rfl | rfl <;> first | exact w1 | exact w2 | exact w3 | exact w4 | exact w5 | exact w6 | exact w7 | exact C _ (by simp)
theorem zstep_wk : zWk zstep := by
  intro i pc a b st S pc' b' st' S' hl hf
  unfold zstep at hf ⊢
  by_cases hq : i.1 < zsems.length
  · rw [List.getD_eq_getElem?_getD, List.getElem?_eq_getElem hq] at hf ⊢
    exact zwk_all _ (List.getElem_mem hq) i pc a b st S pc' b' st' S' hl hf
  · rw [List.getD_eq_getElem?_getD, List.getElem?_eq_none (by omega)] at hf
    cases hf
theorem ex_weak : ∀ (n d y pc : Nat) (a b st : List zV) (S : zHp) (r : zV × zHp), zle a b → ex n d y pc b st S = some r → ex n d y pc a st S = some r := by
  intro n
  induction n with
  | zero => intro d y pc a b st S r _ h; cases h
  | succ n ih =>
    intro d y pc a b st S r hl h
    rw [ex] at h ⊢
    split at h
    · cases h
    · rename_i i hf
      split at h
      · rename_i h1; rw [if_pos h1]; exact h
      · rename_i h1
        rw [if_neg h1]
        split at h
        · rename_i h2
          rw [if_pos h2]
          split at h
          · cases h
          · split at h
            · cases h
            · split at h
              · cases h
              · rename_i h3
                exact ih _ _ _ _ _ _ _ _ hl h
        · rename_i h2
          rw [if_neg h2]
          split at h
          · cases h
          · rename_i pc' b' st' S' hs
            obtain ⟨a', ha, hl'⟩ := zstep_wk _ _ _ _ _ _ _ _ _ _ hl hs
            rw [ha]
            exact ih _ _ _ _ _ _ _ _ hl' h
-- rules
theorem zstep_eq {i : zC} {pc : Nat} {ls st : List zV} {S : zHp} {f : zSem} (h : zsems.getD i.1 zs_no = f) : zstep i pc ls st S = f i pc ls st S := by unfold zstep; rw [h]
section ZR
variable {w : zWt} {d y pc q : Nat} {ls ls' st : List zV} {H : zHt} {Q : zV → zHt → Prop} {l : List (Option zC)} {n a b : Nat} {k : Int} {e : List Int}
theorem zmk_rfl {H : zHt} : zmk H H := fun _ _ _ => rfl
theorem zmk_up {o j x : Int} (ho : 32 ≤ o) (hx : zfx o j = none) : zmk H (zup H o j x) := by
  intro a' j' h
  unfold zup
  by_cases q : a' = o ∧ j' = j
  · obtain ⟨rfl, rfl⟩ := q
    rcases h with h | h
    · omega
    · exact absurd hx h
  · rw [if_neg q]
theorem zmk_tr {H H1 H2 : zHt} (h1 : zmk H H1) (h2 : zmk H1 H2) : zmk H H2 := fun a j h => (h2 a j h).trans (h1 a j h)
theorem g_stepU {i : zC} {st' : List zV} {H' : zHt} (hp : zprog.getD y [] = l) (hf : l.getD pc none = some i) (h0 : Nat.beq i.1 100 = false) (h1 : Nat.beq i.1 101 = false) (hs : zstep i pc ls st (zS w H) = some (q, ls', st', zS w H')) (hm : zmk H H') (K : zgo w d y q ls' st' H' Q) : zgo w d y pc ls st H Q := by
  obtain ⟨n, r, H2, h, hm2, hq⟩ := K
  refine ⟨n + 1, r, H2, ?_, zmk_tr hm hm2, hq⟩
  have hff : zfetch y pc = some i := by unfold zfetch; rw [hp]; exact hf
  rw [ex, hff]
  dsimp only
  rw [if_neg (Nat.ne_of_beq_eq_false h0), if_neg (Nat.ne_of_beq_eq_false h1), hs]
  exact h
theorem g_step {i : zC} {st' : List zV} (hp : zprog.getD y [] = l) (hf : l.getD pc none = some i) (h0 : Nat.beq i.1 100 = false) (h1 : Nat.beq i.1 101 = false) (hs : zstep i pc ls st (zS w H) = some (q, ls', st', zS w H)) (K : zgo w d y q ls' st' H Q) : zgo w d y pc ls st H Q :=
  g_stepU hp hf h0 h1 hs zmk_rfl K
theorem g_weak (hl : zle ls ls') (K : zgo w d y pc ls' st H Q) : zgo w d y pc ls st H Q := by
  obtain ⟨n, r, H2, h, hm, hq⟩ := K
  exact ⟨n, r, H2, ex_weak _ _ _ _ _ _ _ _ _ hl h, hm, hq⟩
theorem g_mono {Q' : zV → zHt → Prop} (K : zgo w d y pc ls st H Q') (h : ∀ r H', Q' r H' → Q r H') : zgo w d y pc ls st H Q := by
  obtain ⟨n, r, H2, hx, hm, hq⟩ := K
  exact ⟨n, r, H2, hx, hm, h _ _ hq⟩
theorem zM_inj {H H1 H2 : zHt} (h1 : zmk H H1) (h2 : zmk H H2) (h : zM w H1 = zM w H2) : H1 = H2 := by
  funext a j
  by_cases q : a < 32 ∨ zfx a j ≠ none
  · rw [h1 a j q, h2 a j q]
  · have e := congrFun (congrFun h a) j
    unfold zM at e
    have q1 : ¬ a < 32 := fun z => q (Or.inl z)
    have q2 : zfx a j = none := by
      rcases Classical.em (zfx a j = none) with z | z
      · exact z
      · exact absurd (Or.inr z) q
    rw [if_neg q1, if_neg q1, q2] at e
    exact e
theorem zgo_det {Q1 Q2 : zV → zHt → Prop} (k1 : zgo w d y pc ls st H Q1) (k2 : zgo w d y pc ls st H Q2) : zgo w d y pc ls st H (fun r H' => Q1 r H' ∧ Q2 r H') := by
  obtain ⟨n1, r1, H1, x1, m1, q1⟩ := k1
  obtain ⟨n2, r2, H2, x2, m2, q2⟩ := k2
  have e := (ex_more2 x1 (Nat.le_add_right n1 n2)).symm.trans (ex_more2 x2 (Nat.le_add_left n2 n1))
  have e1 := Prod.mk.inj (Option.some.inj e)
  have e2 : zM w H1 = zM w H2 := (Prod.mk.inj (Prod.mk.inj e1.2).2).2
  have e3 := zM_inj m1 m2 e2
  obtain ⟨e4, -⟩ := e1
  subst e3; subst e4
  exact ⟨n1, r1, H1, x1, m1, q1, q2⟩
theorem g_ic (hp : zprog.getD y [] = l) (hf : l.getD pc none = some (1, n, a, b, k, e)) (hq : pc + n = q) (K : zgo w d y q ls (zI k :: st) H Q) : zgo w d y pc ls st H Q := by
  subst hq; exact g_step hp hf rfl rfl rfl K
theorem g_lc (hp : zprog.getD y [] = l) (hf : l.getD pc none = some (2, n, a, b, k, e)) (hq : pc + n = q) (K : zgo w d y q ls (zL k :: st) H Q) : zgo w d y pc ls st H Q := by
  subst hq; exact g_step hp hf rfl rfl rfl K
theorem g_il {x : Int} (hp : zprog.getD y [] = l) (hf : l.getD pc none = some (3, n, a, b, k, e)) (hq : pc + n = q) (hl : ls[a]? = some (zI x)) (K : zgo w d y q ls (zI x :: st) H Q) : zgo w d y pc ls st H Q := by
  subst hq
  refine g_step hp hf rfl rfl ?_ K
  rw [zstep_eq (f := zs_iload) rfl]
  simp only [zs_iload, hl]
theorem g_ll {x : Int} (hp : zprog.getD y [] = l) (hf : l.getD pc none = some (4, n, a, b, k, e)) (hq : pc + n = q) (hl : ls[a]? = some (zL x)) (K : zgo w d y q ls (zL x :: st) H Q) : zgo w d y pc ls st H Q := by
  subst hq
  refine g_step hp hf rfl rfl ?_ K
  rw [zstep_eq (f := zs_lload) rfl]
  simp only [zs_lload, hl]
theorem g_al {x : Int} (hp : zprog.getD y [] = l) (hf : l.getD pc none = some (5, n, a, b, k, e)) (hq : pc + n = q) (hl : ls[a]? = some (zR x)) (h0 : 0 ≤ x) (K : zgo w d y q ls (zR x :: st) H Q) : zgo w d y pc ls st H Q := by
  subst hq
  refine g_step hp hf rfl rfl ?_ K
  rw [zstep_eq (f := zs_aload) rfl]
  simp only [zs_aload, hl]
  rw [if_neg (by omega)]
theorem g_alO {x : Int} (hp : zprog.getD y [] = l) (hf : l.getD pc none = some (5, n, a, b, k, e)) (hq : pc + n = q) (hl : ls[a]? = some (4, x)) (K : zgo w d y q ls ((4, x) :: st) H Q) : zgo w d y pc ls st H Q := by
  subst hq
  refine g_step hp hf rfl rfl ?_ K
  rw [zstep_eq (f := zs_aload) rfl]
  simp only [zs_aload, hl]
theorem g_is {x : Int} (hp : zprog.getD y [] = l) (hf : l.getD pc none = some (6, n, a, b, k, e)) (hq : pc + n = q) (hlt : a < ls.length) (hz : zset1 ls a (zI x) = ls') (K : zgo w d y q ls' st H Q) : zgo w d y pc ls (zI x :: st) H Q := by
  subst hq; subst hz
  refine g_step hp hf rfl rfl ?_ K
  rw [zstep_eq (f := zs_istore) rfl]
  simp only [zs_istore]
  rw [if_pos hlt]
theorem g_ls {x : Int} (hp : zprog.getD y [] = l) (hf : l.getD pc none = some (7, n, a, b, k, e)) (hq : pc + n = q) (hlt : a + 1 < ls.length) (hz : zset2 ls a (zL x) = ls') (K : zgo w d y q ls' st H Q) : zgo w d y pc ls (zL x :: st) H Q := by
  subst hq; subst hz
  refine g_step hp hf rfl rfl ?_ K
  rw [zstep_eq (f := zs_lstore) rfl]
  simp only [zs_lstore]
  rw [if_pos hlt]
theorem g_as {x : Int} (hp : zprog.getD y [] = l) (hf : l.getD pc none = some (8, n, a, b, k, e)) (hq : pc + n = q) (hlt : a < ls.length) (h0 : 0 ≤ x) (hz : zset1 ls a (zR x) = ls') (K : zgo w d y q ls' st H Q) : zgo w d y pc ls (zR x :: st) H Q := by
  subst hq; subst hz
  refine g_step hp hf rfl rfl ?_ K
  rw [zstep_eq (f := zs_astore) rfl]
  simp only [zs_astore]
  rw [if_neg (by omega), if_pos hlt]
theorem g_inc {x : Int} (hp : zprog.getD y [] = l) (hf : l.getD pc none = some (9, n, a, b, k, e)) (hq : pc + n = q) (hl : ls[a]? = some (zI x)) (hz : zset1 ls a (zI (w32 (x + k))) = ls') (K : zgo w d y q ls' st H Q) : zgo w d y pc ls st H Q := by
  subst hq; subst hz
  refine g_step hp hf rfl rfl ?_ K
  rw [zstep_eq (f := zs_iinc) rfl]
  simp only [zs_iinc, hl]
theorem g_ar {x z r : Int} (hp : zprog.getD y [] = l) (hf : l.getD pc none = some (10, n, a, b, k, e)) (hq : pc + n = q) (hr : zIar a x z = some r) (K : zgo w d y q ls (zI r :: st) H Q) : zgo w d y pc ls (zI z :: zI x :: st) H Q := by
  subst hq
  refine g_step hp hf rfl rfl ?_ K
  rw [zstep_eq (f := zs_iar) rfl]
  simp only [zs_iar, hr]; rfl
theorem g_lar {x z r : Int} (hp : zprog.getD y [] = l) (hf : l.getD pc none = some (11, n, a, b, k, e)) (hq : pc + n = q) (hr : zLar a x z = some r) (K : zgo w d y q ls (zL r :: st) H Q) : zgo w d y pc ls (zL z :: zL x :: st) H Q := by
  subst hq
  refine g_step hp hf rfl rfl ?_ K
  rw [zstep_eq (f := zs_lar) rfl]
  simp only [zs_lar, hr]; rfl
theorem zr_div {x z : Int} (h : z ≠ 0) : zIar 6 x z = some (w32 (Int.tdiv x z)) := if_neg h
theorem zr_rem {x z : Int} (h : z ≠ 0) : zIar 7 x z = some (Int.tmod x z) := if_neg h
theorem zr_ldiv {x z : Int} (h : z ≠ 0) : zLar 6 x z = some (w64 (Int.tdiv x z)) := if_neg h
theorem zr_lrem {x z : Int} (h : z ≠ 0) : zLar 7 x z = some (Int.tmod x z) := if_neg h
theorem g_lsh {x z : Int} (hp : zprog.getD y [] = l) (hf : l.getD pc none = some (12, n, a, b, k, e)) (hq : pc + n = q) (K : zgo w d y q ls (zL (if a = 0 then zshlL x z else zushrL x z) :: st) H Q) : zgo w d y pc ls (zI z :: zL x :: st) H Q := by
  subst hq; exact g_step hp hf rfl rfl rfl K
theorem g_neg {x : Int} (hp : zprog.getD y [] = l) (hf : l.getD pc none = some (13, n, 0, b, k, e)) (hq : pc + n = q) (K : zgo w d y q ls (zI (w32 (-x)) :: st) H Q) : zgo w d y pc ls (zI x :: st) H Q := by
  subst hq; exact g_step hp hf rfl rfl rfl K
theorem g_i2l {x : Int} (hp : zprog.getD y [] = l) (hf : l.getD pc none = some (13, n, 1, b, k, e)) (hq : pc + n = q) (K : zgo w d y q ls (zL x :: st) H Q) : zgo w d y pc ls (zI x :: st) H Q := by
  subst hq; exact g_step hp hf rfl rfl rfl K
theorem g_l2i {x : Int} (hp : zprog.getD y [] = l) (hf : l.getD pc none = some (13, n, 2, b, k, e)) (hq : pc + n = q) (K : zgo w d y q ls (zI (w32 x) :: st) H Q) : zgo w d y pc ls (zL x :: st) H Q := by
  subst hq; exact g_step hp hf rfl rfl rfl K
theorem g_i2b {x : Int} (hp : zprog.getD y [] = l) (hf : l.getD pc none = some (13, n, 3, b, k, e)) (hq : pc + n = q) (K : zgo w d y q ls (zI (zi8 x) :: st) H Q) : zgo w d y pc ls (zI x :: st) H Q := by
  subst hq; exact g_step hp hf rfl rfl rfl K
theorem g_i2c {x : Int} (hp : zprog.getD y [] = l) (hf : l.getD pc none = some (13, n, 4, b, k, e)) (hq : pc + n = q) (hx : 0 ≤ x ∧ x < 65536) (K : zgo w d y q ls (zI x :: st) H Q) : zgo w d y pc ls (zI x :: st) H Q := by
  subst hq
  refine g_step hp hf rfl rfl ?_ K
  rw [zstep_eq (f := zs_un) rfl]
  simp only [zs_un]
  rw [if_pos hx]
theorem zcmp_cond (a : Nat) (x z : Int) : zcond a (zcmp x z) 0 = zcond a x z := by
  have hh : (zcmp x z = 1 ∧ z < x) ∨ (zcmp x z = 0 ∧ x = z) ∨ (zcmp x z = -1 ∧ x < z) := by
    unfold zcmp
    split
    · exact Or.inl ⟨rfl, by assumption⟩
    · split
      · exact Or.inr (Or.inl ⟨rfl, by assumption⟩)
      · exact Or.inr (Or.inr ⟨rfl, by omega⟩)
  generalize zcmp x z = c at hh
  match a with
  | 0 => show decide (c = 0) = decide (x = z); exact decide_eq_decide.mpr (by omega)
  | 1 => show decide (¬ c = 0) = decide (¬ x = z); exact decide_eq_decide.mpr (by omega)
  | 2 => show decide (c < 0) = decide (x < z); exact decide_eq_decide.mpr (by omega)
  | 3 => show decide (0 ≤ c) = decide (z ≤ x); exact decide_eq_decide.mpr (by omega)
  | 4 => show decide (0 < c) = decide (z < x); exact decide_eq_decide.mpr (by omega)
  | n + 5 => show decide (c ≤ 0) = decide (x ≤ z); exact decide_eq_decide.mpr (by omega)
theorem zc0 {x z : Int} : (zcond 0 x z = true → x = z) ∧ (zcond 0 x z = false → ¬ x = z) := by simp [zcond]
theorem zc1 {x z : Int} : (zcond 1 x z = true → ¬ x = z) ∧ (zcond 1 x z = false → x = z) := by simp [zcond]
theorem zc2 {x z : Int} : (zcond 2 x z = true → x < z) ∧ (zcond 2 x z = false → z ≤ x) := by simp [zcond]
theorem zc3 {x z : Int} : (zcond 3 x z = true → z ≤ x) ∧ (zcond 3 x z = false → x < z) := by simp [zcond]
theorem zc4 {x z : Int} : (zcond 4 x z = true → z < x) ∧ (zcond 4 x z = false → x ≤ z) := by simp [zcond]
theorem zc5 {x z : Int} : (zcond 5 x z = true → x ≤ z) ∧ (zcond 5 x z = false → z < x) := by simp [zcond]
theorem g_if {x : Int} {P N : Prop} (hp : zprog.getD y [] = l) (hf : l.getD pc none = some (15, n, a, b, k, e)) (hq : pc + n = q) (hc : (zcond a x 0 = true → P) ∧ (zcond a x 0 = false → N)) (h1 : P → zgo w d y b ls st H Q) (h2 : N → zgo w d y q ls st H Q) : zgo w d y pc ls (zI x :: st) H Q := by
  subst hq
  cases hz : zcond a x 0 with
  | true =>
    refine g_step hp hf rfl rfl ?_ (h1 (hc.1 hz))
    rw [zstep_eq (f := zs_if) rfl]
    simp only [zs_if, hz]; rfl
  | false =>
    refine g_step hp hf rfl rfl ?_ (h2 (hc.2 hz))
    rw [zstep_eq (f := zs_if) rfl]
    simp only [zs_if, hz]; rfl
theorem g_icmp {x z : Int} {P N : Prop} (hp : zprog.getD y [] = l) (hf : l.getD pc none = some (16, n, a, b, k, e)) (hq : pc + n = q) (hc : (zcond a x z = true → P) ∧ (zcond a x z = false → N)) (h1 : P → zgo w d y b ls st H Q) (h2 : N → zgo w d y q ls st H Q) : zgo w d y pc ls (zI z :: zI x :: st) H Q := by
  subst hq
  cases hz : zcond a x z with
  | true =>
    refine g_step hp hf rfl rfl ?_ (h1 (hc.1 hz))
    rw [zstep_eq (f := zs_icmp) rfl]
    simp only [zs_icmp, hz]; rfl
  | false =>
    refine g_step hp hf rfl rfl ?_ (h2 (hc.2 hz))
    rw [zstep_eq (f := zs_icmp) rfl]
    simp only [zs_icmp, hz]; rfl
theorem g_cmp {x z : Int} (hp : zprog.getD y [] = l) (hf : l.getD pc none = some (14, n, a, b, k, e)) (hq : pc + n = q) (K : zgo w d y q ls (zI (zcmp x z) :: st) H Q) : zgo w d y pc ls (zL z :: zL x :: st) H Q := by
  subst hq; exact g_step hp hf rfl rfl rfl K
/-- lcmp and the branch behind it -/
theorem g_lcmp {q2 n2 a2 b2 : Nat} {k2 : Int} {e2 : List Int} {x z : Int} {P N : Prop} (hp : zprog.getD y [] = l) (hf : l.getD pc none = some (14, n, a, b, k, e)) (hq : pc + n = q2) (hf2 : l.getD q2 none = some (15, n2, a2, b2, k2, e2)) (hq2 : q2 + n2 = q) (hc : (zcond a2 x z = true → P) ∧ (zcond a2 x z = false → N)) (h1 : P → zgo w d y b2 ls st H Q) (h2 : N → zgo w d y q ls st H Q) : zgo w d y pc ls (zL z :: zL x :: st) H Q := by
  refine g_cmp hp hf hq (g_if hp hf2 hq2 ?_ h1 h2)
  rw [zcmp_cond]; exact hc
theorem g_goto (hp : zprog.getD y [] = l) (hf : l.getD pc none = some (17, n, a, b, k, e)) (K : zgo w d y b ls st H Q) : zgo w d y pc ls st H Q :=
  g_step hp hf rfl rfl rfl K
theorem g_get {o : Int} {v : zV} {c N : Nat} (hp : zprog.getD y [] = l) (hf : l.getD pc none = some (18, n, a, b, k, e)) (hq : pc + n = q) (hsh : zsh (zS w H) o = some (c, N)) (hc : c = a ∧ b < N ∧ 32 ≤ o) (hv : ztag (zft a b) (zM w H o b) = v) (K : zgo w d y q ls (v :: st) H Q) : zgo w d y pc ls (zR o :: st) H Q := by
  subst hq
  refine g_step hp hf rfl rfl ?_ K
  rw [zstep_eq (f := zs_get) rfl]
  simp only [zs_get, hsh]
  rw [if_pos hc, ← hv]; rfl
theorem zM_up {o j x : Int} (ho : 32 ≤ o) (hx : zfx o j = none) : zup (zM w H) o j x = zM w (zup H o j x) := by
  funext a' j'
  unfold zup zM
  by_cases h : a' = o ∧ j' = j
  · obtain ⟨rfl, rfl⟩ := h
    simp only [and_self, if_true]
    rw [if_neg (by omega), hx]
  · rw [if_neg h]
    simp only [if_neg h]
theorem g_put {o : Int} {v : zV} {c N : Nat} (hp : zprog.getD y [] = l) (hf : l.getD pc none = some (19, n, a, b, k, e)) (hq : pc + n = q) (hsh : zsh (zS w H) o = some (c, N)) (hc : c = a ∧ b < N ∧ 32 ≤ o) (hx : zfx o b = none) (hv : zokv (zft a b) v = true) (K : zgo w d y q ls st (zup H o b v.2) Q) : zgo w d y pc ls (v :: zR o :: st) H Q := by
  subst hq
  refine g_stepU hp hf rfl rfl ?_ (zmk_up hc.2.2 hx) K
  rw [zstep_eq (f := zs_put) rfl]
  simp only [zs_put, hsh]
  rw [if_pos ⟨hc.1, hc.2.1, hc.2.2, hv⟩]
  show some (_, _, _, w.1, zSH, zup (zM w H) o b v.2) = _
  rw [zM_up hc.2.2 hx]; rfl
theorem g_len {o : Int} {c N : Nat} (hp : zprog.getD y [] = l) (hf : l.getD pc none = some (20, n, a, b, k, e)) (hq : pc + n = q) (hsh : zsh (zS w H) o = some (c, N)) (hc : 91 ≤ c) (K : zgo w d y q ls (zI N :: st) H Q) : zgo w d y pc ls (zR o :: st) H Q := by
  subst hq
  refine g_step hp hf rfl rfl ?_ K
  rw [zstep_eq (f := zs_alen) rfl]
  simp only [zs_alen, hsh]
  rw [if_pos hc]
theorem g_ald {o j : Int} {v : zV} {c N : Nat} (hp : zprog.getD y [] = l) (hf : l.getD pc none = some (21, n, a, b, k, e)) (hq : pc + n = q) (hsh : zsh (zS w H) o = some (c, N)) (hc : zldok a c = true) (hj : 0 ≤ j ∧ j < N) (hv : ztag (if a = 4 then 2 else if a = 1 then 1 else 0) (zM w H o j) = v) (K : zgo w d y q ls (v :: st) H Q) : zgo w d y pc ls (zI j :: zR o :: st) H Q := by
  subst hq
  refine g_step hp hf rfl rfl ?_ K
  rw [zstep_eq (f := zs_ald) rfl]
  simp only [zs_ald, hsh]
  rw [if_pos ⟨hc, hj⟩, ← hv]; rfl
theorem g_iast {o j x : Int} {N : Nat} (hp : zprog.getD y [] = l) (hf : l.getD pc none = some (22, n, 0, b, k, e)) (hq : pc + n = q) (hsh : zsh (zS w H) o = some (100, N)) (ho : 32 ≤ o) (hx : zfx o j = none) (hj : 0 ≤ j ∧ j < N) (K : zgo w d y q ls st (zup H o j x) Q) : zgo w d y pc ls (zI x :: zI j :: zR o :: st) H Q := by
  subst hq
  refine g_stepU hp hf rfl rfl ?_ (zmk_up ho hx) K
  rw [zstep_eq (f := zs_xast) rfl, show zs_xast (22, n, 0, b, k, e) pc = zs_iast (22, n, 0, b, k, e) pc from rfl]
  simp only [zs_iast, hsh]
  rw [if_pos ⟨trivial, hj.1, hj.2, ho⟩]
  show some (_, _, _, w.1, zSH, zup (zM w H) o j x) = _
  rw [zM_up ho hx]; rfl
theorem g_last {o j x : Int} {N : Nat} (hp : zprog.getD y [] = l) (hf : l.getD pc none = some (22, n, 1, b, k, e)) (hq : pc + n = q) (hsh : zsh (zS w H) o = some (101, N)) (ho : 32 ≤ o) (hx : zfx o j = none) (hj : 0 ≤ j ∧ j < N) (K : zgo w d y q ls st (zup H o j x) Q) : zgo w d y pc ls (zL x :: zI j :: zR o :: st) H Q := by
  subst hq
  refine g_stepU hp hf rfl rfl ?_ (zmk_up ho hx) K
  rw [zstep_eq (f := zs_xast) rfl, show zs_xast (22, n, 1, b, k, e) pc = zs_last (22, n, 1, b, k, e) pc from rfl]
  simp only [zs_last, hsh]
  rw [if_pos ⟨trivial, hj.1, hj.2, ho⟩]
  show some (_, _, _, w.1, zSH, zup (zM w H) o j x) = _
  rw [zM_up ho hx]; rfl
theorem g_bast {o j x : Int} {N : Nat} (hp : zprog.getD y [] = l) (hf : l.getD pc none = some (22, n, 2, b, k, e)) (hq : pc + n = q) (hsh : zsh (zS w H) o = some (102, N)) (ho : 32 ≤ o) (hx : zfx o j = none) (hj : 0 ≤ j ∧ j < N) (K : zgo w d y q ls st (zup H o j (zi8 x)) Q) : zgo w d y pc ls (zI x :: zI j :: zR o :: st) H Q := by
  subst hq
  refine g_stepU hp hf rfl rfl ?_ (zmk_up ho hx) K
  rw [zstep_eq (f := zs_xast) rfl, show zs_xast (22, n, 2, b, k, e) pc = zs_bast (22, n, 2, b, k, e) pc from rfl]
  simp only [zs_bast, hsh]
  rw [if_pos ⟨trivial, hj.1, hj.2, ho⟩]
  show some (_, _, _, w.1, zSH, zup (zM w H) o j (zi8 x)) = _
  rw [zM_up ho hx]; rfl
theorem g_zast {o j x : Int} {N : Nat} (hp : zprog.getD y [] = l) (hf : l.getD pc none = some (22, n, 2, b, k, e)) (hq : pc + n = q) (hsh : zsh (zS w H) o = some (103, N)) (ho : 32 ≤ o) (hx : zfx o j = none) (hj : 0 ≤ j ∧ j < N) (hb : x = 0 ∨ x = 1) (K : zgo w d y q ls st (zup H o j x) Q) : zgo w d y pc ls (zI x :: zI j :: zR o :: st) H Q := by
  subst hq
  refine g_stepU hp hf rfl rfl ?_ (zmk_up ho hx) K
  rw [zstep_eq (f := zs_xast) rfl, show zs_xast (22, n, 2, b, k, e) pc = zs_bast (22, n, 2, b, k, e) pc from rfl]
  simp only [zs_bast, hsh]
  rw [if_neg (fun z => absurd z.1 (by decide)), if_pos ⟨trivial, hj.1, hj.2, ho, by simpa [zbool] using hb⟩]
  show some (_, _, _, w.1, zSH, zup (zM w H) o j x) = _
  rw [zM_up ho hx]; rfl
theorem g_aast {o j x : Int} {N N2 : Nat} (hp : zprog.getD y [] = l) (hf : l.getD pc none = some (22, n, 4, b, k, e)) (hq : pc + n = q) (hsh : zsh (zS w H) o = some (104, N)) (hs2 : zsh (zS w H) x = some (0, N2)) (ho : 32 ≤ o) (ho2 : 32 ≤ x) (hx : zfx o j = none) (hj : 0 ≤ j ∧ j < N) (K : zgo w d y q ls st (zup H o j x) Q) : zgo w d y pc ls (zR x :: zI j :: zR o :: st) H Q := by
  subst hq
  refine g_stepU hp hf rfl rfl ?_ (zmk_up ho hx) K
  rw [zstep_eq (f := zs_xast) rfl, show zs_xast (22, n, 4, b, k, e) pc = zs_aast (22, n, 4, b, k, e) pc from rfl]
  simp only [zs_aast, hsh, hs2]
  rw [if_pos ⟨Or.inl ⟨trivial, trivial⟩, hj.1, hj.2, ho, ho2⟩]
  show some (_, _, _, w.1, zSH, zup (zM w H) o j x) = _
  rw [zM_up ho hx]; rfl
theorem g_dup {v : zV} (hp : zprog.getD y [] = l) (hf : l.getD pc none = some (23, n, a, b, k, e)) (hq : pc + n = q) (hv : zcat v = 1) (K : zgo w d y q ls (v :: v :: st) H Q) : zgo w d y pc ls (v :: st) H Q := by
  subst hq
  refine g_step hp hf rfl rfl ?_ K
  rw [zstep_eq (f := zs_dup) rfl]
  simp only [zs_dup]; rw [if_pos hv]
theorem g_dup2l {v : zV} (hp : zprog.getD y [] = l) (hf : l.getD pc none = some (24, n, a, b, k, e)) (hq : pc + n = q) (hv : zcat v = 2) (K : zgo w d y q ls (v :: v :: st) H Q) : zgo w d y pc ls (v :: st) H Q := by
  subst hq
  refine g_step hp hf rfl rfl ?_ K
  rw [zstep_eq (f := zs_dup2) rfl]
  simp only [zs_dup2]; rw [if_pos hv]
theorem g_dup2 {v u : zV} (hp : zprog.getD y [] = l) (hf : l.getD pc none = some (24, n, a, b, k, e)) (hq : pc + n = q) (hv : ¬ zcat v = 2) (hu : zcat u = 1) (K : zgo w d y q ls (v :: u :: v :: u :: st) H Q) : zgo w d y pc ls (v :: u :: st) H Q := by
  subst hq
  refine g_step hp hf rfl rfl ?_ K
  rw [zstep_eq (f := zs_dup2) rfl]
  simp only [zs_dup2]; rw [if_neg hv, if_pos hu]
theorem g_pop {v : zV} (hp : zprog.getD y [] = l) (hf : l.getD pc none = some (33, n, a, b, k, e)) (hq : pc + n = q) (hv : zcat v = 1) (K : zgo w d y q ls st H Q) : zgo w d y pc ls (v :: st) H Q := by
  subst hq
  refine g_step hp hf rfl rfl ?_ K
  rw [zstep_eq (f := zs_pop) rfl]
  simp only [zs_pop]; rw [if_pos hv]
theorem g_tabO {x : Int} (hp : zprog.getD y [] = l) (hf : l.getD pc none = some (30, n, a, b, k, e)) (hx : x < k ∨ k + e.length ≤ x) (K : zgo w d y b ls st H Q) : zgo w d y pc ls (zI x :: st) H Q := by
  refine g_step hp hf rfl rfl ?_ K
  rw [zstep_eq (f := zs_table) rfl]
  simp only [zs_table]; rw [if_pos hx]
theorem g_tabI {x : Int} (hp : zprog.getD y [] = l) (hf : l.getD pc none = some (30, n, a, b, k, e)) (hx : ¬ (x < k ∨ k + e.length ≤ x)) (hq : (e.getD (x - k).toNat 0).toNat = q) (K : zgo w d y q ls st H Q) : zgo w d y pc ls (zI x :: st) H Q := by
  subst hq
  refine g_step hp hf rfl rfl ?_ K
  rw [zstep_eq (f := zs_table) rfl]
  simp only [zs_table]; rw [if_neg hx]
theorem g_look {x : Int} (hp : zprog.getD y [] = l) (hf : l.getD pc none = some (36, n, a, b, k, e)) (hq : zlook b x e = q) (K : zgo w d y q ls st H Q) : zgo w d y pc ls (zI x :: st) H Q := by
  subst hq
  exact g_step hp hf rfl rfl rfl K
theorem g_stat {v : zV} (hp : zprog.getD y [] = l) (hf : l.getD pc none = some (31, n, a, b, k, e)) (hq : pc + n = q) (hv : (if a = 0 then zR 1 else if a = 1 then zI 1 else zO) = v) (K : zgo w d y q ls (v :: st) H Q) : zgo w d y pc ls st H Q := by
  subst hq
  refine g_step hp hf rfl rfl ?_ K
  rw [zstep_eq (f := zs_stat) rfl]
  rw [← hv]
  simp only [zs_stat]
  split
  · rfl
  · rfl
  · rename_i h0 h1
    rw [if_neg h0, if_neg h1]
theorem g_ldcs {v : zV} (hp : zprog.getD y [] = l) (hf : l.getD pc none = some (32, n, a, b, k, e)) (hq : pc + n = q) (ha : a < 8) (hv : zR (2 + a) = v) (K : zgo w d y q ls (v :: st) H Q) : zgo w d y pc ls st H Q := by
  subst hq
  refine g_step hp hf rfl rfl ?_ K
  rw [zstep_eq (f := zs_ldcs) rfl]
  simp only [zs_ldcs]; rw [if_pos ha, ← hv]
theorem g_sget {o : Int} {v : zV} (hp : zprog.getD y [] = l) (hf : l.getD pc none = some (35, n, a, b, k, e)) (hq : pc + n = q) (ho : 2 ≤ o ∧ o < 10) (hv : (if a = 0 then zR (o + 8) else zI 0) = v) (K : zgo w d y q ls (v :: st) H Q) : zgo w d y pc ls (zR o :: st) H Q := by
  subst hq
  refine g_step hp hf rfl rfl ?_ K
  rw [zstep_eq (f := zs_sget) rfl]
  simp only [zs_sget]; rw [if_pos ho, ← hv]
theorem g_mmax {x z : Int} (hp : zprog.getD y [] = l) (hf : l.getD pc none = some (37, n, a, b, k, e)) (hq : pc + n = q) (hs : (st.map zcat).sum ≤ 8) (K : zgo w d y q ls (zI (if x < z then z else x) :: st) H Q) : zgo w d y pc ls (zI z :: zI x :: st) H Q := by
  subst hq
  refine g_step hp hf rfl rfl ?_ K
  rw [zstep_eq (f := zs_math 0) rfl]
  simp only [zs_math]; rw [if_pos hs]
theorem g_mmin {x z : Int} (hp : zprog.getD y [] = l) (hf : l.getD pc none = some (38, n, a, b, k, e)) (hq : pc + n = q) (hs : (st.map zcat).sum ≤ 8) (K : zgo w d y q ls (zI (if z < x then z else x) :: st) H Q) : zgo w d y pc ls (zI z :: zI x :: st) H Q := by
  subst hq
  refine g_step hp hf rfl rfl ?_ K
  rw [zstep_eq (f := zs_math 1) rfl]
  simp only [zs_math]; rw [if_pos hs]
theorem g_mmaxL {x z : Int} (hp : zprog.getD y [] = l) (hf : l.getD pc none = some (39, n, a, b, k, e)) (hq : pc + n = q) (hs : (st.map zcat).sum ≤ 8) (K : zgo w d y q ls (zL (if z < x then x else z) :: st) H Q) : zgo w d y pc ls (zL z :: zL x :: st) H Q := by
  subst hq
  refine g_step hp hf rfl rfl ?_ K
  rw [zstep_eq (f := zs_math 2) rfl]
  simp only [zs_math]; rw [if_pos hs]
theorem g_ret {r : zV} (hp : zprog.getD y [] = l) (hf : l.getD pc none = some (100, n, a, b, k, e)) (hr : zret a st = some r) (K : Q r H) : zgo w d y pc ls st H Q := by
  refine ⟨1, r, H, ?_, zmk_rfl, K⟩
  have hff : zfetch y pc = some (100, n, a, b, k, e) := by unfold zfetch; rw [hp]; exact hf
  rw [ex, hff]
  dsimp only
  rw [if_pos rfl, hr]; rfl
theorem zret_b {x : Int} (h : x = 0 ∨ x = 1) : zret 4 [zI x] = some (zI x) := by
  show (if zbool x = true then some (zI x) else none) = _
  rw [if_pos (by simpa [zbool] using h)]
theorem zret_r {x : Int} (h : 0 ≤ x) : zret 3 [zR x] = some (zR x) := by
  show (if x < 0 then none else some (zR x)) = _
  rw [if_neg (by omega)]
theorem g_call {t : Nat} {as rest : List zV} (hp : zprog.getD y [] = l) (hf : l.getD pc none = some (101, n, t, b, k, e)) (hq : pc + n = q) (hd : 0 < d) (hst : as.reverse ++ rest = st) (hlen : as.length = k.toNat) (hsum : (rest.map zcat).sum ≤ 8) (harg : (zargs as).length ≤ zml t) (hrec : zrecv (zS w H) b t as = true) (hrf : as.all zrefok = true)
    (K : zcl w (d - 1) t as H (fun r H' => zgo w d y q ls (if r.1 = 3 then rest else r :: rest) H' Q)) : zgo w d y pc ls st H Q := by
  obtain ⟨d', rfl⟩ : ∃ d', d = d' + 1 := ⟨d - 1, by omega⟩
  subst hq; subst hst
  obtain ⟨n1, r1, H1, h1, hm1, n2, r2, H2, h2, hm2, hQ⟩ := K
  rw [Nat.add_sub_cancel] at h1
  refine ⟨n1 + n2 + 1, r2, H2, ?_, zmk_tr hm1 hm2, hQ⟩
  have hff : zfetch y pc = some (101, n, t, b, k, e) := by unfold zfetch; rw [hp]; exact hf
  rw [ex, hff]
  dsimp only
  rw [if_neg (by decide), if_pos rfl]
  have hlr : as.reverse.length = k.toNat := by rw [List.length_reverse]; exact hlen
  have htake : (as.reverse ++ rest).take k.toNat = as.reverse := by rw [← hlr]; exact List.take_left' rfl
  have hdrop : (as.reverse ++ rest).drop k.toNat = rest := by rw [← hlr]; exact List.drop_left' rfl
  have hz : zcall (101, n, t, b, k, e) (as.reverse ++ rest) (zS w H) = some (as, rest) := by
    unfold zcall
    dsimp only
    rw [htake, hdrop, List.reverse_reverse, if_pos ⟨hlen, hsum, harg, hrec, hrf⟩]
  rw [hz]
  dsimp only
  rw [ex_more2 h1 (by omega : n1 ≤ n1 + n2)]
  exact ex_more2 h2 (by omega)
def zclI (w : zWt) (d t : Nat) (as : List zV) (H : zHt) (K : Int → zHt → Prop) : Prop := zcl w d t as H (fun r H' => ∃ x, r = zI x ∧ K x H')
def zclL (w : zWt) (d t : Nat) (as : List zV) (H : zHt) (K : Int → zHt → Prop) : Prop := zcl w d t as H (fun r H' => ∃ x, r = zL x ∧ K x H')
def zclR (w : zWt) (d t : Nat) (as : List zV) (H : zHt) (K : Int → zHt → Prop) : Prop := zcl w d t as H (fun r H' => ∃ x, r = zR x ∧ K x H')
def zclV (w : zWt) (d t : Nat) (as : List zV) (H : zHt) (K : zHt → Prop) : Prop := zcl w d t as H (fun r H' => r = zJ ∧ K H')
theorem g_callI {t : Nat} {as rest : List zV} (hp : zprog.getD y [] = l) (hf : l.getD pc none = some (101, n, t, b, k, e)) (hq : pc + n = q) (hd : 0 < d) (hst : as.reverse ++ rest = st) (hlen : as.length = k.toNat) (hsum : (rest.map zcat).sum ≤ 8) (harg : (zargs as).length ≤ zml t) (hrec : zrecv (zS w H) b t as = true) (hrf : as.all zrefok = true)
    {K : Int → zHt → Prop} (hK : zclI w (d - 1) t as H K) (hk : ∀ x H', K x H' → zgo w d y q ls (zI x :: rest) H' Q) : zgo w d y pc ls st H Q :=
  g_call hp hf hq hd hst hlen hsum harg hrec hrf (g_mono hK (fun r H' hr => by obtain ⟨x, rfl, h⟩ := hr; exact hk x H' h))
theorem g_callL {t : Nat} {as rest : List zV} (hp : zprog.getD y [] = l) (hf : l.getD pc none = some (101, n, t, b, k, e)) (hq : pc + n = q) (hd : 0 < d) (hst : as.reverse ++ rest = st) (hlen : as.length = k.toNat) (hsum : (rest.map zcat).sum ≤ 8) (harg : (zargs as).length ≤ zml t) (hrec : zrecv (zS w H) b t as = true) (hrf : as.all zrefok = true)
    {K : Int → zHt → Prop} (hK : zclL w (d - 1) t as H K) (hk : ∀ x H', K x H' → zgo w d y q ls (zL x :: rest) H' Q) : zgo w d y pc ls st H Q :=
  g_call hp hf hq hd hst hlen hsum harg hrec hrf (g_mono hK (fun r H' hr => by obtain ⟨x, rfl, h⟩ := hr; exact hk x H' h))
theorem g_callR {t : Nat} {as rest : List zV} (hp : zprog.getD y [] = l) (hf : l.getD pc none = some (101, n, t, b, k, e)) (hq : pc + n = q) (hd : 0 < d) (hst : as.reverse ++ rest = st) (hlen : as.length = k.toNat) (hsum : (rest.map zcat).sum ≤ 8) (harg : (zargs as).length ≤ zml t) (hrec : zrecv (zS w H) b t as = true) (hrf : as.all zrefok = true)
    {K : Int → zHt → Prop} (hK : zclR w (d - 1) t as H K) (hk : ∀ x H', K x H' → zgo w d y q ls (zR x :: rest) H' Q) : zgo w d y pc ls st H Q :=
  g_call hp hf hq hd hst hlen hsum harg hrec hrf (g_mono hK (fun r H' hr => by obtain ⟨x, rfl, h⟩ := hr; exact hk x H' h))
theorem g_callV {t : Nat} {as rest : List zV} (hp : zprog.getD y [] = l) (hf : l.getD pc none = some (101, n, t, b, k, e)) (hq : pc + n = q) (hd : 0 < d) (hst : as.reverse ++ rest = st) (hlen : as.length = k.toNat) (hsum : (rest.map zcat).sum ≤ 8) (harg : (zargs as).length ≤ zml t) (hrec : zrecv (zS w H) b t as = true) (hrf : as.all zrefok = true)
    {K : zHt → Prop} (hK : zclV w (d - 1) t as H K) (hk : ∀ H', K H' → zgo w d y q ls rest H' Q) : zgo w d y pc ls st H Q :=
  g_call hp hf hq hd hst hlen hsum harg hrec hrf (g_mono hK (fun r H' hr => by obtain ⟨rfl, h⟩ := hr; exact hk H' h))
end ZR
-- Walks and Desks, by any number
def zisW (a : Int) : Prop := (a = 46 ∨ a = 69 ∨ a = 71 ∨ a = 73 ∨ a = 75 ∨ a = 77 ∨ a = 79)
def zisD (a : Int) : Prop := (a = 40 ∨ a = 42 ∨ a = 53 ∨ a = 55 ∨ a = 57 ∨ a = 59 ∨ a = 61 ∨ a = 63 ∨ a = 65 ∨ a = 67)
theorem zW_sh {w : zWt} {H : zHt} {a : Int} (h : zisW a) : zsh (zS w H) a = some (4, 5) := by
  rcases h with rfl | rfl | rfl | rfl | rfl | rfl | rfl <;> rfl
theorem zW_sh1 {w : zWt} {H : zHt} {a : Int} (h : zisW a) : zsh (zS w H) (a + 1) = some (100, 101) := by
  rcases h with rfl | rfl | rfl | rfl | rfl | rfl | rfl <;> rfl
theorem zD_sh {w : zWt} {H : zHt} {a : Int} (h : zisD a) : zsh (zS w H) a = some (0, 5) := by
  rcases h with rfl | rfl | rfl | rfl | rfl | rfl | rfl | rfl | rfl | rfl <;> rfl
theorem zD_sh1 {w : zWt} {H : zHt} {a : Int} (h : zisD a) : zsh (zS w H) (a + 1) = some (100, 6) := by
  rcases h with rfl | rfl | rfl | rfl | rfl | rfl | rfl | rfl | rfl | rfl <;> rfl
theorem zW_ge {a : Int} (h : zisW a) : 32 ≤ a := by rcases h with rfl | rfl | rfl | rfl | rfl | rfl | rfl <;> decide
theorem zD_ge {a : Int} (h : zisD a) : 32 ≤ a := by rcases h with rfl | rfl | rfl | rfl | rfl | rfl | rfl | rfl | rfl | rfl <;> decide
theorem zW_f0 {w : zWt} {H : zHt} {a : Int} (h : zisW a) : zM w H a 0 = a + 1 := by rcases h with rfl | rfl | rfl | rfl | rfl | rfl | rfl <;> rfl
theorem zD_f0 {w : zWt} {H : zHt} {a : Int} (h : zisD a) : zM w H a 0 = a + 1 := by rcases h with rfl | rfl | rfl | rfl | rfl | rfl | rfl | rfl | rfl | rfl <;> rfl
theorem zW_fx {a : Int} (h : zisW a) (k : Int) (hk : ¬ k = 0) : zfx a k = none := by
  have e : ∀ a : Int, zSH[(a - 32).toNat]? = some (4, 5) → zfx a k = none := fun a q => by unfold zfx; rw [q]; exact if_neg hk
  rcases h with rfl | rfl | rfl | rfl | rfl | rfl | rfl <;> exact e _ rfl
theorem zD_fx {a : Int} (h : zisD a) (k : Int) (hk : ¬ k = 0) : zfx a k = none := by
  have e : ∀ a : Int, zSH[(a - 32).toNat]? = some (0, 5) → zfx a k = none := fun a q => by unfold zfx; rw [q]; exact if_neg hk
  rcases h with rfl | rfl | rfl | rfl | rfl | rfl | rfl | rfl | rfl | rfl <;> exact e _ rfl
theorem zW_fx1 {a : Int} (h : zisW a) (k : Int) : zfx (a + 1) k = none := by
  rcases h with rfl | rfl | rfl | rfl | rfl | rfl | rfl <;> rfl
theorem zD_fx1 {a : Int} (h : zisD a) (k : Int) : zfx (a + 1) k = none := by
  rcases h with rfl | rfl | rfl | rfl | rfl | rfl | rfl | rfl | rfl | rfl <;> rfl
theorem zM_no {w : zWt} {H : zHt} {a k : Int} (h : 32 ≤ a) (hx : zfx a k = none) : zM w H a k = H a k := by
  unfold zM
  rw [if_neg (by omega), hx]
theorem zW_walk {j : Int} (h : 0 ≤ j ∧ j < 6) : zisW (69 + 2 * j) := by unfold zisW; omega
end
section
/-! more rules, in the form that the segments' program asks for -/
abbrev zQI (K : Int → zHt → Prop) : zV → zHt → Prop := fun r H' => ∃ x, r = zI x ∧ K x H'
abbrev zQL (K : Int → zHt → Prop) : zV → zHt → Prop := fun r H' => ∃ x, r = zL x ∧ K x H'
abbrev zQR (K : Int → zHt → Prop) : zV → zHt → Prop := fun r H' => ∃ x, r = zR x ∧ K x H'
abbrev zQV (K : zHt → Prop) : zV → zHt → Prop := fun r H' => r = zJ ∧ K H'
section ZQ
variable {w : zWt} {d y pc q : Nat} {ls ls' st : List zV} {H : zHt} {Q : zV → zHt → Prop} {l : List (Option zC)} {n a b : Nat} {k : Int} {e : List Int}
theorem g_putI {o x : Int} {c N : Nat} (hp : zprog.getD y [] = l) (hf : l.getD pc none = some (19, n, a, b, k, e)) (hq : pc + n = q) (hsh : zsh (zS w H) o = some (c, N)) (hc : c = a ∧ b < N ∧ 32 ≤ o) (hx : zfx o b = none) (hv : zokv (zft a b) (zI x) = true) (K : zgo w d y q ls st (zup H o b x) Q) : zgo w d y pc ls (zI x :: zR o :: st) H Q :=
  g_put hp hf hq hsh hc hx hv K
theorem g_putL {o x : Int} {c N : Nat} (hp : zprog.getD y [] = l) (hf : l.getD pc none = some (19, n, a, b, k, e)) (hq : pc + n = q) (hsh : zsh (zS w H) o = some (c, N)) (hc : c = a ∧ b < N ∧ 32 ≤ o) (hx : zfx o b = none) (hv : zokv (zft a b) (zL x) = true) (K : zgo w d y q ls st (zup H o b x) Q) : zgo w d y pc ls (zL x :: zR o :: st) H Q :=
  g_put hp hf hq hsh hc hx hv K
theorem zokv3 {x : Int} (h : x = 0 ∨ x = 1) : zokv 3 (zI x) = true := by
  rcases h with rfl | rfl <;> rfl
theorem zrecv_of {S : zHp} {b t : Nat} {o : Int} {as : List zV} {c N : Nat} (h : zsh S o = some (c, N)) (hc : (c == zin t 2) = true) : zrecv S b t (zR o :: as) = true := by
  unfold zrecv
  split
  · rfl
  · show (match zsh S o with | some (c, _) => c == zin t 2 | none => false) = true
    rw [h]; exact hc
theorem g_tabE {x z : Int} (hp : zprog.getD y [] = l) (hf : l.getD pc none = some (30, n, a, b, k, e)) (hz : x = z) (hx : ¬ (z < k ∨ k + e.length ≤ z)) (hq : (e.getD (z - k).toNat 0).toNat = q) (K : zgo w d y q ls st H Q) : zgo w d y pc ls (zI x :: st) H Q := by
  subst hz; exact g_tabI hp hf hx hq K
theorem g_lookE {x z : Int} (hp : zprog.getD y [] = l) (hf : l.getD pc none = some (36, n, a, b, k, e)) (hz : x = z) (hq : zlook b z e = q) (K : zgo w d y q ls st H Q) : zgo w d y pc ls (zI x :: st) H Q := by
  subst hz; exact g_look hp hf hq K
end ZQ
theorem zW_ge1 {a : Int} (h : zisW a) : 32 ≤ a + 1 := by have := zW_ge h; omega
theorem zD_ge1 {a : Int} (h : zisD a) : 32 ≤ a + 1 := by have := zD_ge h; omega
theorem zclI_eq {w : zWt} {d t : Nat} {as : List zV} {H H' : zHt} {x : Int} {K : Int → zHt → Prop} (h : ∀ K : Int → zHt → Prop, K x H' → zclI w d t as H K) : zclI w d t as H K = K x H' := by
  refine propext ⟨fun q => ?_, h K⟩
  obtain ⟨n, r, H2, -, -, ⟨x1, e1, e2, e3⟩, x2, e4, e5⟩ := zgo_det (h (fun x1 H1 => x1 = x ∧ H1 = H') ⟨rfl, rfl⟩) q
  subst e2; subst e3; subst e1
  cases e4; exact e5
theorem zclL_eq {w : zWt} {d t : Nat} {as : List zV} {H H' : zHt} {x : Int} {K : Int → zHt → Prop} (h : ∀ K : Int → zHt → Prop, K x H' → zclL w d t as H K) : zclL w d t as H K = K x H' := by
  refine propext ⟨fun q => ?_, h K⟩
  obtain ⟨n, r, H2, -, -, ⟨x1, e1, e2, e3⟩, x2, e4, e5⟩ := zgo_det (h (fun x1 H1 => x1 = x ∧ H1 = H') ⟨rfl, rfl⟩) q
  subst e2; subst e3; subst e1
  cases e4; exact e5
theorem zclR_eq {w : zWt} {d t : Nat} {as : List zV} {H H' : zHt} {x : Int} {K : Int → zHt → Prop} (h : ∀ K : Int → zHt → Prop, K x H' → zclR w d t as H K) : zclR w d t as H K = K x H' := by
  refine propext ⟨fun q => ?_, h K⟩
  obtain ⟨n, r, H2, -, -, ⟨x1, e1, e2, e3⟩, x2, e4, e5⟩ := zgo_det (h (fun x1 H1 => x1 = x ∧ H1 = H') ⟨rfl, rfl⟩) q
  subst e2; subst e3; subst e1
  cases e4; exact e5
theorem zclV_eq {w : zWt} {d t : Nat} {as : List zV} {H H' : zHt} {K : zHt → Prop} (h : ∀ K : zHt → Prop, K H' → zclV w d t as H K) : zclV w d t as H K = K H' := by
  refine propext ⟨fun q => ?_, h K⟩
  obtain ⟨n, r, H2, -, -, ⟨e1, e3⟩, e4, e5⟩ := zgo_det (h (fun H1 => H1 = H') rfl) q
  subst e3; exact e5
theorem zwk_val {w : zWt} {H : zHt} {j : Int} (h : 0 ≤ j ∧ j < 6) : zM w H 45 j = 69 + 2 * j := by
  unfold zM
  rw [if_neg (by decide)]
  have e : zfx 45 j = some (69 + 2 * j) := by
    show (if 0 ≤ j ∧ j < 6 then some (69 + 2 * j) else none) = _
    rw [if_pos h]
  rw [e]
end
