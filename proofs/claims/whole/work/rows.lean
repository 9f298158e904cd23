section
-- ===== PART A: goes FIRST, ahead of the names: the tables' words, and 'selects' of the private methods out of them =====
/-- a private method of a class that the tables say can be made, by its rows of tables_1 -/
def lw_okq (q : MethodName × Nat) : Prop := (q.1.cls ≠ "java/lang/invoke/MethodHandle" ∧ q.1.cls ≠ "java/lang/invoke/VarHandle") ∧ Cond.instantiable q.1.cls q.2 ∈ tables_1 ∧ Cond.privateMethod q.1 ∈ tables_1 ∧ Cond.instanceMethod q.1 ∈ tables_1
theorem lw_p0 : lw_okq (⟨"WokenByKettle$Kitchen", "add", "(III)I"⟩, 6) := ⟨⟨by decide +kernel, by decide +kernel⟩, List.mem_of_getElem? (i := 27) (by decide +kernel), List.mem_of_getElem? (i := 414) (by decide +kernel), List.mem_of_getElem? (i := 415) (by decide +kernel)⟩
theorem lw_p1 : lw_okq (⟨"WokenByKettle$Kitchen", "fits", "(III)Z"⟩, 6) := ⟨⟨by decide +kernel, by decide +kernel⟩, List.mem_of_getElem? (i := 27) (by decide +kernel), List.mem_of_getElem? (i := 418) (by decide +kernel), List.mem_of_getElem? (i := 419) (by decide +kernel)⟩
theorem lw_p2 : lw_okq (⟨"WokenByKettle$Kitchen", "write", "(III)V"⟩, 6) := ⟨⟨by decide +kernel, by decide +kernel⟩, List.mem_of_getElem? (i := 27) (by decide +kernel), List.mem_of_getElem? (i := 426) (by decide +kernel), List.mem_of_getElem? (i := 427) (by decide +kernel)⟩
theorem lw_p3 : lw_okq (⟨"WokenByKettle$Shelves", "refusalOfShorts", "(I)I"⟩, 5) := ⟨⟨by decide +kernel, by decide +kernel⟩, List.mem_of_getElem? (i := 355) (by decide +kernel), List.mem_of_getElem? (i := 437) (by decide +kernel), List.mem_of_getElem? (i := 438) (by decide +kernel)⟩
theorem lw_p4 : lw_okq (⟨"WokenByKettle$Shelves", "refusalOf", "(II)I"⟩, 5) := ⟨⟨by decide +kernel, by decide +kernel⟩, List.mem_of_getElem? (i := 355) (by decide +kernel), List.mem_of_getElem? (i := 441) (by decide +kernel), List.mem_of_getElem? (i := 442) (by decide +kernel)⟩
theorem lw_p5 : lw_okq (⟨"WokenByKettle", "addFromRow", "(IJ)Z"⟩, 10) := ⟨⟨by decide +kernel, by decide +kernel⟩, List.mem_of_getElem? (i := 19) (by decide +kernel), List.mem_of_getElem? (i := 449) (by decide +kernel), List.mem_of_getElem? (i := 450) (by decide +kernel)⟩
theorem lw_p6 : lw_okq (⟨"WokenByKettle$Shelves", "sizeOf", "(I)I"⟩, 5) := ⟨⟨by decide +kernel, by decide +kernel⟩, List.mem_of_getElem? (i := 355) (by decide +kernel), List.mem_of_getElem? (i := 453) (by decide +kernel), List.mem_of_getElem? (i := 454) (by decide +kernel)⟩
theorem lw_p7 : lw_okq (⟨"WokenByKettle$Shelves", "cell", "(II)J"⟩, 5) := ⟨⟨by decide +kernel, by decide +kernel⟩, List.mem_of_getElem? (i := 355) (by decide +kernel), List.mem_of_getElem? (i := 457) (by decide +kernel), List.mem_of_getElem? (i := 458) (by decide +kernel)⟩
theorem lw_p8 : lw_okq (⟨"WokenByKettle$Shelves", "refusalOfPlace", "(II)I"⟩, 5) := ⟨⟨by decide +kernel, by decide +kernel⟩, List.mem_of_getElem? (i := 355) (by decide +kernel), List.mem_of_getElem? (i := 461) (by decide +kernel), List.mem_of_getElem? (i := 462) (by decide +kernel)⟩
theorem lw_p9 : lw_okq (⟨"WokenByKettle$Shelves", "reaches", "(III)Z"⟩, 5) := ⟨⟨by decide +kernel, by decide +kernel⟩, List.mem_of_getElem? (i := 355) (by decide +kernel), List.mem_of_getElem? (i := 465) (by decide +kernel), List.mem_of_getElem? (i := 466) (by decide +kernel)⟩
theorem lw_p10 : lw_okq (⟨"WokenByKettle$Kitchen", "knows", "(II)Z"⟩, 6) := ⟨⟨by decide +kernel, by decide +kernel⟩, List.mem_of_getElem? (i := 27) (by decide +kernel), List.mem_of_getElem? (i := 473) (by decide +kernel), List.mem_of_getElem? (i := 474) (by decide +kernel)⟩
theorem lw_p11 : lw_okq (⟨"WokenByKettle$Kitchen", "has", "(I)Z"⟩, 6) := ⟨⟨by decide +kernel, by decide +kernel⟩, List.mem_of_getElem? (i := 27) (by decide +kernel), List.mem_of_getElem? (i := 477) (by decide +kernel), List.mem_of_getElem? (i := 478) (by decide +kernel)⟩
theorem lw_p12 : lw_okq (⟨"WokenByKettle$Kitchen", "told", "(II)I"⟩, 6) := ⟨⟨by decide +kernel, by decide +kernel⟩, List.mem_of_getElem? (i := 27) (by decide +kernel), List.mem_of_getElem? (i := 482) (by decide +kernel), List.mem_of_getElem? (i := 483) (by decide +kernel)⟩
theorem lw_p13 : lw_okq (⟨"WokenByKettle$Changes", "tell", "(III)V"⟩, 7) := ⟨⟨by decide +kernel, by decide +kernel⟩, List.mem_of_getElem? (i := 299) (by decide +kernel), List.mem_of_getElem? (i := 486) (by decide +kernel), List.mem_of_getElem? (i := 487) (by decide +kernel)⟩
theorem lw_p14 : lw_okq (⟨"WokenByKettle$Changes", "forgetOldest", "()V"⟩, 7) := ⟨⟨by decide +kernel, by decide +kernel⟩, List.mem_of_getElem? (i := 299) (by decide +kernel), List.mem_of_getElem? (i := 490) (by decide +kernel), List.mem_of_getElem? (i := 491) (by decide +kernel)⟩
theorem lw_p15 : lw_okq (⟨"WokenByKettle$Law", "append", "(I)I"⟩, 9) := ⟨⟨by decide +kernel, by decide +kernel⟩, List.mem_of_getElem? (i := 35) (by decide +kernel), List.mem_of_getElem? (i := 507) (by decide +kernel), List.mem_of_getElem? (i := 508) (by decide +kernel)⟩
def lw_privs_1 : List (MethodName × Nat) := [(⟨"WokenByKettle$Kitchen", "add", "(III)I"⟩, 6), (⟨"WokenByKettle$Kitchen", "fits", "(III)Z"⟩, 6), (⟨"WokenByKettle$Kitchen", "write", "(III)V"⟩, 6), (⟨"WokenByKettle$Shelves", "refusalOfShorts", "(I)I"⟩, 5), (⟨"WokenByKettle$Shelves", "refusalOf", "(II)I"⟩, 5), (⟨"WokenByKettle", "addFromRow", "(IJ)Z"⟩, 10), (⟨"WokenByKettle$Shelves", "sizeOf", "(I)I"⟩, 5), (⟨"WokenByKettle$Shelves", "cell", "(II)J"⟩, 5), (⟨"WokenByKettle$Shelves", "refusalOfPlace", "(II)I"⟩, 5), (⟨"WokenByKettle$Shelves", "reaches", "(III)Z"⟩, 5), (⟨"WokenByKettle$Kitchen", "knows", "(II)Z"⟩, 6), (⟨"WokenByKettle$Kitchen", "has", "(I)Z"⟩, 6), (⟨"WokenByKettle$Kitchen", "told", "(II)I"⟩, 6), (⟨"WokenByKettle$Changes", "tell", "(III)V"⟩, 7), (⟨"WokenByKettle$Changes", "forgetOldest", "()V"⟩, 7), (⟨"WokenByKettle$Law", "append", "(I)I"⟩, 9)]
theorem lw_r1 : ∀ q ∈ lw_privs_1, lw_okq q := List.forall_mem_cons.mpr ⟨lw_p0, List.forall_mem_cons.mpr ⟨lw_p1, List.forall_mem_cons.mpr ⟨lw_p2, List.forall_mem_cons.mpr ⟨lw_p3, List.forall_mem_cons.mpr ⟨lw_p4, List.forall_mem_cons.mpr ⟨lw_p5, List.forall_mem_cons.mpr ⟨lw_p6, List.forall_mem_cons.mpr ⟨lw_p7, List.forall_mem_cons.mpr ⟨lw_p8, List.forall_mem_cons.mpr ⟨lw_p9, List.forall_mem_cons.mpr ⟨lw_p10, List.forall_mem_cons.mpr ⟨lw_p11, List.forall_mem_cons.mpr ⟨lw_p12, List.forall_mem_cons.mpr ⟨lw_p13, List.forall_mem_cons.mpr ⟨lw_p14, List.forall_mem_cons.mpr ⟨lw_p15, fun _ h => absurd h List.not_mem_nil⟩⟩⟩⟩⟩⟩⟩⟩⟩⟩⟩⟩⟩⟩⟩⟩
theorem lw_p16 : lw_okq (⟨"WokenByKettle$Law", "adopt", "()Z"⟩, 9) := ⟨⟨by decide +kernel, by decide +kernel⟩, List.mem_of_getElem? (i := 35) (by decide +kernel), List.mem_of_getElem? (i := 515) (by decide +kernel), List.mem_of_getElem? (i := 516) (by decide +kernel)⟩
theorem lw_p17 : lw_okq (⟨"WokenByKettle$Law", "readLine", "()V"⟩, 9) := ⟨⟨by decide +kernel, by decide +kernel⟩, List.mem_of_getElem? (i := 35) (by decide +kernel), List.mem_of_getElem? (i := 519) (by decide +kernel), List.mem_of_getElem? (i := 520) (by decide +kernel)⟩
theorem lw_p18 : lw_okq (⟨"WokenByKettle$Law", "next", "()I"⟩, 9) := ⟨⟨by decide +kernel, by decide +kernel⟩, List.mem_of_getElem? (i := 35) (by decide +kernel), List.mem_of_getElem? (i := 529) (by decide +kernel), List.mem_of_getElem? (i := 530) (by decide +kernel)⟩
theorem lw_p19 : lw_okq (⟨"WokenByKettle$Law", "readOperand", "(I)V"⟩, 9) := ⟨⟨by decide +kernel, by decide +kernel⟩, List.mem_of_getElem? (i := 35) (by decide +kernel), List.mem_of_getElem? (i := 533) (by decide +kernel), List.mem_of_getElem? (i := 534) (by decide +kernel)⟩
theorem lw_p20 : lw_okq (⟨"WokenByKettle$Law", "emit", "(I)V"⟩, 9) := ⟨⟨by decide +kernel, by decide +kernel⟩, List.mem_of_getElem? (i := 35) (by decide +kernel), List.mem_of_getElem? (i := 539) (by decide +kernel), List.mem_of_getElem? (i := 540) (by decide +kernel)⟩
theorem lw_p21 : lw_okq (⟨"WokenByKettle$Law", "accept", "(I)V"⟩, 9) := ⟨⟨by decide +kernel, by decide +kernel⟩, List.mem_of_getElem? (i := 35) (by decide +kernel), List.mem_of_getElem? (i := 543) (by decide +kernel), List.mem_of_getElem? (i := 544) (by decide +kernel)⟩
theorem lw_p22 : lw_okq (⟨"WokenByKettle$Law", "signOf", "(I)I"⟩, 9) := ⟨⟨by decide +kernel, by decide +kernel⟩, List.mem_of_getElem? (i := 35) (by decide +kernel), List.mem_of_getElem? (i := 547) (by decide +kernel), List.mem_of_getElem? (i := 548) (by decide +kernel)⟩
theorem lw_p23 : lw_okq (⟨"WokenByKettle$Kitchen", "twelfths", "(II)I"⟩, 6) := ⟨⟨by decide +kernel, by decide +kernel⟩, List.mem_of_getElem? (i := 27) (by decide +kernel), List.mem_of_getElem? (i := 560) (by decide +kernel), List.mem_of_getElem? (i := 561) (by decide +kernel)⟩
theorem lw_p24 : lw_okq (⟨"WokenByKettle$Law", "isWritten", "()Z"⟩, 9) := ⟨⟨by decide +kernel, by decide +kernel⟩, List.mem_of_getElem? (i := 35) (by decide +kernel), List.mem_of_getElem? (i := 565) (by decide +kernel), List.mem_of_getElem? (i := 566) (by decide +kernel)⟩
theorem lw_p25 : lw_okq (⟨"WokenByKettle$Law", "give", "([I)I"⟩, 9) := ⟨⟨by decide +kernel, by decide +kernel⟩, List.mem_of_getElem? (i := 35) (by decide +kernel), List.mem_of_getElem? (i := 569) (by decide +kernel), List.mem_of_getElem? (i := 570) (by decide +kernel)⟩
theorem lw_p26 : lw_okq (⟨"WokenByKettle$Law", "combine", "(II)I"⟩, 9) := ⟨⟨by decide +kernel, by decide +kernel⟩, List.mem_of_getElem? (i := 35) (by decide +kernel), List.mem_of_getElem? (i := 579) (by decide +kernel), List.mem_of_getElem? (i := 580) (by decide +kernel)⟩
theorem lw_p27 : lw_okq (⟨"WokenByKettle$Paths", "follow", "()V"⟩, 7) := ⟨⟨by decide +kernel, by decide +kernel⟩, List.mem_of_getElem? (i := 102) (by decide +kernel), List.mem_of_getElem? (i := 595) (by decide +kernel), List.mem_of_getElem? (i := 596) (by decide +kernel)⟩
theorem lw_p28 : lw_okq (⟨"WokenByKettle$Paths", "followOne", "(I)V"⟩, 7) := ⟨⟨by decide +kernel, by decide +kernel⟩, List.mem_of_getElem? (i := 102) (by decide +kernel), List.mem_of_getElem? (i := 599) (by decide +kernel), List.mem_of_getElem? (i := 600) (by decide +kernel)⟩
theorem lw_p29 : lw_okq (⟨"WokenByKettle$Paths", "startOf", "(II)I"⟩, 7) := ⟨⟨by decide +kernel, by decide +kernel⟩, List.mem_of_getElem? (i := 102) (by decide +kernel), List.mem_of_getElem? (i := 604) (by decide +kernel), List.mem_of_getElem? (i := 605) (by decide +kernel)⟩
theorem lw_p30 : lw_okq (⟨"WokenByKettle$Paths", "minuteOf", "(II)I"⟩, 7) := ⟨⟨by decide +kernel, by decide +kernel⟩, List.mem_of_getElem? (i := 102) (by decide +kernel), List.mem_of_getElem? (i := 609) (by decide +kernel), List.mem_of_getElem? (i := 610) (by decide +kernel)⟩
theorem lw_p31 : lw_okq (⟨"WokenByKettle$Paths", "stuckOf", "(I)I"⟩, 7) := ⟨⟨by decide +kernel, by decide +kernel⟩, List.mem_of_getElem? (i := 102) (by decide +kernel), List.mem_of_getElem? (i := 621) (by decide +kernel), List.mem_of_getElem? (i := 622) (by decide +kernel)⟩
def lw_privs_2 : List (MethodName × Nat) := [(⟨"WokenByKettle$Law", "adopt", "()Z"⟩, 9), (⟨"WokenByKettle$Law", "readLine", "()V"⟩, 9), (⟨"WokenByKettle$Law", "next", "()I"⟩, 9), (⟨"WokenByKettle$Law", "readOperand", "(I)V"⟩, 9), (⟨"WokenByKettle$Law", "emit", "(I)V"⟩, 9), (⟨"WokenByKettle$Law", "accept", "(I)V"⟩, 9), (⟨"WokenByKettle$Law", "signOf", "(I)I"⟩, 9), (⟨"WokenByKettle$Kitchen", "twelfths", "(II)I"⟩, 6), (⟨"WokenByKettle$Law", "isWritten", "()Z"⟩, 9), (⟨"WokenByKettle$Law", "give", "([I)I"⟩, 9), (⟨"WokenByKettle$Law", "combine", "(II)I"⟩, 9), (⟨"WokenByKettle$Paths", "follow", "()V"⟩, 7), (⟨"WokenByKettle$Paths", "followOne", "(I)V"⟩, 7), (⟨"WokenByKettle$Paths", "startOf", "(II)I"⟩, 7), (⟨"WokenByKettle$Paths", "minuteOf", "(II)I"⟩, 7), (⟨"WokenByKettle$Paths", "stuckOf", "(I)I"⟩, 7)]
theorem lw_r2 : ∀ q ∈ lw_privs_2, lw_okq q := List.forall_mem_cons.mpr ⟨lw_p16, List.forall_mem_cons.mpr ⟨lw_p17, List.forall_mem_cons.mpr ⟨lw_p18, List.forall_mem_cons.mpr ⟨lw_p19, List.forall_mem_cons.mpr ⟨lw_p20, List.forall_mem_cons.mpr ⟨lw_p21, List.forall_mem_cons.mpr ⟨lw_p22, List.forall_mem_cons.mpr ⟨lw_p23, List.forall_mem_cons.mpr ⟨lw_p24, List.forall_mem_cons.mpr ⟨lw_p25, List.forall_mem_cons.mpr ⟨lw_p26, List.forall_mem_cons.mpr ⟨lw_p27, List.forall_mem_cons.mpr ⟨lw_p28, List.forall_mem_cons.mpr ⟨lw_p29, List.forall_mem_cons.mpr ⟨lw_p30, List.forall_mem_cons.mpr ⟨lw_p31, fun _ h => absurd h List.not_mem_nil⟩⟩⟩⟩⟩⟩⟩⟩⟩⟩⟩⟩⟩⟩⟩⟩
theorem lw_p32 : lw_okq (⟨"WokenByKettle$Thought", "think", "()V"⟩, 9) := ⟨⟨by decide +kernel, by decide +kernel⟩, List.mem_of_getElem? (i := 143) (by decide +kernel), List.mem_of_getElem? (i := 633) (by decide +kernel), List.mem_of_getElem? (i := 634) (by decide +kernel)⟩
theorem lw_p33 : lw_okq (⟨"WokenByKettle$Thought", "listEndings", "()V"⟩, 9) := ⟨⟨by decide +kernel, by decide +kernel⟩, List.mem_of_getElem? (i := 143) (by decide +kernel), List.mem_of_getElem? (i := 647) (by decide +kernel), List.mem_of_getElem? (i := 648) (by decide +kernel)⟩
theorem lw_p34 : lw_okq (⟨"WokenByKettle$Thought", "oddsToGo", "(I)J"⟩, 9) := ⟨⟨by decide +kernel, by decide +kernel⟩, List.mem_of_getElem? (i := 143) (by decide +kernel), List.mem_of_getElem? (i := 651) (by decide +kernel), List.mem_of_getElem? (i := 652) (by decide +kernel)⟩
theorem lw_p35 : lw_okq (⟨"WokenByKettle$Thought", "oddsBy", "(I)J"⟩, 9) := ⟨⟨by decide +kernel, by decide +kernel⟩, List.mem_of_getElem? (i := 143) (by decide +kernel), List.mem_of_getElem? (i := 655) (by decide +kernel), List.mem_of_getElem? (i := 656) (by decide +kernel)⟩
theorem lw_p36 : lw_okq (⟨"WokenByKettle$Thought", "soonest", "()I"⟩, 9) := ⟨⟨by decide +kernel, by decide +kernel⟩, List.mem_of_getElem? (i := 143) (by decide +kernel), List.mem_of_getElem? (i := 669) (by decide +kernel), List.mem_of_getElem? (i := 670) (by decide +kernel)⟩
theorem lw_p37 : lw_okq (⟨"WokenByKettle$Thought", "latest", "()I"⟩, 9) := ⟨⟨by decide +kernel, by decide +kernel⟩, List.mem_of_getElem? (i := 143) (by decide +kernel), List.mem_of_getElem? (i := 673) (by decide +kernel), List.mem_of_getElem? (i := 674) (by decide +kernel)⟩
theorem lw_p38 : lw_okq (⟨"WokenByKettle$Thought", "minutesTogether", "()J"⟩, 9) := ⟨⟨by decide +kernel, by decide +kernel⟩, List.mem_of_getElem? (i := 143) (by decide +kernel), List.mem_of_getElem? (i := 681) (by decide +kernel), List.mem_of_getElem? (i := 682) (by decide +kernel)⟩
theorem lw_p39 : lw_okq (⟨"WokenByKettle$Chances", "worthOf", "(I)I"⟩, 4) := ⟨⟨by decide +kernel, by decide +kernel⟩, List.mem_of_getElem? (i := 189) (by decide +kernel), List.mem_of_getElem? (i := 690) (by decide +kernel), List.mem_of_getElem? (i := 691) (by decide +kernel)⟩
theorem lw_p40 : lw_okq (⟨"WokenByKettle$Chances", "bestBegin", "()I"⟩, 4) := ⟨⟨by decide +kernel, by decide +kernel⟩, List.mem_of_getElem? (i := 189) (by decide +kernel), List.mem_of_getElem? (i := 704) (by decide +kernel), List.mem_of_getElem? (i := 705) (by decide +kernel)⟩
theorem lw_p41 : lw_okq (⟨"WokenByKettle$Chances", "bestChange", "(IZ)I"⟩, 4) := ⟨⟨by decide +kernel, by decide +kernel⟩, List.mem_of_getElem? (i := 189) (by decide +kernel), List.mem_of_getElem? (i := 713) (by decide +kernel), List.mem_of_getElem? (i := 714) (by decide +kernel)⟩
theorem lw_p42 : lw_okq (⟨"WokenByKettle$Chances", "oddsChanged", "(II)J"⟩, 4) := ⟨⟨by decide +kernel, by decide +kernel⟩, List.mem_of_getElem? (i := 189) (by decide +kernel), List.mem_of_getElem? (i := 718) (by decide +kernel), List.mem_of_getElem? (i := 719) (by decide +kernel)⟩
theorem lw_p43 : lw_okq (⟨"WokenByKettle$Chances", "oddsOfEnd", "(IJJ)J"⟩, 4) := ⟨⟨by decide +kernel, by decide +kernel⟩, List.mem_of_getElem? (i := 189) (by decide +kernel), List.mem_of_getElem? (i := 722) (by decide +kernel), List.mem_of_getElem? (i := 723) (by decide +kernel)⟩
theorem lw_p44 : lw_okq (⟨"WokenByKettle$Chances", "oddsOfFire", "()J"⟩, 4) := ⟨⟨by decide +kernel, by decide +kernel⟩, List.mem_of_getElem? (i := 189) (by decide +kernel), List.mem_of_getElem? (i := 733) (by decide +kernel), List.mem_of_getElem? (i := 734) (by decide +kernel)⟩
theorem lw_p45 : lw_okq (⟨"WokenByKettle$Inquest", "hear", "(I)V"⟩, 8) := ⟨⟨by decide +kernel, by decide +kernel⟩, List.mem_of_getElem? (i := 208) (by decide +kernel), List.mem_of_getElem? (i := 748) (by decide +kernel), List.mem_of_getElem? (i := 749) (by decide +kernel)⟩
theorem lw_p46 : lw_okq (⟨"WokenByKettle$Inquest", "oddsStuck", "(I)J"⟩, 8) := ⟨⟨by decide +kernel, by decide +kernel⟩, List.mem_of_getElem? (i := 208) (by decide +kernel), List.mem_of_getElem? (i := 752) (by decide +kernel), List.mem_of_getElem? (i := 753) (by decide +kernel)⟩
theorem lw_p47 : lw_okq (⟨"WokenByKettle$Inquest", "oddsSo", "(I)J"⟩, 8) := ⟨⟨by decide +kernel, by decide +kernel⟩, List.mem_of_getElem? (i := 208) (by decide +kernel), List.mem_of_getElem? (i := 756) (by decide +kernel), List.mem_of_getElem? (i := 757) (by decide +kernel)⟩
def lw_privs_3 : List (MethodName × Nat) := [(⟨"WokenByKettle$Thought", "think", "()V"⟩, 9), (⟨"WokenByKettle$Thought", "listEndings", "()V"⟩, 9), (⟨"WokenByKettle$Thought", "oddsToGo", "(I)J"⟩, 9), (⟨"WokenByKettle$Thought", "oddsBy", "(I)J"⟩, 9), (⟨"WokenByKettle$Thought", "soonest", "()I"⟩, 9), (⟨"WokenByKettle$Thought", "latest", "()I"⟩, 9), (⟨"WokenByKettle$Thought", "minutesTogether", "()J"⟩, 9), (⟨"WokenByKettle$Chances", "worthOf", "(I)I"⟩, 4), (⟨"WokenByKettle$Chances", "bestBegin", "()I"⟩, 4), (⟨"WokenByKettle$Chances", "bestChange", "(IZ)I"⟩, 4), (⟨"WokenByKettle$Chances", "oddsChanged", "(II)J"⟩, 4), (⟨"WokenByKettle$Chances", "oddsOfEnd", "(IJJ)J"⟩, 4), (⟨"WokenByKettle$Chances", "oddsOfFire", "()J"⟩, 4), (⟨"WokenByKettle$Inquest", "hear", "(I)V"⟩, 8), (⟨"WokenByKettle$Inquest", "oddsStuck", "(I)J"⟩, 8), (⟨"WokenByKettle$Inquest", "oddsSo", "(I)J"⟩, 8)]
theorem lw_r3 : ∀ q ∈ lw_privs_3, lw_okq q := List.forall_mem_cons.mpr ⟨lw_p32, List.forall_mem_cons.mpr ⟨lw_p33, List.forall_mem_cons.mpr ⟨lw_p34, List.forall_mem_cons.mpr ⟨lw_p35, List.forall_mem_cons.mpr ⟨lw_p36, List.forall_mem_cons.mpr ⟨lw_p37, List.forall_mem_cons.mpr ⟨lw_p38, List.forall_mem_cons.mpr ⟨lw_p39, List.forall_mem_cons.mpr ⟨lw_p40, List.forall_mem_cons.mpr ⟨lw_p41, List.forall_mem_cons.mpr ⟨lw_p42, List.forall_mem_cons.mpr ⟨lw_p43, List.forall_mem_cons.mpr ⟨lw_p44, List.forall_mem_cons.mpr ⟨lw_p45, List.forall_mem_cons.mpr ⟨lw_p46, List.forall_mem_cons.mpr ⟨lw_p47, fun _ h => absurd h List.not_mem_nil⟩⟩⟩⟩⟩⟩⟩⟩⟩⟩⟩⟩⟩⟩⟩⟩
theorem lw_p48 : lw_okq (⟨"WokenByKettle$Inquest", "oddsHeard", "()J"⟩, 8) := ⟨⟨by decide +kernel, by decide +kernel⟩, List.mem_of_getElem? (i := 208) (by decide +kernel), List.mem_of_getElem? (i := 760) (by decide +kernel), List.mem_of_getElem? (i := 761) (by decide +kernel)⟩
theorem lw_p49 : lw_okq (⟨"WokenByKettle$Inquest", "likeliestStuck", "()I"⟩, 8) := ⟨⟨by decide +kernel, by decide +kernel⟩, List.mem_of_getElem? (i := 208) (by decide +kernel), List.mem_of_getElem? (i := 768) (by decide +kernel), List.mem_of_getElem? (i := 769) (by decide +kernel)⟩
theorem lw_p50 : lw_okq (⟨"WokenByKettle$Inquest", "bestTest", "()I"⟩, 8) := ⟨⟨by decide +kernel, by decide +kernel⟩, List.mem_of_getElem? (i := 208) (by decide +kernel), List.mem_of_getElem? (i := 777) (by decide +kernel), List.mem_of_getElem? (i := 778) (by decide +kernel)⟩
theorem lw_p51 : lw_okq (⟨"WokenByKettle$Inquest", "oddsGone", "(I)J"⟩, 8) := ⟨⟨by decide +kernel, by decide +kernel⟩, List.mem_of_getElem? (i := 208) (by decide +kernel), List.mem_of_getElem? (i := 783) (by decide +kernel), List.mem_of_getElem? (i := 784) (by decide +kernel)⟩
theorem lw_p52 : lw_okq (⟨"WokenByKettle$Plan", "bestWay", "(I)I"⟩, 8) := ⟨⟨by decide +kernel, by decide +kernel⟩, List.mem_of_getElem? (i := 239) (by decide +kernel), List.mem_of_getElem? (i := 794) (by decide +kernel), List.mem_of_getElem? (i := 795) (by decide +kernel)⟩
theorem lw_p53 : lw_okq (⟨"WokenByKettle$Plan", "foreseeTwelfths", "()V"⟩, 8) := ⟨⟨by decide +kernel, by decide +kernel⟩, List.mem_of_getElem? (i := 239) (by decide +kernel), List.mem_of_getElem? (i := 798) (by decide +kernel), List.mem_of_getElem? (i := 799) (by decide +kernel)⟩
theorem lw_p54 : lw_okq (⟨"WokenByKettle$Plan", "millionths", "(II)I"⟩, 8) := ⟨⟨by decide +kernel, by decide +kernel⟩, List.mem_of_getElem? (i := 239) (by decide +kernel), List.mem_of_getElem? (i := 805) (by decide +kernel), List.mem_of_getElem? (i := 806) (by decide +kernel)⟩
theorem lw_p55 : lw_okq (⟨"WokenByKettle$Plan", "whom", "(III)I"⟩, 8) := ⟨⟨by decide +kernel, by decide +kernel⟩, List.mem_of_getElem? (i := 239) (by decide +kernel), List.mem_of_getElem? (i := 809) (by decide +kernel), List.mem_of_getElem? (i := 810) (by decide +kernel)⟩
theorem lw_p56 : lw_okq (⟨"WokenByKettle$Plan", "togetherOf", "(II)I"⟩, 8) := ⟨⟨by decide +kernel, by decide +kernel⟩, List.mem_of_getElem? (i := 239) (by decide +kernel), List.mem_of_getElem? (i := 816) (by decide +kernel), List.mem_of_getElem? (i := 817) (by decide +kernel)⟩
theorem lw_p57 : lw_okq (⟨"WokenByKettle$Thought", "oddsIn", "(I)J"⟩, 9) := ⟨⟨by decide +kernel, by decide +kernel⟩, List.mem_of_getElem? (i := 143) (by decide +kernel), List.mem_of_getElem? (i := 825) (by decide +kernel), List.mem_of_getElem? (i := 826) (by decide +kernel)⟩
theorem lw_p58 : lw_okq (⟨"WokenByKettle$Thought", "waysTo", "(I)I"⟩, 9) := ⟨⟨by decide +kernel, by decide +kernel⟩, List.mem_of_getElem? (i := 143) (by decide +kernel), List.mem_of_getElem? (i := 834) (by decide +kernel), List.mem_of_getElem? (i := 835) (by decide +kernel)⟩
theorem lw_p59 : lw_okq (⟨"WokenByKettle$Thought", "likeliestWayTo", "(I)I"⟩, 9) := ⟨⟨by decide +kernel, by decide +kernel⟩, List.mem_of_getElem? (i := 143) (by decide +kernel), List.mem_of_getElem? (i := 838) (by decide +kernel), List.mem_of_getElem? (i := 839) (by decide +kernel)⟩
theorem lw_p60 : lw_okq (⟨"WokenByKettle$Inquest", "open", "(I)V"⟩, 8) := ⟨⟨by decide +kernel, by decide +kernel⟩, List.mem_of_getElem? (i := 208) (by decide +kernel), List.mem_of_getElem? (i := 846) (by decide +kernel), List.mem_of_getElem? (i := 847) (by decide +kernel)⟩
theorem lw_p61 : lw_okq (⟨"WokenByKettle$Inquest", "read", "(I)V"⟩, 8) := ⟨⟨by decide +kernel, by decide +kernel⟩, List.mem_of_getElem? (i := 208) (by decide +kernel), List.mem_of_getElem? (i := 852) (by decide +kernel), List.mem_of_getElem? (i := 853) (by decide +kernel)⟩
theorem lw_p62 : lw_okq (⟨"WokenByKettle$Inquest", "bestTwelfths", "()I"⟩, 8) := ⟨⟨by decide +kernel, by decide +kernel⟩, List.mem_of_getElem? (i := 208) (by decide +kernel), List.mem_of_getElem? (i := 858) (by decide +kernel), List.mem_of_getElem? (i := 859) (by decide +kernel)⟩
theorem lw_p63 : lw_okq (⟨"WokenByKettle$Chances", "draw", "(IIZ)I"⟩, 4) := ⟨⟨by decide +kernel, by decide +kernel⟩, List.mem_of_getElem? (i := 189) (by decide +kernel), List.mem_of_getElem? (i := 866) (by decide +kernel), List.mem_of_getElem? (i := 867) (by decide +kernel)⟩
def lw_privs_4 : List (MethodName × Nat) := [(⟨"WokenByKettle$Inquest", "oddsHeard", "()J"⟩, 8), (⟨"WokenByKettle$Inquest", "likeliestStuck", "()I"⟩, 8), (⟨"WokenByKettle$Inquest", "bestTest", "()I"⟩, 8), (⟨"WokenByKettle$Inquest", "oddsGone", "(I)J"⟩, 8), (⟨"WokenByKettle$Plan", "bestWay", "(I)I"⟩, 8), (⟨"WokenByKettle$Plan", "foreseeTwelfths", "()V"⟩, 8), (⟨"WokenByKettle$Plan", "millionths", "(II)I"⟩, 8), (⟨"WokenByKettle$Plan", "whom", "(III)I"⟩, 8), (⟨"WokenByKettle$Plan", "togetherOf", "(II)I"⟩, 8), (⟨"WokenByKettle$Thought", "oddsIn", "(I)J"⟩, 9), (⟨"WokenByKettle$Thought", "waysTo", "(I)I"⟩, 9), (⟨"WokenByKettle$Thought", "likeliestWayTo", "(I)I"⟩, 9), (⟨"WokenByKettle$Inquest", "open", "(I)V"⟩, 8), (⟨"WokenByKettle$Inquest", "read", "(I)V"⟩, 8), (⟨"WokenByKettle$Inquest", "bestTwelfths", "()I"⟩, 8), (⟨"WokenByKettle$Chances", "draw", "(IIZ)I"⟩, 4)]
theorem lw_r4 : ∀ q ∈ lw_privs_4, lw_okq q := List.forall_mem_cons.mpr ⟨lw_p48, List.forall_mem_cons.mpr ⟨lw_p49, List.forall_mem_cons.mpr ⟨lw_p50, List.forall_mem_cons.mpr ⟨lw_p51, List.forall_mem_cons.mpr ⟨lw_p52, List.forall_mem_cons.mpr ⟨lw_p53, List.forall_mem_cons.mpr ⟨lw_p54, List.forall_mem_cons.mpr ⟨lw_p55, List.forall_mem_cons.mpr ⟨lw_p56, List.forall_mem_cons.mpr ⟨lw_p57, List.forall_mem_cons.mpr ⟨lw_p58, List.forall_mem_cons.mpr ⟨lw_p59, List.forall_mem_cons.mpr ⟨lw_p60, List.forall_mem_cons.mpr ⟨lw_p61, List.forall_mem_cons.mpr ⟨lw_p62, List.forall_mem_cons.mpr ⟨lw_p63, fun _ h => absurd h List.not_mem_nil⟩⟩⟩⟩⟩⟩⟩⟩⟩⟩⟩⟩⟩⟩⟩⟩
theorem lw_p64 : lw_okq (⟨"WokenByKettle$Deeds", "live", "(I)I"⟩, 7) := ⟨⟨by decide +kernel, by decide +kernel⟩, List.mem_of_getElem? (i := 271) (by decide +kernel), List.mem_of_getElem? (i := 875) (by decide +kernel), List.mem_of_getElem? (i := 876) (by decide +kernel)⟩
theorem lw_p65 : lw_okq (⟨"WokenByKettle$Paths", "endOf", "(I)I"⟩, 7) := ⟨⟨by decide +kernel, by decide +kernel⟩, List.mem_of_getElem? (i := 102) (by decide +kernel), List.mem_of_getElem? (i := 880) (by decide +kernel), List.mem_of_getElem? (i := 881) (by decide +kernel)⟩
theorem lw_p66 : lw_okq (⟨"WokenByKettle$Paths", "goersOf", "(I)I"⟩, 7) := ⟨⟨by decide +kernel, by decide +kernel⟩, List.mem_of_getElem? (i := 102) (by decide +kernel), List.mem_of_getElem? (i := 891) (by decide +kernel), List.mem_of_getElem? (i := 892) (by decide +kernel)⟩
theorem lw_p67 : lw_okq (⟨"WokenByKettle$Kitchen", "ageAll", "()V"⟩, 6) := ⟨⟨by decide +kernel, by decide +kernel⟩, List.mem_of_getElem? (i := 27) (by decide +kernel), List.mem_of_getElem? (i := 896) (by decide +kernel), List.mem_of_getElem? (i := 897) (by decide +kernel)⟩
theorem lw_p68 : lw_okq (⟨"WokenByKettle$Deeds", "repair", "(I)I"⟩, 7) := ⟨⟨by decide +kernel, by decide +kernel⟩, List.mem_of_getElem? (i := 271) (by decide +kernel), List.mem_of_getElem? (i := 904) (by decide +kernel), List.mem_of_getElem? (i := 905) (by decide +kernel)⟩
theorem lw_p69 : lw_okq (⟨"WokenByKettle$Deeds", "ledgerAt", "(I)I"⟩, 7) := ⟨⟨by decide +kernel, by decide +kernel⟩, List.mem_of_getElem? (i := 271) (by decide +kernel), List.mem_of_getElem? (i := 914) (by decide +kernel), List.mem_of_getElem? (i := 915) (by decide +kernel)⟩
theorem lw_p70 : lw_okq (⟨"WokenByKettle$Deeds", "keepImage", "()I"⟩, 7) := ⟨⟨by decide +kernel, by decide +kernel⟩, List.mem_of_getElem? (i := 271) (by decide +kernel), List.mem_of_getElem? (i := 922) (by decide +kernel), List.mem_of_getElem? (i := 923) (by decide +kernel)⟩
theorem lw_p71 : lw_okq (⟨"WokenByKettle$Deeds", "layBack", "()I"⟩, 7) := ⟨⟨by decide +kernel, by decide +kernel⟩, List.mem_of_getElem? (i := 271) (by decide +kernel), List.mem_of_getElem? (i := 931) (by decide +kernel), List.mem_of_getElem? (i := 932) (by decide +kernel)⟩
theorem lw_p72 : lw_okq (⟨"WokenByKettle$Changes", "takeBack", "()I"⟩, 7) := ⟨⟨by decide +kernel, by decide +kernel⟩, List.mem_of_getElem? (i := 299) (by decide +kernel), List.mem_of_getElem? (i := 939) (by decide +kernel), List.mem_of_getElem? (i := 940) (by decide +kernel)⟩
theorem lw_p73 : lw_okq (⟨"WokenByKettle$Changes", "doAgain", "()I"⟩, 7) := ⟨⟨by decide +kernel, by decide +kernel⟩, List.mem_of_getElem? (i := 299) (by decide +kernel), List.mem_of_getElem? (i := 947) (by decide +kernel), List.mem_of_getElem? (i := 948) (by decide +kernel)⟩
theorem lw_p74 : lw_okq (⟨"WokenByKettle$Acts", "add", "(I)I"⟩, 6) := ⟨⟨by decide +kernel, by decide +kernel⟩, List.mem_of_getElem? (i := 328) (by decide +kernel), List.mem_of_getElem? (i := 955) (by decide +kernel), List.mem_of_getElem? (i := 956) (by decide +kernel)⟩
theorem lw_p75 : lw_okq (⟨"WokenByKettle$Acts", "perform", "(III)I"⟩, 6) := ⟨⟨by decide +kernel, by decide +kernel⟩, List.mem_of_getElem? (i := 328) (by decide +kernel), List.mem_of_getElem? (i := 966) (by decide +kernel), List.mem_of_getElem? (i := 967) (by decide +kernel)⟩
theorem lw_p76 : lw_okq (⟨"WokenByKettle$Acts", "has", "(I)Z"⟩, 6) := ⟨⟨by decide +kernel, by decide +kernel⟩, List.mem_of_getElem? (i := 328) (by decide +kernel), List.mem_of_getElem? (i := 970) (by decide +kernel), List.mem_of_getElem? (i := 971) (by decide +kernel)⟩
theorem lw_p77 : lw_okq (⟨"WokenByKettle$Acts", "began", "(I)V"⟩, 6) := ⟨⟨by decide +kernel, by decide +kernel⟩, List.mem_of_getElem? (i := 328) (by decide +kernel), List.mem_of_getElem? (i := 984) (by decide +kernel), List.mem_of_getElem? (i := 985) (by decide +kernel)⟩
theorem lw_p78 : lw_okq (⟨"WokenByKettle$Acts", "ranAt", "(I)I"⟩, 6) := ⟨⟨by decide +kernel, by decide +kernel⟩, List.mem_of_getElem? (i := 328) (by decide +kernel), List.mem_of_getElem? (i := 992) (by decide +kernel), List.mem_of_getElem? (i := 993) (by decide +kernel)⟩
theorem lw_p79 : lw_okq (⟨"WokenByKettle$Shelves", "holdBody", "(II)I"⟩, 5) := ⟨⟨by decide +kernel, by decide +kernel⟩, List.mem_of_getElem? (i := 355) (by decide +kernel), List.mem_of_getElem? (i := 1001) (by decide +kernel), List.mem_of_getElem? (i := 1002) (by decide +kernel)⟩
def lw_privs_5 : List (MethodName × Nat) := [(⟨"WokenByKettle$Deeds", "live", "(I)I"⟩, 7), (⟨"WokenByKettle$Paths", "endOf", "(I)I"⟩, 7), (⟨"WokenByKettle$Paths", "goersOf", "(I)I"⟩, 7), (⟨"WokenByKettle$Kitchen", "ageAll", "()V"⟩, 6), (⟨"WokenByKettle$Deeds", "repair", "(I)I"⟩, 7), (⟨"WokenByKettle$Deeds", "ledgerAt", "(I)I"⟩, 7), (⟨"WokenByKettle$Deeds", "keepImage", "()I"⟩, 7), (⟨"WokenByKettle$Deeds", "layBack", "()I"⟩, 7), (⟨"WokenByKettle$Changes", "takeBack", "()I"⟩, 7), (⟨"WokenByKettle$Changes", "doAgain", "()I"⟩, 7), (⟨"WokenByKettle$Acts", "add", "(I)I"⟩, 6), (⟨"WokenByKettle$Acts", "perform", "(III)I"⟩, 6), (⟨"WokenByKettle$Acts", "has", "(I)Z"⟩, 6), (⟨"WokenByKettle$Acts", "began", "(I)V"⟩, 6), (⟨"WokenByKettle$Acts", "ranAt", "(I)I"⟩, 6), (⟨"WokenByKettle$Shelves", "holdBody", "(II)I"⟩, 5)]
theorem lw_r5 : ∀ q ∈ lw_privs_5, lw_okq q := List.forall_mem_cons.mpr ⟨lw_p64, List.forall_mem_cons.mpr ⟨lw_p65, List.forall_mem_cons.mpr ⟨lw_p66, List.forall_mem_cons.mpr ⟨lw_p67, List.forall_mem_cons.mpr ⟨lw_p68, List.forall_mem_cons.mpr ⟨lw_p69, List.forall_mem_cons.mpr ⟨lw_p70, List.forall_mem_cons.mpr ⟨lw_p71, List.forall_mem_cons.mpr ⟨lw_p72, List.forall_mem_cons.mpr ⟨lw_p73, List.forall_mem_cons.mpr ⟨lw_p74, List.forall_mem_cons.mpr ⟨lw_p75, List.forall_mem_cons.mpr ⟨lw_p76, List.forall_mem_cons.mpr ⟨lw_p77, List.forall_mem_cons.mpr ⟨lw_p78, List.forall_mem_cons.mpr ⟨lw_p79, fun _ h => absurd h List.not_mem_nil⟩⟩⟩⟩⟩⟩⟩⟩⟩⟩⟩⟩⟩⟩⟩⟩
theorem lw_p80 : lw_okq (⟨"WokenByKettle$Shelves", "holdRow", "(III)I"⟩, 5) := ⟨⟨by decide +kernel, by decide +kernel⟩, List.mem_of_getElem? (i := 355) (by decide +kernel), List.mem_of_getElem? (i := 1009) (by decide +kernel), List.mem_of_getElem? (i := 1010) (by decide +kernel)⟩
theorem lw_p81 : lw_okq (⟨"WokenByKettle$Shelves", "write", "(IIJ)I"⟩, 5) := ⟨⟨by decide +kernel, by decide +kernel⟩, List.mem_of_getElem? (i := 355) (by decide +kernel), List.mem_of_getElem? (i := 1018) (by decide +kernel), List.mem_of_getElem? (i := 1019) (by decide +kernel)⟩
theorem lw_p82 : lw_okq (⟨"WokenByKettle$Shelves", "move", "(IIIII)I"⟩, 5) := ⟨⟨by decide +kernel, by decide +kernel⟩, List.mem_of_getElem? (i := 355) (by decide +kernel), List.mem_of_getElem? (i := 1034) (by decide +kernel), List.mem_of_getElem? (i := 1035) (by decide +kernel)⟩
theorem lw_p83 : lw_okq (⟨"WokenByKettle$Shelves", "refusalOfBody", "(I)I"⟩, 5) := ⟨⟨by decide +kernel, by decide +kernel⟩, List.mem_of_getElem? (i := 355) (by decide +kernel), List.mem_of_getElem? (i := 1045) (by decide +kernel), List.mem_of_getElem? (i := 1046) (by decide +kernel)⟩
theorem lw_p84 : lw_okq (⟨"WokenByKettle$Shelves", "bodyOn", "(I)I"⟩, 5) := ⟨⟨by decide +kernel, by decide +kernel⟩, List.mem_of_getElem? (i := 355) (by decide +kernel), List.mem_of_getElem? (i := 1049) (by decide +kernel), List.mem_of_getElem? (i := 1050) (by decide +kernel)⟩
theorem lw_p85 : lw_okq (⟨"WokenByKettle$Acts", "kindOf", "(I)I"⟩, 6) := ⟨⟨by decide +kernel, by decide +kernel⟩, List.mem_of_getElem? (i := 328) (by decide +kernel), List.mem_of_getElem? (i := 1054) (by decide +kernel), List.mem_of_getElem? (i := 1055) (by decide +kernel)⟩
theorem lw_p86 : lw_okq (⟨"WokenByKettleModel", "arePart", "(III)Z"⟩, 55) := ⟨⟨by decide +kernel, by decide +kernel⟩, List.mem_of_getElem? (i := 1065) (by decide +kernel), List.mem_of_getElem? (i := 1242) (by decide +kernel), List.mem_of_getElem? (i := 1243) (by decide +kernel)⟩
theorem lw_p87 : lw_okq (⟨"WokenByKettleModel", "addPart", "(III)I"⟩, 55) := ⟨⟨by decide +kernel, by decide +kernel⟩, List.mem_of_getElem? (i := 1065) (by decide +kernel), List.mem_of_getElem? (i := 1249) (by decide +kernel), List.mem_of_getElem? (i := 1250) (by decide +kernel)⟩
theorem lw_p88 : lw_okq (⟨"WokenByKettleModel", "lays", "(III)V"⟩, 55) := ⟨⟨by decide +kernel, by decide +kernel⟩, List.mem_of_getElem? (i := 1065) (by decide +kernel), List.mem_of_getElem? (i := 1265) (by decide +kernel), List.mem_of_getElem? (i := 1266) (by decide +kernel)⟩
theorem lw_p89 : lw_okq (⟨"WokenByKettleModel", "isOne", "(II)Z"⟩, 55) := ⟨⟨by decide +kernel, by decide +kernel⟩, List.mem_of_getElem? (i := 1065) (by decide +kernel), List.mem_of_getElem? (i := 1277) (by decide +kernel), List.mem_of_getElem? (i := 1278) (by decide +kernel)⟩
theorem lw_p90 : lw_okq (⟨"WokenByKettleModel", "isPart", "(I)Z"⟩, 55) := ⟨⟨by decide +kernel, by decide +kernel⟩, List.mem_of_getElem? (i := 1065) (by decide +kernel), List.mem_of_getElem? (i := 1281) (by decide +kernel), List.mem_of_getElem? (i := 1282) (by decide +kernel)⟩
theorem lw_p91 : lw_okq (⟨"WokenByKettleModel", "changes", "(III)I"⟩, 55) := ⟨⟨by decide +kernel, by decide +kernel⟩, List.mem_of_getElem? (i := 1065) (by decide +kernel), List.mem_of_getElem? (i := 1288) (by decide +kernel), List.mem_of_getElem? (i := 1289) (by decide +kernel)⟩
theorem lw_p92 : lw_okq (⟨"WokenByKettleModel", "valueAt", "(II)I"⟩, 55) := ⟨⟨by decide +kernel, by decide +kernel⟩, List.mem_of_getElem? (i := 1065) (by decide +kernel), List.mem_of_getElem? (i := 1292) (by decide +kernel), List.mem_of_getElem? (i := 1293) (by decide +kernel)⟩
theorem lw_p93 : lw_okq (⟨"WokenByKettleModel", "readText", "(I)I"⟩, 55) := ⟨⟨by decide +kernel, by decide +kernel⟩, List.mem_of_getElem? (i := 1065) (by decide +kernel), List.mem_of_getElem? (i := 1308) (by decide +kernel), List.mem_of_getElem? (i := 1309) (by decide +kernel)⟩
theorem lw_p94 : lw_okq (⟨"WokenByKettleModel", "line", "()V"⟩, 55) := ⟨⟨by decide +kernel, by decide +kernel⟩, List.mem_of_getElem? (i := 1065) (by decide +kernel), List.mem_of_getElem? (i := 1312) (by decide +kernel), List.mem_of_getElem? (i := 1313) (by decide +kernel)⟩
theorem lw_p95 : lw_okq (⟨"WokenByKettleModel", "either", "()V"⟩, 55) := ⟨⟨by decide +kernel, by decide +kernel⟩, List.mem_of_getElem? (i := 1065) (by decide +kernel), List.mem_of_getElem? (i := 1316) (by decide +kernel), List.mem_of_getElem? (i := 1317) (by decide +kernel)⟩
def lw_privs_6 : List (MethodName × Nat) := [(⟨"WokenByKettle$Shelves", "holdRow", "(III)I"⟩, 5), (⟨"WokenByKettle$Shelves", "write", "(IIJ)I"⟩, 5), (⟨"WokenByKettle$Shelves", "move", "(IIIII)I"⟩, 5), (⟨"WokenByKettle$Shelves", "refusalOfBody", "(I)I"⟩, 5), (⟨"WokenByKettle$Shelves", "bodyOn", "(I)I"⟩, 5), (⟨"WokenByKettle$Acts", "kindOf", "(I)I"⟩, 6), (⟨"WokenByKettleModel", "arePart", "(III)Z"⟩, 55), (⟨"WokenByKettleModel", "addPart", "(III)I"⟩, 55), (⟨"WokenByKettleModel", "lays", "(III)V"⟩, 55), (⟨"WokenByKettleModel", "isOne", "(II)Z"⟩, 55), (⟨"WokenByKettleModel", "isPart", "(I)Z"⟩, 55), (⟨"WokenByKettleModel", "changes", "(III)I"⟩, 55), (⟨"WokenByKettleModel", "valueAt", "(II)I"⟩, 55), (⟨"WokenByKettleModel", "readText", "(I)I"⟩, 55), (⟨"WokenByKettleModel", "line", "()V"⟩, 55), (⟨"WokenByKettleModel", "either", "()V"⟩, 55)]
theorem lw_r6 : ∀ q ∈ lw_privs_6, lw_okq q := List.forall_mem_cons.mpr ⟨lw_p80, List.forall_mem_cons.mpr ⟨lw_p81, List.forall_mem_cons.mpr ⟨lw_p82, List.forall_mem_cons.mpr ⟨lw_p83, List.forall_mem_cons.mpr ⟨lw_p84, List.forall_mem_cons.mpr ⟨lw_p85, List.forall_mem_cons.mpr ⟨lw_p86, List.forall_mem_cons.mpr ⟨lw_p87, List.forall_mem_cons.mpr ⟨lw_p88, List.forall_mem_cons.mpr ⟨lw_p89, List.forall_mem_cons.mpr ⟨lw_p90, List.forall_mem_cons.mpr ⟨lw_p91, List.forall_mem_cons.mpr ⟨lw_p92, List.forall_mem_cons.mpr ⟨lw_p93, List.forall_mem_cons.mpr ⟨lw_p94, List.forall_mem_cons.mpr ⟨lw_p95, fun _ h => absurd h List.not_mem_nil⟩⟩⟩⟩⟩⟩⟩⟩⟩⟩⟩⟩⟩⟩⟩⟩
theorem lw_p96 : lw_okq (⟨"WokenByKettleModel", "both", "()V"⟩, 55) := ⟨⟨by decide +kernel, by decide +kernel⟩, List.mem_of_getElem? (i := 1065) (by decide +kernel), List.mem_of_getElem? (i := 1320) (by decide +kernel), List.mem_of_getElem? (i := 1321) (by decide +kernel)⟩
theorem lw_p97 : lw_okq (⟨"WokenByKettleModel", "compared", "()V"⟩, 55) := ⟨⟨by decide +kernel, by decide +kernel⟩, List.mem_of_getElem? (i := 1065) (by decide +kernel), List.mem_of_getElem? (i := 1324) (by decide +kernel), List.mem_of_getElem? (i := 1325) (by decide +kernel)⟩
theorem lw_p98 : lw_okq (⟨"WokenByKettleModel", "sum", "()V"⟩, 55) := ⟨⟨by decide +kernel, by decide +kernel⟩, List.mem_of_getElem? (i := 1065) (by decide +kernel), List.mem_of_getElem? (i := 1328) (by decide +kernel), List.mem_of_getElem? (i := 1329) (by decide +kernel)⟩
theorem lw_p99 : lw_okq (⟨"WokenByKettleModel", "product", "()V"⟩, 55) := ⟨⟨by decide +kernel, by decide +kernel⟩, List.mem_of_getElem? (i := 1065) (by decide +kernel), List.mem_of_getElem? (i := 1332) (by decide +kernel), List.mem_of_getElem? (i := 1333) (by decide +kernel)⟩
theorem lw_p100 : lw_okq (⟨"WokenByKettleModel", "operand", "()V"⟩, 55) := ⟨⟨by decide +kernel, by decide +kernel⟩, List.mem_of_getElem? (i := 1065) (by decide +kernel), List.mem_of_getElem? (i := 1336) (by decide +kernel), List.mem_of_getElem? (i := 1337) (by decide +kernel)⟩
theorem lw_p101 : lw_okq (⟨"WokenByKettleModel", "looksOn", "()I"⟩, 55) := ⟨⟨by decide +kernel, by decide +kernel⟩, List.mem_of_getElem? (i := 1065) (by decide +kernel), List.mem_of_getElem? (i := 1340) (by decide +kernel), List.mem_of_getElem? (i := 1341) (by decide +kernel)⟩
theorem lw_p102 : lw_okq (⟨"WokenByKettleModel", "addStep", "(II)V"⟩, 55) := ⟨⟨by decide +kernel, by decide +kernel⟩, List.mem_of_getElem? (i := 1065) (by decide +kernel), List.mem_of_getElem? (i := 1347) (by decide +kernel), List.mem_of_getElem? (i := 1348) (by decide +kernel)⟩
theorem lw_p103 : lw_okq (⟨"WokenByKettleModel", "opens", "()Z"⟩, 55) := ⟨⟨by decide +kernel, by decide +kernel⟩, List.mem_of_getElem? (i := 1065) (by decide +kernel), List.mem_of_getElem? (i := 1351) (by decide +kernel), List.mem_of_getElem? (i := 1352) (by decide +kernel)⟩
theorem lw_p104 : lw_okq (⟨"WokenByKettleModel", "wrong", "()V"⟩, 55) := ⟨⟨by decide +kernel, by decide +kernel⟩, List.mem_of_getElem? (i := 1065) (by decide +kernel), List.mem_of_getElem? (i := 1355) (by decide +kernel), List.mem_of_getElem? (i := 1356) (by decide +kernel)⟩
theorem lw_p105 : lw_okq (⟨"WokenByKettleModel", "figure", "()V"⟩, 55) := ⟨⟨by decide +kernel, by decide +kernel⟩, List.mem_of_getElem? (i := 1065) (by decide +kernel), List.mem_of_getElem? (i := 1359) (by decide +kernel), List.mem_of_getElem? (i := 1360) (by decide +kernel)⟩
theorem lw_p106 : lw_okq (⟨"WokenByKettleModel", "twelfthsOf", "(I)I"⟩, 55) := ⟨⟨by decide +kernel, by decide +kernel⟩, List.mem_of_getElem? (i := 1065) (by decide +kernel), List.mem_of_getElem? (i := 1367) (by decide +kernel), List.mem_of_getElem? (i := 1368) (by decide +kernel)⟩
theorem lw_p107 : lw_okq (⟨"WokenByKettleModel", "gives", "(I)I"⟩, 55) := ⟨⟨by decide +kernel, by decide +kernel⟩, List.mem_of_getElem? (i := 1065) (by decide +kernel), List.mem_of_getElem? (i := 1371) (by decide +kernel), List.mem_of_getElem? (i := 1372) (by decide +kernel)⟩
theorem lw_p108 : lw_okq (⟨"WokenByKettleModel", "worked", "(III)I"⟩, 55) := ⟨⟨by decide +kernel, by decide +kernel⟩, List.mem_of_getElem? (i := 1065) (by decide +kernel), List.mem_of_getElem? (i := 1375) (by decide +kernel), List.mem_of_getElem? (i := 1376) (by decide +kernel)⟩
theorem lw_p109 : lw_okq (⟨"WokenByKettleModel", "goMorning", "(I)V"⟩, 55) := ⟨⟨by decide +kernel, by decide +kernel⟩, List.mem_of_getElem? (i := 1065) (by decide +kernel), List.mem_of_getElem? (i := 1389) (by decide +kernel), List.mem_of_getElem? (i := 1390) (by decide +kernel)⟩
theorem lw_p110 : lw_okq (⟨"WokenByKettleModel", "waitsTill", "(I)I"⟩, 55) := ⟨⟨by decide +kernel, by decide +kernel⟩, List.mem_of_getElem? (i := 1065) (by decide +kernel), List.mem_of_getElem? (i := 1393) (by decide +kernel), List.mem_of_getElem? (i := 1394) (by decide +kernel)⟩
theorem lw_p111 : lw_okq (⟨"WokenByKettleModel", "layTwelfths", "()V"⟩, 55) := ⟨⟨by decide +kernel, by decide +kernel⟩, List.mem_of_getElem? (i := 1065) (by decide +kernel), List.mem_of_getElem? (i := 1406) (by decide +kernel), List.mem_of_getElem? (i := 1407) (by decide +kernel)⟩
def lw_privs_7 : List (MethodName × Nat) := [(⟨"WokenByKettleModel", "both", "()V"⟩, 55), (⟨"WokenByKettleModel", "compared", "()V"⟩, 55), (⟨"WokenByKettleModel", "sum", "()V"⟩, 55), (⟨"WokenByKettleModel", "product", "()V"⟩, 55), (⟨"WokenByKettleModel", "operand", "()V"⟩, 55), (⟨"WokenByKettleModel", "looksOn", "()I"⟩, 55), (⟨"WokenByKettleModel", "addStep", "(II)V"⟩, 55), (⟨"WokenByKettleModel", "opens", "()Z"⟩, 55), (⟨"WokenByKettleModel", "wrong", "()V"⟩, 55), (⟨"WokenByKettleModel", "figure", "()V"⟩, 55), (⟨"WokenByKettleModel", "twelfthsOf", "(I)I"⟩, 55), (⟨"WokenByKettleModel", "gives", "(I)I"⟩, 55), (⟨"WokenByKettleModel", "worked", "(III)I"⟩, 55), (⟨"WokenByKettleModel", "goMorning", "(I)V"⟩, 55), (⟨"WokenByKettleModel", "waitsTill", "(I)I"⟩, 55), (⟨"WokenByKettleModel", "layTwelfths", "()V"⟩, 55)]
theorem lw_r7 : ∀ q ∈ lw_privs_7, lw_okq q := List.forall_mem_cons.mpr ⟨lw_p96, List.forall_mem_cons.mpr ⟨lw_p97, List.forall_mem_cons.mpr ⟨lw_p98, List.forall_mem_cons.mpr ⟨lw_p99, List.forall_mem_cons.mpr ⟨lw_p100, List.forall_mem_cons.mpr ⟨lw_p101, List.forall_mem_cons.mpr ⟨lw_p102, List.forall_mem_cons.mpr ⟨lw_p103, List.forall_mem_cons.mpr ⟨lw_p104, List.forall_mem_cons.mpr ⟨lw_p105, List.forall_mem_cons.mpr ⟨lw_p106, List.forall_mem_cons.mpr ⟨lw_p107, List.forall_mem_cons.mpr ⟨lw_p108, List.forall_mem_cons.mpr ⟨lw_p109, List.forall_mem_cons.mpr ⟨lw_p110, List.forall_mem_cons.mpr ⟨lw_p111, fun _ h => absurd h List.not_mem_nil⟩⟩⟩⟩⟩⟩⟩⟩⟩⟩⟩⟩⟩⟩⟩⟩
theorem lw_p112 : lw_okq (⟨"WokenByKettleModel", "endsBy", "(I)J"⟩, 55) := ⟨⟨by decide +kernel, by decide +kernel⟩, List.mem_of_getElem? (i := 1065) (by decide +kernel), List.mem_of_getElem? (i := 1410) (by decide +kernel), List.mem_of_getElem? (i := 1411) (by decide +kernel)⟩
theorem lw_p113 : lw_okq (⟨"WokenByKettleModel", "sets", "()I"⟩, 55) := ⟨⟨by decide +kernel, by decide +kernel⟩, List.mem_of_getElem? (i := 1065) (by decide +kernel), List.mem_of_getElem? (i := 1414) (by decide +kernel), List.mem_of_getElem? (i := 1415) (by decide +kernel)⟩
theorem lw_p114 : lw_okq (⟨"WokenByKettleModel", "endNow", "()I"⟩, 55) := ⟨⟨by decide +kernel, by decide +kernel⟩, List.mem_of_getElem? (i := 1065) (by decide +kernel), List.mem_of_getElem? (i := 1418) (by decide +kernel), List.mem_of_getElem? (i := 1419) (by decide +kernel)⟩
theorem lw_p115 : lw_okq (⟨"WokenByKettleModel", "oddsOf", "(I)J"⟩, 55) := ⟨⟨by decide +kernel, by decide +kernel⟩, List.mem_of_getElem? (i := 1065) (by decide +kernel), List.mem_of_getElem? (i := 1422) (by decide +kernel), List.mem_of_getElem? (i := 1423) (by decide +kernel)⟩
theorem lw_p116 : lw_okq (⟨"WokenByKettleModel", "goesOdds", "(I)J"⟩, 55) := ⟨⟨by decide +kernel, by decide +kernel⟩, List.mem_of_getElem? (i := 1065) (by decide +kernel), List.mem_of_getElem? (i := 1426) (by decide +kernel), List.mem_of_getElem? (i := 1427) (by decide +kernel)⟩
theorem lw_p117 : lw_okq (⟨"WokenByKettleModel", "whole", "()J"⟩, 55) := ⟨⟨by decide +kernel, by decide +kernel⟩, List.mem_of_getElem? (i := 1065) (by decide +kernel), List.mem_of_getElem? (i := 1430) (by decide +kernel), List.mem_of_getElem? (i := 1431) (by decide +kernel)⟩
theorem lw_p118 : lw_okq (⟨"WokenByKettleModel", "findMinutes", "()V"⟩, 55) := ⟨⟨by decide +kernel, by decide +kernel⟩, List.mem_of_getElem? (i := 1065) (by decide +kernel), List.mem_of_getElem? (i := 1451) (by decide +kernel), List.mem_of_getElem? (i := 1452) (by decide +kernel)⟩
theorem lw_p119 : lw_okq (⟨"WokenByKettleModel", "worthAt", "(I)I"⟩, 55) := ⟨⟨by decide +kernel, by decide +kernel⟩, List.mem_of_getElem? (i := 1065) (by decide +kernel), List.mem_of_getElem? (i := 1455) (by decide +kernel), List.mem_of_getElem? (i := 1456) (by decide +kernel)⟩
theorem lw_p120 : lw_okq (⟨"WokenByKettleModel", "changedBy", "(II)J"⟩, 55) := ⟨⟨by decide +kernel, by decide +kernel⟩, List.mem_of_getElem? (i := 1065) (by decide +kernel), List.mem_of_getElem? (i := 1468) (by decide +kernel), List.mem_of_getElem? (i := 1469) (by decide +kernel)⟩
theorem lw_p121 : lw_okq (⟨"WokenByKettleModel", "burnsNow", "()Z"⟩, 55) := ⟨⟨by decide +kernel, by decide +kernel⟩, List.mem_of_getElem? (i := 1065) (by decide +kernel), List.mem_of_getElem? (i := 1477) (by decide +kernel), List.mem_of_getElem? (i := 1478) (by decide +kernel)⟩
theorem lw_p122 : lw_okq (⟨"WokenByKettleModel", "findSo", "(I)V"⟩, 55) := ⟨⟨by decide +kernel, by decide +kernel⟩, List.mem_of_getElem? (i := 1065) (by decide +kernel), List.mem_of_getElem? (i := 1489) (by decide +kernel), List.mem_of_getElem? (i := 1490) (by decide +kernel)⟩
theorem lw_p123 : lw_okq (⟨"WokenByKettleModel", "goMends", "(III)V"⟩, 55) := ⟨⟨by decide +kernel, by decide +kernel⟩, List.mem_of_getElem? (i := 1065) (by decide +kernel), List.mem_of_getElem? (i := 1505) (by decide +kernel), List.mem_of_getElem? (i := 1506) (by decide +kernel)⟩
theorem lw_p124 : lw_okq (⟨"WokenByKettleModel", "oddsNow", "()I"⟩, 55) := ⟨⟨by decide +kernel, by decide +kernel⟩, List.mem_of_getElem? (i := 1065) (by decide +kernel), List.mem_of_getElem? (i := 1509) (by decide +kernel), List.mem_of_getElem? (i := 1510) (by decide +kernel)⟩
theorem lw_p125 : lw_okq (⟨"WokenByKettleModel", "rowFault", "(I)I"⟩, 55) := ⟨⟨by decide +kernel, by decide +kernel⟩, List.mem_of_getElem? (i := 1065) (by decide +kernel), List.mem_of_getElem? (i := 1517) (by decide +kernel), List.mem_of_getElem? (i := 1518) (by decide +kernel)⟩
theorem lw_p126 : lw_okq (⟨"WokenByKettleModel", "justOdds", "(I)J"⟩, 55) := ⟨⟨by decide +kernel, by decide +kernel⟩, List.mem_of_getElem? (i := 1065) (by decide +kernel), List.mem_of_getElem? (i := 1521) (by decide +kernel), List.mem_of_getElem? (i := 1522) (by decide +kernel)⟩
theorem lw_p127 : lw_okq (⟨"WokenByKettleModel", "productBy", "(I)J"⟩, 55) := ⟨⟨by decide +kernel, by decide +kernel⟩, List.mem_of_getElem? (i := 1065) (by decide +kernel), List.mem_of_getElem? (i := 1534) (by decide +kernel), List.mem_of_getElem? (i := 1535) (by decide +kernel)⟩
def lw_privs_8 : List (MethodName × Nat) := [(⟨"WokenByKettleModel", "endsBy", "(I)J"⟩, 55), (⟨"WokenByKettleModel", "sets", "()I"⟩, 55), (⟨"WokenByKettleModel", "endNow", "()I"⟩, 55), (⟨"WokenByKettleModel", "oddsOf", "(I)J"⟩, 55), (⟨"WokenByKettleModel", "goesOdds", "(I)J"⟩, 55), (⟨"WokenByKettleModel", "whole", "()J"⟩, 55), (⟨"WokenByKettleModel", "findMinutes", "()V"⟩, 55), (⟨"WokenByKettleModel", "worthAt", "(I)I"⟩, 55), (⟨"WokenByKettleModel", "changedBy", "(II)J"⟩, 55), (⟨"WokenByKettleModel", "burnsNow", "()Z"⟩, 55), (⟨"WokenByKettleModel", "findSo", "(I)V"⟩, 55), (⟨"WokenByKettleModel", "goMends", "(III)V"⟩, 55), (⟨"WokenByKettleModel", "oddsNow", "()I"⟩, 55), (⟨"WokenByKettleModel", "rowFault", "(I)I"⟩, 55), (⟨"WokenByKettleModel", "justOdds", "(I)J"⟩, 55), (⟨"WokenByKettleModel", "productBy", "(I)J"⟩, 55)]
theorem lw_r8 : ∀ q ∈ lw_privs_8, lw_okq q := List.forall_mem_cons.mpr ⟨lw_p112, List.forall_mem_cons.mpr ⟨lw_p113, List.forall_mem_cons.mpr ⟨lw_p114, List.forall_mem_cons.mpr ⟨lw_p115, List.forall_mem_cons.mpr ⟨lw_p116, List.forall_mem_cons.mpr ⟨lw_p117, List.forall_mem_cons.mpr ⟨lw_p118, List.forall_mem_cons.mpr ⟨lw_p119, List.forall_mem_cons.mpr ⟨lw_p120, List.forall_mem_cons.mpr ⟨lw_p121, List.forall_mem_cons.mpr ⟨lw_p122, List.forall_mem_cons.mpr ⟨lw_p123, List.forall_mem_cons.mpr ⟨lw_p124, List.forall_mem_cons.mpr ⟨lw_p125, List.forall_mem_cons.mpr ⟨lw_p126, List.forall_mem_cons.mpr ⟨lw_p127, fun _ h => absurd h List.not_mem_nil⟩⟩⟩⟩⟩⟩⟩⟩⟩⟩⟩⟩⟩⟩⟩⟩
theorem lw_p128 : lw_okq (⟨"WokenByKettleModel", "isBody", "(I)Z"⟩, 55) := ⟨⟨by decide +kernel, by decide +kernel⟩, List.mem_of_getElem? (i := 1065) (by decide +kernel), List.mem_of_getElem? (i := 1576) (by decide +kernel), List.mem_of_getElem? (i := 1577) (by decide +kernel)⟩
theorem lw_p129 : lw_okq (⟨"WokenByKettleModel", "starting", "(II)I"⟩, 55) := ⟨⟨by decide +kernel, by decide +kernel⟩, List.mem_of_getElem? (i := 1065) (by decide +kernel), List.mem_of_getElem? (i := 1580) (by decide +kernel), List.mem_of_getElem? (i := 1581) (by decide +kernel)⟩
theorem lw_p130 : lw_okq (⟨"WokenByKettleModel", "ran", "(I)V"⟩, 55) := ⟨⟨by decide +kernel, by decide +kernel⟩, List.mem_of_getElem? (i := 1065) (by decide +kernel), List.mem_of_getElem? (i := 1587) (by decide +kernel), List.mem_of_getElem? (i := 1588) (by decide +kernel)⟩
theorem lw_p131 : lw_okq (⟨"WokenByKettleModel", "plainStarts", "(II)I"⟩, 55) := ⟨⟨by decide +kernel, by decide +kernel⟩, List.mem_of_getElem? (i := 1065) (by decide +kernel), List.mem_of_getElem? (i := 1591) (by decide +kernel), List.mem_of_getElem? (i := 1592) (by decide +kernel)⟩
theorem lw_p132 : lw_okq (⟨"WokenByKettleModel", "catStarts", "(II)I"⟩, 55) := ⟨⟨by decide +kernel, by decide +kernel⟩, List.mem_of_getElem? (i := 1065) (by decide +kernel), List.mem_of_getElem? (i := 1595) (by decide +kernel), List.mem_of_getElem? (i := 1596) (by decide +kernel)⟩
theorem lw_p133 : lw_okq (⟨"WokenByKettleModel", "taking", "(II)I"⟩, 55) := ⟨⟨by decide +kernel, by decide +kernel⟩, List.mem_of_getElem? (i := 1065) (by decide +kernel), List.mem_of_getElem? (i := 1599) (by decide +kernel), List.mem_of_getElem? (i := 1600) (by decide +kernel)⟩
theorem lw_p134 : lw_okq (⟨"WokenByKettleModel", "matchTakes", "(II)I"⟩, 55) := ⟨⟨by decide +kernel, by decide +kernel⟩, List.mem_of_getElem? (i := 1065) (by decide +kernel), List.mem_of_getElem? (i := 1603) (by decide +kernel), List.mem_of_getElem? (i := 1604) (by decide +kernel)⟩
theorem lw_p135 : lw_okq (⟨"WokenByKettleModel", "plainTakes", "(II)I"⟩, 55) := ⟨⟨by decide +kernel, by decide +kernel⟩, List.mem_of_getElem? (i := 1065) (by decide +kernel), List.mem_of_getElem? (i := 1607) (by decide +kernel), List.mem_of_getElem? (i := 1608) (by decide +kernel)⟩
theorem lw_p136 : lw_okq (⟨"WokenByKettleModel", "failing", "(II)I"⟩, 55) := ⟨⟨by decide +kernel, by decide +kernel⟩, List.mem_of_getElem? (i := 1065) (by decide +kernel), List.mem_of_getElem? (i := 1611) (by decide +kernel), List.mem_of_getElem? (i := 1612) (by decide +kernel)⟩
theorem lw_p137 : lw_okq (⟨"WokenByKettleModel", "leverFails", "(II)I"⟩, 55) := ⟨⟨by decide +kernel, by decide +kernel⟩, List.mem_of_getElem? (i := 1065) (by decide +kernel), List.mem_of_getElem? (i := 1615) (by decide +kernel), List.mem_of_getElem? (i := 1616) (by decide +kernel)⟩
theorem lw_p138 : lw_okq (⟨"WokenByKettleModel", "plainFails", "(II)I"⟩, 55) := ⟨⟨by decide +kernel, by decide +kernel⟩, List.mem_of_getElem? (i := 1065) (by decide +kernel), List.mem_of_getElem? (i := 1619) (by decide +kernel), List.mem_of_getElem? (i := 1620) (by decide +kernel)⟩
theorem lw_p139 : lw_okq (⟨"WokenByKettleModel", "telling", "(II)I"⟩, 55) := ⟨⟨by decide +kernel, by decide +kernel⟩, List.mem_of_getElem? (i := 1065) (by decide +kernel), List.mem_of_getElem? (i := 1623) (by decide +kernel), List.mem_of_getElem? (i := 1624) (by decide +kernel)⟩
theorem lw_p140 : lw_okq (⟨"WokenByKettleModel", "plainTells", "(II)I"⟩, 55) := ⟨⟨by decide +kernel, by decide +kernel⟩, List.mem_of_getElem? (i := 1065) (by decide +kernel), List.mem_of_getElem? (i := 1627) (by decide +kernel), List.mem_of_getElem? (i := 1628) (by decide +kernel)⟩
theorem lw_p141 : lw_okq (⟨"WokenByKettleModel", "whyNoPlace", "(II)I"⟩, 55) := ⟨⟨by decide +kernel, by decide +kernel⟩, List.mem_of_getElem? (i := 1065) (by decide +kernel), List.mem_of_getElem? (i := 1647) (by decide +kernel), List.mem_of_getElem? (i := 1648) (by decide +kernel)⟩
def lw_privs_9 : List (MethodName × Nat) := [(⟨"WokenByKettleModel", "isBody", "(I)Z"⟩, 55), (⟨"WokenByKettleModel", "starting", "(II)I"⟩, 55), (⟨"WokenByKettleModel", "ran", "(I)V"⟩, 55), (⟨"WokenByKettleModel", "plainStarts", "(II)I"⟩, 55), (⟨"WokenByKettleModel", "catStarts", "(II)I"⟩, 55), (⟨"WokenByKettleModel", "taking", "(II)I"⟩, 55), (⟨"WokenByKettleModel", "matchTakes", "(II)I"⟩, 55), (⟨"WokenByKettleModel", "plainTakes", "(II)I"⟩, 55), (⟨"WokenByKettleModel", "failing", "(II)I"⟩, 55), (⟨"WokenByKettleModel", "leverFails", "(II)I"⟩, 55), (⟨"WokenByKettleModel", "plainFails", "(II)I"⟩, 55), (⟨"WokenByKettleModel", "telling", "(II)I"⟩, 55), (⟨"WokenByKettleModel", "plainTells", "(II)I"⟩, 55), (⟨"WokenByKettleModel", "whyNoPlace", "(II)I"⟩, 55)]
theorem lw_r9 : ∀ q ∈ lw_privs_9, lw_okq q := List.forall_mem_cons.mpr ⟨lw_p128, List.forall_mem_cons.mpr ⟨lw_p129, List.forall_mem_cons.mpr ⟨lw_p130, List.forall_mem_cons.mpr ⟨lw_p131, List.forall_mem_cons.mpr ⟨lw_p132, List.forall_mem_cons.mpr ⟨lw_p133, List.forall_mem_cons.mpr ⟨lw_p134, List.forall_mem_cons.mpr ⟨lw_p135, List.forall_mem_cons.mpr ⟨lw_p136, List.forall_mem_cons.mpr ⟨lw_p137, List.forall_mem_cons.mpr ⟨lw_p138, List.forall_mem_cons.mpr ⟨lw_p139, List.forall_mem_cons.mpr ⟨lw_p140, List.forall_mem_cons.mpr ⟨lw_p141, fun _ h => absurd h List.not_mem_nil⟩⟩⟩⟩⟩⟩⟩⟩⟩⟩⟩⟩⟩⟩
def lw_privs : List (MethodName × Nat) := lw_privs_1 ++ (lw_privs_2 ++ (lw_privs_3 ++ (lw_privs_4 ++ (lw_privs_5 ++ (lw_privs_6 ++ (lw_privs_7 ++ (lw_privs_8 ++ (lw_privs_9))))))))
def lw_tbl : List Cond := k2_sels lw_privs ++ tables_1
theorem lw_privs_ok : ∀ q ∈ lw_privs, lw_okq q := by
  show ∀ q ∈ lw_privs_1 ++ (lw_privs_2 ++ (lw_privs_3 ++ (lw_privs_4 ++ (lw_privs_5 ++ (lw_privs_6 ++ (lw_privs_7 ++ (lw_privs_8 ++ (lw_privs_9)))))))), lw_okq q
  exact List.forall_mem_append.mpr ⟨lw_r1, List.forall_mem_append.mpr ⟨lw_r2, List.forall_mem_append.mpr ⟨lw_r3, List.forall_mem_append.mpr ⟨lw_r4, List.forall_mem_append.mpr ⟨lw_r5, List.forall_mem_append.mpr ⟨lw_r6, List.forall_mem_append.mpr ⟨lw_r7, List.forall_mem_append.mpr ⟨lw_r8, lw_r9⟩⟩⟩⟩⟩⟩⟩⟩
-- ===== end of PART A; then your names; then what follows =====
end
section
-- written by wip/gen/gen_tables.py: the classes, the cells, the outer arrays
def kTZ : u_T := fun k => match k with
  | 0 => ("WokenByKettle", "kitchen", "LWokenByKettle$Kitchen;", true)
  | 1 => ("WokenByKettle", "paths", "LWokenByKettle$Paths;", true)
  | 2 => ("WokenByKettle", "thought", "LWokenByKettle$Thought;", true)
  | 3 => ("WokenByKettle", "chances", "LWokenByKettle$Chances;", true)
  | 4 => ("WokenByKettle", "inquest", "LWokenByKettle$Inquest;", true)
  | 5 => ("WokenByKettle", "plan", "LWokenByKettle$Plan;", true)
  | 6 => ("WokenByKettle", "deeds", "LWokenByKettle$Deeds;", true)
  | 7 => ("WokenByKettle", "changes", "LWokenByKettle$Changes;", true)
  | 8 => ("WokenByKettle", "acts", "LWokenByKettle$Acts;", true)
  | _ => ("WokenByKettle", "shelves", "LWokenByKettle$Shelves;", true)
def kYZ : Nat → FieldType := fun k => match k with
  | 0 => .object "WokenByKettle$Kitchen"
  | 1 => .object "WokenByKettle$Paths"
  | 2 => .object "WokenByKettle$Thought"
  | 3 => .object "WokenByKettle$Chances"
  | 4 => .object "WokenByKettle$Inquest"
  | 5 => .object "WokenByKettle$Plan"
  | 6 => .object "WokenByKettle$Deeds"
  | 7 => .object "WokenByKettle$Changes"
  | 8 => .object "WokenByKettle$Acts"
  | _ => .object "WokenByKettle$Shelves"
def kTK : u_T := fun k => match k with
  | 0 => ("WokenByKettle$Kitchen", "numbers", "[[I", true)
  | 1 => ("WokenByKettle$Kitchen", "named", "[I", true)
  | 2 => ("WokenByKettle$Kitchen", "rules", "LWokenByKettle$Law;", true)
  | 3 => ("WokenByKettle$Kitchen", "parts", "I", false)
  | 4 => ("WokenByKettle$Kitchen", "writings", "I", false)
  | _ => ("WokenByKettle$Kitchen", "shapes", "I", false)
def kYK : Nat → FieldType := fun k => match k with
  | 0 => .array (.array .int)
  | 1 => .array .int
  | 2 => .object "WokenByKettle$Law"
  | 3 => .int
  | 4 => .int
  | _ => .int
def kTL : u_T := fun k => match k with
  | 0 => ("WokenByKettle$Law", "tape", "[I", true)
  | 1 => ("WokenByKettle$Law", "stack", "[I", true)
  | 2 => ("WokenByKettle$Law", "code", "[I", false)
  | 3 => ("WokenByKettle$Law", "draft", "[I", false)
  | 4 => ("WokenByKettle$Law", "fed", "I", false)
  | 5 => ("WokenByKettle$Law", "codeLength", "I", false)
  | 6 => ("WokenByKettle$Law", "draftLength", "I", false)
  | 7 => ("WokenByKettle$Law", "at", "I", false)
  | _ => ("WokenByKettle$Law", "faulty", "Z", false)
def kYL : Nat → FieldType := fun k => match k with
  | 0 => .array .int
  | 1 => .array .int
  | 2 => .array .int
  | 3 => .array .int
  | 4 => .int
  | 5 => .int
  | 6 => .int
  | 7 => .int
  | _ => .boolean
def kTP : u_T := fun k => match k with
  | 0 => ("WokenByKettle$Paths", "kitchen", "LWokenByKettle$Kitchen;", true)
  | 1 => ("WokenByKettle$Paths", "minutes", "[[I", true)
  | 2 => ("WokenByKettle$Paths", "goers", "[I", true)
  | 3 => ("WokenByKettle$Paths", "stuckOnes", "[I", true)
  | 4 => ("WokenByKettle$Paths", "ends", "[I", true)
  | 5 => ("WokenByKettle$Paths", "sets", "I", false)
  | _ => ("WokenByKettle$Paths", "shapesSeen", "I", false)
def kYP : Nat → FieldType := fun k => match k with
  | 0 => .object "WokenByKettle$Kitchen"
  | 1 => .array (.array .int)
  | 2 => .array .int
  | 3 => .array .int
  | 4 => .array .int
  | 5 => .int
  | _ => .int
def kTT : u_T := fun k => match k with
  | 0 => ("WokenByKettle$Thought", "kitchen", "LWokenByKettle$Kitchen;", true)
  | 1 => ("WokenByKettle$Thought", "paths", "LWokenByKettle$Paths;", true)
  | 2 => ("WokenByKettle$Thought", "twelfths", "[I", true)
  | 3 => ("WokenByKettle$Thought", "odds", "[J", true)
  | 4 => ("WokenByKettle$Thought", "oddsOfMinute", "[J", true)
  | 5 => ("WokenByKettle$Thought", "endings", "[I", true)
  | 6 => ("WokenByKettle$Thought", "endingCount", "I", false)
  | 7 => ("WokenByKettle$Thought", "whole", "J", false)
  | _ => ("WokenByKettle$Thought", "writingsSeen", "I", false)
def kYT : Nat → FieldType := fun k => match k with
  | 0 => .object "WokenByKettle$Kitchen"
  | 1 => .object "WokenByKettle$Paths"
  | 2 => .array .int
  | 3 => .array .long
  | 4 => .array .long
  | 5 => .array .int
  | 6 => .int
  | 7 => .long
  | _ => .int
def kTC : u_T := fun k => match k with
  | 0 => ("WokenByKettle$Chances", "kitchen", "LWokenByKettle$Kitchen;", true)
  | 1 => ("WokenByKettle$Chances", "paths", "LWokenByKettle$Paths;", true)
  | 2 => ("WokenByKettle$Chances", "thought", "LWokenByKettle$Thought;", true)
  | _ => ("WokenByKettle$Chances", "others", "[J", true)
def kYC : Nat → FieldType := fun k => match k with
  | 0 => .object "WokenByKettle$Kitchen"
  | 1 => .object "WokenByKettle$Paths"
  | 2 => .object "WokenByKettle$Thought"
  | _ => .array .long
def kTI : u_T := fun k => match k with
  | 0 => ("WokenByKettle$Inquest", "kitchen", "LWokenByKettle$Kitchen;", true)
  | 1 => ("WokenByKettle$Inquest", "paths", "LWokenByKettle$Paths;", true)
  | 2 => ("WokenByKettle$Inquest", "thought", "LWokenByKettle$Thought;", true)
  | 3 => ("WokenByKettle$Inquest", "others", "[J", true)
  | 4 => ("WokenByKettle$Inquest", "products", "[J", true)
  | 5 => ("WokenByKettle$Inquest", "seen", "I", false)
  | 6 => ("WokenByKettle$Inquest", "told", "I", false)
  | _ => ("WokenByKettle$Inquest", "suspect", "I", false)
def kYI : Nat → FieldType := fun k => match k with
  | 0 => .object "WokenByKettle$Kitchen"
  | 1 => .object "WokenByKettle$Paths"
  | 2 => .object "WokenByKettle$Thought"
  | 3 => .array .long
  | 4 => .array .long
  | 5 => .int
  | 6 => .int
  | _ => .int
def kTN : u_T := fun k => match k with
  | 0 => ("WokenByKettle$Plan", "kitchen", "LWokenByKettle$Kitchen;", true)
  | 1 => ("WokenByKettle$Plan", "paths", "LWokenByKettle$Paths;", true)
  | 2 => ("WokenByKettle$Plan", "thought", "LWokenByKettle$Thought;", true)
  | 3 => ("WokenByKettle$Plan", "together", "[[I", true)
  | 4 => ("WokenByKettle$Plan", "twelfthsBy", "[[I", true)
  | 5 => ("WokenByKettle$Plan", "twelfths", "[I", true)
  | 6 => ("WokenByKettle$Plan", "odds", "[J", true)
  | _ => ("WokenByKettle$Plan", "base", "I", false)
def kYN : Nat → FieldType := fun k => match k with
  | 0 => .object "WokenByKettle$Kitchen"
  | 1 => .object "WokenByKettle$Paths"
  | 2 => .object "WokenByKettle$Thought"
  | 3 => .array (.array .int)
  | 4 => .array (.array .int)
  | 5 => .array .int
  | 6 => .array .long
  | _ => .int
def kTD : u_T := fun k => match k with
  | 0 => ("WokenByKettle$Deeds", "kitchen", "LWokenByKettle$Kitchen;", true)
  | 1 => ("WokenByKettle$Deeds", "paths", "LWokenByKettle$Paths;", true)
  | 2 => ("WokenByKettle$Deeds", "ledger", "[I", true)
  | 3 => ("WokenByKettle$Deeds", "ledgerKept", "[I", true)
  | 4 => ("WokenByKettle$Deeds", "agesKept", "[I", true)
  | 5 => ("WokenByKettle$Deeds", "partsKept", "I", false)
  | _ => ("WokenByKettle$Deeds", "kept", "Z", false)
def kYD : Nat → FieldType := fun k => match k with
  | 0 => .object "WokenByKettle$Kitchen"
  | 1 => .object "WokenByKettle$Paths"
  | 2 => .array .int
  | 3 => .array .int
  | 4 => .array .int
  | 5 => .int
  | _ => .boolean
def kTG : u_T := fun k => match k with
  | 0 => ("WokenByKettle$Changes", "kitchen", "LWokenByKettle$Kitchen;", true)
  | 1 => ("WokenByKettle$Changes", "numbers", "[I", true)
  | 2 => ("WokenByKettle$Changes", "whats", "[I", true)
  | 3 => ("WokenByKettle$Changes", "olds", "[I", true)
  | 4 => ("WokenByKettle$Changes", "news", "[I", true)
  | 5 => ("WokenByKettle$Changes", "done", "I", false)
  | _ => ("WokenByKettle$Changes", "all", "I", false)
def kYG : Nat → FieldType := fun k => match k with
  | 0 => .object "WokenByKettle$Kitchen"
  | 1 => .array .int
  | 2 => .array .int
  | 3 => .array .int
  | 4 => .array .int
  | 5 => .int
  | _ => .int
def kTA : u_T := fun k => match k with
  | 0 => ("WokenByKettle$Acts", "kinds", "[I", true)
  | 1 => ("WokenByKettle$Acts", "trace", "[I", true)
  | 2 => ("WokenByKettle$Acts", "bodies", "I", false)
  | 3 => ("WokenByKettle$Acts", "ran", "I", false)
  | 4 => ("WokenByKettle$Acts", "number", "I", false)
  | _ => ("WokenByKettle$Acts", "kind", "I", false)
def kYA : Nat → FieldType := fun k => match k with
  | 0 => .array .int
  | 1 => .array .int
  | 2 => .int
  | 3 => .int
  | 4 => .int
  | _ => .int
def kTS : u_T := fun k => match k with
  | 0 => ("WokenByKettle$Shelves", "holds", "[I", true)
  | 1 => ("WokenByKettle$Shelves", "bodies", "[I", true)
  | 2 => ("WokenByKettle$Shelves", "sorts", "[I", true)
  | 3 => ("WokenByKettle$Shelves", "sizes", "[I", true)
  | _ => ("WokenByKettle$Shelves", "cells", "[[J", true)
def kYS : Nat → FieldType := fun k => match k with
  | 0 => .array .int
  | 1 => .array .int
  | 2 => .array .int
  | 3 => .array .int
  | _ => .array (.array .long)
def kTY : u_T := fun k => match k with
  | 0 => ("WokenByKettleModel", "code", "I", false)
  | 1 => ("WokenByKettleModel", "parts1", "I", false)
  | 2 => ("WokenByKettleModel", "ahead", "[I", true)
  | 3 => ("WokenByKettleModel", "any", "[I", true)
  | 4 => ("WokenByKettleModel", "worksOf", "[I", true)
  | 5 => ("WokenByKettleModel", "takes", "[I", true)
  | 6 => ("WokenByKettleModel", "wear", "[I", true)
  | 7 => ("WokenByKettleModel", "age", "[I", true)
  | 8 => ("WokenByKettleModel", "told", "[I", true)
  | 9 => ("WokenByKettleModel", "doneMany", "I", false)
  | 10 => ("WokenByKettleModel", "undoneMany", "I", false)
  | 11 => ("WokenByKettleModel", "changeOf", "[I", true)
  | 12 => ("WokenByKettleModel", "changeAt", "[I", true)
  | 13 => ("WokenByKettleModel", "before", "[I", true)
  | 14 => ("WokenByKettleModel", "behind", "[I", true)
  | 15 => ("WokenByKettleModel", "tape", "[B", true)
  | 16 => ("WokenByKettleModel", "taped", "I", false)
  | 17 => ("WokenByKettleModel", "here", "I", false)
  | 18 => ("WokenByKettleModel", "fault", "I", false)
  | 19 => ("WokenByKettleModel", "open", "I", false)
  | 20 => ("WokenByKettleModel", "laid", "I", false)
  | 21 => ("WokenByKettleModel", "act", "[B", true)
  | 22 => ("WokenByKettleModel", "with", "[I", true)
  | 23 => ("WokenByKettleModel", "lineMany", "[I", true)
  | 24 => ("WokenByKettleModel", "testEnd", "[S", true)
  | 25 => ("WokenByKettleModel", "lineEnd", "[S", true)
  | 26 => ("WokenByKettleModel", "facts", "[I", true)
  | 27 => ("WokenByKettleModel", "pile", "[I", true)
  | 28 => ("WokenByKettleModel", "hasLaw", "Z", false)
  | 29 => ("WokenByKettleModel", "goneAt", "[I", true)
  | 30 => ("WokenByKettleModel", "stuck1", "I", false)
  | 31 => ("WokenByKettleModel", "went", "I", false)
  | 32 => ("WokenByKettleModel", "twelfths", "[I", true)
  | 33 => ("WokenByKettleModel", "doubled", "I", false)
  | 34 => ("WokenByKettleModel", "byMinute", "[J", true)
  | 35 => ("WokenByKettleModel", "allSo", "J", false)
  | 36 => ("WokenByKettleModel", "stuckSo", "[J", true)
  | 37 => ("WokenByKettleModel", "goneSo", "[J", true)
  | 38 => ("WokenByKettleModel", "whomOf", "[I", true)
  | 39 => ("WokenByKettleModel", "bestWhom", "[I", true)
  | 40 => ("WokenByKettleModel", "mostSum", "I", false)
  | 41 => ("WokenByKettleModel", "ages1", "[I", true)
  | 42 => ("WokenByKettleModel", "ledOf", "[I", true)
  | 43 => ("WokenByKettleModel", "hasImage", "Z", false)
  | 44 => ("WokenByKettleModel", "keptMany", "I", false)
  | 45 => ("WokenByKettleModel", "keptAge", "[I", true)
  | 46 => ("WokenByKettleModel", "keptLed", "[I", true)
  | 47 => ("WokenByKettleModel", "bodies", "I", false)
  | 48 => ("WokenByKettleModel", "kind", "[I", true)
  | 49 => ("WokenByKettleModel", "traces", "I", false)
  | 50 => ("WokenByKettleModel", "traced", "[I", true)
  | 51 => ("WokenByKettleModel", "holds", "[I", true)
  | 52 => ("WokenByKettleModel", "size", "[I", true)
  | 53 => ("WokenByKettleModel", "elements", "[J", true)
  | _ => ("WokenByKettleModel", "shifted", "[J", true)
def kYY : Nat → FieldType := fun k => match k with
  | 0 => .int
  | 1 => .int
  | 2 => .array .int
  | 3 => .array .int
  | 4 => .array .int
  | 5 => .array .int
  | 6 => .array .int
  | 7 => .array .int
  | 8 => .array .int
  | 9 => .int
  | 10 => .int
  | 11 => .array .int
  | 12 => .array .int
  | 13 => .array .int
  | 14 => .array .int
  | 15 => .array .byte
  | 16 => .int
  | 17 => .int
  | 18 => .int
  | 19 => .int
  | 20 => .int
  | 21 => .array .byte
  | 22 => .array .int
  | 23 => .array .int
  | 24 => .array .short
  | 25 => .array .short
  | 26 => .array .int
  | 27 => .array .int
  | 28 => .boolean
  | 29 => .array .int
  | 30 => .int
  | 31 => .int
  | 32 => .array .int
  | 33 => .int
  | 34 => .array .long
  | 35 => .long
  | 36 => .array .long
  | 37 => .array .long
  | 38 => .array .int
  | 39 => .array .int
  | 40 => .int
  | 41 => .array .int
  | 42 => .array .int
  | 43 => .boolean
  | 44 => .int
  | 45 => .array .int
  | 46 => .array .int
  | 47 => .int
  | 48 => .array .int
  | 49 => .int
  | 50 => .array .int
  | 51 => .array .int
  | 52 => .array .int
  | 53 => .array .long
  | _ => .array .long
def clsT : List vw_C := [("WokenByKettle", kTZ, 10), ("WokenByKettle$Kitchen", kTK, 6), ("WokenByKettle$Law", kTL, 9), ("WokenByKettle$Paths", kTP, 7), ("WokenByKettle$Thought", kTT, 9), ("WokenByKettle$Chances", kTC, 4), ("WokenByKettle$Inquest", kTI, 8), ("WokenByKettle$Plan", kTN, 8), ("WokenByKettle$Deeds", kTD, 7), ("WokenByKettle$Changes", kTG, 7), ("WokenByKettle$Acts", kTA, 6), ("WokenByKettle$Shelves", kTS, 5), ("WokenByKettleModel", kTY, 55)]
def tyC : Nat → Nat → FieldType := fun c => match c with
  | 0 => kYZ
  | 1 => kYK
  | 2 => kYL
  | 3 => kYP
  | 4 => kYT
  | 5 => kYC
  | 6 => kYI
  | 7 => kYN
  | 8 => kYD
  | 9 => kYG
  | 10 => kYA
  | 11 => kYS
  | _ => kYY
abbrev Kd : Type := (FieldType × Nat) ⊕ Nat
/-- what each cell is, by its number (0: none) -/
def tbl : List Kd := [.inl (.int, 0), .inr 0, .inr 1, .inl (.array .int, 13), .inl (.int, 9), .inl (.int, 9), .inl (.int, 9), .inl (.int, 9), .inl (.int, 9), .inl (.int, 9), .inl (.int, 9), .inl (.int, 9), .inl (.int, 9), .inl (.int, 9), .inl (.int, 9), .inl (.int, 9), .inl (.int, 9), .inl (.int, 6), .inr 2, .inl (.int, 120), .inl (.int, 128), .inl (.int, 128), .inl (.int, 128), .inr 3, .inl (.array .int, 9), .inl (.int, 512), .inl (.int, 512), .inl (.int, 512), .inl (.int, 512), .inl (.int, 512), .inl (.int, 512), .inl (.int, 512), .inl (.int, 512), .inl (.int, 512), .inl (.int, 512), .inl (.int, 512), .inl (.int, 512), .inr 4, .inl (.int, 9), .inl (.long, 512), .inl (.long, 541), .inl (.int, 512), .inr 5, .inl (.long, 512), .inr 6, .inl (.long, 512), .inl (.long, 13), .inr 7, .inl (.array .int, 3), .inl (.int, 216), .inl (.int, 216), .inl (.int, 216), .inl (.array .int, 5), .inl (.int, 6), .inl (.int, 6), .inl (.int, 6), .inl (.int, 6), .inl (.int, 6), .inl (.int, 5), .inl (.long, 32), .inr 8, .inl (.int, 6), .inl (.int, 6), .inl (.int, 9), .inr 9, .inl (.int, 40), .inl (.int, 40), .inl (.int, 40), .inl (.int, 40), .inr 10, .inl (.int, 50), .inl (.int, 24), .inr 11, .inl (.int, 6), .inl (.int, 6), .inl (.int, 6), .inl (.int, 6), .inl (.array .long, 6), .inl (.long, 60), .inl (.long, 60), .inl (.long, 60), .inl (.long, 60), .inl (.long, 60), .inl (.long, 60), .inr 12, .inl (.int, 9), .inl (.int, 9), .inl (.int, 9), .inl (.int, 9), .inl (.int, 9), .inl (.int, 9), .inl (.int, 7), .inl (.int, 40), .inl (.int, 40), .inl (.int, 40), .inl (.int, 40), .inl (.byte, 120), .inl (.byte, 260), .inl (.int, 260), .inl (.int, 2), .inl (.short, 122), .inl (.short, 122), .inl (.int, 6), .inl (.int, 130), .inl (.int, 9), .inl (.int, 9), .inl (.long, 541), .inl (.long, 9), .inl (.long, 9), .inl (.int, 3), .inl (.int, 3), .inl (.int, 15), .inl (.int, 6), .inl (.int, 9), .inl (.int, 6), .inl (.int, 50), .inl (.int, 24), .inl (.int, 6), .inl (.int, 6), .inl (.long, 360), .inl (.long, 60)]
abbrev NT : Nat := 120
def kz_sz (q : Kd) : Nat := match q with
  | .inl (_, n) => n
  | .inr ci => match clsT[ci]? with
    | some c => c.2.2
    | none => 0
def zs (n : Nat) : Nat := ((tbl.take (n + 1)).map kz_sz).sum
abbrev kz_E : Type := String × String × String × FieldType × Nat × List Int
def exts : List kz_E := [("WokenByKettle$Kitchen", "LEAST", "[I", .int, 13, [0, 0, 0, 1, 0, 0, 0, 0, 0, 0, 0, 0, 0]), ("WokenByKettle$Kitchen", "GREATEST", "[I", .int, 13, [511, 1, 12, 60, 9, 99, 9, 1, 300, 20, 20, 8, 8]), ("WokenByKettle$Law", "SIGNS", "[C", .char, 10, [124, 38, 60, 61, 62, 43, 45, 42, 47, 37]), ("WokenByKettle$Law", "LEVEL_OF_SIGN", "[I", .int, 10, [0, 1, 2, 2, 2, 3, 3, 4, 4, 4]), ("WokenByKettle$Law", "NAMES", "[C", .char, 6, [119, 100, 97, 101, 103, 112]), ("WokenByKettle$Acts", "ABOVE", "[I", .int, 8, [-1, 0, 0, 2, 1, 3, 0, 6]), ("WokenByKettle$Acts", "OWN_BODY", "[I", .int, 32, [1, 20, 0, 0, 0, 0, 70, 81, 10, 0, 30, 41, 0, 0, 0, 80, 11, 0, 0, 40, 0, 60, 0, 0, 2, 0, 0, 0, 50, 61, 0, 0])]
def kz_nest : Cond → Bool
  | .fieldLinkNest .. => true
  | .methodLinkNest .. => true
  | _ => false
def nst : List Cond := tables_1.filter kz_nest
def Tg : List Cond := lw_tbl.filter goodWord
theorem mT {w : Cond} (i : Nat) (h : lw_tbl[i]? = some w) (hg : goodWord w = true) : w ∈ Tg := List.mem_filter.mpr ⟨List.mem_of_getElem? h, hg⟩
theorem mN {w : Cond} (i : Nat) (h : tables_1[i]? = some w) (hg : kz_nest w = true) : w ∈ nst := List.mem_filter.mpr ⟨List.mem_of_getElem? h, hg⟩
theorem Tg_good {w : Cond} (h : w ∈ Tg) : goodWord w = true := (List.mem_filter.mp h).2
theorem kNZ : ∀ a, a < 10 → ∀ b, b < 10 → a ≠ b → (kTZ a).2.1 ≠ (kTZ b).2.1 := by decide +kernel
theorem kOZ : ∀ k, k < 10 → parseFieldDescriptor (kTZ k).2.2.1 = some (kYZ k) := by decide +kernel
theorem kWZ : ∀ w ∈ u_ws "WokenByKettle" kTZ 10, w ∈ Tg := by
  intro w hw
  obtain ⟨k, hk, rfl⟩ := List.mem_map.mp hw
  have hk := List.mem_range.mp hk
  match k, hk with
  | 0, _ => exact mT 530 (by decide +kernel) rfl
  | 1, _ => exact mT 532 (by decide +kernel) rfl
  | 2, _ => exact mT 534 (by decide +kernel) rfl
  | 3, _ => exact mT 536 (by decide +kernel) rfl
  | 4, _ => exact mT 538 (by decide +kernel) rfl
  | 5, _ => exact mT 540 (by decide +kernel) rfl
  | 6, _ => exact mT 542 (by decide +kernel) rfl
  | 7, _ => exact mT 544 (by decide +kernel) rfl
  | 8, _ => exact mT 546 (by decide +kernel) rfl
  | 9, _ => exact mT 548 (by decide +kernel) rfl
  | k + 10, h => exact absurd h (by omega)
theorem kNK : ∀ a, a < 6 → ∀ b, b < 6 → a ≠ b → (kTK a).2.1 ≠ (kTK b).2.1 := by decide +kernel
theorem kOK : ∀ k, k < 6 → parseFieldDescriptor (kTK k).2.2.1 = some (kYK k) := by decide +kernel
theorem kWK : ∀ w ∈ u_ws "WokenByKettle$Kitchen" kTK 6, w ∈ Tg := by
  intro w hw
  obtain ⟨k, hk, rfl⟩ := List.mem_map.mp hw
  have hk := List.mem_range.mp hk
  match k, hk with
  | 0, _ => exact mT 230 (by decide +kernel) rfl
  | 1, _ => exact mT 232 (by decide +kernel) rfl
  | 2, _ => exact mT 234 (by decide +kernel) rfl
  | 3, _ => exact mT 236 (by decide +kernel) rfl
  | 4, _ => exact mT 238 (by decide +kernel) rfl
  | 5, _ => exact mT 240 (by decide +kernel) rfl
  | k + 6, h => exact absurd h (by omega)
theorem kNL : ∀ a, a < 9 → ∀ b, b < 9 → a ≠ b → (kTL a).2.1 ≠ (kTL b).2.1 := by decide +kernel
theorem kOL : ∀ k, k < 9 → parseFieldDescriptor (kTL k).2.2.1 = some (kYL k) := by decide +kernel
theorem kWL : ∀ w ∈ u_ws "WokenByKettle$Law" kTL 9, w ∈ Tg := by
  intro w hw
  obtain ⟨k, hk, rfl⟩ := List.mem_map.mp hw
  have hk := List.mem_range.mp hk
  match k, hk with
  | 0, _ => exact mT 193 (by decide +kernel) rfl
  | 1, _ => exact mT 195 (by decide +kernel) rfl
  | 2, _ => exact mT 197 (by decide +kernel) rfl
  | 3, _ => exact mT 199 (by decide +kernel) rfl
  | 4, _ => exact mT 201 (by decide +kernel) rfl
  | 5, _ => exact mT 203 (by decide +kernel) rfl
  | 6, _ => exact mT 205 (by decide +kernel) rfl
  | 7, _ => exact mT 207 (by decide +kernel) rfl
  | 8, _ => exact mT 209 (by decide +kernel) rfl
  | k + 9, h => exact absurd h (by omega)
theorem kNP : ∀ a, a < 7 → ∀ b, b < 7 → a ≠ b → (kTP a).2.1 ≠ (kTP b).2.1 := by decide +kernel
theorem kOP : ∀ k, k < 7 → parseFieldDescriptor (kTP k).2.2.1 = some (kYP k) := by decide +kernel
theorem kWP : ∀ w ∈ u_ws "WokenByKettle$Paths" kTP 7, w ∈ Tg := by
  intro w hw
  obtain ⟨k, hk, rfl⟩ := List.mem_map.mp hw
  have hk := List.mem_range.mp hk
  match k, hk with
  | 0, _ => exact mT 269 (by decide +kernel) rfl
  | 1, _ => exact mT 271 (by decide +kernel) rfl
  | 2, _ => exact mT 273 (by decide +kernel) rfl
  | 3, _ => exact mT 275 (by decide +kernel) rfl
  | 4, _ => exact mT 277 (by decide +kernel) rfl
  | 5, _ => exact mT 279 (by decide +kernel) rfl
  | 6, _ => exact mT 281 (by decide +kernel) rfl
  | k + 7, h => exact absurd h (by omega)
theorem kNT : ∀ a, a < 9 → ∀ b, b < 9 → a ≠ b → (kTT a).2.1 ≠ (kTT b).2.1 := by decide +kernel
theorem kOT : ∀ k, k < 9 → parseFieldDescriptor (kTT k).2.2.1 = some (kYT k) := by decide +kernel
theorem kWT : ∀ w ∈ u_ws "WokenByKettle$Thought" kTT 9, w ∈ Tg := by
  intro w hw
  obtain ⟨k, hk, rfl⟩ := List.mem_map.mp hw
  have hk := List.mem_range.mp hk
  match k, hk with
  | 0, _ => exact mT 310 (by decide +kernel) rfl
  | 1, _ => exact mT 312 (by decide +kernel) rfl
  | 2, _ => exact mT 314 (by decide +kernel) rfl
  | 3, _ => exact mT 316 (by decide +kernel) rfl
  | 4, _ => exact mT 318 (by decide +kernel) rfl
  | 5, _ => exact mT 320 (by decide +kernel) rfl
  | 6, _ => exact mT 322 (by decide +kernel) rfl
  | 7, _ => exact mT 324 (by decide +kernel) rfl
  | 8, _ => exact mT 326 (by decide +kernel) rfl
  | k + 9, h => exact absurd h (by omega)
theorem kNC : ∀ a, a < 4 → ∀ b, b < 4 → a ≠ b → (kTC a).2.1 ≠ (kTC b).2.1 := by decide +kernel
theorem kOC : ∀ k, k < 4 → parseFieldDescriptor (kTC k).2.2.1 = some (kYC k) := by decide +kernel
theorem kWC : ∀ w ∈ u_ws "WokenByKettle$Chances" kTC 4, w ∈ Tg := by
  intro w hw
  obtain ⟨k, hk, rfl⟩ := List.mem_map.mp hw
  have hk := List.mem_range.mp hk
  match k, hk with
  | 0, _ => exact mT 340 (by decide +kernel) rfl
  | 1, _ => exact mT 342 (by decide +kernel) rfl
  | 2, _ => exact mT 344 (by decide +kernel) rfl
  | 3, _ => exact mT 346 (by decide +kernel) rfl
  | k + 4, h => exact absurd h (by omega)
theorem kNI : ∀ a, a < 8 → ∀ b, b < 8 → a ≠ b → (kTI a).2.1 ≠ (kTI b).2.1 := by decide +kernel
theorem kOI : ∀ k, k < 8 → parseFieldDescriptor (kTI k).2.2.1 = some (kYI k) := by decide +kernel
theorem kWI : ∀ w ∈ u_ws "WokenByKettle$Inquest" kTI 8, w ∈ Tg := by
  intro w hw
  obtain ⟨k, hk, rfl⟩ := List.mem_map.mp hw
  have hk := List.mem_range.mp hk
  match k, hk with
  | 0, _ => exact mT 363 (by decide +kernel) rfl
  | 1, _ => exact mT 365 (by decide +kernel) rfl
  | 2, _ => exact mT 367 (by decide +kernel) rfl
  | 3, _ => exact mT 369 (by decide +kernel) rfl
  | 4, _ => exact mT 371 (by decide +kernel) rfl
  | 5, _ => exact mT 373 (by decide +kernel) rfl
  | 6, _ => exact mT 375 (by decide +kernel) rfl
  | 7, _ => exact mT 377 (by decide +kernel) rfl
  | k + 8, h => exact absurd h (by omega)
theorem kNN : ∀ a, a < 8 → ∀ b, b < 8 → a ≠ b → (kTN a).2.1 ≠ (kTN b).2.1 := by decide +kernel
theorem kON : ∀ k, k < 8 → parseFieldDescriptor (kTN k).2.2.1 = some (kYN k) := by decide +kernel
theorem kWN : ∀ w ∈ u_ws "WokenByKettle$Plan" kTN 8, w ∈ Tg := by
  intro w hw
  obtain ⟨k, hk, rfl⟩ := List.mem_map.mp hw
  have hk := List.mem_range.mp hk
  match k, hk with
  | 0, _ => exact mT 395 (by decide +kernel) rfl
  | 1, _ => exact mT 397 (by decide +kernel) rfl
  | 2, _ => exact mT 399 (by decide +kernel) rfl
  | 3, _ => exact mT 401 (by decide +kernel) rfl
  | 4, _ => exact mT 403 (by decide +kernel) rfl
  | 5, _ => exact mT 405 (by decide +kernel) rfl
  | 6, _ => exact mT 407 (by decide +kernel) rfl
  | 7, _ => exact mT 409 (by decide +kernel) rfl
  | k + 8, h => exact absurd h (by omega)
theorem kND : ∀ a, a < 7 → ∀ b, b < 7 → a ≠ b → (kTD a).2.1 ≠ (kTD b).2.1 := by decide +kernel
theorem kOD : ∀ k, k < 7 → parseFieldDescriptor (kTD k).2.2.1 = some (kYD k) := by decide +kernel
theorem kWD : ∀ w ∈ u_ws "WokenByKettle$Deeds" kTD 7, w ∈ Tg := by
  intro w hw
  obtain ⟨k, hk, rfl⟩ := List.mem_map.mp hw
  have hk := List.mem_range.mp hk
  match k, hk with
  | 0, _ => exact mT 425 (by decide +kernel) rfl
  | 1, _ => exact mT 427 (by decide +kernel) rfl
  | 2, _ => exact mT 429 (by decide +kernel) rfl
  | 3, _ => exact mT 431 (by decide +kernel) rfl
  | 4, _ => exact mT 433 (by decide +kernel) rfl
  | 5, _ => exact mT 435 (by decide +kernel) rfl
  | 6, _ => exact mT 437 (by decide +kernel) rfl
  | k + 7, h => exact absurd h (by omega)
theorem kNG : ∀ a, a < 7 → ∀ b, b < 7 → a ≠ b → (kTG a).2.1 ≠ (kTG b).2.1 := by decide +kernel
theorem kOG : ∀ k, k < 7 → parseFieldDescriptor (kTG k).2.2.1 = some (kYG k) := by decide +kernel
theorem kWG : ∀ w ∈ u_ws "WokenByKettle$Changes" kTG 7, w ∈ Tg := by
  intro w hw
  obtain ⟨k, hk, rfl⟩ := List.mem_map.mp hw
  have hk := List.mem_range.mp hk
  match k, hk with
  | 0, _ => exact mT 454 (by decide +kernel) rfl
  | 1, _ => exact mT 456 (by decide +kernel) rfl
  | 2, _ => exact mT 458 (by decide +kernel) rfl
  | 3, _ => exact mT 460 (by decide +kernel) rfl
  | 4, _ => exact mT 462 (by decide +kernel) rfl
  | 5, _ => exact mT 464 (by decide +kernel) rfl
  | 6, _ => exact mT 466 (by decide +kernel) rfl
  | k + 7, h => exact absurd h (by omega)
theorem kNA : ∀ a, a < 6 → ∀ b, b < 6 → a ≠ b → (kTA a).2.1 ≠ (kTA b).2.1 := by decide +kernel
theorem kOA : ∀ k, k < 6 → parseFieldDescriptor (kTA k).2.2.1 = some (kYA k) := by decide +kernel
theorem kWA : ∀ w ∈ u_ws "WokenByKettle$Acts" kTA 6, w ∈ Tg := by
  intro w hw
  obtain ⟨k, hk, rfl⟩ := List.mem_map.mp hw
  have hk := List.mem_range.mp hk
  match k, hk with
  | 0, _ => exact mT 483 (by decide +kernel) rfl
  | 1, _ => exact mT 485 (by decide +kernel) rfl
  | 2, _ => exact mT 487 (by decide +kernel) rfl
  | 3, _ => exact mT 489 (by decide +kernel) rfl
  | 4, _ => exact mT 491 (by decide +kernel) rfl
  | 5, _ => exact mT 493 (by decide +kernel) rfl
  | k + 6, h => exact absurd h (by omega)
theorem kNS : ∀ a, a < 5 → ∀ b, b < 5 → a ≠ b → (kTS a).2.1 ≠ (kTS b).2.1 := by decide +kernel
theorem kOS : ∀ k, k < 5 → parseFieldDescriptor (kTS k).2.2.1 = some (kYS k) := by decide +kernel
theorem kWS : ∀ w ∈ u_ws "WokenByKettle$Shelves" kTS 5, w ∈ Tg := by
  intro w hw
  obtain ⟨k, hk, rfl⟩ := List.mem_map.mp hw
  have hk := List.mem_range.mp hk
  match k, hk with
  | 0, _ => exact mT 509 (by decide +kernel) rfl
  | 1, _ => exact mT 511 (by decide +kernel) rfl
  | 2, _ => exact mT 513 (by decide +kernel) rfl
  | 3, _ => exact mT 515 (by decide +kernel) rfl
  | 4, _ => exact mT 517 (by decide +kernel) rfl
  | k + 5, h => exact absurd h (by omega)
theorem kNY : ∀ a, a < 55 → ∀ b, b < 55 → a ≠ b → (kTY a).2.1 ≠ (kTY b).2.1 := by decide +kernel
theorem kOY : ∀ k, k < 55 → parseFieldDescriptor (kTY k).2.2.1 = some (kYY k) := by decide +kernel
theorem kWY : ∀ w ∈ u_ws "WokenByKettleModel" kTY 55, w ∈ Tg := by
  intro w hw
  obtain ⟨k, hk, rfl⟩ := List.mem_map.mp hw
  have hk := List.mem_range.mp hk
  match k, hk with
  | 0, _ => exact mT 1266 (by decide +kernel) rfl
  | 1, _ => exact mT 1268 (by decide +kernel) rfl
  | 2, _ => exact mT 1270 (by decide +kernel) rfl
  | 3, _ => exact mT 1272 (by decide +kernel) rfl
  | 4, _ => exact mT 1274 (by decide +kernel) rfl
  | 5, _ => exact mT 1276 (by decide +kernel) rfl
  | 6, _ => exact mT 1278 (by decide +kernel) rfl
  | 7, _ => exact mT 1280 (by decide +kernel) rfl
  | 8, _ => exact mT 1282 (by decide +kernel) rfl
  | 9, _ => exact mT 1284 (by decide +kernel) rfl
  | 10, _ => exact mT 1286 (by decide +kernel) rfl
  | 11, _ => exact mT 1288 (by decide +kernel) rfl
  | 12, _ => exact mT 1290 (by decide +kernel) rfl
  | 13, _ => exact mT 1292 (by decide +kernel) rfl
  | 14, _ => exact mT 1294 (by decide +kernel) rfl
  | 15, _ => exact mT 1296 (by decide +kernel) rfl
  | 16, _ => exact mT 1298 (by decide +kernel) rfl
  | 17, _ => exact mT 1300 (by decide +kernel) rfl
  | 18, _ => exact mT 1302 (by decide +kernel) rfl
  | 19, _ => exact mT 1304 (by decide +kernel) rfl
  | 20, _ => exact mT 1306 (by decide +kernel) rfl
  | 21, _ => exact mT 1308 (by decide +kernel) rfl
  | 22, _ => exact mT 1310 (by decide +kernel) rfl
  | 23, _ => exact mT 1312 (by decide +kernel) rfl
  | 24, _ => exact mT 1314 (by decide +kernel) rfl
  | 25, _ => exact mT 1316 (by decide +kernel) rfl
  | 26, _ => exact mT 1318 (by decide +kernel) rfl
  | 27, _ => exact mT 1320 (by decide +kernel) rfl
  | 28, _ => exact mT 1322 (by decide +kernel) rfl
  | 29, _ => exact mT 1324 (by decide +kernel) rfl
  | 30, _ => exact mT 1326 (by decide +kernel) rfl
  | 31, _ => exact mT 1328 (by decide +kernel) rfl
  | 32, _ => exact mT 1330 (by decide +kernel) rfl
  | 33, _ => exact mT 1332 (by decide +kernel) rfl
  | 34, _ => exact mT 1334 (by decide +kernel) rfl
  | 35, _ => exact mT 1336 (by decide +kernel) rfl
  | 36, _ => exact mT 1338 (by decide +kernel) rfl
  | 37, _ => exact mT 1340 (by decide +kernel) rfl
  | 38, _ => exact mT 1342 (by decide +kernel) rfl
  | 39, _ => exact mT 1344 (by decide +kernel) rfl
  | 40, _ => exact mT 1346 (by decide +kernel) rfl
  | 41, _ => exact mT 1348 (by decide +kernel) rfl
  | 42, _ => exact mT 1350 (by decide +kernel) rfl
  | 43, _ => exact mT 1352 (by decide +kernel) rfl
  | 44, _ => exact mT 1354 (by decide +kernel) rfl
  | 45, _ => exact mT 1356 (by decide +kernel) rfl
  | 46, _ => exact mT 1358 (by decide +kernel) rfl
  | 47, _ => exact mT 1360 (by decide +kernel) rfl
  | 48, _ => exact mT 1362 (by decide +kernel) rfl
  | 49, _ => exact mT 1364 (by decide +kernel) rfl
  | 50, _ => exact mT 1366 (by decide +kernel) rfl
  | 51, _ => exact mT 1368 (by decide +kernel) rfl
  | 52, _ => exact mT 1370 (by decide +kernel) rfl
  | 53, _ => exact mT 1372 (by decide +kernel) rfl
  | 54, _ => exact mT 1374 (by decide +kernel) rfl
  | k + 55, h => exact absurd h (by omega)
end
section
/-! the layer: cells by number, values as (tag, Int), memory Int → Int → Int -/
abbrev AV : Type := Nat × Int
abbrev vi (z : Int) : AV := (0, z)
abbrev vl (z : Int) : AV := (1, z)
abbrev vr (z : Int) : AV := (2, z)
abbrev Mem : Type := Int → Int → Int
abbrev Cx : Type := Launch × (Nat → ClassId) × (Nat → Nat → Nat) × (FieldType → ClassId) × Nat × (Nat → Nat) × Nat × (Nat → Int)
abbrev xl (X : Cx) : Launch := X.1
abbrev xC (X : Cx) : Nat → ClassId := X.2.1
abbrev xI (X : Cx) : Nat → Nat → Nat := X.2.2.1
abbrev xA (X : Cx) : FieldType → ClassId := X.2.2.2.1
abbrev xB (X : Cx) : Nat := X.2.2.2.2.1
abbrev xE (X : Cx) : Nat → Nat := X.2.2.2.2.2.1
abbrev xN (X : Cx) : Nat := X.2.2.2.2.2.2.1
abbrev xS (X : Cx) : Nat → Int := X.2.2.2.2.2.2.2
def w32 (z : Int) : Int := z.bmod 4294967296
def w64 (z : Int) : Int := z.bmod 18446744073709551616
def w8 (z : Int) : Int := z.bmod 256
def w16 (z : Int) : Int := z.bmod 65536
def adr (X : Cx) (z : Int) : Nat := if z < 1000 then xB X + z.toNat else xE X (z - 1000).toNat
def cv (X : Cx) (v : AV) : Value := match v.1 with
  | 0 => .int (Int32.ofInt v.2)
  | 1 => .long (Int64.ofInt v.2)
  | _ => .ref (adr X v.2)
def rfv (X : Cx) (z : Int) : Value := if z = 0 then .null else .ref (adr X z)
def fldv (X : Cx) (ty : FieldType) (r z : Int) : Value := match ty with
  | .long => .long (Int64.ofInt z)
  | .object _ => rfv X r
  | .array _ => rfv X r
  | _ => .int (Int32.ofInt z)
def cellAt (X : Cx) (q : Kd) (k : Nat) (r m : Mem) (H : Heap) : Prop := match q with
  | .inl (ty, n) => H[xB X + k]? = some (arrV (xA X ty) n (fun j => fldv X ty (r (k : Int) (j : Int)) (m (k : Int) (j : Int))))
  | .inr ci => ∃ c : vw_C, clsT[ci]? = some c ∧ t_OB (xB X + k) (xC X ci) c.2.2 (xI X ci) H (fun j => fldv X (tyC ci j) (r (k : Int) (j : Int)) (m (k : Int) (j : Int)))
def Wd (X : Cx) (n : Nat) (r m : Mem) (H : Heap) : Prop := H.size = xB X + n + 1 ∧ ∀ (k : Nat) (q : Kd), 1 ≤ k → k ≤ n → tbl[k]? = some q → cellAt X q k r m H
def atys : List FieldType := [.int, .long, .byte, .short, .array .int, .array .long]
def KK (X : Cx) (s : State) : Prop := (∀ (ci : Nat) (q : vw_C), clsT[ci]? = some q → u_Kn s q.1 q.2.1 q.2.2 (xC X ci) (xI X ci)) ∧ ∀ ty, ty ∈ atys → ArrOfT s (xA X ty) ty ∧ s.vm.findClass ("[" ++ ty.toString) = some (xA X ty)
def Exs (X : Cx) (s : State) : Prop := (∀ (e : Nat) (q : kz_E), exts[e]? = some q → va_Z q.1 q.2.1 q.2.2.1 (.ref (xE X e)) (fun a => xB X < a) s s.heap ∧ va_T q.2.2.2.1 (xE X e) q.2.2.2.2.1 (fun j => .int (Int32.ofInt (q.2.2.2.2.2.getD j 0))) (fun a => xB X < a) s s.heap) ∧ va_T .int (xE X 7) (xN X) (fun j => .int (Int32.ofInt (xS X j))) (fun a => xB X < a) s s.heap
def kz_AO (ty : FieldType) (U : State) : Prop := (Cond.arrayOver (.array ty)).before #[] U = true
theorem kz_AOs {ty : FieldType} {s : State} (h : kz_AO ty s) :
    ∃ comp c k, s.vm.findClass (FieldType.array ty).toString = some comp ∧ (s.vm.classes.findIdx? fun x => match x.kind with | .array component _ => component == comp | _ => false) = some c ∧ s.vm.classes[c]? = some k ∧ k.kind = .array comp (.array ty) ∧
      s.vm.findClass ("[" ++ (FieldType.array ty).toString) = some c := by
  unfold kz_AO Cond.before at h
  simp only [Cond.holds, Cond.value, beq_iff_eq] at h
  cases hc : s.vm.findClass (FieldType.array ty).toString with
  | none => simp [hc] at h
  | some comp =>
    simp only [hc, Option.bind_some, Option.bind_eq_some_iff, Option.map_eq_some_iff] at h
    obtain ⟨c, hi, k, hk, hb⟩ := h
    obtain ⟨hlt, hp, -⟩ := Array.findIdx?_eq_some_iff_getElem.mp hi
    have hkk : s.vm.classes[c] = k := (Array.getElem?_eq_some_iff.mp hk).2
    rw [hkk] at hp
    cases hkind : k.kind with
    | array component ty =>
      rw [hkind] at hb hp
      simp at hb hp
      exact ⟨comp, c, k, rfl, hi, hk, by rw [hkind, hp, hb.1], hb.2⟩
    | _ => rw [hkind] at hb; simp at hb
theorem kz_AO.moved {ty : FieldType} {u U : State} (hvm : u.vm.Alike U.vm) (h : kz_AO ty u) : kz_AO ty U := by
  obtain ⟨comp, c, k, h1, h2, h3, h4, h5⟩ := kz_AOs h
  obtain ⟨k', hk', he⟩ := hvm.2.2 _ _ h3
  have hi : (U.vm.classes.findIdx? fun (x : Class) => match x.kind with | .array component _ => component == comp | _ => false) = some c := by
    have b1 := va_idx_bare U.vm comp
    have b2 := va_idx_bare u.vm comp
    first | rw [hvm.bare_eq] at b2 | rw [← hvm.bare_eq] at b2
    exact (b1.symm.trans b2).trans h2
  have hkind : k'.kind = .array comp (.array ty) := by rw [he]; exact h4
  have f1 : U.vm.findClass (FieldType.array ty).toString = some comp := by rw [hvm.findClass]; exact h1
  have f2 : U.vm.findClass ("[" ++ (FieldType.array ty).toString) = some c := by rw [hvm.findClass]; exact h5
  unfold kz_AO Cond.before Cond.holds
  simp only [Cond.value]
  rw [f1, Option.bind_some]
  refine (congrArg (fun o : Option Nat => (o.bind (fun c => (U.vm.classes[c]?).map fun (k : Class) => match k.kind with | .array _ t => decide (t = FieldType.array ty) && decide (U.vm.findClass ("[" ++ (FieldType.array ty).toString) = some c) | _ => false) == some true)) hi).trans ?_
  simp [hk', hkind, f2]
def Nst (s : State) : Prop := (∀ w ∈ nst, va_Nw w s) ∧ kz_AO .int s ∧ kz_AO .long s
def CtxS (X : Cx) (s : State) : Prop := KK X s ∧ Exs X s ∧ Nst s
theorem KK.moved {X : Cx} {u U : State} (hvm : u.vm.Alike U.vm) (h : KK X u) : KK X U :=
  ⟨fun ci q hq => u_Kn_moved hvm (h.1 ci q hq), fun ty ht => ⟨arrOfT_moved hvm (h.2 ty ht).1, by rw [hvm.findClass]; exact (h.2 ty ht).2⟩⟩
theorem Exs.moved {X : Cx} {s U : State} {H : Heap} {locs : List Loc} (hS : va_S (fun a => xB X < a) s.heap H locs) (hU : U.heap = H) (hvm : s.vm.Alike U.vm) (h : Exs X s) : Exs X U := by
  have hq : ∀ a : Nat, a < s.heap.size → ¬ (fun a => xB X < a) a → U.heap[a]? = s.heap[a]? := fun a h1 h2 => by rw [hU]; exact hS.2.1 a h1 h2
  exact ⟨fun e q he => ⟨((h.1 e q he).1.kept hq).moved hvm, ((h.1 e q he).2.kept hq).moved hvm⟩, (h.2.kept hq).moved hvm⟩
theorem Nst.moved {s U : State} (hW : s.WarmedH U.vm) (h : Nst s) : Nst U := by
  refine ⟨?_, h.2.1.moved hW.alike, h.2.2.moved hW.alike⟩
  intro w hw
  have h1 := h.1 w hw
  have h2 := (List.mem_filter.mp hw).2
  cases w with
  | fieldLinkNest a b c d e f => exact va_Nw.warmF hW h1
  | methodLinkNest a b c d => exact va_Nw.warmM hW h1
  | _ => exact absurd h2 (by simp [kz_nest])
theorem Nst.same {s U : State} (hW : s.vm = U.vm) (h : Nst s) : Nst U := by
  refine ⟨?_, h.2.1.moved (by rw [hW]; exact Vm.Alike.refl _), h.2.2.moved (by rw [hW]; exact Vm.Alike.refl _)⟩
  intro w hw
  have h1 := h.1 w hw
  have h2 := (List.mem_filter.mp hw).2
  cases w with
  | fieldLinkNest a b c d e f => exact va_Nw.same rfl hW h1
  | methodLinkNest a b c d => exact va_Nw.same rfl hW h1
  | _ => exact absurd h2 (by simp [kz_nest])
theorem CtxS.moved {X : Cx} {s U : State} {H : Heap} {locs : List Loc} (hS : va_S (fun a => xB X < a) s.heap H locs) (hU : U.heap = H) (hW : s.WarmedH U.vm) (h : CtxS X s) : CtxS X U :=
  ⟨h.1.moved hW.alike, h.2.1.moved hS hU hW.alike, h.2.2.moved hW⟩
abbrev Md : Type := MethodName × ByteArray × Nat × Option FieldType
def wsM (M : Md) : List Cond := .code M.1 M.2.1 M.2.2.1 M.2.2.2 :: Tg
def Fx (X : Cx) (M : Md) (n0 : Nat) (p : Program) (s : State) (mm : MethodId) (args : Array Value) (meth : Method) (c : Code) : Prop :=
  p.tables.exec = Jvm.exec ∧ c.code = M.2.1 ∧ meth.sig.returnType = M.2.2.2 ∧ c.maxLocals = M.2.2.1 ∧ s.vm.findClass M.1.cls = some mm.cls ∧ (∀ w ∈ Tg, w.before args s = true) ∧ meth.locks = false ∧ meth.name = M.1.name ∧ CtxS X s ∧ s.heap.size = xB X + n0 + 1
section FXP
variable {X : Cx} {M : Md} {n0 : Nat} {p : Program} {s : State} {mm : MethodId} {args : Array Value} {meth : Method} {c : Code}
theorem Fx.x (h : Fx X M n0 p s mm args meth c) : p.tables.exec = Jvm.exec := h.1
theorem Fx.b (h : Fx X M n0 p s mm args meth c) : c.code = M.2.1 := h.2.1
theorem Fx.r (h : Fx X M n0 p s mm args meth c) : meth.sig.returnType = M.2.2.2 := h.2.2.1
theorem Fx.l (h : Fx X M n0 p s mm args meth c) : c.maxLocals = M.2.2.1 := h.2.2.2.1
theorem Fx.o (h : Fx X M n0 p s mm args meth c) : s.vm.findClass M.1.cls = some mm.cls := h.2.2.2.2.1
theorem Fx.t (h : Fx X M n0 p s mm args meth c) : ∀ w ∈ Tg, w.before args s = true := h.2.2.2.2.2.1
theorem Fx.k (h : Fx X M n0 p s mm args meth c) : meth.locks = false := h.2.2.2.2.2.2.1
theorem Fx.n (h : Fx X M n0 p s mm args meth c) : meth.name = M.1.name := h.2.2.2.2.2.2.2.1
theorem Fx.cx (h : Fx X M n0 p s mm args meth c) : CtxS X s := h.2.2.2.2.2.2.2.2.1
theorem Fx.z (h : Fx X M n0 p s mm args meth c) : s.heap.size = xB X + n0 + 1 := h.2.2.2.2.2.2.2.2.2
end FXP
def Rm (d n0 n' : Nat) (R : Room) : Prop := d ≤ R.frames ∧ 40 * d ≤ R.locals ∧ n' - n0 ≤ R.cells ∧ zs n' - zs n0 ≤ R.slots
def lvV (X : Cx) (lv : List (Nat × AV)) : List (Nat × Value) := lv.map (fun q => (q.1, cv X q.2))
def Hx (X : Cx) (M : Md) (n : Nat) (r m : Mem) (lv : List (Nat × AV)) (s : State) (H : Heap) (locs : List Loc) (ls : Array Slot) : Prop :=
  Wd X n r m H ∧ va_S (fun a => xB X < a) s.heap H locs ∧ lv_has ls M.2.2.1 (lvV X lv)
def retv (t : Option FieldType) (z : Int) : Option Value := match t with
  | none => none
  | some .long => some (.long (Int64.ofInt z))
  | some _ => some (.int (Int32.ofInt z))
def retl (t : Option FieldType) (z : Int) : List AV := match t with
  | none => []
  | some .long => [vl z]
  | some _ => [vi z]
theorem retl_cv (X : Cx) (t : Option FieldType) (z : Int) : (retl t z).map (cv X) = (retv t z).toList := by
  unfold retl retv
  split <;> rfl
def Qc (X : Cx) (M : Md) (n' : Nat) (Q : Int → Mem → Mem → Prop) : Array Value → State → Outcome → State → Prop := fun _ st o t =>
  (∃ (z : Int) (r m : Mem), o = .returned (retv M.2.2.2 z) ∧ Q z r m ∧ Wd X n' r m t.heap) ∧ ∀ q : Nat, q ≤ xB X → t.heap[q]? = st.heap[q]?
def Pc (X : Cx) (n0 : Nat) (as : List AV) (r m : Mem) : Array Value → State → Prop := fun a U => a = (as.map (cv X)).toArray ∧ Wd X n0 r m U.heap ∧ CtxS X U
def Mt (X : Cx) (d : Nat) (M : Md) (n0 n' : Nat) (as : List AV) (r m : Mem) (Q : Int → Mem → Mem → Prop) : Prop :=
  Met (xl X) M.1 (wsM M) { frames := d, cells := n' - n0, slots := zs n' - zs n0, locals := 40 * d } (Pc X n0 as r m) (Qc X M n' Q) (n' - n0) (zs n' - zs n0) (fun q => xB X < q)
def RR (X : Cx) (d : Nat) (M : Md) (n0 n' n : Nat) (pc : Nat) (lv : List (Nat × AV)) (st : List AV) (r m : Mem) (Q : Int → Mem → Mem → Prop) : Prop :=
  ∀ ⦃p : Program⦄ ⦃R : Room⦄ ⦃e : Env⦄ ⦃s : State⦄ ⦃mm : MethodId⦄ ⦃args : Array Value⦄ ⦃below : List Frame⦄ ⦃meth : Method⦄ ⦃c : Code⦄ ⦃H : Heap⦄ ⦃locs : List Loc⦄ ⦃ls : Array Slot⦄,
    Fx X M n0 p s mm args meth c → Rm d n0 n' R → Hx X M n r m lv s H locs ls → (n0 ≤ n ∧ n ≤ n') →
    W p (xl X) e R s mm args below meth c H locs (n - n0) (zs n - zs n0) (MQ below (Qc X M n' Q) args s (n' - n0) (zs n' - zs n0) (fun q => xB X < q)) (F0 mm pc ls (st.map (cv X)))
theorem zs_mono {a b : Nat} (h : a ≤ b) : zs a ≤ zs b := by
  unfold zs
  have hb : tbl.take (b + 1) = tbl.take (a + 1) ++ (tbl.drop (a + 1)).take (b - a) := by
    rw [← List.take_add]
    congr 1
    omega
  rw [hb, List.map_append, List.sum_append]
  omega
theorem i32_w (z : Int) : (Int32.ofInt z).toInt = w32 z := by
  rw [Int32.toInt_ofInt]; rfl
theorem i64_w (z : Int) : (Int64.ofInt z).toInt = w64 z := by
  rw [Int64.toInt_ofInt]; rfl
theorem i32_of {x : Int32} {z : Int} (h : x.toInt = w32 z) : Int32.ofInt z = x := Int32.toInt_inj.mp (by rw [i32_w, h])
theorem i64_of {x : Int64} {z : Int} (h : x.toInt = w64 z) : Int64.ofInt z = x := Int64.toInt_inj.mp (by rw [i64_w, h])
theorem i32_rt (x : Int32) : Int32.ofInt x.toInt = x := by simp
theorem i64_rt (x : Int64) : Int64.ofInt x.toInt = x := by simp
def zand (a b : Int) : Int := (Int32.ofInt a &&& Int32.ofInt b).toInt
def zor (a b : Int) : Int := (Int32.ofInt a ||| Int32.ofInt b).toInt
def zxor (a b : Int) : Int := (Int32.ofInt a ^^^ Int32.ofInt b).toInt
def zshl (a b : Int) : Int := (Int32.ofInt a <<< (Int32.ofInt b &&& 31)).toInt
def zshr (a b : Int) : Int := (Int32.ofInt a >>> (Int32.ofInt b &&& 31)).toInt
def zushr (a b : Int) : Int := ((Int32.ofInt a).toUInt32 >>> ((Int32.ofInt b).toUInt32 &&& Int32.toUInt32 31)).toInt32.toInt
def zdiv (a b : Int) : Int := (Int32.ofInt a / Int32.ofInt b).toInt
def zrem (a b : Int) : Int := (Int32.ofInt a - Int32.ofInt a / Int32.ofInt b * Int32.ofInt b).toInt
def zldiv (a b : Int) : Int := (Int64.ofInt a / Int64.ofInt b).toInt
def zlrem (a b : Int) : Int := (Int64.ofInt a - Int64.ofInt a / Int64.ofInt b * Int64.ofInt b).toInt
def zland (a b : Int) : Int := (Int64.ofInt a &&& Int64.ofInt b).toInt
def zlor (a b : Int) : Int := (Int64.ofInt a ||| Int64.ofInt b).toInt
def zlshl (a b : Int) : Int := (Int64.ofInt a <<< ((Int32.ofInt b).toInt64 &&& 63)).toInt
def upm (m : Mem) (k i v : Int) : Mem := fun a b => if a = k ∧ b = i then v else m a b
end
section
section RW0
variable {X : Cx} {d n0 n' n : Nat} {M : Md} {pc : Nat} {lv : List (Nat × AV)} {st : List AV} {r m : Mem} {Q : Int → Mem → Mem → Prop}
theorem r_iconst {z : Int} (hdg : decode M.2.1 pc = .ok (.iconst z, 1)) (k : RR X d M n0 n' n (pc + 1) lv (vi z :: st) r m Q) : RR X d M n0 n' n pc lv st r m Q := by
  intro p R e s mm args below meth c H locs ls F G K E
  exact lv_iconst F.x F.b hdg rfl (k F G K E)
theorem r_bipush {z : Int} (hz : -128 ≤ z ∧ z < 128) (hdg : decode M.2.1 pc = .ok (.bipush z, 2)) (k : RR X d M n0 n' n (pc + 2) lv (vi z :: st) r m Q) : RR X d M n0 n' n pc lv st r m Q := by
  intro p R e s mm args below meth c H locs ls F G K E
  refine lv_bipush (v := Int32.ofInt z) F.x F.b hdg ?_ (k F G K E)
  apply Int32.toInt_inj.mp
  rw [i32_w, Int8.toInt_toInt32, Int8.toInt_ofInt]
  simp only [w32, Int.bmod, Int8.size, Int16.size]
  (repeat' split) <;> omega
theorem r_sipush {z : Int} (hz : -32768 ≤ z ∧ z < 32768) (hdg : decode M.2.1 pc = .ok (.sipush z, 3)) (k : RR X d M n0 n' n (pc + 3) lv (vi z :: st) r m Q) : RR X d M n0 n' n pc lv st r m Q := by
  intro p R e s mm args below meth c H locs ls F G K E
  refine lv_sipush (v := Int32.ofInt z) F.x F.b hdg ?_ (k F G K E)
  apply Int32.toInt_inj.mp
  rw [i32_w, Int16.toInt_toInt32, Int16.toInt_ofInt]
  simp only [w32, Int.bmod, Int8.size, Int16.size]
  (repeat' split) <;> omega
theorem r_lconst {z : Fin 2} (hdg : decode M.2.1 pc = .ok (.lconst z, 1)) (k : RR X d M n0 n' n (pc + 1) lv (vl ((z : Nat) : Int) :: st) r m Q) : RR X d M n0 n' n pc lv st r m Q := by
  intro p R e s mm args below meth c H locs ls F G K E
  exact lv_lconst (v := Int64.ofInt ((z : Nat) : Int)) F.x F.b hdg rfl (k F G K E)
theorem r_ldc {z : Int} {ix : Nat} (hdg : decode M.2.1 pc = .ok (.ldc ix, 2)) (hw : Cond.constant M.1.cls ix (Int32.ofInt z) ∈ Tg) (k : RR X d M n0 n' n (pc + 2) lv (vi z :: st) r m Q) : RR X d M n0 n' n pc lv st r m Q := by
  intro p R e s mm args below meth c H locs ls F G K E
  exact lv_ldc F.x F.b F.o (F.t _ hw) hdg (k F G K E)
theorem r_ldcw {z : Int} {ix : Nat} (hdg : decode M.2.1 pc = .ok (.ldc_w ix, 3)) (hw : Cond.constant M.1.cls ix (Int32.ofInt z) ∈ Tg) (k : RR X d M n0 n' n (pc + 3) lv (vi z :: st) r m Q) : RR X d M n0 n' n pc lv st r m Q := by
  intro p R e s mm args below meth c H locs ls F G K E
  exact lv_ldcw F.x F.b F.o (F.t _ hw) hdg (k F G K E)
theorem r_ldc2 {z : Int} {ix : Nat} (hdg : decode M.2.1 pc = .ok (.ldc2_w ix, 3)) (hw : Cond.constantLong M.1.cls ix (Int64.ofInt z) ∈ Tg) (k : RR X d M n0 n' n (pc + 3) lv (vl z :: st) r m Q) : RR X d M n0 n' n pc lv st r m Q := by
  intro p R e s mm args below meth c H locs ls F G K E
  exact lv_ldc2 F.x F.b F.o (F.t _ hw) hdg (k F G K E)
theorem kz_at {ls : Array Slot} {nL : Nat} {lv : List (Nat × AV)} {i : Nat} {v : AV} (h : lv_has ls nL (lvV X lv)) (j : Nat) (hk : lv[j]? = some (i, v)) : ls[i]? = some (.val (cv X v)) :=
  h.2.2 (i, cv X v) (List.mem_map.mpr ⟨(i, v), List.mem_of_getElem? hk, rfl⟩)
theorem r_iload_n {q : Fin 4} {z : Int} (i j : Nat) (hk : lv[j]? = some (i, vi z)) (hdg : decode M.2.1 pc = .ok (.iload_n q, 1)) (hi : (q : Nat) = i) (k : RR X d M n0 n' n (pc + 1) lv (vi z :: st) r m Q) : RR X d M n0 n' n pc lv st r m Q := by
  intro p R e s mm args below meth c H locs ls F G K E
  exact lv_iload_n F.x F.b hdg hi (kz_at K.2.2 j hk) (k F G K E)
theorem r_iload {z : Int} (i j : Nat) (hk : lv[j]? = some (i, vi z)) (hdg : decode M.2.1 pc = .ok (.iload i, 2)) (k : RR X d M n0 n' n (pc + 2) lv (vi z :: st) r m Q) : RR X d M n0 n' n pc lv st r m Q := by
  intro p R e s mm args below meth c H locs ls F G K E
  exact lv_iload F.x F.b hdg (kz_at K.2.2 j hk) (k F G K E)
theorem r_lload_n {q : Fin 4} {z : Int} (i j : Nat) (hk : lv[j]? = some (i, vl z)) (hdg : decode M.2.1 pc = .ok (.lload_n q, 1)) (hi : (q : Nat) = i) (k : RR X d M n0 n' n (pc + 1) lv (vl z :: st) r m Q) : RR X d M n0 n' n pc lv st r m Q := by
  intro p R e s mm args below meth c H locs ls F G K E
  exact lv_lload_n F.x F.b hdg hi (kz_at K.2.2 j hk) (k F G K E)
theorem r_lload {z : Int} (i j : Nat) (hk : lv[j]? = some (i, vl z)) (hdg : decode M.2.1 pc = .ok (.lload i, 2)) (k : RR X d M n0 n' n (pc + 2) lv (vl z :: st) r m Q) : RR X d M n0 n' n pc lv st r m Q := by
  intro p R e s mm args below meth c H locs ls F G K E
  exact lv_lload F.x F.b hdg (kz_at K.2.2 j hk) (k F G K E)
theorem r_aload_n {q : Fin 4} {z : Int} (i j : Nat) (hk : lv[j]? = some (i, vr z)) (hdg : decode M.2.1 pc = .ok (.aload_n q, 1)) (hi : (q : Nat) = i) (k : RR X d M n0 n' n (pc + 1) lv (vr z :: st) r m Q) : RR X d M n0 n' n pc lv st r m Q := by
  intro p R e s mm args below meth c H locs ls F G K E
  exact lv_aload_n F.x F.b hdg hi (kz_at K.2.2 j hk) (k F G K E)
theorem r_aload {z : Int} (i j : Nat) (hk : lv[j]? = some (i, vr z)) (hdg : decode M.2.1 pc = .ok (.aload i, 2)) (k : RR X d M n0 n' n (pc + 2) lv (vr z :: st) r m Q) : RR X d M n0 n' n pc lv st r m Q := by
  intro p R e s mm args below meth c H locs ls F G K E
  exact lv_aload F.x F.b hdg (kz_at K.2.2 j hk) (k F G K E)
def lvS1 (i : Nat) (v : AV) (lv : List (Nat × AV)) : List (Nat × AV) := (i, v) :: lv.filter (fun q => !(q.1 == i) && !(q.1 + 1 == i && q.2.1 == 1))
def lvS2 (i : Nat) (v : AV) (lv : List (Nat × AV)) : List (Nat × AV) := (i, v) :: lv.filter (fun q => !(q.1 == i) && (!(q.1 == i + 1) && !(q.1 + 1 == i && q.2.1 == 1)))
theorem cv_cat (X : Cx) (v : AV) : ((cv X v).category == 2) = (v.1 == 1) := by
  obtain ⟨t, z⟩ := v
  match t with
  | 0 => rfl
  | 1 => rfl
  | t + 2 => rfl
theorem lvV_S1 (X : Cx) (i : Nat) (v : AV) (lv : List (Nat × AV)) : (i, cv X v) :: (lvV X lv).filter (fun q => !(q.1 == i) && !(q.1 + 1 == i && q.2.category == 2)) = lvV X (lvS1 i v lv) := by
  unfold lvV lvS1
  rw [List.map_cons, List.filter_map]
  congr 2
  apply List.filter_congr
  intro q _
  simp only [Function.comp, cv_cat]
theorem lvV_S2 (X : Cx) (i : Nat) (v : AV) (lv : List (Nat × AV)) : (i, cv X v) :: (lvV X lv).filter (fun q => !(q.1 == i) && (!(q.1 == i + 1) && !(q.1 + 1 == i && q.2.category == 2))) = lvV X (lvS2 i v lv) := by
  unfold lvV lvS2
  rw [List.map_cons, List.filter_map]
  congr 2
  apply List.filter_congr
  intro q _
  simp only [Function.comp, cv_cat]
theorem r_sub (js : List Nat) {lv' : List (Nat × AV)} (hl : js.filterMap (fun j => lv[j]?) = lv') (k : RR X d M n0 n' n pc lv' st r m Q) : RR X d M n0 n' n pc lv st r m Q := by
  intro p R e s mm args below meth c H locs ls F G K E
  refine k F G ⟨K.1, K.2.1, K.2.2.1, K.2.2.2.1, fun q hq => ?_⟩ E
  subst hl
  obtain ⟨q1, h1, rfl⟩ := List.mem_map.mp hq
  obtain ⟨j, -, h2⟩ := List.mem_filterMap.mp h1
  exact K.2.2.2.2 _ (List.mem_map.mpr ⟨q1, List.mem_of_getElem? h2, rfl⟩)
theorem r_istore_n {q : Fin 4} {z : Int} (i : Nat) (hn : i < M.2.2.1) (hdg : decode M.2.1 pc = .ok (.istore_n q, 1)) (hi : (q : Nat) = i) (k : RR X d M n0 n' n (pc + 1) (lvS1 i (vi z) lv) st r m Q) : RR X d M n0 n' n pc lv (vi z :: st) r m Q := by
  intro p R e s mm args below meth c H locs ls F G K E
  exact lv_istore_n F.x F.b hdg hi K.2.2 hn (lvV_S1 X i (vi z) lv) fun ls' h => k F G ⟨K.1, K.2.1, h⟩ E
theorem r_istore {z : Int} (i : Nat) (hn : i < M.2.2.1) (hdg : decode M.2.1 pc = .ok (.istore i, 2)) (k : RR X d M n0 n' n (pc + 2) (lvS1 i (vi z) lv) st r m Q) : RR X d M n0 n' n pc lv (vi z :: st) r m Q := by
  intro p R e s mm args below meth c H locs ls F G K E
  exact lv_istore F.x F.b hdg K.2.2 hn (lvV_S1 X i (vi z) lv) fun ls' h => k F G ⟨K.1, K.2.1, h⟩ E
theorem r_lstore_n {q : Fin 4} {z : Int} (i : Nat) (hn : i + 1 < M.2.2.1) (hdg : decode M.2.1 pc = .ok (.lstore_n q, 1)) (hi : (q : Nat) = i) (k : RR X d M n0 n' n (pc + 1) (lvS2 i (vl z) lv) st r m Q) : RR X d M n0 n' n pc lv (vl z :: st) r m Q := by
  intro p R e s mm args below meth c H locs ls F G K E
  exact lv_lstore_n F.x F.b hdg hi K.2.2 hn (lvV_S2 X i (vl z) lv) fun ls' h => k F G ⟨K.1, K.2.1, h⟩ E
theorem r_lstore {z : Int} (i : Nat) (hn : i + 1 < M.2.2.1) (hdg : decode M.2.1 pc = .ok (.lstore i, 2)) (k : RR X d M n0 n' n (pc + 2) (lvS2 i (vl z) lv) st r m Q) : RR X d M n0 n' n pc lv (vl z :: st) r m Q := by
  intro p R e s mm args below meth c H locs ls F G K E
  exact lv_lstore F.x F.b hdg K.2.2 hn (lvV_S2 X i (vl z) lv) fun ls' h => k F G ⟨K.1, K.2.1, h⟩ E
theorem r_astore_n {q : Fin 4} {z : Int} (i : Nat) (hn : i < M.2.2.1) (hdg : decode M.2.1 pc = .ok (.astore_n q, 1)) (hi : (q : Nat) = i) (k : RR X d M n0 n' n (pc + 1) (lvS1 i (vr z) lv) st r m Q) : RR X d M n0 n' n pc lv (vr z :: st) r m Q := by
  intro p R e s mm args below meth c H locs ls F G K E
  exact lv_astore_n F.x F.b hdg hi K.2.2 hn (lvV_S1 X i (vr z) lv) fun ls' h => k F G ⟨K.1, K.2.1, h⟩ E
theorem r_astore {z : Int} (i : Nat) (hn : i < M.2.2.1) (hdg : decode M.2.1 pc = .ok (.astore i, 2)) (k : RR X d M n0 n' n (pc + 2) (lvS1 i (vr z) lv) st r m Q) : RR X d M n0 n' n pc lv (vr z :: st) r m Q := by
  intro p R e s mm args below meth c H locs ls F G K E
  exact lv_astore F.x F.b hdg K.2.2 hn (lvV_S1 X i (vr z) lv) fun ls' h => k F G ⟨K.1, K.2.1, h⟩ E
theorem r_iinc {z y : Int} (i j : Nat) (hk : lv[j]? = some (i, vi z)) (hn : i < M.2.2.1) (hdg : decode M.2.1 pc = .ok (.iinc i y, 3)) (k : RR X d M n0 n' n (pc + 3) (lvS1 i (vi (z + y)) lv) st r m Q) : RR X d M n0 n' n pc lv st r m Q := by
  intro p R e s mm args below meth c H locs ls F G K E
  refine lv_iinc (v := Int32.ofInt (z + y)) (k := j) F.x F.b hdg K.2.2 ?_ (Int32.ofInt_add z y).symm hn (lvV_S1 X i (vi (z + y)) lv) fun ls' h => k F G ⟨K.1, K.2.1, h⟩ E
  unfold lvV
  rw [List.getElem?_map, hk]
  rfl
theorem r_iadd {a b : Int} (hdg : decode M.2.1 pc = .ok (.iadd, 1)) (k : RR X d M n0 n' n (pc + 1) lv (vi (a + b) :: st) r m Q) : RR X d M n0 n' n pc lv (vi b :: vi a :: st) r m Q := by
  intro p R e s mm args below meth c H locs ls F G K E
  have k := k (e := e) (below := below) F G K E
  refine lv_iadd F.x F.b hdg ?_
  rw [← Int32.ofInt_add]
  exact k
theorem r_isub {a b : Int} (hdg : decode M.2.1 pc = .ok (.isub, 1)) (k : RR X d M n0 n' n (pc + 1) lv (vi (a - b) :: st) r m Q) : RR X d M n0 n' n pc lv (vi b :: vi a :: st) r m Q := by
  intro p R e s mm args below meth c H locs ls F G K E
  have k := k (e := e) (below := below) F G K E
  refine lv_isub F.x F.b hdg ?_
  rw [← Int32.ofInt_sub]
  exact k
theorem r_imul {a b : Int} (hdg : decode M.2.1 pc = .ok (.imul, 1)) (k : RR X d M n0 n' n (pc + 1) lv (vi (a * b) :: st) r m Q) : RR X d M n0 n' n pc lv (vi b :: vi a :: st) r m Q := by
  intro p R e s mm args below meth c H locs ls F G K E
  have k := k (e := e) (below := below) F G K E
  refine lv_imul F.x F.b hdg ?_
  rw [← Int32.ofInt_mul]
  exact k
theorem r_ladd {a b : Int} (hdg : decode M.2.1 pc = .ok (.ladd, 1)) (k : RR X d M n0 n' n (pc + 1) lv (vl (a + b) :: st) r m Q) : RR X d M n0 n' n pc lv (vl b :: vl a :: st) r m Q := by
  intro p R e s mm args below meth c H locs ls F G K E
  have k := k (e := e) (below := below) F G K E
  refine lv_ladd F.x F.b hdg ?_
  rw [← Int64.ofInt_add]
  exact k
theorem r_lsub {a b : Int} (hdg : decode M.2.1 pc = .ok (.lsub, 1)) (k : RR X d M n0 n' n (pc + 1) lv (vl (a - b) :: st) r m Q) : RR X d M n0 n' n pc lv (vl b :: vl a :: st) r m Q := by
  intro p R e s mm args below meth c H locs ls F G K E
  have k := k (e := e) (below := below) F G K E
  refine lv_lsub F.x F.b hdg ?_
  rw [← Int64.ofInt_sub]
  exact k
theorem r_lmul {a b : Int} (hdg : decode M.2.1 pc = .ok (.lmul, 1)) (k : RR X d M n0 n' n (pc + 1) lv (vl (a * b) :: st) r m Q) : RR X d M n0 n' n pc lv (vl b :: vl a :: st) r m Q := by
  intro p R e s mm args below meth c H locs ls F G K E
  have k := k (e := e) (below := below) F G K E
  refine lv_lmul F.x F.b hdg ?_
  rw [← Int64.ofInt_mul]
  exact k
theorem r_iand {a b : Int} (hdg : decode M.2.1 pc = .ok (.iand, 1)) (k : RR X d M n0 n' n (pc + 1) lv (vi (zand a b) :: st) r m Q) : RR X d M n0 n' n pc lv (vi b :: vi a :: st) r m Q := by
  intro p R e s mm args below meth c H locs ls F G K E
  have k := k (e := e) (below := below) F G K E
  refine lv_iand F.x F.b hdg ?_
  rw [show Int32.ofInt a &&& Int32.ofInt b = Int32.ofInt (zand a b) from (i32_rt _).symm]
  exact k
theorem r_ior {a b : Int} (hdg : decode M.2.1 pc = .ok (.ior, 1)) (k : RR X d M n0 n' n (pc + 1) lv (vi (zor a b) :: st) r m Q) : RR X d M n0 n' n pc lv (vi b :: vi a :: st) r m Q := by
  intro p R e s mm args below meth c H locs ls F G K E
  have k := k (e := e) (below := below) F G K E
  refine lv_ior F.x F.b hdg ?_
  rw [show Int32.ofInt a ||| Int32.ofInt b = Int32.ofInt (zor a b) from (i32_rt _).symm]
  exact k
theorem r_ixor {a b : Int} (hdg : decode M.2.1 pc = .ok (.ixor, 1)) (k : RR X d M n0 n' n (pc + 1) lv (vi (zxor a b) :: st) r m Q) : RR X d M n0 n' n pc lv (vi b :: vi a :: st) r m Q := by
  intro p R e s mm args below meth c H locs ls F G K E
  have k := k (e := e) (below := below) F G K E
  refine lv_ixor F.x F.b hdg ?_
  rw [show Int32.ofInt a ^^^ Int32.ofInt b = Int32.ofInt (zxor a b) from (i32_rt _).symm]
  exact k
theorem r_ishl {a b : Int} (hdg : decode M.2.1 pc = .ok (.ishl, 1)) (k : RR X d M n0 n' n (pc + 1) lv (vi (zshl a b) :: st) r m Q) : RR X d M n0 n' n pc lv (vi b :: vi a :: st) r m Q := by
  intro p R e s mm args below meth c H locs ls F G K E
  have k := k (e := e) (below := below) F G K E
  refine lv_ishl F.x F.b hdg ?_
  rw [show Int32.ofInt a <<< (Int32.ofInt b &&& 31) = Int32.ofInt (zshl a b) from (i32_rt _).symm]
  exact k
theorem r_ishr {a b : Int} (hdg : decode M.2.1 pc = .ok (.ishr, 1)) (k : RR X d M n0 n' n (pc + 1) lv (vi (zshr a b) :: st) r m Q) : RR X d M n0 n' n pc lv (vi b :: vi a :: st) r m Q := by
  intro p R e s mm args below meth c H locs ls F G K E
  have k := k (e := e) (below := below) F G K E
  refine lv_ishr F.x F.b hdg ?_
  rw [show Int32.ofInt a >>> (Int32.ofInt b &&& 31) = Int32.ofInt (zshr a b) from (i32_rt _).symm]
  exact k
theorem kz_ne0 {b : Int} (h : ¬ w32 b = 0) : ¬ Int32.ofInt b = 0 := fun e => h (by rw [← i32_w, e]; rfl)
theorem kz_ne0l {b : Int} (h : ¬ w64 b = 0) : ¬ Int64.ofInt b = 0 := fun e => h (by rw [← i64_w, e]; rfl)
theorem r_idiv {a b : Int} (hb : ¬ w32 b = 0) (hdg : decode M.2.1 pc = .ok (.idiv, 1)) (k : RR X d M n0 n' n (pc + 1) lv (vi (zdiv a b) :: st) r m Q) : RR X d M n0 n' n pc lv (vi b :: vi a :: st) r m Q := by
  intro p R e s mm args below meth c H locs ls F G K E
  have k := k (e := e) (below := below) F G K E
  refine lv_idiv F.x F.b hdg (kz_ne0 hb) ?_
  rw [show Int32.ofInt a / Int32.ofInt b = Int32.ofInt (zdiv a b) from (i32_rt _).symm]
  exact k
theorem r_irem {a b : Int} (hb : ¬ w32 b = 0) (hdg : decode M.2.1 pc = .ok (.irem, 1)) (k : RR X d M n0 n' n (pc + 1) lv (vi (zrem a b) :: st) r m Q) : RR X d M n0 n' n pc lv (vi b :: vi a :: st) r m Q := by
  intro p R e s mm args below meth c H locs ls F G K E
  have k := k (e := e) (below := below) F G K E
  refine lv_irem F.x F.b hdg (kz_ne0 hb) ?_
  rw [show Int32.ofInt a - Int32.ofInt a / Int32.ofInt b * Int32.ofInt b = Int32.ofInt (zrem a b) from (i32_rt _).symm]
  exact k
theorem r_ldiv {a b : Int} (hb : ¬ w64 b = 0) (hdg : decode M.2.1 pc = .ok (.ldiv, 1)) (k : RR X d M n0 n' n (pc + 1) lv (vl (zldiv a b) :: st) r m Q) : RR X d M n0 n' n pc lv (vl b :: vl a :: st) r m Q := by
  intro p R e s mm args below meth c H locs ls F G K E
  have k := k (e := e) (below := below) F G K E
  refine lv_ldiv F.x F.b hdg (kz_ne0l hb) ?_
  rw [show Int64.ofInt a / Int64.ofInt b = Int64.ofInt (zldiv a b) from (i64_rt _).symm]
  exact k
theorem r_lrem {a b : Int} (hb : ¬ w64 b = 0) (hdg : decode M.2.1 pc = .ok (.lrem, 1)) (k : RR X d M n0 n' n (pc + 1) lv (vl (zlrem a b) :: st) r m Q) : RR X d M n0 n' n pc lv (vl b :: vl a :: st) r m Q := by
  intro p R e s mm args below meth c H locs ls F G K E
  have k := k (e := e) (below := below) F G K E
  refine lv_lrem F.x F.b hdg (kz_ne0l hb) ?_
  rw [show Int64.ofInt a - Int64.ofInt a / Int64.ofInt b * Int64.ofInt b = Int64.ofInt (zlrem a b) from (i64_rt _).symm]
  exact k
theorem r_land {a b : Int} (hdg : decode M.2.1 pc = .ok (.land, 1)) (k : RR X d M n0 n' n (pc + 1) lv (vl (zland a b) :: st) r m Q) : RR X d M n0 n' n pc lv (vl b :: vl a :: st) r m Q := by
  intro p R e s mm args below meth c H locs ls F G K E
  have k := k (e := e) (below := below) F G K E
  refine lv_land F.x F.b hdg ?_
  rw [show Int64.ofInt a &&& Int64.ofInt b = Int64.ofInt (zland a b) from (i64_rt _).symm]
  exact k
theorem r_lor {a b : Int} (hdg : decode M.2.1 pc = .ok (.lor, 1)) (k : RR X d M n0 n' n (pc + 1) lv (vl (zlor a b) :: st) r m Q) : RR X d M n0 n' n pc lv (vl b :: vl a :: st) r m Q := by
  intro p R e s mm args below meth c H locs ls F G K E
  have k := k (e := e) (below := below) F G K E
  refine lv_lor F.x F.b hdg ?_
  rw [show Int64.ofInt a ||| Int64.ofInt b = Int64.ofInt (zlor a b) from (i64_rt _).symm]
  exact k
theorem r_iushr {a b : Int} (hdg : decode M.2.1 pc = .ok (.iushr, 1)) (k : RR X d M n0 n' n (pc + 1) lv (vi (zushr a b) :: st) r m Q) : RR X d M n0 n' n pc lv (vi b :: vi a :: st) r m Q := by
  intro p R e s mm args below meth c H locs ls F G K E
  exact lv_iushr (v := Int32.ofInt (zushr a b)) F.x F.b hdg (i32_rt _).symm (k F G K E)
theorem r_lshl {a b : Int} (hdg : decode M.2.1 pc = .ok (.lshl, 1)) (k : RR X d M n0 n' n (pc + 1) lv (vl (zlshl a b) :: st) r m Q) : RR X d M n0 n' n pc lv (vi b :: vl a :: st) r m Q := by
  intro p R e s mm args below meth c H locs ls F G K E
  exact lv_lshl (v := Int64.ofInt (zlshl a b)) F.x F.b hdg (i64_rt _).symm (k F G K E)
theorem r_ineg {a : Int} (hdg : decode M.2.1 pc = .ok (.ineg, 1)) (k : RR X d M n0 n' n (pc + 1) lv (vi (-a) :: st) r m Q) : RR X d M n0 n' n pc lv (vi a :: st) r m Q := by
  intro p R e s mm args below meth c H locs ls F G K E
  have k := k (e := e) (below := below) F G K E
  refine lv_ineg F.x F.b hdg ?_
  rw [← Int32.ofInt_neg]
  exact k
theorem r_i2l {a : Int} (hdg : decode M.2.1 pc = .ok (.i2l, 1)) (k : RR X d M n0 n' n (pc + 1) lv (vl (w32 a) :: st) r m Q) : RR X d M n0 n' n pc lv (vi a :: st) r m Q := by
  intro p R e s mm args below meth c H locs ls F G K E
  refine lv_i2l (v := Int64.ofInt (w32 a)) F.x F.b hdg ?_ (k F G K E)
  apply Int64.toInt_inj.mp
  rw [i64_w, Int32.toInt_toInt64, i32_w]
  simp only [w64, w32, Int.bmod]
  (repeat' split) <;> omega
theorem r_l2i {a : Int} (hdg : decode M.2.1 pc = .ok (.l2i, 1)) (k : RR X d M n0 n' n (pc + 1) lv (vi a :: st) r m Q) : RR X d M n0 n' n pc lv (vl a :: st) r m Q := by
  intro p R e s mm args below meth c H locs ls F G K E
  refine lv_l2i (v := Int32.ofInt a) F.x F.b hdg ?_ (k F G K E)
  apply Int32.toInt_inj.mp
  rw [i32_w, Int64.toInt_toInt32, i64_w]
  simp only [w64, w32, Int.bmod]
  (repeat' split) <;> omega
theorem r_i2b {a : Int} (hdg : decode M.2.1 pc = .ok (.i2b, 1)) (k : RR X d M n0 n' n (pc + 1) lv (vi (w8 a) :: st) r m Q) : RR X d M n0 n' n pc lv (vi a :: st) r m Q := by
  intro p R e s mm args below meth c H locs ls F G K E
  refine lv_i2b (v := Int32.ofInt (w8 a)) F.x F.b hdg ?_ (k F G K E)
  apply Int32.toInt_inj.mp
  rw [i32_w, Int8.toInt_toInt32, Int32.toInt_toInt8, i32_w]
  simp only [w8, w32, Int.bmod]
  (repeat' split) <;> omega
theorem r_i2s {a : Int} (hdg : decode M.2.1 pc = .ok (.i2s, 1)) (k : RR X d M n0 n' n (pc + 1) lv (vi (w16 a) :: st) r m Q) : RR X d M n0 n' n pc lv (vi a :: st) r m Q := by
  intro p R e s mm args below meth c H locs ls F G K E
  refine lv_i2s (v := Int32.ofInt (w16 a)) F.x F.b hdg ?_ (k F G K E)
  apply Int32.toInt_inj.mp
  rw [i32_w, Int16.toInt_toInt32, Int32.toInt_toInt16, i32_w]
  simp only [w16, w32, Int.bmod]
  (repeat' split) <;> omega
theorem cv_1 (X : Cx) {v : AV} (h : ¬ v.1 = 1) : (cv X v).category = 1 := by
  obtain ⟨t, z⟩ := v
  match t, h with
  | 0, _ => rfl
  | 1, h => exact absurd rfl h
  | t + 2, _ => rfl
theorem cv_2 (X : Cx) {v : AV} (h : v.1 = 1) : (cv X v).category = 2 := by
  obtain ⟨t, z⟩ := v
  subst h
  rfl
theorem r_dup {v : AV} (hv : ¬ v.1 = 1) (hdg : decode M.2.1 pc = .ok (.dup, 1)) (k : RR X d M n0 n' n (pc + 1) lv (v :: v :: st) r m Q) : RR X d M n0 n' n pc lv (v :: st) r m Q := by
  intro p R e s mm args below meth c H locs ls F G K E
  exact lv_dup F.x F.b hdg (cv_1 X hv) (k F G K E)
theorem r_pop {v : AV} (hv : ¬ v.1 = 1) (hdg : decode M.2.1 pc = .ok (.pop, 1)) (k : RR X d M n0 n' n (pc + 1) lv st r m Q) : RR X d M n0 n' n pc lv (v :: st) r m Q := by
  intro p R e s mm args below meth c H locs ls F G K E
  exact lv_pop F.x F.b hdg (cv_1 X hv) (k F G K E)
theorem r_dup2 {v w : AV} (hv : ¬ v.1 = 1) (hw : ¬ w.1 = 1) (hdg : decode M.2.1 pc = .ok (.dup2, 1)) (k : RR X d M n0 n' n (pc + 1) lv (v :: w :: v :: w :: st) r m Q) : RR X d M n0 n' n pc lv (v :: w :: st) r m Q := by
  intro p R e s mm args below meth c H locs ls F G K E
  exact lv_dup2_11 F.x F.b hdg (cv_1 X hv) (cv_1 X hw) (k F G K E)
theorem r_dup2l {v : AV} (hv : v.1 = 1) (hdg : decode M.2.1 pc = .ok (.dup2, 1)) (k : RR X d M n0 n' n (pc + 1) lv (v :: v :: st) r m Q) : RR X d M n0 n' n pc lv (v :: st) r m Q := by
  intro p R e s mm args below meth c H locs ls F G K E
  exact lv_dup2_2 F.x F.b hdg (cv_2 X hv) (k F G K E)
theorem r_goto {off : Int} {tgt : Nat} (hdg : decode M.2.1 pc = .ok (.goto off, 3)) (ht : (pc : Int) + off = (tgt : Int)) (k : RR X d M n0 n' n tgt lv st r m Q) : RR X d M n0 n' n pc lv st r m Q := by
  intro p R e s mm args below meth c H locs ls F G K E
  exact lv_goto F.x F.b hdg ht (k F G K E)
theorem kz_eq {a b : Int} : Int32.ofInt a = Int32.ofInt b ↔ w32 a = w32 b := by rw [← Int32.toInt_inj, i32_w, i32_w]
theorem kz_lt {a b : Int} : Int32.ofInt a < Int32.ofInt b ↔ w32 a < w32 b := by rw [Int32.lt_iff_toInt_lt, i32_w, i32_w]
theorem kz_le {a b : Int} : Int32.ofInt a ≤ Int32.ofInt b ↔ w32 a ≤ w32 b := by rw [Int32.le_iff_toInt_le, i32_w, i32_w]
theorem kz_0 : (0 : Int32) = Int32.ofInt 0 := rfl
theorem w32_0 : w32 0 = 0 := rfl
theorem kz_eq0 {a : Int} : Int32.ofInt a = 0 ↔ w32 a = 0 := by rw [kz_0, kz_eq, w32_0]
theorem kz_lt0 {a : Int} : Int32.ofInt a < 0 ↔ w32 a < 0 := by rw [kz_0, kz_lt, w32_0]
theorem kz_le0 {a : Int} : Int32.ofInt a ≤ 0 ↔ w32 a ≤ 0 := by rw [kz_0, kz_le, w32_0]
theorem kz_gt0 {a : Int} : 0 < Int32.ofInt a ↔ 0 < w32 a := by rw [kz_0, kz_lt, w32_0]
theorem kz_ge0 {a : Int} : 0 ≤ Int32.ofInt a ↔ 0 ≤ w32 a := by rw [kz_0, kz_le, w32_0]
theorem kz_eql {a b : Int} : Int64.ofInt a = Int64.ofInt b ↔ w64 a = w64 b := by rw [← Int64.toInt_inj, i64_w, i64_w]
theorem kz_ltl {a b : Int} : Int64.ofInt a < Int64.ofInt b ↔ w64 a < w64 b := by rw [Int64.lt_iff_toInt_lt, i64_w, i64_w]
def lcmpz (a b : Int) : Int := (lg_cmp (Int64.ofInt a) (Int64.ofInt b)).toInt
theorem r_lcmp {a b : Int} (hdg : decode M.2.1 pc = .ok (.lcmp, 1)) (k : RR X d M n0 n' n (pc + 1) lv (vi (lcmpz a b) :: st) r m Q) : RR X d M n0 n' n pc lv (vl b :: vl a :: st) r m Q := by
  intro p R e s mm args below meth c H locs ls F G K E
  have k := k (e := e) (below := below) F G K E
  refine W.lcmp F.x F.b hdg ?_
  rw [show lg_cmp (Int64.ofInt a) (Int64.ofInt b) = Int32.ofInt (lcmpz a b) from (i32_rt _).symm]
  exact k
-- eq
theorem r_if_eq {a : Int} {off : Int} {tgt : Nat} (hdg : decode M.2.1 pc = .ok (.ifCond .eq off, 3)) (ht : (pc : Int) + off = (tgt : Int)) (kt : w32 a = 0 → RR X d M n0 n' n tgt lv st r m Q) (kf : ¬ (w32 a = 0) → RR X d M n0 n' n (pc + 3) lv st r m Q) : RR X d M n0 n' n pc lv (vi a :: st) r m Q := by
  intro p R e s mm args below meth c H locs ls F G K E
  refine lv_if_eq F.x F.b hdg ht (fun h => kt ?_ F G K E) (fun h => kf ?_ F G K E)
  · simpa [kz_eq0, kz_lt0, kz_le0, kz_gt0, kz_ge0, GT.gt, GE.ge] using h
  · simpa [kz_eq0, kz_lt0, kz_le0, kz_gt0, kz_ge0, GT.gt, GE.ge] using h
theorem r_ifc_eq {a b : Int} {off : Int} {tgt : Nat} (hdg : decode M.2.1 pc = .ok (.if_icmp .eq off, 3)) (ht : (pc : Int) + off = (tgt : Int)) (kt : w32 a = w32 b → RR X d M n0 n' n tgt lv st r m Q) (kf : ¬ (w32 a = w32 b) → RR X d M n0 n' n (pc + 3) lv st r m Q) : RR X d M n0 n' n pc lv (vi b :: vi a :: st) r m Q := by
  intro p R e s mm args below meth c H locs ls F G K E
  refine lv_icmp_eq F.x F.b hdg ht (fun h => kt ?_ F G K E) (fun h => kf ?_ F G K E)
  · simpa [kz_eq, kz_lt, kz_le, GT.gt, GE.ge] using h
  · simpa [kz_eq, kz_lt, kz_le, GT.gt, GE.ge] using h
-- ne
theorem r_if_ne {a : Int} {off : Int} {tgt : Nat} (hdg : decode M.2.1 pc = .ok (.ifCond .ne off, 3)) (ht : (pc : Int) + off = (tgt : Int)) (kt : ¬ w32 a = 0 → RR X d M n0 n' n tgt lv st r m Q) (kf : ¬ (¬ w32 a = 0) → RR X d M n0 n' n (pc + 3) lv st r m Q) : RR X d M n0 n' n pc lv (vi a :: st) r m Q := by
  intro p R e s mm args below meth c H locs ls F G K E
  refine lv_if_ne F.x F.b hdg ht (fun h => kt ?_ F G K E) (fun h => kf ?_ F G K E)
  · simpa [kz_eq0, kz_lt0, kz_le0, kz_gt0, kz_ge0, GT.gt, GE.ge] using h
  · simpa [kz_eq0, kz_lt0, kz_le0, kz_gt0, kz_ge0, GT.gt, GE.ge] using h
theorem r_ifc_ne {a b : Int} {off : Int} {tgt : Nat} (hdg : decode M.2.1 pc = .ok (.if_icmp .ne off, 3)) (ht : (pc : Int) + off = (tgt : Int)) (kt : ¬ w32 a = w32 b → RR X d M n0 n' n tgt lv st r m Q) (kf : ¬ (¬ w32 a = w32 b) → RR X d M n0 n' n (pc + 3) lv st r m Q) : RR X d M n0 n' n pc lv (vi b :: vi a :: st) r m Q := by
  intro p R e s mm args below meth c H locs ls F G K E
  refine lv_icmp_ne F.x F.b hdg ht (fun h => kt ?_ F G K E) (fun h => kf ?_ F G K E)
  · simpa [kz_eq, kz_lt, kz_le, GT.gt, GE.ge] using h
  · simpa [kz_eq, kz_lt, kz_le, GT.gt, GE.ge] using h
-- lt
theorem r_if_lt {a : Int} {off : Int} {tgt : Nat} (hdg : decode M.2.1 pc = .ok (.ifCond .lt off, 3)) (ht : (pc : Int) + off = (tgt : Int)) (kt : w32 a < 0 → RR X d M n0 n' n tgt lv st r m Q) (kf : ¬ (w32 a < 0) → RR X d M n0 n' n (pc + 3) lv st r m Q) : RR X d M n0 n' n pc lv (vi a :: st) r m Q := by
  intro p R e s mm args below meth c H locs ls F G K E
  refine lv_if_lt F.x F.b hdg ht (fun h => kt ?_ F G K E) (fun h => kf ?_ F G K E)
  · simpa [kz_eq0, kz_lt0, kz_le0, kz_gt0, kz_ge0, GT.gt, GE.ge] using h
  · simpa [kz_eq0, kz_lt0, kz_le0, kz_gt0, kz_ge0, GT.gt, GE.ge] using h
theorem r_ifc_lt {a b : Int} {off : Int} {tgt : Nat} (hdg : decode M.2.1 pc = .ok (.if_icmp .lt off, 3)) (ht : (pc : Int) + off = (tgt : Int)) (kt : w32 a < w32 b → RR X d M n0 n' n tgt lv st r m Q) (kf : ¬ (w32 a < w32 b) → RR X d M n0 n' n (pc + 3) lv st r m Q) : RR X d M n0 n' n pc lv (vi b :: vi a :: st) r m Q := by
  intro p R e s mm args below meth c H locs ls F G K E
  refine lv_icmp_lt F.x F.b hdg ht (fun h => kt ?_ F G K E) (fun h => kf ?_ F G K E)
  · simpa [kz_eq, kz_lt, kz_le, GT.gt, GE.ge] using h
  · simpa [kz_eq, kz_lt, kz_le, GT.gt, GE.ge] using h
-- ge
theorem r_if_ge {a : Int} {off : Int} {tgt : Nat} (hdg : decode M.2.1 pc = .ok (.ifCond .ge off, 3)) (ht : (pc : Int) + off = (tgt : Int)) (kt : 0 ≤ w32 a → RR X d M n0 n' n tgt lv st r m Q) (kf : ¬ (0 ≤ w32 a) → RR X d M n0 n' n (pc + 3) lv st r m Q) : RR X d M n0 n' n pc lv (vi a :: st) r m Q := by
  intro p R e s mm args below meth c H locs ls F G K E
  refine lv_if_ge F.x F.b hdg ht (fun h => kt ?_ F G K E) (fun h => kf ?_ F G K E)
  · simpa [kz_eq0, kz_lt0, kz_le0, kz_gt0, kz_ge0, GT.gt, GE.ge] using h
  · simpa [kz_eq0, kz_lt0, kz_le0, kz_gt0, kz_ge0, GT.gt, GE.ge] using h
theorem r_ifc_ge {a b : Int} {off : Int} {tgt : Nat} (hdg : decode M.2.1 pc = .ok (.if_icmp .ge off, 3)) (ht : (pc : Int) + off = (tgt : Int)) (kt : w32 b ≤ w32 a → RR X d M n0 n' n tgt lv st r m Q) (kf : ¬ (w32 b ≤ w32 a) → RR X d M n0 n' n (pc + 3) lv st r m Q) : RR X d M n0 n' n pc lv (vi b :: vi a :: st) r m Q := by
  intro p R e s mm args below meth c H locs ls F G K E
  refine lv_icmp_ge F.x F.b hdg ht (fun h => kt ?_ F G K E) (fun h => kf ?_ F G K E)
  · simpa [kz_eq, kz_lt, kz_le, GT.gt, GE.ge] using h
  · simpa [kz_eq, kz_lt, kz_le, GT.gt, GE.ge] using h
-- gt
theorem r_if_gt {a : Int} {off : Int} {tgt : Nat} (hdg : decode M.2.1 pc = .ok (.ifCond .gt off, 3)) (ht : (pc : Int) + off = (tgt : Int)) (kt : 0 < w32 a → RR X d M n0 n' n tgt lv st r m Q) (kf : ¬ (0 < w32 a) → RR X d M n0 n' n (pc + 3) lv st r m Q) : RR X d M n0 n' n pc lv (vi a :: st) r m Q := by
  intro p R e s mm args below meth c H locs ls F G K E
  refine lv_if_gt F.x F.b hdg ht (fun h => kt ?_ F G K E) (fun h => kf ?_ F G K E)
  · simpa [kz_eq0, kz_lt0, kz_le0, kz_gt0, kz_ge0, GT.gt, GE.ge] using h
  · simpa [kz_eq0, kz_lt0, kz_le0, kz_gt0, kz_ge0, GT.gt, GE.ge] using h
theorem r_ifc_gt {a b : Int} {off : Int} {tgt : Nat} (hdg : decode M.2.1 pc = .ok (.if_icmp .gt off, 3)) (ht : (pc : Int) + off = (tgt : Int)) (kt : w32 b < w32 a → RR X d M n0 n' n tgt lv st r m Q) (kf : ¬ (w32 b < w32 a) → RR X d M n0 n' n (pc + 3) lv st r m Q) : RR X d M n0 n' n pc lv (vi b :: vi a :: st) r m Q := by
  intro p R e s mm args below meth c H locs ls F G K E
  refine lv_icmp_gt F.x F.b hdg ht (fun h => kt ?_ F G K E) (fun h => kf ?_ F G K E)
  · simpa [kz_eq, kz_lt, kz_le, GT.gt, GE.ge] using h
  · simpa [kz_eq, kz_lt, kz_le, GT.gt, GE.ge] using h
-- le
theorem r_if_le {a : Int} {off : Int} {tgt : Nat} (hdg : decode M.2.1 pc = .ok (.ifCond .le off, 3)) (ht : (pc : Int) + off = (tgt : Int)) (kt : w32 a ≤ 0 → RR X d M n0 n' n tgt lv st r m Q) (kf : ¬ (w32 a ≤ 0) → RR X d M n0 n' n (pc + 3) lv st r m Q) : RR X d M n0 n' n pc lv (vi a :: st) r m Q := by
  intro p R e s mm args below meth c H locs ls F G K E
  refine lv_if_le F.x F.b hdg ht (fun h => kt ?_ F G K E) (fun h => kf ?_ F G K E)
  · simpa [kz_eq0, kz_lt0, kz_le0, kz_gt0, kz_ge0, GT.gt, GE.ge] using h
  · simpa [kz_eq0, kz_lt0, kz_le0, kz_gt0, kz_ge0, GT.gt, GE.ge] using h
theorem r_ifc_le {a b : Int} {off : Int} {tgt : Nat} (hdg : decode M.2.1 pc = .ok (.if_icmp .le off, 3)) (ht : (pc : Int) + off = (tgt : Int)) (kt : w32 a ≤ w32 b → RR X d M n0 n' n tgt lv st r m Q) (kf : ¬ (w32 a ≤ w32 b) → RR X d M n0 n' n (pc + 3) lv st r m Q) : RR X d M n0 n' n pc lv (vi b :: vi a :: st) r m Q := by
  intro p R e s mm args below meth c H locs ls F G K E
  refine lv_icmp_le F.x F.b hdg ht (fun h => kt ?_ F G K E) (fun h => kf ?_ F G K E)
  · simpa [kz_eq, kz_lt, kz_le, GT.gt, GE.ge] using h
  · simpa [kz_eq, kz_lt, kz_le, GT.gt, GE.ge] using h
end RW0
end
section
/-! memory: fields, arrays, outer arrays; entry, ends -/
def isA (n : Nat) (k : Int) (ty : FieldType) (len : Nat) : Prop := 1 ≤ k ∧ k < 1000 ∧ k.toNat ≤ n ∧ tbl[k.toNat]? = some (.inl (ty, len))
def isO (n : Nat) (k : Int) (ci : Nat) : Prop := 1 ≤ k ∧ k < 1000 ∧ k.toNat ≤ n ∧ tbl[k.toNat]? = some (.inr ci)
theorem clsW : ∀ (ci : Nat) (c : vw_C), clsT[ci]? = some c → (∀ w ∈ u_ws c.1 c.2.1 c.2.2, w ∈ Tg) ∧ (∀ a, a < c.2.2 → ∀ b, b < c.2.2 → a ≠ b → (c.2.1 a).2.1 ≠ (c.2.1 b).2.1) ∧ (∀ k, k < c.2.2 → parseFieldDescriptor (c.2.1 k).2.2.1 = some (tyC ci k)) := by
  intro ci c h
  match ci, h with
  | 0, h => cases h; exact ⟨kWZ, kNZ, kOZ⟩
  | 1, h => cases h; exact ⟨kWK, kNK, kOK⟩
  | 2, h => cases h; exact ⟨kWL, kNL, kOL⟩
  | 3, h => cases h; exact ⟨kWP, kNP, kOP⟩
  | 4, h => cases h; exact ⟨kWT, kNT, kOT⟩
  | 5, h => cases h; exact ⟨kWC, kNC, kOC⟩
  | 6, h => cases h; exact ⟨kWI, kNI, kOI⟩
  | 7, h => cases h; exact ⟨kWN, kNN, kON⟩
  | 8, h => cases h; exact ⟨kWD, kND, kOD⟩
  | 9, h => cases h; exact ⟨kWG, kNG, kOG⟩
  | 10, h => cases h; exact ⟨kWA, kNA, kOA⟩
  | 11, h => cases h; exact ⟨kWS, kNS, kOS⟩
  | 12, h => cases h; exact ⟨kWY, kNY, kOY⟩
  | n + 13, h => simp [clsT] at h
def FG (own : String) (ix ci j : Nat) : Prop := ∃ c : vw_C, clsT[ci]? = some c ∧ j < c.2.2 ∧ (c.2.1 j).1 = c.1 ∧ (Cond.fieldLink own ix c.1 (c.2.1 j).2.1 (c.2.1 j).2.2.1 ∈ Tg ∨ ∃ host, Cond.fieldLinkNest own ix c.1 (c.2.1 j).2.1 (c.2.1 j).2.2.1 host ∈ nst)
theorem kz_ix (i : Int) : (Int32.ofInt i).toNatClampNeg = (w32 i).toNat := by
  show (Int32.ofInt i).toInt.toNat = _
  rw [i32_w]
theorem kz_rd {X : Cx} {n : Nat} {r m : Mem} {H : Heap} {k i : Int} {ty : FieldType} {len : Nat} (h : Wd X n r m H) (hk : isA n k ty len) (hi : 0 ≤ w32 i ∧ w32 i < (len : Int)) : ∃ f, f = (fun j : Nat => fldv X ty (r k (j : Int)) (m k (j : Int))) ∧ H[adr X k]? = some (arrV (xA X ty) len f) ∧ (¬ (Int32.ofInt i < 0 ∨ (arrV (xA X ty) len f).slots.size ≤ (Int32.ofInt i).toNatClampNeg)) ∧ (arrV (xA X ty) len f).slots[(Int32.ofInt i).toNatClampNeg]? = some (fldv X ty (r k (w32 i)) (m k (w32 i))) := by
  have hc := h.2 k.toNat _ (by have := hk.1; omega) hk.2.2.1 hk.2.2.2
  have ek : ((k.toNat : Nat) : Int) = k := Int.toNat_of_nonneg (by have := hk.1; omega)
  simp only [cellAt, ek] at hc
  refine ⟨_, rfl, ?_, ?_, ?_⟩
  · rw [show adr X k = xB X + k.toNat from if_pos hk.2.1]; exact hc
  · rw [arrV_size, kz_ix, kz_lt0]; omega
  · rw [kz_ix, arrV_read _ _ (by omega), Int.toNat_of_nonneg hi.1]
theorem cellAt.eq {X : Cx} {q : Kd} {k : Nat} {r m r' m' : Mem} {H H' : Heap} (h : cellAt X q k r m H) (he : ∀ b : Int, r' (k : Int) b = r (k : Int) b ∧ m' (k : Int) b = m (k : Int) b) (hH : H'[xB X + k]? = H[xB X + k]?) : cellAt X q k r' m' H' := by
  have e1 : r' (k : Int) = r (k : Int) := funext fun b => (he b).1
  have e2 : m' (k : Int) = m (k : Int) := funext fun b => (he b).2
  cases q with
  | inl a =>
    obtain ⟨ty, n⟩ := a
    simp only [cellAt, e1, e2] at h ⊢
    rw [hH]; exact h
  | inr ci =>
    simp only [cellAt, e1, e2] at h ⊢
    obtain ⟨c, h1, h2⟩ := h
    exact ⟨c, h1, h2.kept hH⟩
theorem Wd.setA {X : Cx} {n : Nat} {r m r' m' : Mem} {H H' : Heap} {k i : Int} {ty : FieldType} {len : Nat} {f : Nat → Value} {v : Value} (h : Wd X n r m H) (hk : isA n k ty len) (hi : 0 ≤ w32 i ∧ w32 i < (len : Int)) (hf : f = (fun j : Nat => fldv X ty (r k (j : Int)) (m k (j : Int)))) (hv : v = fldv X ty (r' k (w32 i)) (m' k (w32 i))) (he : ∀ a b, ¬ (a = k ∧ b = w32 i) → r' a b = r a b ∧ m' a b = m a b)
    (e : H'[adr X k]? = some ((arrV (xA X ty) len f).setSlot (Int32.ofInt i).toNatClampNeg v)) (z : H'.size = H.size) (o : ∀ q, q ≠ adr X k → H'[q]? = H[q]?) : Wd X n r' m' H' := by
  have ek : ((k.toNat : Nat) : Int) = k := Int.toNat_of_nonneg (by have := hk.1; omega)
  have ha : adr X k = xB X + k.toNat := if_pos hk.2.1
  refine ⟨by rw [z]; exact h.1, fun k2 q h1 h2 hq => ?_⟩
  by_cases hkk : k2 = k.toNat
  · subst hkk
    rw [hk.2.2.2] at hq
    cases hq
    simp only [cellAt, ek]
    rw [← ha, e, arrV_store, hf]
    congr 2
    funext j
    unfold updV
    rw [kz_ix]
    by_cases hj : j = (w32 i).toNat
    · rw [if_pos hj, hv]
      have : (j : Int) = w32 i := by rw [hj]; exact Int.toNat_of_nonneg hi.1
      rw [this]
    · rw [if_neg hj]
      have := he k j (fun q => hj (by omega))
      rw [this.1, this.2]
  · refine (h.2 k2 q h1 h2 hq).eq (fun b => he _ _ (fun q => hkk (by omega))) (o _ (fun q => hkk (by omega)))
theorem Wd.setO {X : Cx} {n : Nat} {r m r' m' : Mem} {H H' : Heap} {k : Int} {ci j : Nat} {c : vw_C} {v : Value} {cell : Cell} (h : Wd X n r m H) (hk : isO n k ci) (hc : clsT[ci]? = some c) (hj : j < c.2.2) (hap : ∀ x y, x < c.2.2 → y < c.2.2 → x ≠ y → xI X ci x ≠ xI X ci y)
    (q1 : H[adr X k]? = some cell) (hv : v = fldv X (tyC ci j) (r' k (j : Int)) (m' k (j : Int))) (he : ∀ a b, ¬ (a = k ∧ b = (j : Int)) → r' a b = r a b ∧ m' a b = m a b)
    (e : H'[adr X k]? = some (cell.setSlot (xI X ci j) v)) (z : H'.size = H.size) (o : ∀ q, q ≠ adr X k → H'[q]? = H[q]?) : Wd X n r' m' H' := by
  have ek : ((k.toNat : Nat) : Int) = k := Int.toNat_of_nonneg (by have := hk.1; omega)
  have ha : adr X k = xB X + k.toNat := if_pos hk.2.1
  refine ⟨by rw [z]; exact h.1, fun k2 q h1 h2 hq => ?_⟩
  by_cases hkk : k2 = k.toNat
  · subst hkk
    have h0 := h.2 _ _ h1 h2 hk.2.2.2
    rw [hk.2.2.2] at hq
    cases hq
    simp only [cellAt, ek] at h0 ⊢
    obtain ⟨c', hc', cell', g1, g2, g3, g4⟩ := h0
    rw [hc] at hc'
    cases hc'
    rw [← ha] at g1 ⊢
    cases q1.symm.trans g1
    refine ⟨c, hc, ?_⟩
    refine t_OB.to (V := updV (fun j : Nat => fldv X (tyC ci j) (r k (j : Int)) (m k (j : Int))) j v) ⟨_, e, g2, g3, t_set g4 hap hj v⟩ (fun j2 _ => ?_)
    unfold updV
    by_cases hj2 : j2 = j
    · rw [if_pos hj2, hv, hj2]
    · rw [if_neg hj2]
      have := he k j2 (fun q => hj2 (by omega))
      rw [this.1, this.2]
  · refine (h.2 k2 q h1 h2 hq).eq (fun b => he _ _ (fun q => hkk (by omega))) (o _ (fun q => hkk (by omega)))
theorem adr_pos {X : Cx} {k : Int} (h1 : 1 ≤ k) (h2 : k < 1000) : xB X < adr X k := by
  rw [show adr X k = xB X + k.toNat from if_pos h2]; omega
theorem upm_ne {m : Mem} {k i v a b : Int} (h : ¬ (a = k ∧ b = i)) : upm m k i v a b = m a b := if_neg h
theorem upm_eq {m : Mem} {k i v : Int} : upm m k i v k i = v := if_pos ⟨rfl, rfl⟩
section RW1
variable {X : Cx} {d n0 n' n : Nat} {M : Md} {pc : Nat} {lv : List (Nat × AV)} {st : List AV} {r m : Mem} {Q : Int → Mem → Mem → Prop}
theorem r_iaload {k i : Int} {len : Nat} (hk : isA n k .int len) (hi : 0 ≤ w32 i ∧ w32 i < (len : Int)) (hdg : decode M.2.1 pc = .ok (.iaload, 1)) (kk : RR X d M n0 n' n (pc + 1) lv (vi (m k (w32 i)) :: st) r m Q) : RR X d M n0 n' n pc lv (vi i :: vr k :: st) r m Q := by
  intro p R e s mm args below meth c H locs ls F G K E
  obtain ⟨f, -, h1, h2, h3⟩ := kz_rd K.1 hk hi
  exact W.iald F.x F.b h1 ((F.cx.1.2 .int (by decide)).1 _ _) (fun h => by cases h) h2 h3 rfl rfl hdg (kk F G K E)
theorem r_laload {k i : Int} {len : Nat} (hk : isA n k .long len) (hi : 0 ≤ w32 i ∧ w32 i < (len : Int)) (hdg : decode M.2.1 pc = .ok (.laload, 1)) (kk : RR X d M n0 n' n (pc + 1) lv (vl (m k (w32 i)) :: st) r m Q) : RR X d M n0 n' n pc lv (vi i :: vr k :: st) r m Q := by
  intro p R e s mm args below meth c H locs ls F G K E
  obtain ⟨f, -, h1, h2, h3⟩ := kz_rd K.1 hk hi
  exact W.lald F.x F.b h1 ((F.cx.1.2 .long (by decide)).1 _ _) (fun h => by cases h) h2 h3 rfl rfl hdg (kk F G K E)
theorem r_baload {k i : Int} {len : Nat} (hk : isA n k .byte len) (hi : 0 ≤ w32 i ∧ w32 i < (len : Int)) (hdg : decode M.2.1 pc = .ok (.baload, 1)) (kk : RR X d M n0 n' n (pc + 1) lv (vi (m k (w32 i)) :: st) r m Q) : RR X d M n0 n' n pc lv (vi i :: vr k :: st) r m Q := by
  intro p R e s mm args below meth c H locs ls F G K E
  obtain ⟨f, -, h1, h2, h3⟩ := kz_rd K.1 hk hi
  exact W.bald F.x F.b h1 ((F.cx.1.2 .byte (by decide)).1 _ _) (fun h => by cases h) h2 h3 rfl rfl hdg (kk F G K E)
theorem r_saload {k i : Int} {len : Nat} (hk : isA n k .short len) (hi : 0 ≤ w32 i ∧ w32 i < (len : Int)) (hdg : decode M.2.1 pc = .ok (.saload, 1)) (kk : RR X d M n0 n' n (pc + 1) lv (vi (m k (w32 i)) :: st) r m Q) : RR X d M n0 n' n pc lv (vi i :: vr k :: st) r m Q := by
  intro p R e s mm args below meth c H locs ls F G K E
  obtain ⟨f, -, h1, h2, h3⟩ := kz_rd K.1 hk hi
  exact W.sald F.x F.b h1 ((F.cx.1.2 .short (by decide)).1 _ _) (fun h => by cases h) h2 h3 rfl rfl hdg (kk F G K E)
theorem r_aaload {k i t : Int} {ty : FieldType} {len : Nat} (hty : FieldType.array ty ∈ atys) (hk : isA n k (.array ty) len) (hi : 0 ≤ w32 i ∧ w32 i < (len : Int)) (ht : r k (w32 i) = t) (ht0 : ¬ t = 0) (hdg : decode M.2.1 pc = .ok (.aaload, 1)) (kk : RR X d M n0 n' n (pc + 1) lv (vr t :: st) r m Q) : RR X d M n0 n' n pc lv (vi i :: vr k :: st) r m Q := by
  intro p R e s mm args below meth c H locs ls F G K E
  obtain ⟨f, -, h1, h2, h3⟩ := kz_rd K.1 hk hi
  refine W.aald (ty := .array ty) F.x F.b h1 ((F.cx.1.2 _ hty).1 _ _) rfl (fun h => by cases h) h2 h3 rfl rfl hdg ?_
  have e1 : fldv X (.array ty) (r k (w32 i)) (m k (w32 i)) = cv X (vr t) := by
    show rfv X (r k (w32 i)) = _
    rw [ht]
    exact if_neg ht0
  rw [e1]
  exact kk F G K E
theorem r_alen {k : Int} {ty : FieldType} {len : Nat} (hty : ty ∈ atys) (hk : isA n k ty len) (hdg : decode M.2.1 pc = .ok (.arraylength, 1)) (kk : RR X d M n0 n' n (pc + 1) lv (vi (len : Int) :: st) r m Q) : RR X d M n0 n' n pc lv (vr k :: st) r m Q := by
  intro p R e s mm args below meth c H locs ls F G K E
  have hc := K.1.2 k.toNat _ (by have := hk.1; omega) hk.2.2.1 hk.2.2.2
  simp only [cellAt] at hc
  rw [← show adr X k = xB X + k.toNat from if_pos hk.2.1] at hc
  exact W.alen (n := Int32.ofInt (len : Int)) F.x F.b hc ((F.cx.1.2 _ hty).1 _ _) (by rw [arrV_size]; rfl) rfl rfl hdg (kk F G K E)
theorem Hx.put {s : State} {H H' : Heap} {locs : List Loc} {ls : Array Slot} {a i : Nat} {r' m' : Mem} (K : Hx X M n r m lv s H locs ls) (hw : Wd X n r' m' H') (ha : xB X < a) (z : H'.size = H.size) (o : ∀ q, q ≠ a → H'[q]? = H[q]?) : Hx X M n r' m' lv s H' (locs ++ [⟨a, i⟩]) ls :=
  ⟨hw, K.2.1.put z o ha, K.2.2⟩
theorem kz_up1 {k i v : Int} : ∀ a b, ¬ (a = k ∧ b = i) → r a b = r a b ∧ upm m k i v a b = m a b := fun a b h => ⟨rfl, upm_ne h⟩
theorem kz_up2 {k i v : Int} : ∀ a b, ¬ (a = k ∧ b = i) → upm r k i v a b = r a b ∧ m a b = m a b := fun a b h => ⟨upm_ne h, rfl⟩
theorem r_iastore {k i z : Int} {len : Nat} (hk : isA n k .int len) (hi : 0 ≤ w32 i ∧ w32 i < (len : Int)) (hdg : decode M.2.1 pc = .ok (.iastore, 1)) (kk : RR X d M n0 n' n (pc + 1) lv st r (upm m k (w32 i) z) Q) : RR X d M n0 n' n pc lv (vi z :: vi i :: vr k :: st) r m Q := by
  intro p R e s mm args below meth c H locs ls F G K E
  obtain ⟨f, hf, h1, h2, h3⟩ := kz_rd K.1 hk hi
  refine W.iast F.x F.b h1 ((F.cx.1.2 .int (by decide)).1 _ _) (fun h => by cases h) h2 rfl rfl hdg fun H' e1 e2 e3 => ?_
  exact kk F G (K.put (K.1.setA hk hi hf (show Value.int (Int32.ofInt z) = _ by rw [upm_eq]; rfl) kz_up1 e1 e2 e3) (adr_pos hk.1 hk.2.1) e2 e3) E
theorem r_lastore {k i z : Int} {len : Nat} (hk : isA n k .long len) (hi : 0 ≤ w32 i ∧ w32 i < (len : Int)) (hdg : decode M.2.1 pc = .ok (.lastore, 1)) (kk : RR X d M n0 n' n (pc + 1) lv st r (upm m k (w32 i) z) Q) : RR X d M n0 n' n pc lv (vl z :: vi i :: vr k :: st) r m Q := by
  intro p R e s mm args below meth c H locs ls F G K E
  obtain ⟨f, hf, h1, h2, h3⟩ := kz_rd K.1 hk hi
  refine W.last F.x F.b h1 ((F.cx.1.2 .long (by decide)).1 _ _) (fun h => by cases h) h2 rfl rfl hdg fun H' e1 e2 e3 => ?_
  exact kk F G (K.put (K.1.setA hk hi hf (show Value.long (Int64.ofInt z) = _ by rw [upm_eq]; rfl) kz_up1 e1 e2 e3) (adr_pos hk.1 hk.2.1) e2 e3) E
theorem r_bastore {k i z : Int} {len : Nat} (hk : isA n k .byte len) (hi : 0 ≤ w32 i ∧ w32 i < (len : Int)) (hdg : decode M.2.1 pc = .ok (.bastore, 1)) (kk : RR X d M n0 n' n (pc + 1) lv st r (upm m k (w32 i) (w8 z)) Q) : RR X d M n0 n' n pc lv (vi z :: vi i :: vr k :: st) r m Q := by
  intro p R e s mm args below meth c H locs ls F G K E
  obtain ⟨f, hf, h1, h2, h3⟩ := kz_rd K.1 hk hi
  refine W.bast F.x F.b h1 ((F.cx.1.2 .byte (by decide)).1 _ _) (fun h => by cases h) h2 rfl rfl hdg fun H' e1 e2 e3 => ?_
  refine kk F G (K.put (K.1.setA hk hi hf ?_ kz_up1 e1 e2 e3) (adr_pos hk.1 hk.2.1) e2 e3) E
  show Value.int (Int32.ofInt z).toInt8.toInt32 = _
  rw [upm_eq]
  show _ = Value.int (Int32.ofInt (w8 z))
  congr 1
  apply Int32.toInt_inj.mp
  rw [i32_w, Int8.toInt_toInt32, Int32.toInt_toInt8, i32_w]
  simp only [w8, w32, Int.bmod]
  (repeat' split) <;> omega
theorem r_sastore {k i z : Int} {len : Nat} (hk : isA n k .short len) (hi : 0 ≤ w32 i ∧ w32 i < (len : Int)) (hdg : decode M.2.1 pc = .ok (.sastore, 1)) (kk : RR X d M n0 n' n (pc + 1) lv st r (upm m k (w32 i) (w16 z)) Q) : RR X d M n0 n' n pc lv (vi z :: vi i :: vr k :: st) r m Q := by
  intro p R e s mm args below meth c H locs ls F G K E
  obtain ⟨f, hf, h1, h2, h3⟩ := kz_rd K.1 hk hi
  refine W.sast F.x F.b h1 ((F.cx.1.2 .short (by decide)).1 _ _) (fun h => by cases h) h2 rfl rfl hdg fun H' e1 e2 e3 => ?_
  refine kk F G (K.put (K.1.setA hk hi hf ?_ kz_up1 e1 e2 e3) (adr_pos hk.1 hk.2.1) e2 e3) E
  show Value.int (Int32.ofInt z).toInt16.toInt32 = _
  rw [upm_eq]
  show _ = Value.int (Int32.ofInt (w16 z))
  congr 1
  apply Int32.toInt_inj.mp
  rw [i32_w, Int16.toInt_toInt32, Int32.toInt_toInt16, i32_w]
  simp only [w16, w32, Int.bmod]
  (repeat' split) <;> omega
-- fields
theorem r_get {k : Int} {ci j ix : Nat} {v : AV} (hk : isO n k ci) (hf : FG M.1.cls ix ci j) (hv : fldv X (tyC ci j) (r k (j : Int)) (m k (j : Int)) = cv X v) (hdg : decode M.2.1 pc = .ok (.getfield ix, 3)) (kk : RR X d M n0 n' n (pc + 3) lv (v :: st) r m Q) : RR X d M n0 n' n pc lv (vr k :: st) r m Q := by
  intro p R e s mm args below meth c H locs ls F G K E
  obtain ⟨cc, hc, hj, href, hl⟩ := hf
  have h0 := K.1.2 k.toNat _ (by have := hk.1; omega) hk.2.2.1 hk.2.2.2
  have ek : ((k.toNat : Nat) : Int) = k := Int.toNat_of_nonneg (by have := hk.1; omega)
  simp only [cellAt, ek] at h0
  rw [← show adr X k = xB X + k.toNat from if_pos hk.2.1] at h0
  obtain ⟨c', hc', cell, g1, g2, g3, g4⟩ := h0
  cases hc.symm.trans hc'
  obtain ⟨w1, w2, w3⟩ := clsW ci cc hc
  obtain ⟨hS, hfc, kC, hkC, hkind⟩ := F.cx.1.1 ci cc hc
  obtain ⟨cf, kf, fi, f, hi, hsl⟩ := hS j hj
  rw [href] at hi
  have hst : f.isStatic = false := by
    have h9 := (u_facts hfc hkC (u_lays F.t w1 hj) (by rw [href]; exact hi)).1
    exact h9
  have hslot : cell.slots[f.slot]? = some (cv X v) := by rw [hsl, g4 j hj]; exact congrArg some hv
  rcases hl with hl | ⟨host, hl⟩
  · exact W.getf F.x F.b F.o (F.t _ hl) hi hst g1 (by rw [g3]; exact fun h => by cases h) hslot rfl rfl hdg (kk F G K E)
  · exact va_Wgetf F.x F.b F.o (va_Nw.use rfl (F.cx.2.2.1 _ hl)) hi hst g1 (by rw [g3]; exact fun h => by cases h) hslot rfl rfl hdg (kk F G K E)
theorem r_getI {k : Int} {ci j ix : Nat} (hk : isO n k ci) (hf : FG M.1.cls ix ci j) (ht : tyC ci j = .int) (hdg : decode M.2.1 pc = .ok (.getfield ix, 3)) (kk : RR X d M n0 n' n (pc + 3) lv (vi (m k (j : Int)) :: st) r m Q) : RR X d M n0 n' n pc lv (vr k :: st) r m Q :=
  r_get hk hf (by rw [ht]; rfl) hdg kk
theorem r_getZ {k : Int} {ci j ix : Nat} (hk : isO n k ci) (hf : FG M.1.cls ix ci j) (ht : tyC ci j = .boolean) (hdg : decode M.2.1 pc = .ok (.getfield ix, 3)) (kk : RR X d M n0 n' n (pc + 3) lv (vi (m k (j : Int)) :: st) r m Q) : RR X d M n0 n' n pc lv (vr k :: st) r m Q :=
  r_get hk hf (by rw [ht]; rfl) hdg kk
theorem r_getL {k : Int} {ci j ix : Nat} (hk : isO n k ci) (hf : FG M.1.cls ix ci j) (ht : tyC ci j = .long) (hdg : decode M.2.1 pc = .ok (.getfield ix, 3)) (kk : RR X d M n0 n' n (pc + 3) lv (vl (m k (j : Int)) :: st) r m Q) : RR X d M n0 n' n pc lv (vr k :: st) r m Q :=
  r_get hk hf (by rw [ht]; rfl) hdg kk
def isRf (ty : FieldType) : Bool := match ty with
  | .object _ => true
  | .array _ => true
  | _ => false
theorem r_getR {k t : Int} {ci j ix : Nat} (hk : isO n k ci) (hf : FG M.1.cls ix ci j) (hty : isRf (tyC ci j) = true) (ht : r k (j : Int) = t) (ht0 : ¬ t = 0) (hdg : decode M.2.1 pc = .ok (.getfield ix, 3)) (kk : RR X d M n0 n' n (pc + 3) lv (vr t :: st) r m Q) : RR X d M n0 n' n pc lv (vr k :: st) r m Q := by
  refine r_get hk hf ?_ hdg kk
  have e1 : rfv X (r k (j : Int)) = cv X (vr t) := by rw [ht]; exact if_neg ht0
  generalize tyC ci j = ty at hty
  cases ty <;> first | exact e1 | (exact absurd hty (by decide))
def FP (own : String) (ix ci j : Nat) : Prop := FG own ix ci j ∧ ∃ c : vw_C, clsT[ci]? = some c ∧ (c.2.1 j).2.2.2 = false
theorem kz_apart {s : State} {args : Array Value} {cls : String} {mm : MethodId} (hts : ∀ w ∈ Tg, w.before args s = true) (hK : KK X s) (ci : Nat) (c : vw_C) (hc : clsT[ci]? = some c) : ∀ x y, x < c.2.2 → y < c.2.2 → x ≠ y → xI X ci x ≠ xI X ci y := by
  intro x y hx hy hne
  obtain ⟨w1, w2, w3⟩ := clsW ci c hc
  obtain ⟨hS, -⟩ := hK.1 ci c hc
  obtain ⟨_, _, _, fa, hia, ea⟩ := hS x hx
  obtain ⟨_, _, _, fb, hib, eb⟩ := hS y hy
  rw [← ea, ← eb]
  refine u_apart (u_lays hts w1 hx) (u_lays hts w1 hy) hia hib ?_
  rw [(State.fieldFound?_type hia (w3 x hx)).1, (State.fieldFound?_type hib (w3 y hy)).1]
  exact w2 x hx y hy hne
theorem r_put {k : Int} {ci j ix : Nat} {v : AV} {r' m' : Mem} (hk : isO n k ci) (hf : FP M.1.cls ix ci j) (hv : cv X v = fldv X (tyC ci j) (r' k (j : Int)) (m' k (j : Int))) (hn : narrow (tyC ci j) (cv X v) = cv X v) (hfit : fits (tyC ci j) (cv X v) = true) (he : ∀ a b, ¬ (a = k ∧ b = (j : Int)) → r' a b = r a b ∧ m' a b = m a b) (hdg : decode M.2.1 pc = .ok (.putfield ix, 3)) (kk : RR X d M n0 n' n (pc + 3) lv st r' m' Q) : RR X d M n0 n' n pc lv (v :: vr k :: st) r m Q := by
  intro p R e s mm args below meth c H locs ls F G K E
  obtain ⟨⟨cc, hc, hj, href, hl⟩, c2, hc2, hfin⟩ := hf
  cases hc.symm.trans hc2
  have h0 := K.1.2 k.toNat _ (by have := hk.1; omega) hk.2.2.1 hk.2.2.2
  have ek : ((k.toNat : Nat) : Int) = k := Int.toNat_of_nonneg (by have := hk.1; omega)
  simp only [cellAt, ek] at h0
  rw [← show adr X k = xB X + k.toNat from if_pos hk.2.1] at h0
  obtain ⟨c', hc', cell, g1, g2, g3, g4⟩ := h0
  cases hc.symm.trans hc'
  obtain ⟨w1, w2, w3⟩ := clsW ci cc hc
  have hap := kz_apart (cls := M.1.cls) (mm := mm) F.t F.cx.1 ci cc hc
  obtain ⟨hS, hfc, kC, hkC, hkind⟩ := F.cx.1.1 ci cc hc
  obtain ⟨cf, kf, fi, f, hi, hsl⟩ := hS j hj
  have hlay := F.t _ (w1 _ (u_in_lay hj))
  unfold u_lay at hlay
  rw [if_neg (by rw [hfin]; decide)] at hlay
  have hst := (u_facts hfc hkC (u_lays F.t w1 hj) hi).1
  have h6 := u_store hfc hkC hkind hlay hi (w3 j hj) hn hfit
  rw [href] at hi
  rcases hl with hl | ⟨host, hl⟩
  · refine W.putK F.x F.b (f := f) ⟨F.o, F.t _ hl, ⟨_, _, _, hi⟩, hst⟩ (by rw [g2]; exact h6) g1 g3 (by rw [hsl]; exact k2_hasslot (g4 j hj)) rfl rfl hdg fun H' e1 e2 e3 => ?_
    rw [hsl] at e1 ⊢
    exact kk F G (K.put (K.1.setO hk hc hj hap g1 hv he e1 e2 e3) (adr_pos hk.1 hk.2.1) e2 e3) E
  · refine va_WputK F.x F.b (f := f) F.o (va_Nw.use rfl (F.cx.2.2.1 _ hl)) hi hst (by rw [g2]; exact h6) g1 g3 (by rw [hsl]; exact k2_hasslot (g4 j hj)) rfl rfl hdg fun H' e1 e2 e3 => ?_
    rw [hsl] at e1 ⊢
    exact kk F G (K.put (K.1.setO hk hc hj hap g1 hv he e1 e2 e3) (adr_pos hk.1 hk.2.1) e2 e3) E
theorem r_putI {k z : Int} {ci j ix : Nat} (hk : isO n k ci) (hf : FP M.1.cls ix ci j) (ht : tyC ci j = .int) (hdg : decode M.2.1 pc = .ok (.putfield ix, 3)) (kk : RR X d M n0 n' n (pc + 3) lv st r (upm m k (j : Int) z) Q) : RR X d M n0 n' n pc lv (vi z :: vr k :: st) r m Q :=
  r_put hk hf (by rw [ht, upm_eq]; rfl) (by rw [ht]; rfl) (by rw [ht]; rfl) kz_up1 hdg kk
theorem r_putL {k z : Int} {ci j ix : Nat} (hk : isO n k ci) (hf : FP M.1.cls ix ci j) (ht : tyC ci j = .long) (hdg : decode M.2.1 pc = .ok (.putfield ix, 3)) (kk : RR X d M n0 n' n (pc + 3) lv st r (upm m k (j : Int) z) Q) : RR X d M n0 n' n pc lv (vl z :: vr k :: st) r m Q :=
  r_put hk hf (by rw [ht, upm_eq]; rfl) (by rw [ht]; rfl) (by rw [ht]; rfl) kz_up1 hdg kk
theorem r_putZ {k z : Int} {ci j ix : Nat} (hk : isO n k ci) (hf : FP M.1.cls ix ci j) (ht : tyC ci j = .boolean) (hz : z = 0 ∨ z = 1) (hdg : decode M.2.1 pc = .ok (.putfield ix, 3)) (kk : RR X d M n0 n' n (pc + 3) lv st r (upm m k (j : Int) z) Q) : RR X d M n0 n' n pc lv (vi z :: vr k :: st) r m Q :=
  r_put hk hf (by rw [ht, upm_eq]; rfl) (by rw [ht]; rcases hz with rfl | rfl <;> rfl) (by rw [ht]; rcases hz with rfl | rfl <;> rfl) kz_up1 hdg kk
theorem r_putR {k z : Int} {ci j ix : Nat} (hk : isO n k ci) (hf : FP M.1.cls ix ci j) (hty : isRf (tyC ci j) = true) (hz : ¬ z = 0) (hdg : decode M.2.1 pc = .ok (.putfield ix, 3)) (kk : RR X d M n0 n' n (pc + 3) lv st (upm r k (j : Int) z) m Q) : RR X d M n0 n' n pc lv (vr z :: vr k :: st) r m Q := by
  have e1 : cv X (vr z) = rfv X (upm r k (j : Int) z k (j : Int)) := by rw [upm_eq]; exact (if_neg hz).symm
  refine r_put hk hf ?_ ?_ ?_ kz_up2 hdg kk <;> (generalize tyC ci j = ty at hty; cases ty <;> first | exact e1 | rfl | (exact absurd hty (by decide)))
-- outer arrays
theorem r_gets {e ix : Nat} {q : kz_E} (he : exts[e]? = some q) (hw : Cond.fieldLink M.1.cls ix q.1 q.2.1 q.2.2.1 ∈ Tg) (hdg : decode M.2.1 pc = .ok (.getstatic ix, 3)) (kk : RR X d M n0 n' n (pc + 3) lv (vr (1000 + (e : Int)) :: st) r m Q) : RR X d M n0 n' n pc lv st r m Q := by
  intro p R e' s mm args below meth c H locs ls F G K E
  have kk := kk (e := e') (below := below) F G K E
  refine va_gets F.x F.b (F.cx.2.1.1 e q he).1 K.2.1 F.o (F.t _ hw) (fun _ h => h) hdg ?_
  rw [show (Value.ref (xE X e)) = cv X (vr (1000 + (e : Int))) from ?_]
  · exact kk
  · show _ = Value.ref (adr X _)
    rw [show adr X (1000 + (e : Int)) = xE X (1000 + (e : Int) - 1000).toNat from if_neg (by omega)]
    congr 2
    omega
theorem kz_adrx (X : Cx) (e : Nat) : adr X (1000 + (e : Int)) = xE X e := by
  rw [show adr X (1000 + (e : Int)) = xE X (1000 + (e : Int) - 1000).toNat from if_neg (by omega)]
  congr 1
  omega
theorem kz_vpin {i : Int} {len : Nat} (hi : 0 ≤ w32 i ∧ w32 i < (len : Int)) : vp_in (Int32.ofInt i) len := by
  unfold vp_in
  rw [kz_ix, kz_lt0]
  omega
theorem r_xiload {e : Nat} {i : Int} {C f dd : String} {N : Nat} {cont : List Int} (he : exts[e]? = some (C, f, dd, .int, N, cont)) (hi : 0 ≤ w32 i ∧ w32 i < (N : Int)) (hdg : decode M.2.1 pc = .ok (.iaload, 1)) (kk : RR X d M n0 n' n (pc + 1) lv (vi (cont.getD (w32 i).toNat 0) :: st) r m Q) : RR X d M n0 n' n pc lv (vi i :: vr (1000 + (e : Int)) :: st) r m Q := by
  intro p R e' s mm args below meth c H locs ls F G K E
  have hT := (F.cx.2.1.1 e _ he).2
  rw [← kz_adrx X e] at hT
  exact va_ti F.x F.b hT K.2.1 (kz_vpin hi) (by rw [kz_ix]; rfl) hdg (kk F G K E)
theorem r_xcload {e : Nat} {i : Int} {C f dd : String} {N : Nat} {cont : List Int} (he : exts[e]? = some (C, f, dd, .char, N, cont)) (hi : 0 ≤ w32 i ∧ w32 i < (N : Int)) (hdg : decode M.2.1 pc = .ok (.caload, 1)) (kk : RR X d M n0 n' n (pc + 1) lv (vi (cont.getD (w32 i).toNat 0) :: st) r m Q) : RR X d M n0 n' n pc lv (vi i :: vr (1000 + (e : Int)) :: st) r m Q := by
  intro p R e' s mm args below meth c H locs ls F G K E
  have hT := (F.cx.2.1.1 e _ he).2
  rw [← kz_adrx X e] at hT
  exact va_tc F.x F.b hT K.2.1 (kz_vpin hi) (by rw [kz_ix]; rfl) hdg (kk F G K E)
theorem r_xlen {e : Nat} {q : kz_E} (he : exts[e]? = some q) (hdg : decode M.2.1 pc = .ok (.arraylength, 1)) (kk : RR X d M n0 n' n (pc + 1) lv (vi (q.2.2.2.2.1 : Int) :: st) r m Q) : RR X d M n0 n' n pc lv (vr (1000 + (e : Int)) :: st) r m Q := by
  intro p R e' s mm args below meth c H locs ls F G K E
  have hT := (F.cx.2.1.1 e _ he).2
  rw [← kz_adrx X e] at hT
  exact va_tlen F.x F.b hT K.2.1 rfl hdg (kk F G K E)
theorem r_sload {i : Int} (hi : 0 ≤ w32 i ∧ w32 i < (xN X : Int)) (hdg : decode M.2.1 pc = .ok (.iaload, 1)) (kk : RR X d M n0 n' n (pc + 1) lv (vi (xS X (w32 i).toNat) :: st) r m Q) : RR X d M n0 n' n pc lv (vi i :: vr 1007 :: st) r m Q := by
  intro p R e' s mm args below meth c H locs ls F G K E
  have hT := F.cx.2.1.2
  exact va_ti F.x F.b hT K.2.1 (kz_vpin hi) (by rw [kz_ix]; rfl) hdg (kk F G K E)
theorem r_slen (hdg : decode M.2.1 pc = .ok (.arraylength, 1)) (kk : RR X d M n0 n' n (pc + 1) lv (vi (xN X : Int) :: st) r m Q) : RR X d M n0 n' n pc lv (vr 1007 :: st) r m Q := by
  intro p R e' s mm args below meth c H locs ls F G K E
  exact va_tlen F.x F.b F.cx.2.1.2 K.2.1 rfl hdg (kk F G K E)
-- ends
theorem kz_out {s t : State} {H : Heap} {locs : List Loc} {n0 : Nat} {z : Int} {o : Outcome} (hz : s.heap.size = xB X + n0 + 1) (hS : va_S (fun a => xB X < a) s.heap H locs) (ht : t.heap = H) : ∀ q : Nat, q ≤ xB X → t.heap[q]? = s.heap[q]? := fun q h => by
  rw [ht]
  exact hS.2.1 q (by omega) (by omega)
theorem r_zret {a : Int} {ty : FieldType} (hn : n = n') (hr : M.2.2.2 = some ty) (ht : ¬ ty = .long) (hnw : narrow ty (.int (Int32.ofInt a)) = .int (Int32.ofInt a)) (hq : Q a r m) (hdg : decode M.2.1 pc = .ok (.ireturn, 1)) : RR X d M n0 n' n pc lv [vi a] r m Q := by
  intro p R e s mm args below meth c H locs ls F G K E
  subst hn
  refine W.zret F.x F.b (F.r.trans hr) hnw (fun t ht' hW => ⟨⟨a, r, m, ?_, hq, by rw [ht']; exact K.1⟩, kz_out (z := 0) (o := .returned none) F.z K.2.1 ht'⟩) K.2.1.2.2 hdg F.k
  rw [hr]
  unfold retv
  split
  · cases ‹some ty = none›
  · exact absurd (Option.some.inj ‹some ty = some FieldType.long›) ht
  · rfl
theorem r_iret {a : Int} (hn : n = n') (hr : M.2.2.2 = some .int) (hq : Q a r m) (hdg : decode M.2.1 pc = .ok (.ireturn, 1)) : RR X d M n0 n' n pc lv [vi a] r m Q :=
  r_zret hn hr (fun h => by cases h) rfl hq hdg
theorem r_bret {a : Int} (hn : n = n') (hr : M.2.2.2 = some .boolean) (hz : a = 0 ∨ a = 1) (hq : Q a r m) (hdg : decode M.2.1 pc = .ok (.ireturn, 1)) : RR X d M n0 n' n pc lv [vi a] r m Q :=
  r_zret hn hr (fun h => by cases h) (by rcases hz with rfl | rfl <;> rfl) hq hdg
theorem r_lret {a : Int} (hn : n = n') (hr : M.2.2.2 = some .long) (hq : Q a r m) (hdg : decode M.2.1 pc = .ok (.lreturn, 1)) : RR X d M n0 n' n pc lv [vl a] r m Q := by
  intro p R e s mm args below meth c H locs ls F G K E
  subst hn
  exact W.lret F.x F.b (F.r.trans hr) (fun t ht' hW => ⟨⟨a, r, m, by rw [hr]; rfl, hq, by rw [ht']; exact K.1⟩, kz_out (z := 0) (o := .returned none) F.z K.2.1 ht'⟩) K.2.1.2.2 hdg F.k
theorem r_vret (hn : n = n') (hr : M.2.2.2 = none) (hq : Q 0 r m) (hdg : decode M.2.1 pc = .ok (.return_, 1)) : RR X d M n0 n' n pc lv [] r m Q := by
  intro p R e s mm args below meth c H locs ls F G K E
  subst hn
  exact W.vret F.x F.b (F.r.trans hr) (fun t ht' hW => ⟨⟨0, r, m, by rw [hr]; rfl, hq, by rw [ht']; exact K.1⟩, kz_out (z := 0) (o := .returned none) F.z K.2.1 ht'⟩) K.2.1.2.2 hdg F.k
end RW1
end
section
/-! entry, calls, Math, copies, making -/
def lvA : Nat → List AV → List (Nat × AV)
  | _, [] => []
  | i, v :: vs => (i, v) :: lvA (if v.1 = 1 then i + 2 else i + 1) vs
def wdA (as : List AV) : Nat := (as.map (fun v => if v.1 = 1 then 2 else 1)).sum
theorem cv_c2 (X : Cx) (v : AV) : ((cv X v).category = 2) ↔ v.1 = 1 := by
  have := cv_cat X v
  by_cases h : v.1 = 1
  · exact ⟨fun _ => h, fun _ => cv_2 X h⟩
  · exact ⟨fun q => absurd (q.symm.trans (cv_1 X h)) (by decide), fun q => absurd q h⟩
theorem cv_cv (X : Cx) (v : AV) : (cv X v).category = if v.1 = 1 then 2 else 1 := by
  by_cases h : v.1 = 1
  · rw [if_pos h]; exact cv_2 X h
  · rw [if_neg h]; exact cv_1 X h
theorem lvA_cv (X : Cx) : ∀ (as : List AV) (i : Nat), lv_args i (as.map (cv X)) = lvV X (lvA i as)
  | [], _ => rfl
  | v :: vs, i => by
    show (i, cv X v) :: lv_args (if (cv X v).category = 2 then i + 2 else i + 1) (vs.map (cv X)) = (i, cv X v) :: lvV X (lvA (if v.1 = 1 then i + 2 else i + 1) vs)
    rw [lvA_cv X vs]
    by_cases h : v.1 = 1
    · rw [if_pos ((cv_c2 X v).mpr h), if_pos h]
    · rw [if_neg (fun q => h ((cv_c2 X v).mp q)), if_neg h]
theorem wdA_sl (X : Cx) : ∀ (as : List AV), (lg_sl (as.map (cv X))).length = wdA as
  | [] => rfl
  | v :: vs => by
    have ih := wdA_sl X vs
    unfold lg_sl wdA at *
    rw [List.map_cons, List.flatMap_cons, List.length_append, ih, List.map_cons, List.sum_cons]
    congr 1
    by_cases h : v.1 = 1
    · rw [if_pos ((cv_c2 X v).mpr h), if_pos h]; rfl
    · rw [if_neg (fun q => h ((cv_c2 X v).mp q)), if_neg h]; rfl
theorem wdA_cat (X : Cx) : ∀ (as : List AV), ((as.map (cv X)).map fun v => v.category).sum = wdA as
  | [] => rfl
  | v :: vs => by
    have ih := wdA_cat X vs
    unfold wdA at *
    rw [List.map_cons, List.map_cons, List.sum_cons, ih, List.map_cons, List.sum_cons, cv_cv]
theorem Mt.of {X : Cx} {d n0 n' : Nat} {M : Md} {as : List AV} {r m : Mem} {Q : Int → Mem → Mem → Prop} (hy : plainFor M.1 = true) (hw : wdA as ≤ M.2.2.1) (hn : n0 ≤ n') (h : RR X d M n0 n' n0 0 (lvA 0 as) [] r m Q) : Mt X d M n0 n' as r m Q := by
  unfold Mt
  refine va_MetF (cc := M.2.1) (maxL := M.2.2.1) (ret := M.2.2.2) hy rfl ?_
  intro p e s mm args below meth c s₁ B hml hv
  obtain ⟨rfl, hW, hC⟩ := hv
  have hl := lv_entry (as.map (cv X)) (n := M.2.2.1) (by rw [wdA_sl]; exact hw)
  rw [lg_entry_eq]
  rw [lvA_cv] at hl
  have hts := atoms_spec (ws := wsM M) B.pre
  have F : Fx X M n0 p s mm (as.map (cv X)).toArray meth c := ⟨B.exec, B.bytes, B.returns, hml, findClass_of_methodNamed B.named, fun w hw => hts w (List.mem_cons_of_mem _ hw), B.notSynchronized, (name_of_methodNamed B.named B.method).1, hC, hW.1⟩
  have k := h (e := e) (below := below) F (R := (headSpec (wsM M) { frames := d, cells := n' - n0, slots := zs n' - zs n0, locals := 40 * d }).room) ⟨Nat.le_refl _, Nat.le_refl _, Nat.le_refl _, Nat.le_refl _⟩ ⟨hW, va_S.rf, hl⟩ ⟨Nat.le_refl _, hn⟩
  rw [Nat.sub_self, Nat.sub_self] at k
  exact k
def CalOk (M' : Md) (na : Nat) : Prop := Cond.code M'.1 M'.2.1 M'.2.2.1 M'.2.2.2 ∈ Tg ∧ Cond.initialized M'.1.cls ∈ Tg ∧ (M'.1.cls ≠ "java/lang/invoke/MethodHandle" ∧ M'.1.cls ≠ "java/lang/invoke/VarHandle") ∧ (parseMethodDescriptor M'.1.desc).map (fun d => d.parameters.length) = some na ∧ M'.2.2.1 ≤ 21
def Lk (own : String) (ix : Nat) (y : MethodName) : Prop := Cond.methodLink own ix y ∈ Tg ∨ ∃ host, Cond.methodLinkNest own ix y host ∈ nst
theorem wsM_good {M' : Md} (h : Cond.code M'.1 M'.2.1 M'.2.2.1 M'.2.2.2 ∈ Tg) : GoodIn Tg (wsM M') := by
  intro w hw
  have hm : w ∈ Tg := by
    rcases List.mem_cons.mp hw with rfl | h2
    · exact h
    · exact h2
  exact ⟨hm, good_of_word (Tg_good hm)⟩
theorem Pc_blind {X : Cx} {n0 : Nat} {as : List AV} {r m : Mem} : FrameBlind (Pc X n0 as r m) := fun a U g mk q =>
  ⟨q.1, q.2.1, ⟨q.2.2.1.moved (Vm.Alike.refl U.vm), ⟨fun e x he => ⟨((q.2.2.2.1.1 e x he).1).moved (U := U.calling g mk a) (Vm.Alike.refl U.vm), ((q.2.2.2.1.1 e x he).2).moved (U := U.calling g mk a) (Vm.Alike.refl U.vm)⟩, q.2.2.2.1.2.moved (U := U.calling g mk a) (Vm.Alike.refl U.vm)⟩, Nst.same (s := U) (U := U.calling g mk a) rfl q.2.2.2.2⟩⟩
section RW2
variable {X : Cx} {d n0 n' n : Nat} {M : Md} {pc : Nat} {lv : List (Nat × AV)} {st : List AV} {r m : Mem} {Q : Int → Mem → Mem → Prop}
theorem kz_call {M' : Md} {n1 : Nat} {Q' : Int → Mem → Mem → Prop} {rest : List AV} {a : Array Value} {st0 : List Value} (hn1 : n ≤ n1 ∧ n1 ≤ n') (kk : ∀ z r1 m1, Q' z r1 m1 → RR X d M n0 n' n1 (pc + 3) lv (retl M'.2.2.2 z ++ rest) r1 m1 Q)
    {p : Program} {R : Room} {e : Env} {s : State} {mm : MethodId} {args : Array Value} {below : List Frame} {meth : Method} {c : Code} {H : Heap} {locs : List Loc} {ls : Array Slot} (F : Fx X M n0 p s mm args meth c) (G : Rm d n0 n' R) (K : Hx X M n r m lv s H locs ls) (E : n0 ≤ n ∧ n ≤ n')
    (hr : va_Run p (xl X) e R s mm args below meth c H locs (n - n0) (zs n - zs n0) (n1 - n) (zs n1 - zs n) (F0 mm pc ls st0) (rest.map (cv X)) (Qc X M' n1 Q' a) (fun q => xB X < q)) :
    W p (xl X) e R s mm args below meth c H locs (n - n0) (zs n - zs n0) (MQ below (Qc X M n' Q) args s (n' - n0) (zs n' - zs n0) (fun q => xB X < q)) (F0 mm pc ls st0) := by
  intro T hT X0
  obtain ⟨v, st₀, t, T', L, h0, X', hL, e1, e2, ⟨⟨z, r1, m1, hv, hq, hw⟩, hfr⟩, st⟩ := hr T hT X0
  rw [h0] at hfr
  have hv := Outcome.returned.inj hv
  subst hv
  have hz1 := zs_mono E.1
  have hz2 := zs_mono hn1.1
  have en : n - n0 + (n1 - n) = n1 - n0 := by omega
  have ez : zs n - zs n0 + (zs n1 - zs n) = zs n1 - zs n0 := by omega
  rw [en, ez] at X'
  have hw : Wd X n1 r1 m1 T'.heap := by rw [e1]; exact hw
  have hS : va_S (fun a => xB X < a) s.heap T'.heap (locs ++ L) := by
    refine ⟨?_, fun q h1 h2 => ?_, fun q hq => ?_⟩
    · rw [hw.1]; have := F.z; omega
    · rw [e1, hfr q (by omega)]; exact K.2.1.2.1 q h1 h2
    · rcases List.mem_append.mp hq with h | h
      · exact K.2.1.2.2 q h
      · exact hL q h
  have k9 := kk z r1 m1 hq (e := e) (below := below) F G ⟨hw, hS, K.2.2⟩ ⟨by omega, hn1.2⟩ T' rfl X'
  rw [List.map_append, retl_cv] at k9
  obtain ⟨t2, a1, b1⟩ := k9
  exact ⟨t2, st t2 a1, b1⟩
theorem kz_hR {M' : Md} {d' n1 : Nat} {R : Room} {na : Nat} (co : CalOk M' na) (G : Rm d n0 n' R) (hd : d' < d) : d' + 1 ≤ R.frames ∧ 8 + (M'.2.2.1 + 11) + 40 * d' ≤ R.locals := by
  have h1 := G.1
  have h2 := G.2.1
  have h3 := co.2.2.2.2
  omega
theorem kz_hf {n1 : Nat} {R : Room} (hn1 : n ≤ n1 ∧ n1 ≤ n') (G : Rm d n0 n' R) (E : n0 ≤ n ∧ n ≤ n') : n - n0 + (n1 - n) ≤ R.cells ∧ zs n - zs n0 + (zs n1 - zs n) ≤ R.slots := by
  have h1 := G.2.2.1
  have h2 := G.2.2.2
  have hz1 := zs_mono E.1
  have hz2 := zs_mono hn1.1
  have hz3 := zs_mono hn1.2
  omega
theorem kz_room {mm : MethodId} {ls : Array Slot} {st0 : List Value} {rest : List AV} (h : wdA rest ≤ 8) : 2 * (F0 mm pc ls st0).monitorRoom + ((rest.map (cv X)).map fun v => v.category).sum ≤ 8 := by
  rw [wdA_cat]
  exact (by omega : 2 * 0 + wdA rest ≤ 8)
theorem kz_args (as rest : List AV) : (as.reverse ++ rest).map (cv X) = (as.map (cv X)).reverse ++ rest.map (cv X) := by
  rw [List.map_append, List.map_reverse]
theorem r_callV0 {M' : Md} {d' n1 ix ci : Nat} {k : Int} {c0 : vw_C} {Q' : Int → Mem → Mem → Prop} {as rest : List AV} (hO : isO n k ci) (hc : clsT[ci]? = some c0) (hcls : M'.1.cls = c0.1) (co : CalOk M' as.length) (hi : Cond.instanceMethod M'.1 ∈ Tg) (hs : Cond.selects M'.1.cls M'.1 M'.1 ∈ Tg) (hl : Lk M.1.cls ix M'.1) (hd : d' < d) (hn1 : n ≤ n1 ∧ n1 ≤ n') (hst : st = as.reverse ++ vr k :: rest) (hrest : wdA rest ≤ 8) (hdg : decode M.2.1 pc = .ok (.invokevirtual ix, 3))
    (hM : Mt X d' M' n n1 (vr k :: as) r m Q') (kk : ∀ z r1 m1, Q' z r1 m1 → RR X d M n0 n' n1 (pc + 3) lv (retl M'.2.2.2 z ++ rest) r1 m1 Q) : RR X d M n0 n' n pc lv st r m Q := by
  intro p R e s mm args below meth c H locs ls F G K E
  have hstack : (F0 mm pc ls (st.map (cv X))).stack = (as.map (cv X)).reverse ++ .ref (adr X k) :: rest.map (cv X) := by
    subst hst
    exact kz_args as (vr k :: rest)
  have h0 := K.1.2 k.toNat _ (by have := hO.1; omega) hO.2.2.1 hO.2.2.2
  simp only [cellAt] at h0
  rw [← show adr X k = xB X + k.toNat from if_pos hO.2.1] at h0
  obtain ⟨c', hc', cell, g1, g2, g3, g4⟩ := h0
  cases hc.symm.trans hc'
  obtain ⟨hS, hfc, kC, hkC, hkind⟩ := F.cx.1.1 ci c0 hc
  have hp : PreV s H M'.1.cls (adr X k) (Pc X n (vr k :: as) r m) (as.map (cv X)) :=
    ⟨Pc_blind, ⟨cell, g1, by rw [g3]; rfl, by rw [g2, hcls]; exact hfc⟩, fun U hU hW => ⟨rfl, by rw [hU]; exact K.1, F.cx.moved K.2.1 hU hW⟩⟩
  have hd1 := kz_hR (n1 := n1) co G hd
  refine kz_call (a := (Value.ref (adr X k) :: as.map (cv X)).toArray) hn1 kk F G K E ?_
  rcases hl with hl | ⟨host, hl⟩
  · exact va_runV (cc := M.2.1) (nL := M.2.2.1) (Ts := Tg) (own := M.1.cls) ⟨F.x, F.b, F.l, F.o, F.t⟩ hM ⟨callB_of as.length F.t (wsM_good co.1) rfl rfl rfl (F.t _ co.2.1) (F.t _ hl) ⟨co.2.2.1.1, co.2.2.1.2, co.2.2.2.1⟩ hd1, F.t _ hi, F.t _ hs⟩ hp rfl (List.length_map ..) K.2.2.1 hstack (kz_room hrest) hdg (kz_hf hn1 G E)
  · exact va_runVN (cc := M.2.1) (nL := M.2.2.1) (Ts := Tg) (own := M.1.cls) ⟨F.x, F.b, F.l, F.o, F.t⟩ hM ⟨va_cnB as.length F.t (wsM_good co.1) rfl rfl rfl (F.cx.2.2.1 _ hl) (F.t _ co.2.1) ⟨co.2.2.1.1, co.2.2.1.2, co.2.2.2.1⟩ hd1, F.t _ hi, F.t _ hs⟩ hp rfl (List.length_map ..) K.2.2.1 hstack (kz_room hrest) hdg (kz_hf hn1 G E)
theorem r_callS0 {M' : Md} {d' n1 ix : Nat} {Q' : Int → Mem → Mem → Prop} {as rest : List AV} (co : CalOk M' as.length) (hi : Cond.static M'.1 ∈ Tg) (hl : Lk M.1.cls ix M'.1) (hd : d' < d) (hn1 : n ≤ n1 ∧ n1 ≤ n') (hst : st = as.reverse ++ rest) (hrest : wdA rest ≤ 8) (hdg : decode M.2.1 pc = .ok (.invokestatic ix, 3))
    (hM : Mt X d' M' n n1 as r m Q') (kk : ∀ z r1 m1, Q' z r1 m1 → RR X d M n0 n' n1 (pc + 3) lv (retl M'.2.2.2 z ++ rest) r1 m1 Q) : RR X d M n0 n' n pc lv st r m Q := by
  intro p R e s mm args below meth c H locs ls F G K E
  have hstack : (F0 mm pc ls (st.map (cv X))).stack = (as.map (cv X)).reverse ++ rest.map (cv X) := by
    subst hst
    exact kz_args as rest
  have hp : PreS s H (Pc X n as r m) (as.map (cv X)) :=
    ⟨Pc_blind, fun U hU hW => ⟨rfl, by rw [hU]; exact K.1, F.cx.moved K.2.1 hU hW⟩⟩
  have hd1 := kz_hR (n1 := n1) co G hd
  refine kz_call (a := (as.map (cv X)).toArray) hn1 kk F G K E ?_
  rcases hl with hl | ⟨host, hl⟩
  · exact va_runS (cc := M.2.1) (nL := M.2.2.1) (Ts := Tg) (own := M.1.cls) ⟨F.x, F.b, F.l, F.o, F.t⟩ hM ⟨callB_of as.length F.t (wsM_good co.1) rfl rfl rfl (F.t _ co.2.1) (F.t _ hl) ⟨co.2.2.1.1, co.2.2.1.2, co.2.2.2.1⟩ hd1, F.t _ hi⟩ hp rfl (List.length_map ..) K.2.2.1 hstack (kz_room hrest) hdg (kz_hf hn1 G E)
  · exact va_runSN (cc := M.2.1) (nL := M.2.2.1) (Ts := Tg) (own := M.1.cls) ⟨F.x, F.b, F.l, F.o, F.t⟩ hM ⟨va_cnB as.length F.t (wsM_good co.1) rfl rfl rfl (F.cx.2.2.1 _ hl) (F.t _ co.2.1) ⟨co.2.2.1.1, co.2.2.1.2, co.2.2.2.1⟩ hd1, F.t _ hi, trivial⟩ hp rfl (List.length_map ..) K.2.2.1 hstack (kz_room hrest) hdg (kz_hf hn1 G E)
theorem r_callI {M' : Md} {d' n1 ix : Nat} {k : Int} {Q' : Int → Mem → Mem → Prop} {as rest : List AV} (hy1 : M'.1.name = "<init>") (hr : M'.2.2.2 = none) (co : CalOk M' as.length) (hi : Cond.instanceMethod M'.1 ∈ Tg) (hl : Lk M.1.cls ix M'.1) (hd : d' < d) (hn1 : n ≤ n1 ∧ n1 ≤ n') (hst : st = as.reverse ++ vr k :: rest) (hrest : wdA rest ≤ 8) (hdg : decode M.2.1 pc = .ok (.invokespecial ix, 3))
    (hM : Mt X d' M' n n1 (vr k :: as) r m Q') (kk : ∀ z r1 m1, Q' z r1 m1 → RR X d M n0 n' n1 (pc + 3) lv rest r1 m1 Q) : RR X d M n0 n' n pc lv st r m Q := by
  intro p R e s mm args below meth c H locs ls F G K E
  have hstack : (F0 mm pc ls (st.map (cv X))).stack = (as.map (cv X)).reverse ++ .ref (adr X k) :: rest.map (cv X) := by
    subst hst
    exact kz_args as (vr k :: rest)
  have hp : PreS s H (Pc X n (vr k :: as) r m) (.ref (adr X k) :: as.map (cv X)) :=
    ⟨Pc_blind, fun U hU hW => ⟨rfl, by rw [hU]; exact K.1, F.cx.moved K.2.1 hU hW⟩⟩
  have hd1 := kz_hR (n1 := n1) co G hd
  have kk : ∀ z r1 m1, Q' z r1 m1 → RR X d M n0 n' n1 (pc + 3) lv (retl M'.2.2.2 z ++ rest) r1 m1 Q := fun z r1 m1 h => by
    rw [hr]
    exact kk z r1 m1 h
  obtain ⟨y, cb, ml, rt⟩ := M'
  cases hr
  refine kz_call (a := (Value.ref (adr X k) :: as.map (cv X)).toArray) hn1 kk F G K E ?_
  rcases hl with hl | ⟨host, hl⟩
  · exact va_runI (cc := M.2.1) (nL := M.2.2.1) (Ts := Tg) (own := M.1.cls) ⟨F.x, F.b, F.l, F.o, F.t⟩ hM ⟨callB_of as.length F.t (wsM_good co.1) rfl rfl rfl (F.t _ co.2.1) (F.t _ hl) ⟨co.2.2.1.1, co.2.2.1.2, co.2.2.2.1⟩ hd1, hy1, F.t _ hi⟩ hp rfl (List.length_map ..) K.2.2.1 hstack (kz_room hrest) hdg (kz_hf hn1 G E)
  · exact va_runIN (cc := M.2.1) (nL := M.2.2.1) (Ts := Tg) (own := M.1.cls) ⟨F.x, F.b, F.l, F.o, F.t⟩ hM ⟨va_cnB as.length F.t (wsM_good co.1) rfl rfl rfl (F.cx.2.2.1 _ hl) (F.t _ co.2.1) ⟨co.2.2.1.1, co.2.2.1.2, co.2.2.2.1⟩ hd1, hy1, F.t _ hi⟩ hp rfl (List.length_map ..) K.2.2.1 hstack (kz_room hrest) hdg (kz_hf hn1 G E)
theorem r_callVi {M' : Md} {d' n1 ix : Nat} (ci : Nat) {k : Int} {c0 : vw_C} {Q' : Int → Mem → Mem → Prop} (as : List AV) {rest : List AV} (hr : M'.2.2.2 = some .int) (hO : isO n k ci) (hc : clsT[ci]? = some c0) (hcls : M'.1.cls = c0.1) (co : CalOk M' as.length) (hi : Cond.instanceMethod M'.1 ∈ Tg) (hs : Cond.selects M'.1.cls M'.1 M'.1 ∈ Tg) (hl : Lk M.1.cls ix M'.1) (hd : d' < d) (hn1 : n ≤ n1 ∧ n1 ≤ n') (hst : st = as.reverse ++ vr k :: rest) (hrest : wdA rest ≤ 8) (hdg : decode M.2.1 pc = .ok (.invokevirtual ix, 3))
    (hM : Mt X d' M' n n1 (vr k :: as) r m Q') (kk : ∀ z r1 m1, Q' z r1 m1 → RR X d M n0 n' n1 (pc + 3) lv (vi z :: rest) r1 m1 Q) : RR X d M n0 n' n pc lv st r m Q :=
  r_callV0 hO hc hcls co hi hs hl hd hn1 hst hrest hdg hM (fun z r1 m1 h => by rw [hr]; exact kk z r1 m1 h)
theorem r_callSi {M' : Md} {d' n1 ix : Nat} {Q' : Int → Mem → Mem → Prop} (as : List AV) {rest : List AV} (hr : M'.2.2.2 = some .int) (co : CalOk M' as.length) (hi : Cond.static M'.1 ∈ Tg) (hl : Lk M.1.cls ix M'.1) (hd : d' < d) (hn1 : n ≤ n1 ∧ n1 ≤ n') (hst : st = as.reverse ++ rest) (hrest : wdA rest ≤ 8) (hdg : decode M.2.1 pc = .ok (.invokestatic ix, 3))
    (hM : Mt X d' M' n n1 as r m Q') (kk : ∀ z r1 m1, Q' z r1 m1 → RR X d M n0 n' n1 (pc + 3) lv (vi z :: rest) r1 m1 Q) : RR X d M n0 n' n pc lv st r m Q :=
  r_callS0 co hi hl hd hn1 hst hrest hdg hM (fun z r1 m1 h => by rw [hr]; exact kk z r1 m1 h)
theorem r_callVb {M' : Md} {d' n1 ix : Nat} (ci : Nat) {k : Int} {c0 : vw_C} {Q' : Int → Mem → Mem → Prop} (as : List AV) {rest : List AV} (hr : M'.2.2.2 = some .boolean) (hO : isO n k ci) (hc : clsT[ci]? = some c0) (hcls : M'.1.cls = c0.1) (co : CalOk M' as.length) (hi : Cond.instanceMethod M'.1 ∈ Tg) (hs : Cond.selects M'.1.cls M'.1 M'.1 ∈ Tg) (hl : Lk M.1.cls ix M'.1) (hd : d' < d) (hn1 : n ≤ n1 ∧ n1 ≤ n') (hst : st = as.reverse ++ vr k :: rest) (hrest : wdA rest ≤ 8) (hdg : decode M.2.1 pc = .ok (.invokevirtual ix, 3))
    (hM : Mt X d' M' n n1 (vr k :: as) r m Q') (kk : ∀ z r1 m1, Q' z r1 m1 → RR X d M n0 n' n1 (pc + 3) lv (vi z :: rest) r1 m1 Q) : RR X d M n0 n' n pc lv st r m Q :=
  r_callV0 hO hc hcls co hi hs hl hd hn1 hst hrest hdg hM (fun z r1 m1 h => by rw [hr]; exact kk z r1 m1 h)
theorem r_callSb {M' : Md} {d' n1 ix : Nat} {Q' : Int → Mem → Mem → Prop} (as : List AV) {rest : List AV} (hr : M'.2.2.2 = some .boolean) (co : CalOk M' as.length) (hi : Cond.static M'.1 ∈ Tg) (hl : Lk M.1.cls ix M'.1) (hd : d' < d) (hn1 : n ≤ n1 ∧ n1 ≤ n') (hst : st = as.reverse ++ rest) (hrest : wdA rest ≤ 8) (hdg : decode M.2.1 pc = .ok (.invokestatic ix, 3))
    (hM : Mt X d' M' n n1 as r m Q') (kk : ∀ z r1 m1, Q' z r1 m1 → RR X d M n0 n' n1 (pc + 3) lv (vi z :: rest) r1 m1 Q) : RR X d M n0 n' n pc lv st r m Q :=
  r_callS0 co hi hl hd hn1 hst hrest hdg hM (fun z r1 m1 h => by rw [hr]; exact kk z r1 m1 h)
theorem r_callVl {M' : Md} {d' n1 ix : Nat} (ci : Nat) {k : Int} {c0 : vw_C} {Q' : Int → Mem → Mem → Prop} (as : List AV) {rest : List AV} (hr : M'.2.2.2 = some .long) (hO : isO n k ci) (hc : clsT[ci]? = some c0) (hcls : M'.1.cls = c0.1) (co : CalOk M' as.length) (hi : Cond.instanceMethod M'.1 ∈ Tg) (hs : Cond.selects M'.1.cls M'.1 M'.1 ∈ Tg) (hl : Lk M.1.cls ix M'.1) (hd : d' < d) (hn1 : n ≤ n1 ∧ n1 ≤ n') (hst : st = as.reverse ++ vr k :: rest) (hrest : wdA rest ≤ 8) (hdg : decode M.2.1 pc = .ok (.invokevirtual ix, 3))
    (hM : Mt X d' M' n n1 (vr k :: as) r m Q') (kk : ∀ z r1 m1, Q' z r1 m1 → RR X d M n0 n' n1 (pc + 3) lv (vl z :: rest) r1 m1 Q) : RR X d M n0 n' n pc lv st r m Q :=
  r_callV0 hO hc hcls co hi hs hl hd hn1 hst hrest hdg hM (fun z r1 m1 h => by rw [hr]; exact kk z r1 m1 h)
theorem r_callSl {M' : Md} {d' n1 ix : Nat} {Q' : Int → Mem → Mem → Prop} (as : List AV) {rest : List AV} (hr : M'.2.2.2 = some .long) (co : CalOk M' as.length) (hi : Cond.static M'.1 ∈ Tg) (hl : Lk M.1.cls ix M'.1) (hd : d' < d) (hn1 : n ≤ n1 ∧ n1 ≤ n') (hst : st = as.reverse ++ rest) (hrest : wdA rest ≤ 8) (hdg : decode M.2.1 pc = .ok (.invokestatic ix, 3))
    (hM : Mt X d' M' n n1 as r m Q') (kk : ∀ z r1 m1, Q' z r1 m1 → RR X d M n0 n' n1 (pc + 3) lv (vl z :: rest) r1 m1 Q) : RR X d M n0 n' n pc lv st r m Q :=
  r_callS0 co hi hl hd hn1 hst hrest hdg hM (fun z r1 m1 h => by rw [hr]; exact kk z r1 m1 h)
theorem r_callVv {M' : Md} {d' n1 ix : Nat} (ci : Nat) {k : Int} {c0 : vw_C} {Q' : Int → Mem → Mem → Prop} (as : List AV) {rest : List AV} (hr : M'.2.2.2 = none) (hO : isO n k ci) (hc : clsT[ci]? = some c0) (hcls : M'.1.cls = c0.1) (co : CalOk M' as.length) (hi : Cond.instanceMethod M'.1 ∈ Tg) (hs : Cond.selects M'.1.cls M'.1 M'.1 ∈ Tg) (hl : Lk M.1.cls ix M'.1) (hd : d' < d) (hn1 : n ≤ n1 ∧ n1 ≤ n') (hst : st = as.reverse ++ vr k :: rest) (hrest : wdA rest ≤ 8) (hdg : decode M.2.1 pc = .ok (.invokevirtual ix, 3))
    (hM : Mt X d' M' n n1 (vr k :: as) r m Q') (kk : ∀ z r1 m1, Q' z r1 m1 → RR X d M n0 n' n1 (pc + 3) lv (rest) r1 m1 Q) : RR X d M n0 n' n pc lv st r m Q :=
  r_callV0 hO hc hcls co hi hs hl hd hn1 hst hrest hdg hM (fun z r1 m1 h => by rw [hr]; exact kk z r1 m1 h)
theorem r_callSv {M' : Md} {d' n1 ix : Nat} {Q' : Int → Mem → Mem → Prop} (as : List AV) {rest : List AV} (hr : M'.2.2.2 = none) (co : CalOk M' as.length) (hi : Cond.static M'.1 ∈ Tg) (hl : Lk M.1.cls ix M'.1) (hd : d' < d) (hn1 : n ≤ n1 ∧ n1 ≤ n') (hst : st = as.reverse ++ rest) (hrest : wdA rest ≤ 8) (hdg : decode M.2.1 pc = .ok (.invokestatic ix, 3))
    (hM : Mt X d' M' n n1 as r m Q') (kk : ∀ z r1 m1, Q' z r1 m1 → RR X d M n0 n' n1 (pc + 3) lv (rest) r1 m1 Q) : RR X d M n0 n' n pc lv st r m Q :=
  r_callS0 co hi hl hd hn1 hst hrest hdg hM (fun z r1 m1 h => by rw [hr]; exact kk z r1 m1 h)
-- Math
theorem kz_R {R : Room} (G : Rm d n0 n' R) (E : n0 ≤ n ∧ n ≤ n') : n - n0 ≤ R.cells ∧ zs n - zs n0 ≤ R.slots := by
  have h1 := G.2.2.1
  have h2 := G.2.2.2
  have hz1 := zs_mono E.1
  have hz2 := zs_mono E.2
  omega
theorem r_max {a b : Int} {ix : Nat} (hl : Cond.methodLink M.1.cls ix Lib.Math.max.name ∈ Tg) (hs : Cond.static Lib.Math.max.name ∈ Tg) (hi : Cond.initialized "java/lang/Math" ∈ Tg) (hc : Cond.code Lib.Math.max.name Lib.Math.max.code 2 (some .int) ∈ Tg) (hd : 1 ≤ d) (hrest : wdA st ≤ 8) (hdg : decode M.2.1 pc = .ok (.invokestatic ix, 3)) (kk : RR X d M n0 n' n (pc + 3) lv (vi (max (w32 a) (w32 b)) :: st) r m Q) : RR X d M n0 n' n pc lv (vi b :: vi a :: st) r m Q := by
  intro p R e s mm args below meth c H locs ls F G K E
  have kk := kk (e := e) (below := below) F G K E
  have hR := kz_R G E
  refine va_mmax F.x F.b (F.l.trans K.2.2.1.symm) F.o (F.t _ hl) (F.t _ hs) (F.t _ hi) (F.t _ hc) (by have := G.1; omega) (by rw [wdA_cat]; have := G.2.1; omega) hR.1 hR.2 hdg ?_
  rw [show (if Int32.ofInt a < Int32.ofInt b then Int32.ofInt b else Int32.ofInt a) = Int32.ofInt (max (w32 a) (w32 b)) from ?_]
  · exact kk
  · apply Int32.toInt_inj.mp
    rw [i32_w]
    have e1 : w32 (max (w32 a) (w32 b)) = max (w32 a) (w32 b) := by
      simp only [w32, Int.bmod]
      (repeat' split) <;> omega
    rw [e1]
    by_cases h : w32 a < w32 b
    · rw [if_pos (kz_lt.mpr h), i32_w]; omega
    · rw [if_neg (fun q => h (kz_lt.mp q)), i32_w]; omega
theorem r_min {a b : Int} {ix : Nat} (hl : Cond.methodLink M.1.cls ix Lib.Math.min.name ∈ Tg) (hs : Cond.static Lib.Math.min.name ∈ Tg) (hi : Cond.initialized "java/lang/Math" ∈ Tg) (hc : Cond.code Lib.Math.min.name Lib.Math.min.code 2 (some .int) ∈ Tg) (hd : 1 ≤ d) (hrest : wdA st ≤ 8) (hdg : decode M.2.1 pc = .ok (.invokestatic ix, 3)) (kk : RR X d M n0 n' n (pc + 3) lv (vi (min (w32 a) (w32 b)) :: st) r m Q) : RR X d M n0 n' n pc lv (vi b :: vi a :: st) r m Q := by
  intro p R e s mm args below meth c H locs ls F G K E
  have kk := kk (e := e) (below := below) F G K E
  have hR := kz_R G E
  refine va_mmin F.x F.b (F.l.trans K.2.2.1.symm) F.o (F.t _ hl) (F.t _ hs) (F.t _ hi) (F.t _ hc) (by have := G.1; omega) (by rw [wdA_cat]; have := G.2.1; omega) hR.1 hR.2 hdg ?_
  rw [show (if Int32.ofInt b < Int32.ofInt a then Int32.ofInt b else Int32.ofInt a) = Int32.ofInt (min (w32 a) (w32 b)) from ?_]
  · exact kk
  · apply Int32.toInt_inj.mp
    rw [i32_w]
    have e1 : w32 (min (w32 a) (w32 b)) = min (w32 a) (w32 b) := by
      simp only [w32, Int.bmod]
      (repeat' split) <;> omega
    rw [e1]
    by_cases h : w32 b < w32 a
    · rw [if_pos (kz_lt.mpr h), i32_w]; omega
    · rw [if_neg (fun q => h (kz_lt.mp q)), i32_w]; omega
theorem r_maxl {a b : Int} {ix : Nat} (hl : Cond.methodLink M.1.cls ix Lib.MathLoose.max_long.x ∈ Tg) (hs : Cond.static Lib.MathLoose.max_long.x ∈ Tg) (hi : Cond.initialized "java/lang/Math" ∈ Tg) (hc : Cond.code Lib.MathLoose.max_long.x Lib.MathLoose.max_long.code 4 (some .long) ∈ Tg) (hd : 1 ≤ d) (hrest : wdA st ≤ 8) (hdg : decode M.2.1 pc = .ok (.invokestatic ix, 3)) (kk : RR X d M n0 n' n (pc + 3) lv (vl (max (w64 a) (w64 b)) :: st) r m Q) : RR X d M n0 n' n pc lv (vl b :: vl a :: st) r m Q := by
  intro p R e s mm args below meth c H locs ls F G K E
  have kk := kk (e := e) (below := below) F G K E
  have hR := kz_R G E
  refine va_mmax_long F.x F.b (F.l.trans K.2.2.1.symm) F.o (F.t _ hl) (F.t _ hs) (F.t _ hi) (F.t _ hc) (by have := G.1; omega) (by rw [wdA_cat]; have := G.2.1; omega) hR.1 hR.2 hdg ?_
  rw [show (if Int64.ofInt b < Int64.ofInt a then Int64.ofInt a else Int64.ofInt b) = Int64.ofInt (max (w64 a) (w64 b)) from ?_]
  · exact kk
  · apply Int64.toInt_inj.mp
    rw [i64_w]
    have e1 : w64 (max (w64 a) (w64 b)) = max (w64 a) (w64 b) := by
      simp only [w64, Int.bmod]
      (repeat' split) <;> omega
    rw [e1]
    by_cases h : w64 b < w64 a
    · rw [if_pos (kz_ltl.mpr h), i64_w]; omega
    · rw [if_neg (fun q => h (kz_ltl.mp q)), i64_w]; omega
-- switches
theorem r_lookup {z : Int} {dflt : Int} {ps : Array (Int × Int)} {len : Nat} {off : Int} {tgt : Nat} (hdg : decode M.2.1 pc = .ok (.lookupswitch dflt ps, len)) (hp : (ps.toList.zip (ps.toList.drop 1)).all (fun (a, next) => a.1 < next.1) = true) (ho : Op.lookupswitch.offset ps.toList dflt (w32 z) = off) (ht : (pc : Int) + off = (tgt : Int)) (kk : RR X d M n0 n' n tgt lv st r m Q) : RR X d M n0 n' n pc lv (vi z :: st) r m Q := by
  intro p R e s mm args below meth c H locs ls F G K E
  exact lv_lookup F.x F.b hdg hp (by show Op.lookupswitch.offset ps.toList dflt (Int32.ofInt z).toInt = off; rw [i32_w]; exact ho) ht (kk F G K E)
theorem r_tabOut {z : Int} {dflt lo hi : Int} {offs : Array Int} {len : Nat} {tgt : Nat} (hdg : decode M.2.1 pc = .ok (.tableswitch dflt lo hi offs, len)) (h : w32 z < lo ∨ hi < w32 z) (ht : (pc : Int) + dflt = (tgt : Int)) (kk : RR X d M n0 n' n tgt lv st r m Q) : RR X d M n0 n' n pc lv (vi z :: st) r m Q := by
  intro p R e s mm args below meth c H locs ls F G K E
  exact lv_tableOut F.x F.b hdg (by show (Int32.ofInt z).toInt < lo ∨ hi < (Int32.ofInt z).toInt; rw [i32_w]; exact h) ht (kk F G K E)
theorem r_tabIn {z : Int} {dflt lo hi : Int} {offs : Array Int} {len : Nat} {off : Int} {tgt : Nat} (y : Int) (hy : w32 z = y) (hdg : decode M.2.1 pc = .ok (.tableswitch dflt lo hi offs, len)) (h1 : ¬ y < lo) (h2 : ¬ hi < y) (ho : offs[(y - lo).toNat]? = some off) (ht : (pc : Int) + off = (tgt : Int)) (kk : RR X d M n0 n' n tgt lv st r m Q) : RR X d M n0 n' n pc lv (vi z :: st) r m Q := by
  intro p R e s mm args below meth c H locs ls F G K E
  have e1 : (Int32.ofInt z).toInt = y := by rw [i32_w]; exact hy
  exact lv_tableIn F.x F.b hdg (by show ¬ (Int32.ofInt z).toInt < lo; rw [e1]; exact h1) (by show ¬ hi < (Int32.ofInt z).toInt; rw [e1]; exact h2) (by show offs[((Int32.ofInt z).toInt - lo).toNat]? = some off; rw [e1]; exact ho) ht (kk F G K E)
-- making
theorem zs_s {q : Kd} (h : tbl[n + 1]? = some q) : zs (n + 1) = zs n + kz_sz q := by
  unfold zs
  rw [List.take_add_one, h]
  simp
theorem r_objInit {k : Int} {ix : Nat} (hl : Cond.methodLink M.1.cls ix Lib.objectInit ∈ Tg) (hi : Cond.instanceMethod Lib.objectInit ∈ Tg) (hc : Cond.code Lib.objectInit ⟨#[0xb1]⟩ 1 none ∈ Tg) (hd : 1 ≤ d) (hrest : wdA st ≤ 8) (hdg : decode M.2.1 pc = .ok (.invokespecial ix, 3)) (kk : RR X d M n0 n' n (pc + 3) lv st r m Q) : RR X d M n0 n' n pc lv (vr k :: st) r m Q := by
  intro p R e s mm args below meth c H locs ls F G K E
  refine W.objInit F.x F.b F.o (F.t _ hl) (F.t _ hi) (F.t _ hc) rfl (K.2.2.1.trans F.l.symm) rfl hdg (by have := G.1; omega) ?_ (kk F G K E)
  rw [wdA_cat]
  have := G.2.1
  show 2 * 0 + wdA st + 12 ≤ R.locals
  omega
theorem Wd.grow {H H1 : Heap} {q : Kd} (h : Wd X n r m H) (hq : tbl[n + 1]? = some q) (z : H1.size = H.size + 1) (o : ∀ a, a < H.size → H1[a]? = H[a]?) (hc : cellAt X q (n + 1) r m H1) : Wd X (n + 1) r m H1 := by
  refine ⟨by rw [z, h.1]; omega, fun k q2 h1 h2 h3 => ?_⟩
  by_cases hk : k = n + 1
  · subst hk
    rw [hq] at h3
    cases h3
    exact hc
  · exact (h.2 k q2 h1 (by omega) h3).eq (fun b => ⟨rfl, rfl⟩) (o _ (by rw [h.1]; omega))
theorem va_S.grow {A : Nat → Prop} {H0 H H1 : Heap} {locs : List Loc} (h : va_S A H0 H locs) (z : H1.size = H.size + 1) (o : ∀ a, a < H.size → H1[a]? = H[a]?) : va_S A H0 H1 locs :=
  ⟨by have := h.1; omega, fun q h1 h2 => (o q (Nat.lt_of_lt_of_le h1 h.1)).trans (h.2.1 q h1 h2), h.2.2⟩
theorem fldv_0 (ty : FieldType) (hty : ty = .int ∨ ty = .long ∨ ty = .byte ∨ ty = .short ∨ ty = .boolean ∨ isRf ty = true) : defaultValue ty = fldv X ty 0 0 := by
  rcases hty with rfl | rfl | rfl | rfl | rfl | h <;> first | rfl | (cases ty <;> first | rfl | (exact absurd h (by decide)))
def okTy (ty : FieldType) : Bool := match ty with
  | .int => true
  | .long => true
  | .byte => true
  | .short => true
  | .boolean => true
  | t => isRf t
theorem fldv_ok (ty : FieldType) (h : okTy ty = true) : defaultValue ty = fldv X ty 0 0 := by
  cases ty <;> first | rfl | (exact absurd h (by decide))
theorem tyC_ok : ∀ (ci : Nat) (c : vw_C), clsT[ci]? = some c → ∀ j, j < c.2.2 → okTy (tyC ci j) = true := by
  intro ci c h
  match ci, h with
  | 0, h => cases h; decide
  | 1, h => cases h; decide
  | 2, h => cases h; decide
  | 3, h => cases h; decide
  | 4, h => cases h; decide
  | 5, h => cases h; decide
  | 6, h => cases h; decide
  | 7, h => cases h; decide
  | 8, h => cases h; decide
  | 9, h => cases h; decide
  | 10, h => cases h; decide
  | 11, h => cases h; decide
  | 12, h => cases h; decide +kernel
  | n + 13, h => simp [clsT] at h
theorem r_new {ci ix : Nat} {c0 : vw_C} {k : Int} (hkn : k = ((n + 1 : Nat) : Int)) (hk1 : k < 1000) (hq : tbl[n + 1]? = some (.inr ci)) (hc : clsT[ci]? = some c0) (hz : ∀ j, r k j = 0 ∧ m k j = 0) (hcl : Cond.classLink M.1.cls ix c0.1 ∈ Tg) (hin : Cond.instantiable c0.1 c0.2.2 ∈ Tg) (hini : Cond.initialized c0.1 ∈ Tg) (hn1 : n + 1 ≤ n') (hdg : decode M.2.1 pc = .ok (.new ix, 3)) (kk : RR X d M n0 n' (n + 1) (pc + 3) lv (vr k :: st) r m Q) : RR X d M n0 n' n pc lv st r m Q := by
  intro p R e s mm args below meth c H locs ls F G K E
  have kk := @kk p R e s mm args below meth c
  have hKn := F.cx.1.1 ci c0 hc
  obtain ⟨w1, w2, w3⟩ := clsW ci c0 hc
  have hzs := zs_s hq
  have hsz : kz_sz (.inr ci) = c0.2.2 := by
    show (match clsT[ci]? with
      | some c => c.2.2
      | none => 0) = _
    rw [hc]
  rw [hsz] at hzs
  have hR1 := G.2.2.1
  have hR2 := G.2.2.2
  have hm1 := zs_mono E.1
  have hm2 := zs_mono hn1
  subst hkn
  refine W.newcK F.x F.b F.o (F.t _ hcl) (F.t _ hin) (F.t _ hini) rfl hdg (by omega) (by omega) hKn.2.1 rfl fun H1 kC hkC e1 z1 o1 => ?_
  have hs := K.1.1
  have hcell : cellAt X (.inr ci) (n + 1) r m H1 := by
    refine ⟨c0, hc, ?_⟩
    have hb := u_born (tyC ci) F.t w1 hKn hkC e1 w3
    rw [show xB X + (n + 1) = H.size by omega]
    refine hb.to fun j hj => ?_
    rw [(hz j).1, (hz j).2]
    exact fldv_ok _ (tyC_ok ci c0 hc j hj)
  have k9 := kk (H := H1) (locs := locs) (ls := ls) F G ⟨K.1.grow hq z1 o1 hcell, K.2.1.grow z1 o1, K.2.2⟩ ⟨by omega, hn1⟩
  have ea : adr X ((n + 1 : Nat) : Int) = H.size := by
    rw [show adr X ((n + 1 : Nat) : Int) = xB X + ((n + 1 : Nat) : Int).toNat from if_pos hk1]
    omega
  rw [show n + 1 - n0 = n - n0 + 1 by omega, show zs (n + 1) - zs n0 = zs n - zs n0 + c0.2.2 by omega] at k9
  rw [← ea]
  exact k9
theorem r_newa {aty : ArrayType} {z : Int} {len : Nat} {k : Int} (hkn : k = ((n + 1 : Nat) : Int)) (hk1 : k < 1000) (hq : tbl[n + 1]? = some (.inl (newarray.typeOf aty, len))) (hty : newarray.typeOf aty ∈ atys) (hok : okTy (newarray.typeOf aty) = true) (hzl : w32 z = (len : Int)) (hlen : len ≤ 10000) (hz : ∀ j, r k j = 0 ∧ m k j = 0) (hcl : Cond.arrayClass (newarray.typeOf aty) ∈ Tg) (hn1 : n + 1 ≤ n') (hdg : decode M.2.1 pc = .ok (.newarray aty, 2)) (kk : RR X d M n0 n' (n + 1) (pc + 2) lv (vr k :: st) r m Q) : RR X d M n0 n' n pc lv (vi z :: st) r m Q := by
  intro p R e s mm args below meth c H locs ls F G K E
  have kk := @kk p R e s mm args below meth c
  have hzs := zs_s hq
  have hsz : kz_sz (.inl (newarray.typeOf aty, len)) = len := rfl
  rw [hsz] at hzs
  have hR1 := G.2.2.1
  have hR2 := G.2.2.2
  have hm1 := zs_mono E.1
  have hm2 := zs_mono hn1
  subst hkn
  have hcb : componentBytes (newarray.typeOf aty) ≤ 8 := by cases aty <;> decide
  refine va_newaK F.x F.b (F.t _ hcl) rfl hdg (rest := st.map (cv X)) rfl (n := Int32.ofInt z) (N := len) (by rw [kz_lt0, hzl]; omega) (by rw [kz_ix, hzl]; rfl) (Nat.le_trans (Nat.mul_le_mul hlen hcb) (by decide)) (by omega) (by omega) (h := H.size) rfl fun H1 cA e1 z1 o1 _ hf => ?_
  have hs := K.1.1
  have hA := (F.cx.1.2 _ hty).2
  cases hf.symm.trans hA
  have hcell : cellAt X (.inl (newarray.typeOf aty, len)) (n + 1) r m H1 := by
    show H1[xB X + (n + 1)]? = _
    rw [show xB X + (n + 1) = H.size by omega, e1]
    congr 2
    funext j
    rw [(hz j).1, (hz j).2]
    exact fldv_ok _ hok
  have k9 := kk (H := H1) (locs := locs) (ls := ls) F G ⟨K.1.grow hq z1 o1 hcell, K.2.1.grow z1 o1, K.2.2⟩ ⟨by omega, hn1⟩
  have ea : adr X ((n + 1 : Nat) : Int) = H.size := by
    rw [show adr X ((n + 1 : Nat) : Int) = xB X + ((n + 1 : Nat) : Int).toNat from if_pos hk1]
    omega
  rw [show n + 1 - n0 = n - n0 + 1 by omega, show zs (n + 1) - zs n0 = zs n - zs n0 + len by omega] at k9
  rw [← ea]
  exact k9
end RW2
end
section
/-! arraycopy; arrays of arrays -/
theorem Wd.setW {X : Cx} {n : Nat} {r m r' m' : Mem} {H H' : Heap} {k : Int} {ty : FieldType} {len : Nat} (h : Wd X n r m H) (hk : isA n k ty len) (he : ∀ a b, a ≠ k → r' a b = r a b ∧ m' a b = m a b)
    (e : H'[adr X k]? = some (arrV (xA X ty) len (fun j : Nat => fldv X ty (r' k (j : Int)) (m' k (j : Int))))) (z : H'.size = H.size) (o : ∀ q, q ≠ adr X k → H'[q]? = H[q]?) : Wd X n r' m' H' := by
  have ek : ((k.toNat : Nat) : Int) = k := Int.toNat_of_nonneg (by have := hk.1; omega)
  have ha : adr X k = xB X + k.toNat := if_pos hk.2.1
  refine ⟨by rw [z]; exact h.1, fun k2 q h1 h2 hq => ?_⟩
  by_cases hkk : k2 = k.toNat
  · subst hkk
    rw [hk.2.2.2] at hq
    cases hq
    simp only [cellAt, ek]
    rw [← ha, e]
  · refine (h.2 k2 q h1 h2 hq).eq (fun b => he _ _ (fun q => hkk (by omega))) (o _ (fun q => hkk (by omega)))
def cpm (m : Mem) (ks sp kd dp n : Int) : Mem := fun a b => if a = kd ∧ dp ≤ b ∧ b < dp + n then m ks (sp + (b - dp)) else m a b
theorem va_S.set {A : Nat → Prop} {H0 H H1 : Heap} {locs L : List Loc} {a : Nat} (h : va_S A H0 H locs) (z : H1.size = H.size) (o : ∀ q : Nat, q ≠ a → H1[q]? = H[q]?) (ha : A a) (hL : ∀ l ∈ L, l.base = a) : va_S A H0 H1 (locs ++ L) := by
  refine ⟨by rw [z]; exact h.1, fun q g1 g2 => ?_, fun q hq => ?_⟩
  · rw [o q (fun e => g2 (by rw [e]; exact ha))]
    exact h.2.1 q g1 g2
  · rcases List.mem_append.mp hq with h1 | h1
    · exact h.2.2 q h1
    · rw [hL q h1]; exact ha
section RW3
variable {X : Cx} {d n0 n' n : Nat} {M : Md} {pc : Nat} {lv : List (Nat × AV)} {st : List AV} {r m : Mem} {Q : Int → Mem → Mem → Prop}
theorem r_copy {ks kd sp dp z : Int} {ty : FieldType} {l0 l1 ix : Nat} (hty : ty ∈ atys) (hp : ty = .int ∨ ty = .long) (hks : isA n ks ty l0) (hkd : isA n kd ty l1) (h1 : 0 ≤ w32 sp) (h2 : 0 ≤ w32 dp) (h3 : 0 ≤ w32 z) (h4 : w32 sp + w32 z ≤ (l0 : Int)) (h5 : w32 dp + w32 z ≤ (l1 : Int))
    (hl : Cond.methodLink M.1.cls ix arraycopyName ∈ Tg) (hnat : Cond.native arraycopyName ∈ Tg) (hs : Cond.static arraycopyName ∈ Tg) (hi : Cond.initialized "java/lang/System" ∈ Tg) (hd : 1 ≤ d) (hrest : wdA st ≤ 8) (hdg : decode M.2.1 pc = .ok (.invokestatic ix, 3))
    (kk : RR X d M n0 n' n (pc + 3) lv st r (cpm m ks (w32 sp) kd (w32 dp) (w32 z)) Q) : RR X d M n0 n' n pc lv (vi z :: vi dp :: vr kd :: vi sp :: vr ks :: st) r m Q := by
  intro p R e s mm args below meth c H locs ls F G K E T hT X0
  have hc0 := K.1.2 ks.toNat _ (by have := hks.1; omega) hks.2.2.1 hks.2.2.2
  have hc1 := K.1.2 kd.toNat _ (by have := hkd.1; omega) hkd.2.2.1 hkd.2.2.2
  have ek0 : ((ks.toNat : Nat) : Int) = ks := Int.toNat_of_nonneg (by have := hks.1; omega)
  have ek1 : ((kd.toNat : Nat) : Int) = kd := Int.toNat_of_nonneg (by have := hkd.1; omega)
  simp only [cellAt, ek0] at hc0
  simp only [cellAt, ek1] at hc1
  rw [← show adr X ks = xB X + ks.toNat from if_pos hks.2.1] at hc0
  rw [← show adr X kd = xB X + kd.toNat from if_pos hkd.2.1] at hc1
  have hA := (F.cx.1.2 ty hty).1
  obtain ⟨-, k0, hk0, cm0, hkk0⟩ := hA l0 (fun j : Nat => fldv X ty (r ks (j : Int)) (m ks (j : Int)))
  obtain ⟨-, k1, hk1, cm1, hkk1⟩ := hA l1 (fun j : Nat => fldv X ty (r kd (j : Int)) (m kd (j : Int)))
  have e1 : copied (arrV (xA X ty) l0 (fun j : Nat => fldv X ty (r ks (j : Int)) (m ks (j : Int)))) (arrV (xA X ty) l1 (fun j : Nat => fldv X ty (r kd (j : Int)) (m kd (j : Int)))) (Int32.ofInt sp) (Int32.ofInt dp) (Int32.ofInt z) = arrV (xA X ty) l1 (fun j : Nat => fldv X ty (r kd (j : Int)) (cpm m ks (w32 sp) kd (w32 dp) (w32 z) kd (j : Int))) := by
    have h9 : ∃ mk : Int → Value, ∀ a b : Int, fldv X ty a b = mk b := by
      rcases hp with rfl | rfl
      · exact ⟨fun b => .int (Int32.ofInt b), fun _ _ => rfl⟩
      · exact ⟨fun b => .long (Int64.ofInt b), fun _ _ => rfl⟩
    obtain ⟨mk, hmk⟩ := h9
    simp only [hmk]
    show (arrV _ _ _).storeRun (Int32.ofInt dp).toNatClampNeg ((arrV _ _ _).stretch (Int32.ofInt sp).toNatClampNeg (Int32.ofInt z).toNatClampNeg) = _
    rw [va_copied mk _ _ (fun j : Nat => m ks (j : Int)) (fun j : Nat => m kd (j : Int)) (by rw [kz_ix, kz_ix]; omega)]
    congr 1
    funext j
    congr 1
    unfold va_cpy cpm
    rw [kz_ix, kz_ix, kz_ix]
    by_cases hj : (w32 dp).toNat ≤ j ∧ j < (w32 dp).toNat + (w32 z).toNat
    · rw [if_pos hj, if_pos ⟨rfl, by omega, by omega⟩]
      show m ks ((((w32 sp).toNat + (j - (w32 dp).toNat) : Nat)) : Int) = _
      congr 1
      omega
    · rw [if_neg hj, if_neg (fun q => hj (by omega))]
  have hg : ∀ (w : Int), 0 ≤ w32 w → ¬ Int32.ofInt w < 0 := fun w h q => by have := kz_lt0.mp q; omega
  obtain ⟨vm', X', step⟩ := X0.arraycopy F.x F.o (F.t _ hl) (F.t _ hnat) (F.t _ hs) (F.t _ hi) (src := adr X ks) (dst := adr X kd) (srcPos := Int32.ofInt sp) (destPos := Int32.ofInt dp) (n := Int32.ofInt z) (by rw [hT]; exact hc0) (by rw [hT]; exact hc1)
    (fun _ h => by cases h) (fun _ h => by cases h) (fun h => by cases h) (fun h => by cases h) hk0 hk1 hkk0 hkk1 (by rcases hp with rfl | rfl <;> simp [refKind]) (hg _ h1) (hg _ h2) (hg _ h3)
    (by rw [i32_w, i32_w, arrV_size]; omega)
    (by rw [i32_w, i32_w, arrV_size]; omega)
    (fun vm₁ _ i hi => by
      rw [kz_ix] at hi
      rw [Array.getD_eq_getD_getElem?, arrV_read _ _ (by rw [kz_ix]; omega)]
      rcases hp with rfl | rfl
      · exact ⟨rfl, trivial⟩
      · exact ⟨rfl, trivial⟩)
    (g := F0 mm pc ls ((vi z :: vi dp :: vr kd :: vi sp :: vr ks :: st).map (cv X))) rfl (K.2.2.1.trans F.l.symm) (rest := st.map (cv X)) rfl (by rw [F.b]; exact hdg) (by have := G.1; omega) (by
      rw [wdA_cat]
      have h6 := G.2.1
      have h7 : nativeFrameWords "java/lang/System" "arraycopy" 5 ≤ 20 := by decide +kernel
      show 2 * 0 + wdA st + _ ≤ _
      omega)
  rw [e1] at X' step
  have hl1 : adr X kd < H.size := (Array.getElem?_eq_some_iff.mp hc1).1
  have hheap : ((T.setVm vm').setCell (adr X kd) (arrV (xA X ty) l1 (fun j : Nat => fldv X ty (r kd (j : Int)) (cpm m ks (w32 sp) kd (w32 dp) (w32 z) kd (j : Int))))).heap = H.setIfInBounds (adr X kd) (arrV (xA X ty) l1 (fun j : Nat => fldv X ty (r kd (j : Int)) (cpm m ks (w32 sp) kd (w32 dp) (w32 z) kd (j : Int)))) := by rw [← hT]; rfl
  have oq : ∀ q : Nat, q ≠ adr X kd → (H.setIfInBounds (adr X kd) (arrV (xA X ty) l1 (fun j : Nat => fldv X ty (r kd (j : Int)) (cpm m ks (w32 sp) kd (w32 dp) (w32 z) kd (j : Int)))))[q]? = H[q]? := fun q hq => by simp [Array.getElem?_setIfInBounds, Ne.symm hq]
  have hW : Wd X n r (cpm m ks (w32 sp) kd (w32 dp) (w32 z)) (H.setIfInBounds (adr X kd) (arrV (xA X ty) l1 (fun j : Nat => fldv X ty (r kd (j : Int)) (cpm m ks (w32 sp) kd (w32 dp) (w32 z) kd (j : Int))))) :=
    K.1.setW hkd (fun a b h => ⟨rfl, if_neg (fun q => h q.1)⟩) (by simp [Array.getElem?_setIfInBounds, hl1]) (by simp) oq
  obtain ⟨t, a1, b1⟩ := kk F G ⟨hW, K.2.1.set (by simp) oq (adr_pos hkd.1 hkd.2.1) (fun q hq => by obtain ⟨y, -, hy⟩ := List.mem_map.mp hq; rw [← hy]), K.2.2⟩ E _ hheap X'
  exact ⟨t, step t a1, b1⟩
end RW3
end
section
/-! new T[n][m] -/
theorem kz_outer (X : Cx) (ty : FieldType) (c : ClassId) (N h0 : Nat) (base : Int) (hb : ∀ j : Nat, j < N → rfv X (base + (j : Int)) = .ref (h0 + 1 + j)) : ∀ i : Nat, i ≤ N → Jvm.Free.Multi.outerC c N h0 i = arrV c N (fun j => if j < i then rfv X (base + (j : Int)) else .null)
  | 0, _ => by
    show ({ cls := c, slots := Array.replicate N .null, vm := .none } : Cell) = _
    rw [arrV_new]
    refine congrArg (arrV c N) (funext fun j => ?_)
    simp
  | i + 1, h => by
    show (Jvm.Free.Multi.outerC c N h0 i).setSlot i (.ref (h0 + 1 + i)) = _
    rw [kz_outer X ty c N h0 base hb i (by omega), arrV_store]
    refine congrArg (arrV c N) (funext fun j => ?_)
    by_cases e : j = i
    · subst e
      rw [show (if j < j + 1 then rfv X (base + (j : Int)) else Value.null) = rfv X (base + (j : Int)) from if_pos (by omega), hb j (by omega)]
      simp [updV]
    · by_cases h : j < i
      · simp [updV, e, h, Nat.lt_succ_of_lt h]
      · simp [updV, e, h, show ¬ j < i + 1 by omega]
def gro (r : Mem) (k : Int) (N : Nat) : Mem := fun a b => if a = k ∧ 0 ≤ b ∧ b < (N : Int) then k + 1 + b else r a b
section RW4
variable {X : Cx} {d n0 n' n : Nat} {M : Md} {pc : Nat} {lv : List (Nat × AV)} {st : List AV} {r m : Mem} {Q : Int → Mem → Mem → Prop}
theorem r_mna {ty : FieldType} {ix N K : Nat} {a b k : Int} (hty : ty = .int ∨ ty = .long) (hkn : k = ((n + 1 : Nat) : Int)) (hk1 : k + (N : Int) < 1000) (hq : tbl[n + 1]? = some (.inl (.array ty, N))) (hq2 : ∀ j : Nat, j < N → tbl[n + 2 + j]? = some (.inl (ty, K))) (ha : w32 a = (N : Int)) (hb : w32 b = (K : Int)) (hN : N ≤ 10000) (hK : K ≤ 10000)
    (hz : ∀ i j, k ≤ i → r i j = 0 ∧ m i j = 0) (hcl : Cond.classLink M.1.cls ix ("[" ++ (FieldType.array ty).toString) ∈ Tg) (harr : Cond.arrayClass ty ∈ Tg) (hn1 : n + 1 + N ≤ n') (hzs : zs (n + 1 + N) = zs n + N + N * K) (hdg : decode M.2.1 pc = .ok (.multianewarray ix 2, 4))
    (kk : RR X d M n0 n' (n + 1 + N) (pc + 4) lv (vr k :: st) (gro r k N) m Q) : RR X d M n0 n' n pc lv (vi b :: vi a :: st) r m Q := by
  intro p R e s mm args below meth c H locs ls F G K9 E T hT X0
  have hR1 := G.2.2.1
  have hR2 := G.2.2.2
  have hm1 := zs_mono E.1
  have hm2 := zs_mono hn1
  have hAO : (Cond.arrayOver (.array ty)).before args s = true := by
    rcases hty with rfl | rfl
    · exact F.cx.2.2.2.1
    · exact F.cx.2.2.2.2
  have ea : (Int32.ofInt a).toNatClampNeg = N := by rw [kz_ix, ha]; rfl
  have eb : (Int32.ofInt b).toNatClampNeg = K := by rw [kz_ix, hb]; rfl
  obtain ⟨vm₁, cA, comp, -, fA, fC, -, -, X', step⟩ := X0.multianewarray2F F.x F.o (F.t _ hcl) hAO (F.t _ harr) (g := F0 mm pc ls ((vi b :: vi a :: st).map (cv X))) rfl (by rw [F.b]; exact hdg) (n := Int32.ofInt a) (k := Int32.ofInt b) (rest := st.map (cv X)) rfl (by rw [kz_lt0, ha]; omega) (by rw [kz_lt0, hb]; omega) (by rw [ea]; omega)
    (by rw [eb]; rcases hty with rfl | rfl <;> simp [componentBytes] <;> omega) (by rw [eb]; omega) (by rcases hty with rfl | rfl <;> rfl) (by rcases hty with rfl | rfl <;> rfl) (by rw [ea]; omega) (by rw [ea, eb]; omega)
  rw [ea, eb] at X' step
  have hAt := (F.cx.1.2 (.array ty) (by rcases hty with rfl | rfl <;> decide)).2
  have hBt := (F.cx.1.2 ty (by rcases hty with rfl | rfl <;> decide)).2
  have e1 : xA X (.array ty) = cA := Option.some.inj (hAt.symm.trans fA)
  have e2 : xA X ty = comp := Option.some.inj (hBt.symm.trans fC)
  subst e1
  subst e2
  generalize hF : Jvm.Free.Multi.fill (T.setVm vm₁) (xA X (.array ty)) (xA X ty) N K (defaultValue ty) N = U at X' step
  have hTh : (T.setVm vm₁).heap = H := hT
  obtain ⟨f1, f2, -, -⟩ := Jvm.Free.Multi.fill_facts (T.setVm vm₁) (xA X (.array ty)) (xA X ty) N K (defaultValue ty) N
  rw [hF, hTh] at f1 f2
  have hold : ∀ x : Nat, x < H.size → U.heap[x]? = H[x]? := fun x hx => by
    have := Jvm.Free.Multi.fill_old (T.setVm vm₁) (xA X (.array ty)) (xA X ty) N K (defaultValue ty) (a := x) (by rw [hTh]; exact hx) N
    rw [hF, hTh] at this
    exact this
  have hrow : ∀ j : Nat, j < N → U.heap[H.size + 1 + j]? = some (Jvm.Free.Multi.innerC (xA X ty) K (defaultValue ty)) := fun j hj => by
    have := Jvm.Free.Multi.fill_inner (T.setVm vm₁) (xA X (.array ty)) (xA X ty) N K (defaultValue ty) N j hj
    rw [hF, hTh] at this
    exact this
  have hs := K9.1.1
  subst hkn
  have hadr : ∀ j : Nat, j < N → rfv X (((n + 1 : Nat) : Int) + 1 + (j : Int)) = .ref (H.size + 1 + j) := fun j hj => by
    have g1 : adr X (((n + 1 : Nat) : Int) + 1 + (j : Int)) = xB X + (((n + 1 : Nat) : Int) + 1 + (j : Int)).toNat := if_pos (by omega)
    have g2 : (((n + 1 : Nat) : Int) + 1 + (j : Int)).toNat = n + 2 + j := by omega
    have g3 : adr X (((n + 1 : Nat) : Int) + 1 + (j : Int)) = H.size + 1 + j := by rw [g1, g2, hs]; omega
    rw [← g3]
    exact if_neg (by omega)
  rw [kz_outer X ty _ N H.size (((n + 1 : Nat) : Int) + 1) hadr N (Nat.le_refl _)] at f2
  have hW : Wd X (n + 1 + N) (gro r ((n + 1 : Nat) : Int) N) m U.heap := by
    refine ⟨by rw [f1]; omega, fun k2 q h1 h2 h3 => ?_⟩
    by_cases hk : k2 < n + 1
    · exact (K9.1.2 k2 q h1 (by omega) h3).eq (fun b => ⟨if_neg (by omega), rfl⟩) (hold _ (by omega))
    · by_cases hk3 : k2 = n + 1
      · subst hk3
        rw [hq] at h3
        cases h3
        show U.heap[xB X + (n + 1)]? = _
        rw [show xB X + (n + 1) = H.size by omega, f2]
        congr 2
        funext j
        show _ = rfv X (gro r ((n + 1 : Nat) : Int) N ((n + 1 : Nat) : Int) (j : Int))
        unfold gro
        by_cases hj : j < N
        · rw [if_pos hj, if_pos ⟨rfl, by omega, by omega⟩]
        · rw [if_neg hj, if_neg (by omega), (hz _ _ (Int.le_refl _)).1]
          rfl
      · obtain ⟨j, rfl⟩ : ∃ j, k2 = n + 2 + j := ⟨k2 - (n + 2), by omega⟩
        rw [hq2 j (by omega)] at h3
        cases h3
        show U.heap[xB X + (n + 2 + j)]? = _
        rw [show xB X + (n + 2 + j) = H.size + 1 + j by omega, hrow j (by omega)]
        show some ({ cls := xA X ty, slots := Array.replicate K (defaultValue ty), vm := .none } : Cell) = _
        rw [arrV_new]
        congr 2
        funext i
        have h0 := hz ((n + 2 + j : Nat) : Int) (i : Int) (by omega)
        rw [h0.2]
        rcases hty with rfl | rfl <;> rfl
  have hS : va_S (fun a => xB X < a) s.heap U.heap locs := ⟨by have := K9.2.1.1; rw [f1]; omega, fun q h1 h2 => (hold q (Nat.lt_of_lt_of_le h1 K9.2.1.1)).trans (K9.2.1.2.1 q h1 h2), K9.2.1.2.2⟩
  have k9 := kk (e := e) (below := below) F G ⟨hW, hS, K9.2.2⟩ ⟨by omega, hn1⟩ U rfl
  rw [show n + 1 + N - n0 = n - n0 + 1 + N by omega, show zs (n + 1 + N) - zs n0 = zs n - zs n0 + N + N * K by omega] at k9
  obtain ⟨t, a1, b1⟩ := k9 X'
  refine ⟨t, step t ?_, b1⟩
  have e3 : T.heap.size = adr X ((n + 1 : Nat) : Int) := by
    rw [hT, show adr X ((n + 1 : Nat) : Int) = xB X + ((n + 1 : Nat) : Int).toNat from if_pos (by omega)]
    omega
  rw [e3]
  exact a1
end RW4
end
