-- ===== PART A: goes FIRST, ahead of the names: the tables' words, and 'selects' of the private methods out of them =====
/-- a private method of a class that the tables say can be made, by its rows of tables_1 -/
def lw_okq (q : MethodName × Nat) : Prop := (q.1.cls ≠ "java/lang/invoke/MethodHandle" ∧ q.1.cls ≠ "java/lang/invoke/VarHandle") ∧ Cond.instantiable q.1.cls q.2 ∈ tables_1 ∧ Cond.privateMethod q.1 ∈ tables_1 ∧ Cond.instanceMethod q.1 ∈ tables_1
theorem lw_p0 : lw_okq (⟨"FixedFacts$Web", "joinedByOrder", "(III)I"⟩, 12) := ⟨⟨by decide +kernel, by decide +kernel⟩, List.mem_of_getElem? (i := 20) (by decide +kernel), List.mem_of_getElem? (i := 170) (by decide +kernel), List.mem_of_getElem? (i := 171) (by decide +kernel)⟩
theorem lw_p1 : lw_okq (⟨"FixedFacts$Web", "joinsWithItself", "()Z"⟩, 12) := ⟨⟨by decide +kernel, by decide +kernel⟩, List.mem_of_getElem? (i := 20) (by decide +kernel), List.mem_of_getElem? (i := 213) (by decide +kernel), List.mem_of_getElem? (i := 214) (by decide +kernel)⟩
theorem lw_p2 : lw_okq (⟨"FixedFacts$Web", "joinsBothWaysAlike", "()Z"⟩, 12) := ⟨⟨by decide +kernel, by decide +kernel⟩, List.mem_of_getElem? (i := 20) (by decide +kernel), List.mem_of_getElem? (i := 221) (by decide +kernel), List.mem_of_getElem? (i := 222) (by decide +kernel)⟩
theorem lw_p3 : lw_okq (⟨"FixedFacts$Web", "joinsInAnyGroupsAlike", "()Z"⟩, 12) := ⟨⟨by decide +kernel, by decide +kernel⟩, List.mem_of_getElem? (i := 20) (by decide +kernel), List.mem_of_getElem? (i := 225) (by decide +kernel), List.mem_of_getElem? (i := 226) (by decide +kernel)⟩
theorem lw_p4 : lw_okq (⟨"FixedFacts$Web", "joinsZeroAsNothing", "()Z"⟩, 12) := ⟨⟨by decide +kernel, by decide +kernel⟩, List.mem_of_getElem? (i := 20) (by decide +kernel), List.mem_of_getElem? (i := 229) (by decide +kernel), List.mem_of_getElem? (i := 230) (by decide +kernel)⟩
theorem lw_p5 : lw_okq (⟨"FixedFacts", "isExact", "()Z"⟩, 9) := ⟨⟨by decide +kernel, by decide +kernel⟩, List.mem_of_getElem? (i := 12) (by decide +kernel), List.mem_of_getElem? (i := 285) (by decide +kernel), List.mem_of_getElem? (i := 286) (by decide +kernel)⟩
theorem lw_p6 : lw_okq (⟨"FixedFacts", "findKnown", "()Z"⟩, 9) := ⟨⟨by decide +kernel, by decide +kernel⟩, List.mem_of_getElem? (i := 12) (by decide +kernel), List.mem_of_getElem? (i := 289) (by decide +kernel), List.mem_of_getElem? (i := 290) (by decide +kernel)⟩
theorem lw_p7 : lw_okq (⟨"FixedFacts$Work", "takeNext", "(I)I"⟩, 3) := ⟨⟨by decide +kernel, by decide +kernel⟩, List.mem_of_getElem? (i := 138) (by decide +kernel), List.mem_of_getElem? (i := 297) (by decide +kernel), List.mem_of_getElem? (i := 298) (by decide +kernel)⟩
theorem lw_p8 : lw_okq (⟨"FixedFacts$Work", "leastWaiting", "()I"⟩, 3) := ⟨⟨by decide +kernel, by decide +kernel⟩, List.mem_of_getElem? (i := 138) (by decide +kernel), List.mem_of_getElem? (i := 301) (by decide +kernel), List.mem_of_getElem? (i := 302) (by decide +kernel)⟩
theorem lw_p9 : lw_okq (⟨"FixedFacts$Work", "wakeBehind", "(LFixedFacts$Web;II)V"⟩, 3) := ⟨⟨by decide +kernel, by decide +kernel⟩, List.mem_of_getElem? (i := 138) (by decide +kernel), List.mem_of_getElem? (i := 306) (by decide +kernel), List.mem_of_getElem? (i := 307) (by decide +kernel)⟩
theorem lw_p10 : lw_okq (⟨"FixedFacts$Work", "isWaiting", "(I)Z"⟩, 3) := ⟨⟨by decide +kernel, by decide +kernel⟩, List.mem_of_getElem? (i := 138) (by decide +kernel), List.mem_of_getElem? (i := 310) (by decide +kernel), List.mem_of_getElem? (i := 311) (by decide +kernel)⟩
theorem lw_p11 : lw_okq (⟨"FixedFacts", "waysThatMatter", "()I"⟩, 9) := ⟨⟨by decide +kernel, by decide +kernel⟩, List.mem_of_getElem? (i := 12) (by decide +kernel), List.mem_of_getElem? (i := 314) (by decide +kernel), List.mem_of_getElem? (i := 315) (by decide +kernel)⟩
theorem lw_p12 : lw_okq (⟨"FixedFacts", "otherwiseWithout", "(I)I"⟩, 9) := ⟨⟨by decide +kernel, by decide +kernel⟩, List.mem_of_getElem? (i := 12) (by decide +kernel), List.mem_of_getElem? (i := 318) (by decide +kernel), List.mem_of_getElem? (i := 319) (by decide +kernel)⟩
theorem lw_p13 : lw_okq (⟨"FixedFacts", "firstWrongEntry", "()I"⟩, 9) := ⟨⟨by decide +kernel, by decide +kernel⟩, List.mem_of_getElem? (i := 12) (by decide +kernel), List.mem_of_getElem? (i := 322) (by decide +kernel), List.mem_of_getElem? (i := 323) (by decide +kernel)⟩
theorem lw_p14 : lw_okq (⟨"FixedFacts", "rebuiltAt", "(I)I"⟩, 9) := ⟨⟨by decide +kernel, by decide +kernel⟩, List.mem_of_getElem? (i := 12) (by decide +kernel), List.mem_of_getElem? (i := 356) (by decide +kernel), List.mem_of_getElem? (i := 357) (by decide +kernel)⟩
theorem lw_p15 : lw_okq (⟨"FixedFacts", "addDrawnWay", "()V"⟩, 9) := ⟨⟨by decide +kernel, by decide +kernel⟩, List.mem_of_getElem? (i := 12) (by decide +kernel), List.mem_of_getElem? (i := 458) (by decide +kernel), List.mem_of_getElem? (i := 459) (by decide +kernel)⟩
def lw_privs_1 : List (MethodName × Nat) := [(⟨"FixedFacts$Web", "joinedByOrder", "(III)I"⟩, 12), (⟨"FixedFacts$Web", "joinsWithItself", "()Z"⟩, 12), (⟨"FixedFacts$Web", "joinsBothWaysAlike", "()Z"⟩, 12), (⟨"FixedFacts$Web", "joinsInAnyGroupsAlike", "()Z"⟩, 12), (⟨"FixedFacts$Web", "joinsZeroAsNothing", "()Z"⟩, 12), (⟨"FixedFacts", "isExact", "()Z"⟩, 9), (⟨"FixedFacts", "findKnown", "()Z"⟩, 9), (⟨"FixedFacts$Work", "takeNext", "(I)I"⟩, 3), (⟨"FixedFacts$Work", "leastWaiting", "()I"⟩, 3), (⟨"FixedFacts$Work", "wakeBehind", "(LFixedFacts$Web;II)V"⟩, 3), (⟨"FixedFacts$Work", "isWaiting", "(I)Z"⟩, 3), (⟨"FixedFacts", "waysThatMatter", "()I"⟩, 9), (⟨"FixedFacts", "otherwiseWithout", "(I)I"⟩, 9), (⟨"FixedFacts", "firstWrongEntry", "()I"⟩, 9), (⟨"FixedFacts", "rebuiltAt", "(I)I"⟩, 9), (⟨"FixedFacts", "addDrawnWay", "()V"⟩, 9)]
theorem lw_r1 : ∀ q ∈ lw_privs_1, lw_okq q := List.forall_mem_cons.mpr ⟨lw_p0, List.forall_mem_cons.mpr ⟨lw_p1, List.forall_mem_cons.mpr ⟨lw_p2, List.forall_mem_cons.mpr ⟨lw_p3, List.forall_mem_cons.mpr ⟨lw_p4, List.forall_mem_cons.mpr ⟨lw_p5, List.forall_mem_cons.mpr ⟨lw_p6, List.forall_mem_cons.mpr ⟨lw_p7, List.forall_mem_cons.mpr ⟨lw_p8, List.forall_mem_cons.mpr ⟨lw_p9, List.forall_mem_cons.mpr ⟨lw_p10, List.forall_mem_cons.mpr ⟨lw_p11, List.forall_mem_cons.mpr ⟨lw_p12, List.forall_mem_cons.mpr ⟨lw_p13, List.forall_mem_cons.mpr ⟨lw_p14, List.forall_mem_cons.mpr ⟨lw_p15, fun _ h => absurd h List.not_mem_nil⟩⟩⟩⟩⟩⟩⟩⟩⟩⟩⟩⟩⟩⟩⟩⟩
theorem lw_p16 : lw_okq (⟨"FixedFacts", "draw", "(I)I"⟩, 9) := ⟨⟨by decide +kernel, by decide +kernel⟩, List.mem_of_getElem? (i := 12) (by decide +kernel), List.mem_of_getElem? (i := 462) (by decide +kernel), List.mem_of_getElem? (i := 463) (by decide +kernel)⟩
theorem lw_p17 : lw_okq (⟨"FixedFactsModel", "builds", "(III)V"⟩, 17) := ⟨⟨by decide +kernel, by decide +kernel⟩, List.mem_of_getElem? (i := 507) (by decide +kernel), List.mem_of_getElem? (i := 513) (by decide +kernel), List.mem_of_getElem? (i := 514) (by decide +kernel)⟩
theorem lw_p18 : lw_okq (⟨"FixedFactsModel", "broken", "()I"⟩, 17) := ⟨⟨by decide +kernel, by decide +kernel⟩, List.mem_of_getElem? (i := 507) (by decide +kernel), List.mem_of_getElem? (i := 574) (by decide +kernel), List.mem_of_getElem? (i := 575) (by decide +kernel)⟩
theorem lw_p19 : lw_okq (⟨"FixedFactsModel", "holds", "(IIII)Z"⟩, 17) := ⟨⟨by decide +kernel, by decide +kernel⟩, List.mem_of_getElem? (i := 507) (by decide +kernel), List.mem_of_getElem? (i := 578) (by decide +kernel), List.mem_of_getElem? (i := 579) (by decide +kernel)⟩
theorem lw_p20 : lw_okq (⟨"FixedFactsModel", "both", "(II)I"⟩, 17) := ⟨⟨by decide +kernel, by decide +kernel⟩, List.mem_of_getElem? (i := 507) (by decide +kernel), List.mem_of_getElem? (i := 582) (by decide +kernel), List.mem_of_getElem? (i := 583) (by decide +kernel)⟩
theorem lw_p21 : lw_okq (⟨"FixedFactsModel", "firstUnordered", "()I"⟩, 17) := ⟨⟨by decide +kernel, by decide +kernel⟩, List.mem_of_getElem? (i := 507) (by decide +kernel), List.mem_of_getElem? (i := 586) (by decide +kernel), List.mem_of_getElem? (i := 587) (by decide +kernel)⟩
theorem lw_p22 : lw_okq (⟨"FixedFactsModel", "keepsOrder", "(I)Z"⟩, 17) := ⟨⟨by decide +kernel, by decide +kernel⟩, List.mem_of_getElem? (i := 507) (by decide +kernel), List.mem_of_getElem? (i := 590) (by decide +kernel), List.mem_of_getElem? (i := 591) (by decide +kernel)⟩
theorem lw_p23 : lw_okq (⟨"FixedFactsModel", "isBelow", "(II)Z"⟩, 17) := ⟨⟨by decide +kernel, by decide +kernel⟩, List.mem_of_getElem? (i := 507) (by decide +kernel), List.mem_of_getElem? (i := 594) (by decide +kernel), List.mem_of_getElem? (i := 595) (by decide +kernel)⟩
theorem lw_p24 : lw_okq (⟨"FixedFactsModel", "of", "(II)I"⟩, 17) := ⟨⟨by decide +kernel, by decide +kernel⟩, List.mem_of_getElem? (i := 507) (by decide +kernel), List.mem_of_getElem? (i := 598) (by decide +kernel), List.mem_of_getElem? (i := 599) (by decide +kernel)⟩
theorem lw_p25 : lw_okq (⟨"FixedFactsModel", "isWell", "()Z"⟩, 17) := ⟨⟨by decide +kernel, by decide +kernel⟩, List.mem_of_getElem? (i := 507) (by decide +kernel), List.mem_of_getElem? (i := 602) (by decide +kernel), List.mem_of_getElem? (i := 603) (by decide +kernel)⟩
theorem lw_p26 : lw_okq (⟨"FixedFactsModel", "kept", "()I"⟩, 17) := ⟨⟨by decide +kernel, by decide +kernel⟩, List.mem_of_getElem? (i := 507) (by decide +kernel), List.mem_of_getElem? (i := 606) (by decide +kernel), List.mem_of_getElem? (i := 607) (by decide +kernel)⟩
theorem lw_p27 : lw_okq (⟨"FixedFactsModel", "isKept", "(I)Z"⟩, 17) := ⟨⟨by decide +kernel, by decide +kernel⟩, List.mem_of_getElem? (i := 507) (by decide +kernel), List.mem_of_getElem? (i := 610) (by decide +kernel), List.mem_of_getElem? (i := 611) (by decide +kernel)⟩
theorem lw_p28 : lw_okq (⟨"FixedFactsModel", "refused", "()I"⟩, 17) := ⟨⟨by decide +kernel, by decide +kernel⟩, List.mem_of_getElem? (i := 507) (by decide +kernel), List.mem_of_getElem? (i := 614) (by decide +kernel), List.mem_of_getElem? (i := 615) (by decide +kernel)⟩
theorem lw_p29 : lw_okq (⟨"FixedFactsModel", "rebuilds", "()V"⟩, 17) := ⟨⟨by decide +kernel, by decide +kernel⟩, List.mem_of_getElem? (i := 507) (by decide +kernel), List.mem_of_getElem? (i := 618) (by decide +kernel), List.mem_of_getElem? (i := 619) (by decide +kernel)⟩
theorem lw_p30 : lw_okq (⟨"FixedFactsModel", "gathers", "([III)V"⟩, 17) := ⟨⟨by decide +kernel, by decide +kernel⟩, List.mem_of_getElem? (i := 507) (by decide +kernel), List.mem_of_getElem? (i := 622) (by decide +kernel), List.mem_of_getElem? (i := 623) (by decide +kernel)⟩
theorem lw_p31 : lw_okq (⟨"FixedFactsModel", "brings", "(III)V"⟩, 17) := ⟨⟨by decide +kernel, by decide +kernel⟩, List.mem_of_getElem? (i := 507) (by decide +kernel), List.mem_of_getElem? (i := 626) (by decide +kernel), List.mem_of_getElem? (i := 627) (by decide +kernel)⟩
def lw_privs_2 : List (MethodName × Nat) := [(⟨"FixedFacts", "draw", "(I)I"⟩, 9), (⟨"FixedFactsModel", "builds", "(III)V"⟩, 17), (⟨"FixedFactsModel", "broken", "()I"⟩, 17), (⟨"FixedFactsModel", "holds", "(IIII)Z"⟩, 17), (⟨"FixedFactsModel", "both", "(II)I"⟩, 17), (⟨"FixedFactsModel", "firstUnordered", "()I"⟩, 17), (⟨"FixedFactsModel", "keepsOrder", "(I)Z"⟩, 17), (⟨"FixedFactsModel", "isBelow", "(II)Z"⟩, 17), (⟨"FixedFactsModel", "of", "(II)I"⟩, 17), (⟨"FixedFactsModel", "isWell", "()Z"⟩, 17), (⟨"FixedFactsModel", "kept", "()I"⟩, 17), (⟨"FixedFactsModel", "isKept", "(I)Z"⟩, 17), (⟨"FixedFactsModel", "refused", "()I"⟩, 17), (⟨"FixedFactsModel", "rebuilds", "()V"⟩, 17), (⟨"FixedFactsModel", "gathers", "([III)V"⟩, 17), (⟨"FixedFactsModel", "brings", "(III)V"⟩, 17)]
theorem lw_r2 : ∀ q ∈ lw_privs_2, lw_okq q := List.forall_mem_cons.mpr ⟨lw_p16, List.forall_mem_cons.mpr ⟨lw_p17, List.forall_mem_cons.mpr ⟨lw_p18, List.forall_mem_cons.mpr ⟨lw_p19, List.forall_mem_cons.mpr ⟨lw_p20, List.forall_mem_cons.mpr ⟨lw_p21, List.forall_mem_cons.mpr ⟨lw_p22, List.forall_mem_cons.mpr ⟨lw_p23, List.forall_mem_cons.mpr ⟨lw_p24, List.forall_mem_cons.mpr ⟨lw_p25, List.forall_mem_cons.mpr ⟨lw_p26, List.forall_mem_cons.mpr ⟨lw_p27, List.forall_mem_cons.mpr ⟨lw_p28, List.forall_mem_cons.mpr ⟨lw_p29, List.forall_mem_cons.mpr ⟨lw_p30, List.forall_mem_cons.mpr ⟨lw_p31, fun _ h => absurd h List.not_mem_nil⟩⟩⟩⟩⟩⟩⟩⟩⟩⟩⟩⟩⟩⟩⟩⟩
theorem lw_p32 : lw_okq (⟨"FixedFactsModel", "isTakenAt", "(I)Z"⟩, 17) := ⟨⟨by decide +kernel, by decide +kernel⟩, List.mem_of_getElem? (i := 507) (by decide +kernel), List.mem_of_getElem? (i := 630) (by decide +kernel), List.mem_of_getElem? (i := 631) (by decide +kernel)⟩
theorem lw_p33 : lw_okq (⟨"FixedFactsModel", "isLess", "(III)Z"⟩, 17) := ⟨⟨by decide +kernel, by decide +kernel⟩, List.mem_of_getElem? (i := 507) (by decide +kernel), List.mem_of_getElem? (i := 634) (by decide +kernel), List.mem_of_getElem? (i := 635) (by decide +kernel)⟩
theorem lw_p34 : lw_okq (⟨"FixedFactsModel", "isExact", "()Z"⟩, 17) := ⟨⟨by decide +kernel, by decide +kernel⟩, List.mem_of_getElem? (i := 507) (by decide +kernel), List.mem_of_getElem? (i := 638) (by decide +kernel), List.mem_of_getElem? (i := 639) (by decide +kernel)⟩
theorem lw_p35 : lw_okq (⟨"FixedFactsModel", "works", "([III)I"⟩, 17) := ⟨⟨by decide +kernel, by decide +kernel⟩, List.mem_of_getElem? (i := 507) (by decide +kernel), List.mem_of_getElem? (i := 642) (by decide +kernel), List.mem_of_getElem? (i := 643) (by decide +kernel)⟩
theorem lw_p36 : lw_okq (⟨"FixedFactsModel", "taken", "(I)I"⟩, 17) := ⟨⟨by decide +kernel, by decide +kernel⟩, List.mem_of_getElem? (i := 507) (by decide +kernel), List.mem_of_getElem? (i := 646) (by decide +kernel), List.mem_of_getElem? (i := 647) (by decide +kernel)⟩
theorem lw_p37 : lw_okq (⟨"FixedFactsModel", "waits", "(I)Z"⟩, 17) := ⟨⟨by decide +kernel, by decide +kernel⟩, List.mem_of_getElem? (i := 507) (by decide +kernel), List.mem_of_getElem? (i := 650) (by decide +kernel), List.mem_of_getElem? (i := 651) (by decide +kernel)⟩
theorem lw_p38 : lw_okq (⟨"FixedFactsModel", "matters", "()I"⟩, 17) := ⟨⟨by decide +kernel, by decide +kernel⟩, List.mem_of_getElem? (i := 507) (by decide +kernel), List.mem_of_getElem? (i := 654) (by decide +kernel), List.mem_of_getElem? (i := 655) (by decide +kernel)⟩
theorem lw_p39 : lw_okq (⟨"FixedFactsModel", "without", "(I)I"⟩, 17) := ⟨⟨by decide +kernel, by decide +kernel⟩, List.mem_of_getElem? (i := 507) (by decide +kernel), List.mem_of_getElem? (i := 658) (by decide +kernel), List.mem_of_getElem? (i := 659) (by decide +kernel)⟩
theorem lw_p40 : lw_okq (⟨"FixedFactsModel", "wrong", "()I"⟩, 17) := ⟨⟨by decide +kernel, by decide +kernel⟩, List.mem_of_getElem? (i := 507) (by decide +kernel), List.mem_of_getElem? (i := 662) (by decide +kernel), List.mem_of_getElem? (i := 663) (by decide +kernel)⟩
theorem lw_p41 : lw_okq (⟨"FixedFactsModel", "isPlace", "(I)Z"⟩, 17) := ⟨⟨by decide +kernel, by decide +kernel⟩, List.mem_of_getElem? (i := 507) (by decide +kernel), List.mem_of_getElem? (i := 666) (by decide +kernel), List.mem_of_getElem? (i := 667) (by decide +kernel)⟩
theorem lw_p42 : lw_okq (⟨"FixedFactsModel", "isValue", "(I)Z"⟩, 17) := ⟨⟨by decide +kernel, by decide +kernel⟩, List.mem_of_getElem? (i := 507) (by decide +kernel), List.mem_of_getElem? (i := 678) (by decide +kernel), List.mem_of_getElem? (i := 679) (by decide +kernel)⟩
theorem lw_p43 : lw_okq (⟨"FixedFactsModel", "knownAt", "(I)I"⟩, 17) := ⟨⟨by decide +kernel, by decide +kernel⟩, List.mem_of_getElem? (i := 507) (by decide +kernel), List.mem_of_getElem? (i := 691) (by decide +kernel), List.mem_of_getElem? (i := 692) (by decide +kernel)⟩
theorem lw_p44 : lw_okq (⟨"FixedFactsModel", "rebuiltAt", "(I)I"⟩, 17) := ⟨⟨by decide +kernel, by decide +kernel⟩, List.mem_of_getElem? (i := 507) (by decide +kernel), List.mem_of_getElem? (i := 695) (by decide +kernel), List.mem_of_getElem? (i := 696) (by decide +kernel)⟩
theorem lw_p45 : lw_okq (⟨"FixedFactsModel", "isWay", "(I)Z"⟩, 17) := ⟨⟨by decide +kernel, by decide +kernel⟩, List.mem_of_getElem? (i := 507) (by decide +kernel), List.mem_of_getElem? (i := 703) (by decide +kernel), List.mem_of_getElem? (i := 704) (by decide +kernel)⟩
theorem lw_p46 : lw_okq (⟨"FixedFactsModel", "broughtBy", "(II)I"⟩, 17) := ⟨⟨by decide +kernel, by decide +kernel⟩, List.mem_of_getElem? (i := 507) (by decide +kernel), List.mem_of_getElem? (i := 707) (by decide +kernel), List.mem_of_getElem? (i := 708) (by decide +kernel)⟩
theorem lw_p47 : lw_okq (⟨"FixedFactsModel", "notes", "()V"⟩, 17) := ⟨⟨by decide +kernel, by decide +kernel⟩, List.mem_of_getElem? (i := 507) (by decide +kernel), List.mem_of_getElem? (i := 727) (by decide +kernel), List.mem_of_getElem? (i := 728) (by decide +kernel)⟩
def lw_privs_3 : List (MethodName × Nat) := [(⟨"FixedFactsModel", "isTakenAt", "(I)Z"⟩, 17), (⟨"FixedFactsModel", "isLess", "(III)Z"⟩, 17), (⟨"FixedFactsModel", "isExact", "()Z"⟩, 17), (⟨"FixedFactsModel", "works", "([III)I"⟩, 17), (⟨"FixedFactsModel", "taken", "(I)I"⟩, 17), (⟨"FixedFactsModel", "waits", "(I)Z"⟩, 17), (⟨"FixedFactsModel", "matters", "()I"⟩, 17), (⟨"FixedFactsModel", "without", "(I)I"⟩, 17), (⟨"FixedFactsModel", "wrong", "()I"⟩, 17), (⟨"FixedFactsModel", "isPlace", "(I)Z"⟩, 17), (⟨"FixedFactsModel", "isValue", "(I)Z"⟩, 17), (⟨"FixedFactsModel", "knownAt", "(I)I"⟩, 17), (⟨"FixedFactsModel", "rebuiltAt", "(I)I"⟩, 17), (⟨"FixedFactsModel", "isWay", "(I)Z"⟩, 17), (⟨"FixedFactsModel", "broughtBy", "(II)I"⟩, 17), (⟨"FixedFactsModel", "notes", "()V"⟩, 17)]
theorem lw_r3 : ∀ q ∈ lw_privs_3, lw_okq q := List.forall_mem_cons.mpr ⟨lw_p32, List.forall_mem_cons.mpr ⟨lw_p33, List.forall_mem_cons.mpr ⟨lw_p34, List.forall_mem_cons.mpr ⟨lw_p35, List.forall_mem_cons.mpr ⟨lw_p36, List.forall_mem_cons.mpr ⟨lw_p37, List.forall_mem_cons.mpr ⟨lw_p38, List.forall_mem_cons.mpr ⟨lw_p39, List.forall_mem_cons.mpr ⟨lw_p40, List.forall_mem_cons.mpr ⟨lw_p41, List.forall_mem_cons.mpr ⟨lw_p42, List.forall_mem_cons.mpr ⟨lw_p43, List.forall_mem_cons.mpr ⟨lw_p44, List.forall_mem_cons.mpr ⟨lw_p45, List.forall_mem_cons.mpr ⟨lw_p46, List.forall_mem_cons.mpr ⟨lw_p47, fun _ h => absurd h List.not_mem_nil⟩⟩⟩⟩⟩⟩⟩⟩⟩⟩⟩⟩⟩⟩⟩⟩
theorem lw_p48 : lw_okq (⟨"FixedFactsModel", "comes", "(IIIII)V"⟩, 17) := ⟨⟨by decide +kernel, by decide +kernel⟩, List.mem_of_getElem? (i := 507) (by decide +kernel), List.mem_of_getElem? (i := 747) (by decide +kernel), List.mem_of_getElem? (i := 748) (by decide +kernel)⟩
theorem lw_p49 : lw_okq (⟨"FixedFactsModel", "draw", "(I)I"⟩, 17) := ⟨⟨by decide +kernel, by decide +kernel⟩, List.mem_of_getElem? (i := 507) (by decide +kernel), List.mem_of_getElem? (i := 780) (by decide +kernel), List.mem_of_getElem? (i := 781) (by decide +kernel)⟩
def lw_privs_4 : List (MethodName × Nat) := [(⟨"FixedFactsModel", "comes", "(IIIII)V"⟩, 17), (⟨"FixedFactsModel", "draw", "(I)I"⟩, 17)]
theorem lw_r4 : ∀ q ∈ lw_privs_4, lw_okq q := List.forall_mem_cons.mpr ⟨lw_p48, List.forall_mem_cons.mpr ⟨lw_p49, fun _ h => absurd h List.not_mem_nil⟩⟩
def lw_privs : List (MethodName × Nat) := lw_privs_1 ++ (lw_privs_2 ++ (lw_privs_3 ++ (lw_privs_4)))
def lw_tbl : List Cond := k2_sels lw_privs ++ tables_1
theorem lw_privs_ok : ∀ q ∈ lw_privs, lw_okq q := by
  show ∀ q ∈ lw_privs_1 ++ (lw_privs_2 ++ (lw_privs_3 ++ (lw_privs_4))), lw_okq q
  exact List.forall_mem_append.mpr ⟨lw_r1, List.forall_mem_append.mpr ⟨lw_r2, List.forall_mem_append.mpr ⟨lw_r3, lw_r4⟩⟩⟩
def RX0 : String := "FixedFacts$Book"
def TX0 : u_T := fun k => match k with
  | 0 => ("FixedFacts$Book", "entries", "I", false)
  | 1 => ("FixedFacts$Book", "place", "[I", true)
  | _ => ("FixedFacts$Book", "fact", "[I", true)
def tyX0 : Nat → FieldType := fun k => match k with
  | 0 => .int
  | 1 => .array .int
  | _ => .array .int
abbrev wsX00 : List Cond := u_ws RX0 TX0 3
theorem nmX0 : ∀ a, a < 3 → ∀ b, b < 3 → a ≠ b → (TX0 a).2.1 ≠ (TX0 b).2.1 := by decide +kernel
theorem tyX0_ok : ∀ k, k < 3 → parseFieldDescriptor (TX0 k).2.2.1 = some (tyX0 k) := by decide +kernel
abbrev cX0_init : ByteArray := prog_2_method_1_code
def yX0_init : MethodName := ⟨RX0, "<init>", "()V"⟩
abbrev cX0_add : ByteArray := prog_2_method_2_code
def yX0_add : MethodName := ⟨RX0, "add", "(II)V"⟩
abbrev cX0_firstUnlike : ByteArray := prog_2_method_3_code
def yX0_firstUnlike : MethodName := ⟨RX0, "firstUnlike", "([II)I"⟩
def RX1 : String := "FixedFacts$Image"
def TX1 : u_T := fun k => match k with
  | 0 => ("FixedFacts$Image", "web", "LFixedFacts$Web;", true)
  | 1 => ("FixedFacts$Image", "drawn", "I", false)
  | _ => ("FixedFacts$Image", "isThere", "Z", false)
def tyX1 : Nat → FieldType := fun k => match k with
  | 0 => .object "FixedFacts$Web"
  | 1 => .int
  | _ => .boolean
abbrev wsX10 : List Cond := u_ws RX1 TX1 3
theorem nmX1 : ∀ a, a < 3 → ∀ b, b < 3 → a ≠ b → (TX1 a).2.1 ≠ (TX1 b).2.1 := by decide +kernel
theorem tyX1_ok : ∀ k, k < 3 → parseFieldDescriptor (TX1 k).2.2.1 = some (tyX1 k) := by decide +kernel
abbrev cX1_init : ByteArray := prog_3_method_1_code
def yX1_init : MethodName := ⟨RX1, "<init>", "()V"⟩
def RX2 : String := "FixedFacts$Judge"
def TX2 : u_T := fun k => match k with
  | _ => ("FixedFacts$Judge", "rebuilt", "[I", true)
def tyX2 : Nat → FieldType := fun k => match k with
  | _ => .array .int
abbrev wsX20 : List Cond := u_ws RX2 TX2 1
theorem nmX2 : ∀ a, a < 1 → ∀ b, b < 1 → a ≠ b → (TX2 a).2.1 ≠ (TX2 b).2.1 := by decide +kernel
theorem tyX2_ok : ∀ k, k < 1 → parseFieldDescriptor (TX2 k).2.2.1 = some (tyX2 k) := by decide +kernel
abbrev cX2_init : ByteArray := prog_4_method_1_code
def yX2_init : MethodName := ⟨RX2, "<init>", "()V"⟩
abbrev cX2_rebuild : ByteArray := prog_4_method_2_code
def yX2_rebuild : MethodName := ⟨RX2, "rebuild", "(LFixedFacts$Web;)V"⟩
abbrev cX2_refusedAt : ByteArray := prog_4_method_3_code
def yX2_refusedAt : MethodName := ⟨RX2, "refusedAt", "(LFixedFacts$Web;)I"⟩
def RX3 : String := "FixedFacts$Past"
def TX3 : u_T := fun k => match k with
  | 0 => ("FixedFacts$Past", "kept", "I", false)
  | 1 => ("FixedFacts$Past", "next", "I", false)
  | _ => ("FixedFacts$Past", "ring", "[LFixedFacts$Web;", true)
def tyX3 : Nat → FieldType := fun k => match k with
  | 0 => .int
  | 1 => .int
  | _ => .array (.object "FixedFacts$Web")
abbrev wsX30 : List Cond := u_ws RX3 TX3 3
theorem nmX3 : ∀ a, a < 3 → ∀ b, b < 3 → a ≠ b → (TX3 a).2.1 ≠ (TX3 b).2.1 := by decide +kernel
theorem tyX3_ok : ∀ k, k < 3 → parseFieldDescriptor (TX3 k).2.2.1 = some (tyX3 k) := by decide +kernel
abbrev cX3_init : ByteArray := prog_5_method_1_code
def yX3_init : MethodName := ⟨RX3, "<init>", "()V"⟩
abbrev cX3_remember : ByteArray := prog_5_method_2_code
def yX3_remember : MethodName := ⟨RX3, "remember", "(LFixedFacts$Web;)V"⟩
abbrev cX3_bringBack : ByteArray := prog_5_method_3_code
def yX3_bringBack : MethodName := ⟨RX3, "bringBack", "(LFixedFacts$Web;I)V"⟩
abbrev cX3_forget : ByteArray := prog_5_method_4_code
def yX3_forget : MethodName := ⟨RX3, "forget", "()V"⟩
def RX4 : String := "FixedFacts$Web"
def TX4 : u_T := fun k => match k with
  | 0 => ("FixedFacts$Web", "values", "I", false)
  | 1 => ("FixedFacts$Web", "places", "I", false)
  | 2 => ("FixedFacts$Web", "ways", "I", false)
  | 3 => ("FixedFacts$Web", "table", "[I", true)
  | 4 => ("FixedFacts$Web", "starts", "[I", true)
  | 5 => ("FixedFacts$Web", "written", "[I", true)
  | 6 => ("FixedFacts$Web", "from", "[I", true)
  | 7 => ("FixedFacts$Web", "to", "[I", true)
  | 8 => ("FixedFacts$Web", "maps", "[I", true)
  | 9 => ("FixedFacts$Web", "gives", "[I", true)
  | 10 => ("FixedFacts$Web", "takes", "[I", true)
  | _ => ("FixedFacts$Web", "gates", "[I", true)
def tyX4 : Nat → FieldType := fun k => match k with
  | 0 => .int
  | 1 => .int
  | 2 => .int
  | 3 => .array .int
  | 4 => .array .int
  | 5 => .array .int
  | 6 => .array .int
  | 7 => .array .int
  | 8 => .array .int
  | 9 => .array .int
  | 10 => .array .int
  | _ => .array .int
abbrev wsX40 : List Cond := u_ws RX4 TX4 12
theorem nmX4 : ∀ a, a < 12 → ∀ b, b < 12 → a ≠ b → (TX4 a).2.1 ≠ (TX4 b).2.1 := by decide +kernel
theorem tyX4_ok : ∀ k, k < 12 → parseFieldDescriptor (TX4 k).2.2.1 = some (tyX4 k) := by decide +kernel
abbrev cX4_init : ByteArray := prog_6_method_1_code
def yX4_init : MethodName := ⟨RX4, "<init>", "()V"⟩
abbrev cX4_become : ByteArray := prog_6_method_2_code
def yX4_become : MethodName := ⟨RX4, "become", "(LFixedFacts$Web;)V"⟩
abbrev cX4_becomeNew : ByteArray := prog_6_method_3_code
def yX4_becomeNew : MethodName := ⟨RX4, "becomeNew", "(III)V"⟩
abbrev cX4_joinedByOrder : ByteArray := prog_6_method_4_code
def yX4_joinedByOrder : MethodName := ⟨RX4, "joinedByOrder", "(III)I"⟩
abbrev cX4_hasValue : ByteArray := prog_6_method_5_code
def yX4_hasValue : MethodName := ⟨RX4, "hasValue", "(I)Z"⟩
abbrev cX4_hasPlace : ByteArray := prog_6_method_6_code
def yX4_hasPlace : MethodName := ⟨RX4, "hasPlace", "(I)Z"⟩
abbrev cX4_hasWay : ByteArray := prog_6_method_7_code
def yX4_hasWay : MethodName := ⟨RX4, "hasWay", "(I)Z"⟩
abbrev cX4_join : ByteArray := prog_6_method_8_code
def yX4_join : MethodName := ⟨RX4, "join", "(II)I"⟩
abbrev cX4_isBelow : ByteArray := prog_6_method_9_code
def yX4_isBelow : MethodName := ⟨RX4, "isBelow", "(II)Z"⟩
abbrev cX4_brokenLaw : ByteArray := prog_6_method_10_code
def yX4_brokenLaw : MethodName := ⟨RX4, "brokenLaw", "()I"⟩
abbrev cX4_joinsWithItself : ByteArray := prog_6_method_11_code
def yX4_joinsWithItself : MethodName := ⟨RX4, "joinsWithItself", "()Z"⟩
abbrev cX4_joinsBothWaysAlike : ByteArray := prog_6_method_12_code
def yX4_joinsBothWaysAlike : MethodName := ⟨RX4, "joinsBothWaysAlike", "()Z"⟩
abbrev cX4_joinsInAnyGroupsAlike : ByteArray := prog_6_method_13_code
def yX4_joinsInAnyGroupsAlike : MethodName := ⟨RX4, "joinsInAnyGroupsAlike", "()Z"⟩
abbrev cX4_joinsZeroAsNothing : ByteArray := prog_6_method_14_code
def yX4_joinsZeroAsNothing : MethodName := ⟨RX4, "joinsZeroAsNothing", "()Z"⟩
abbrev cX4_keepsOrder : ByteArray := prog_6_method_15_code
def yX4_keepsOrder : MethodName := ⟨RX4, "keepsOrder", "(I)Z"⟩
abbrev cX4_firstOutOfOrder : ByteArray := prog_6_method_16_code
def yX4_firstOutOfOrder : MethodName := ⟨RX4, "firstOutOfOrder", "()I"⟩
abbrev cX4_isWell : ByteArray := prog_6_method_17_code
def yX4_isWell : MethodName := ⟨RX4, "isWell", "()Z"⟩
abbrev cX4_isKept : ByteArray := prog_6_method_18_code
def yX4_isKept : MethodName := ⟨RX4, "isKept", "(I)Z"⟩
abbrev cX4_keptPlaces : ByteArray := prog_6_method_19_code
def yX4_keptPlaces : MethodName := ⟨RX4, "keptPlaces", "()I"⟩
abbrev cX4_brought : ByteArray := prog_6_method_20_code
def yX4_brought : MethodName := ⟨RX4, "brought", "(I[I)I"⟩
abbrev cX4_together : ByteArray := prog_6_method_21_code
def yX4_together : MethodName := ⟨RX4, "together", "(I[II)I"⟩
abbrev cX4_isNoMore : ByteArray := prog_6_method_22_code
def yX4_isNoMore : MethodName := ⟨RX4, "isNoMore", "(II)Z"⟩
abbrev cX4_addWay : ByteArray := prog_6_method_23_code
def yX4_addWay : MethodName := ⟨RX4, "addWay", "(II)I"⟩
abbrev cX4_removeWay : ByteArray := prog_6_method_24_code
def yX4_removeWay : MethodName := ⟨RX4, "removeWay", "(I)V"⟩
def RX5 : String := "FixedFacts$Work"
def TX5 : u_T := fun k => match k with
  | 0 => ("FixedFacts$Work", "found", "[I", true)
  | 1 => ("FixedFacts$Work", "waiting", "[I", true)
  | _ => ("FixedFacts$Work", "waits", "I", false)
def tyX5 : Nat → FieldType := fun k => match k with
  | 0 => .array .int
  | 1 => .array .int
  | _ => .int
abbrev wsX50 : List Cond := u_ws RX5 TX5 3
theorem nmX5 : ∀ a, a < 3 → ∀ b, b < 3 → a ≠ b → (TX5 a).2.1 ≠ (TX5 b).2.1 := by decide +kernel
theorem tyX5_ok : ∀ k, k < 3 → parseFieldDescriptor (TX5 k).2.2.1 = some (tyX5 k) := by decide +kernel
abbrev cX5_init : ByteArray := prog_7_method_1_code
def yX5_init : MethodName := ⟨RX5, "<init>", "()V"⟩
abbrev cX5_run : ByteArray := prog_7_method_2_code
def yX5_run : MethodName := ⟨RX5, "run", "(LFixedFacts$Web;II)I"⟩
abbrev cX5_takeNext : ByteArray := prog_7_method_3_code
def yX5_takeNext : MethodName := ⟨RX5, "takeNext", "(I)I"⟩
abbrev cX5_leastWaiting : ByteArray := prog_7_method_4_code
def yX5_leastWaiting : MethodName := ⟨RX5, "leastWaiting", "()I"⟩
abbrev cX5_wakeBehind : ByteArray := prog_7_method_5_code
def yX5_wakeBehind : MethodName := ⟨RX5, "wakeBehind", "(LFixedFacts$Web;II)V"⟩
abbrev cX5_isWaiting : ByteArray := prog_7_method_6_code
def yX5_isWaiting : MethodName := ⟨RX5, "isWaiting", "(I)Z"⟩
def RX6 : String := "FixedFacts"
def TX6 : u_T := fun k => match k with
  | 0 => ("FixedFacts", "web", "LFixedFacts$Web;", true)
  | 1 => ("FixedFacts", "past", "LFixedFacts$Past;", true)
  | 2 => ("FixedFacts", "firstImage", "LFixedFacts$Image;", true)
  | 3 => ("FixedFacts", "secondImage", "LFixedFacts$Image;", true)
  | 4 => ("FixedFacts", "book", "LFixedFacts$Book;", true)
  | 5 => ("FixedFacts", "known", "LFixedFacts$Work;", true)
  | 6 => ("FixedFacts", "trial", "LFixedFacts$Work;", true)
  | 7 => ("FixedFacts", "judge", "LFixedFacts$Judge;", true)
  | _ => ("FixedFacts", "drawn", "I", false)
def tyX6 : Nat → FieldType := fun k => match k with
  | 0 => .object "FixedFacts$Web"
  | 1 => .object "FixedFacts$Past"
  | 2 => .object "FixedFacts$Image"
  | 3 => .object "FixedFacts$Image"
  | 4 => .object "FixedFacts$Book"
  | 5 => .object "FixedFacts$Work"
  | 6 => .object "FixedFacts$Work"
  | 7 => .object "FixedFacts$Judge"
  | _ => .int
abbrev wsX60 : List Cond := u_ws RX6 TX6 9
theorem nmX6 : ∀ a, a < 9 → ∀ b, b < 9 → a ≠ b → (TX6 a).2.1 ≠ (TX6 b).2.1 := by decide +kernel
theorem tyX6_ok : ∀ k, k < 9 → parseFieldDescriptor (TX6 k).2.2.1 = some (tyX6 k) := by decide +kernel
abbrev cX6_init : ByteArray := prog_1_method_1_code
def yX6_init : MethodName := ⟨RX6, "<init>", "()V"⟩
abbrev cX6_told : ByteArray := prog_1_method_2_code
def yX6_told : MethodName := ⟨RX6, "told", "(I)I"⟩
abbrev cX6_joined : ByteArray := prog_1_method_3_code
def yX6_joined : MethodName := ⟨RX6, "joined", "(II)I"⟩
abbrev cX6_below : ByteArray := prog_1_method_4_code
def yX6_below : MethodName := ⟨RX6, "below", "(II)I"⟩
abbrev cX6_place : ByteArray := prog_1_method_5_code
def yX6_place : MethodName := ⟨RX6, "place", "(II)I"⟩
abbrev cX6_wayAt : ByteArray := prog_1_method_6_code
def yX6_wayAt : MethodName := ⟨RX6, "wayAt", "(II)I"⟩
abbrev cX6_mapped : ByteArray := prog_1_method_7_code
def yX6_mapped : MethodName := ⟨RX6, "mapped", "(II)I"⟩
abbrev cX6_steps : ByteArray := prog_1_method_8_code
def yX6_steps : MethodName := ⟨RX6, "steps", "(I)I"⟩
abbrev cX6_worked : ByteArray := prog_1_method_9_code
def yX6_worked : MethodName := ⟨RX6, "worked", "(II)I"⟩
abbrev cX6_build : ByteArray := prog_1_method_10_code
def yX6_build : MethodName := ⟨RX6, "build", "(III)I"⟩
abbrev cX6_cell : ByteArray := prog_1_method_11_code
def yX6_cell : MethodName := ⟨RX6, "cell", "(III)I"⟩
abbrev cX6_start : ByteArray := prog_1_method_12_code
def yX6_start : MethodName := ⟨RX6, "start", "(III)I"⟩
abbrev cX6_way : ByteArray := prog_1_method_13_code
def yX6_way : MethodName := ⟨RX6, "way", "(II)I"⟩
abbrev cX6_drop : ByteArray := prog_1_method_14_code
def yX6_drop : MethodName := ⟨RX6, "drop", "(I)I"⟩
abbrev cX6_map : ByteArray := prog_1_method_15_code
def yX6_map : MethodName := ⟨RX6, "map", "(III)I"⟩
abbrev cX6_marks : ByteArray := prog_1_method_16_code
def yX6_marks : MethodName := ⟨RX6, "marks", "(III)I"⟩
abbrev cX6_gate : ByteArray := prog_1_method_17_code
def yX6_gate : MethodName := ⟨RX6, "gate", "(II)I"⟩
abbrev cX6_write : ByteArray := prog_1_method_18_code
def yX6_write : MethodName := ⟨RX6, "write", "(III)I"⟩
abbrev cX6_copy : ByteArray := prog_1_method_19_code
def yX6_copy : MethodName := ⟨RX6, "copy", "()I"⟩
abbrev cX6_drift : ByteArray := prog_1_method_20_code
def yX6_drift : MethodName := ⟨RX6, "drift", "(I)I"⟩
abbrev cX6_undo : ByteArray := prog_1_method_21_code
def yX6_undo : MethodName := ⟨RX6, "undo", "(I)I"⟩
abbrev cX6_note : ByteArray := prog_1_method_22_code
def yX6_note : MethodName := ⟨RX6, "note", "(III)I"⟩
abbrev cX6_tear : ByteArray := prog_1_method_23_code
def yX6_tear : MethodName := ⟨RX6, "tear", "()I"⟩
abbrev cX6_seed : ByteArray := prog_1_method_24_code
def yX6_seed : MethodName := ⟨RX6, "seed", "(I)I"⟩
abbrev cX6_keep : ByteArray := prog_1_method_25_code
def yX6_keep : MethodName := ⟨RX6, "keep", "(I)I"⟩
abbrev cX6_goBack : ByteArray := prog_1_method_26_code
def yX6_goBack : MethodName := ⟨RX6, "goBack", "(I)I"⟩
abbrev cX6_valueOf : ByteArray := prog_1_method_27_code
def yX6_valueOf : MethodName := ⟨RX6, "valueOf", "(I)I"⟩
abbrev cX6_setOf : ByteArray := prog_1_method_28_code
def yX6_setOf : MethodName := ⟨RX6, "setOf", "(I)I"⟩
abbrev cX6_isSet : ByteArray := prog_1_method_29_code
def yX6_isSet : MethodName := ⟨RX6, "isSet", "(I)Z"⟩
abbrev cX6_isChoice : ByteArray := prog_1_method_30_code
def yX6_isChoice : MethodName := ⟨RX6, "isChoice", "(I)Z"⟩
abbrev cX6_findKnown : ByteArray := prog_1_method_31_code
def yX6_findKnown : MethodName := ⟨RX6, "findKnown", "()Z"⟩
abbrev cX6_otherwiseWithout : ByteArray := prog_1_method_32_code
def yX6_otherwiseWithout : MethodName := ⟨RX6, "otherwiseWithout", "(I)I"⟩
abbrev cX6_waysThatMatter : ByteArray := prog_1_method_33_code
def yX6_waysThatMatter : MethodName := ⟨RX6, "waysThatMatter", "()I"⟩
abbrev cX6_rebuiltAt : ByteArray := prog_1_method_34_code
def yX6_rebuiltAt : MethodName := ⟨RX6, "rebuiltAt", "(I)I"⟩
abbrev cX6_isExact : ByteArray := prog_1_method_35_code
def yX6_isExact : MethodName := ⟨RX6, "isExact", "()Z"⟩
abbrev cX6_firstWrongEntry : ByteArray := prog_1_method_36_code
def yX6_firstWrongEntry : MethodName := ⟨RX6, "firstWrongEntry", "()I"⟩
abbrev cX6_addDrawnWay : ByteArray := prog_1_method_37_code
def yX6_addDrawnWay : MethodName := ⟨RX6, "addDrawnWay", "()V"⟩
abbrev cX6_draw : ByteArray := prog_1_method_38_code
def yX6_draw : MethodName := ⟨RX6, "draw", "(I)I"⟩
def RX7 : String := "FixedFactsModel"
def TX7 : u_T := fun k => match k with
  | 0 => ("FixedFactsModel", "st", "[I", true)
  | 1 => ("FixedFactsModel", "past", "[I", true)
  | 2 => ("FixedFactsModel", "undos", "I", false)
  | 3 => ("FixedFactsModel", "images", "[I", true)
  | 4 => ("FixedFactsModel", "isKeptIn", "[Z", true)
  | 5 => ("FixedFactsModel", "seed", "I", false)
  | 6 => ("FixedFactsModel", "book", "[I", true)
  | 7 => ("FixedFactsModel", "entries", "I", false)
  | 8 => ("FixedFactsModel", "known", "[I", true)
  | 9 => ("FixedFactsModel", "tried", "[I", true)
  | 10 => ("FixedFactsModel", "rebuilt", "[I", true)
  | 11 => ("FixedFactsModel", "broughtValue", "I", false)
  | 12 => ("FixedFactsModel", "broughtSet", "I", false)
  | 13 => ("FixedFactsModel", "gotValue", "I", false)
  | 14 => ("FixedFactsModel", "gotSet", "I", false)
  | 15 => ("FixedFactsModel", "row", "[I", true)
  | _ => ("FixedFactsModel", "waiting", "I", false)
def tyX7 : Nat → FieldType := fun k => match k with
  | 0 => .array .int
  | 1 => .array .int
  | 2 => .int
  | 3 => .array .int
  | 4 => .array .boolean
  | 5 => .int
  | 6 => .array .int
  | 7 => .int
  | 8 => .array .int
  | 9 => .array .int
  | 10 => .array .int
  | 11 => .int
  | 12 => .int
  | 13 => .int
  | 14 => .int
  | 15 => .array .int
  | _ => .int
abbrev wsX70 : List Cond := u_ws RX7 TX7 17
theorem nmX7 : ∀ a, a < 17 → ∀ b, b < 17 → a ≠ b → (TX7 a).2.1 ≠ (TX7 b).2.1 := by decide +kernel
theorem tyX7_ok : ∀ k, k < 17 → parseFieldDescriptor (TX7 k).2.2.1 = some (tyX7 k) := by decide +kernel
abbrev cX7_init : ByteArray := prog_9_method_1_code
def yX7_init : MethodName := ⟨RX7, "<init>", "()V"⟩
abbrev cX7_in : ByteArray := prog_9_method_3_code
def yX7_in : MethodName := ⟨RX7, "in", "(III)Z"⟩
abbrev cX7_isValue : ByteArray := prog_9_method_5_code
def yX7_isValue : MethodName := ⟨RX7, "isValue", "(I)Z"⟩
abbrev cX7_both : ByteArray := prog_9_method_6_code
def yX7_both : MethodName := ⟨RX7, "both", "(II)I"⟩
abbrev cX7_isBelow : ByteArray := prog_9_method_7_code
def yX7_isBelow : MethodName := ⟨RX7, "isBelow", "(II)Z"⟩
abbrev cX7_holds : ByteArray := prog_9_method_8_code
def yX7_holds : MethodName := ⟨RX7, "holds", "(IIII)Z"⟩
abbrev cX7_broken : ByteArray := prog_9_method_9_code
def yX7_broken : MethodName := ⟨RX7, "broken", "()I"⟩
abbrev cX7_isPlace : ByteArray := prog_9_method_10_code
def yX7_isPlace : MethodName := ⟨RX7, "isPlace", "(I)Z"⟩
abbrev cX7_isWay : ByteArray := prog_9_method_11_code
def yX7_isWay : MethodName := ⟨RX7, "isWay", "(I)Z"⟩
abbrev cX7_of : ByteArray := prog_9_method_12_code
def yX7_of : MethodName := ⟨RX7, "of", "(II)I"⟩
abbrev cX7_keepsOrder : ByteArray := prog_9_method_13_code
def yX7_keepsOrder : MethodName := ⟨RX7, "keepsOrder", "(I)Z"⟩
abbrev cX7_firstUnordered : ByteArray := prog_9_method_14_code
def yX7_firstUnordered : MethodName := ⟨RX7, "firstUnordered", "()I"⟩
abbrev cX7_isWell : ByteArray := prog_9_method_15_code
def yX7_isWell : MethodName := ⟨RX7, "isWell", "()Z"⟩
abbrev cX7_isSet : ByteArray := prog_9_method_16_code
def yX7_isSet : MethodName := ⟨RX7, "isSet", "(I)Z"⟩
abbrev cX7_brings : ByteArray := prog_9_method_17_code
def yX7_brings : MethodName := ⟨RX7, "brings", "(III)V"⟩
abbrev cX7_gathers : ByteArray := prog_9_method_18_code
def yX7_gathers : MethodName := ⟨RX7, "gathers", "([III)V"⟩
abbrev cX7_waits : ByteArray := prog_9_method_19_code
def yX7_waits : MethodName := ⟨RX7, "waits", "(I)Z"⟩
abbrev cX7_taken : ByteArray := prog_9_method_20_code
def yX7_taken : MethodName := ⟨RX7, "taken", "(I)I"⟩
abbrev cX7_works : ByteArray := prog_9_method_21_code
def yX7_works : MethodName := ⟨RX7, "works", "([III)I"⟩
abbrev cX7_without : ByteArray := prog_9_method_22_code
def yX7_without : MethodName := ⟨RX7, "without", "(I)I"⟩
abbrev cX7_matters : ByteArray := prog_9_method_23_code
def yX7_matters : MethodName := ⟨RX7, "matters", "()I"⟩
abbrev cX7_isKept : ByteArray := prog_9_method_24_code
def yX7_isKept : MethodName := ⟨RX7, "isKept", "(I)Z"⟩
abbrev cX7_kept : ByteArray := prog_9_method_25_code
def yX7_kept : MethodName := ⟨RX7, "kept", "()I"⟩
abbrev cX7_rebuilds : ByteArray := prog_9_method_26_code
def yX7_rebuilds : MethodName := ⟨RX7, "rebuilds", "()V"⟩
abbrev cX7_isLess : ByteArray := prog_9_method_27_code
def yX7_isLess : MethodName := ⟨RX7, "isLess", "(III)Z"⟩
abbrev cX7_isTakenAt : ByteArray := prog_9_method_28_code
def yX7_isTakenAt : MethodName := ⟨RX7, "isTakenAt", "(I)Z"⟩
abbrev cX7_refused : ByteArray := prog_9_method_29_code
def yX7_refused : MethodName := ⟨RX7, "refused", "()I"⟩
abbrev cX7_isExact : ByteArray := prog_9_method_30_code
def yX7_isExact : MethodName := ⟨RX7, "isExact", "()Z"⟩
abbrev cX7_wrong : ByteArray := prog_9_method_31_code
def yX7_wrong : MethodName := ⟨RX7, "wrong", "()I"⟩
abbrev cX7_told : ByteArray := prog_9_method_32_code
def yX7_told : MethodName := ⟨RX7, "told", "(I)I"⟩
abbrev cX7_joined : ByteArray := prog_9_method_33_code
def yX7_joined : MethodName := ⟨RX7, "joined", "(II)I"⟩
abbrev cX7_below : ByteArray := prog_9_method_34_code
def yX7_below : MethodName := ⟨RX7, "below", "(II)I"⟩
abbrev cX7_knownAt : ByteArray := prog_9_method_35_code
def yX7_knownAt : MethodName := ⟨RX7, "knownAt", "(I)I"⟩
abbrev cX7_rebuiltAt : ByteArray := prog_9_method_36_code
def yX7_rebuiltAt : MethodName := ⟨RX7, "rebuiltAt", "(I)I"⟩
abbrev cX7_place : ByteArray := prog_9_method_37_code
def yX7_place : MethodName := ⟨RX7, "place", "(II)I"⟩
abbrev cX7_broughtBy : ByteArray := prog_9_method_38_code
def yX7_broughtBy : MethodName := ⟨RX7, "broughtBy", "(II)I"⟩
abbrev cX7_wayAt : ByteArray := prog_9_method_39_code
def yX7_wayAt : MethodName := ⟨RX7, "wayAt", "(II)I"⟩
abbrev cX7_mapped : ByteArray := prog_9_method_40_code
def yX7_mapped : MethodName := ⟨RX7, "mapped", "(II)I"⟩
abbrev cX7_steps : ByteArray := prog_9_method_41_code
def yX7_steps : MethodName := ⟨RX7, "steps", "(I)I"⟩
abbrev cX7_worked : ByteArray := prog_9_method_42_code
def yX7_worked : MethodName := ⟨RX7, "worked", "(II)I"⟩
abbrev cX7_notes : ByteArray := prog_9_method_43_code
def yX7_notes : MethodName := ⟨RX7, "notes", "()V"⟩
abbrev cX7_builds : ByteArray := prog_9_method_44_code
def yX7_builds : MethodName := ⟨RX7, "builds", "(III)V"⟩
abbrev cX7_build : ByteArray := prog_9_method_45_code
def yX7_build : MethodName := ⟨RX7, "build", "(III)I"⟩
abbrev cX7_cell : ByteArray := prog_9_method_46_code
def yX7_cell : MethodName := ⟨RX7, "cell", "(III)I"⟩
abbrev cX7_start : ByteArray := prog_9_method_47_code
def yX7_start : MethodName := ⟨RX7, "start", "(III)I"⟩
abbrev cX7_comes : ByteArray := prog_9_method_48_code
def yX7_comes : MethodName := ⟨RX7, "comes", "(IIIII)V"⟩
abbrev cX7_way : ByteArray := prog_9_method_49_code
def yX7_way : MethodName := ⟨RX7, "way", "(II)I"⟩
abbrev cX7_drop : ByteArray := prog_9_method_50_code
def yX7_drop : MethodName := ⟨RX7, "drop", "(I)I"⟩
abbrev cX7_map : ByteArray := prog_9_method_51_code
def yX7_map : MethodName := ⟨RX7, "map", "(III)I"⟩
abbrev cX7_marks : ByteArray := prog_9_method_52_code
def yX7_marks : MethodName := ⟨RX7, "marks", "(III)I"⟩
abbrev cX7_gate : ByteArray := prog_9_method_53_code
def yX7_gate : MethodName := ⟨RX7, "gate", "(II)I"⟩
abbrev cX7_write : ByteArray := prog_9_method_54_code
def yX7_write : MethodName := ⟨RX7, "write", "(III)I"⟩
abbrev cX7_copy : ByteArray := prog_9_method_55_code
def yX7_copy : MethodName := ⟨RX7, "copy", "()I"⟩
abbrev cX7_draw : ByteArray := prog_9_method_56_code
def yX7_draw : MethodName := ⟨RX7, "draw", "(I)I"⟩
abbrev cX7_drift : ByteArray := prog_9_method_57_code
def yX7_drift : MethodName := ⟨RX7, "drift", "(I)I"⟩
abbrev cX7_undo : ByteArray := prog_9_method_58_code
def yX7_undo : MethodName := ⟨RX7, "undo", "(I)I"⟩
abbrev cX7_note : ByteArray := prog_9_method_59_code
def yX7_note : MethodName := ⟨RX7, "note", "(III)I"⟩
abbrev cX7_tear : ByteArray := prog_9_method_60_code
def yX7_tear : MethodName := ⟨RX7, "tear", "()I"⟩
abbrev cX7_seed : ByteArray := prog_9_method_61_code
def yX7_seed : MethodName := ⟨RX7, "seed", "(I)I"⟩
abbrev cX7_keep : ByteArray := prog_9_method_62_code
def yX7_keep : MethodName := ⟨RX7, "keep", "(I)I"⟩
abbrev cX7_goBack : ByteArray := prog_9_method_63_code
def yX7_goBack : MethodName := ⟨RX7, "goBack", "(I)I"⟩
def RJ9 : String := "java/lang/Math"
def TJ9 : u_T := fun k => match k with
  | _ => ("", "", "", false)
def tyJ9 : Nat → FieldType := fun k => match k with
  | _ => .int
abbrev wsJ90 : List Cond := u_ws RJ9 TJ9 0
theorem nmJ9 : ∀ a, a < 0 → ∀ b, b < 0 → a ≠ b → (TJ9 a).2.1 ≠ (TJ9 b).2.1 := by decide +kernel
theorem tyJ9_ok : ∀ k, k < 0 → parseFieldDescriptor (TJ9 k).2.2.1 = some (tyJ9 k) := by decide +kernel
abbrev cJ9_max_7cf53 : ByteArray := prog_10_method_65_code
def yJ9_max_7cf53 : MethodName := ⟨RJ9, "max", "(II)I"⟩
abbrev cJ9_min_7cf53 : ByteArray := prog_10_method_69_code
def yJ9_min_7cf53 : MethodName := ⟨RJ9, "min", "(II)I"⟩
def RJ10 : String := "java/lang/System"
def TJ10 : u_T := fun k => match k with
  | _ => ("", "", "", false)
def tyJ10 : Nat → FieldType := fun k => match k with
  | _ => .int
abbrev wsJ100 : List Cond := u_ws RJ10 TJ10 0
theorem nmJ10 : ∀ a, a < 0 → ∀ b, b < 0 → a ≠ b → (TJ10 a).2.1 ≠ (TJ10 b).2.1 := by decide +kernel
theorem tyJ10_ok : ∀ k, k < 0 → parseFieldDescriptor (TJ10 k).2.2.1 = some (tyJ10 k) := by decide +kernel
def RL : String := "FixedFactsLaw"
abbrev cL_law : ByteArray := code
def yL_law : MethodName := ⟨RL, "law", "([I)Z"⟩
abbrev vwCl : List vw_C := [(RX0, TX0, 3), (RX1, TX1, 3), (RX2, TX2, 1), (RX3, TX3, 3), (RX4, TX4, 12), (RX5, TX5, 3), (RX6, TX6, 9), (RX7, TX7, 17)]
theorem goodIn_r {big : List Cond} (ws : List Cond) (ps : List Nat) (hp : ws = ps.filterMap (fun i => big[i]?)) (h : ws.all goodWord = true) : GoodIn big ws := by
  intro w hw
  have h1 := List.all_eq_true.mp h w hw
  rw [hp] at hw
  obtain ⟨i, -, hi⟩ := List.mem_filterMap.mp hw
  have hm : w ∈ big := by first | exact List.mem_of_getElem? hi | exact List.getElem?_mem hi
  exact ⟨hm, good_of_word h1⟩
/-- the tables' words that a call hands on -/
def wT : List Cond := lw_tbl.filter goodWord
theorem kmem {w : Cond} (k : Nat) (h : lw_tbl[k]? = some w) (g : goodWord w = true) : w ∈ wT := List.mem_filter.mpr ⟨List.mem_of_getElem? h, g⟩
theorem kIn (ws : List Cond) (ps : List Nat) (hp : ws = ps.filterMap (fun i => lw_tbl[i]?)) (h : ws.all goodWord = true) : ∀ w ∈ ws, w ∈ wT := fun w hw => List.mem_filter.mpr ⟨(goodIn_r ws ps hp h w hw).1, List.all_eq_true.mp h w hw⟩
theorem kGood (w : Cond) (h : w ∈ wT) : (w.onTables && w.keeps) = true ∨ ∃ ty, w = .arrayClass ty := good_of_word (List.mem_filter.mp h).2
theorem inT0 : ∀ w ∈ wsX00, w ∈ wT := kIn _ [180, 182, 184] (by decide +kernel) (by decide +kernel)
theorem inT1 : ∀ w ∈ wsX10, w ∈ wT := kIn _ [163, 165, 167] (by decide +kernel) (by decide +kernel)
theorem inT2 : ∀ w ∈ wsX20, w ∈ wT := kIn _ [212] (by decide +kernel) (by decide +kernel)
theorem inT3 : ∀ w ∈ wsX30, w ∈ wT := kIn _ [144, 146, 148] (by decide +kernel) (by decide +kernel)
theorem inT4 : ∀ w ∈ wsX40, w ∈ wT := kIn _ [105, 107, 109, 111, 113, 115, 117, 119, 121, 123, 125, 127] (by decide +kernel) (by decide +kernel)
theorem inT5 : ∀ w ∈ wsX50, w ∈ wT := kIn _ [197, 199, 201] (by decide +kernel) (by decide +kernel)
theorem inT6 : ∀ w ∈ wsX60, w ∈ wT := kIn _ [235, 237, 239, 241, 243, 245, 247, 249, 251] (by decide +kernel) (by decide +kernel)
theorem inT7 : ∀ w ∈ wsX70, w ∈ wT := kIn _ [583, 585, 587, 589, 591, 593, 595, 597, 599, 601, 603, 605, 607, 609, 611, 613, 615] (by decide +kernel) (by decide +kernel)
