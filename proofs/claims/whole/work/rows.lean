section
-- ===== PART A: goes FIRST, ahead of the names: the tables' words, and 'selects' of the private methods out of them =====
/-- a private method of a class that the tables say can be made, by its rows of tables_1 -/
def lw_okq (q : MethodName × Nat) : Prop := (q.1.cls ≠ "java/lang/invoke/MethodHandle" ∧ q.1.cls ≠ "java/lang/invoke/VarHandle") ∧ Cond.instantiable q.1.cls q.2 ∈ tables_1 ∧ Cond.privateMethod q.1 ∈ tables_1 ∧ Cond.instanceMethod q.1 ∈ tables_1
theorem lw_p0 : lw_okq (⟨"FixedFacts$Web", "joinedByOrder", "(III)I"⟩, 12) := ⟨⟨by decide +kernel, by decide +kernel⟩, List.mem_of_getElem? (i := 20) (by decide +kernel), List.mem_of_getElem? (i := 170) (by decide +kernel), List.mem_of_getElem? (i := 171) (by decide +kernel)⟩
theorem lw_p1 : lw_okq (⟨"FixedFacts$Web", "joinsWithItself", "()Z"⟩, 12) := ⟨⟨by decide +kernel, by decide +kernel⟩, List.mem_of_getElem? (i := 20) (by decide +kernel), List.mem_of_getElem? (i := 213) (by decide +kernel), List.mem_of_getElem? (i := 214) (by decide +kernel)⟩
theorem lw_p2 : lw_okq (⟨"FixedFacts$Web", "joinsBothWaysAlike", "()Z"⟩, 12) := ⟨⟨by decide +kernel, by decide +kernel⟩, List.mem_of_getElem? (i := 20) (by decide +kernel), List.mem_of_getElem? (i := 221) (by decide +kernel), List.mem_of_getElem? (i := 222) (by decide +kernel)⟩
theorem lw_p3 : lw_okq (⟨"FixedFacts$Web", "joinsInAnyGroupsAlike", "()Z"⟩, 12) := ⟨⟨by decide +kernel, by decide +kernel⟩, List.mem_of_getElem? (i := 20) (by decide +kernel), List.mem_of_getElem? (i := 225) (by decide +kernel), List.mem_of_getElem? (i := 226) (by decide +kernel)⟩
theorem lw_p4 : lw_okq (⟨"FixedFacts$Web", "joinsZeroAsNothing", "()Z"⟩, 12) := ⟨⟨by decide +kernel, by decide +kernel⟩, List.mem_of_getElem? (i := 20) (by decide +kernel), List.mem_of_getElem? (i := 229) (by decide +kernel), List.mem_of_getElem? (i := 230) (by decide +kernel)⟩
theorem lw_p5 : lw_okq (⟨"FixedFacts", "isExact", "()Z"⟩, 9) := ⟨⟨by decide +kernel, by decide +kernel⟩, List.mem_of_getElem? (i := 12) (by decide +kernel), List.mem_of_getElem? (i := 285) (by decide +kernel), List.mem_of_getElem? (i := 286) (by decide +kernel)⟩
theorem lw_p6 : lw_okq (⟨"FixedFacts", "findKnown", "()Z"⟩, 9) := ⟨⟨by decide +kernel, by decide +kernel⟩, List.mem_of_getElem? (i := 12) (by decide +kernel), List.mem_of_getElem? (i := 289) (by decide +kernel), List.mem_of_getElem? (i := 290) (by decide +kernel)⟩
theorem lw_p7 : lw_okq (⟨"FixedFacts$Work", "takeNext", "(I)I"⟩, 3) := ⟨⟨by decide +kernel, by decide +kernel⟩, List.mem_of_getElem? (i := 138) (by decide +kernel), List.mem_of_getElem? (i := 297) (by decide +kernel), List.mem_of_getElem? (i := 298) (by decide +kernel)⟩
theorem lw_p8 : lw_okq (⟨"FixedFacts$Work", "leastWaiting", "()I"⟩, 3) := ⟨⟨by decide +kernel, by decide +kernel⟩, List.mem_of_getElem? (i := 138) (by decide +kernel), List.mem_of_getElem? (i := 301) (by decide +kernel), List.mem_of_getElem? (i := 302) (by decide +kernel)⟩
theorem lw_p9 : lw_okq (⟨"FixedFacts$Work", "wakeBehind", "(LFixedFacts$Web;II)V"⟩, 3) := ⟨⟨by decide +kernel, by decide +kernel⟩, List.mem_of_getElem? (i := 138) (by decide +kernel), List.mem_of_getElem? (i := 306) (by decide +kernel), List.mem_of_getElem? (i := 307) (by decide +kernel)⟩
theorem lw_p10 : lw_okq (⟨"FixedFacts$Work", "isWaiting", "(I)Z"⟩, 3) := ⟨⟨by decide +kernel, by decide +kernel⟩, List.mem_of_getElem? (i := 138) (by decide +kernel), List.mem_of_getElem? (i := 310) (by decide +kernel), List.mem_of_getElem? (i := 311) (by decide +kernel)⟩
theorem lw_p11 : lw_okq (⟨"FixedFacts", "waysThatMatter", "()I"⟩, 9) := ⟨⟨by decide +kernel, by decide +kernel⟩, List.mem_of_getElem? (i := 12) (by decide +kernel), List.mem_of_getElem? (i := 314) (by decide +kernel), List.mem_of_getElem? (i := 315) (by decide +kernel)⟩
theorem lw_p12 : lw_okq (⟨"FixedFacts", "otherwiseWithout", "(I)I"⟩, 9) := ⟨⟨by decide +kernel, by decide +kernel⟩, List.mem_of_getElem? (i := 12) (by decide +kernel), List.mem_of_getElem? (i := 318) (by decide +kernel), List.mem_of_getElem? (i := 319) (by decide +kernel)⟩
theorem lw_p13 : lw_okq (⟨"FixedFacts", "firstWrongEntry", "()I"⟩, 9) := ⟨⟨by decide +kernel, by decide +kernel⟩, List.mem_of_getElem? (i := 12) (by decide +kernel), List.mem_of_getElem? (i := 322) (by decide +kernel), List.mem_of_getElem? (i := 323) (by decide +kernel)⟩
theorem lw_p14 : lw_okq (⟨"FixedFacts", "rebuiltAt", "(I)I"⟩, 9) := ⟨⟨by decide +kernel, by decide +kernel⟩, List.mem_of_getElem? (i := 12) (by decide +kernel), List.mem_of_getElem? (i := 356) (by decide +kernel), List.mem_of_getElem? (i := 357) (by decide +kernel)⟩
theorem lw_p15 : lw_okq (⟨"FixedFacts", "addDrawnWay", "()V"⟩, 9) := ⟨⟨by decide +kernel, by decide +kernel⟩, List.mem_of_getElem? (i := 12) (by decide +kernel), List.mem_of_getElem? (i := 458) (by decide +kernel), List.mem_of_getElem? (i := 459) (by decide +kernel)⟩
def lw_privs_1 : List (MethodName × Nat) := [(⟨"FixedFacts$Web", "joinedByOrder", "(III)I"⟩, 12), (⟨"FixedFacts$Web", "joinsWithItself", "()Z"⟩, 12), (⟨"FixedFacts$Web", "joinsBothWaysAlike", "()Z"⟩, 12), (⟨"FixedFacts$Web", "joinsInAnyGroupsAlike", "()Z"⟩, 12), (⟨"FixedFacts$Web", "joinsZeroAsNothing", "()Z"⟩, 12), (⟨"FixedFacts", "isExact", "()Z"⟩, 9), (⟨"FixedFacts", "findKnown", "()Z"⟩, 9), (⟨"FixedFacts$Work", "takeNext", "(I)I"⟩, 3), (⟨"FixedFacts$Work", "leastWaiting", "()I"⟩, 3), (⟨"FixedFacts$Work", "wakeBehind", "(LFixedFacts$Web;II)V"⟩, 3), (⟨"FixedFacts$Work", "isWaiting", "(I)Z"⟩, 3), (⟨"FixedFacts", "waysThatMatter", "()I"⟩, 9), (⟨"FixedFacts", "otherwiseWithout", "(I)I"⟩, 9), (⟨"FixedFacts", "firstWrongEntry", "()I"⟩, 9), (⟨"FixedFacts", "rebuiltAt", "(I)I"⟩, 9), (⟨"FixedFacts", "addDrawnWay", "()V"⟩, 9)]
theorem lw_r1 : ∀ q ∈ lw_privs_1, lw_okq q := List.forall_mem_cons.mpr ⟨lw_p0, List.forall_mem_cons.mpr ⟨lw_p1, List.forall_mem_cons.mpr ⟨lw_p2, List.forall_mem_cons.mpr ⟨lw_p3, List.forall_mem_cons.mpr ⟨lw_p4, List.forall_mem_cons.mpr ⟨lw_p5, List.forall_mem_cons.mpr ⟨lw_p6, List.forall_mem_cons.mpr ⟨lw_p7, List.forall_mem_cons.mpr ⟨lw_p8, List.forall_mem_cons.mpr ⟨lw_p9, List.forall_mem_cons.mpr ⟨lw_p10, List.forall_mem_cons.mpr ⟨lw_p11, List.forall_mem_cons.mpr ⟨lw_p12, List.forall_mem_cons.mpr ⟨lw_p13, List.forall_mem_cons.mpr ⟨lw_p14, List.forall_mem_cons.mpr ⟨lw_p15, fun _ h => absurd h List.not_mem_nil⟩⟩⟩⟩⟩⟩⟩⟩⟩⟩⟩⟩⟩⟩⟩⟩
theorem lw_p16 : lw_okq (⟨"FixedFacts", "draw", "(I)I"⟩, 9) := ⟨⟨by decide +kernel, by decide +kernel⟩, List.mem_of_getElem? (i := 12) (by decide +kernel), List.mem_of_getElem? (i := 462) (by decide +kernel), List.mem_of_getElem? (i := 463) (by decide +kernel)⟩
theorem lw_p17 : lw_okq (⟨"FixedFactsModel", "builds", "(III)V"⟩, 17) := ⟨⟨by decide +kernel, by decide +kernel⟩, List.mem_of_getElem? (i := 507) (by decide +kernel), List.mem_of_getElem? (i := 513) (by decide +kernel), List.mem_of_getElem? (i := 514) (by decide +kernel)⟩
theorem lw_p18 : lw_okq (⟨"FixedFactsModel", "broken", "()I"⟩, 17) := ⟨⟨by decide +kernel, by decide +kernel⟩, List.mem_of_getElem? (i := 507) (by decide +kernel), List.mem_of_getElem? (i := 574) (by decide +kernel), List.mem_of_getElem? (i := 575) (by decide +kernel)⟩
theorem lw_p19 : lw_okq (⟨"FixedFactsModel", "holds", "(IIII)Z"⟩, 17) := ⟨⟨by decide +kernel, by decide +kernel⟩, List.mem_of_getElem? (i := 507) (by decide +kernel), List.mem_of_getElem? (i := 578) (by decide +kernel), List.mem_of_getElem? (i := 579) (by decide +kernel)⟩
theorem lw_p20 : lw_okq (⟨"FixedFactsModel", "both", "(II)I"⟩, 17) := ⟨⟨by decide +kernel, by decide +kernel⟩, List.mem_of_getElem? (i := 507) (by decide +kernel), List.mem_of_getElem? (i := 582) (by decide +kernel), List.mem_of_getElem? (i := 583) (by decide +kernel)⟩
theorem lw_p21 : lw_okq (⟨"FixedFactsModel", "firstUnordered", "()I"⟩, 17) := ⟨⟨by decide +kernel, by decide +kernel⟩, List.mem_of_getElem? (i := 507) (by decide +kernel), List.mem_of_getElem? (i := 586) (by decide +kernel), List.mem_of_getElem? (i := 587) (by decide +kernel)⟩
theorem lw_p22 : lw_okq (⟨"FixedFactsModel", "keepsOrder", "(I)Z"⟩, 17) := ⟨⟨by decide +kernel, by decide +kernel⟩, List.mem_of_getElem? (i := 507) (by decide +kernel), List.mem_of_getElem? (i := 590) (by decide +kernel), List.mem_of_getElem? (i := 591) (by decide +kernel)⟩
theorem lw_p23 : lw_okq (⟨"FixedFactsModel", "isBelow", "(II)Z"⟩, 17) := ⟨⟨by decide +kernel, by decide +kernel⟩, List.mem_of_getElem? (i := 507) (by decide +kernel), List.mem_of_getElem? (i := 594) (by decide +kernel), List.mem_of_getElem? (i := 595) (by decide +kernel)⟩
theorem lw_p24 : lw_okq (⟨"FixedFactsModel", "of", "(II)I"⟩, 17) := ⟨⟨by decide +kernel, by decide +kernel⟩, List.mem_of_getElem? (i := 507) (by decide +kernel), List.mem_of_getElem? (i := 598) (by decide +kernel), List.mem_of_getElem? (i := 599) (by decide +kernel)⟩
theorem lw_p25 : lw_okq (⟨"FixedFactsModel", "isWell", "()Z"⟩, 17) := ⟨⟨by decide +kernel, by decide +kernel⟩, List.mem_of_getElem? (i := 507) (by decide +kernel), List.mem_of_getElem? (i := 602) (by decide +kernel), List.mem_of_getElem? (i := 603) (by decide +kernel)⟩
theorem lw_p26 : lw_okq (⟨"FixedFactsModel", "kept", "()I"⟩, 17) := ⟨⟨by decide +kernel, by decide +kernel⟩, List.mem_of_getElem? (i := 507) (by decide +kernel), List.mem_of_getElem? (i := 606) (by decide +kernel), List.mem_of_getElem? (i := 607) (by decide +kernel)⟩
theorem lw_p27 : lw_okq (⟨"FixedFactsModel", "isKept", "(I)Z"⟩, 17) := ⟨⟨by decide +kernel, by decide +kernel⟩, List.mem_of_getElem? (i := 507) (by decide +kernel), List.mem_of_getElem? (i := 610) (by decide +kernel), List.mem_of_getElem? (i := 611) (by decide +kernel)⟩
theorem lw_p28 : lw_okq (⟨"FixedFactsModel", "refused", "()I"⟩, 17) := ⟨⟨by decide +kernel, by decide +kernel⟩, List.mem_of_getElem? (i := 507) (by decide +kernel), List.mem_of_getElem? (i := 614) (by decide +kernel), List.mem_of_getElem? (i := 615) (by decide +kernel)⟩
theorem lw_p29 : lw_okq (⟨"FixedFactsModel", "rebuilds", "()V"⟩, 17) := ⟨⟨by decide +kernel, by decide +kernel⟩, List.mem_of_getElem? (i := 507) (by decide +kernel), List.mem_of_getElem? (i := 618) (by decide +kernel), List.mem_of_getElem? (i := 619) (by decide +kernel)⟩
theorem lw_p30 : lw_okq (⟨"FixedFactsModel", "gathers", "([III)V"⟩, 17) := ⟨⟨by decide +kernel, by decide +kernel⟩, List.mem_of_getElem? (i := 507) (by decide +kernel), List.mem_of_getElem? (i := 622) (by decide +kernel), List.mem_of_getElem? (i := 623) (by decide +kernel)⟩
theorem lw_p31 : lw_okq (⟨"FixedFactsModel", "brings", "(III)V"⟩, 17) := ⟨⟨by decide +kernel, by decide +kernel⟩, List.mem_of_getElem? (i := 507) (by decide +kernel), List.mem_of_getElem? (i := 626) (by decide +kernel), List.mem_of_getElem? (i := 627) (by decide +kernel)⟩
def lw_privs_2 : List (MethodName × Nat) := [(⟨"FixedFacts", "draw", "(I)I"⟩, 9), (⟨"FixedFactsModel", "builds", "(III)V"⟩, 17), (⟨"FixedFactsModel", "broken", "()I"⟩, 17), (⟨"FixedFactsModel", "holds", "(IIII)Z"⟩, 17), (⟨"FixedFactsModel", "both", "(II)I"⟩, 17), (⟨"FixedFactsModel", "firstUnordered", "()I"⟩, 17), (⟨"FixedFactsModel", "keepsOrder", "(I)Z"⟩, 17), (⟨"FixedFactsModel", "isBelow", "(II)Z"⟩, 17), (⟨"FixedFactsModel", "of", "(II)I"⟩, 17), (⟨"FixedFactsModel", "isWell", "()Z"⟩, 17), (⟨"FixedFactsModel", "kept", "()I"⟩, 17), (⟨"FixedFactsModel", "isKept", "(I)Z"⟩, 17), (⟨"FixedFactsModel", "refused", "()I"⟩, 17), (⟨"FixedFactsModel", "rebuilds", "()V"⟩, 17), (⟨"FixedFactsModel", "gathers", "([III)V"⟩, 17), (⟨"FixedFactsModel", "brings", "(III)V"⟩, 17)]
theorem lw_r2 : ∀ q ∈ lw_privs_2, lw_okq q := List.forall_mem_cons.mpr ⟨lw_p16, List.forall_mem_cons.mpr ⟨lw_p17, List.forall_mem_cons.mpr ⟨lw_p18, List.forall_mem_cons.mpr ⟨lw_p19, List.forall_mem_cons.mpr ⟨lw_p20, List.forall_mem_cons.mpr ⟨lw_p21, List.forall_mem_cons.mpr ⟨lw_p22, List.forall_mem_cons.mpr ⟨lw_p23, List.forall_mem_cons.mpr ⟨lw_p24, List.forall_mem_cons.mpr ⟨lw_p25, List.forall_mem_cons.mpr ⟨lw_p26, List.forall_mem_cons.mpr ⟨lw_p27, List.forall_mem_cons.mpr ⟨lw_p28, List.forall_mem_cons.mpr ⟨lw_p29, List.forall_mem_cons.mpr ⟨lw_p30, List.forall_mem_cons.mpr ⟨lw_p31, fun _ h => absurd h List.not_mem_nil⟩⟩⟩⟩⟩⟩⟩⟩⟩⟩⟩⟩⟩⟩⟩⟩
theorem lw_p32 : lw_okq (⟨"FixedFactsModel", "isTakenAt", "(I)Z"⟩, 17) := ⟨⟨by decide +kernel, by decide +kernel⟩, List.mem_of_getElem? (i := 507) (by decide +kernel), List.mem_of_getElem? (i := 630) (by decide +kernel), List.mem_of_getElem? (i := 631) (by decide +kernel)⟩
theorem lw_p33 : lw_okq (⟨"FixedFactsModel", "isLess", "(III)Z"⟩, 17) := ⟨⟨by decide +kernel, by decide +kernel⟩, List.mem_of_getElem? (i := 507) (by decide +kernel), List.mem_of_getElem? (i := 634) (by decide +kernel), List.mem_of_getElem? (i := 635) (by decide +kernel)⟩
theorem lw_p34 : lw_okq (⟨"FixedFactsModel", "isExact", "()Z"⟩, 17) := ⟨⟨by decide +kernel, by decide +kernel⟩, List.mem_of_getElem? (i := 507) (by decide +kernel), List.mem_of_getElem? (i := 638) (by decide +kernel), List.mem_of_getElem? (i := 639) (by decide +kernel)⟩
theorem lw_p35 : lw_okq (⟨"FixedFactsModel", "works", "([III)I"⟩, 17) := ⟨⟨by decide +kernel, by decide +kernel⟩, List.mem_of_getElem? (i := 507) (by decide +kernel), List.mem_of_getElem? (i := 642) (by decide +kernel), List.mem_of_getElem? (i := 643) (by decide +kernel)⟩
theorem lw_p36 : lw_okq (⟨"FixedFactsModel", "taken", "(I)I"⟩, 17) := ⟨⟨by decide +kernel, by decide +kernel⟩, List.mem_of_getElem? (i := 507) (by decide +kernel), List.mem_of_getElem? (i := 646) (by decide +kernel), List.mem_of_getElem? (i := 647) (by decide +kernel)⟩
theorem lw_p37 : lw_okq (⟨"FixedFactsModel", "waits", "(I)Z"⟩, 17) := ⟨⟨by decide +kernel, by decide +kernel⟩, List.mem_of_getElem? (i := 507) (by decide +kernel), List.mem_of_getElem? (i := 650) (by decide +kernel), List.mem_of_getElem? (i := 651) (by decide +kernel)⟩
theorem lw_p38 : lw_okq (⟨"FixedFactsModel", "matters", "()I"⟩, 17) := ⟨⟨by decide +kernel, by decide +kernel⟩, List.mem_of_getElem? (i := 507) (by decide +kernel), List.mem_of_getElem? (i := 654) (by decide +kernel), List.mem_of_getElem? (i := 655) (by decide +kernel)⟩
theorem lw_p39 : lw_okq (⟨"FixedFactsModel", "without", "(I)I"⟩, 17) := ⟨⟨by decide +kernel, by decide +kernel⟩, List.mem_of_getElem? (i := 507) (by decide +kernel), List.mem_of_getElem? (i := 658) (by decide +kernel), List.mem_of_getElem? (i := 659) (by decide +kernel)⟩
theorem lw_p40 : lw_okq (⟨"FixedFactsModel", "wrong", "()I"⟩, 17) := ⟨⟨by decide +kernel, by decide +kernel⟩, List.mem_of_getElem? (i := 507) (by decide +kernel), List.mem_of_getElem? (i := 662) (by decide +kernel), List.mem_of_getElem? (i := 663) (by decide +kernel)⟩
theorem lw_p41 : lw_okq (⟨"FixedFactsModel", "isPlace", "(I)Z"⟩, 17) := ⟨⟨by decide +kernel, by decide +kernel⟩, List.mem_of_getElem? (i := 507) (by decide +kernel), List.mem_of_getElem? (i := 666) (by decide +kernel), List.mem_of_getElem? (i := 667) (by decide +kernel)⟩
theorem lw_p42 : lw_okq (⟨"FixedFactsModel", "isValue", "(I)Z"⟩, 17) := ⟨⟨by decide +kernel, by decide +kernel⟩, List.mem_of_getElem? (i := 507) (by decide +kernel), List.mem_of_getElem? (i := 678) (by decide +kernel), List.mem_of_getElem? (i := 679) (by decide +kernel)⟩
theorem lw_p43 : lw_okq (⟨"FixedFactsModel", "knownAt", "(I)I"⟩, 17) := ⟨⟨by decide +kernel, by decide +kernel⟩, List.mem_of_getElem? (i := 507) (by decide +kernel), List.mem_of_getElem? (i := 691) (by decide +kernel), List.mem_of_getElem? (i := 692) (by decide +kernel)⟩
theorem lw_p44 : lw_okq (⟨"FixedFactsModel", "rebuiltAt", "(I)I"⟩, 17) := ⟨⟨by decide +kernel, by decide +kernel⟩, List.mem_of_getElem? (i := 507) (by decide +kernel), List.mem_of_getElem? (i := 695) (by decide +kernel), List.mem_of_getElem? (i := 696) (by decide +kernel)⟩
theorem lw_p45 : lw_okq (⟨"FixedFactsModel", "isWay", "(I)Z"⟩, 17) := ⟨⟨by decide +kernel, by decide +kernel⟩, List.mem_of_getElem? (i := 507) (by decide +kernel), List.mem_of_getElem? (i := 703) (by decide +kernel), List.mem_of_getElem? (i := 704) (by decide +kernel)⟩
theorem lw_p46 : lw_okq (⟨"FixedFactsModel", "broughtBy", "(II)I"⟩, 17) := ⟨⟨by decide +kernel, by decide +kernel⟩, List.mem_of_getElem? (i := 507) (by decide +kernel), List.mem_of_getElem? (i := 707) (by decide +kernel), List.mem_of_getElem? (i := 708) (by decide +kernel)⟩
theorem lw_p47 : lw_okq (⟨"FixedFactsModel", "notes", "()V"⟩, 17) := ⟨⟨by decide +kernel, by decide +kernel⟩, List.mem_of_getElem? (i := 507) (by decide +kernel), List.mem_of_getElem? (i := 727) (by decide +kernel), List.mem_of_getElem? (i := 728) (by decide +kernel)⟩
def lw_privs_3 : List (MethodName × Nat) := [(⟨"FixedFactsModel", "isTakenAt", "(I)Z"⟩, 17), (⟨"FixedFactsModel", "isLess", "(III)Z"⟩, 17), (⟨"FixedFactsModel", "isExact", "()Z"⟩, 17), (⟨"FixedFactsModel", "works", "([III)I"⟩, 17), (⟨"FixedFactsModel", "taken", "(I)I"⟩, 17), (⟨"FixedFactsModel", "waits", "(I)Z"⟩, 17), (⟨"FixedFactsModel", "matters", "()I"⟩, 17), (⟨"FixedFactsModel", "without", "(I)I"⟩, 17), (⟨"FixedFactsModel", "wrong", "()I"⟩, 17), (⟨"FixedFactsModel", "isPlace", "(I)Z"⟩, 17), (⟨"FixedFactsModel", "isValue", "(I)Z"⟩, 17), (⟨"FixedFactsModel", "knownAt", "(I)I"⟩, 17), (⟨"FixedFactsModel", "rebuiltAt", "(I)I"⟩, 17), (⟨"FixedFactsModel", "isWay", "(I)Z"⟩, 17), (⟨"FixedFactsModel", "broughtBy", "(II)I"⟩, 17), (⟨"FixedFactsModel", "notes", "()V"⟩, 17)]
theorem lw_r3 : ∀ q ∈ lw_privs_3, lw_okq q := List.forall_mem_cons.mpr ⟨lw_p32, List.forall_mem_cons.mpr ⟨lw_p33, List.forall_mem_cons.mpr ⟨lw_p34, List.forall_mem_cons.mpr ⟨lw_p35, List.forall_mem_cons.mpr ⟨lw_p36, List.forall_mem_cons.mpr ⟨lw_p37, List.forall_mem_cons.mpr ⟨lw_p38, List.forall_mem_cons.mpr ⟨lw_p39, List.forall_mem_cons.mpr ⟨lw_p40, List.forall_mem_cons.mpr ⟨lw_p41, List.forall_mem_cons.mpr ⟨lw_p42, List.forall_mem_cons.mpr ⟨lw_p43, List.forall_mem_cons.mpr ⟨lw_p44, List.forall_mem_cons.mpr ⟨lw_p45, List.forall_mem_cons.mpr ⟨lw_p46, List.forall_mem_cons.mpr ⟨lw_p47, fun _ h => absurd h List.not_mem_nil⟩⟩⟩⟩⟩⟩⟩⟩⟩⟩⟩⟩⟩⟩⟩⟩
theorem lw_p48 : lw_okq (⟨"FixedFactsModel", "comes", "(IIIII)V"⟩, 17) := ⟨⟨by decide +kernel, by decide +kernel⟩, List.mem_of_getElem? (i := 507) (by decide +kernel), List.mem_of_getElem? (i := 747) (by decide +kernel), List.mem_of_getElem? (i := 748) (by decide +kernel)⟩
theorem lw_p49 : lw_okq (⟨"FixedFactsModel", "draw", "(I)I"⟩, 17) := ⟨⟨by decide +kernel, by decide +kernel⟩, List.mem_of_getElem? (i := 507) (by decide +kernel), List.mem_of_getElem? (i := 780) (by decide +kernel), List.mem_of_getElem? (i := 781) (by decide +kernel)⟩
def lw_privs_4 : List (MethodName × Nat) := [(⟨"FixedFactsModel", "comes", "(IIIII)V"⟩, 17), (⟨"FixedFactsModel", "draw", "(I)I"⟩, 17)]
theorem lw_r4 : ∀ q ∈ lw_privs_4, lw_okq q := List.forall_mem_cons.mpr ⟨lw_p48, List.forall_mem_cons.mpr ⟨lw_p49, fun _ h => absurd h List.not_mem_nil⟩⟩
def lw_privs : List (MethodName × Nat) := lw_privs_1 ++ (lw_privs_2 ++ (lw_privs_3 ++ (lw_privs_4)))
def lw_tbl : List Cond := k2_sels lw_privs ++ tables_1
theorem lw_privs_ok : ∀ q ∈ lw_privs, lw_okq q := by
  show ∀ q ∈ lw_privs_1 ++ (lw_privs_2 ++ (lw_privs_3 ++ (lw_privs_4))), lw_okq q
  exact List.forall_mem_append.mpr ⟨lw_r1, List.forall_mem_append.mpr ⟨lw_r2, List.forall_mem_append.mpr ⟨lw_r3, lw_r4⟩⟩⟩
def RX0 : String := "FixedFacts$Book"
def TX0 : u_T := fun k => match k with
  | 0 => ("FixedFacts$Book", "entries", "I", false)
  | 1 => ("FixedFacts$Book", "place", "[I", true)
  | _ => ("FixedFacts$Book", "fact", "[I", true)
def tyX0 : Nat → FieldType := fun k => match k with
  | 0 => .int
  | 1 => .array .int
  | _ => .array .int
abbrev wsX00 : List Cond := u_ws RX0 TX0 3
theorem nmX0 : ∀ a, a < 3 → ∀ b, b < 3 → a ≠ b → (TX0 a).2.1 ≠ (TX0 b).2.1 := by decide +kernel
theorem tyX0_ok : ∀ k, k < 3 → parseFieldDescriptor (TX0 k).2.2.1 = some (tyX0 k) := by decide +kernel
abbrev cX0_init : ByteArray := prog_2_method_1_code
def yX0_init : MethodName := ⟨RX0, "<init>", "()V"⟩
abbrev cX0_add : ByteArray := prog_2_method_2_code
def yX0_add : MethodName := ⟨RX0, "add", "(II)V"⟩
abbrev cX0_firstUnlike : ByteArray := prog_2_method_3_code
def yX0_firstUnlike : MethodName := ⟨RX0, "firstUnlike", "([II)I"⟩
def RX1 : String := "FixedFacts$Image"
def TX1 : u_T := fun k => match k with
  | 0 => ("FixedFacts$Image", "web", "LFixedFacts$Web;", true)
  | 1 => ("FixedFacts$Image", "drawn", "I", false)
  | _ => ("FixedFacts$Image", "isThere", "Z", false)
def tyX1 : Nat → FieldType := fun k => match k with
  | 0 => .object "FixedFacts$Web"
  | 1 => .int
  | _ => .boolean
abbrev wsX10 : List Cond := u_ws RX1 TX1 3
theorem nmX1 : ∀ a, a < 3 → ∀ b, b < 3 → a ≠ b → (TX1 a).2.1 ≠ (TX1 b).2.1 := by decide +kernel
theorem tyX1_ok : ∀ k, k < 3 → parseFieldDescriptor (TX1 k).2.2.1 = some (tyX1 k) := by decide +kernel
abbrev cX1_init : ByteArray := prog_3_method_1_code
def yX1_init : MethodName := ⟨RX1, "<init>", "()V"⟩
def RX2 : String := "FixedFacts$Judge"
def TX2 : u_T := fun k => match k with
  | _ => ("FixedFacts$Judge", "rebuilt", "[I", true)
def tyX2 : Nat → FieldType := fun k => match k with
  | _ => .array .int
abbrev wsX20 : List Cond := u_ws RX2 TX2 1
theorem nmX2 : ∀ a, a < 1 → ∀ b, b < 1 → a ≠ b → (TX2 a).2.1 ≠ (TX2 b).2.1 := by decide +kernel
theorem tyX2_ok : ∀ k, k < 1 → parseFieldDescriptor (TX2 k).2.2.1 = some (tyX2 k) := by decide +kernel
abbrev cX2_init : ByteArray := prog_4_method_1_code
def yX2_init : MethodName := ⟨RX2, "<init>", "()V"⟩
abbrev cX2_rebuild : ByteArray := prog_4_method_2_code
def yX2_rebuild : MethodName := ⟨RX2, "rebuild", "(LFixedFacts$Web;)V"⟩
abbrev cX2_refusedAt : ByteArray := prog_4_method_3_code
def yX2_refusedAt : MethodName := ⟨RX2, "refusedAt", "(LFixedFacts$Web;)I"⟩
def RX3 : String := "FixedFacts$Past"
def TX3 : u_T := fun k => match k with
  | 0 => ("FixedFacts$Past", "kept", "I", false)
  | 1 => ("FixedFacts$Past", "next", "I", false)
  | _ => ("FixedFacts$Past", "ring", "[LFixedFacts$Web;", true)
def tyX3 : Nat → FieldType := fun k => match k with
  | 0 => .int
  | 1 => .int
  | _ => .array (.object "FixedFacts$Web")
abbrev wsX30 : List Cond := u_ws RX3 TX3 3
theorem nmX3 : ∀ a, a < 3 → ∀ b, b < 3 → a ≠ b → (TX3 a).2.1 ≠ (TX3 b).2.1 := by decide +kernel
theorem tyX3_ok : ∀ k, k < 3 → parseFieldDescriptor (TX3 k).2.2.1 = some (tyX3 k) := by decide +kernel
abbrev cX3_init : ByteArray := prog_5_method_1_code
def yX3_init : MethodName := ⟨RX3, "<init>", "()V"⟩
abbrev cX3_remember : ByteArray := prog_5_method_2_code
def yX3_remember : MethodName := ⟨RX3, "remember", "(LFixedFacts$Web;)V"⟩
abbrev cX3_bringBack : ByteArray := prog_5_method_3_code
def yX3_bringBack : MethodName := ⟨RX3, "bringBack", "(LFixedFacts$Web;I)V"⟩
abbrev cX3_forget : ByteArray := prog_5_method_4_code
def yX3_forget : MethodName := ⟨RX3, "forget", "()V"⟩
def RX4 : String := "FixedFacts$Web"
def TX4 : u_T := fun k => match k with
  | 0 => ("FixedFacts$Web", "values", "I", false)
  | 1 => ("FixedFacts$Web", "places", "I", false)
  | 2 => ("FixedFacts$Web", "ways", "I", false)
  | 3 => ("FixedFacts$Web", "table", "[I", true)
  | 4 => ("FixedFacts$Web", "starts", "[I", true)
  | 5 => ("FixedFacts$Web", "written", "[I", true)
  | 6 => ("FixedFacts$Web", "from", "[I", true)
  | 7 => ("FixedFacts$Web", "to", "[I", true)
  | 8 => ("FixedFacts$Web", "maps", "[I", true)
  | 9 => ("FixedFacts$Web", "gives", "[I", true)
  | 10 => ("FixedFacts$Web", "takes", "[I", true)
  | _ => ("FixedFacts$Web", "gates", "[I", true)
def tyX4 : Nat → FieldType := fun k => match k with
  | 0 => .int
  | 1 => .int
  | 2 => .int
  | 3 => .array .int
  | 4 => .array .int
  | 5 => .array .int
  | 6 => .array .int
  | 7 => .array .int
  | 8 => .array .int
  | 9 => .array .int
  | 10 => .array .int
  | _ => .array .int
abbrev wsX40 : List Cond := u_ws RX4 TX4 12
theorem nmX4 : ∀ a, a < 12 → ∀ b, b < 12 → a ≠ b → (TX4 a).2.1 ≠ (TX4 b).2.1 := by decide +kernel
theorem tyX4_ok : ∀ k, k < 12 → parseFieldDescriptor (TX4 k).2.2.1 = some (tyX4 k) := by decide +kernel
abbrev cX4_init : ByteArray := prog_6_method_1_code
def yX4_init : MethodName := ⟨RX4, "<init>", "()V"⟩
abbrev cX4_become : ByteArray := prog_6_method_2_code
def yX4_become : MethodName := ⟨RX4, "become", "(LFixedFacts$Web;)V"⟩
abbrev cX4_becomeNew : ByteArray := prog_6_method_3_code
def yX4_becomeNew : MethodName := ⟨RX4, "becomeNew", "(III)V"⟩
abbrev cX4_joinedByOrder : ByteArray := prog_6_method_4_code
def yX4_joinedByOrder : MethodName := ⟨RX4, "joinedByOrder", "(III)I"⟩
abbrev cX4_hasValue : ByteArray := prog_6_method_5_code
def yX4_hasValue : MethodName := ⟨RX4, "hasValue", "(I)Z"⟩
abbrev cX4_hasPlace : ByteArray := prog_6_method_6_code
def yX4_hasPlace : MethodName := ⟨RX4, "hasPlace", "(I)Z"⟩
abbrev cX4_hasWay : ByteArray := prog_6_method_7_code
def yX4_hasWay : MethodName := ⟨RX4, "hasWay", "(I)Z"⟩
abbrev cX4_join : ByteArray := prog_6_method_8_code
def yX4_join : MethodName := ⟨RX4, "join", "(II)I"⟩
abbrev cX4_isBelow : ByteArray := prog_6_method_9_code
def yX4_isBelow : MethodName := ⟨RX4, "isBelow", "(II)Z"⟩
abbrev cX4_brokenLaw : ByteArray := prog_6_method_10_code
def yX4_brokenLaw : MethodName := ⟨RX4, "brokenLaw", "()I"⟩
abbrev cX4_joinsWithItself : ByteArray := prog_6_method_11_code
def yX4_joinsWithItself : MethodName := ⟨RX4, "joinsWithItself", "()Z"⟩
abbrev cX4_joinsBothWaysAlike : ByteArray := prog_6_method_12_code
def yX4_joinsBothWaysAlike : MethodName := ⟨RX4, "joinsBothWaysAlike", "()Z"⟩
abbrev cX4_joinsInAnyGroupsAlike : ByteArray := prog_6_method_13_code
def yX4_joinsInAnyGroupsAlike : MethodName := ⟨RX4, "joinsInAnyGroupsAlike", "()Z"⟩
abbrev cX4_joinsZeroAsNothing : ByteArray := prog_6_method_14_code
def yX4_joinsZeroAsNothing : MethodName := ⟨RX4, "joinsZeroAsNothing", "()Z"⟩
abbrev cX4_keepsOrder : ByteArray := prog_6_method_15_code
def yX4_keepsOrder : MethodName := ⟨RX4, "keepsOrder", "(I)Z"⟩
abbrev cX4_firstOutOfOrder : ByteArray := prog_6_method_16_code
def yX4_firstOutOfOrder : MethodName := ⟨RX4, "firstOutOfOrder", "()I"⟩
abbrev cX4_isWell : ByteArray := prog_6_method_17_code
def yX4_isWell : MethodName := ⟨RX4, "isWell", "()Z"⟩
abbrev cX4_isKept : ByteArray := prog_6_method_18_code
def yX4_isKept : MethodName := ⟨RX4, "isKept", "(I)Z"⟩
abbrev cX4_keptPlaces : ByteArray := prog_6_method_19_code
def yX4_keptPlaces : MethodName := ⟨RX4, "keptPlaces", "()I"⟩
abbrev cX4_brought : ByteArray := prog_6_method_20_code
def yX4_brought : MethodName := ⟨RX4, "brought", "(I[I)I"⟩
abbrev cX4_together : ByteArray := prog_6_method_21_code
def yX4_together : MethodName := ⟨RX4, "together", "(I[II)I"⟩
abbrev cX4_isNoMore : ByteArray := prog_6_method_22_code
def yX4_isNoMore : MethodName := ⟨RX4, "isNoMore", "(II)Z"⟩
abbrev cX4_addWay : ByteArray := prog_6_method_23_code
def yX4_addWay : MethodName := ⟨RX4, "addWay", "(II)I"⟩
abbrev cX4_removeWay : ByteArray := prog_6_method_24_code
def yX4_removeWay : MethodName := ⟨RX4, "removeWay", "(I)V"⟩
def RX5 : String := "FixedFacts$Work"
def TX5 : u_T := fun k => match k with
  | 0 => ("FixedFacts$Work", "found", "[I", true)
  | 1 => ("FixedFacts$Work", "waiting", "[I", true)
  | _ => ("FixedFacts$Work", "waits", "I", false)
def tyX5 : Nat → FieldType := fun k => match k with
  | 0 => .array .int
  | 1 => .array .int
  | _ => .int
abbrev wsX50 : List Cond := u_ws RX5 TX5 3
theorem nmX5 : ∀ a, a < 3 → ∀ b, b < 3 → a ≠ b → (TX5 a).2.1 ≠ (TX5 b).2.1 := by decide +kernel
theorem tyX5_ok : ∀ k, k < 3 → parseFieldDescriptor (TX5 k).2.2.1 = some (tyX5 k) := by decide +kernel
abbrev cX5_init : ByteArray := prog_7_method_1_code
def yX5_init : MethodName := ⟨RX5, "<init>", "()V"⟩
abbrev cX5_run : ByteArray := prog_7_method_2_code
def yX5_run : MethodName := ⟨RX5, "run", "(LFixedFacts$Web;II)I"⟩
abbrev cX5_takeNext : ByteArray := prog_7_method_3_code
def yX5_takeNext : MethodName := ⟨RX5, "takeNext", "(I)I"⟩
abbrev cX5_leastWaiting : ByteArray := prog_7_method_4_code
def yX5_leastWaiting : MethodName := ⟨RX5, "leastWaiting", "()I"⟩
abbrev cX5_wakeBehind : ByteArray := prog_7_method_5_code
def yX5_wakeBehind : MethodName := ⟨RX5, "wakeBehind", "(LFixedFacts$Web;II)V"⟩
abbrev cX5_isWaiting : ByteArray := prog_7_method_6_code
def yX5_isWaiting : MethodName := ⟨RX5, "isWaiting", "(I)Z"⟩
def RX6 : String := "FixedFacts"
def TX6 : u_T := fun k => match k with
  | 0 => ("FixedFacts", "web", "LFixedFacts$Web;", true)
  | 1 => ("FixedFacts", "past", "LFixedFacts$Past;", true)
  | 2 => ("FixedFacts", "firstImage", "LFixedFacts$Image;", true)
  | 3 => ("FixedFacts", "secondImage", "LFixedFacts$Image;", true)
  | 4 => ("FixedFacts", "book", "LFixedFacts$Book;", true)
  | 5 => ("FixedFacts", "known", "LFixedFacts$Work;", true)
  | 6 => ("FixedFacts", "trial", "LFixedFacts$Work;", true)
  | 7 => ("FixedFacts", "judge", "LFixedFacts$Judge;", true)
  | _ => ("FixedFacts", "drawn", "I", false)
def tyX6 : Nat → FieldType := fun k => match k with
  | 0 => .object "FixedFacts$Web"
  | 1 => .object "FixedFacts$Past"
  | 2 => .object "FixedFacts$Image"
  | 3 => .object "FixedFacts$Image"
  | 4 => .object "FixedFacts$Book"
  | 5 => .object "FixedFacts$Work"
  | 6 => .object "FixedFacts$Work"
  | 7 => .object "FixedFacts$Judge"
  | _ => .int
abbrev wsX60 : List Cond := u_ws RX6 TX6 9
theorem nmX6 : ∀ a, a < 9 → ∀ b, b < 9 → a ≠ b → (TX6 a).2.1 ≠ (TX6 b).2.1 := by decide +kernel
theorem tyX6_ok : ∀ k, k < 9 → parseFieldDescriptor (TX6 k).2.2.1 = some (tyX6 k) := by decide +kernel
abbrev cX6_init : ByteArray := prog_1_method_1_code
def yX6_init : MethodName := ⟨RX6, "<init>", "()V"⟩
abbrev cX6_told : ByteArray := prog_1_method_2_code
def yX6_told : MethodName := ⟨RX6, "told", "(I)I"⟩
abbrev cX6_joined : ByteArray := prog_1_method_3_code
def yX6_joined : MethodName := ⟨RX6, "joined", "(II)I"⟩
abbrev cX6_below : ByteArray := prog_1_method_4_code
def yX6_below : MethodName := ⟨RX6, "below", "(II)I"⟩
abbrev cX6_place : ByteArray := prog_1_method_5_code
def yX6_place : MethodName := ⟨RX6, "place", "(II)I"⟩
abbrev cX6_wayAt : ByteArray := prog_1_method_6_code
def yX6_wayAt : MethodName := ⟨RX6, "wayAt", "(II)I"⟩
abbrev cX6_mapped : ByteArray := prog_1_method_7_code
def yX6_mapped : MethodName := ⟨RX6, "mapped", "(II)I"⟩
abbrev cX6_steps : ByteArray := prog_1_method_8_code
def yX6_steps : MethodName := ⟨RX6, "steps", "(I)I"⟩
abbrev cX6_worked : ByteArray := prog_1_method_9_code
def yX6_worked : MethodName := ⟨RX6, "worked", "(II)I"⟩
abbrev cX6_build : ByteArray := prog_1_method_10_code
def yX6_build : MethodName := ⟨RX6, "build", "(III)I"⟩
abbrev cX6_cell : ByteArray := prog_1_method_11_code
def yX6_cell : MethodName := ⟨RX6, "cell", "(III)I"⟩
abbrev cX6_start : ByteArray := prog_1_method_12_code
def yX6_start : MethodName := ⟨RX6, "start", "(III)I"⟩
abbrev cX6_way : ByteArray := prog_1_method_13_code
def yX6_way : MethodName := ⟨RX6, "way", "(II)I"⟩
abbrev cX6_drop : ByteArray := prog_1_method_14_code
def yX6_drop : MethodName := ⟨RX6, "drop", "(I)I"⟩
abbrev cX6_map : ByteArray := prog_1_method_15_code
def yX6_map : MethodName := ⟨RX6, "map", "(III)I"⟩
abbrev cX6_marks : ByteArray := prog_1_method_16_code
def yX6_marks : MethodName := ⟨RX6, "marks", "(III)I"⟩
abbrev cX6_gate : ByteArray := prog_1_method_17_code
def yX6_gate : MethodName := ⟨RX6, "gate", "(II)I"⟩
abbrev cX6_write : ByteArray := prog_1_method_18_code
def yX6_write : MethodName := ⟨RX6, "write", "(III)I"⟩
abbrev cX6_copy : ByteArray := prog_1_method_19_code
def yX6_copy : MethodName := ⟨RX6, "copy", "()I"⟩
abbrev cX6_drift : ByteArray := prog_1_method_20_code
def yX6_drift : MethodName := ⟨RX6, "drift", "(I)I"⟩
abbrev cX6_undo : ByteArray := prog_1_method_21_code
def yX6_undo : MethodName := ⟨RX6, "undo", "(I)I"⟩
abbrev cX6_note : ByteArray := prog_1_method_22_code
def yX6_note : MethodName := ⟨RX6, "note", "(III)I"⟩
abbrev cX6_tear : ByteArray := prog_1_method_23_code
def yX6_tear : MethodName := ⟨RX6, "tear", "()I"⟩
abbrev cX6_seed : ByteArray := prog_1_method_24_code
def yX6_seed : MethodName := ⟨RX6, "seed", "(I)I"⟩
abbrev cX6_keep : ByteArray := prog_1_method_25_code
def yX6_keep : MethodName := ⟨RX6, "keep", "(I)I"⟩
abbrev cX6_goBack : ByteArray := prog_1_method_26_code
def yX6_goBack : MethodName := ⟨RX6, "goBack", "(I)I"⟩
abbrev cX6_valueOf : ByteArray := prog_1_method_27_code
def yX6_valueOf : MethodName := ⟨RX6, "valueOf", "(I)I"⟩
abbrev cX6_setOf : ByteArray := prog_1_method_28_code
def yX6_setOf : MethodName := ⟨RX6, "setOf", "(I)I"⟩
abbrev cX6_isSet : ByteArray := prog_1_method_29_code
def yX6_isSet : MethodName := ⟨RX6, "isSet", "(I)Z"⟩
abbrev cX6_isChoice : ByteArray := prog_1_method_30_code
def yX6_isChoice : MethodName := ⟨RX6, "isChoice", "(I)Z"⟩
abbrev cX6_findKnown : ByteArray := prog_1_method_31_code
def yX6_findKnown : MethodName := ⟨RX6, "findKnown", "()Z"⟩
abbrev cX6_otherwiseWithout : ByteArray := prog_1_method_32_code
def yX6_otherwiseWithout : MethodName := ⟨RX6, "otherwiseWithout", "(I)I"⟩
abbrev cX6_waysThatMatter : ByteArray := prog_1_method_33_code
def yX6_waysThatMatter : MethodName := ⟨RX6, "waysThatMatter", "()I"⟩
abbrev cX6_rebuiltAt : ByteArray := prog_1_method_34_code
def yX6_rebuiltAt : MethodName := ⟨RX6, "rebuiltAt", "(I)I"⟩
abbrev cX6_isExact : ByteArray := prog_1_method_35_code
def yX6_isExact : MethodName := ⟨RX6, "isExact", "()Z"⟩
abbrev cX6_firstWrongEntry : ByteArray := prog_1_method_36_code
def yX6_firstWrongEntry : MethodName := ⟨RX6, "firstWrongEntry", "()I"⟩
abbrev cX6_addDrawnWay : ByteArray := prog_1_method_37_code
def yX6_addDrawnWay : MethodName := ⟨RX6, "addDrawnWay", "()V"⟩
abbrev cX6_draw : ByteArray := prog_1_method_38_code
def yX6_draw : MethodName := ⟨RX6, "draw", "(I)I"⟩
def RX7 : String := "FixedFactsModel"
def TX7 : u_T := fun k => match k with
  | 0 => ("FixedFactsModel", "st", "[I", true)
  | 1 => ("FixedFactsModel", "past", "[I", true)
  | 2 => ("FixedFactsModel", "undos", "I", false)
  | 3 => ("FixedFactsModel", "images", "[I", true)
  | 4 => ("FixedFactsModel", "isKeptIn", "[Z", true)
  | 5 => ("FixedFactsModel", "seed", "I", false)
  | 6 => ("FixedFactsModel", "book", "[I", true)
  | 7 => ("FixedFactsModel", "entries", "I", false)
  | 8 => ("FixedFactsModel", "known", "[I", true)
  | 9 => ("FixedFactsModel", "tried", "[I", true)
  | 10 => ("FixedFactsModel", "rebuilt", "[I", true)
  | 11 => ("FixedFactsModel", "broughtValue", "I", false)
  | 12 => ("FixedFactsModel", "broughtSet", "I", false)
  | 13 => ("FixedFactsModel", "gotValue", "I", false)
  | 14 => ("FixedFactsModel", "gotSet", "I", false)
  | 15 => ("FixedFactsModel", "row", "[I", true)
  | _ => ("FixedFactsModel", "waiting", "I", false)
def tyX7 : Nat → FieldType := fun k => match k with
  | 0 => .array .int
  | 1 => .array .int
  | 2 => .int
  | 3 => .array .int
  | 4 => .array .boolean
  | 5 => .int
  | 6 => .array .int
  | 7 => .int
  | 8 => .array .int
  | 9 => .array .int
  | 10 => .array .int
  | 11 => .int
  | 12 => .int
  | 13 => .int
  | 14 => .int
  | 15 => .array .int
  | _ => .int
abbrev wsX70 : List Cond := u_ws RX7 TX7 17
theorem nmX7 : ∀ a, a < 17 → ∀ b, b < 17 → a ≠ b → (TX7 a).2.1 ≠ (TX7 b).2.1 := by decide +kernel
theorem tyX7_ok : ∀ k, k < 17 → parseFieldDescriptor (TX7 k).2.2.1 = some (tyX7 k) := by decide +kernel
abbrev cX7_init : ByteArray := prog_9_method_1_code
def yX7_init : MethodName := ⟨RX7, "<init>", "()V"⟩
abbrev cX7_in : ByteArray := prog_9_method_3_code
def yX7_in : MethodName := ⟨RX7, "in", "(III)Z"⟩
abbrev cX7_isValue : ByteArray := prog_9_method_5_code
def yX7_isValue : MethodName := ⟨RX7, "isValue", "(I)Z"⟩
abbrev cX7_both : ByteArray := prog_9_method_6_code
def yX7_both : MethodName := ⟨RX7, "both", "(II)I"⟩
abbrev cX7_isBelow : ByteArray := prog_9_method_7_code
def yX7_isBelow : MethodName := ⟨RX7, "isBelow", "(II)Z"⟩
abbrev cX7_holds : ByteArray := prog_9_method_8_code
def yX7_holds : MethodName := ⟨RX7, "holds", "(IIII)Z"⟩
abbrev cX7_broken : ByteArray := prog_9_method_9_code
def yX7_broken : MethodName := ⟨RX7, "broken", "()I"⟩
abbrev cX7_isPlace : ByteArray := prog_9_method_10_code
def yX7_isPlace : MethodName := ⟨RX7, "isPlace", "(I)Z"⟩
abbrev cX7_isWay : ByteArray := prog_9_method_11_code
def yX7_isWay : MethodName := ⟨RX7, "isWay", "(I)Z"⟩
abbrev cX7_of : ByteArray := prog_9_method_12_code
def yX7_of : MethodName := ⟨RX7, "of", "(II)I"⟩
abbrev cX7_keepsOrder : ByteArray := prog_9_method_13_code
def yX7_keepsOrder : MethodName := ⟨RX7, "keepsOrder", "(I)Z"⟩
abbrev cX7_firstUnordered : ByteArray := prog_9_method_14_code
def yX7_firstUnordered : MethodName := ⟨RX7, "firstUnordered", "()I"⟩
abbrev cX7_isWell : ByteArray := prog_9_method_15_code
def yX7_isWell : MethodName := ⟨RX7, "isWell", "()Z"⟩
abbrev cX7_isSet : ByteArray := prog_9_method_16_code
def yX7_isSet : MethodName := ⟨RX7, "isSet", "(I)Z"⟩
abbrev cX7_brings : ByteArray := prog_9_method_17_code
def yX7_brings : MethodName := ⟨RX7, "brings", "(III)V"⟩
abbrev cX7_gathers : ByteArray := prog_9_method_18_code
def yX7_gathers : MethodName := ⟨RX7, "gathers", "([III)V"⟩
abbrev cX7_waits : ByteArray := prog_9_method_19_code
def yX7_waits : MethodName := ⟨RX7, "waits", "(I)Z"⟩
abbrev cX7_taken : ByteArray := prog_9_method_20_code
def yX7_taken : MethodName := ⟨RX7, "taken", "(I)I"⟩
abbrev cX7_works : ByteArray := prog_9_method_21_code
def yX7_works : MethodName := ⟨RX7, "works", "([III)I"⟩
abbrev cX7_without : ByteArray := prog_9_method_22_code
def yX7_without : MethodName := ⟨RX7, "without", "(I)I"⟩
abbrev cX7_matters : ByteArray := prog_9_method_23_code
def yX7_matters : MethodName := ⟨RX7, "matters", "()I"⟩
abbrev cX7_isKept : ByteArray := prog_9_method_24_code
def yX7_isKept : MethodName := ⟨RX7, "isKept", "(I)Z"⟩
abbrev cX7_kept : ByteArray := prog_9_method_25_code
def yX7_kept : MethodName := ⟨RX7, "kept", "()I"⟩
abbrev cX7_rebuilds : ByteArray := prog_9_method_26_code
def yX7_rebuilds : MethodName := ⟨RX7, "rebuilds", "()V"⟩
abbrev cX7_isLess : ByteArray := prog_9_method_27_code
def yX7_isLess : MethodName := ⟨RX7, "isLess", "(III)Z"⟩
abbrev cX7_isTakenAt : ByteArray := prog_9_method_28_code
def yX7_isTakenAt : MethodName := ⟨RX7, "isTakenAt", "(I)Z"⟩
abbrev cX7_refused : ByteArray := prog_9_method_29_code
def yX7_refused : MethodName := ⟨RX7, "refused", "()I"⟩
abbrev cX7_isExact : ByteArray := prog_9_method_30_code
def yX7_isExact : MethodName := ⟨RX7, "isExact", "()Z"⟩
abbrev cX7_wrong : ByteArray := prog_9_method_31_code
def yX7_wrong : MethodName := ⟨RX7, "wrong", "()I"⟩
abbrev cX7_told : ByteArray := prog_9_method_32_code
def yX7_told : MethodName := ⟨RX7, "told", "(I)I"⟩
abbrev cX7_joined : ByteArray := prog_9_method_33_code
def yX7_joined : MethodName := ⟨RX7, "joined", "(II)I"⟩
abbrev cX7_below : ByteArray := prog_9_method_34_code
def yX7_below : MethodName := ⟨RX7, "below", "(II)I"⟩
abbrev cX7_knownAt : ByteArray := prog_9_method_35_code
def yX7_knownAt : MethodName := ⟨RX7, "knownAt", "(I)I"⟩
abbrev cX7_rebuiltAt : ByteArray := prog_9_method_36_code
def yX7_rebuiltAt : MethodName := ⟨RX7, "rebuiltAt", "(I)I"⟩
abbrev cX7_place : ByteArray := prog_9_method_37_code
def yX7_place : MethodName := ⟨RX7, "place", "(II)I"⟩
abbrev cX7_broughtBy : ByteArray := prog_9_method_38_code
def yX7_broughtBy : MethodName := ⟨RX7, "broughtBy", "(II)I"⟩
abbrev cX7_wayAt : ByteArray := prog_9_method_39_code
def yX7_wayAt : MethodName := ⟨RX7, "wayAt", "(II)I"⟩
abbrev cX7_mapped : ByteArray := prog_9_method_40_code
def yX7_mapped : MethodName := ⟨RX7, "mapped", "(II)I"⟩
abbrev cX7_steps : ByteArray := prog_9_method_41_code
def yX7_steps : MethodName := ⟨RX7, "steps", "(I)I"⟩
abbrev cX7_worked : ByteArray := prog_9_method_42_code
def yX7_worked : MethodName := ⟨RX7, "worked", "(II)I"⟩
abbrev cX7_notes : ByteArray := prog_9_method_43_code
def yX7_notes : MethodName := ⟨RX7, "notes", "()V"⟩
abbrev cX7_builds : ByteArray := prog_9_method_44_code
def yX7_builds : MethodName := ⟨RX7, "builds", "(III)V"⟩
abbrev cX7_build : ByteArray := prog_9_method_45_code
def yX7_build : MethodName := ⟨RX7, "build", "(III)I"⟩
abbrev cX7_cell : ByteArray := prog_9_method_46_code
def yX7_cell : MethodName := ⟨RX7, "cell", "(III)I"⟩
abbrev cX7_start : ByteArray := prog_9_method_47_code
def yX7_start : MethodName := ⟨RX7, "start", "(III)I"⟩
abbrev cX7_comes : ByteArray := prog_9_method_48_code
def yX7_comes : MethodName := ⟨RX7, "comes", "(IIIII)V"⟩
abbrev cX7_way : ByteArray := prog_9_method_49_code
def yX7_way : MethodName := ⟨RX7, "way", "(II)I"⟩
abbrev cX7_drop : ByteArray := prog_9_method_50_code
def yX7_drop : MethodName := ⟨RX7, "drop", "(I)I"⟩
abbrev cX7_map : ByteArray := prog_9_method_51_code
def yX7_map : MethodName := ⟨RX7, "map", "(III)I"⟩
abbrev cX7_marks : ByteArray := prog_9_method_52_code
def yX7_marks : MethodName := ⟨RX7, "marks", "(III)I"⟩
abbrev cX7_gate : ByteArray := prog_9_method_53_code
def yX7_gate : MethodName := ⟨RX7, "gate", "(II)I"⟩
abbrev cX7_write : ByteArray := prog_9_method_54_code
def yX7_write : MethodName := ⟨RX7, "write", "(III)I"⟩
abbrev cX7_copy : ByteArray := prog_9_method_55_code
def yX7_copy : MethodName := ⟨RX7, "copy", "()I"⟩
abbrev cX7_draw : ByteArray := prog_9_method_56_code
def yX7_draw : MethodName := ⟨RX7, "draw", "(I)I"⟩
abbrev cX7_drift : ByteArray := prog_9_method_57_code
def yX7_drift : MethodName := ⟨RX7, "drift", "(I)I"⟩
abbrev cX7_undo : ByteArray := prog_9_method_58_code
def yX7_undo : MethodName := ⟨RX7, "undo", "(I)I"⟩
abbrev cX7_note : ByteArray := prog_9_method_59_code
def yX7_note : MethodName := ⟨RX7, "note", "(III)I"⟩
abbrev cX7_tear : ByteArray := prog_9_method_60_code
def yX7_tear : MethodName := ⟨RX7, "tear", "()I"⟩
abbrev cX7_seed : ByteArray := prog_9_method_61_code
def yX7_seed : MethodName := ⟨RX7, "seed", "(I)I"⟩
abbrev cX7_keep : ByteArray := prog_9_method_62_code
def yX7_keep : MethodName := ⟨RX7, "keep", "(I)I"⟩
abbrev cX7_goBack : ByteArray := prog_9_method_63_code
def yX7_goBack : MethodName := ⟨RX7, "goBack", "(I)I"⟩
def RJ9 : String := "java/lang/Math"
def TJ9 : u_T := fun k => match k with
  | _ => ("", "", "", false)
def tyJ9 : Nat → FieldType := fun k => match k with
  | _ => .int
abbrev wsJ90 : List Cond := u_ws RJ9 TJ9 0
theorem nmJ9 : ∀ a, a < 0 → ∀ b, b < 0 → a ≠ b → (TJ9 a).2.1 ≠ (TJ9 b).2.1 := by decide +kernel
theorem tyJ9_ok : ∀ k, k < 0 → parseFieldDescriptor (TJ9 k).2.2.1 = some (tyJ9 k) := by decide +kernel
abbrev cJ9_max_7cf53 : ByteArray := prog_10_method_65_code
def yJ9_max_7cf53 : MethodName := ⟨RJ9, "max", "(II)I"⟩
abbrev cJ9_min_7cf53 : ByteArray := prog_10_method_69_code
def yJ9_min_7cf53 : MethodName := ⟨RJ9, "min", "(II)I"⟩
def RJ10 : String := "java/lang/System"
def TJ10 : u_T := fun k => match k with
  | _ => ("", "", "", false)
def tyJ10 : Nat → FieldType := fun k => match k with
  | _ => .int
abbrev wsJ100 : List Cond := u_ws RJ10 TJ10 0
theorem nmJ10 : ∀ a, a < 0 → ∀ b, b < 0 → a ≠ b → (TJ10 a).2.1 ≠ (TJ10 b).2.1 := by decide +kernel
theorem tyJ10_ok : ∀ k, k < 0 → parseFieldDescriptor (TJ10 k).2.2.1 = some (tyJ10 k) := by decide +kernel
def RL : String := "FixedFactsLaw"
abbrev cL_law : ByteArray := code
def yL_law : MethodName := ⟨RL, "law", "([I)Z"⟩
abbrev vwCl : List vw_C := [(RX0, TX0, 3), (RX1, TX1, 3), (RX2, TX2, 1), (RX3, TX3, 3), (RX4, TX4, 12), (RX5, TX5, 3), (RX6, TX6, 9), (RX7, TX7, 17)]
theorem goodIn_r {big : List Cond} (ws : List Cond) (ps : List Nat) (hp : ws = ps.filterMap (fun i => big[i]?)) (h : ws.all goodWord = true) : GoodIn big ws := by
  intro w hw
  have h1 := List.all_eq_true.mp h w hw
  rw [hp] at hw
  obtain ⟨i, -, hi⟩ := List.mem_filterMap.mp hw
  have hm : w ∈ big := by first | exact List.mem_of_getElem? hi | exact List.getElem?_mem hi
  exact ⟨hm, good_of_word h1⟩
/-- the tables' words that a call hands on -/
def wT : List Cond := lw_tbl.filter goodWord
theorem kmem {w : Cond} (k : Nat) (h : lw_tbl[k]? = some w) (g : goodWord w = true) : w ∈ wT := List.mem_filter.mpr ⟨List.mem_of_getElem? h, g⟩
theorem kIn (ws : List Cond) (ps : List Nat) (hp : ws = ps.filterMap (fun i => lw_tbl[i]?)) (h : ws.all goodWord = true) : ∀ w ∈ ws, w ∈ wT := fun w hw => List.mem_filter.mpr ⟨(goodIn_r ws ps hp h w hw).1, List.all_eq_true.mp h w hw⟩
theorem kGood (w : Cond) (h : w ∈ wT) : (w.onTables && w.keeps) = true ∨ ∃ ty, w = .arrayClass ty := good_of_word (List.mem_filter.mp h).2
theorem inT0 : ∀ w ∈ wsX00, w ∈ wT := kIn _ [180, 182, 184] (by decide +kernel) (by decide +kernel)
theorem inT1 : ∀ w ∈ wsX10, w ∈ wT := kIn _ [163, 165, 167] (by decide +kernel) (by decide +kernel)
theorem inT2 : ∀ w ∈ wsX20, w ∈ wT := kIn _ [212] (by decide +kernel) (by decide +kernel)
theorem inT3 : ∀ w ∈ wsX30, w ∈ wT := kIn _ [144, 146, 148] (by decide +kernel) (by decide +kernel)
theorem inT4 : ∀ w ∈ wsX40, w ∈ wT := kIn _ [105, 107, 109, 111, 113, 115, 117, 119, 121, 123, 125, 127] (by decide +kernel) (by decide +kernel)
theorem inT5 : ∀ w ∈ wsX50, w ∈ wT := kIn _ [197, 199, 201] (by decide +kernel) (by decide +kernel)
theorem inT6 : ∀ w ∈ wsX60, w ∈ wT := kIn _ [235, 237, 239, 241, 243, 245, 247, 249, 251] (by decide +kernel) (by decide +kernel)
theorem inT7 : ∀ w ∈ wsX70, w ∈ wT := kIn _ [583, 585, 587, 589, 591, 593, 595, 597, 599, 601, 603, 605, 607, 609, 611, 613, 615] (by decide +kernel) (by decide +kernel)
end
section
theorem mT_0 : Cond.selects RX4 yX4_joinedByOrder yX4_joinedByOrder ∈ wT := kmem 0 (by decide +kernel) (by decide +kernel)
theorem mT_1 : Cond.selects RX4 yX4_joinsWithItself yX4_joinsWithItself ∈ wT := kmem 1 (by decide +kernel) (by decide +kernel)
theorem mT_2 : Cond.selects RX4 yX4_joinsBothWaysAlike yX4_joinsBothWaysAlike ∈ wT := kmem 2 (by decide +kernel) (by decide +kernel)
theorem mT_3 : Cond.selects RX4 yX4_joinsInAnyGroupsAlike yX4_joinsInAnyGroupsAlike ∈ wT := kmem 3 (by decide +kernel) (by decide +kernel)
theorem mT_4 : Cond.selects RX4 yX4_joinsZeroAsNothing yX4_joinsZeroAsNothing ∈ wT := kmem 4 (by decide +kernel) (by decide +kernel)
theorem mT_5 : Cond.selects RX6 yX6_isExact yX6_isExact ∈ wT := kmem 5 (by decide +kernel) (by decide +kernel)
theorem mT_6 : Cond.selects RX6 yX6_findKnown yX6_findKnown ∈ wT := kmem 6 (by decide +kernel) (by decide +kernel)
theorem mT_7 : Cond.selects RX5 yX5_takeNext yX5_takeNext ∈ wT := kmem 7 (by decide +kernel) (by decide +kernel)
theorem mT_8 : Cond.selects RX5 yX5_leastWaiting yX5_leastWaiting ∈ wT := kmem 8 (by decide +kernel) (by decide +kernel)
theorem mT_9 : Cond.selects RX5 yX5_wakeBehind yX5_wakeBehind ∈ wT := kmem 9 (by decide +kernel) (by decide +kernel)
theorem mT_10 : Cond.selects RX5 yX5_isWaiting yX5_isWaiting ∈ wT := kmem 10 (by decide +kernel) (by decide +kernel)
theorem mT_11 : Cond.selects RX6 yX6_waysThatMatter yX6_waysThatMatter ∈ wT := kmem 11 (by decide +kernel) (by decide +kernel)
theorem mT_12 : Cond.selects RX6 yX6_otherwiseWithout yX6_otherwiseWithout ∈ wT := kmem 12 (by decide +kernel) (by decide +kernel)
theorem mT_13 : Cond.selects RX6 yX6_firstWrongEntry yX6_firstWrongEntry ∈ wT := kmem 13 (by decide +kernel) (by decide +kernel)
theorem mT_14 : Cond.selects RX6 yX6_rebuiltAt yX6_rebuiltAt ∈ wT := kmem 14 (by decide +kernel) (by decide +kernel)
theorem mT_15 : Cond.selects RX6 yX6_addDrawnWay yX6_addDrawnWay ∈ wT := kmem 15 (by decide +kernel) (by decide +kernel)
theorem mT_16 : Cond.selects RX6 yX6_draw yX6_draw ∈ wT := kmem 16 (by decide +kernel) (by decide +kernel)
theorem mT_17 : Cond.selects RX7 yX7_builds yX7_builds ∈ wT := kmem 17 (by decide +kernel) (by decide +kernel)
theorem mT_18 : Cond.selects RX7 yX7_broken yX7_broken ∈ wT := kmem 18 (by decide +kernel) (by decide +kernel)
theorem mT_19 : Cond.selects RX7 yX7_holds yX7_holds ∈ wT := kmem 19 (by decide +kernel) (by decide +kernel)
theorem mT_20 : Cond.selects RX7 yX7_both yX7_both ∈ wT := kmem 20 (by decide +kernel) (by decide +kernel)
theorem mT_21 : Cond.selects RX7 yX7_firstUnordered yX7_firstUnordered ∈ wT := kmem 21 (by decide +kernel) (by decide +kernel)
theorem mT_22 : Cond.selects RX7 yX7_keepsOrder yX7_keepsOrder ∈ wT := kmem 22 (by decide +kernel) (by decide +kernel)
theorem mT_23 : Cond.selects RX7 yX7_isBelow yX7_isBelow ∈ wT := kmem 23 (by decide +kernel) (by decide +kernel)
theorem mT_24 : Cond.selects RX7 yX7_of yX7_of ∈ wT := kmem 24 (by decide +kernel) (by decide +kernel)
theorem mT_25 : Cond.selects RX7 yX7_isWell yX7_isWell ∈ wT := kmem 25 (by decide +kernel) (by decide +kernel)
theorem mT_26 : Cond.selects RX7 yX7_kept yX7_kept ∈ wT := kmem 26 (by decide +kernel) (by decide +kernel)
theorem mT_27 : Cond.selects RX7 yX7_isKept yX7_isKept ∈ wT := kmem 27 (by decide +kernel) (by decide +kernel)
theorem mT_28 : Cond.selects RX7 yX7_refused yX7_refused ∈ wT := kmem 28 (by decide +kernel) (by decide +kernel)
theorem mT_29 : Cond.selects RX7 yX7_rebuilds yX7_rebuilds ∈ wT := kmem 29 (by decide +kernel) (by decide +kernel)
theorem mT_30 : Cond.selects RX7 yX7_gathers yX7_gathers ∈ wT := kmem 30 (by decide +kernel) (by decide +kernel)
theorem mT_31 : Cond.selects RX7 yX7_brings yX7_brings ∈ wT := kmem 31 (by decide +kernel) (by decide +kernel)
theorem mT_32 : Cond.selects RX7 yX7_isTakenAt yX7_isTakenAt ∈ wT := kmem 32 (by decide +kernel) (by decide +kernel)
theorem mT_33 : Cond.selects RX7 yX7_isLess yX7_isLess ∈ wT := kmem 33 (by decide +kernel) (by decide +kernel)
theorem mT_34 : Cond.selects RX7 yX7_isExact yX7_isExact ∈ wT := kmem 34 (by decide +kernel) (by decide +kernel)
theorem mT_35 : Cond.selects RX7 yX7_works yX7_works ∈ wT := kmem 35 (by decide +kernel) (by decide +kernel)
theorem mT_36 : Cond.selects RX7 yX7_taken yX7_taken ∈ wT := kmem 36 (by decide +kernel) (by decide +kernel)
theorem mT_37 : Cond.selects RX7 yX7_waits yX7_waits ∈ wT := kmem 37 (by decide +kernel) (by decide +kernel)
theorem mT_38 : Cond.selects RX7 yX7_matters yX7_matters ∈ wT := kmem 38 (by decide +kernel) (by decide +kernel)
theorem mT_39 : Cond.selects RX7 yX7_without yX7_without ∈ wT := kmem 39 (by decide +kernel) (by decide +kernel)
theorem mT_40 : Cond.selects RX7 yX7_wrong yX7_wrong ∈ wT := kmem 40 (by decide +kernel) (by decide +kernel)
theorem mT_41 : Cond.selects RX7 yX7_isPlace yX7_isPlace ∈ wT := kmem 41 (by decide +kernel) (by decide +kernel)
theorem mT_42 : Cond.selects RX7 yX7_isValue yX7_isValue ∈ wT := kmem 42 (by decide +kernel) (by decide +kernel)
theorem mT_43 : Cond.selects RX7 yX7_knownAt yX7_knownAt ∈ wT := kmem 43 (by decide +kernel) (by decide +kernel)
theorem mT_44 : Cond.selects RX7 yX7_rebuiltAt yX7_rebuiltAt ∈ wT := kmem 44 (by decide +kernel) (by decide +kernel)
theorem mT_45 : Cond.selects RX7 yX7_isWay yX7_isWay ∈ wT := kmem 45 (by decide +kernel) (by decide +kernel)
theorem mT_46 : Cond.selects RX7 yX7_broughtBy yX7_broughtBy ∈ wT := kmem 46 (by decide +kernel) (by decide +kernel)
theorem mT_47 : Cond.selects RX7 yX7_notes yX7_notes ∈ wT := kmem 47 (by decide +kernel) (by decide +kernel)
theorem mT_48 : Cond.selects RX7 yX7_comes yX7_comes ∈ wT := kmem 48 (by decide +kernel) (by decide +kernel)
theorem mT_49 : Cond.selects RX7 yX7_draw yX7_draw ∈ wT := kmem 49 (by decide +kernel) (by decide +kernel)
theorem mT_50 : Cond.initialized RL ∈ wT := kmem 50 (by decide +kernel) (by decide +kernel)
theorem mT_51 : Cond.initialized RX6 ∈ wT := kmem 51 (by decide +kernel) (by decide +kernel)
theorem mT_52 : Cond.initialized RX4 ∈ wT := kmem 52 (by decide +kernel) (by decide +kernel)
theorem mT_53 : Cond.initialized RX3 ∈ wT := kmem 53 (by decide +kernel) (by decide +kernel)
theorem mT_54 : Cond.initialized RX1 ∈ wT := kmem 54 (by decide +kernel) (by decide +kernel)
theorem mT_55 : Cond.initialized RX0 ∈ wT := kmem 55 (by decide +kernel) (by decide +kernel)
theorem mT_56 : Cond.initialized RX5 ∈ wT := kmem 56 (by decide +kernel) (by decide +kernel)
theorem mT_57 : Cond.initialized RX2 ∈ wT := kmem 57 (by decide +kernel) (by decide +kernel)
theorem mT_58 : Cond.initialized RJ9 ∈ wT := kmem 58 (by decide +kernel) (by decide +kernel)
theorem mT_59 : Cond.initialized RX7 ∈ wT := kmem 59 (by decide +kernel) (by decide +kernel)
theorem mT_60 : Cond.initialized RJ10 ∈ wT := kmem 60 (by decide +kernel) (by decide +kernel)
theorem mT_61 : Cond.classLink RL 7 RX6 ∈ wT := kmem 61 (by decide +kernel) (by decide +kernel)
theorem mT_62 : Cond.instantiable RX6 9 ∈ wT := kmem 62 (by decide +kernel) (by decide +kernel)
theorem mT_63 : Cond.methodLink RL 9 yX6_init ∈ wT := kmem 63 (by decide +kernel) (by decide +kernel)
theorem mT_64 : Cond.instanceMethod yX6_init ∈ wT := kmem 64 (by decide +kernel) (by decide +kernel)
theorem mT_65 : Cond.code yX6_init cX6_init 1 none ∈ wT := kmem 65 (by decide +kernel) (by decide +kernel)
theorem mT_66 : Cond.methodLink RX6 1 objectInit ∈ wT := kmem 66 (by decide +kernel) (by decide +kernel)
theorem mT_67 : Cond.instanceMethod objectInit ∈ wT := kmem 67 (by decide +kernel) (by decide +kernel)
theorem mT_68 : Cond.code objectInit ⟨#[0xb1]⟩ 1 none ∈ wT := kmem 68 (by decide +kernel) (by decide +kernel)
theorem mT_69 : Cond.classLink RX6 7 RX4 ∈ wT := kmem 69 (by decide +kernel) (by decide +kernel)
theorem mT_70 : Cond.instantiable RX4 12 ∈ wT := kmem 70 (by decide +kernel) (by decide +kernel)
theorem mT_72 : Cond.instanceMethod yX4_init ∈ wT := kmem 72 (by decide +kernel) (by decide +kernel)
theorem mT_73 : Cond.code yX4_init cX4_init 1 none ∈ wT := kmem 73 (by decide +kernel) (by decide +kernel)
theorem mT_74 : Cond.methodLink RX4 3 objectInit ∈ wT := kmem 74 (by decide +kernel) (by decide +kernel)
theorem mT_75 : Cond.fieldLink RX4 39 "FixedFacts$Web" "values" "I" ∈ wT := kmem 75 (by decide +kernel) (by decide +kernel)
theorem mT_76 : Cond.fieldLink RX6 61 "FixedFacts$Web" "values" "I" ∈ wT := kmem 76 (by decide +kernel) (by decide +kernel)
theorem mT_77 : Cond.fieldLink RX5 18 "FixedFacts$Web" "places" "I" ∈ wT := kmem 77 (by decide +kernel) (by decide +kernel)
theorem mT_78 : Cond.fieldLink RX2 15 "FixedFacts$Web" "places" "I" ∈ wT := kmem 78 (by decide +kernel) (by decide +kernel)
theorem mT_79 : Cond.fieldLink RX4 43 "FixedFacts$Web" "places" "I" ∈ wT := kmem 79 (by decide +kernel) (by decide +kernel)
theorem mT_80 : Cond.fieldLink RX6 65 "FixedFacts$Web" "places" "I" ∈ wT := kmem 80 (by decide +kernel) (by decide +kernel)
theorem mT_81 : Cond.fieldLink RX4 46 "FixedFacts$Web" "ways" "I" ∈ wT := kmem 81 (by decide +kernel) (by decide +kernel)
theorem mT_82 : Cond.fieldLink RX6 68 "FixedFacts$Web" "ways" "I" ∈ wT := kmem 82 (by decide +kernel) (by decide +kernel)
theorem mT_83 : Cond.fieldLink RX5 43 "FixedFacts$Web" "ways" "I" ∈ wT := kmem 83 (by decide +kernel) (by decide +kernel)
theorem mT_84 : Cond.fieldLink RX4 9 "FixedFacts$Web" "table" "[I" ∈ wT := kmem 84 (by decide +kernel) (by decide +kernel)
theorem mT_85 : Cond.fieldLink RX6 189 "FixedFacts$Web" "table" "[I" ∈ wT := kmem 85 (by decide +kernel) (by decide +kernel)
theorem mT_86 : Cond.fieldLink RX4 15 "FixedFacts$Web" "starts" "[I" ∈ wT := kmem 86 (by decide +kernel) (by decide +kernel)
theorem mT_87 : Cond.fieldLink RX6 121 "FixedFacts$Web" "starts" "[I" ∈ wT := kmem 87 (by decide +kernel) (by decide +kernel)
theorem mT_88 : Cond.fieldLink RX4 18 "FixedFacts$Web" "written" "[I" ∈ wT := kmem 88 (by decide +kernel) (by decide +kernel)
theorem mT_89 : Cond.fieldLink RX2 25 "FixedFacts$Web" "written" "[I" ∈ wT := kmem 89 (by decide +kernel) (by decide +kernel)
theorem mT_90 : Cond.fieldLink RX6 144 "FixedFacts$Web" "written" "[I" ∈ wT := kmem 90 (by decide +kernel) (by decide +kernel)
theorem mT_91 : Cond.fieldLink RX4 21 "FixedFacts$Web" "from" "[I" ∈ wT := kmem 91 (by decide +kernel) (by decide +kernel)
theorem mT_92 : Cond.fieldLink RX5 46 "FixedFacts$Web" "from" "[I" ∈ wT := kmem 92 (by decide +kernel) (by decide +kernel)
theorem mT_93 : Cond.fieldLink RX6 150 "FixedFacts$Web" "from" "[I" ∈ wT := kmem 93 (by decide +kernel) (by decide +kernel)
theorem mT_94 : Cond.fieldLink RX4 24 "FixedFacts$Web" "to" "[I" ∈ wT := kmem 94 (by decide +kernel) (by decide +kernel)
theorem mT_95 : Cond.fieldLink RX5 49 "FixedFacts$Web" "to" "[I" ∈ wT := kmem 95 (by decide +kernel) (by decide +kernel)
theorem mT_96 : Cond.fieldLink RX6 153 "FixedFacts$Web" "to" "[I" ∈ wT := kmem 96 (by decide +kernel) (by decide +kernel)
theorem mT_97 : Cond.fieldLink RX4 27 "FixedFacts$Web" "maps" "[I" ∈ wT := kmem 97 (by decide +kernel) (by decide +kernel)
theorem mT_98 : Cond.fieldLink RX6 175 "FixedFacts$Web" "maps" "[I" ∈ wT := kmem 98 (by decide +kernel) (by decide +kernel)
theorem mT_99 : Cond.fieldLink RX4 30 "FixedFacts$Web" "gives" "[I" ∈ wT := kmem 99 (by decide +kernel) (by decide +kernel)
theorem mT_100 : Cond.fieldLink RX6 156 "FixedFacts$Web" "gives" "[I" ∈ wT := kmem 100 (by decide +kernel) (by decide +kernel)
theorem mT_101 : Cond.fieldLink RX4 33 "FixedFacts$Web" "takes" "[I" ∈ wT := kmem 101 (by decide +kernel) (by decide +kernel)
theorem mT_102 : Cond.fieldLink RX6 159 "FixedFacts$Web" "takes" "[I" ∈ wT := kmem 102 (by decide +kernel) (by decide +kernel)
theorem mT_103 : Cond.fieldLink RX4 36 "FixedFacts$Web" "gates" "[I" ∈ wT := kmem 103 (by decide +kernel) (by decide +kernel)
theorem mT_104 : Cond.fieldLink RX6 162 "FixedFacts$Web" "gates" "[I" ∈ wT := kmem 104 (by decide +kernel) (by decide +kernel)
theorem mT_130 : Cond.arrayClass .int ∈ wT := kmem 130 (by decide +kernel) (by decide +kernel)
theorem mT_131 : Cond.classLink RX6 16 RX3 ∈ wT := kmem 131 (by decide +kernel) (by decide +kernel)
theorem mT_132 : Cond.instantiable RX3 3 ∈ wT := kmem 132 (by decide +kernel) (by decide +kernel)
theorem mT_133 : Cond.methodLink RX6 18 yX3_init ∈ wT := kmem 133 (by decide +kernel) (by decide +kernel)
theorem mT_134 : Cond.instanceMethod yX3_init ∈ wT := kmem 134 (by decide +kernel) (by decide +kernel)
theorem mT_135 : Cond.code yX3_init cX3_init 2 none ∈ wT := kmem 135 (by decide +kernel) (by decide +kernel)
theorem mT_136 : Cond.methodLink RX3 3 objectInit ∈ wT := kmem 136 (by decide +kernel) (by decide +kernel)
theorem mT_137 : Cond.classLink RX3 9 RX4 ∈ wT := kmem 137 (by decide +kernel) (by decide +kernel)
theorem mT_140 : Cond.fieldLink RX3 26 "FixedFacts$Past" "kept" "I" ∈ wT := kmem 140 (by decide +kernel) (by decide +kernel)
theorem mT_141 : Cond.fieldLink RX6 101 "FixedFacts$Past" "kept" "I" ∈ wT := kmem 141 (by decide +kernel) (by decide +kernel)
theorem mT_142 : Cond.fieldLink RX3 18 "FixedFacts$Past" "next" "I" ∈ wT := kmem 142 (by decide +kernel) (by decide +kernel)
theorem mT_143 : Cond.fieldLink RX3 11 "FixedFacts$Past" "ring" "[LFixedFacts$Web;" ∈ wT := kmem 143 (by decide +kernel) (by decide +kernel)
theorem mT_151 : Cond.classLink RX6 23 RX1 ∈ wT := kmem 151 (by decide +kernel) (by decide +kernel)
theorem mT_152 : Cond.instantiable RX1 3 ∈ wT := kmem 152 (by decide +kernel) (by decide +kernel)
theorem mT_154 : Cond.instanceMethod yX1_init ∈ wT := kmem 154 (by decide +kernel) (by decide +kernel)
theorem mT_155 : Cond.code yX1_init cX1_init 1 none ∈ wT := kmem 155 (by decide +kernel) (by decide +kernel)
theorem mT_156 : Cond.methodLink RX1 1 objectInit ∈ wT := kmem 156 (by decide +kernel) (by decide +kernel)
theorem mT_157 : Cond.classLink RX1 7 RX4 ∈ wT := kmem 157 (by decide +kernel) (by decide +kernel)
theorem mT_159 : Cond.fieldLink RX1 10 "FixedFacts$Image" "web" "LFixedFacts$Web;" ∈ wT := kmem 159 (by decide +kernel) (by decide +kernel)
theorem mT_160 : Cond.fieldLink RX6 222 "FixedFacts$Image" "web" "LFixedFacts$Web;" ∈ wT := kmem 160 (by decide +kernel) (by decide +kernel)
theorem mT_161 : Cond.fieldLink RX6 226 "FixedFacts$Image" "drawn" "I" ∈ wT := kmem 161 (by decide +kernel) (by decide +kernel)
theorem mT_162 : Cond.fieldLink RX6 218 "FixedFacts$Image" "isThere" "Z" ∈ wT := kmem 162 (by decide +kernel) (by decide +kernel)
theorem mT_170 : Cond.classLink RX6 33 RX0 ∈ wT := kmem 170 (by decide +kernel) (by decide +kernel)
theorem mT_171 : Cond.instantiable RX0 3 ∈ wT := kmem 171 (by decide +kernel) (by decide +kernel)
theorem mT_173 : Cond.instanceMethod yX0_init ∈ wT := kmem 173 (by decide +kernel) (by decide +kernel)
theorem mT_174 : Cond.code yX0_init cX0_init 1 none ∈ wT := kmem 174 (by decide +kernel) (by decide +kernel)
theorem mT_175 : Cond.methodLink RX0 3 objectInit ∈ wT := kmem 175 (by decide +kernel) (by decide +kernel)
theorem mT_176 : Cond.fieldLink RX0 18 "FixedFacts$Book" "entries" "I" ∈ wT := kmem 176 (by decide +kernel) (by decide +kernel)
theorem mT_177 : Cond.fieldLink RX6 95 "FixedFacts$Book" "entries" "I" ∈ wT := kmem 177 (by decide +kernel) (by decide +kernel)
theorem mT_178 : Cond.fieldLink RX0 9 "FixedFacts$Book" "place" "[I" ∈ wT := kmem 178 (by decide +kernel) (by decide +kernel)
theorem mT_179 : Cond.fieldLink RX0 15 "FixedFacts$Book" "fact" "[I" ∈ wT := kmem 179 (by decide +kernel) (by decide +kernel)
theorem mT_187 : Cond.classLink RX6 40 RX5 ∈ wT := kmem 187 (by decide +kernel) (by decide +kernel)
theorem mT_188 : Cond.instantiable RX5 3 ∈ wT := kmem 188 (by decide +kernel) (by decide +kernel)
theorem mT_190 : Cond.instanceMethod yX5_init ∈ wT := kmem 190 (by decide +kernel) (by decide +kernel)
theorem mT_191 : Cond.code yX5_init cX5_init 1 none ∈ wT := kmem 191 (by decide +kernel) (by decide +kernel)
theorem mT_192 : Cond.methodLink RX5 3 objectInit ∈ wT := kmem 192 (by decide +kernel) (by decide +kernel)
theorem mT_193 : Cond.fieldLink RX5 9 "FixedFacts$Work" "found" "[I" ∈ wT := kmem 193 (by decide +kernel) (by decide +kernel)
theorem mT_194 : Cond.fieldLink RX6 135 "FixedFacts$Work" "found" "[I" ∈ wT := kmem 194 (by decide +kernel) (by decide +kernel)
theorem mT_195 : Cond.fieldLink RX5 15 "FixedFacts$Work" "waiting" "[I" ∈ wT := kmem 195 (by decide +kernel) (by decide +kernel)
theorem mT_196 : Cond.fieldLink RX5 24 "FixedFacts$Work" "waits" "I" ∈ wT := kmem 196 (by decide +kernel) (by decide +kernel)
theorem mT_204 : Cond.classLink RX6 50 RX2 ∈ wT := kmem 204 (by decide +kernel) (by decide +kernel)
theorem mT_205 : Cond.instantiable RX2 1 ∈ wT := kmem 205 (by decide +kernel) (by decide +kernel)
theorem mT_207 : Cond.instanceMethod yX2_init ∈ wT := kmem 207 (by decide +kernel) (by decide +kernel)
theorem mT_208 : Cond.code yX2_init cX2_init 1 none ∈ wT := kmem 208 (by decide +kernel) (by decide +kernel)
theorem mT_209 : Cond.methodLink RX2 3 objectInit ∈ wT := kmem 209 (by decide +kernel) (by decide +kernel)
theorem mT_210 : Cond.fieldLink RX2 9 "FixedFacts$Judge" "rebuilt" "[I" ∈ wT := kmem 210 (by decide +kernel) (by decide +kernel)
theorem mT_211 : Cond.fieldLink RX6 233 "FixedFacts$Judge" "rebuilt" "[I" ∈ wT := kmem 211 (by decide +kernel) (by decide +kernel)
theorem mT_215 : Cond.methodLink RX6 57 yX4_becomeNew ∈ wT := kmem 215 (by decide +kernel) (by decide +kernel)
theorem mT_216 : Cond.instanceMethod yX4_becomeNew ∈ wT := kmem 216 (by decide +kernel) (by decide +kernel)
theorem mT_217 : Cond.selects RX4 yX4_becomeNew yX4_becomeNew ∈ wT := kmem 217 (by decide +kernel) (by decide +kernel)
theorem mT_218 : Cond.code yX4_becomeNew cX4_becomeNew 6 none ∈ wT := kmem 218 (by decide +kernel) (by decide +kernel)
theorem mT_219 : Cond.methodLink RX4 55 yX4_joinedByOrder ∈ wT := kmem 219 (by decide +kernel) (by decide +kernel)
theorem mT_221 : Cond.instanceMethod yX4_joinedByOrder ∈ wT := kmem 221 (by decide +kernel) (by decide +kernel)
theorem mT_222 : Cond.code yX4_joinedByOrder cX4_joinedByOrder 5 (some .int) ∈ wT := kmem 222 (by decide +kernel) (by decide +kernel)
theorem mT_223 : Cond.methodLink RX4 59 Lib.Math.max.name ∈ wT := kmem 223 (by decide +kernel) (by decide +kernel)
theorem mT_224 : Cond.static Lib.Math.max.name ∈ wT := kmem 224 (by decide +kernel) (by decide +kernel)
theorem mT_225 : Cond.code Lib.Math.max.name Lib.Math.max.code 2 (some .int) ∈ wT := kmem 225 (by decide +kernel) (by decide +kernel)
theorem mT_226 : Cond.fieldLink RX6 10 "FixedFacts" "web" "LFixedFacts$Web;" ∈ wT := kmem 226 (by decide +kernel) (by decide +kernel)
theorem mT_227 : Cond.fieldLink RX6 19 "FixedFacts" "past" "LFixedFacts$Past;" ∈ wT := kmem 227 (by decide +kernel) (by decide +kernel)
theorem mT_228 : Cond.fieldLink RX6 26 "FixedFacts" "firstImage" "LFixedFacts$Image;" ∈ wT := kmem 228 (by decide +kernel) (by decide +kernel)
theorem mT_229 : Cond.fieldLink RX6 30 "FixedFacts" "secondImage" "LFixedFacts$Image;" ∈ wT := kmem 229 (by decide +kernel) (by decide +kernel)
theorem mT_230 : Cond.fieldLink RX6 36 "FixedFacts" "book" "LFixedFacts$Book;" ∈ wT := kmem 230 (by decide +kernel) (by decide +kernel)
theorem mT_231 : Cond.fieldLink RX6 43 "FixedFacts" "known" "LFixedFacts$Work;" ∈ wT := kmem 231 (by decide +kernel) (by decide +kernel)
theorem mT_232 : Cond.fieldLink RX6 47 "FixedFacts" "trial" "LFixedFacts$Work;" ∈ wT := kmem 232 (by decide +kernel) (by decide +kernel)
theorem mT_233 : Cond.fieldLink RX6 53 "FixedFacts" "judge" "LFixedFacts$Judge;" ∈ wT := kmem 233 (by decide +kernel) (by decide +kernel)
theorem mT_234 : Cond.fieldLink RX6 215 "FixedFacts" "drawn" "I" ∈ wT := kmem 234 (by decide +kernel) (by decide +kernel)
theorem mT_254 : Cond.methodLink RL 13 yX6_told ∈ wT := kmem 254 (by decide +kernel) (by decide +kernel)
theorem mT_255 : Cond.instanceMethod yX6_told ∈ wT := kmem 255 (by decide +kernel) (by decide +kernel)
theorem mT_256 : Cond.selects RX6 yX6_told yX6_told ∈ wT := kmem 256 (by decide +kernel) (by decide +kernel)
theorem mT_257 : Cond.code yX6_told cX6_told 2 (some .int) ∈ wT := kmem 257 (by decide +kernel) (by decide +kernel)
theorem mT_258 : Cond.methodLink RX6 71 yX4_brokenLaw ∈ wT := kmem 258 (by decide +kernel) (by decide +kernel)
theorem mT_259 : Cond.instanceMethod yX4_brokenLaw ∈ wT := kmem 259 (by decide +kernel) (by decide +kernel)
theorem mT_260 : Cond.selects RX4 yX4_brokenLaw yX4_brokenLaw ∈ wT := kmem 260 (by decide +kernel) (by decide +kernel)
theorem mT_261 : Cond.code yX4_brokenLaw cX4_brokenLaw 1 (some .int) ∈ wT := kmem 261 (by decide +kernel) (by decide +kernel)
theorem mT_262 : Cond.methodLink RX4 65 yX4_joinsWithItself ∈ wT := kmem 262 (by decide +kernel) (by decide +kernel)
theorem mT_264 : Cond.instanceMethod yX4_joinsWithItself ∈ wT := kmem 264 (by decide +kernel) (by decide +kernel)
theorem mT_265 : Cond.code yX4_joinsWithItself cX4_joinsWithItself 2 (some .boolean) ∈ wT := kmem 265 (by decide +kernel) (by decide +kernel)
theorem mT_266 : Cond.methodLink RX4 78 yX4_join ∈ wT := kmem 266 (by decide +kernel) (by decide +kernel)
theorem mT_267 : Cond.instanceMethod yX4_join ∈ wT := kmem 267 (by decide +kernel) (by decide +kernel)
theorem mT_268 : Cond.selects RX4 yX4_join yX4_join ∈ wT := kmem 268 (by decide +kernel) (by decide +kernel)
theorem mT_269 : Cond.code yX4_join cX4_join 3 (some .int) ∈ wT := kmem 269 (by decide +kernel) (by decide +kernel)
theorem mT_270 : Cond.methodLink RX4 69 yX4_joinsBothWaysAlike ∈ wT := kmem 270 (by decide +kernel) (by decide +kernel)
theorem mT_272 : Cond.instanceMethod yX4_joinsBothWaysAlike ∈ wT := kmem 272 (by decide +kernel) (by decide +kernel)
theorem mT_273 : Cond.code yX4_joinsBothWaysAlike cX4_joinsBothWaysAlike 3 (some .boolean) ∈ wT := kmem 273 (by decide +kernel) (by decide +kernel)
theorem mT_274 : Cond.methodLink RX4 72 yX4_joinsInAnyGroupsAlike ∈ wT := kmem 274 (by decide +kernel) (by decide +kernel)
theorem mT_276 : Cond.instanceMethod yX4_joinsInAnyGroupsAlike ∈ wT := kmem 276 (by decide +kernel) (by decide +kernel)
theorem mT_277 : Cond.code yX4_joinsInAnyGroupsAlike cX4_joinsInAnyGroupsAlike 5 (some .boolean) ∈ wT := kmem 277 (by decide +kernel) (by decide +kernel)
theorem mT_278 : Cond.methodLink RX4 75 yX4_joinsZeroAsNothing ∈ wT := kmem 278 (by decide +kernel) (by decide +kernel)
theorem mT_280 : Cond.instanceMethod yX4_joinsZeroAsNothing ∈ wT := kmem 280 (by decide +kernel) (by decide +kernel)
theorem mT_281 : Cond.code yX4_joinsZeroAsNothing cX4_joinsZeroAsNothing 2 (some .boolean) ∈ wT := kmem 281 (by decide +kernel) (by decide +kernel)
theorem mT_282 : Cond.methodLink RX6 75 yX4_firstOutOfOrder ∈ wT := kmem 282 (by decide +kernel) (by decide +kernel)
theorem mT_283 : Cond.instanceMethod yX4_firstOutOfOrder ∈ wT := kmem 283 (by decide +kernel) (by decide +kernel)
theorem mT_284 : Cond.selects RX4 yX4_firstOutOfOrder yX4_firstOutOfOrder ∈ wT := kmem 284 (by decide +kernel) (by decide +kernel)
theorem mT_285 : Cond.code yX4_firstOutOfOrder cX4_firstOutOfOrder 2 (some .int) ∈ wT := kmem 285 (by decide +kernel) (by decide +kernel)
theorem mT_286 : Cond.methodLink RX4 85 yX4_keepsOrder ∈ wT := kmem 286 (by decide +kernel) (by decide +kernel)
theorem mT_287 : Cond.instanceMethod yX4_keepsOrder ∈ wT := kmem 287 (by decide +kernel) (by decide +kernel)
theorem mT_288 : Cond.selects RX4 yX4_keepsOrder yX4_keepsOrder ∈ wT := kmem 288 (by decide +kernel) (by decide +kernel)
theorem mT_289 : Cond.code yX4_keepsOrder cX4_keepsOrder 5 (some .boolean) ∈ wT := kmem 289 (by decide +kernel) (by decide +kernel)
theorem mT_290 : Cond.methodLink RX4 81 yX4_isBelow ∈ wT := kmem 290 (by decide +kernel) (by decide +kernel)
theorem mT_291 : Cond.instanceMethod yX4_isBelow ∈ wT := kmem 291 (by decide +kernel) (by decide +kernel)
theorem mT_292 : Cond.selects RX4 yX4_isBelow yX4_isBelow ∈ wT := kmem 292 (by decide +kernel) (by decide +kernel)
theorem mT_293 : Cond.code yX4_isBelow cX4_isBelow 3 (some .boolean) ∈ wT := kmem 293 (by decide +kernel) (by decide +kernel)
theorem mT_294 : Cond.methodLink RX6 78 yX4_isWell ∈ wT := kmem 294 (by decide +kernel) (by decide +kernel)
theorem mT_295 : Cond.instanceMethod yX4_isWell ∈ wT := kmem 295 (by decide +kernel) (by decide +kernel)
theorem mT_296 : Cond.selects RX4 yX4_isWell yX4_isWell ∈ wT := kmem 296 (by decide +kernel) (by decide +kernel)
theorem mT_297 : Cond.code yX4_isWell cX4_isWell 1 (some .boolean) ∈ wT := kmem 297 (by decide +kernel) (by decide +kernel)
theorem mT_298 : Cond.methodLink RX4 89 yX4_brokenLaw ∈ wT := kmem 298 (by decide +kernel) (by decide +kernel)
theorem mT_299 : Cond.methodLink RX4 93 yX4_firstOutOfOrder ∈ wT := kmem 299 (by decide +kernel) (by decide +kernel)
theorem mT_300 : Cond.methodLink RX6 82 yX4_keptPlaces ∈ wT := kmem 300 (by decide +kernel) (by decide +kernel)
theorem mT_301 : Cond.instanceMethod yX4_keptPlaces ∈ wT := kmem 301 (by decide +kernel) (by decide +kernel)
theorem mT_302 : Cond.selects RX4 yX4_keptPlaces yX4_keptPlaces ∈ wT := kmem 302 (by decide +kernel) (by decide +kernel)
theorem mT_303 : Cond.code yX4_keptPlaces cX4_keptPlaces 3 (some .int) ∈ wT := kmem 303 (by decide +kernel) (by decide +kernel)
theorem mT_304 : Cond.methodLink RX6 85 yX2_refusedAt ∈ wT := kmem 304 (by decide +kernel) (by decide +kernel)
theorem mT_305 : Cond.instanceMethod yX2_refusedAt ∈ wT := kmem 305 (by decide +kernel) (by decide +kernel)
theorem mT_306 : Cond.selects RX2 yX2_refusedAt yX2_refusedAt ∈ wT := kmem 306 (by decide +kernel) (by decide +kernel)
theorem mT_307 : Cond.code yX2_refusedAt cX2_refusedAt 3 (some .int) ∈ wT := kmem 307 (by decide +kernel) (by decide +kernel)
theorem mT_308 : Cond.methodLink RX2 32 yX2_rebuild ∈ wT := kmem 308 (by decide +kernel) (by decide +kernel)
theorem mT_309 : Cond.instanceMethod yX2_rebuild ∈ wT := kmem 309 (by decide +kernel) (by decide +kernel)
theorem mT_310 : Cond.selects RX2 yX2_rebuild yX2_rebuild ∈ wT := kmem 310 (by decide +kernel) (by decide +kernel)
theorem mT_311 : Cond.code yX2_rebuild cX2_rebuild 3 none ∈ wT := kmem 311 (by decide +kernel) (by decide +kernel)
theorem mT_312 : Cond.methodLink RX2 21 yX4_isKept ∈ wT := kmem 312 (by decide +kernel) (by decide +kernel)
theorem mT_313 : Cond.instanceMethod yX4_isKept ∈ wT := kmem 313 (by decide +kernel) (by decide +kernel)
theorem mT_314 : Cond.selects RX4 yX4_isKept yX4_isKept ∈ wT := kmem 314 (by decide +kernel) (by decide +kernel)
theorem mT_315 : Cond.code yX4_isKept cX4_isKept 3 (some .boolean) ∈ wT := kmem 315 (by decide +kernel) (by decide +kernel)
theorem mT_316 : Cond.methodLink RX2 28 yX4_together ∈ wT := kmem 316 (by decide +kernel) (by decide +kernel)
theorem mT_317 : Cond.instanceMethod yX4_together ∈ wT := kmem 317 (by decide +kernel) (by decide +kernel)
theorem mT_318 : Cond.selects RX4 yX4_together yX4_together ∈ wT := kmem 318 (by decide +kernel) (by decide +kernel)
theorem mT_319 : Cond.code yX4_together cX4_together 8 (some .int) ∈ wT := kmem 319 (by decide +kernel) (by decide +kernel)
theorem mT_321 : Cond.static yX6_valueOf ∈ wT := kmem 321 (by decide +kernel) (by decide +kernel)
theorem mT_322 : Cond.code yX6_valueOf cX6_valueOf 1 (some .int) ∈ wT := kmem 322 (by decide +kernel) (by decide +kernel)
theorem mT_324 : Cond.static yX6_setOf ∈ wT := kmem 324 (by decide +kernel) (by decide +kernel)
theorem mT_325 : Cond.code yX6_setOf cX6_setOf 1 (some .int) ∈ wT := kmem 325 (by decide +kernel) (by decide +kernel)
theorem mT_326 : Cond.methodLink RX4 103 yX4_brought ∈ wT := kmem 326 (by decide +kernel) (by decide +kernel)
theorem mT_327 : Cond.instanceMethod yX4_brought ∈ wT := kmem 327 (by decide +kernel) (by decide +kernel)
theorem mT_328 : Cond.selects RX4 yX4_brought yX4_brought ∈ wT := kmem 328 (by decide +kernel) (by decide +kernel)
theorem mT_329 : Cond.code yX4_brought cX4_brought 5 (some .int) ∈ wT := kmem 329 (by decide +kernel) (by decide +kernel)
theorem mT_330 : Cond.methodLink RX2 36 yX4_isNoMore ∈ wT := kmem 330 (by decide +kernel) (by decide +kernel)
theorem mT_331 : Cond.instanceMethod yX4_isNoMore ∈ wT := kmem 331 (by decide +kernel) (by decide +kernel)
theorem mT_332 : Cond.selects RX4 yX4_isNoMore yX4_isNoMore ∈ wT := kmem 332 (by decide +kernel) (by decide +kernel)
theorem mT_333 : Cond.code yX4_isNoMore cX4_isNoMore 3 (some .boolean) ∈ wT := kmem 333 (by decide +kernel) (by decide +kernel)
theorem mT_334 : Cond.methodLink RX6 89 yX6_isExact ∈ wT := kmem 334 (by decide +kernel) (by decide +kernel)
theorem mT_336 : Cond.instanceMethod yX6_isExact ∈ wT := kmem 336 (by decide +kernel) (by decide +kernel)
theorem mT_337 : Cond.code yX6_isExact cX6_isExact 2 (some .boolean) ∈ wT := kmem 337 (by decide +kernel) (by decide +kernel)
theorem mT_338 : Cond.methodLink RX6 132 yX6_findKnown ∈ wT := kmem 338 (by decide +kernel) (by decide +kernel)
theorem mT_340 : Cond.instanceMethod yX6_findKnown ∈ wT := kmem 340 (by decide +kernel) (by decide +kernel)
theorem mT_341 : Cond.code yX6_findKnown cX6_findKnown 1 (some .boolean) ∈ wT := kmem 341 (by decide +kernel) (by decide +kernel)
theorem mT_342 : Cond.methodLink RX6 181 yX5_run ∈ wT := kmem 342 (by decide +kernel) (by decide +kernel)
theorem mT_343 : Cond.instanceMethod yX5_run ∈ wT := kmem 343 (by decide +kernel) (by decide +kernel)
theorem mT_344 : Cond.selects RX5 yX5_run yX5_run ∈ wT := kmem 344 (by decide +kernel) (by decide +kernel)
theorem mT_345 : Cond.code yX5_run cX5_run 7 (some .int) ∈ wT := kmem 345 (by decide +kernel) (by decide +kernel)
theorem mT_346 : Cond.methodLink RX5 27 yX5_takeNext ∈ wT := kmem 346 (by decide +kernel) (by decide +kernel)
theorem mT_348 : Cond.instanceMethod yX5_takeNext ∈ wT := kmem 348 (by decide +kernel) (by decide +kernel)
theorem mT_349 : Cond.code yX5_takeNext cX5_takeNext 5 (some .int) ∈ wT := kmem 349 (by decide +kernel) (by decide +kernel)
theorem mT_350 : Cond.methodLink RX5 39 yX5_leastWaiting ∈ wT := kmem 350 (by decide +kernel) (by decide +kernel)
theorem mT_352 : Cond.instanceMethod yX5_leastWaiting ∈ wT := kmem 352 (by decide +kernel) (by decide +kernel)
theorem mT_353 : Cond.code yX5_leastWaiting cX5_leastWaiting 3 (some .int) ∈ wT := kmem 353 (by decide +kernel) (by decide +kernel)
theorem mT_354 : Cond.methodLink RX5 31 yX4_together ∈ wT := kmem 354 (by decide +kernel) (by decide +kernel)
theorem mT_355 : Cond.methodLink RX5 35 yX5_wakeBehind ∈ wT := kmem 355 (by decide +kernel) (by decide +kernel)
theorem mT_357 : Cond.instanceMethod yX5_wakeBehind ∈ wT := kmem 357 (by decide +kernel) (by decide +kernel)
theorem mT_358 : Cond.code yX5_wakeBehind cX5_wakeBehind 5 none ∈ wT := kmem 358 (by decide +kernel) (by decide +kernel)
theorem mT_359 : Cond.methodLink RX5 52 yX5_isWaiting ∈ wT := kmem 359 (by decide +kernel) (by decide +kernel)
theorem mT_361 : Cond.instanceMethod yX5_isWaiting ∈ wT := kmem 361 (by decide +kernel) (by decide +kernel)
theorem mT_362 : Cond.code yX5_isWaiting cX5_isWaiting 3 (some .boolean) ∈ wT := kmem 362 (by decide +kernel) (by decide +kernel)
theorem mT_363 : Cond.methodLink RX6 92 yX6_waysThatMatter ∈ wT := kmem 363 (by decide +kernel) (by decide +kernel)
theorem mT_365 : Cond.instanceMethod yX6_waysThatMatter ∈ wT := kmem 365 (by decide +kernel) (by decide +kernel)
theorem mT_366 : Cond.code yX6_waysThatMatter cX6_waysThatMatter 3 (some .int) ∈ wT := kmem 366 (by decide +kernel) (by decide +kernel)
theorem mT_367 : Cond.methodLink RX6 168 yX6_otherwiseWithout ∈ wT := kmem 367 (by decide +kernel) (by decide +kernel)
theorem mT_369 : Cond.instanceMethod yX6_otherwiseWithout ∈ wT := kmem 369 (by decide +kernel) (by decide +kernel)
theorem mT_370 : Cond.code yX6_otherwiseWithout cX6_otherwiseWithout 4 (some .int) ∈ wT := kmem 370 (by decide +kernel) (by decide +kernel)
theorem mT_371 : Cond.methodLink RX6 98 yX6_firstWrongEntry ∈ wT := kmem 371 (by decide +kernel) (by decide +kernel)
theorem mT_373 : Cond.instanceMethod yX6_firstWrongEntry ∈ wT := kmem 373 (by decide +kernel) (by decide +kernel)
theorem mT_374 : Cond.code yX6_firstWrongEntry cX6_firstWrongEntry 1 (some .int) ∈ wT := kmem 374 (by decide +kernel) (by decide +kernel)
theorem mT_375 : Cond.methodLink RX6 236 yX0_firstUnlike ∈ wT := kmem 375 (by decide +kernel) (by decide +kernel)
theorem mT_376 : Cond.instanceMethod yX0_firstUnlike ∈ wT := kmem 376 (by decide +kernel) (by decide +kernel)
theorem mT_377 : Cond.selects RX0 yX0_firstUnlike yX0_firstUnlike ∈ wT := kmem 377 (by decide +kernel) (by decide +kernel)
theorem mT_378 : Cond.code yX0_firstUnlike cX0_firstUnlike 4 (some .int) ∈ wT := kmem 378 (by decide +kernel) (by decide +kernel)
theorem mT_379 : Cond.constant RX6 104 (-1000000002) ∈ wT := kmem 379 (by decide +kernel) (by decide +kernel)
theorem mT_380 : Cond.methodLink RL 18 yX6_joined ∈ wT := kmem 380 (by decide +kernel) (by decide +kernel)
theorem mT_381 : Cond.instanceMethod yX6_joined ∈ wT := kmem 381 (by decide +kernel) (by decide +kernel)
theorem mT_382 : Cond.selects RX6 yX6_joined yX6_joined ∈ wT := kmem 382 (by decide +kernel) (by decide +kernel)
theorem mT_383 : Cond.code yX6_joined cX6_joined 3 (some .int) ∈ wT := kmem 383 (by decide +kernel) (by decide +kernel)
theorem mT_384 : Cond.methodLink RX6 105 yX4_hasValue ∈ wT := kmem 384 (by decide +kernel) (by decide +kernel)
theorem mT_385 : Cond.instanceMethod yX4_hasValue ∈ wT := kmem 385 (by decide +kernel) (by decide +kernel)
theorem mT_386 : Cond.selects RX4 yX4_hasValue yX4_hasValue ∈ wT := kmem 386 (by decide +kernel) (by decide +kernel)
theorem mT_387 : Cond.code yX4_hasValue cX4_hasValue 2 (some .boolean) ∈ wT := kmem 387 (by decide +kernel) (by decide +kernel)
theorem mT_388 : Cond.constant RX6 109 (-1000000001) ∈ wT := kmem 388 (by decide +kernel) (by decide +kernel)
theorem mT_389 : Cond.methodLink RX6 110 yX4_join ∈ wT := kmem 389 (by decide +kernel) (by decide +kernel)
theorem mT_390 : Cond.methodLink RL 23 yX6_below ∈ wT := kmem 390 (by decide +kernel) (by decide +kernel)
theorem mT_391 : Cond.instanceMethod yX6_below ∈ wT := kmem 391 (by decide +kernel) (by decide +kernel)
theorem mT_392 : Cond.selects RX6 yX6_below yX6_below ∈ wT := kmem 392 (by decide +kernel) (by decide +kernel)
theorem mT_393 : Cond.code yX6_below cX6_below 3 (some .int) ∈ wT := kmem 393 (by decide +kernel) (by decide +kernel)
theorem mT_394 : Cond.methodLink RX6 114 yX4_isBelow ∈ wT := kmem 394 (by decide +kernel) (by decide +kernel)
theorem mT_395 : Cond.methodLink RL 27 yX6_place ∈ wT := kmem 395 (by decide +kernel) (by decide +kernel)
theorem mT_396 : Cond.instanceMethod yX6_place ∈ wT := kmem 396 (by decide +kernel) (by decide +kernel)
theorem mT_397 : Cond.selects RX6 yX6_place yX6_place ∈ wT := kmem 397 (by decide +kernel) (by decide +kernel)
theorem mT_398 : Cond.code yX6_place cX6_place 3 (some .int) ∈ wT := kmem 398 (by decide +kernel) (by decide +kernel)
theorem mT_399 : Cond.methodLink RX6 118 yX4_hasPlace ∈ wT := kmem 399 (by decide +kernel) (by decide +kernel)
theorem mT_400 : Cond.instanceMethod yX4_hasPlace ∈ wT := kmem 400 (by decide +kernel) (by decide +kernel)
theorem mT_401 : Cond.selects RX4 yX4_hasPlace yX4_hasPlace ∈ wT := kmem 401 (by decide +kernel) (by decide +kernel)
theorem mT_402 : Cond.code yX4_hasPlace cX4_hasPlace 2 (some .boolean) ∈ wT := kmem 402 (by decide +kernel) (by decide +kernel)
theorem mT_403 : Cond.methodLink RX6 125 yX6_valueOf ∈ wT := kmem 403 (by decide +kernel) (by decide +kernel)
theorem mT_404 : Cond.methodLink RX6 129 yX6_setOf ∈ wT := kmem 404 (by decide +kernel) (by decide +kernel)
theorem mT_405 : Cond.methodLink RX6 138 yX6_rebuiltAt ∈ wT := kmem 405 (by decide +kernel) (by decide +kernel)
theorem mT_407 : Cond.instanceMethod yX6_rebuiltAt ∈ wT := kmem 407 (by decide +kernel) (by decide +kernel)
theorem mT_408 : Cond.code yX6_rebuiltAt cX6_rebuiltAt 2 (some .int) ∈ wT := kmem 408 (by decide +kernel) (by decide +kernel)
theorem mT_409 : Cond.methodLink RX6 230 yX2_rebuild ∈ wT := kmem 409 (by decide +kernel) (by decide +kernel)
theorem mT_410 : Cond.methodLink RX6 141 yX4_isKept ∈ wT := kmem 410 (by decide +kernel) (by decide +kernel)
theorem mT_411 : Cond.methodLink RL 31 yX6_wayAt ∈ wT := kmem 411 (by decide +kernel) (by decide +kernel)
theorem mT_412 : Cond.instanceMethod yX6_wayAt ∈ wT := kmem 412 (by decide +kernel) (by decide +kernel)
theorem mT_413 : Cond.selects RX6 yX6_wayAt yX6_wayAt ∈ wT := kmem 413 (by decide +kernel) (by decide +kernel)
theorem mT_414 : Cond.code yX6_wayAt cX6_wayAt 3 (some .int) ∈ wT := kmem 414 (by decide +kernel) (by decide +kernel)
theorem mT_415 : Cond.methodLink RX6 147 yX4_hasWay ∈ wT := kmem 415 (by decide +kernel) (by decide +kernel)
theorem mT_416 : Cond.instanceMethod yX4_hasWay ∈ wT := kmem 416 (by decide +kernel) (by decide +kernel)
theorem mT_417 : Cond.selects RX4 yX4_hasWay yX4_hasWay ∈ wT := kmem 417 (by decide +kernel) (by decide +kernel)
theorem mT_418 : Cond.code yX4_hasWay cX4_hasWay 2 (some .boolean) ∈ wT := kmem 418 (by decide +kernel) (by decide +kernel)
theorem mT_419 : Cond.methodLink RX6 165 yX4_keepsOrder ∈ wT := kmem 419 (by decide +kernel) (by decide +kernel)
theorem mT_420 : Cond.methodLink RX6 171 yX4_brought ∈ wT := kmem 420 (by decide +kernel) (by decide +kernel)
theorem mT_421 : Cond.methodLink RL 35 yX6_mapped ∈ wT := kmem 421 (by decide +kernel) (by decide +kernel)
theorem mT_422 : Cond.instanceMethod yX6_mapped ∈ wT := kmem 422 (by decide +kernel) (by decide +kernel)
theorem mT_423 : Cond.selects RX6 yX6_mapped yX6_mapped ∈ wT := kmem 423 (by decide +kernel) (by decide +kernel)
theorem mT_424 : Cond.code yX6_mapped cX6_mapped 3 (some .int) ∈ wT := kmem 424 (by decide +kernel) (by decide +kernel)
theorem mT_425 : Cond.methodLink RL 39 yX6_steps ∈ wT := kmem 425 (by decide +kernel) (by decide +kernel)
theorem mT_426 : Cond.instanceMethod yX6_steps ∈ wT := kmem 426 (by decide +kernel) (by decide +kernel)
theorem mT_427 : Cond.selects RX6 yX6_steps yX6_steps ∈ wT := kmem 427 (by decide +kernel) (by decide +kernel)
theorem mT_428 : Cond.code yX6_steps cX6_steps 2 (some .int) ∈ wT := kmem 428 (by decide +kernel) (by decide +kernel)
theorem mT_429 : Cond.methodLink RX6 178 yX6_isChoice ∈ wT := kmem 429 (by decide +kernel) (by decide +kernel)
theorem mT_430 : Cond.static yX6_isChoice ∈ wT := kmem 430 (by decide +kernel) (by decide +kernel)
theorem mT_431 : Cond.code yX6_isChoice cX6_isChoice 1 (some .boolean) ∈ wT := kmem 431 (by decide +kernel) (by decide +kernel)
theorem mT_432 : Cond.methodLink RL 43 yX6_worked ∈ wT := kmem 432 (by decide +kernel) (by decide +kernel)
theorem mT_433 : Cond.instanceMethod yX6_worked ∈ wT := kmem 433 (by decide +kernel) (by decide +kernel)
theorem mT_434 : Cond.selects RX6 yX6_worked yX6_worked ∈ wT := kmem 434 (by decide +kernel) (by decide +kernel)
theorem mT_435 : Cond.code yX6_worked cX6_worked 3 (some .int) ∈ wT := kmem 435 (by decide +kernel) (by decide +kernel)
theorem mT_436 : Cond.methodLink RL 47 yX6_build ∈ wT := kmem 436 (by decide +kernel) (by decide +kernel)
theorem mT_437 : Cond.instanceMethod yX6_build ∈ wT := kmem 437 (by decide +kernel) (by decide +kernel)
theorem mT_438 : Cond.selects RX6 yX6_build yX6_build ∈ wT := kmem 438 (by decide +kernel) (by decide +kernel)
theorem mT_439 : Cond.code yX6_build cX6_build 5 (some .int) ∈ wT := kmem 439 (by decide +kernel) (by decide +kernel)
theorem mT_440 : Cond.methodLink RX6 185 yX3_remember ∈ wT := kmem 440 (by decide +kernel) (by decide +kernel)
theorem mT_441 : Cond.instanceMethod yX3_remember ∈ wT := kmem 441 (by decide +kernel) (by decide +kernel)
theorem mT_442 : Cond.selects RX3 yX3_remember yX3_remember ∈ wT := kmem 442 (by decide +kernel) (by decide +kernel)
theorem mT_443 : Cond.code yX3_remember cX3_remember 2 none ∈ wT := kmem 443 (by decide +kernel) (by decide +kernel)
theorem mT_444 : Cond.methodLink RX3 22 yX4_become ∈ wT := kmem 444 (by decide +kernel) (by decide +kernel)
theorem mT_445 : Cond.instanceMethod yX4_become ∈ wT := kmem 445 (by decide +kernel) (by decide +kernel)
theorem mT_446 : Cond.selects RX4 yX4_become yX4_become ∈ wT := kmem 446 (by decide +kernel) (by decide +kernel)
theorem mT_447 : Cond.code yX4_become cX4_become 2 none ∈ wT := kmem 447 (by decide +kernel) (by decide +kernel)
theorem mT_448 : Cond.methodLink RX4 49 arraycopyName ∈ wT := kmem 448 (by decide +kernel) (by decide +kernel)
theorem mT_449 : Cond.static arraycopyName ∈ wT := kmem 449 (by decide +kernel) (by decide +kernel)
theorem mT_450 : Cond.native arraycopyName ∈ wT := kmem 450 (by decide +kernel) (by decide +kernel)
theorem mT_451 : Cond.methodLink RX3 29 Lib.Math.min.name ∈ wT := kmem 451 (by decide +kernel) (by decide +kernel)
theorem mT_452 : Cond.static Lib.Math.min.name ∈ wT := kmem 452 (by decide +kernel) (by decide +kernel)
theorem mT_453 : Cond.code Lib.Math.min.name Lib.Math.min.code 2 (some .int) ∈ wT := kmem 453 (by decide +kernel) (by decide +kernel)
theorem mT_454 : Cond.methodLink RL 52 yX6_cell ∈ wT := kmem 454 (by decide +kernel) (by decide +kernel)
theorem mT_455 : Cond.instanceMethod yX6_cell ∈ wT := kmem 455 (by decide +kernel) (by decide +kernel)
theorem mT_456 : Cond.selects RX6 yX6_cell yX6_cell ∈ wT := kmem 456 (by decide +kernel) (by decide +kernel)
theorem mT_457 : Cond.code yX6_cell cX6_cell 4 (some .int) ∈ wT := kmem 457 (by decide +kernel) (by decide +kernel)
theorem mT_458 : Cond.methodLink RL 56 yX6_start ∈ wT := kmem 458 (by decide +kernel) (by decide +kernel)
theorem mT_459 : Cond.instanceMethod yX6_start ∈ wT := kmem 459 (by decide +kernel) (by decide +kernel)
theorem mT_460 : Cond.selects RX6 yX6_start yX6_start ∈ wT := kmem 460 (by decide +kernel) (by decide +kernel)
theorem mT_461 : Cond.code yX6_start cX6_start 4 (some .int) ∈ wT := kmem 461 (by decide +kernel) (by decide +kernel)
theorem mT_462 : Cond.methodLink RX6 192 yX6_isSet ∈ wT := kmem 462 (by decide +kernel) (by decide +kernel)
theorem mT_463 : Cond.static yX6_isSet ∈ wT := kmem 463 (by decide +kernel) (by decide +kernel)
theorem mT_464 : Cond.code yX6_isSet cX6_isSet 1 (some .boolean) ∈ wT := kmem 464 (by decide +kernel) (by decide +kernel)
theorem mT_465 : Cond.methodLink RL 60 yX6_way ∈ wT := kmem 465 (by decide +kernel) (by decide +kernel)
theorem mT_466 : Cond.instanceMethod yX6_way ∈ wT := kmem 466 (by decide +kernel) (by decide +kernel)
theorem mT_467 : Cond.selects RX6 yX6_way yX6_way ∈ wT := kmem 467 (by decide +kernel) (by decide +kernel)
theorem mT_468 : Cond.code yX6_way cX6_way 3 (some .int) ∈ wT := kmem 468 (by decide +kernel) (by decide +kernel)
theorem mT_469 : Cond.constant RX6 195 (-1000000004) ∈ wT := kmem 469 (by decide +kernel) (by decide +kernel)
theorem mT_470 : Cond.methodLink RX6 196 yX4_addWay ∈ wT := kmem 470 (by decide +kernel) (by decide +kernel)
theorem mT_471 : Cond.instanceMethod yX4_addWay ∈ wT := kmem 471 (by decide +kernel) (by decide +kernel)
theorem mT_472 : Cond.selects RX4 yX4_addWay yX4_addWay ∈ wT := kmem 472 (by decide +kernel) (by decide +kernel)
theorem mT_473 : Cond.code yX4_addWay cX4_addWay 5 (some .int) ∈ wT := kmem 473 (by decide +kernel) (by decide +kernel)
theorem mT_474 : Cond.methodLink RL 64 yX6_drop ∈ wT := kmem 474 (by decide +kernel) (by decide +kernel)
theorem mT_475 : Cond.instanceMethod yX6_drop ∈ wT := kmem 475 (by decide +kernel) (by decide +kernel)
theorem mT_476 : Cond.selects RX6 yX6_drop yX6_drop ∈ wT := kmem 476 (by decide +kernel) (by decide +kernel)
theorem mT_477 : Cond.code yX6_drop cX6_drop 2 (some .int) ∈ wT := kmem 477 (by decide +kernel) (by decide +kernel)
theorem mT_478 : Cond.methodLink RX6 199 yX4_removeWay ∈ wT := kmem 478 (by decide +kernel) (by decide +kernel)
theorem mT_479 : Cond.instanceMethod yX4_removeWay ∈ wT := kmem 479 (by decide +kernel) (by decide +kernel)
theorem mT_480 : Cond.selects RX4 yX4_removeWay yX4_removeWay ∈ wT := kmem 480 (by decide +kernel) (by decide +kernel)
theorem mT_481 : Cond.code yX4_removeWay cX4_removeWay 3 none ∈ wT := kmem 481 (by decide +kernel) (by decide +kernel)
theorem mT_482 : Cond.methodLink RL 68 yX6_map ∈ wT := kmem 482 (by decide +kernel) (by decide +kernel)
theorem mT_483 : Cond.instanceMethod yX6_map ∈ wT := kmem 483 (by decide +kernel) (by decide +kernel)
theorem mT_484 : Cond.selects RX6 yX6_map yX6_map ∈ wT := kmem 484 (by decide +kernel) (by decide +kernel)
theorem mT_485 : Cond.code yX6_map cX6_map 6 (some .int) ∈ wT := kmem 485 (by decide +kernel) (by decide +kernel)
theorem mT_486 : Cond.methodLink RL 72 yX6_marks ∈ wT := kmem 486 (by decide +kernel) (by decide +kernel)
theorem mT_487 : Cond.instanceMethod yX6_marks ∈ wT := kmem 487 (by decide +kernel) (by decide +kernel)
theorem mT_488 : Cond.selects RX6 yX6_marks yX6_marks ∈ wT := kmem 488 (by decide +kernel) (by decide +kernel)
theorem mT_489 : Cond.code yX6_marks cX6_marks 4 (some .int) ∈ wT := kmem 489 (by decide +kernel) (by decide +kernel)
theorem mT_490 : Cond.methodLink RL 76 yX6_gate ∈ wT := kmem 490 (by decide +kernel) (by decide +kernel)
theorem mT_491 : Cond.instanceMethod yX6_gate ∈ wT := kmem 491 (by decide +kernel) (by decide +kernel)
theorem mT_492 : Cond.selects RX6 yX6_gate yX6_gate ∈ wT := kmem 492 (by decide +kernel) (by decide +kernel)
theorem mT_493 : Cond.code yX6_gate cX6_gate 4 (some .int) ∈ wT := kmem 493 (by decide +kernel) (by decide +kernel)
theorem mT_494 : Cond.methodLink RL 80 yX6_write ∈ wT := kmem 494 (by decide +kernel) (by decide +kernel)
theorem mT_495 : Cond.instanceMethod yX6_write ∈ wT := kmem 495 (by decide +kernel) (by decide +kernel)
theorem mT_496 : Cond.selects RX6 yX6_write yX6_write ∈ wT := kmem 496 (by decide +kernel) (by decide +kernel)
theorem mT_497 : Cond.code yX6_write cX6_write 4 (some .int) ∈ wT := kmem 497 (by decide +kernel) (by decide +kernel)
theorem mT_498 : Cond.constant RX6 203 (-1000000003) ∈ wT := kmem 498 (by decide +kernel) (by decide +kernel)
theorem mT_499 : Cond.methodLink RL 84 yX6_copy ∈ wT := kmem 499 (by decide +kernel) (by decide +kernel)
theorem mT_500 : Cond.instanceMethod yX6_copy ∈ wT := kmem 500 (by decide +kernel) (by decide +kernel)
theorem mT_501 : Cond.selects RX6 yX6_copy yX6_copy ∈ wT := kmem 501 (by decide +kernel) (by decide +kernel)
theorem mT_502 : Cond.code yX6_copy cX6_copy 3 (some .int) ∈ wT := kmem 502 (by decide +kernel) (by decide +kernel)
theorem mT_503 : Cond.methodLink RL 89 yX6_drift ∈ wT := kmem 503 (by decide +kernel) (by decide +kernel)
theorem mT_504 : Cond.instanceMethod yX6_drift ∈ wT := kmem 504 (by decide +kernel) (by decide +kernel)
theorem mT_505 : Cond.selects RX6 yX6_drift yX6_drift ∈ wT := kmem 505 (by decide +kernel) (by decide +kernel)
theorem mT_506 : Cond.code yX6_drift cX6_drift 3 (some .int) ∈ wT := kmem 506 (by decide +kernel) (by decide +kernel)
theorem mT_507 : Cond.methodLink RX6 204 yX6_addDrawnWay ∈ wT := kmem 507 (by decide +kernel) (by decide +kernel)
theorem mT_509 : Cond.instanceMethod yX6_addDrawnWay ∈ wT := kmem 509 (by decide +kernel) (by decide +kernel)
theorem mT_510 : Cond.code yX6_addDrawnWay cX6_addDrawnWay 4 none ∈ wT := kmem 510 (by decide +kernel) (by decide +kernel)
theorem mT_511 : Cond.methodLink RX6 240 yX6_draw ∈ wT := kmem 511 (by decide +kernel) (by decide +kernel)
theorem mT_513 : Cond.instanceMethod yX6_draw ∈ wT := kmem 513 (by decide +kernel) (by decide +kernel)
theorem mT_514 : Cond.code yX6_draw cX6_draw 2 (some .int) ∈ wT := kmem 514 (by decide +kernel) (by decide +kernel)
theorem mT_515 : Cond.constantLong RX6 243 (1103515245) ∈ wT := kmem 515 (by decide +kernel) (by decide +kernel)
theorem mT_516 : Cond.constantLong RX6 245 (12345) ∈ wT := kmem 516 (by decide +kernel) (by decide +kernel)
theorem mT_517 : Cond.constantLong RX6 247 (2147483648) ∈ wT := kmem 517 (by decide +kernel) (by decide +kernel)
theorem mT_518 : Cond.constant RX6 249 (65536) ∈ wT := kmem 518 (by decide +kernel) (by decide +kernel)
theorem mT_519 : Cond.methodLink RL 93 yX6_undo ∈ wT := kmem 519 (by decide +kernel) (by decide +kernel)
theorem mT_520 : Cond.instanceMethod yX6_undo ∈ wT := kmem 520 (by decide +kernel) (by decide +kernel)
theorem mT_521 : Cond.selects RX6 yX6_undo yX6_undo ∈ wT := kmem 521 (by decide +kernel) (by decide +kernel)
theorem mT_522 : Cond.code yX6_undo cX6_undo 2 (some .int) ∈ wT := kmem 522 (by decide +kernel) (by decide +kernel)
theorem mT_523 : Cond.methodLink RX6 207 yX3_bringBack ∈ wT := kmem 523 (by decide +kernel) (by decide +kernel)
theorem mT_524 : Cond.instanceMethod yX3_bringBack ∈ wT := kmem 524 (by decide +kernel) (by decide +kernel)
theorem mT_525 : Cond.selects RX3 yX3_bringBack yX3_bringBack ∈ wT := kmem 525 (by decide +kernel) (by decide +kernel)
theorem mT_526 : Cond.code yX3_bringBack cX3_bringBack 3 none ∈ wT := kmem 526 (by decide +kernel) (by decide +kernel)
theorem mT_527 : Cond.methodLink RL 97 yX6_note ∈ wT := kmem 527 (by decide +kernel) (by decide +kernel)
theorem mT_528 : Cond.instanceMethod yX6_note ∈ wT := kmem 528 (by decide +kernel) (by decide +kernel)
theorem mT_529 : Cond.selects RX6 yX6_note yX6_note ∈ wT := kmem 529 (by decide +kernel) (by decide +kernel)
theorem mT_530 : Cond.code yX6_note cX6_note 4 (some .int) ∈ wT := kmem 530 (by decide +kernel) (by decide +kernel)
theorem mT_531 : Cond.methodLink RX6 211 yX0_add ∈ wT := kmem 531 (by decide +kernel) (by decide +kernel)
theorem mT_532 : Cond.instanceMethod yX0_add ∈ wT := kmem 532 (by decide +kernel) (by decide +kernel)
theorem mT_533 : Cond.selects RX0 yX0_add yX0_add ∈ wT := kmem 533 (by decide +kernel) (by decide +kernel)
theorem mT_534 : Cond.code yX0_add cX0_add 3 none ∈ wT := kmem 534 (by decide +kernel) (by decide +kernel)
theorem mT_535 : Cond.methodLink RL 101 yX6_tear ∈ wT := kmem 535 (by decide +kernel) (by decide +kernel)
theorem mT_536 : Cond.instanceMethod yX6_tear ∈ wT := kmem 536 (by decide +kernel) (by decide +kernel)
theorem mT_537 : Cond.selects RX6 yX6_tear yX6_tear ∈ wT := kmem 537 (by decide +kernel) (by decide +kernel)
theorem mT_538 : Cond.code yX6_tear cX6_tear 2 (some .int) ∈ wT := kmem 538 (by decide +kernel) (by decide +kernel)
theorem mT_539 : Cond.methodLink RL 105 yX6_seed ∈ wT := kmem 539 (by decide +kernel) (by decide +kernel)
theorem mT_540 : Cond.instanceMethod yX6_seed ∈ wT := kmem 540 (by decide +kernel) (by decide +kernel)
theorem mT_541 : Cond.selects RX6 yX6_seed yX6_seed ∈ wT := kmem 541 (by decide +kernel) (by decide +kernel)
theorem mT_542 : Cond.code yX6_seed cX6_seed 3 (some .int) ∈ wT := kmem 542 (by decide +kernel) (by decide +kernel)
theorem mT_543 : Cond.methodLink RL 109 yX6_keep ∈ wT := kmem 543 (by decide +kernel) (by decide +kernel)
theorem mT_544 : Cond.instanceMethod yX6_keep ∈ wT := kmem 544 (by decide +kernel) (by decide +kernel)
theorem mT_545 : Cond.selects RX6 yX6_keep yX6_keep ∈ wT := kmem 545 (by decide +kernel) (by decide +kernel)
theorem mT_546 : Cond.code yX6_keep cX6_keep 3 (some .int) ∈ wT := kmem 546 (by decide +kernel) (by decide +kernel)
theorem mT_547 : Cond.methodLink RX6 223 yX4_become ∈ wT := kmem 547 (by decide +kernel) (by decide +kernel)
theorem mT_548 : Cond.methodLink RX6 227 yX3_forget ∈ wT := kmem 548 (by decide +kernel) (by decide +kernel)
theorem mT_549 : Cond.instanceMethod yX3_forget ∈ wT := kmem 549 (by decide +kernel) (by decide +kernel)
theorem mT_550 : Cond.selects RX3 yX3_forget yX3_forget ∈ wT := kmem 550 (by decide +kernel) (by decide +kernel)
theorem mT_551 : Cond.code yX3_forget cX3_forget 1 none ∈ wT := kmem 551 (by decide +kernel) (by decide +kernel)
theorem mT_552 : Cond.methodLink RL 113 yX6_goBack ∈ wT := kmem 552 (by decide +kernel) (by decide +kernel)
theorem mT_553 : Cond.instanceMethod yX6_goBack ∈ wT := kmem 553 (by decide +kernel) (by decide +kernel)
theorem mT_554 : Cond.selects RX6 yX6_goBack yX6_goBack ∈ wT := kmem 554 (by decide +kernel) (by decide +kernel)
theorem mT_555 : Cond.code yX6_goBack cX6_goBack 3 (some .int) ∈ wT := kmem 555 (by decide +kernel) (by decide +kernel)
theorem mT_556 : Cond.classLink RL 10 RX7 ∈ wT := kmem 556 (by decide +kernel) (by decide +kernel)
theorem mT_557 : Cond.instantiable RX7 17 ∈ wT := kmem 557 (by decide +kernel) (by decide +kernel)
theorem mT_558 : Cond.methodLink RL 12 yX7_init ∈ wT := kmem 558 (by decide +kernel) (by decide +kernel)
theorem mT_559 : Cond.instanceMethod yX7_init ∈ wT := kmem 559 (by decide +kernel) (by decide +kernel)
theorem mT_560 : Cond.code yX7_init cX7_init 1 none ∈ wT := kmem 560 (by decide +kernel) (by decide +kernel)
theorem mT_561 : Cond.methodLink RX7 1 objectInit ∈ wT := kmem 561 (by decide +kernel) (by decide +kernel)
theorem mT_562 : Cond.methodLink RX7 38 yX7_builds ∈ wT := kmem 562 (by decide +kernel) (by decide +kernel)
theorem mT_564 : Cond.instanceMethod yX7_builds ∈ wT := kmem 564 (by decide +kernel) (by decide +kernel)
theorem mT_565 : Cond.code yX7_builds cX7_builds 7 none ∈ wT := kmem 565 (by decide +kernel) (by decide +kernel)
theorem mT_566 : Cond.fieldLink RX7 7 "FixedFactsModel" "st" "[I" ∈ wT := kmem 566 (by decide +kernel) (by decide +kernel)
theorem mT_567 : Cond.fieldLink RX7 13 "FixedFactsModel" "past" "[I" ∈ wT := kmem 567 (by decide +kernel) (by decide +kernel)
theorem mT_568 : Cond.fieldLink RX7 146 "FixedFactsModel" "undos" "I" ∈ wT := kmem 568 (by decide +kernel) (by decide +kernel)
theorem mT_569 : Cond.fieldLink RX7 16 "FixedFactsModel" "images" "[I" ∈ wT := kmem 569 (by decide +kernel) (by decide +kernel)
theorem mT_570 : Cond.fieldLink RX7 19 "FixedFactsModel" "isKeptIn" "[Z" ∈ wT := kmem 570 (by decide +kernel) (by decide +kernel)
theorem mT_571 : Cond.fieldLink RX7 178 "FixedFactsModel" "seed" "I" ∈ wT := kmem 571 (by decide +kernel) (by decide +kernel)
theorem mT_572 : Cond.fieldLink RX7 23 "FixedFactsModel" "book" "[I" ∈ wT := kmem 572 (by decide +kernel) (by decide +kernel)
theorem mT_573 : Cond.fieldLink RX7 128 "FixedFactsModel" "entries" "I" ∈ wT := kmem 573 (by decide +kernel) (by decide +kernel)
theorem mT_574 : Cond.fieldLink RX7 26 "FixedFactsModel" "known" "[I" ∈ wT := kmem 574 (by decide +kernel) (by decide +kernel)
theorem mT_575 : Cond.fieldLink RX7 29 "FixedFactsModel" "tried" "[I" ∈ wT := kmem 575 (by decide +kernel) (by decide +kernel)
theorem mT_576 : Cond.fieldLink RX7 32 "FixedFactsModel" "rebuilt" "[I" ∈ wT := kmem 576 (by decide +kernel) (by decide +kernel)
theorem mT_577 : Cond.fieldLink RX7 72 "FixedFactsModel" "broughtValue" "I" ∈ wT := kmem 577 (by decide +kernel) (by decide +kernel)
theorem mT_578 : Cond.fieldLink RX7 76 "FixedFactsModel" "broughtSet" "I" ∈ wT := kmem 578 (by decide +kernel) (by decide +kernel)
theorem mT_579 : Cond.fieldLink RX7 79 "FixedFactsModel" "gotValue" "I" ∈ wT := kmem 579 (by decide +kernel) (by decide +kernel)
theorem mT_580 : Cond.fieldLink RX7 82 "FixedFactsModel" "gotSet" "I" ∈ wT := kmem 580 (by decide +kernel) (by decide +kernel)
theorem mT_581 : Cond.fieldLink RX7 35 "FixedFactsModel" "row" "[I" ∈ wT := kmem 581 (by decide +kernel) (by decide +kernel)
theorem mT_582 : Cond.fieldLink RX7 88 "FixedFactsModel" "waiting" "I" ∈ wT := kmem 582 (by decide +kernel) (by decide +kernel)
theorem mT_618 : Cond.arrayClass .boolean ∈ wT := kmem 618 (by decide +kernel) (by decide +kernel)
theorem mT_619 : Cond.methodLink RL 17 yX7_told ∈ wT := kmem 619 (by decide +kernel) (by decide +kernel)
theorem mT_620 : Cond.instanceMethod yX7_told ∈ wT := kmem 620 (by decide +kernel) (by decide +kernel)
theorem mT_621 : Cond.selects RX7 yX7_told yX7_told ∈ wT := kmem 621 (by decide +kernel) (by decide +kernel)
theorem mT_622 : Cond.code yX7_told cX7_told 2 (some .int) ∈ wT := kmem 622 (by decide +kernel) (by decide +kernel)
theorem mT_623 : Cond.methodLink RX7 65 yX7_broken ∈ wT := kmem 623 (by decide +kernel) (by decide +kernel)
theorem mT_625 : Cond.instanceMethod yX7_broken ∈ wT := kmem 625 (by decide +kernel) (by decide +kernel)
theorem mT_626 : Cond.code yX7_broken cX7_broken 4 (some .int) ∈ wT := kmem 626 (by decide +kernel) (by decide +kernel)
theorem mT_627 : Cond.methodLink RX7 50 yX7_holds ∈ wT := kmem 627 (by decide +kernel) (by decide +kernel)
theorem mT_629 : Cond.instanceMethod yX7_holds ∈ wT := kmem 629 (by decide +kernel) (by decide +kernel)
theorem mT_630 : Cond.code yX7_holds cX7_holds 5 (some .boolean) ∈ wT := kmem 630 (by decide +kernel) (by decide +kernel)
theorem mT_631 : Cond.methodLink RX7 46 yX7_both ∈ wT := kmem 631 (by decide +kernel) (by decide +kernel)
theorem mT_633 : Cond.instanceMethod yX7_both ∈ wT := kmem 633 (by decide +kernel) (by decide +kernel)
theorem mT_634 : Cond.code yX7_both cX7_both 3 (some .int) ∈ wT := kmem 634 (by decide +kernel) (by decide +kernel)
theorem mT_635 : Cond.methodLink RX7 69 yX7_firstUnordered ∈ wT := kmem 635 (by decide +kernel) (by decide +kernel)
theorem mT_637 : Cond.instanceMethod yX7_firstUnordered ∈ wT := kmem 637 (by decide +kernel) (by decide +kernel)
theorem mT_638 : Cond.code yX7_firstUnordered cX7_firstUnordered 2 (some .int) ∈ wT := kmem 638 (by decide +kernel) (by decide +kernel)
theorem mT_639 : Cond.methodLink RX7 61 yX7_keepsOrder ∈ wT := kmem 639 (by decide +kernel) (by decide +kernel)
theorem mT_641 : Cond.instanceMethod yX7_keepsOrder ∈ wT := kmem 641 (by decide +kernel) (by decide +kernel)
theorem mT_642 : Cond.code yX7_keepsOrder cX7_keepsOrder 4 (some .boolean) ∈ wT := kmem 642 (by decide +kernel) (by decide +kernel)
theorem mT_643 : Cond.methodLink RX7 54 yX7_isBelow ∈ wT := kmem 643 (by decide +kernel) (by decide +kernel)
theorem mT_645 : Cond.instanceMethod yX7_isBelow ∈ wT := kmem 645 (by decide +kernel) (by decide +kernel)
theorem mT_646 : Cond.code yX7_isBelow cX7_isBelow 3 (some .boolean) ∈ wT := kmem 646 (by decide +kernel) (by decide +kernel)
theorem mT_647 : Cond.methodLink RX7 58 yX7_of ∈ wT := kmem 647 (by decide +kernel) (by decide +kernel)
theorem mT_649 : Cond.instanceMethod yX7_of ∈ wT := kmem 649 (by decide +kernel) (by decide +kernel)
theorem mT_650 : Cond.code yX7_of cX7_of 3 (some .int) ∈ wT := kmem 650 (by decide +kernel) (by decide +kernel)
theorem mT_651 : Cond.methodLink RX7 121 yX7_isWell ∈ wT := kmem 651 (by decide +kernel) (by decide +kernel)
theorem mT_653 : Cond.instanceMethod yX7_isWell ∈ wT := kmem 653 (by decide +kernel) (by decide +kernel)
theorem mT_654 : Cond.code yX7_isWell cX7_isWell 1 (some .boolean) ∈ wT := kmem 654 (by decide +kernel) (by decide +kernel)
theorem mT_655 : Cond.methodLink RX7 134 yX7_kept ∈ wT := kmem 655 (by decide +kernel) (by decide +kernel)
theorem mT_657 : Cond.instanceMethod yX7_kept ∈ wT := kmem 657 (by decide +kernel) (by decide +kernel)
theorem mT_658 : Cond.code yX7_kept cX7_kept 3 (some .int) ∈ wT := kmem 658 (by decide +kernel) (by decide +kernel)
theorem mT_659 : Cond.methodLink RX7 109 yX7_isKept ∈ wT := kmem 659 (by decide +kernel) (by decide +kernel)
theorem mT_661 : Cond.instanceMethod yX7_isKept ∈ wT := kmem 661 (by decide +kernel) (by decide +kernel)
theorem mT_662 : Cond.code yX7_isKept cX7_isKept 3 (some .boolean) ∈ wT := kmem 662 (by decide +kernel) (by decide +kernel)
theorem mT_663 : Cond.methodLink RX7 125 yX7_refused ∈ wT := kmem 663 (by decide +kernel) (by decide +kernel)
theorem mT_665 : Cond.instanceMethod yX7_refused ∈ wT := kmem 665 (by decide +kernel) (by decide +kernel)
theorem mT_666 : Cond.code yX7_refused cX7_refused 2 (some .int) ∈ wT := kmem 666 (by decide +kernel) (by decide +kernel)
theorem mT_667 : Cond.methodLink RX7 115 yX7_rebuilds ∈ wT := kmem 667 (by decide +kernel) (by decide +kernel)
theorem mT_669 : Cond.instanceMethod yX7_rebuilds ∈ wT := kmem 669 (by decide +kernel) (by decide +kernel)
theorem mT_670 : Cond.code yX7_rebuilds cX7_rebuilds 3 none ∈ wT := kmem 670 (by decide +kernel) (by decide +kernel)
theorem mT_671 : Cond.methodLink RX7 95 yX7_gathers ∈ wT := kmem 671 (by decide +kernel) (by decide +kernel)
theorem mT_673 : Cond.instanceMethod yX7_gathers ∈ wT := kmem 673 (by decide +kernel) (by decide +kernel)
theorem mT_674 : Cond.code yX7_gathers cX7_gathers 5 none ∈ wT := kmem 674 (by decide +kernel) (by decide +kernel)
theorem mT_675 : Cond.methodLink RX7 85 yX7_brings ∈ wT := kmem 675 (by decide +kernel) (by decide +kernel)
theorem mT_677 : Cond.instanceMethod yX7_brings ∈ wT := kmem 677 (by decide +kernel) (by decide +kernel)
theorem mT_678 : Cond.code yX7_brings cX7_brings 5 none ∈ wT := kmem 678 (by decide +kernel) (by decide +kernel)
theorem mT_679 : Cond.methodLink RX7 118 yX7_isTakenAt ∈ wT := kmem 679 (by decide +kernel) (by decide +kernel)
theorem mT_681 : Cond.instanceMethod yX7_isTakenAt ∈ wT := kmem 681 (by decide +kernel) (by decide +kernel)
theorem mT_682 : Cond.code yX7_isTakenAt cX7_isTakenAt 2 (some .boolean) ∈ wT := kmem 682 (by decide +kernel) (by decide +kernel)
theorem mT_683 : Cond.methodLink RX7 112 yX7_isLess ∈ wT := kmem 683 (by decide +kernel) (by decide +kernel)
theorem mT_685 : Cond.instanceMethod yX7_isLess ∈ wT := kmem 685 (by decide +kernel) (by decide +kernel)
theorem mT_686 : Cond.code yX7_isLess cX7_isLess 4 (some .boolean) ∈ wT := kmem 686 (by decide +kernel) (by decide +kernel)
theorem mT_687 : Cond.methodLink RX7 137 yX7_isExact ∈ wT := kmem 687 (by decide +kernel) (by decide +kernel)
theorem mT_689 : Cond.instanceMethod yX7_isExact ∈ wT := kmem 689 (by decide +kernel) (by decide +kernel)
theorem mT_690 : Cond.code yX7_isExact cX7_isExact 3 (some .boolean) ∈ wT := kmem 690 (by decide +kernel) (by decide +kernel)
theorem mT_691 : Cond.methodLink RX7 102 yX7_works ∈ wT := kmem 691 (by decide +kernel) (by decide +kernel)
theorem mT_693 : Cond.instanceMethod yX7_works ∈ wT := kmem 693 (by decide +kernel) (by decide +kernel)
theorem mT_694 : Cond.code yX7_works cX7_works 7 (some .int) ∈ wT := kmem 694 (by decide +kernel) (by decide +kernel)
theorem mT_695 : Cond.methodLink RX7 91 yX7_taken ∈ wT := kmem 695 (by decide +kernel) (by decide +kernel)
theorem mT_697 : Cond.instanceMethod yX7_taken ∈ wT := kmem 697 (by decide +kernel) (by decide +kernel)
theorem mT_698 : Cond.code yX7_taken cX7_taken 5 (some .int) ∈ wT := kmem 698 (by decide +kernel) (by decide +kernel)
theorem mT_699 : Cond.methodLink RX7 99 yX7_waits ∈ wT := kmem 699 (by decide +kernel) (by decide +kernel)
theorem mT_701 : Cond.instanceMethod yX7_waits ∈ wT := kmem 701 (by decide +kernel) (by decide +kernel)
theorem mT_702 : Cond.code yX7_waits cX7_waits 3 (some .boolean) ∈ wT := kmem 702 (by decide +kernel) (by decide +kernel)
theorem mT_703 : Cond.methodLink RX7 140 yX7_matters ∈ wT := kmem 703 (by decide +kernel) (by decide +kernel)
theorem mT_705 : Cond.instanceMethod yX7_matters ∈ wT := kmem 705 (by decide +kernel) (by decide +kernel)
theorem mT_706 : Cond.code yX7_matters cX7_matters 3 (some .int) ∈ wT := kmem 706 (by decide +kernel) (by decide +kernel)
theorem mT_707 : Cond.methodLink RX7 106 yX7_without ∈ wT := kmem 707 (by decide +kernel) (by decide +kernel)
theorem mT_709 : Cond.instanceMethod yX7_without ∈ wT := kmem 709 (by decide +kernel) (by decide +kernel)
theorem mT_710 : Cond.code yX7_without cX7_without 6 (some .int) ∈ wT := kmem 710 (by decide +kernel) (by decide +kernel)
theorem mT_711 : Cond.methodLink RX7 143 yX7_wrong ∈ wT := kmem 711 (by decide +kernel) (by decide +kernel)
theorem mT_713 : Cond.instanceMethod yX7_wrong ∈ wT := kmem 713 (by decide +kernel) (by decide +kernel)
theorem mT_714 : Cond.code yX7_wrong cX7_wrong 4 (some .int) ∈ wT := kmem 714 (by decide +kernel) (by decide +kernel)
theorem mT_715 : Cond.methodLink RX7 131 yX7_isPlace ∈ wT := kmem 715 (by decide +kernel) (by decide +kernel)
theorem mT_717 : Cond.instanceMethod yX7_isPlace ∈ wT := kmem 717 (by decide +kernel) (by decide +kernel)
theorem mT_718 : Cond.code yX7_isPlace cX7_isPlace 2 (some .boolean) ∈ wT := kmem 718 (by decide +kernel) (by decide +kernel)
theorem mT_719 : Cond.methodLink RX7 42 yX7_in ∈ wT := kmem 719 (by decide +kernel) (by decide +kernel)
theorem mT_720 : Cond.static yX7_in ∈ wT := kmem 720 (by decide +kernel) (by decide +kernel)
theorem mT_721 : Cond.code yX7_in cX7_in 3 (some .boolean) ∈ wT := kmem 721 (by decide +kernel) (by decide +kernel)
theorem mT_722 : Cond.constant RX7 149 (-1000000002) ∈ wT := kmem 722 (by decide +kernel) (by decide +kernel)
theorem mT_723 : Cond.methodLink RL 22 yX7_joined ∈ wT := kmem 723 (by decide +kernel) (by decide +kernel)
theorem mT_724 : Cond.instanceMethod yX7_joined ∈ wT := kmem 724 (by decide +kernel) (by decide +kernel)
theorem mT_725 : Cond.selects RX7 yX7_joined yX7_joined ∈ wT := kmem 725 (by decide +kernel) (by decide +kernel)
theorem mT_726 : Cond.code yX7_joined cX7_joined 3 (some .int) ∈ wT := kmem 726 (by decide +kernel) (by decide +kernel)
theorem mT_727 : Cond.methodLink RX7 150 yX7_isValue ∈ wT := kmem 727 (by decide +kernel) (by decide +kernel)
theorem mT_729 : Cond.instanceMethod yX7_isValue ∈ wT := kmem 729 (by decide +kernel) (by decide +kernel)
theorem mT_730 : Cond.code yX7_isValue cX7_isValue 2 (some .boolean) ∈ wT := kmem 730 (by decide +kernel) (by decide +kernel)
theorem mT_731 : Cond.constant RX7 153 (-1000000001) ∈ wT := kmem 731 (by decide +kernel) (by decide +kernel)
theorem mT_732 : Cond.methodLink RL 26 yX7_below ∈ wT := kmem 732 (by decide +kernel) (by decide +kernel)
theorem mT_733 : Cond.instanceMethod yX7_below ∈ wT := kmem 733 (by decide +kernel) (by decide +kernel)
theorem mT_734 : Cond.selects RX7 yX7_below yX7_below ∈ wT := kmem 734 (by decide +kernel) (by decide +kernel)
theorem mT_735 : Cond.code yX7_below cX7_below 3 (some .int) ∈ wT := kmem 735 (by decide +kernel) (by decide +kernel)
theorem mT_736 : Cond.methodLink RL 30 yX7_place ∈ wT := kmem 736 (by decide +kernel) (by decide +kernel)
theorem mT_737 : Cond.instanceMethod yX7_place ∈ wT := kmem 737 (by decide +kernel) (by decide +kernel)
theorem mT_738 : Cond.selects RX7 yX7_place yX7_place ∈ wT := kmem 738 (by decide +kernel) (by decide +kernel)
theorem mT_739 : Cond.code yX7_place cX7_place 3 (some .int) ∈ wT := kmem 739 (by decide +kernel) (by decide +kernel)
theorem mT_740 : Cond.methodLink RX7 154 yX7_knownAt ∈ wT := kmem 740 (by decide +kernel) (by decide +kernel)
theorem mT_742 : Cond.instanceMethod yX7_knownAt ∈ wT := kmem 742 (by decide +kernel) (by decide +kernel)
theorem mT_743 : Cond.code yX7_knownAt cX7_knownAt 2 (some .int) ∈ wT := kmem 743 (by decide +kernel) (by decide +kernel)
theorem mT_744 : Cond.methodLink RX7 157 yX7_rebuiltAt ∈ wT := kmem 744 (by decide +kernel) (by decide +kernel)
theorem mT_746 : Cond.instanceMethod yX7_rebuiltAt ∈ wT := kmem 746 (by decide +kernel) (by decide +kernel)
theorem mT_747 : Cond.code yX7_rebuiltAt cX7_rebuiltAt 2 (some .int) ∈ wT := kmem 747 (by decide +kernel) (by decide +kernel)
theorem mT_748 : Cond.methodLink RL 34 yX7_wayAt ∈ wT := kmem 748 (by decide +kernel) (by decide +kernel)
theorem mT_749 : Cond.instanceMethod yX7_wayAt ∈ wT := kmem 749 (by decide +kernel) (by decide +kernel)
theorem mT_750 : Cond.selects RX7 yX7_wayAt yX7_wayAt ∈ wT := kmem 750 (by decide +kernel) (by decide +kernel)
theorem mT_751 : Cond.code yX7_wayAt cX7_wayAt 3 (some .int) ∈ wT := kmem 751 (by decide +kernel) (by decide +kernel)
theorem mT_752 : Cond.methodLink RX7 160 yX7_isWay ∈ wT := kmem 752 (by decide +kernel) (by decide +kernel)
theorem mT_754 : Cond.instanceMethod yX7_isWay ∈ wT := kmem 754 (by decide +kernel) (by decide +kernel)
theorem mT_755 : Cond.code yX7_isWay cX7_isWay 2 (some .boolean) ∈ wT := kmem 755 (by decide +kernel) (by decide +kernel)
theorem mT_756 : Cond.methodLink RX7 163 yX7_broughtBy ∈ wT := kmem 756 (by decide +kernel) (by decide +kernel)
theorem mT_758 : Cond.instanceMethod yX7_broughtBy ∈ wT := kmem 758 (by decide +kernel) (by decide +kernel)
theorem mT_759 : Cond.code yX7_broughtBy cX7_broughtBy 3 (some .int) ∈ wT := kmem 759 (by decide +kernel) (by decide +kernel)
theorem mT_760 : Cond.methodLink RL 38 yX7_mapped ∈ wT := kmem 760 (by decide +kernel) (by decide +kernel)
theorem mT_761 : Cond.instanceMethod yX7_mapped ∈ wT := kmem 761 (by decide +kernel) (by decide +kernel)
theorem mT_762 : Cond.selects RX7 yX7_mapped yX7_mapped ∈ wT := kmem 762 (by decide +kernel) (by decide +kernel)
theorem mT_763 : Cond.code yX7_mapped cX7_mapped 3 (some .int) ∈ wT := kmem 763 (by decide +kernel) (by decide +kernel)
theorem mT_764 : Cond.methodLink RL 42 yX7_steps ∈ wT := kmem 764 (by decide +kernel) (by decide +kernel)
theorem mT_765 : Cond.instanceMethod yX7_steps ∈ wT := kmem 765 (by decide +kernel) (by decide +kernel)
theorem mT_766 : Cond.selects RX7 yX7_steps yX7_steps ∈ wT := kmem 766 (by decide +kernel) (by decide +kernel)
theorem mT_767 : Cond.code yX7_steps cX7_steps 2 (some .int) ∈ wT := kmem 767 (by decide +kernel) (by decide +kernel)
theorem mT_768 : Cond.methodLink RL 46 yX7_worked ∈ wT := kmem 768 (by decide +kernel) (by decide +kernel)
theorem mT_769 : Cond.instanceMethod yX7_worked ∈ wT := kmem 769 (by decide +kernel) (by decide +kernel)
theorem mT_770 : Cond.selects RX7 yX7_worked yX7_worked ∈ wT := kmem 770 (by decide +kernel) (by decide +kernel)
theorem mT_771 : Cond.code yX7_worked cX7_worked 3 (some .int) ∈ wT := kmem 771 (by decide +kernel) (by decide +kernel)
theorem mT_772 : Cond.methodLink RL 51 yX7_build ∈ wT := kmem 772 (by decide +kernel) (by decide +kernel)
theorem mT_773 : Cond.instanceMethod yX7_build ∈ wT := kmem 773 (by decide +kernel) (by decide +kernel)
theorem mT_774 : Cond.selects RX7 yX7_build yX7_build ∈ wT := kmem 774 (by decide +kernel) (by decide +kernel)
theorem mT_775 : Cond.code yX7_build cX7_build 5 (some .int) ∈ wT := kmem 775 (by decide +kernel) (by decide +kernel)
theorem mT_776 : Cond.methodLink RX7 166 yX7_notes ∈ wT := kmem 776 (by decide +kernel) (by decide +kernel)
theorem mT_778 : Cond.instanceMethod yX7_notes ∈ wT := kmem 778 (by decide +kernel) (by decide +kernel)
theorem mT_779 : Cond.code yX7_notes cX7_notes 2 none ∈ wT := kmem 779 (by decide +kernel) (by decide +kernel)
theorem mT_780 : Cond.methodLink RL 55 yX7_cell ∈ wT := kmem 780 (by decide +kernel) (by decide +kernel)
theorem mT_781 : Cond.instanceMethod yX7_cell ∈ wT := kmem 781 (by decide +kernel) (by decide +kernel)
theorem mT_782 : Cond.selects RX7 yX7_cell yX7_cell ∈ wT := kmem 782 (by decide +kernel) (by decide +kernel)
theorem mT_783 : Cond.code yX7_cell cX7_cell 4 (some .int) ∈ wT := kmem 783 (by decide +kernel) (by decide +kernel)
theorem mT_784 : Cond.methodLink RL 59 yX7_start ∈ wT := kmem 784 (by decide +kernel) (by decide +kernel)
theorem mT_785 : Cond.instanceMethod yX7_start ∈ wT := kmem 785 (by decide +kernel) (by decide +kernel)
theorem mT_786 : Cond.selects RX7 yX7_start yX7_start ∈ wT := kmem 786 (by decide +kernel) (by decide +kernel)
theorem mT_787 : Cond.code yX7_start cX7_start 4 (some .int) ∈ wT := kmem 787 (by decide +kernel) (by decide +kernel)
theorem mT_788 : Cond.methodLink RX7 169 yX7_isSet ∈ wT := kmem 788 (by decide +kernel) (by decide +kernel)
theorem mT_789 : Cond.static yX7_isSet ∈ wT := kmem 789 (by decide +kernel) (by decide +kernel)
theorem mT_790 : Cond.code yX7_isSet cX7_isSet 1 (some .boolean) ∈ wT := kmem 790 (by decide +kernel) (by decide +kernel)
theorem mT_791 : Cond.methodLink RL 63 yX7_way ∈ wT := kmem 791 (by decide +kernel) (by decide +kernel)
theorem mT_792 : Cond.instanceMethod yX7_way ∈ wT := kmem 792 (by decide +kernel) (by decide +kernel)
theorem mT_793 : Cond.selects RX7 yX7_way yX7_way ∈ wT := kmem 793 (by decide +kernel) (by decide +kernel)
theorem mT_794 : Cond.code yX7_way cX7_way 3 (some .int) ∈ wT := kmem 794 (by decide +kernel) (by decide +kernel)
theorem mT_795 : Cond.constant RX7 172 (-1000000004) ∈ wT := kmem 795 (by decide +kernel) (by decide +kernel)
theorem mT_796 : Cond.methodLink RX7 173 yX7_comes ∈ wT := kmem 796 (by decide +kernel) (by decide +kernel)
theorem mT_798 : Cond.instanceMethod yX7_comes ∈ wT := kmem 798 (by decide +kernel) (by decide +kernel)
theorem mT_799 : Cond.code yX7_comes cX7_comes 8 none ∈ wT := kmem 799 (by decide +kernel) (by decide +kernel)
theorem mT_800 : Cond.methodLink RL 67 yX7_drop ∈ wT := kmem 800 (by decide +kernel) (by decide +kernel)
theorem mT_801 : Cond.instanceMethod yX7_drop ∈ wT := kmem 801 (by decide +kernel) (by decide +kernel)
theorem mT_802 : Cond.selects RX7 yX7_drop yX7_drop ∈ wT := kmem 802 (by decide +kernel) (by decide +kernel)
theorem mT_803 : Cond.code yX7_drop cX7_drop 3 (some .int) ∈ wT := kmem 803 (by decide +kernel) (by decide +kernel)
theorem mT_804 : Cond.methodLink RL 71 yX7_map ∈ wT := kmem 804 (by decide +kernel) (by decide +kernel)
theorem mT_805 : Cond.instanceMethod yX7_map ∈ wT := kmem 805 (by decide +kernel) (by decide +kernel)
theorem mT_806 : Cond.selects RX7 yX7_map yX7_map ∈ wT := kmem 806 (by decide +kernel) (by decide +kernel)
theorem mT_807 : Cond.code yX7_map cX7_map 5 (some .int) ∈ wT := kmem 807 (by decide +kernel) (by decide +kernel)
theorem mT_808 : Cond.methodLink RL 75 yX7_marks ∈ wT := kmem 808 (by decide +kernel) (by decide +kernel)
theorem mT_809 : Cond.instanceMethod yX7_marks ∈ wT := kmem 809 (by decide +kernel) (by decide +kernel)
theorem mT_810 : Cond.selects RX7 yX7_marks yX7_marks ∈ wT := kmem 810 (by decide +kernel) (by decide +kernel)
theorem mT_811 : Cond.code yX7_marks cX7_marks 4 (some .int) ∈ wT := kmem 811 (by decide +kernel) (by decide +kernel)
theorem mT_812 : Cond.methodLink RL 79 yX7_gate ∈ wT := kmem 812 (by decide +kernel) (by decide +kernel)
theorem mT_813 : Cond.instanceMethod yX7_gate ∈ wT := kmem 813 (by decide +kernel) (by decide +kernel)
theorem mT_814 : Cond.selects RX7 yX7_gate yX7_gate ∈ wT := kmem 814 (by decide +kernel) (by decide +kernel)
theorem mT_815 : Cond.code yX7_gate cX7_gate 4 (some .int) ∈ wT := kmem 815 (by decide +kernel) (by decide +kernel)
theorem mT_816 : Cond.methodLink RL 83 yX7_write ∈ wT := kmem 816 (by decide +kernel) (by decide +kernel)
theorem mT_817 : Cond.instanceMethod yX7_write ∈ wT := kmem 817 (by decide +kernel) (by decide +kernel)
theorem mT_818 : Cond.selects RX7 yX7_write yX7_write ∈ wT := kmem 818 (by decide +kernel) (by decide +kernel)
theorem mT_819 : Cond.code yX7_write cX7_write 4 (some .int) ∈ wT := kmem 819 (by decide +kernel) (by decide +kernel)
theorem mT_820 : Cond.constant RX7 177 (-1000000003) ∈ wT := kmem 820 (by decide +kernel) (by decide +kernel)
theorem mT_821 : Cond.methodLink RL 88 yX7_copy ∈ wT := kmem 821 (by decide +kernel) (by decide +kernel)
theorem mT_822 : Cond.instanceMethod yX7_copy ∈ wT := kmem 822 (by decide +kernel) (by decide +kernel)
theorem mT_823 : Cond.selects RX7 yX7_copy yX7_copy ∈ wT := kmem 823 (by decide +kernel) (by decide +kernel)
theorem mT_824 : Cond.code yX7_copy cX7_copy 3 (some .int) ∈ wT := kmem 824 (by decide +kernel) (by decide +kernel)
theorem mT_825 : Cond.methodLink RL 92 yX7_drift ∈ wT := kmem 825 (by decide +kernel) (by decide +kernel)
theorem mT_826 : Cond.instanceMethod yX7_drift ∈ wT := kmem 826 (by decide +kernel) (by decide +kernel)
theorem mT_827 : Cond.selects RX7 yX7_drift yX7_drift ∈ wT := kmem 827 (by decide +kernel) (by decide +kernel)
theorem mT_828 : Cond.code yX7_drift cX7_drift 8 (some .int) ∈ wT := kmem 828 (by decide +kernel) (by decide +kernel)
theorem mT_829 : Cond.methodLink RX7 188 yX7_draw ∈ wT := kmem 829 (by decide +kernel) (by decide +kernel)
theorem mT_831 : Cond.instanceMethod yX7_draw ∈ wT := kmem 831 (by decide +kernel) (by decide +kernel)
theorem mT_832 : Cond.code yX7_draw cX7_draw 2 (some .int) ∈ wT := kmem 832 (by decide +kernel) (by decide +kernel)
theorem mT_833 : Cond.constantLong RX7 181 (1103515245) ∈ wT := kmem 833 (by decide +kernel) (by decide +kernel)
theorem mT_834 : Cond.constantLong RX7 183 (12345) ∈ wT := kmem 834 (by decide +kernel) (by decide +kernel)
theorem mT_835 : Cond.constantLong RX7 185 (2147483648) ∈ wT := kmem 835 (by decide +kernel) (by decide +kernel)
theorem mT_836 : Cond.constant RX7 187 (65536) ∈ wT := kmem 836 (by decide +kernel) (by decide +kernel)
theorem mT_837 : Cond.methodLink RL 96 yX7_undo ∈ wT := kmem 837 (by decide +kernel) (by decide +kernel)
theorem mT_838 : Cond.instanceMethod yX7_undo ∈ wT := kmem 838 (by decide +kernel) (by decide +kernel)
theorem mT_839 : Cond.selects RX7 yX7_undo yX7_undo ∈ wT := kmem 839 (by decide +kernel) (by decide +kernel)
theorem mT_840 : Cond.code yX7_undo cX7_undo 3 (some .int) ∈ wT := kmem 840 (by decide +kernel) (by decide +kernel)
theorem mT_841 : Cond.methodLink RL 100 yX7_note ∈ wT := kmem 841 (by decide +kernel) (by decide +kernel)
theorem mT_842 : Cond.instanceMethod yX7_note ∈ wT := kmem 842 (by decide +kernel) (by decide +kernel)
theorem mT_843 : Cond.selects RX7 yX7_note yX7_note ∈ wT := kmem 843 (by decide +kernel) (by decide +kernel)
theorem mT_844 : Cond.code yX7_note cX7_note 4 (some .int) ∈ wT := kmem 844 (by decide +kernel) (by decide +kernel)
theorem mT_845 : Cond.methodLink RL 104 yX7_tear ∈ wT := kmem 845 (by decide +kernel) (by decide +kernel)
theorem mT_846 : Cond.instanceMethod yX7_tear ∈ wT := kmem 846 (by decide +kernel) (by decide +kernel)
theorem mT_847 : Cond.selects RX7 yX7_tear yX7_tear ∈ wT := kmem 847 (by decide +kernel) (by decide +kernel)
theorem mT_848 : Cond.code yX7_tear cX7_tear 2 (some .int) ∈ wT := kmem 848 (by decide +kernel) (by decide +kernel)
theorem mT_849 : Cond.methodLink RL 108 yX7_seed ∈ wT := kmem 849 (by decide +kernel) (by decide +kernel)
theorem mT_850 : Cond.instanceMethod yX7_seed ∈ wT := kmem 850 (by decide +kernel) (by decide +kernel)
theorem mT_851 : Cond.selects RX7 yX7_seed yX7_seed ∈ wT := kmem 851 (by decide +kernel) (by decide +kernel)
theorem mT_852 : Cond.code yX7_seed cX7_seed 3 (some .int) ∈ wT := kmem 852 (by decide +kernel) (by decide +kernel)
theorem mT_853 : Cond.methodLink RL 112 yX7_keep ∈ wT := kmem 853 (by decide +kernel) (by decide +kernel)
theorem mT_854 : Cond.instanceMethod yX7_keep ∈ wT := kmem 854 (by decide +kernel) (by decide +kernel)
theorem mT_855 : Cond.selects RX7 yX7_keep yX7_keep ∈ wT := kmem 855 (by decide +kernel) (by decide +kernel)
theorem mT_856 : Cond.code yX7_keep cX7_keep 3 (some .int) ∈ wT := kmem 856 (by decide +kernel) (by decide +kernel)
theorem mT_857 : Cond.methodLink RL 116 yX7_goBack ∈ wT := kmem 857 (by decide +kernel) (by decide +kernel)
theorem mT_858 : Cond.instanceMethod yX7_goBack ∈ wT := kmem 858 (by decide +kernel) (by decide +kernel)
theorem mT_859 : Cond.selects RX7 yX7_goBack yX7_goBack ∈ wT := kmem 859 (by decide +kernel) (by decide +kernel)
theorem mT_860 : Cond.code yX7_goBack cX7_goBack 3 (some .int) ∈ wT := kmem 860 (by decide +kernel) (by decide +kernel)
end
section
theorem dX0_init_0 : decode cX0_init 0 = .ok (.aload_n 0, 1) := by decide +kernel
theorem dX0_init_1 : decode cX0_init 1 = .ok (.invokespecial 3, 3) := by decide +kernel
theorem dX0_init_4 : decode cX0_init 4 = .ok (.aload_n 0, 1) := by decide +kernel
theorem dX0_init_5 : decode cX0_init 5 = .ok (.bipush 20, 2) := by decide +kernel
theorem dX0_init_7 : decode cX0_init 7 = .ok (.newarray .int, 2) := by decide +kernel
theorem dX0_init_9 : decode cX0_init 9 = .ok (.putfield 9, 3) := by decide +kernel
theorem dX0_init_12 : decode cX0_init 12 = .ok (.aload_n 0, 1) := by decide +kernel
theorem dX0_init_13 : decode cX0_init 13 = .ok (.bipush 20, 2) := by decide +kernel
theorem dX0_init_15 : decode cX0_init 15 = .ok (.newarray .int, 2) := by decide +kernel
theorem dX0_init_17 : decode cX0_init 17 = .ok (.putfield 15, 3) := by decide +kernel
theorem dX0_init_20 : decode cX0_init 20 = .ok (.return_, 1) := by decide +kernel
theorem dX0_add_0 : decode cX0_add 0 = .ok (.aload_n 0, 1) := by decide +kernel
theorem dX0_add_1 : decode cX0_add 1 = .ok (.getfield 9, 3) := by decide +kernel
theorem dX0_add_4 : decode cX0_add 4 = .ok (.aload_n 0, 1) := by decide +kernel
theorem dX0_add_5 : decode cX0_add 5 = .ok (.getfield 18, 3) := by decide +kernel
theorem dX0_add_8 : decode cX0_add 8 = .ok (.iload_n 1, 1) := by decide +kernel
theorem dX0_add_9 : decode cX0_add 9 = .ok (.iastore, 1) := by decide +kernel
theorem dX0_add_10 : decode cX0_add 10 = .ok (.aload_n 0, 1) := by decide +kernel
theorem dX0_add_11 : decode cX0_add 11 = .ok (.getfield 15, 3) := by decide +kernel
theorem dX0_add_14 : decode cX0_add 14 = .ok (.aload_n 0, 1) := by decide +kernel
theorem dX0_add_15 : decode cX0_add 15 = .ok (.getfield 18, 3) := by decide +kernel
theorem dX0_add_18 : decode cX0_add 18 = .ok (.iload_n 2, 1) := by decide +kernel
theorem dX0_add_19 : decode cX0_add 19 = .ok (.iastore, 1) := by decide +kernel
theorem dX0_add_20 : decode cX0_add 20 = .ok (.aload_n 0, 1) := by decide +kernel
theorem dX0_add_21 : decode cX0_add 21 = .ok (.dup, 1) := by decide +kernel
theorem dX0_add_22 : decode cX0_add 22 = .ok (.getfield 18, 3) := by decide +kernel
theorem dX0_add_25 : decode cX0_add 25 = .ok (.iconst 1, 1) := by decide +kernel
theorem dX0_add_26 : decode cX0_add 26 = .ok (.iadd, 1) := by decide +kernel
theorem dX0_add_27 : decode cX0_add 27 = .ok (.putfield 18, 3) := by decide +kernel
theorem dX0_add_30 : decode cX0_add 30 = .ok (.return_, 1) := by decide +kernel
theorem dX0_firstUnlike_0 : decode cX0_firstUnlike 0 = .ok (.iconst 0, 1) := by decide +kernel
theorem dX0_firstUnlike_1 : decode cX0_firstUnlike 1 = .ok (.istore_n 3, 1) := by decide +kernel
theorem dX0_firstUnlike_2 : decode cX0_firstUnlike 2 = .ok (.iload_n 3, 1) := by decide +kernel
theorem dX0_firstUnlike_3 : decode cX0_firstUnlike 3 = .ok (.aload_n 0, 1) := by decide +kernel
theorem dX0_firstUnlike_4 : decode cX0_firstUnlike 4 = .ok (.getfield 18, 3) := by decide +kernel
theorem dX0_firstUnlike_7 : decode cX0_firstUnlike 7 = .ok (.if_icmp .ge 38, 3) := by decide +kernel
theorem dX0_firstUnlike_10 : decode cX0_firstUnlike 10 = .ok (.aload_n 0, 1) := by decide +kernel
theorem dX0_firstUnlike_11 : decode cX0_firstUnlike 11 = .ok (.getfield 9, 3) := by decide +kernel
theorem dX0_firstUnlike_14 : decode cX0_firstUnlike 14 = .ok (.iload_n 3, 1) := by decide +kernel
theorem dX0_firstUnlike_15 : decode cX0_firstUnlike 15 = .ok (.iaload, 1) := by decide +kernel
theorem dX0_firstUnlike_16 : decode cX0_firstUnlike 16 = .ok (.iload_n 2, 1) := by decide +kernel
theorem dX0_firstUnlike_17 : decode cX0_firstUnlike 17 = .ok (.if_icmp .ge 20, 3) := by decide +kernel
theorem dX0_firstUnlike_20 : decode cX0_firstUnlike 20 = .ok (.aload_n 1, 1) := by decide +kernel
theorem dX0_firstUnlike_21 : decode cX0_firstUnlike 21 = .ok (.aload_n 0, 1) := by decide +kernel
theorem dX0_firstUnlike_22 : decode cX0_firstUnlike 22 = .ok (.getfield 9, 3) := by decide +kernel
theorem dX0_firstUnlike_25 : decode cX0_firstUnlike 25 = .ok (.iload_n 3, 1) := by decide +kernel
theorem dX0_firstUnlike_26 : decode cX0_firstUnlike 26 = .ok (.iaload, 1) := by decide +kernel
theorem dX0_firstUnlike_27 : decode cX0_firstUnlike 27 = .ok (.iaload, 1) := by decide +kernel
theorem dX0_firstUnlike_28 : decode cX0_firstUnlike 28 = .ok (.aload_n 0, 1) := by decide +kernel
theorem dX0_firstUnlike_29 : decode cX0_firstUnlike 29 = .ok (.getfield 15, 3) := by decide +kernel
theorem dX0_firstUnlike_32 : decode cX0_firstUnlike 32 = .ok (.iload_n 3, 1) := by decide +kernel
theorem dX0_firstUnlike_33 : decode cX0_firstUnlike 33 = .ok (.iaload, 1) := by decide +kernel
theorem dX0_firstUnlike_34 : decode cX0_firstUnlike 34 = .ok (.if_icmp .eq 5, 3) := by decide +kernel
theorem dX0_firstUnlike_37 : decode cX0_firstUnlike 37 = .ok (.iload_n 3, 1) := by decide +kernel
theorem dX0_firstUnlike_38 : decode cX0_firstUnlike 38 = .ok (.ireturn, 1) := by decide +kernel
theorem dX0_firstUnlike_39 : decode cX0_firstUnlike 39 = .ok (.iinc 3 1, 3) := by decide +kernel
theorem dX0_firstUnlike_42 : decode cX0_firstUnlike 42 = .ok (.goto (-40), 3) := by decide +kernel
theorem dX0_firstUnlike_45 : decode cX0_firstUnlike 45 = .ok (.iconst (-1), 1) := by decide +kernel
theorem dX0_firstUnlike_46 : decode cX0_firstUnlike 46 = .ok (.ireturn, 1) := by decide +kernel
theorem dX1_init_0 : decode cX1_init 0 = .ok (.aload_n 0, 1) := by decide +kernel
theorem dX1_init_1 : decode cX1_init 1 = .ok (.invokespecial 1, 3) := by decide +kernel
theorem dX1_init_4 : decode cX1_init 4 = .ok (.aload_n 0, 1) := by decide +kernel
theorem dX1_init_5 : decode cX1_init 5 = .ok (.new 7, 3) := by decide +kernel
theorem dX1_init_8 : decode cX1_init 8 = .ok (.dup, 1) := by decide +kernel
theorem dX1_init_9 : decode cX1_init 9 = .ok (.invokespecial 9, 3) := by decide +kernel
theorem dX1_init_12 : decode cX1_init 12 = .ok (.putfield 10, 3) := by decide +kernel
theorem dX1_init_15 : decode cX1_init 15 = .ok (.return_, 1) := by decide +kernel
theorem dX2_init_0 : decode cX2_init 0 = .ok (.aload_n 0, 1) := by decide +kernel
theorem dX2_init_1 : decode cX2_init 1 = .ok (.invokespecial 3, 3) := by decide +kernel
theorem dX2_init_4 : decode cX2_init 4 = .ok (.aload_n 0, 1) := by decide +kernel
theorem dX2_init_5 : decode cX2_init 5 = .ok (.bipush 10, 2) := by decide +kernel
theorem dX2_init_7 : decode cX2_init 7 = .ok (.newarray .int, 2) := by decide +kernel
theorem dX2_init_9 : decode cX2_init 9 = .ok (.putfield 9, 3) := by decide +kernel
theorem dX2_init_12 : decode cX2_init 12 = .ok (.return_, 1) := by decide +kernel
theorem dX2_rebuild_0 : decode cX2_rebuild 0 = .ok (.iconst 0, 1) := by decide +kernel
theorem dX2_rebuild_1 : decode cX2_rebuild 1 = .ok (.istore_n 2, 1) := by decide +kernel
theorem dX2_rebuild_2 : decode cX2_rebuild 2 = .ok (.iload_n 2, 1) := by decide +kernel
theorem dX2_rebuild_3 : decode cX2_rebuild 3 = .ok (.aload_n 1, 1) := by decide +kernel
theorem dX2_rebuild_4 : decode cX2_rebuild 4 = .ok (.getfield 15, 3) := by decide +kernel
theorem dX2_rebuild_7 : decode cX2_rebuild 7 = .ok (.if_icmp .ge 42, 3) := by decide +kernel
theorem dX2_rebuild_10 : decode cX2_rebuild 10 = .ok (.aload_n 0, 1) := by decide +kernel
theorem dX2_rebuild_11 : decode cX2_rebuild 11 = .ok (.getfield 9, 3) := by decide +kernel
theorem dX2_rebuild_14 : decode cX2_rebuild 14 = .ok (.iload_n 2, 1) := by decide +kernel
theorem dX2_rebuild_15 : decode cX2_rebuild 15 = .ok (.aload_n 1, 1) := by decide +kernel
theorem dX2_rebuild_16 : decode cX2_rebuild 16 = .ok (.iload_n 2, 1) := by decide +kernel
theorem dX2_rebuild_17 : decode cX2_rebuild 17 = .ok (.invokevirtual 21, 3) := by decide +kernel
theorem dX2_rebuild_20 : decode cX2_rebuild 20 = .ok (.ifCond .eq 12, 3) := by decide +kernel
theorem dX2_rebuild_23 : decode cX2_rebuild 23 = .ok (.aload_n 1, 1) := by decide +kernel
theorem dX2_rebuild_24 : decode cX2_rebuild 24 = .ok (.getfield 25, 3) := by decide +kernel
theorem dX2_rebuild_27 : decode cX2_rebuild 27 = .ok (.iload_n 2, 1) := by decide +kernel
theorem dX2_rebuild_28 : decode cX2_rebuild 28 = .ok (.iaload, 1) := by decide +kernel
theorem dX2_rebuild_29 : decode cX2_rebuild 29 = .ok (.goto 13, 3) := by decide +kernel
theorem dX2_rebuild_32 : decode cX2_rebuild 32 = .ok (.aload_n 1, 1) := by decide +kernel
theorem dX2_rebuild_33 : decode cX2_rebuild 33 = .ok (.iload_n 2, 1) := by decide +kernel
theorem dX2_rebuild_34 : decode cX2_rebuild 34 = .ok (.aload_n 0, 1) := by decide +kernel
theorem dX2_rebuild_35 : decode cX2_rebuild 35 = .ok (.getfield 9, 3) := by decide +kernel
theorem dX2_rebuild_38 : decode cX2_rebuild 38 = .ok (.iconst (-1), 1) := by decide +kernel
theorem dX2_rebuild_39 : decode cX2_rebuild 39 = .ok (.invokevirtual 28, 3) := by decide +kernel
theorem dX2_rebuild_42 : decode cX2_rebuild 42 = .ok (.iastore, 1) := by decide +kernel
theorem dX2_rebuild_43 : decode cX2_rebuild 43 = .ok (.iinc 2 1, 3) := by decide +kernel
theorem dX2_rebuild_46 : decode cX2_rebuild 46 = .ok (.goto (-44), 3) := by decide +kernel
theorem dX2_rebuild_49 : decode cX2_rebuild 49 = .ok (.return_, 1) := by decide +kernel
theorem dX2_refusedAt_0 : decode cX2_refusedAt 0 = .ok (.aload_n 0, 1) := by decide +kernel
theorem dX2_refusedAt_1 : decode cX2_refusedAt 1 = .ok (.aload_n 1, 1) := by decide +kernel
theorem dX2_refusedAt_2 : decode cX2_refusedAt 2 = .ok (.invokevirtual 32, 3) := by decide +kernel
theorem dX2_refusedAt_5 : decode cX2_refusedAt 5 = .ok (.iconst 0, 1) := by decide +kernel
theorem dX2_refusedAt_6 : decode cX2_refusedAt 6 = .ok (.istore_n 2, 1) := by decide +kernel
theorem dX2_refusedAt_7 : decode cX2_refusedAt 7 = .ok (.iload_n 2, 1) := by decide +kernel
theorem dX2_refusedAt_8 : decode cX2_refusedAt 8 = .ok (.aload_n 1, 1) := by decide +kernel
theorem dX2_refusedAt_9 : decode cX2_refusedAt 9 = .ok (.getfield 15, 3) := by decide +kernel
theorem dX2_refusedAt_12 : decode cX2_refusedAt 12 = .ok (.if_icmp .ge 42, 3) := by decide +kernel
theorem dX2_refusedAt_15 : decode cX2_refusedAt 15 = .ok (.aload_n 1, 1) := by decide +kernel
theorem dX2_refusedAt_16 : decode cX2_refusedAt 16 = .ok (.iload_n 2, 1) := by decide +kernel
theorem dX2_refusedAt_17 : decode cX2_refusedAt 17 = .ok (.invokevirtual 21, 3) := by decide +kernel
theorem dX2_refusedAt_20 : decode cX2_refusedAt 20 = .ok (.ifCond .eq 28, 3) := by decide +kernel
theorem dX2_refusedAt_23 : decode cX2_refusedAt 23 = .ok (.aload_n 1, 1) := by decide +kernel
theorem dX2_refusedAt_24 : decode cX2_refusedAt 24 = .ok (.aload_n 1, 1) := by decide +kernel
theorem dX2_refusedAt_25 : decode cX2_refusedAt 25 = .ok (.iload_n 2, 1) := by decide +kernel
theorem dX2_refusedAt_26 : decode cX2_refusedAt 26 = .ok (.aload_n 0, 1) := by decide +kernel
theorem dX2_refusedAt_27 : decode cX2_refusedAt 27 = .ok (.getfield 9, 3) := by decide +kernel
theorem dX2_refusedAt_30 : decode cX2_refusedAt 30 = .ok (.iconst (-1), 1) := by decide +kernel
theorem dX2_refusedAt_31 : decode cX2_refusedAt 31 = .ok (.invokevirtual 28, 3) := by decide +kernel
theorem dX2_refusedAt_34 : decode cX2_refusedAt 34 = .ok (.aload_n 1, 1) := by decide +kernel
theorem dX2_refusedAt_35 : decode cX2_refusedAt 35 = .ok (.getfield 25, 3) := by decide +kernel
theorem dX2_refusedAt_38 : decode cX2_refusedAt 38 = .ok (.iload_n 2, 1) := by decide +kernel
theorem dX2_refusedAt_39 : decode cX2_refusedAt 39 = .ok (.iaload, 1) := by decide +kernel
theorem dX2_refusedAt_40 : decode cX2_refusedAt 40 = .ok (.invokevirtual 36, 3) := by decide +kernel
theorem dX2_refusedAt_43 : decode cX2_refusedAt 43 = .ok (.ifCond .ne 5, 3) := by decide +kernel
theorem dX2_refusedAt_46 : decode cX2_refusedAt 46 = .ok (.iload_n 2, 1) := by decide +kernel
theorem dX2_refusedAt_47 : decode cX2_refusedAt 47 = .ok (.ireturn, 1) := by decide +kernel
theorem dX2_refusedAt_48 : decode cX2_refusedAt 48 = .ok (.iinc 2 1, 3) := by decide +kernel
theorem dX2_refusedAt_51 : decode cX2_refusedAt 51 = .ok (.goto (-44), 3) := by decide +kernel
theorem dX2_refusedAt_54 : decode cX2_refusedAt 54 = .ok (.iconst (-1), 1) := by decide +kernel
theorem dX2_refusedAt_55 : decode cX2_refusedAt 55 = .ok (.ireturn, 1) := by decide +kernel
theorem dX3_init_0 : decode cX3_init 0 = .ok (.aload_n 0, 1) := by decide +kernel
theorem dX3_init_1 : decode cX3_init 1 = .ok (.invokespecial 3, 3) := by decide +kernel
theorem dX3_init_4 : decode cX3_init 4 = .ok (.aload_n 0, 1) := by decide +kernel
theorem dX3_init_5 : decode cX3_init 5 = .ok (.bipush 16, 2) := by decide +kernel
theorem dX3_init_7 : decode cX3_init 7 = .ok (.anewarray 9, 3) := by decide +kernel
theorem dX3_init_10 : decode cX3_init 10 = .ok (.putfield 11, 3) := by decide +kernel
theorem dX3_init_13 : decode cX3_init 13 = .ok (.iconst 0, 1) := by decide +kernel
theorem dX3_init_14 : decode cX3_init 14 = .ok (.istore_n 1, 1) := by decide +kernel
theorem dX3_init_15 : decode cX3_init 15 = .ok (.iload_n 1, 1) := by decide +kernel
theorem dX3_init_16 : decode cX3_init 16 = .ok (.bipush 16, 2) := by decide +kernel
theorem dX3_init_18 : decode cX3_init 18 = .ok (.if_icmp .ge 22, 3) := by decide +kernel
theorem dX3_init_21 : decode cX3_init 21 = .ok (.aload_n 0, 1) := by decide +kernel
theorem dX3_init_22 : decode cX3_init 22 = .ok (.getfield 11, 3) := by decide +kernel
theorem dX3_init_25 : decode cX3_init 25 = .ok (.iload_n 1, 1) := by decide +kernel
theorem dX3_init_26 : decode cX3_init 26 = .ok (.new 9, 3) := by decide +kernel
theorem dX3_init_29 : decode cX3_init 29 = .ok (.dup, 1) := by decide +kernel
theorem dX3_init_30 : decode cX3_init 30 = .ok (.invokespecial 17, 3) := by decide +kernel
theorem dX3_init_33 : decode cX3_init 33 = .ok (.aastore, 1) := by decide +kernel
theorem dX3_init_34 : decode cX3_init 34 = .ok (.iinc 1 1, 3) := by decide +kernel
theorem dX3_init_37 : decode cX3_init 37 = .ok (.goto (-22), 3) := by decide +kernel
theorem dX3_init_40 : decode cX3_init 40 = .ok (.return_, 1) := by decide +kernel
theorem dX3_remember_0 : decode cX3_remember 0 = .ok (.aload_n 0, 1) := by decide +kernel
theorem dX3_remember_1 : decode cX3_remember 1 = .ok (.getfield 11, 3) := by decide +kernel
theorem dX3_remember_4 : decode cX3_remember 4 = .ok (.aload_n 0, 1) := by decide +kernel
theorem dX3_remember_5 : decode cX3_remember 5 = .ok (.getfield 18, 3) := by decide +kernel
theorem dX3_remember_8 : decode cX3_remember 8 = .ok (.aaload, 1) := by decide +kernel
theorem dX3_remember_9 : decode cX3_remember 9 = .ok (.aload_n 1, 1) := by decide +kernel
theorem dX3_remember_10 : decode cX3_remember 10 = .ok (.invokevirtual 22, 3) := by decide +kernel
theorem dX3_remember_13 : decode cX3_remember 13 = .ok (.aload_n 0, 1) := by decide +kernel
theorem dX3_remember_14 : decode cX3_remember 14 = .ok (.aload_n 0, 1) := by decide +kernel
theorem dX3_remember_15 : decode cX3_remember 15 = .ok (.getfield 18, 3) := by decide +kernel
theorem dX3_remember_18 : decode cX3_remember 18 = .ok (.iconst 1, 1) := by decide +kernel
theorem dX3_remember_19 : decode cX3_remember 19 = .ok (.iadd, 1) := by decide +kernel
theorem dX3_remember_20 : decode cX3_remember 20 = .ok (.bipush 16, 2) := by decide +kernel
theorem dX3_remember_22 : decode cX3_remember 22 = .ok (.irem, 1) := by decide +kernel
theorem dX3_remember_23 : decode cX3_remember 23 = .ok (.putfield 18, 3) := by decide +kernel
theorem dX3_remember_26 : decode cX3_remember 26 = .ok (.aload_n 0, 1) := by decide +kernel
theorem dX3_remember_27 : decode cX3_remember 27 = .ok (.aload_n 0, 1) := by decide +kernel
theorem dX3_remember_28 : decode cX3_remember 28 = .ok (.getfield 26, 3) := by decide +kernel
theorem dX3_remember_31 : decode cX3_remember 31 = .ok (.iconst 1, 1) := by decide +kernel
theorem dX3_remember_32 : decode cX3_remember 32 = .ok (.iadd, 1) := by decide +kernel
theorem dX3_remember_33 : decode cX3_remember 33 = .ok (.bipush 16, 2) := by decide +kernel
theorem dX3_remember_35 : decode cX3_remember 35 = .ok (.invokestatic 29, 3) := by decide +kernel
theorem dX3_remember_38 : decode cX3_remember 38 = .ok (.putfield 26, 3) := by decide +kernel
theorem dX3_remember_41 : decode cX3_remember 41 = .ok (.return_, 1) := by decide +kernel
theorem dX3_bringBack_0 : decode cX3_bringBack 0 = .ok (.aload_n 0, 1) := by decide +kernel
theorem dX3_bringBack_1 : decode cX3_bringBack 1 = .ok (.aload_n 0, 1) := by decide +kernel
theorem dX3_bringBack_2 : decode cX3_bringBack 2 = .ok (.getfield 18, 3) := by decide +kernel
theorem dX3_bringBack_5 : decode cX3_bringBack 5 = .ok (.bipush 16, 2) := by decide +kernel
theorem dX3_bringBack_7 : decode cX3_bringBack 7 = .ok (.iadd, 1) := by decide +kernel
theorem dX3_bringBack_8 : decode cX3_bringBack 8 = .ok (.iload_n 2, 1) := by decide +kernel
theorem dX3_bringBack_9 : decode cX3_bringBack 9 = .ok (.isub, 1) := by decide +kernel
theorem dX3_bringBack_10 : decode cX3_bringBack 10 = .ok (.bipush 16, 2) := by decide +kernel
theorem dX3_bringBack_12 : decode cX3_bringBack 12 = .ok (.irem, 1) := by decide +kernel
theorem dX3_bringBack_13 : decode cX3_bringBack 13 = .ok (.putfield 18, 3) := by decide +kernel
theorem dX3_bringBack_16 : decode cX3_bringBack 16 = .ok (.aload_n 0, 1) := by decide +kernel
theorem dX3_bringBack_17 : decode cX3_bringBack 17 = .ok (.dup, 1) := by decide +kernel
theorem dX3_bringBack_18 : decode cX3_bringBack 18 = .ok (.getfield 26, 3) := by decide +kernel
theorem dX3_bringBack_21 : decode cX3_bringBack 21 = .ok (.iload_n 2, 1) := by decide +kernel
theorem dX3_bringBack_22 : decode cX3_bringBack 22 = .ok (.isub, 1) := by decide +kernel
theorem dX3_bringBack_23 : decode cX3_bringBack 23 = .ok (.putfield 26, 3) := by decide +kernel
theorem dX3_bringBack_26 : decode cX3_bringBack 26 = .ok (.aload_n 1, 1) := by decide +kernel
theorem dX3_bringBack_27 : decode cX3_bringBack 27 = .ok (.aload_n 0, 1) := by decide +kernel
theorem dX3_bringBack_28 : decode cX3_bringBack 28 = .ok (.getfield 11, 3) := by decide +kernel
theorem dX3_bringBack_31 : decode cX3_bringBack 31 = .ok (.aload_n 0, 1) := by decide +kernel
theorem dX3_bringBack_32 : decode cX3_bringBack 32 = .ok (.getfield 18, 3) := by decide +kernel
theorem dX3_bringBack_35 : decode cX3_bringBack 35 = .ok (.aaload, 1) := by decide +kernel
theorem dX3_bringBack_36 : decode cX3_bringBack 36 = .ok (.invokevirtual 22, 3) := by decide +kernel
theorem dX3_bringBack_39 : decode cX3_bringBack 39 = .ok (.return_, 1) := by decide +kernel
theorem dX3_forget_0 : decode cX3_forget 0 = .ok (.aload_n 0, 1) := by decide +kernel
theorem dX3_forget_1 : decode cX3_forget 1 = .ok (.iconst 0, 1) := by decide +kernel
theorem dX3_forget_2 : decode cX3_forget 2 = .ok (.putfield 26, 3) := by decide +kernel
theorem dX3_forget_5 : decode cX3_forget 5 = .ok (.return_, 1) := by decide +kernel
theorem dX4_init_0 : decode cX4_init 0 = .ok (.aload_n 0, 1) := by decide +kernel
theorem dX4_init_1 : decode cX4_init 1 = .ok (.invokespecial 3, 3) := by decide +kernel
theorem dX4_init_4 : decode cX4_init 4 = .ok (.aload_n 0, 1) := by decide +kernel
theorem dX4_init_5 : decode cX4_init 5 = .ok (.bipush 64, 2) := by decide +kernel
theorem dX4_init_7 : decode cX4_init 7 = .ok (.newarray .int, 2) := by decide +kernel
theorem dX4_init_9 : decode cX4_init 9 = .ok (.putfield 9, 3) := by decide +kernel
theorem dX4_init_12 : decode cX4_init 12 = .ok (.aload_n 0, 1) := by decide +kernel
theorem dX4_init_13 : decode cX4_init 13 = .ok (.bipush 10, 2) := by decide +kernel
theorem dX4_init_15 : decode cX4_init 15 = .ok (.newarray .int, 2) := by decide +kernel
theorem dX4_init_17 : decode cX4_init 17 = .ok (.putfield 15, 3) := by decide +kernel
theorem dX4_init_20 : decode cX4_init 20 = .ok (.aload_n 0, 1) := by decide +kernel
theorem dX4_init_21 : decode cX4_init 21 = .ok (.bipush 10, 2) := by decide +kernel
theorem dX4_init_23 : decode cX4_init 23 = .ok (.newarray .int, 2) := by decide +kernel
theorem dX4_init_25 : decode cX4_init 25 = .ok (.putfield 18, 3) := by decide +kernel
theorem dX4_init_28 : decode cX4_init 28 = .ok (.aload_n 0, 1) := by decide +kernel
theorem dX4_init_29 : decode cX4_init 29 = .ok (.bipush 20, 2) := by decide +kernel
theorem dX4_init_31 : decode cX4_init 31 = .ok (.newarray .int, 2) := by decide +kernel
theorem dX4_init_33 : decode cX4_init 33 = .ok (.putfield 21, 3) := by decide +kernel
theorem dX4_init_36 : decode cX4_init 36 = .ok (.aload_n 0, 1) := by decide +kernel
theorem dX4_init_37 : decode cX4_init 37 = .ok (.bipush 20, 2) := by decide +kernel
theorem dX4_init_39 : decode cX4_init 39 = .ok (.newarray .int, 2) := by decide +kernel
theorem dX4_init_41 : decode cX4_init 41 = .ok (.putfield 24, 3) := by decide +kernel
theorem dX4_init_44 : decode cX4_init 44 = .ok (.aload_n 0, 1) := by decide +kernel
theorem dX4_init_45 : decode cX4_init 45 = .ok (.sipush 160, 3) := by decide +kernel
theorem dX4_init_48 : decode cX4_init 48 = .ok (.newarray .int, 2) := by decide +kernel
theorem dX4_init_50 : decode cX4_init 50 = .ok (.putfield 27, 3) := by decide +kernel
theorem dX4_init_53 : decode cX4_init 53 = .ok (.aload_n 0, 1) := by decide +kernel
theorem dX4_init_54 : decode cX4_init 54 = .ok (.bipush 20, 2) := by decide +kernel
theorem dX4_init_56 : decode cX4_init 56 = .ok (.newarray .int, 2) := by decide +kernel
theorem dX4_init_58 : decode cX4_init 58 = .ok (.putfield 30, 3) := by decide +kernel
theorem dX4_init_61 : decode cX4_init 61 = .ok (.aload_n 0, 1) := by decide +kernel
theorem dX4_init_62 : decode cX4_init 62 = .ok (.bipush 20, 2) := by decide +kernel
theorem dX4_init_64 : decode cX4_init 64 = .ok (.newarray .int, 2) := by decide +kernel
theorem dX4_init_66 : decode cX4_init 66 = .ok (.putfield 33, 3) := by decide +kernel
theorem dX4_init_69 : decode cX4_init 69 = .ok (.aload_n 0, 1) := by decide +kernel
theorem dX4_init_70 : decode cX4_init 70 = .ok (.bipush 20, 2) := by decide +kernel
theorem dX4_init_72 : decode cX4_init 72 = .ok (.newarray .int, 2) := by decide +kernel
theorem dX4_init_74 : decode cX4_init 74 = .ok (.putfield 36, 3) := by decide +kernel
theorem dX4_init_77 : decode cX4_init 77 = .ok (.return_, 1) := by decide +kernel
theorem dX4_become_0 : decode cX4_become 0 = .ok (.aload_n 0, 1) := by decide +kernel
theorem dX4_become_1 : decode cX4_become 1 = .ok (.aload_n 1, 1) := by decide +kernel
theorem dX4_become_2 : decode cX4_become 2 = .ok (.getfield 39, 3) := by decide +kernel
theorem dX4_become_5 : decode cX4_become 5 = .ok (.putfield 39, 3) := by decide +kernel
theorem dX4_become_8 : decode cX4_become 8 = .ok (.aload_n 0, 1) := by decide +kernel
theorem dX4_become_9 : decode cX4_become 9 = .ok (.aload_n 1, 1) := by decide +kernel
theorem dX4_become_10 : decode cX4_become 10 = .ok (.getfield 43, 3) := by decide +kernel
theorem dX4_become_13 : decode cX4_become 13 = .ok (.putfield 43, 3) := by decide +kernel
theorem dX4_become_16 : decode cX4_become 16 = .ok (.aload_n 0, 1) := by decide +kernel
theorem dX4_become_17 : decode cX4_become 17 = .ok (.aload_n 1, 1) := by decide +kernel
theorem dX4_become_18 : decode cX4_become 18 = .ok (.getfield 46, 3) := by decide +kernel
theorem dX4_become_21 : decode cX4_become 21 = .ok (.putfield 46, 3) := by decide +kernel
theorem dX4_become_24 : decode cX4_become 24 = .ok (.aload_n 1, 1) := by decide +kernel
theorem dX4_become_25 : decode cX4_become 25 = .ok (.getfield 9, 3) := by decide +kernel
theorem dX4_become_28 : decode cX4_become 28 = .ok (.iconst 0, 1) := by decide +kernel
theorem dX4_become_29 : decode cX4_become 29 = .ok (.aload_n 0, 1) := by decide +kernel
theorem dX4_become_30 : decode cX4_become 30 = .ok (.getfield 9, 3) := by decide +kernel
theorem dX4_become_33 : decode cX4_become 33 = .ok (.iconst 0, 1) := by decide +kernel
theorem dX4_become_34 : decode cX4_become 34 = .ok (.bipush 64, 2) := by decide +kernel
theorem dX4_become_36 : decode cX4_become 36 = .ok (.invokestatic 49, 3) := by decide +kernel
theorem dX4_become_39 : decode cX4_become 39 = .ok (.aload_n 1, 1) := by decide +kernel
theorem dX4_become_40 : decode cX4_become 40 = .ok (.getfield 15, 3) := by decide +kernel
theorem dX4_become_43 : decode cX4_become 43 = .ok (.iconst 0, 1) := by decide +kernel
theorem dX4_become_44 : decode cX4_become 44 = .ok (.aload_n 0, 1) := by decide +kernel
theorem dX4_become_45 : decode cX4_become 45 = .ok (.getfield 15, 3) := by decide +kernel
theorem dX4_become_48 : decode cX4_become 48 = .ok (.iconst 0, 1) := by decide +kernel
theorem dX4_become_49 : decode cX4_become 49 = .ok (.bipush 10, 2) := by decide +kernel
theorem dX4_become_51 : decode cX4_become 51 = .ok (.invokestatic 49, 3) := by decide +kernel
theorem dX4_become_54 : decode cX4_become 54 = .ok (.aload_n 1, 1) := by decide +kernel
theorem dX4_become_55 : decode cX4_become 55 = .ok (.getfield 18, 3) := by decide +kernel
theorem dX4_become_58 : decode cX4_become 58 = .ok (.iconst 0, 1) := by decide +kernel
theorem dX4_become_59 : decode cX4_become 59 = .ok (.aload_n 0, 1) := by decide +kernel
theorem dX4_become_60 : decode cX4_become 60 = .ok (.getfield 18, 3) := by decide +kernel
theorem dX4_become_63 : decode cX4_become 63 = .ok (.iconst 0, 1) := by decide +kernel
theorem dX4_become_64 : decode cX4_become 64 = .ok (.bipush 10, 2) := by decide +kernel
theorem dX4_become_66 : decode cX4_become 66 = .ok (.invokestatic 49, 3) := by decide +kernel
theorem dX4_become_69 : decode cX4_become 69 = .ok (.aload_n 1, 1) := by decide +kernel
theorem dX4_become_70 : decode cX4_become 70 = .ok (.getfield 21, 3) := by decide +kernel
theorem dX4_become_73 : decode cX4_become 73 = .ok (.iconst 0, 1) := by decide +kernel
theorem dX4_become_74 : decode cX4_become 74 = .ok (.aload_n 0, 1) := by decide +kernel
theorem dX4_become_75 : decode cX4_become 75 = .ok (.getfield 21, 3) := by decide +kernel
theorem dX4_become_78 : decode cX4_become 78 = .ok (.iconst 0, 1) := by decide +kernel
theorem dX4_become_79 : decode cX4_become 79 = .ok (.bipush 20, 2) := by decide +kernel
theorem dX4_become_81 : decode cX4_become 81 = .ok (.invokestatic 49, 3) := by decide +kernel
theorem dX4_become_84 : decode cX4_become 84 = .ok (.aload_n 1, 1) := by decide +kernel
theorem dX4_become_85 : decode cX4_become 85 = .ok (.getfield 24, 3) := by decide +kernel
theorem dX4_become_88 : decode cX4_become 88 = .ok (.iconst 0, 1) := by decide +kernel
theorem dX4_become_89 : decode cX4_become 89 = .ok (.aload_n 0, 1) := by decide +kernel
theorem dX4_become_90 : decode cX4_become 90 = .ok (.getfield 24, 3) := by decide +kernel
theorem dX4_become_93 : decode cX4_become 93 = .ok (.iconst 0, 1) := by decide +kernel
theorem dX4_become_94 : decode cX4_become 94 = .ok (.bipush 20, 2) := by decide +kernel
theorem dX4_become_96 : decode cX4_become 96 = .ok (.invokestatic 49, 3) := by decide +kernel
theorem dX4_become_99 : decode cX4_become 99 = .ok (.aload_n 1, 1) := by decide +kernel
theorem dX4_become_100 : decode cX4_become 100 = .ok (.getfield 27, 3) := by decide +kernel
theorem dX4_become_103 : decode cX4_become 103 = .ok (.iconst 0, 1) := by decide +kernel
theorem dX4_become_104 : decode cX4_become 104 = .ok (.aload_n 0, 1) := by decide +kernel
theorem dX4_become_105 : decode cX4_become 105 = .ok (.getfield 27, 3) := by decide +kernel
theorem dX4_become_108 : decode cX4_become 108 = .ok (.iconst 0, 1) := by decide +kernel
theorem dX4_become_109 : decode cX4_become 109 = .ok (.sipush 160, 3) := by decide +kernel
theorem dX4_become_112 : decode cX4_become 112 = .ok (.invokestatic 49, 3) := by decide +kernel
theorem dX4_become_115 : decode cX4_become 115 = .ok (.aload_n 1, 1) := by decide +kernel
theorem dX4_become_116 : decode cX4_become 116 = .ok (.getfield 30, 3) := by decide +kernel
theorem dX4_become_119 : decode cX4_become 119 = .ok (.iconst 0, 1) := by decide +kernel
theorem dX4_become_120 : decode cX4_become 120 = .ok (.aload_n 0, 1) := by decide +kernel
theorem dX4_become_121 : decode cX4_become 121 = .ok (.getfield 30, 3) := by decide +kernel
theorem dX4_become_124 : decode cX4_become 124 = .ok (.iconst 0, 1) := by decide +kernel
theorem dX4_become_125 : decode cX4_become 125 = .ok (.bipush 20, 2) := by decide +kernel
theorem dX4_become_127 : decode cX4_become 127 = .ok (.invokestatic 49, 3) := by decide +kernel
theorem dX4_become_130 : decode cX4_become 130 = .ok (.aload_n 1, 1) := by decide +kernel
theorem dX4_become_131 : decode cX4_become 131 = .ok (.getfield 33, 3) := by decide +kernel
theorem dX4_become_134 : decode cX4_become 134 = .ok (.iconst 0, 1) := by decide +kernel
theorem dX4_become_135 : decode cX4_become 135 = .ok (.aload_n 0, 1) := by decide +kernel
theorem dX4_become_136 : decode cX4_become 136 = .ok (.getfield 33, 3) := by decide +kernel
theorem dX4_become_139 : decode cX4_become 139 = .ok (.iconst 0, 1) := by decide +kernel
theorem dX4_become_140 : decode cX4_become 140 = .ok (.bipush 20, 2) := by decide +kernel
theorem dX4_become_142 : decode cX4_become 142 = .ok (.invokestatic 49, 3) := by decide +kernel
theorem dX4_become_145 : decode cX4_become 145 = .ok (.aload_n 1, 1) := by decide +kernel
theorem dX4_become_146 : decode cX4_become 146 = .ok (.getfield 36, 3) := by decide +kernel
theorem dX4_become_149 : decode cX4_become 149 = .ok (.iconst 0, 1) := by decide +kernel
theorem dX4_become_150 : decode cX4_become 150 = .ok (.aload_n 0, 1) := by decide +kernel
theorem dX4_become_151 : decode cX4_become 151 = .ok (.getfield 36, 3) := by decide +kernel
theorem dX4_become_154 : decode cX4_become 154 = .ok (.iconst 0, 1) := by decide +kernel
theorem dX4_become_155 : decode cX4_become 155 = .ok (.bipush 20, 2) := by decide +kernel
theorem dX4_become_157 : decode cX4_become 157 = .ok (.invokestatic 49, 3) := by decide +kernel
theorem dX4_become_160 : decode cX4_become 160 = .ok (.return_, 1) := by decide +kernel
theorem dX4_becomeNew_0 : decode cX4_becomeNew 0 = .ok (.aload_n 0, 1) := by decide +kernel
theorem dX4_becomeNew_1 : decode cX4_becomeNew 1 = .ok (.iload_n 1, 1) := by decide +kernel
theorem dX4_becomeNew_2 : decode cX4_becomeNew 2 = .ok (.iconst 2, 1) := by decide +kernel
theorem dX4_becomeNew_3 : decode cX4_becomeNew 3 = .ok (.if_icmp .ne 8, 3) := by decide +kernel
theorem dX4_becomeNew_6 : decode cX4_becomeNew 6 = .ok (.bipush 8, 2) := by decide +kernel
theorem dX4_becomeNew_8 : decode cX4_becomeNew 8 = .ok (.goto 4, 3) := by decide +kernel
theorem dX4_becomeNew_11 : decode cX4_becomeNew 11 = .ok (.iload_n 2, 1) := by decide +kernel
theorem dX4_becomeNew_12 : decode cX4_becomeNew 12 = .ok (.putfield 39, 3) := by decide +kernel
theorem dX4_becomeNew_15 : decode cX4_becomeNew 15 = .ok (.aload_n 0, 1) := by decide +kernel
theorem dX4_becomeNew_16 : decode cX4_becomeNew 16 = .ok (.iload_n 3, 1) := by decide +kernel
theorem dX4_becomeNew_17 : decode cX4_becomeNew 17 = .ok (.putfield 43, 3) := by decide +kernel
theorem dX4_becomeNew_20 : decode cX4_becomeNew 20 = .ok (.aload_n 0, 1) := by decide +kernel
theorem dX4_becomeNew_21 : decode cX4_becomeNew 21 = .ok (.iconst 0, 1) := by decide +kernel
theorem dX4_becomeNew_22 : decode cX4_becomeNew 22 = .ok (.putfield 46, 3) := by decide +kernel
theorem dX4_becomeNew_25 : decode cX4_becomeNew 25 = .ok (.iconst 0, 1) := by decide +kernel
theorem dX4_becomeNew_26 : decode cX4_becomeNew 26 = .ok (.istore 4, 2) := by decide +kernel
theorem dX4_becomeNew_28 : decode cX4_becomeNew 28 = .ok (.iload 4, 2) := by decide +kernel
theorem dX4_becomeNew_30 : decode cX4_becomeNew 30 = .ok (.aload_n 0, 1) := by decide +kernel
theorem dX4_becomeNew_31 : decode cX4_becomeNew 31 = .ok (.getfield 39, 3) := by decide +kernel
theorem dX4_becomeNew_34 : decode cX4_becomeNew 34 = .ok (.if_icmp .ge 49, 3) := by decide +kernel
theorem dX4_becomeNew_37 : decode cX4_becomeNew 37 = .ok (.iconst 0, 1) := by decide +kernel
theorem dX4_becomeNew_38 : decode cX4_becomeNew 38 = .ok (.istore 5, 2) := by decide +kernel
theorem dX4_becomeNew_40 : decode cX4_becomeNew 40 = .ok (.iload 5, 2) := by decide +kernel
theorem dX4_becomeNew_42 : decode cX4_becomeNew 42 = .ok (.aload_n 0, 1) := by decide +kernel
theorem dX4_becomeNew_43 : decode cX4_becomeNew 43 = .ok (.getfield 39, 3) := by decide +kernel
theorem dX4_becomeNew_46 : decode cX4_becomeNew 46 = .ok (.if_icmp .ge 31, 3) := by decide +kernel
theorem dX4_becomeNew_49 : decode cX4_becomeNew 49 = .ok (.aload_n 0, 1) := by decide +kernel
theorem dX4_becomeNew_50 : decode cX4_becomeNew 50 = .ok (.getfield 9, 3) := by decide +kernel
theorem dX4_becomeNew_53 : decode cX4_becomeNew 53 = .ok (.iload 4, 2) := by decide +kernel
theorem dX4_becomeNew_55 : decode cX4_becomeNew 55 = .ok (.bipush 8, 2) := by decide +kernel
theorem dX4_becomeNew_57 : decode cX4_becomeNew 57 = .ok (.imul, 1) := by decide +kernel
theorem dX4_becomeNew_58 : decode cX4_becomeNew 58 = .ok (.iload 5, 2) := by decide +kernel
theorem dX4_becomeNew_60 : decode cX4_becomeNew 60 = .ok (.iadd, 1) := by decide +kernel
theorem dX4_becomeNew_61 : decode cX4_becomeNew 61 = .ok (.aload_n 0, 1) := by decide +kernel
theorem dX4_becomeNew_62 : decode cX4_becomeNew 62 = .ok (.iload_n 1, 1) := by decide +kernel
theorem dX4_becomeNew_63 : decode cX4_becomeNew 63 = .ok (.iload 4, 2) := by decide +kernel
theorem dX4_becomeNew_65 : decode cX4_becomeNew 65 = .ok (.iload 5, 2) := by decide +kernel
theorem dX4_becomeNew_67 : decode cX4_becomeNew 67 = .ok (.invokevirtual 55, 3) := by decide +kernel
theorem dX4_becomeNew_70 : decode cX4_becomeNew 70 = .ok (.iastore, 1) := by decide +kernel
theorem dX4_becomeNew_71 : decode cX4_becomeNew 71 = .ok (.iinc 5 1, 3) := by decide +kernel
theorem dX4_becomeNew_74 : decode cX4_becomeNew 74 = .ok (.goto (-34), 3) := by decide +kernel
theorem dX4_becomeNew_77 : decode cX4_becomeNew 77 = .ok (.iinc 4 1, 3) := by decide +kernel
theorem dX4_becomeNew_80 : decode cX4_becomeNew 80 = .ok (.goto (-52), 3) := by decide +kernel
theorem dX4_becomeNew_83 : decode cX4_becomeNew 83 = .ok (.iconst 0, 1) := by decide +kernel
theorem dX4_becomeNew_84 : decode cX4_becomeNew 84 = .ok (.istore 4, 2) := by decide +kernel
theorem dX4_becomeNew_86 : decode cX4_becomeNew 86 = .ok (.iload 4, 2) := by decide +kernel
theorem dX4_becomeNew_88 : decode cX4_becomeNew 88 = .ok (.bipush 10, 2) := by decide +kernel
theorem dX4_becomeNew_90 : decode cX4_becomeNew 90 = .ok (.if_icmp .ge 25, 3) := by decide +kernel
theorem dX4_becomeNew_93 : decode cX4_becomeNew 93 = .ok (.aload_n 0, 1) := by decide +kernel
theorem dX4_becomeNew_94 : decode cX4_becomeNew 94 = .ok (.getfield 15, 3) := by decide +kernel
theorem dX4_becomeNew_97 : decode cX4_becomeNew 97 = .ok (.iload 4, 2) := by decide +kernel
theorem dX4_becomeNew_99 : decode cX4_becomeNew 99 = .ok (.iconst 0, 1) := by decide +kernel
theorem dX4_becomeNew_100 : decode cX4_becomeNew 100 = .ok (.iastore, 1) := by decide +kernel
theorem dX4_becomeNew_101 : decode cX4_becomeNew 101 = .ok (.aload_n 0, 1) := by decide +kernel
theorem dX4_becomeNew_102 : decode cX4_becomeNew 102 = .ok (.getfield 18, 3) := by decide +kernel
theorem dX4_becomeNew_105 : decode cX4_becomeNew 105 = .ok (.iload 4, 2) := by decide +kernel
theorem dX4_becomeNew_107 : decode cX4_becomeNew 107 = .ok (.iconst 0, 1) := by decide +kernel
theorem dX4_becomeNew_108 : decode cX4_becomeNew 108 = .ok (.iastore, 1) := by decide +kernel
theorem dX4_becomeNew_109 : decode cX4_becomeNew 109 = .ok (.iinc 4 1, 3) := by decide +kernel
theorem dX4_becomeNew_112 : decode cX4_becomeNew 112 = .ok (.goto (-26), 3) := by decide +kernel
theorem dX4_becomeNew_115 : decode cX4_becomeNew 115 = .ok (.return_, 1) := by decide +kernel
theorem dX4_joinedByOrder_0 : decode cX4_joinedByOrder 0 = .ok (.iload_n 1, 1) := by decide +kernel
theorem dX4_joinedByOrder_1 : decode cX4_joinedByOrder 1 = .ok (.iconst 2, 1) := by decide +kernel
theorem dX4_joinedByOrder_2 : decode cX4_joinedByOrder 2 = .ok (.if_icmp .ne 7, 3) := by decide +kernel
theorem dX4_joinedByOrder_5 : decode cX4_joinedByOrder 5 = .ok (.iload_n 2, 1) := by decide +kernel
theorem dX4_joinedByOrder_6 : decode cX4_joinedByOrder 6 = .ok (.iload_n 3, 1) := by decide +kernel
theorem dX4_joinedByOrder_7 : decode cX4_joinedByOrder 7 = .ok (.ior, 1) := by decide +kernel
theorem dX4_joinedByOrder_8 : decode cX4_joinedByOrder 8 = .ok (.ireturn, 1) := by decide +kernel
theorem dX4_joinedByOrder_9 : decode cX4_joinedByOrder 9 = .ok (.iload_n 1, 1) := by decide +kernel
theorem dX4_joinedByOrder_10 : decode cX4_joinedByOrder 10 = .ok (.iconst 1, 1) := by decide +kernel
theorem dX4_joinedByOrder_11 : decode cX4_joinedByOrder 11 = .ok (.if_icmp .ne 20, 3) := by decide +kernel
theorem dX4_joinedByOrder_14 : decode cX4_joinedByOrder 14 = .ok (.iload_n 2, 1) := by decide +kernel
theorem dX4_joinedByOrder_15 : decode cX4_joinedByOrder 15 = .ok (.ifCond .eq 16, 3) := by decide +kernel
theorem dX4_joinedByOrder_18 : decode cX4_joinedByOrder 18 = .ok (.iload_n 3, 1) := by decide +kernel
theorem dX4_joinedByOrder_19 : decode cX4_joinedByOrder 19 = .ok (.ifCond .eq 12, 3) := by decide +kernel
theorem dX4_joinedByOrder_22 : decode cX4_joinedByOrder 22 = .ok (.iload_n 2, 1) := by decide +kernel
theorem dX4_joinedByOrder_23 : decode cX4_joinedByOrder 23 = .ok (.iload_n 3, 1) := by decide +kernel
theorem dX4_joinedByOrder_24 : decode cX4_joinedByOrder 24 = .ok (.if_icmp .eq 7, 3) := by decide +kernel
theorem dX4_joinedByOrder_27 : decode cX4_joinedByOrder 27 = .ok (.iconst 1, 1) := by decide +kernel
theorem dX4_joinedByOrder_28 : decode cX4_joinedByOrder 28 = .ok (.goto 4, 3) := by decide +kernel
theorem dX4_joinedByOrder_31 : decode cX4_joinedByOrder 31 = .ok (.iconst 0, 1) := by decide +kernel
theorem dX4_joinedByOrder_32 : decode cX4_joinedByOrder 32 = .ok (.istore 4, 2) := by decide +kernel
theorem dX4_joinedByOrder_34 : decode cX4_joinedByOrder 34 = .ok (.iload 4, 2) := by decide +kernel
theorem dX4_joinedByOrder_36 : decode cX4_joinedByOrder 36 = .ok (.ifCond .eq 12, 3) := by decide +kernel
theorem dX4_joinedByOrder_39 : decode cX4_joinedByOrder 39 = .ok (.aload_n 0, 1) := by decide +kernel
theorem dX4_joinedByOrder_40 : decode cX4_joinedByOrder 40 = .ok (.getfield 39, 3) := by decide +kernel
theorem dX4_joinedByOrder_43 : decode cX4_joinedByOrder 43 = .ok (.iconst 1, 1) := by decide +kernel
theorem dX4_joinedByOrder_44 : decode cX4_joinedByOrder 44 = .ok (.isub, 1) := by decide +kernel
theorem dX4_joinedByOrder_45 : decode cX4_joinedByOrder 45 = .ok (.goto 8, 3) := by decide +kernel
theorem dX4_joinedByOrder_48 : decode cX4_joinedByOrder 48 = .ok (.iload_n 2, 1) := by decide +kernel
theorem dX4_joinedByOrder_49 : decode cX4_joinedByOrder 49 = .ok (.iload_n 3, 1) := by decide +kernel
theorem dX4_joinedByOrder_50 : decode cX4_joinedByOrder 50 = .ok (.invokestatic 59, 3) := by decide +kernel
theorem dX4_joinedByOrder_53 : decode cX4_joinedByOrder 53 = .ok (.ireturn, 1) := by decide +kernel
theorem dX4_hasValue_0 : decode cX4_hasValue 0 = .ok (.iload_n 1, 1) := by decide +kernel
theorem dX4_hasValue_1 : decode cX4_hasValue 1 = .ok (.ifCond .lt 15, 3) := by decide +kernel
theorem dX4_hasValue_4 : decode cX4_hasValue 4 = .ok (.iload_n 1, 1) := by decide +kernel
theorem dX4_hasValue_5 : decode cX4_hasValue 5 = .ok (.aload_n 0, 1) := by decide +kernel
theorem dX4_hasValue_6 : decode cX4_hasValue 6 = .ok (.getfield 39, 3) := by decide +kernel
theorem dX4_hasValue_9 : decode cX4_hasValue 9 = .ok (.if_icmp .ge 7, 3) := by decide +kernel
theorem dX4_hasValue_12 : decode cX4_hasValue 12 = .ok (.iconst 1, 1) := by decide +kernel
theorem dX4_hasValue_13 : decode cX4_hasValue 13 = .ok (.goto 4, 3) := by decide +kernel
theorem dX4_hasValue_16 : decode cX4_hasValue 16 = .ok (.iconst 0, 1) := by decide +kernel
theorem dX4_hasValue_17 : decode cX4_hasValue 17 = .ok (.ireturn, 1) := by decide +kernel
theorem dX4_hasPlace_0 : decode cX4_hasPlace 0 = .ok (.iload_n 1, 1) := by decide +kernel
theorem dX4_hasPlace_1 : decode cX4_hasPlace 1 = .ok (.ifCond .lt 15, 3) := by decide +kernel
theorem dX4_hasPlace_4 : decode cX4_hasPlace 4 = .ok (.iload_n 1, 1) := by decide +kernel
theorem dX4_hasPlace_5 : decode cX4_hasPlace 5 = .ok (.aload_n 0, 1) := by decide +kernel
theorem dX4_hasPlace_6 : decode cX4_hasPlace 6 = .ok (.getfield 43, 3) := by decide +kernel
theorem dX4_hasPlace_9 : decode cX4_hasPlace 9 = .ok (.if_icmp .ge 7, 3) := by decide +kernel
theorem dX4_hasPlace_12 : decode cX4_hasPlace 12 = .ok (.iconst 1, 1) := by decide +kernel
theorem dX4_hasPlace_13 : decode cX4_hasPlace 13 = .ok (.goto 4, 3) := by decide +kernel
theorem dX4_hasPlace_16 : decode cX4_hasPlace 16 = .ok (.iconst 0, 1) := by decide +kernel
theorem dX4_hasPlace_17 : decode cX4_hasPlace 17 = .ok (.ireturn, 1) := by decide +kernel
theorem dX4_hasWay_0 : decode cX4_hasWay 0 = .ok (.iload_n 1, 1) := by decide +kernel
theorem dX4_hasWay_1 : decode cX4_hasWay 1 = .ok (.ifCond .lt 15, 3) := by decide +kernel
theorem dX4_hasWay_4 : decode cX4_hasWay 4 = .ok (.iload_n 1, 1) := by decide +kernel
theorem dX4_hasWay_5 : decode cX4_hasWay 5 = .ok (.aload_n 0, 1) := by decide +kernel
theorem dX4_hasWay_6 : decode cX4_hasWay 6 = .ok (.getfield 46, 3) := by decide +kernel
theorem dX4_hasWay_9 : decode cX4_hasWay 9 = .ok (.if_icmp .ge 7, 3) := by decide +kernel
theorem dX4_hasWay_12 : decode cX4_hasWay 12 = .ok (.iconst 1, 1) := by decide +kernel
theorem dX4_hasWay_13 : decode cX4_hasWay 13 = .ok (.goto 4, 3) := by decide +kernel
theorem dX4_hasWay_16 : decode cX4_hasWay 16 = .ok (.iconst 0, 1) := by decide +kernel
theorem dX4_hasWay_17 : decode cX4_hasWay 17 = .ok (.ireturn, 1) := by decide +kernel
theorem dX4_join_0 : decode cX4_join 0 = .ok (.aload_n 0, 1) := by decide +kernel
theorem dX4_join_1 : decode cX4_join 1 = .ok (.getfield 9, 3) := by decide +kernel
theorem dX4_join_4 : decode cX4_join 4 = .ok (.iload_n 1, 1) := by decide +kernel
theorem dX4_join_5 : decode cX4_join 5 = .ok (.bipush 8, 2) := by decide +kernel
theorem dX4_join_7 : decode cX4_join 7 = .ok (.imul, 1) := by decide +kernel
theorem dX4_join_8 : decode cX4_join 8 = .ok (.iload_n 2, 1) := by decide +kernel
theorem dX4_join_9 : decode cX4_join 9 = .ok (.iadd, 1) := by decide +kernel
theorem dX4_join_10 : decode cX4_join 10 = .ok (.iaload, 1) := by decide +kernel
theorem dX4_join_11 : decode cX4_join 11 = .ok (.ireturn, 1) := by decide +kernel
theorem dX4_isBelow_0 : decode cX4_isBelow 0 = .ok (.aload_n 0, 1) := by decide +kernel
theorem dX4_isBelow_1 : decode cX4_isBelow 1 = .ok (.getfield 9, 3) := by decide +kernel
theorem dX4_isBelow_4 : decode cX4_isBelow 4 = .ok (.iload_n 1, 1) := by decide +kernel
theorem dX4_isBelow_5 : decode cX4_isBelow 5 = .ok (.bipush 8, 2) := by decide +kernel
theorem dX4_isBelow_7 : decode cX4_isBelow 7 = .ok (.imul, 1) := by decide +kernel
theorem dX4_isBelow_8 : decode cX4_isBelow 8 = .ok (.iload_n 2, 1) := by decide +kernel
theorem dX4_isBelow_9 : decode cX4_isBelow 9 = .ok (.iadd, 1) := by decide +kernel
theorem dX4_isBelow_10 : decode cX4_isBelow 10 = .ok (.iaload, 1) := by decide +kernel
theorem dX4_isBelow_11 : decode cX4_isBelow 11 = .ok (.iload_n 2, 1) := by decide +kernel
theorem dX4_isBelow_12 : decode cX4_isBelow 12 = .ok (.if_icmp .ne 7, 3) := by decide +kernel
theorem dX4_isBelow_15 : decode cX4_isBelow 15 = .ok (.iconst 1, 1) := by decide +kernel
theorem dX4_isBelow_16 : decode cX4_isBelow 16 = .ok (.goto 4, 3) := by decide +kernel
theorem dX4_isBelow_19 : decode cX4_isBelow 19 = .ok (.iconst 0, 1) := by decide +kernel
theorem dX4_isBelow_20 : decode cX4_isBelow 20 = .ok (.ireturn, 1) := by decide +kernel
theorem dX4_brokenLaw_0 : decode cX4_brokenLaw 0 = .ok (.aload_n 0, 1) := by decide +kernel
theorem dX4_brokenLaw_1 : decode cX4_brokenLaw 1 = .ok (.invokevirtual 65, 3) := by decide +kernel
theorem dX4_brokenLaw_4 : decode cX4_brokenLaw 4 = .ok (.ifCond .ne 5, 3) := by decide +kernel
theorem dX4_brokenLaw_7 : decode cX4_brokenLaw 7 = .ok (.iconst 1, 1) := by decide +kernel
theorem dX4_brokenLaw_8 : decode cX4_brokenLaw 8 = .ok (.ireturn, 1) := by decide +kernel
theorem dX4_brokenLaw_9 : decode cX4_brokenLaw 9 = .ok (.aload_n 0, 1) := by decide +kernel
theorem dX4_brokenLaw_10 : decode cX4_brokenLaw 10 = .ok (.invokevirtual 69, 3) := by decide +kernel
theorem dX4_brokenLaw_13 : decode cX4_brokenLaw 13 = .ok (.ifCond .ne 5, 3) := by decide +kernel
theorem dX4_brokenLaw_16 : decode cX4_brokenLaw 16 = .ok (.iconst 2, 1) := by decide +kernel
theorem dX4_brokenLaw_17 : decode cX4_brokenLaw 17 = .ok (.ireturn, 1) := by decide +kernel
theorem dX4_brokenLaw_18 : decode cX4_brokenLaw 18 = .ok (.aload_n 0, 1) := by decide +kernel
theorem dX4_brokenLaw_19 : decode cX4_brokenLaw 19 = .ok (.invokevirtual 72, 3) := by decide +kernel
theorem dX4_brokenLaw_22 : decode cX4_brokenLaw 22 = .ok (.ifCond .ne 5, 3) := by decide +kernel
theorem dX4_brokenLaw_25 : decode cX4_brokenLaw 25 = .ok (.iconst 3, 1) := by decide +kernel
theorem dX4_brokenLaw_26 : decode cX4_brokenLaw 26 = .ok (.ireturn, 1) := by decide +kernel
theorem dX4_brokenLaw_27 : decode cX4_brokenLaw 27 = .ok (.aload_n 0, 1) := by decide +kernel
theorem dX4_brokenLaw_28 : decode cX4_brokenLaw 28 = .ok (.invokevirtual 75, 3) := by decide +kernel
theorem dX4_brokenLaw_31 : decode cX4_brokenLaw 31 = .ok (.ifCond .eq 7, 3) := by decide +kernel
theorem dX4_brokenLaw_34 : decode cX4_brokenLaw 34 = .ok (.iconst 0, 1) := by decide +kernel
theorem dX4_brokenLaw_35 : decode cX4_brokenLaw 35 = .ok (.goto 4, 3) := by decide +kernel
theorem dX4_brokenLaw_38 : decode cX4_brokenLaw 38 = .ok (.iconst 4, 1) := by decide +kernel
theorem dX4_brokenLaw_39 : decode cX4_brokenLaw 39 = .ok (.ireturn, 1) := by decide +kernel
theorem dX4_joinsWithItself_0 : decode cX4_joinsWithItself 0 = .ok (.iconst 0, 1) := by decide +kernel
theorem dX4_joinsWithItself_1 : decode cX4_joinsWithItself 1 = .ok (.istore_n 1, 1) := by decide +kernel
theorem dX4_joinsWithItself_2 : decode cX4_joinsWithItself 2 = .ok (.iload_n 1, 1) := by decide +kernel
theorem dX4_joinsWithItself_3 : decode cX4_joinsWithItself 3 = .ok (.aload_n 0, 1) := by decide +kernel
theorem dX4_joinsWithItself_4 : decode cX4_joinsWithItself 4 = .ok (.getfield 39, 3) := by decide +kernel
theorem dX4_joinsWithItself_7 : decode cX4_joinsWithItself 7 = .ok (.if_icmp .ge 21, 3) := by decide +kernel
theorem dX4_joinsWithItself_10 : decode cX4_joinsWithItself 10 = .ok (.aload_n 0, 1) := by decide +kernel
theorem dX4_joinsWithItself_11 : decode cX4_joinsWithItself 11 = .ok (.iload_n 1, 1) := by decide +kernel
theorem dX4_joinsWithItself_12 : decode cX4_joinsWithItself 12 = .ok (.iload_n 1, 1) := by decide +kernel
theorem dX4_joinsWithItself_13 : decode cX4_joinsWithItself 13 = .ok (.invokevirtual 78, 3) := by decide +kernel
theorem dX4_joinsWithItself_16 : decode cX4_joinsWithItself 16 = .ok (.iload_n 1, 1) := by decide +kernel
theorem dX4_joinsWithItself_17 : decode cX4_joinsWithItself 17 = .ok (.if_icmp .eq 5, 3) := by decide +kernel
theorem dX4_joinsWithItself_20 : decode cX4_joinsWithItself 20 = .ok (.iconst 0, 1) := by decide +kernel
theorem dX4_joinsWithItself_21 : decode cX4_joinsWithItself 21 = .ok (.ireturn, 1) := by decide +kernel
theorem dX4_joinsWithItself_22 : decode cX4_joinsWithItself 22 = .ok (.iinc 1 1, 3) := by decide +kernel
theorem dX4_joinsWithItself_25 : decode cX4_joinsWithItself 25 = .ok (.goto (-23), 3) := by decide +kernel
theorem dX4_joinsWithItself_28 : decode cX4_joinsWithItself 28 = .ok (.iconst 1, 1) := by decide +kernel
theorem dX4_joinsWithItself_29 : decode cX4_joinsWithItself 29 = .ok (.ireturn, 1) := by decide +kernel
theorem dX4_joinsBothWaysAlike_0 : decode cX4_joinsBothWaysAlike 0 = .ok (.iconst 0, 1) := by decide +kernel
theorem dX4_joinsBothWaysAlike_1 : decode cX4_joinsBothWaysAlike 1 = .ok (.istore_n 1, 1) := by decide +kernel
theorem dX4_joinsBothWaysAlike_2 : decode cX4_joinsBothWaysAlike 2 = .ok (.iload_n 1, 1) := by decide +kernel
theorem dX4_joinsBothWaysAlike_3 : decode cX4_joinsBothWaysAlike 3 = .ok (.aload_n 0, 1) := by decide +kernel
theorem dX4_joinsBothWaysAlike_4 : decode cX4_joinsBothWaysAlike 4 = .ok (.getfield 39, 3) := by decide +kernel
theorem dX4_joinsBothWaysAlike_7 : decode cX4_joinsBothWaysAlike 7 = .ok (.if_icmp .ge 39, 3) := by decide +kernel
theorem dX4_joinsBothWaysAlike_10 : decode cX4_joinsBothWaysAlike 10 = .ok (.iconst 0, 1) := by decide +kernel
theorem dX4_joinsBothWaysAlike_11 : decode cX4_joinsBothWaysAlike 11 = .ok (.istore_n 2, 1) := by decide +kernel
theorem dX4_joinsBothWaysAlike_12 : decode cX4_joinsBothWaysAlike 12 = .ok (.iload_n 2, 1) := by decide +kernel
theorem dX4_joinsBothWaysAlike_13 : decode cX4_joinsBothWaysAlike 13 = .ok (.iload_n 1, 1) := by decide +kernel
theorem dX4_joinsBothWaysAlike_14 : decode cX4_joinsBothWaysAlike 14 = .ok (.if_icmp .ge 26, 3) := by decide +kernel
theorem dX4_joinsBothWaysAlike_17 : decode cX4_joinsBothWaysAlike 17 = .ok (.aload_n 0, 1) := by decide +kernel
theorem dX4_joinsBothWaysAlike_18 : decode cX4_joinsBothWaysAlike 18 = .ok (.iload_n 1, 1) := by decide +kernel
theorem dX4_joinsBothWaysAlike_19 : decode cX4_joinsBothWaysAlike 19 = .ok (.iload_n 2, 1) := by decide +kernel
theorem dX4_joinsBothWaysAlike_20 : decode cX4_joinsBothWaysAlike 20 = .ok (.invokevirtual 78, 3) := by decide +kernel
theorem dX4_joinsBothWaysAlike_23 : decode cX4_joinsBothWaysAlike 23 = .ok (.aload_n 0, 1) := by decide +kernel
theorem dX4_joinsBothWaysAlike_24 : decode cX4_joinsBothWaysAlike 24 = .ok (.iload_n 2, 1) := by decide +kernel
theorem dX4_joinsBothWaysAlike_25 : decode cX4_joinsBothWaysAlike 25 = .ok (.iload_n 1, 1) := by decide +kernel
theorem dX4_joinsBothWaysAlike_26 : decode cX4_joinsBothWaysAlike 26 = .ok (.invokevirtual 78, 3) := by decide +kernel
theorem dX4_joinsBothWaysAlike_29 : decode cX4_joinsBothWaysAlike 29 = .ok (.if_icmp .eq 5, 3) := by decide +kernel
theorem dX4_joinsBothWaysAlike_32 : decode cX4_joinsBothWaysAlike 32 = .ok (.iconst 0, 1) := by decide +kernel
theorem dX4_joinsBothWaysAlike_33 : decode cX4_joinsBothWaysAlike 33 = .ok (.ireturn, 1) := by decide +kernel
theorem dX4_joinsBothWaysAlike_34 : decode cX4_joinsBothWaysAlike 34 = .ok (.iinc 2 1, 3) := by decide +kernel
theorem dX4_joinsBothWaysAlike_37 : decode cX4_joinsBothWaysAlike 37 = .ok (.goto (-25), 3) := by decide +kernel
theorem dX4_joinsBothWaysAlike_40 : decode cX4_joinsBothWaysAlike 40 = .ok (.iinc 1 1, 3) := by decide +kernel
theorem dX4_joinsBothWaysAlike_43 : decode cX4_joinsBothWaysAlike 43 = .ok (.goto (-41), 3) := by decide +kernel
theorem dX4_joinsBothWaysAlike_46 : decode cX4_joinsBothWaysAlike 46 = .ok (.iconst 1, 1) := by decide +kernel
theorem dX4_joinsBothWaysAlike_47 : decode cX4_joinsBothWaysAlike 47 = .ok (.ireturn, 1) := by decide +kernel
theorem dX4_joinsInAnyGroupsAlike_0 : decode cX4_joinsInAnyGroupsAlike 0 = .ok (.iconst 0, 1) := by decide +kernel
theorem dX4_joinsInAnyGroupsAlike_1 : decode cX4_joinsInAnyGroupsAlike 1 = .ok (.istore_n 1, 1) := by decide +kernel
theorem dX4_joinsInAnyGroupsAlike_2 : decode cX4_joinsInAnyGroupsAlike 2 = .ok (.iload_n 1, 1) := by decide +kernel
theorem dX4_joinsInAnyGroupsAlike_3 : decode cX4_joinsInAnyGroupsAlike 3 = .ok (.aload_n 0, 1) := by decide +kernel
theorem dX4_joinsInAnyGroupsAlike_4 : decode cX4_joinsInAnyGroupsAlike 4 = .ok (.getfield 39, 3) := by decide +kernel
theorem dX4_joinsInAnyGroupsAlike_7 : decode cX4_joinsInAnyGroupsAlike 7 = .ok (.if_icmp .ge 74, 3) := by decide +kernel
theorem dX4_joinsInAnyGroupsAlike_10 : decode cX4_joinsInAnyGroupsAlike 10 = .ok (.iconst 0, 1) := by decide +kernel
theorem dX4_joinsInAnyGroupsAlike_11 : decode cX4_joinsInAnyGroupsAlike 11 = .ok (.istore_n 2, 1) := by decide +kernel
theorem dX4_joinsInAnyGroupsAlike_12 : decode cX4_joinsInAnyGroupsAlike 12 = .ok (.iload_n 2, 1) := by decide +kernel
theorem dX4_joinsInAnyGroupsAlike_13 : decode cX4_joinsInAnyGroupsAlike 13 = .ok (.aload_n 0, 1) := by decide +kernel
theorem dX4_joinsInAnyGroupsAlike_14 : decode cX4_joinsInAnyGroupsAlike 14 = .ok (.getfield 39, 3) := by decide +kernel
theorem dX4_joinsInAnyGroupsAlike_17 : decode cX4_joinsInAnyGroupsAlike 17 = .ok (.if_icmp .ge 58, 3) := by decide +kernel
theorem dX4_joinsInAnyGroupsAlike_20 : decode cX4_joinsInAnyGroupsAlike 20 = .ok (.aload_n 0, 1) := by decide +kernel
theorem dX4_joinsInAnyGroupsAlike_21 : decode cX4_joinsInAnyGroupsAlike 21 = .ok (.iload_n 1, 1) := by decide +kernel
theorem dX4_joinsInAnyGroupsAlike_22 : decode cX4_joinsInAnyGroupsAlike 22 = .ok (.iload_n 2, 1) := by decide +kernel
theorem dX4_joinsInAnyGroupsAlike_23 : decode cX4_joinsInAnyGroupsAlike 23 = .ok (.invokevirtual 78, 3) := by decide +kernel
theorem dX4_joinsInAnyGroupsAlike_26 : decode cX4_joinsInAnyGroupsAlike 26 = .ok (.istore_n 3, 1) := by decide +kernel
theorem dX4_joinsInAnyGroupsAlike_27 : decode cX4_joinsInAnyGroupsAlike 27 = .ok (.iconst 0, 1) := by decide +kernel
theorem dX4_joinsInAnyGroupsAlike_28 : decode cX4_joinsInAnyGroupsAlike 28 = .ok (.istore 4, 2) := by decide +kernel
theorem dX4_joinsInAnyGroupsAlike_30 : decode cX4_joinsInAnyGroupsAlike 30 = .ok (.iload 4, 2) := by decide +kernel
theorem dX4_joinsInAnyGroupsAlike_32 : decode cX4_joinsInAnyGroupsAlike 32 = .ok (.aload_n 0, 1) := by decide +kernel
theorem dX4_joinsInAnyGroupsAlike_33 : decode cX4_joinsInAnyGroupsAlike 33 = .ok (.getfield 39, 3) := by decide +kernel
theorem dX4_joinsInAnyGroupsAlike_36 : decode cX4_joinsInAnyGroupsAlike 36 = .ok (.if_icmp .ge 33, 3) := by decide +kernel
theorem dX4_joinsInAnyGroupsAlike_39 : decode cX4_joinsInAnyGroupsAlike 39 = .ok (.aload_n 0, 1) := by decide +kernel
theorem dX4_joinsInAnyGroupsAlike_40 : decode cX4_joinsInAnyGroupsAlike 40 = .ok (.iload_n 3, 1) := by decide +kernel
theorem dX4_joinsInAnyGroupsAlike_41 : decode cX4_joinsInAnyGroupsAlike 41 = .ok (.iload 4, 2) := by decide +kernel
theorem dX4_joinsInAnyGroupsAlike_43 : decode cX4_joinsInAnyGroupsAlike 43 = .ok (.invokevirtual 78, 3) := by decide +kernel
theorem dX4_joinsInAnyGroupsAlike_46 : decode cX4_joinsInAnyGroupsAlike 46 = .ok (.aload_n 0, 1) := by decide +kernel
theorem dX4_joinsInAnyGroupsAlike_47 : decode cX4_joinsInAnyGroupsAlike 47 = .ok (.iload_n 1, 1) := by decide +kernel
theorem dX4_joinsInAnyGroupsAlike_48 : decode cX4_joinsInAnyGroupsAlike 48 = .ok (.aload_n 0, 1) := by decide +kernel
theorem dX4_joinsInAnyGroupsAlike_49 : decode cX4_joinsInAnyGroupsAlike 49 = .ok (.iload_n 2, 1) := by decide +kernel
theorem dX4_joinsInAnyGroupsAlike_50 : decode cX4_joinsInAnyGroupsAlike 50 = .ok (.iload 4, 2) := by decide +kernel
theorem dX4_joinsInAnyGroupsAlike_52 : decode cX4_joinsInAnyGroupsAlike 52 = .ok (.invokevirtual 78, 3) := by decide +kernel
theorem dX4_joinsInAnyGroupsAlike_55 : decode cX4_joinsInAnyGroupsAlike 55 = .ok (.invokevirtual 78, 3) := by decide +kernel
theorem dX4_joinsInAnyGroupsAlike_58 : decode cX4_joinsInAnyGroupsAlike 58 = .ok (.if_icmp .eq 5, 3) := by decide +kernel
theorem dX4_joinsInAnyGroupsAlike_61 : decode cX4_joinsInAnyGroupsAlike 61 = .ok (.iconst 0, 1) := by decide +kernel
theorem dX4_joinsInAnyGroupsAlike_62 : decode cX4_joinsInAnyGroupsAlike 62 = .ok (.ireturn, 1) := by decide +kernel
theorem dX4_joinsInAnyGroupsAlike_63 : decode cX4_joinsInAnyGroupsAlike 63 = .ok (.iinc 4 1, 3) := by decide +kernel
theorem dX4_joinsInAnyGroupsAlike_66 : decode cX4_joinsInAnyGroupsAlike 66 = .ok (.goto (-36), 3) := by decide +kernel
theorem dX4_joinsInAnyGroupsAlike_69 : decode cX4_joinsInAnyGroupsAlike 69 = .ok (.iinc 2 1, 3) := by decide +kernel
theorem dX4_joinsInAnyGroupsAlike_72 : decode cX4_joinsInAnyGroupsAlike 72 = .ok (.goto (-60), 3) := by decide +kernel
theorem dX4_joinsInAnyGroupsAlike_75 : decode cX4_joinsInAnyGroupsAlike 75 = .ok (.iinc 1 1, 3) := by decide +kernel
theorem dX4_joinsInAnyGroupsAlike_78 : decode cX4_joinsInAnyGroupsAlike 78 = .ok (.goto (-76), 3) := by decide +kernel
theorem dX4_joinsInAnyGroupsAlike_81 : decode cX4_joinsInAnyGroupsAlike 81 = .ok (.iconst 1, 1) := by decide +kernel
theorem dX4_joinsInAnyGroupsAlike_82 : decode cX4_joinsInAnyGroupsAlike 82 = .ok (.ireturn, 1) := by decide +kernel
theorem dX4_joinsZeroAsNothing_0 : decode cX4_joinsZeroAsNothing 0 = .ok (.iconst 0, 1) := by decide +kernel
theorem dX4_joinsZeroAsNothing_1 : decode cX4_joinsZeroAsNothing 1 = .ok (.istore_n 1, 1) := by decide +kernel
theorem dX4_joinsZeroAsNothing_2 : decode cX4_joinsZeroAsNothing 2 = .ok (.iload_n 1, 1) := by decide +kernel
theorem dX4_joinsZeroAsNothing_3 : decode cX4_joinsZeroAsNothing 3 = .ok (.aload_n 0, 1) := by decide +kernel
theorem dX4_joinsZeroAsNothing_4 : decode cX4_joinsZeroAsNothing 4 = .ok (.getfield 39, 3) := by decide +kernel
theorem dX4_joinsZeroAsNothing_7 : decode cX4_joinsZeroAsNothing 7 = .ok (.if_icmp .ge 21, 3) := by decide +kernel
theorem dX4_joinsZeroAsNothing_10 : decode cX4_joinsZeroAsNothing 10 = .ok (.aload_n 0, 1) := by decide +kernel
theorem dX4_joinsZeroAsNothing_11 : decode cX4_joinsZeroAsNothing 11 = .ok (.iconst 0, 1) := by decide +kernel
theorem dX4_joinsZeroAsNothing_12 : decode cX4_joinsZeroAsNothing 12 = .ok (.iload_n 1, 1) := by decide +kernel
theorem dX4_joinsZeroAsNothing_13 : decode cX4_joinsZeroAsNothing 13 = .ok (.invokevirtual 78, 3) := by decide +kernel
theorem dX4_joinsZeroAsNothing_16 : decode cX4_joinsZeroAsNothing 16 = .ok (.iload_n 1, 1) := by decide +kernel
theorem dX4_joinsZeroAsNothing_17 : decode cX4_joinsZeroAsNothing 17 = .ok (.if_icmp .eq 5, 3) := by decide +kernel
theorem dX4_joinsZeroAsNothing_20 : decode cX4_joinsZeroAsNothing 20 = .ok (.iconst 0, 1) := by decide +kernel
theorem dX4_joinsZeroAsNothing_21 : decode cX4_joinsZeroAsNothing 21 = .ok (.ireturn, 1) := by decide +kernel
theorem dX4_joinsZeroAsNothing_22 : decode cX4_joinsZeroAsNothing 22 = .ok (.iinc 1 1, 3) := by decide +kernel
theorem dX4_joinsZeroAsNothing_25 : decode cX4_joinsZeroAsNothing 25 = .ok (.goto (-23), 3) := by decide +kernel
theorem dX4_joinsZeroAsNothing_28 : decode cX4_joinsZeroAsNothing 28 = .ok (.iconst 1, 1) := by decide +kernel
theorem dX4_joinsZeroAsNothing_29 : decode cX4_joinsZeroAsNothing 29 = .ok (.ireturn, 1) := by decide +kernel
theorem dX4_keepsOrder_0 : decode cX4_keepsOrder 0 = .ok (.iload_n 1, 1) := by decide +kernel
theorem dX4_keepsOrder_1 : decode cX4_keepsOrder 1 = .ok (.bipush 8, 2) := by decide +kernel
theorem dX4_keepsOrder_3 : decode cX4_keepsOrder 3 = .ok (.imul, 1) := by decide +kernel
theorem dX4_keepsOrder_4 : decode cX4_keepsOrder 4 = .ok (.istore_n 2, 1) := by decide +kernel
theorem dX4_keepsOrder_5 : decode cX4_keepsOrder 5 = .ok (.iconst 0, 1) := by decide +kernel
theorem dX4_keepsOrder_6 : decode cX4_keepsOrder 6 = .ok (.istore_n 3, 1) := by decide +kernel
theorem dX4_keepsOrder_7 : decode cX4_keepsOrder 7 = .ok (.iload_n 3, 1) := by decide +kernel
theorem dX4_keepsOrder_8 : decode cX4_keepsOrder 8 = .ok (.aload_n 0, 1) := by decide +kernel
theorem dX4_keepsOrder_9 : decode cX4_keepsOrder 9 = .ok (.getfield 39, 3) := by decide +kernel
theorem dX4_keepsOrder_12 : decode cX4_keepsOrder 12 = .ok (.if_icmp .ge 63, 3) := by decide +kernel
theorem dX4_keepsOrder_15 : decode cX4_keepsOrder 15 = .ok (.iconst 0, 1) := by decide +kernel
theorem dX4_keepsOrder_16 : decode cX4_keepsOrder 16 = .ok (.istore 4, 2) := by decide +kernel
theorem dX4_keepsOrder_18 : decode cX4_keepsOrder 18 = .ok (.iload 4, 2) := by decide +kernel
theorem dX4_keepsOrder_20 : decode cX4_keepsOrder 20 = .ok (.aload_n 0, 1) := by decide +kernel
theorem dX4_keepsOrder_21 : decode cX4_keepsOrder 21 = .ok (.getfield 39, 3) := by decide +kernel
theorem dX4_keepsOrder_24 : decode cX4_keepsOrder 24 = .ok (.if_icmp .ge 45, 3) := by decide +kernel
theorem dX4_keepsOrder_27 : decode cX4_keepsOrder 27 = .ok (.aload_n 0, 1) := by decide +kernel
theorem dX4_keepsOrder_28 : decode cX4_keepsOrder 28 = .ok (.iload_n 3, 1) := by decide +kernel
theorem dX4_keepsOrder_29 : decode cX4_keepsOrder 29 = .ok (.iload 4, 2) := by decide +kernel
theorem dX4_keepsOrder_31 : decode cX4_keepsOrder 31 = .ok (.invokevirtual 81, 3) := by decide +kernel
theorem dX4_keepsOrder_34 : decode cX4_keepsOrder 34 = .ok (.ifCond .eq 29, 3) := by decide +kernel
theorem dX4_keepsOrder_37 : decode cX4_keepsOrder 37 = .ok (.aload_n 0, 1) := by decide +kernel
theorem dX4_keepsOrder_38 : decode cX4_keepsOrder 38 = .ok (.aload_n 0, 1) := by decide +kernel
theorem dX4_keepsOrder_39 : decode cX4_keepsOrder 39 = .ok (.getfield 27, 3) := by decide +kernel
theorem dX4_keepsOrder_42 : decode cX4_keepsOrder 42 = .ok (.iload_n 2, 1) := by decide +kernel
theorem dX4_keepsOrder_43 : decode cX4_keepsOrder 43 = .ok (.iload_n 3, 1) := by decide +kernel
theorem dX4_keepsOrder_44 : decode cX4_keepsOrder 44 = .ok (.iadd, 1) := by decide +kernel
theorem dX4_keepsOrder_45 : decode cX4_keepsOrder 45 = .ok (.iaload, 1) := by decide +kernel
theorem dX4_keepsOrder_46 : decode cX4_keepsOrder 46 = .ok (.aload_n 0, 1) := by decide +kernel
theorem dX4_keepsOrder_47 : decode cX4_keepsOrder 47 = .ok (.getfield 27, 3) := by decide +kernel
theorem dX4_keepsOrder_50 : decode cX4_keepsOrder 50 = .ok (.iload_n 2, 1) := by decide +kernel
theorem dX4_keepsOrder_51 : decode cX4_keepsOrder 51 = .ok (.iload 4, 2) := by decide +kernel
theorem dX4_keepsOrder_53 : decode cX4_keepsOrder 53 = .ok (.iadd, 1) := by decide +kernel
theorem dX4_keepsOrder_54 : decode cX4_keepsOrder 54 = .ok (.iaload, 1) := by decide +kernel
theorem dX4_keepsOrder_55 : decode cX4_keepsOrder 55 = .ok (.invokevirtual 81, 3) := by decide +kernel
theorem dX4_keepsOrder_58 : decode cX4_keepsOrder 58 = .ok (.ifCond .ne 5, 3) := by decide +kernel
theorem dX4_keepsOrder_61 : decode cX4_keepsOrder 61 = .ok (.iconst 0, 1) := by decide +kernel
theorem dX4_keepsOrder_62 : decode cX4_keepsOrder 62 = .ok (.ireturn, 1) := by decide +kernel
theorem dX4_keepsOrder_63 : decode cX4_keepsOrder 63 = .ok (.iinc 4 1, 3) := by decide +kernel
theorem dX4_keepsOrder_66 : decode cX4_keepsOrder 66 = .ok (.goto (-48), 3) := by decide +kernel
theorem dX4_keepsOrder_69 : decode cX4_keepsOrder 69 = .ok (.iinc 3 1, 3) := by decide +kernel
theorem dX4_keepsOrder_72 : decode cX4_keepsOrder 72 = .ok (.goto (-65), 3) := by decide +kernel
theorem dX4_keepsOrder_75 : decode cX4_keepsOrder 75 = .ok (.iconst 1, 1) := by decide +kernel
theorem dX4_keepsOrder_76 : decode cX4_keepsOrder 76 = .ok (.ireturn, 1) := by decide +kernel
theorem dX4_firstOutOfOrder_0 : decode cX4_firstOutOfOrder 0 = .ok (.iconst 0, 1) := by decide +kernel
theorem dX4_firstOutOfOrder_1 : decode cX4_firstOutOfOrder 1 = .ok (.istore_n 1, 1) := by decide +kernel
theorem dX4_firstOutOfOrder_2 : decode cX4_firstOutOfOrder 2 = .ok (.iload_n 1, 1) := by decide +kernel
theorem dX4_firstOutOfOrder_3 : decode cX4_firstOutOfOrder 3 = .ok (.aload_n 0, 1) := by decide +kernel
theorem dX4_firstOutOfOrder_4 : decode cX4_firstOutOfOrder 4 = .ok (.getfield 46, 3) := by decide +kernel
theorem dX4_firstOutOfOrder_7 : decode cX4_firstOutOfOrder 7 = .ok (.if_icmp .ge 19, 3) := by decide +kernel
theorem dX4_firstOutOfOrder_10 : decode cX4_firstOutOfOrder 10 = .ok (.aload_n 0, 1) := by decide +kernel
theorem dX4_firstOutOfOrder_11 : decode cX4_firstOutOfOrder 11 = .ok (.iload_n 1, 1) := by decide +kernel
theorem dX4_firstOutOfOrder_12 : decode cX4_firstOutOfOrder 12 = .ok (.invokevirtual 85, 3) := by decide +kernel
theorem dX4_firstOutOfOrder_15 : decode cX4_firstOutOfOrder 15 = .ok (.ifCond .ne 5, 3) := by decide +kernel
theorem dX4_firstOutOfOrder_18 : decode cX4_firstOutOfOrder 18 = .ok (.iload_n 1, 1) := by decide +kernel
theorem dX4_firstOutOfOrder_19 : decode cX4_firstOutOfOrder 19 = .ok (.ireturn, 1) := by decide +kernel
theorem dX4_firstOutOfOrder_20 : decode cX4_firstOutOfOrder 20 = .ok (.iinc 1 1, 3) := by decide +kernel
theorem dX4_firstOutOfOrder_23 : decode cX4_firstOutOfOrder 23 = .ok (.goto (-21), 3) := by decide +kernel
theorem dX4_firstOutOfOrder_26 : decode cX4_firstOutOfOrder 26 = .ok (.iconst (-1), 1) := by decide +kernel
theorem dX4_firstOutOfOrder_27 : decode cX4_firstOutOfOrder 27 = .ok (.ireturn, 1) := by decide +kernel
theorem dX4_isWell_0 : decode cX4_isWell 0 = .ok (.aload_n 0, 1) := by decide +kernel
theorem dX4_isWell_1 : decode cX4_isWell 1 = .ok (.invokevirtual 89, 3) := by decide +kernel
theorem dX4_isWell_4 : decode cX4_isWell 4 = .ok (.ifCond .ne 15, 3) := by decide +kernel
theorem dX4_isWell_7 : decode cX4_isWell 7 = .ok (.aload_n 0, 1) := by decide +kernel
theorem dX4_isWell_8 : decode cX4_isWell 8 = .ok (.invokevirtual 93, 3) := by decide +kernel
theorem dX4_isWell_11 : decode cX4_isWell 11 = .ok (.iconst (-1), 1) := by decide +kernel
theorem dX4_isWell_12 : decode cX4_isWell 12 = .ok (.if_icmp .ne 7, 3) := by decide +kernel
theorem dX4_isWell_15 : decode cX4_isWell 15 = .ok (.iconst 1, 1) := by decide +kernel
theorem dX4_isWell_16 : decode cX4_isWell 16 = .ok (.goto 4, 3) := by decide +kernel
theorem dX4_isWell_19 : decode cX4_isWell 19 = .ok (.iconst 0, 1) := by decide +kernel
theorem dX4_isWell_20 : decode cX4_isWell 20 = .ok (.ireturn, 1) := by decide +kernel
theorem dX4_isKept_0 : decode cX4_isKept 0 = .ok (.iconst 0, 1) := by decide +kernel
theorem dX4_isKept_1 : decode cX4_isKept 1 = .ok (.istore_n 2, 1) := by decide +kernel
theorem dX4_isKept_2 : decode cX4_isKept 2 = .ok (.iload_n 2, 1) := by decide +kernel
theorem dX4_isKept_3 : decode cX4_isKept 3 = .ok (.aload_n 0, 1) := by decide +kernel
theorem dX4_isKept_4 : decode cX4_isKept 4 = .ok (.getfield 46, 3) := by decide +kernel
theorem dX4_isKept_7 : decode cX4_isKept 7 = .ok (.if_icmp .ge 31, 3) := by decide +kernel
theorem dX4_isKept_10 : decode cX4_isKept 10 = .ok (.aload_n 0, 1) := by decide +kernel
theorem dX4_isKept_11 : decode cX4_isKept 11 = .ok (.getfield 24, 3) := by decide +kernel
theorem dX4_isKept_14 : decode cX4_isKept 14 = .ok (.iload_n 2, 1) := by decide +kernel
theorem dX4_isKept_15 : decode cX4_isKept 15 = .ok (.iaload, 1) := by decide +kernel
theorem dX4_isKept_16 : decode cX4_isKept 16 = .ok (.iload_n 1, 1) := by decide +kernel
theorem dX4_isKept_17 : decode cX4_isKept 17 = .ok (.if_icmp .ne 15, 3) := by decide +kernel
theorem dX4_isKept_20 : decode cX4_isKept 20 = .ok (.aload_n 0, 1) := by decide +kernel
theorem dX4_isKept_21 : decode cX4_isKept 21 = .ok (.getfield 21, 3) := by decide +kernel
theorem dX4_isKept_24 : decode cX4_isKept 24 = .ok (.iload_n 2, 1) := by decide +kernel
theorem dX4_isKept_25 : decode cX4_isKept 25 = .ok (.iaload, 1) := by decide +kernel
theorem dX4_isKept_26 : decode cX4_isKept 26 = .ok (.iload_n 1, 1) := by decide +kernel
theorem dX4_isKept_27 : decode cX4_isKept 27 = .ok (.if_icmp .lt 5, 3) := by decide +kernel
theorem dX4_isKept_30 : decode cX4_isKept 30 = .ok (.iconst 1, 1) := by decide +kernel
theorem dX4_isKept_31 : decode cX4_isKept 31 = .ok (.ireturn, 1) := by decide +kernel
theorem dX4_isKept_32 : decode cX4_isKept 32 = .ok (.iinc 2 1, 3) := by decide +kernel
theorem dX4_isKept_35 : decode cX4_isKept 35 = .ok (.goto (-33), 3) := by decide +kernel
theorem dX4_isKept_38 : decode cX4_isKept 38 = .ok (.iconst 0, 1) := by decide +kernel
theorem dX4_isKept_39 : decode cX4_isKept 39 = .ok (.ireturn, 1) := by decide +kernel
theorem dX4_keptPlaces_0 : decode cX4_keptPlaces 0 = .ok (.iconst 0, 1) := by decide +kernel
theorem dX4_keptPlaces_1 : decode cX4_keptPlaces 1 = .ok (.istore_n 1, 1) := by decide +kernel
theorem dX4_keptPlaces_2 : decode cX4_keptPlaces 2 = .ok (.iconst 0, 1) := by decide +kernel
theorem dX4_keptPlaces_3 : decode cX4_keptPlaces 3 = .ok (.istore_n 2, 1) := by decide +kernel
theorem dX4_keptPlaces_4 : decode cX4_keptPlaces 4 = .ok (.iload_n 2, 1) := by decide +kernel
theorem dX4_keptPlaces_5 : decode cX4_keptPlaces 5 = .ok (.aload_n 0, 1) := by decide +kernel
theorem dX4_keptPlaces_6 : decode cX4_keptPlaces 6 = .ok (.getfield 46, 3) := by decide +kernel
theorem dX4_keptPlaces_9 : decode cX4_keptPlaces 9 = .ok (.if_icmp .ge 35, 3) := by decide +kernel
theorem dX4_keptPlaces_12 : decode cX4_keptPlaces 12 = .ok (.aload_n 0, 1) := by decide +kernel
theorem dX4_keptPlaces_13 : decode cX4_keptPlaces 13 = .ok (.getfield 21, 3) := by decide +kernel
theorem dX4_keptPlaces_16 : decode cX4_keptPlaces 16 = .ok (.iload_n 2, 1) := by decide +kernel
theorem dX4_keptPlaces_17 : decode cX4_keptPlaces 17 = .ok (.iaload, 1) := by decide +kernel
theorem dX4_keptPlaces_18 : decode cX4_keptPlaces 18 = .ok (.aload_n 0, 1) := by decide +kernel
theorem dX4_keptPlaces_19 : decode cX4_keptPlaces 19 = .ok (.getfield 24, 3) := by decide +kernel
theorem dX4_keptPlaces_22 : decode cX4_keptPlaces 22 = .ok (.iload_n 2, 1) := by decide +kernel
theorem dX4_keptPlaces_23 : decode cX4_keptPlaces 23 = .ok (.iaload, 1) := by decide +kernel
theorem dX4_keptPlaces_24 : decode cX4_keptPlaces 24 = .ok (.if_icmp .lt 14, 3) := by decide +kernel
theorem dX4_keptPlaces_27 : decode cX4_keptPlaces 27 = .ok (.iload_n 1, 1) := by decide +kernel
theorem dX4_keptPlaces_28 : decode cX4_keptPlaces 28 = .ok (.iconst 1, 1) := by decide +kernel
theorem dX4_keptPlaces_29 : decode cX4_keptPlaces 29 = .ok (.aload_n 0, 1) := by decide +kernel
theorem dX4_keptPlaces_30 : decode cX4_keptPlaces 30 = .ok (.getfield 24, 3) := by decide +kernel
theorem dX4_keptPlaces_33 : decode cX4_keptPlaces 33 = .ok (.iload_n 2, 1) := by decide +kernel
theorem dX4_keptPlaces_34 : decode cX4_keptPlaces 34 = .ok (.iaload, 1) := by decide +kernel
theorem dX4_keptPlaces_35 : decode cX4_keptPlaces 35 = .ok (.ishl, 1) := by decide +kernel
theorem dX4_keptPlaces_36 : decode cX4_keptPlaces 36 = .ok (.ior, 1) := by decide +kernel
theorem dX4_keptPlaces_37 : decode cX4_keptPlaces 37 = .ok (.istore_n 1, 1) := by decide +kernel
theorem dX4_keptPlaces_38 : decode cX4_keptPlaces 38 = .ok (.iinc 2 1, 3) := by decide +kernel
theorem dX4_keptPlaces_41 : decode cX4_keptPlaces 41 = .ok (.goto (-37), 3) := by decide +kernel
theorem dX4_keptPlaces_44 : decode cX4_keptPlaces 44 = .ok (.iload_n 1, 1) := by decide +kernel
theorem dX4_keptPlaces_45 : decode cX4_keptPlaces 45 = .ok (.ireturn, 1) := by decide +kernel
theorem dX4_brought_0 : decode cX4_brought 0 = .ok (.aload_n 2, 1) := by decide +kernel
theorem dX4_brought_1 : decode cX4_brought 1 = .ok (.aload_n 0, 1) := by decide +kernel
theorem dX4_brought_2 : decode cX4_brought 2 = .ok (.getfield 21, 3) := by decide +kernel
theorem dX4_brought_5 : decode cX4_brought 5 = .ok (.iload_n 1, 1) := by decide +kernel
theorem dX4_brought_6 : decode cX4_brought 6 = .ok (.iaload, 1) := by decide +kernel
theorem dX4_brought_7 : decode cX4_brought 7 = .ok (.iaload, 1) := by decide +kernel
theorem dX4_brought_8 : decode cX4_brought 8 = .ok (.istore_n 3, 1) := by decide +kernel
theorem dX4_brought_9 : decode cX4_brought 9 = .ok (.iload_n 3, 1) := by decide +kernel
theorem dX4_brought_10 : decode cX4_brought 10 = .ok (.invokestatic 96, 3) := by decide +kernel
theorem dX4_brought_13 : decode cX4_brought 13 = .ok (.istore 4, 2) := by decide +kernel
theorem dX4_brought_15 : decode cX4_brought 15 = .ok (.aload_n 0, 1) := by decide +kernel
theorem dX4_brought_16 : decode cX4_brought 16 = .ok (.aload_n 0, 1) := by decide +kernel
theorem dX4_brought_17 : decode cX4_brought 17 = .ok (.getfield 36, 3) := by decide +kernel
theorem dX4_brought_20 : decode cX4_brought 20 = .ok (.iload_n 1, 1) := by decide +kernel
theorem dX4_brought_21 : decode cX4_brought 21 = .ok (.iaload, 1) := by decide +kernel
theorem dX4_brought_22 : decode cX4_brought 22 = .ok (.iload 4, 2) := by decide +kernel
theorem dX4_brought_24 : decode cX4_brought 24 = .ok (.invokevirtual 81, 3) := by decide +kernel
theorem dX4_brought_27 : decode cX4_brought 27 = .ok (.ifCond .ne 5, 3) := by decide +kernel
theorem dX4_brought_30 : decode cX4_brought 30 = .ok (.iconst 0, 1) := by decide +kernel
theorem dX4_brought_31 : decode cX4_brought 31 = .ok (.ireturn, 1) := by decide +kernel
theorem dX4_brought_32 : decode cX4_brought 32 = .ok (.aload_n 0, 1) := by decide +kernel
theorem dX4_brought_33 : decode cX4_brought 33 = .ok (.getfield 27, 3) := by decide +kernel
theorem dX4_brought_36 : decode cX4_brought 36 = .ok (.iload_n 1, 1) := by decide +kernel
theorem dX4_brought_37 : decode cX4_brought 37 = .ok (.bipush 8, 2) := by decide +kernel
theorem dX4_brought_39 : decode cX4_brought 39 = .ok (.imul, 1) := by decide +kernel
theorem dX4_brought_40 : decode cX4_brought 40 = .ok (.iload 4, 2) := by decide +kernel
theorem dX4_brought_42 : decode cX4_brought 42 = .ok (.iadd, 1) := by decide +kernel
theorem dX4_brought_43 : decode cX4_brought 43 = .ok (.iaload, 1) := by decide +kernel
theorem dX4_brought_44 : decode cX4_brought 44 = .ok (.sipush 256, 3) := by decide +kernel
theorem dX4_brought_47 : decode cX4_brought 47 = .ok (.imul, 1) := by decide +kernel
theorem dX4_brought_48 : decode cX4_brought 48 = .ok (.iload_n 3, 1) := by decide +kernel
theorem dX4_brought_49 : decode cX4_brought 49 = .ok (.invokestatic 100, 3) := by decide +kernel
theorem dX4_brought_52 : decode cX4_brought 52 = .ok (.aload_n 0, 1) := by decide +kernel
theorem dX4_brought_53 : decode cX4_brought 53 = .ok (.getfield 33, 3) := by decide +kernel
theorem dX4_brought_56 : decode cX4_brought 56 = .ok (.iload_n 1, 1) := by decide +kernel
theorem dX4_brought_57 : decode cX4_brought 57 = .ok (.iaload, 1) := by decide +kernel
theorem dX4_brought_58 : decode cX4_brought 58 = .ok (.iconst (-1), 1) := by decide +kernel
theorem dX4_brought_59 : decode cX4_brought 59 = .ok (.ixor, 1) := by decide +kernel
theorem dX4_brought_60 : decode cX4_brought 60 = .ok (.iand, 1) := by decide +kernel
theorem dX4_brought_61 : decode cX4_brought 61 = .ok (.aload_n 0, 1) := by decide +kernel
theorem dX4_brought_62 : decode cX4_brought 62 = .ok (.getfield 30, 3) := by decide +kernel
theorem dX4_brought_65 : decode cX4_brought 65 = .ok (.iload_n 1, 1) := by decide +kernel
theorem dX4_brought_66 : decode cX4_brought 66 = .ok (.iaload, 1) := by decide +kernel
theorem dX4_brought_67 : decode cX4_brought 67 = .ok (.ior, 1) := by decide +kernel
theorem dX4_brought_68 : decode cX4_brought 68 = .ok (.iadd, 1) := by decide +kernel
theorem dX4_brought_69 : decode cX4_brought 69 = .ok (.ireturn, 1) := by decide +kernel
theorem dX4_together_0 : decode cX4_together 0 = .ok (.aload_n 0, 1) := by decide +kernel
theorem dX4_together_1 : decode cX4_together 1 = .ok (.getfield 15, 3) := by decide +kernel
theorem dX4_together_4 : decode cX4_together 4 = .ok (.iload_n 1, 1) := by decide +kernel
theorem dX4_together_5 : decode cX4_together 5 = .ok (.iaload, 1) := by decide +kernel
theorem dX4_together_6 : decode cX4_together 6 = .ok (.invokestatic 96, 3) := by decide +kernel
theorem dX4_together_9 : decode cX4_together 9 = .ok (.istore 4, 2) := by decide +kernel
theorem dX4_together_11 : decode cX4_together 11 = .ok (.aload_n 0, 1) := by decide +kernel
theorem dX4_together_12 : decode cX4_together 12 = .ok (.getfield 15, 3) := by decide +kernel
theorem dX4_together_15 : decode cX4_together 15 = .ok (.iload_n 1, 1) := by decide +kernel
theorem dX4_together_16 : decode cX4_together 16 = .ok (.iaload, 1) := by decide +kernel
theorem dX4_together_17 : decode cX4_together 17 = .ok (.invokestatic 100, 3) := by decide +kernel
theorem dX4_together_20 : decode cX4_together 20 = .ok (.istore 5, 2) := by decide +kernel
theorem dX4_together_22 : decode cX4_together 22 = .ok (.iconst 0, 1) := by decide +kernel
theorem dX4_together_23 : decode cX4_together 23 = .ok (.istore 6, 2) := by decide +kernel
theorem dX4_together_25 : decode cX4_together 25 = .ok (.iload 6, 2) := by decide +kernel
theorem dX4_together_27 : decode cX4_together 27 = .ok (.aload_n 0, 1) := by decide +kernel
theorem dX4_together_28 : decode cX4_together 28 = .ok (.getfield 46, 3) := by decide +kernel
theorem dX4_together_31 : decode cX4_together 31 = .ok (.if_icmp .ge 58, 3) := by decide +kernel
theorem dX4_together_34 : decode cX4_together 34 = .ok (.aload_n 0, 1) := by decide +kernel
theorem dX4_together_35 : decode cX4_together 35 = .ok (.getfield 24, 3) := by decide +kernel
theorem dX4_together_38 : decode cX4_together 38 = .ok (.iload 6, 2) := by decide +kernel
theorem dX4_together_40 : decode cX4_together 40 = .ok (.iaload, 1) := by decide +kernel
theorem dX4_together_41 : decode cX4_together 41 = .ok (.iload_n 1, 1) := by decide +kernel
theorem dX4_together_42 : decode cX4_together 42 = .ok (.if_icmp .ne 41, 3) := by decide +kernel
theorem dX4_together_45 : decode cX4_together 45 = .ok (.iload 6, 2) := by decide +kernel
theorem dX4_together_47 : decode cX4_together 47 = .ok (.iload_n 3, 1) := by decide +kernel
theorem dX4_together_48 : decode cX4_together 48 = .ok (.if_icmp .eq 35, 3) := by decide +kernel
theorem dX4_together_51 : decode cX4_together 51 = .ok (.aload_n 0, 1) := by decide +kernel
theorem dX4_together_52 : decode cX4_together 52 = .ok (.iload 6, 2) := by decide +kernel
theorem dX4_together_54 : decode cX4_together 54 = .ok (.aload_n 2, 1) := by decide +kernel
theorem dX4_together_55 : decode cX4_together 55 = .ok (.invokevirtual 103, 3) := by decide +kernel
theorem dX4_together_58 : decode cX4_together 58 = .ok (.istore 7, 2) := by decide +kernel
theorem dX4_together_60 : decode cX4_together 60 = .ok (.aload_n 0, 1) := by decide +kernel
theorem dX4_together_61 : decode cX4_together 61 = .ok (.iload 4, 2) := by decide +kernel
theorem dX4_together_63 : decode cX4_together 63 = .ok (.iload 7, 2) := by decide +kernel
theorem dX4_together_65 : decode cX4_together 65 = .ok (.invokestatic 96, 3) := by decide +kernel
theorem dX4_together_68 : decode cX4_together 68 = .ok (.invokevirtual 78, 3) := by decide +kernel
theorem dX4_together_71 : decode cX4_together 71 = .ok (.istore 4, 2) := by decide +kernel
theorem dX4_together_73 : decode cX4_together 73 = .ok (.iload 5, 2) := by decide +kernel
theorem dX4_together_75 : decode cX4_together 75 = .ok (.iload 7, 2) := by decide +kernel
theorem dX4_together_77 : decode cX4_together 77 = .ok (.invokestatic 100, 3) := by decide +kernel
theorem dX4_together_80 : decode cX4_together 80 = .ok (.ior, 1) := by decide +kernel
theorem dX4_together_81 : decode cX4_together 81 = .ok (.istore 5, 2) := by decide +kernel
theorem dX4_together_83 : decode cX4_together 83 = .ok (.iinc 6 1, 3) := by decide +kernel
theorem dX4_together_86 : decode cX4_together 86 = .ok (.goto (-61), 3) := by decide +kernel
theorem dX4_together_89 : decode cX4_together 89 = .ok (.iload 4, 2) := by decide +kernel
theorem dX4_together_91 : decode cX4_together 91 = .ok (.sipush 256, 3) := by decide +kernel
theorem dX4_together_94 : decode cX4_together 94 = .ok (.imul, 1) := by decide +kernel
theorem dX4_together_95 : decode cX4_together 95 = .ok (.iload 5, 2) := by decide +kernel
theorem dX4_together_97 : decode cX4_together 97 = .ok (.iadd, 1) := by decide +kernel
theorem dX4_together_98 : decode cX4_together 98 = .ok (.ireturn, 1) := by decide +kernel
theorem dX4_isNoMore_0 : decode cX4_isNoMore 0 = .ok (.aload_n 0, 1) := by decide +kernel
theorem dX4_isNoMore_1 : decode cX4_isNoMore 1 = .ok (.iload_n 1, 1) := by decide +kernel
theorem dX4_isNoMore_2 : decode cX4_isNoMore 2 = .ok (.invokestatic 96, 3) := by decide +kernel
theorem dX4_isNoMore_5 : decode cX4_isNoMore 5 = .ok (.iload_n 2, 1) := by decide +kernel
theorem dX4_isNoMore_6 : decode cX4_isNoMore 6 = .ok (.invokestatic 96, 3) := by decide +kernel
theorem dX4_isNoMore_9 : decode cX4_isNoMore 9 = .ok (.invokevirtual 81, 3) := by decide +kernel
theorem dX4_isNoMore_12 : decode cX4_isNoMore 12 = .ok (.ifCond .eq 21, 3) := by decide +kernel
theorem dX4_isNoMore_15 : decode cX4_isNoMore 15 = .ok (.iload_n 1, 1) := by decide +kernel
theorem dX4_isNoMore_16 : decode cX4_isNoMore 16 = .ok (.invokestatic 100, 3) := by decide +kernel
theorem dX4_isNoMore_19 : decode cX4_isNoMore 19 = .ok (.iload_n 2, 1) := by decide +kernel
theorem dX4_isNoMore_20 : decode cX4_isNoMore 20 = .ok (.invokestatic 100, 3) := by decide +kernel
theorem dX4_isNoMore_23 : decode cX4_isNoMore 23 = .ok (.iconst (-1), 1) := by decide +kernel
theorem dX4_isNoMore_24 : decode cX4_isNoMore 24 = .ok (.ixor, 1) := by decide +kernel
theorem dX4_isNoMore_25 : decode cX4_isNoMore 25 = .ok (.iand, 1) := by decide +kernel
theorem dX4_isNoMore_26 : decode cX4_isNoMore 26 = .ok (.ifCond .ne 7, 3) := by decide +kernel
theorem dX4_isNoMore_29 : decode cX4_isNoMore 29 = .ok (.iconst 1, 1) := by decide +kernel
theorem dX4_isNoMore_30 : decode cX4_isNoMore 30 = .ok (.goto 4, 3) := by decide +kernel
theorem dX4_isNoMore_33 : decode cX4_isNoMore 33 = .ok (.iconst 0, 1) := by decide +kernel
theorem dX4_isNoMore_34 : decode cX4_isNoMore 34 = .ok (.ireturn, 1) := by decide +kernel
theorem dX4_addWay_0 : decode cX4_addWay 0 = .ok (.aload_n 0, 1) := by decide +kernel
theorem dX4_addWay_1 : decode cX4_addWay 1 = .ok (.getfield 46, 3) := by decide +kernel
theorem dX4_addWay_4 : decode cX4_addWay 4 = .ok (.istore_n 3, 1) := by decide +kernel
theorem dX4_addWay_5 : decode cX4_addWay 5 = .ok (.aload_n 0, 1) := by decide +kernel
theorem dX4_addWay_6 : decode cX4_addWay 6 = .ok (.getfield 21, 3) := by decide +kernel
theorem dX4_addWay_9 : decode cX4_addWay 9 = .ok (.iload_n 3, 1) := by decide +kernel
theorem dX4_addWay_10 : decode cX4_addWay 10 = .ok (.iload_n 1, 1) := by decide +kernel
theorem dX4_addWay_11 : decode cX4_addWay 11 = .ok (.iastore, 1) := by decide +kernel
theorem dX4_addWay_12 : decode cX4_addWay 12 = .ok (.aload_n 0, 1) := by decide +kernel
theorem dX4_addWay_13 : decode cX4_addWay 13 = .ok (.getfield 24, 3) := by decide +kernel
theorem dX4_addWay_16 : decode cX4_addWay 16 = .ok (.iload_n 3, 1) := by decide +kernel
theorem dX4_addWay_17 : decode cX4_addWay 17 = .ok (.iload_n 2, 1) := by decide +kernel
theorem dX4_addWay_18 : decode cX4_addWay 18 = .ok (.iastore, 1) := by decide +kernel
theorem dX4_addWay_19 : decode cX4_addWay 19 = .ok (.aload_n 0, 1) := by decide +kernel
theorem dX4_addWay_20 : decode cX4_addWay 20 = .ok (.getfield 30, 3) := by decide +kernel
theorem dX4_addWay_23 : decode cX4_addWay 23 = .ok (.iload_n 3, 1) := by decide +kernel
theorem dX4_addWay_24 : decode cX4_addWay 24 = .ok (.iconst 0, 1) := by decide +kernel
theorem dX4_addWay_25 : decode cX4_addWay 25 = .ok (.iastore, 1) := by decide +kernel
theorem dX4_addWay_26 : decode cX4_addWay 26 = .ok (.aload_n 0, 1) := by decide +kernel
theorem dX4_addWay_27 : decode cX4_addWay 27 = .ok (.getfield 33, 3) := by decide +kernel
theorem dX4_addWay_30 : decode cX4_addWay 30 = .ok (.iload_n 3, 1) := by decide +kernel
theorem dX4_addWay_31 : decode cX4_addWay 31 = .ok (.iconst 0, 1) := by decide +kernel
theorem dX4_addWay_32 : decode cX4_addWay 32 = .ok (.iastore, 1) := by decide +kernel
theorem dX4_addWay_33 : decode cX4_addWay 33 = .ok (.aload_n 0, 1) := by decide +kernel
theorem dX4_addWay_34 : decode cX4_addWay 34 = .ok (.getfield 36, 3) := by decide +kernel
theorem dX4_addWay_37 : decode cX4_addWay 37 = .ok (.iload_n 3, 1) := by decide +kernel
theorem dX4_addWay_38 : decode cX4_addWay 38 = .ok (.iconst 0, 1) := by decide +kernel
theorem dX4_addWay_39 : decode cX4_addWay 39 = .ok (.iastore, 1) := by decide +kernel
theorem dX4_addWay_40 : decode cX4_addWay 40 = .ok (.iconst 0, 1) := by decide +kernel
theorem dX4_addWay_41 : decode cX4_addWay 41 = .ok (.istore 4, 2) := by decide +kernel
theorem dX4_addWay_43 : decode cX4_addWay 43 = .ok (.iload 4, 2) := by decide +kernel
theorem dX4_addWay_45 : decode cX4_addWay 45 = .ok (.bipush 8, 2) := by decide +kernel
theorem dX4_addWay_47 : decode cX4_addWay 47 = .ok (.if_icmp .ge 23, 3) := by decide +kernel
theorem dX4_addWay_50 : decode cX4_addWay 50 = .ok (.aload_n 0, 1) := by decide +kernel
theorem dX4_addWay_51 : decode cX4_addWay 51 = .ok (.getfield 27, 3) := by decide +kernel
theorem dX4_addWay_54 : decode cX4_addWay 54 = .ok (.iload_n 3, 1) := by decide +kernel
theorem dX4_addWay_55 : decode cX4_addWay 55 = .ok (.bipush 8, 2) := by decide +kernel
theorem dX4_addWay_57 : decode cX4_addWay 57 = .ok (.imul, 1) := by decide +kernel
theorem dX4_addWay_58 : decode cX4_addWay 58 = .ok (.iload 4, 2) := by decide +kernel
theorem dX4_addWay_60 : decode cX4_addWay 60 = .ok (.iadd, 1) := by decide +kernel
theorem dX4_addWay_61 : decode cX4_addWay 61 = .ok (.iload 4, 2) := by decide +kernel
theorem dX4_addWay_63 : decode cX4_addWay 63 = .ok (.iastore, 1) := by decide +kernel
theorem dX4_addWay_64 : decode cX4_addWay 64 = .ok (.iinc 4 1, 3) := by decide +kernel
theorem dX4_addWay_67 : decode cX4_addWay 67 = .ok (.goto (-24), 3) := by decide +kernel
theorem dX4_addWay_70 : decode cX4_addWay 70 = .ok (.aload_n 0, 1) := by decide +kernel
theorem dX4_addWay_71 : decode cX4_addWay 71 = .ok (.dup, 1) := by decide +kernel
theorem dX4_addWay_72 : decode cX4_addWay 72 = .ok (.getfield 46, 3) := by decide +kernel
theorem dX4_addWay_75 : decode cX4_addWay 75 = .ok (.iconst 1, 1) := by decide +kernel
theorem dX4_addWay_76 : decode cX4_addWay 76 = .ok (.iadd, 1) := by decide +kernel
theorem dX4_addWay_77 : decode cX4_addWay 77 = .ok (.putfield 46, 3) := by decide +kernel
theorem dX4_addWay_80 : decode cX4_addWay 80 = .ok (.iload_n 3, 1) := by decide +kernel
theorem dX4_addWay_81 : decode cX4_addWay 81 = .ok (.ireturn, 1) := by decide +kernel
theorem dX4_removeWay_0 : decode cX4_removeWay 0 = .ok (.aload_n 0, 1) := by decide +kernel
theorem dX4_removeWay_1 : decode cX4_removeWay 1 = .ok (.getfield 46, 3) := by decide +kernel
theorem dX4_removeWay_4 : decode cX4_removeWay 4 = .ok (.iload_n 1, 1) := by decide +kernel
theorem dX4_removeWay_5 : decode cX4_removeWay 5 = .ok (.isub, 1) := by decide +kernel
theorem dX4_removeWay_6 : decode cX4_removeWay 6 = .ok (.iconst 1, 1) := by decide +kernel
theorem dX4_removeWay_7 : decode cX4_removeWay 7 = .ok (.isub, 1) := by decide +kernel
theorem dX4_removeWay_8 : decode cX4_removeWay 8 = .ok (.istore_n 2, 1) := by decide +kernel
theorem dX4_removeWay_9 : decode cX4_removeWay 9 = .ok (.aload_n 0, 1) := by decide +kernel
theorem dX4_removeWay_10 : decode cX4_removeWay 10 = .ok (.getfield 21, 3) := by decide +kernel
theorem dX4_removeWay_13 : decode cX4_removeWay 13 = .ok (.iload_n 1, 1) := by decide +kernel
theorem dX4_removeWay_14 : decode cX4_removeWay 14 = .ok (.iconst 1, 1) := by decide +kernel
theorem dX4_removeWay_15 : decode cX4_removeWay 15 = .ok (.iadd, 1) := by decide +kernel
theorem dX4_removeWay_16 : decode cX4_removeWay 16 = .ok (.aload_n 0, 1) := by decide +kernel
theorem dX4_removeWay_17 : decode cX4_removeWay 17 = .ok (.getfield 21, 3) := by decide +kernel
theorem dX4_removeWay_20 : decode cX4_removeWay 20 = .ok (.iload_n 1, 1) := by decide +kernel
theorem dX4_removeWay_21 : decode cX4_removeWay 21 = .ok (.iload_n 2, 1) := by decide +kernel
theorem dX4_removeWay_22 : decode cX4_removeWay 22 = .ok (.invokestatic 49, 3) := by decide +kernel
theorem dX4_removeWay_25 : decode cX4_removeWay 25 = .ok (.aload_n 0, 1) := by decide +kernel
theorem dX4_removeWay_26 : decode cX4_removeWay 26 = .ok (.getfield 24, 3) := by decide +kernel
theorem dX4_removeWay_29 : decode cX4_removeWay 29 = .ok (.iload_n 1, 1) := by decide +kernel
theorem dX4_removeWay_30 : decode cX4_removeWay 30 = .ok (.iconst 1, 1) := by decide +kernel
theorem dX4_removeWay_31 : decode cX4_removeWay 31 = .ok (.iadd, 1) := by decide +kernel
theorem dX4_removeWay_32 : decode cX4_removeWay 32 = .ok (.aload_n 0, 1) := by decide +kernel
theorem dX4_removeWay_33 : decode cX4_removeWay 33 = .ok (.getfield 24, 3) := by decide +kernel
theorem dX4_removeWay_36 : decode cX4_removeWay 36 = .ok (.iload_n 1, 1) := by decide +kernel
theorem dX4_removeWay_37 : decode cX4_removeWay 37 = .ok (.iload_n 2, 1) := by decide +kernel
theorem dX4_removeWay_38 : decode cX4_removeWay 38 = .ok (.invokestatic 49, 3) := by decide +kernel
theorem dX4_removeWay_41 : decode cX4_removeWay 41 = .ok (.aload_n 0, 1) := by decide +kernel
theorem dX4_removeWay_42 : decode cX4_removeWay 42 = .ok (.getfield 30, 3) := by decide +kernel
theorem dX4_removeWay_45 : decode cX4_removeWay 45 = .ok (.iload_n 1, 1) := by decide +kernel
theorem dX4_removeWay_46 : decode cX4_removeWay 46 = .ok (.iconst 1, 1) := by decide +kernel
theorem dX4_removeWay_47 : decode cX4_removeWay 47 = .ok (.iadd, 1) := by decide +kernel
theorem dX4_removeWay_48 : decode cX4_removeWay 48 = .ok (.aload_n 0, 1) := by decide +kernel
theorem dX4_removeWay_49 : decode cX4_removeWay 49 = .ok (.getfield 30, 3) := by decide +kernel
theorem dX4_removeWay_52 : decode cX4_removeWay 52 = .ok (.iload_n 1, 1) := by decide +kernel
theorem dX4_removeWay_53 : decode cX4_removeWay 53 = .ok (.iload_n 2, 1) := by decide +kernel
theorem dX4_removeWay_54 : decode cX4_removeWay 54 = .ok (.invokestatic 49, 3) := by decide +kernel
theorem dX4_removeWay_57 : decode cX4_removeWay 57 = .ok (.aload_n 0, 1) := by decide +kernel
theorem dX4_removeWay_58 : decode cX4_removeWay 58 = .ok (.getfield 33, 3) := by decide +kernel
theorem dX4_removeWay_61 : decode cX4_removeWay 61 = .ok (.iload_n 1, 1) := by decide +kernel
theorem dX4_removeWay_62 : decode cX4_removeWay 62 = .ok (.iconst 1, 1) := by decide +kernel
theorem dX4_removeWay_63 : decode cX4_removeWay 63 = .ok (.iadd, 1) := by decide +kernel
theorem dX4_removeWay_64 : decode cX4_removeWay 64 = .ok (.aload_n 0, 1) := by decide +kernel
theorem dX4_removeWay_65 : decode cX4_removeWay 65 = .ok (.getfield 33, 3) := by decide +kernel
theorem dX4_removeWay_68 : decode cX4_removeWay 68 = .ok (.iload_n 1, 1) := by decide +kernel
theorem dX4_removeWay_69 : decode cX4_removeWay 69 = .ok (.iload_n 2, 1) := by decide +kernel
theorem dX4_removeWay_70 : decode cX4_removeWay 70 = .ok (.invokestatic 49, 3) := by decide +kernel
theorem dX4_removeWay_73 : decode cX4_removeWay 73 = .ok (.aload_n 0, 1) := by decide +kernel
theorem dX4_removeWay_74 : decode cX4_removeWay 74 = .ok (.getfield 36, 3) := by decide +kernel
theorem dX4_removeWay_77 : decode cX4_removeWay 77 = .ok (.iload_n 1, 1) := by decide +kernel
theorem dX4_removeWay_78 : decode cX4_removeWay 78 = .ok (.iconst 1, 1) := by decide +kernel
theorem dX4_removeWay_79 : decode cX4_removeWay 79 = .ok (.iadd, 1) := by decide +kernel
theorem dX4_removeWay_80 : decode cX4_removeWay 80 = .ok (.aload_n 0, 1) := by decide +kernel
theorem dX4_removeWay_81 : decode cX4_removeWay 81 = .ok (.getfield 36, 3) := by decide +kernel
theorem dX4_removeWay_84 : decode cX4_removeWay 84 = .ok (.iload_n 1, 1) := by decide +kernel
theorem dX4_removeWay_85 : decode cX4_removeWay 85 = .ok (.iload_n 2, 1) := by decide +kernel
theorem dX4_removeWay_86 : decode cX4_removeWay 86 = .ok (.invokestatic 49, 3) := by decide +kernel
theorem dX4_removeWay_89 : decode cX4_removeWay 89 = .ok (.aload_n 0, 1) := by decide +kernel
theorem dX4_removeWay_90 : decode cX4_removeWay 90 = .ok (.getfield 27, 3) := by decide +kernel
theorem dX4_removeWay_93 : decode cX4_removeWay 93 = .ok (.iload_n 1, 1) := by decide +kernel
theorem dX4_removeWay_94 : decode cX4_removeWay 94 = .ok (.iconst 1, 1) := by decide +kernel
theorem dX4_removeWay_95 : decode cX4_removeWay 95 = .ok (.iadd, 1) := by decide +kernel
theorem dX4_removeWay_96 : decode cX4_removeWay 96 = .ok (.bipush 8, 2) := by decide +kernel
theorem dX4_removeWay_98 : decode cX4_removeWay 98 = .ok (.imul, 1) := by decide +kernel
theorem dX4_removeWay_99 : decode cX4_removeWay 99 = .ok (.aload_n 0, 1) := by decide +kernel
theorem dX4_removeWay_100 : decode cX4_removeWay 100 = .ok (.getfield 27, 3) := by decide +kernel
theorem dX4_removeWay_103 : decode cX4_removeWay 103 = .ok (.iload_n 1, 1) := by decide +kernel
theorem dX4_removeWay_104 : decode cX4_removeWay 104 = .ok (.bipush 8, 2) := by decide +kernel
theorem dX4_removeWay_106 : decode cX4_removeWay 106 = .ok (.imul, 1) := by decide +kernel
theorem dX4_removeWay_107 : decode cX4_removeWay 107 = .ok (.iload_n 2, 1) := by decide +kernel
theorem dX4_removeWay_108 : decode cX4_removeWay 108 = .ok (.bipush 8, 2) := by decide +kernel
theorem dX4_removeWay_110 : decode cX4_removeWay 110 = .ok (.imul, 1) := by decide +kernel
theorem dX4_removeWay_111 : decode cX4_removeWay 111 = .ok (.invokestatic 49, 3) := by decide +kernel
theorem dX4_removeWay_114 : decode cX4_removeWay 114 = .ok (.aload_n 0, 1) := by decide +kernel
theorem dX4_removeWay_115 : decode cX4_removeWay 115 = .ok (.dup, 1) := by decide +kernel
theorem dX4_removeWay_116 : decode cX4_removeWay 116 = .ok (.getfield 46, 3) := by decide +kernel
theorem dX4_removeWay_119 : decode cX4_removeWay 119 = .ok (.iconst 1, 1) := by decide +kernel
theorem dX4_removeWay_120 : decode cX4_removeWay 120 = .ok (.isub, 1) := by decide +kernel
theorem dX4_removeWay_121 : decode cX4_removeWay 121 = .ok (.putfield 46, 3) := by decide +kernel
theorem dX4_removeWay_124 : decode cX4_removeWay 124 = .ok (.return_, 1) := by decide +kernel
theorem dX5_init_0 : decode cX5_init 0 = .ok (.aload_n 0, 1) := by decide +kernel
theorem dX5_init_1 : decode cX5_init 1 = .ok (.invokespecial 3, 3) := by decide +kernel
theorem dX5_init_4 : decode cX5_init 4 = .ok (.aload_n 0, 1) := by decide +kernel
theorem dX5_init_5 : decode cX5_init 5 = .ok (.bipush 10, 2) := by decide +kernel
theorem dX5_init_7 : decode cX5_init 7 = .ok (.newarray .int, 2) := by decide +kernel
theorem dX5_init_9 : decode cX5_init 9 = .ok (.putfield 9, 3) := by decide +kernel
theorem dX5_init_12 : decode cX5_init 12 = .ok (.aload_n 0, 1) := by decide +kernel
theorem dX5_init_13 : decode cX5_init 13 = .ok (.bipush 10, 2) := by decide +kernel
theorem dX5_init_15 : decode cX5_init 15 = .ok (.newarray .int, 2) := by decide +kernel
theorem dX5_init_17 : decode cX5_init 17 = .ok (.putfield 15, 3) := by decide +kernel
theorem dX5_init_20 : decode cX5_init 20 = .ok (.return_, 1) := by decide +kernel
theorem dX5_run_0 : decode cX5_run 0 = .ok (.aload_n 0, 1) := by decide +kernel
theorem dX5_run_1 : decode cX5_run 1 = .ok (.aload_n 1, 1) := by decide +kernel
theorem dX5_run_2 : decode cX5_run 2 = .ok (.getfield 18, 3) := by decide +kernel
theorem dX5_run_5 : decode cX5_run 5 = .ok (.putfield 24, 3) := by decide +kernel
theorem dX5_run_8 : decode cX5_run 8 = .ok (.iconst 0, 1) := by decide +kernel
theorem dX5_run_9 : decode cX5_run 9 = .ok (.istore 4, 2) := by decide +kernel
theorem dX5_run_11 : decode cX5_run 11 = .ok (.iload 4, 2) := by decide +kernel
theorem dX5_run_13 : decode cX5_run 13 = .ok (.aload_n 1, 1) := by decide +kernel
theorem dX5_run_14 : decode cX5_run 14 = .ok (.getfield 18, 3) := by decide +kernel
theorem dX5_run_17 : decode cX5_run 17 = .ok (.if_icmp .ge 26, 3) := by decide +kernel
theorem dX5_run_20 : decode cX5_run 20 = .ok (.aload_n 0, 1) := by decide +kernel
theorem dX5_run_21 : decode cX5_run 21 = .ok (.getfield 9, 3) := by decide +kernel
theorem dX5_run_24 : decode cX5_run 24 = .ok (.iload 4, 2) := by decide +kernel
theorem dX5_run_26 : decode cX5_run 26 = .ok (.iconst 0, 1) := by decide +kernel
theorem dX5_run_27 : decode cX5_run 27 = .ok (.iastore, 1) := by decide +kernel
theorem dX5_run_28 : decode cX5_run 28 = .ok (.aload_n 0, 1) := by decide +kernel
theorem dX5_run_29 : decode cX5_run 29 = .ok (.getfield 15, 3) := by decide +kernel
theorem dX5_run_32 : decode cX5_run 32 = .ok (.iload 4, 2) := by decide +kernel
theorem dX5_run_34 : decode cX5_run 34 = .ok (.iload 4, 2) := by decide +kernel
theorem dX5_run_36 : decode cX5_run 36 = .ok (.iastore, 1) := by decide +kernel
theorem dX5_run_37 : decode cX5_run 37 = .ok (.iinc 4 1, 3) := by decide +kernel
theorem dX5_run_40 : decode cX5_run 40 = .ok (.goto (-29), 3) := by decide +kernel
theorem dX5_run_43 : decode cX5_run 43 = .ok (.iconst 0, 1) := by decide +kernel
theorem dX5_run_44 : decode cX5_run 44 = .ok (.istore 4, 2) := by decide +kernel
theorem dX5_run_46 : decode cX5_run 46 = .ok (.aload_n 0, 1) := by decide +kernel
theorem dX5_run_47 : decode cX5_run 47 = .ok (.getfield 24, 3) := by decide +kernel
theorem dX5_run_50 : decode cX5_run 50 = .ok (.ifCond .le 66, 3) := by decide +kernel
theorem dX5_run_53 : decode cX5_run 53 = .ok (.iload 4, 2) := by decide +kernel
theorem dX5_run_55 : decode cX5_run 55 = .ok (.sipush 2000, 3) := by decide +kernel
theorem dX5_run_58 : decode cX5_run 58 = .ok (.if_icmp .ge 58, 3) := by decide +kernel
theorem dX5_run_61 : decode cX5_run 61 = .ok (.iinc 4 1, 3) := by decide +kernel
theorem dX5_run_64 : decode cX5_run 64 = .ok (.aload_n 0, 1) := by decide +kernel
theorem dX5_run_65 : decode cX5_run 65 = .ok (.iload_n 2, 1) := by decide +kernel
theorem dX5_run_66 : decode cX5_run 66 = .ok (.invokevirtual 27, 3) := by decide +kernel
theorem dX5_run_69 : decode cX5_run 69 = .ok (.istore 5, 2) := by decide +kernel
theorem dX5_run_71 : decode cX5_run 71 = .ok (.aload_n 1, 1) := by decide +kernel
theorem dX5_run_72 : decode cX5_run 72 = .ok (.iload 5, 2) := by decide +kernel
theorem dX5_run_74 : decode cX5_run 74 = .ok (.aload_n 0, 1) := by decide +kernel
theorem dX5_run_75 : decode cX5_run 75 = .ok (.getfield 9, 3) := by decide +kernel
theorem dX5_run_78 : decode cX5_run 78 = .ok (.iload_n 3, 1) := by decide +kernel
theorem dX5_run_79 : decode cX5_run 79 = .ok (.invokevirtual 31, 3) := by decide +kernel
theorem dX5_run_82 : decode cX5_run 82 = .ok (.istore 6, 2) := by decide +kernel
theorem dX5_run_84 : decode cX5_run 84 = .ok (.iload 6, 2) := by decide +kernel
theorem dX5_run_86 : decode cX5_run 86 = .ok (.aload_n 0, 1) := by decide +kernel
theorem dX5_run_87 : decode cX5_run 87 = .ok (.getfield 9, 3) := by decide +kernel
theorem dX5_run_90 : decode cX5_run 90 = .ok (.iload 5, 2) := by decide +kernel
theorem dX5_run_92 : decode cX5_run 92 = .ok (.iaload, 1) := by decide +kernel
theorem dX5_run_93 : decode cX5_run 93 = .ok (.if_icmp .eq 20, 3) := by decide +kernel
theorem dX5_run_96 : decode cX5_run 96 = .ok (.aload_n 0, 1) := by decide +kernel
theorem dX5_run_97 : decode cX5_run 97 = .ok (.getfield 9, 3) := by decide +kernel
theorem dX5_run_100 : decode cX5_run 100 = .ok (.iload 5, 2) := by decide +kernel
theorem dX5_run_102 : decode cX5_run 102 = .ok (.iload 6, 2) := by decide +kernel
theorem dX5_run_104 : decode cX5_run 104 = .ok (.iastore, 1) := by decide +kernel
theorem dX5_run_105 : decode cX5_run 105 = .ok (.aload_n 0, 1) := by decide +kernel
theorem dX5_run_106 : decode cX5_run 106 = .ok (.aload_n 1, 1) := by decide +kernel
theorem dX5_run_107 : decode cX5_run 107 = .ok (.iload 5, 2) := by decide +kernel
theorem dX5_run_109 : decode cX5_run 109 = .ok (.iload_n 3, 1) := by decide +kernel
theorem dX5_run_110 : decode cX5_run 110 = .ok (.invokevirtual 35, 3) := by decide +kernel
theorem dX5_run_113 : decode cX5_run 113 = .ok (.goto (-67), 3) := by decide +kernel
theorem dX5_run_116 : decode cX5_run 116 = .ok (.aload_n 0, 1) := by decide +kernel
theorem dX5_run_117 : decode cX5_run 117 = .ok (.getfield 24, 3) := by decide +kernel
theorem dX5_run_120 : decode cX5_run 120 = .ok (.ifCond .le 7, 3) := by decide +kernel
theorem dX5_run_123 : decode cX5_run 123 = .ok (.iconst (-1), 1) := by decide +kernel
theorem dX5_run_124 : decode cX5_run 124 = .ok (.goto 5, 3) := by decide +kernel
theorem dX5_run_127 : decode cX5_run 127 = .ok (.iload 4, 2) := by decide +kernel
theorem dX5_run_129 : decode cX5_run 129 = .ok (.ireturn, 1) := by decide +kernel
theorem dX5_takeNext_0 : decode cX5_takeNext 0 = .ok (.iload_n 1, 1) := by decide +kernel
theorem dX5_takeNext_1 : decode cX5_takeNext 1 = .ok (.ifCond .ne 10, 3) := by decide +kernel
theorem dX5_takeNext_4 : decode cX5_takeNext 4 = .ok (.aload_n 0, 1) := by decide +kernel
theorem dX5_takeNext_5 : decode cX5_takeNext 5 = .ok (.invokevirtual 39, 3) := by decide +kernel
theorem dX5_takeNext_8 : decode cX5_takeNext 8 = .ok (.goto 18, 3) := by decide +kernel
theorem dX5_takeNext_11 : decode cX5_takeNext 11 = .ok (.iload_n 1, 1) := by decide +kernel
theorem dX5_takeNext_12 : decode cX5_takeNext 12 = .ok (.iconst 1, 1) := by decide +kernel
theorem dX5_takeNext_13 : decode cX5_takeNext 13 = .ok (.if_icmp .ne 7, 3) := by decide +kernel
theorem dX5_takeNext_16 : decode cX5_takeNext 16 = .ok (.iconst 0, 1) := by decide +kernel
theorem dX5_takeNext_17 : decode cX5_takeNext 17 = .ok (.goto 9, 3) := by decide +kernel
theorem dX5_takeNext_20 : decode cX5_takeNext 20 = .ok (.aload_n 0, 1) := by decide +kernel
theorem dX5_takeNext_21 : decode cX5_takeNext 21 = .ok (.getfield 24, 3) := by decide +kernel
theorem dX5_takeNext_24 : decode cX5_takeNext 24 = .ok (.iconst 1, 1) := by decide +kernel
theorem dX5_takeNext_25 : decode cX5_takeNext 25 = .ok (.isub, 1) := by decide +kernel
theorem dX5_takeNext_26 : decode cX5_takeNext 26 = .ok (.istore_n 2, 1) := by decide +kernel
theorem dX5_takeNext_27 : decode cX5_takeNext 27 = .ok (.aload_n 0, 1) := by decide +kernel
theorem dX5_takeNext_28 : decode cX5_takeNext 28 = .ok (.getfield 15, 3) := by decide +kernel
theorem dX5_takeNext_31 : decode cX5_takeNext 31 = .ok (.iload_n 2, 1) := by decide +kernel
theorem dX5_takeNext_32 : decode cX5_takeNext 32 = .ok (.iaload, 1) := by decide +kernel
theorem dX5_takeNext_33 : decode cX5_takeNext 33 = .ok (.istore_n 3, 1) := by decide +kernel
theorem dX5_takeNext_34 : decode cX5_takeNext 34 = .ok (.aload_n 0, 1) := by decide +kernel
theorem dX5_takeNext_35 : decode cX5_takeNext 35 = .ok (.dup, 1) := by decide +kernel
theorem dX5_takeNext_36 : decode cX5_takeNext 36 = .ok (.getfield 24, 3) := by decide +kernel
theorem dX5_takeNext_39 : decode cX5_takeNext 39 = .ok (.iconst 1, 1) := by decide +kernel
theorem dX5_takeNext_40 : decode cX5_takeNext 40 = .ok (.isub, 1) := by decide +kernel
theorem dX5_takeNext_41 : decode cX5_takeNext 41 = .ok (.putfield 24, 3) := by decide +kernel
theorem dX5_takeNext_44 : decode cX5_takeNext 44 = .ok (.iload_n 2, 1) := by decide +kernel
theorem dX5_takeNext_45 : decode cX5_takeNext 45 = .ok (.istore 4, 2) := by decide +kernel
theorem dX5_takeNext_47 : decode cX5_takeNext 47 = .ok (.iload 4, 2) := by decide +kernel
theorem dX5_takeNext_49 : decode cX5_takeNext 49 = .ok (.aload_n 0, 1) := by decide +kernel
theorem dX5_takeNext_50 : decode cX5_takeNext 50 = .ok (.getfield 24, 3) := by decide +kernel
theorem dX5_takeNext_53 : decode cX5_takeNext 53 = .ok (.if_icmp .ge 25, 3) := by decide +kernel
theorem dX5_takeNext_56 : decode cX5_takeNext 56 = .ok (.aload_n 0, 1) := by decide +kernel
theorem dX5_takeNext_57 : decode cX5_takeNext 57 = .ok (.getfield 15, 3) := by decide +kernel
theorem dX5_takeNext_60 : decode cX5_takeNext 60 = .ok (.iload 4, 2) := by decide +kernel
theorem dX5_takeNext_62 : decode cX5_takeNext 62 = .ok (.aload_n 0, 1) := by decide +kernel
theorem dX5_takeNext_63 : decode cX5_takeNext 63 = .ok (.getfield 15, 3) := by decide +kernel
theorem dX5_takeNext_66 : decode cX5_takeNext 66 = .ok (.iload 4, 2) := by decide +kernel
theorem dX5_takeNext_68 : decode cX5_takeNext 68 = .ok (.iconst 1, 1) := by decide +kernel
theorem dX5_takeNext_69 : decode cX5_takeNext 69 = .ok (.iadd, 1) := by decide +kernel
theorem dX5_takeNext_70 : decode cX5_takeNext 70 = .ok (.iaload, 1) := by decide +kernel
theorem dX5_takeNext_71 : decode cX5_takeNext 71 = .ok (.iastore, 1) := by decide +kernel
theorem dX5_takeNext_72 : decode cX5_takeNext 72 = .ok (.iinc 4 1, 3) := by decide +kernel
theorem dX5_takeNext_75 : decode cX5_takeNext 75 = .ok (.goto (-28), 3) := by decide +kernel
theorem dX5_takeNext_78 : decode cX5_takeNext 78 = .ok (.iload_n 3, 1) := by decide +kernel
theorem dX5_takeNext_79 : decode cX5_takeNext 79 = .ok (.ireturn, 1) := by decide +kernel
theorem dX5_leastWaiting_0 : decode cX5_leastWaiting 0 = .ok (.iconst 0, 1) := by decide +kernel
theorem dX5_leastWaiting_1 : decode cX5_leastWaiting 1 = .ok (.istore_n 1, 1) := by decide +kernel
theorem dX5_leastWaiting_2 : decode cX5_leastWaiting 2 = .ok (.iconst 1, 1) := by decide +kernel
theorem dX5_leastWaiting_3 : decode cX5_leastWaiting 3 = .ok (.istore_n 2, 1) := by decide +kernel
theorem dX5_leastWaiting_4 : decode cX5_leastWaiting 4 = .ok (.iload_n 2, 1) := by decide +kernel
theorem dX5_leastWaiting_5 : decode cX5_leastWaiting 5 = .ok (.aload_n 0, 1) := by decide +kernel
theorem dX5_leastWaiting_6 : decode cX5_leastWaiting 6 = .ok (.getfield 24, 3) := by decide +kernel
theorem dX5_leastWaiting_9 : decode cX5_leastWaiting 9 = .ok (.if_icmp .ge 26, 3) := by decide +kernel
theorem dX5_leastWaiting_12 : decode cX5_leastWaiting 12 = .ok (.aload_n 0, 1) := by decide +kernel
theorem dX5_leastWaiting_13 : decode cX5_leastWaiting 13 = .ok (.getfield 15, 3) := by decide +kernel
theorem dX5_leastWaiting_16 : decode cX5_leastWaiting 16 = .ok (.iload_n 2, 1) := by decide +kernel
theorem dX5_leastWaiting_17 : decode cX5_leastWaiting 17 = .ok (.iaload, 1) := by decide +kernel
theorem dX5_leastWaiting_18 : decode cX5_leastWaiting 18 = .ok (.aload_n 0, 1) := by decide +kernel
theorem dX5_leastWaiting_19 : decode cX5_leastWaiting 19 = .ok (.getfield 15, 3) := by decide +kernel
theorem dX5_leastWaiting_22 : decode cX5_leastWaiting 22 = .ok (.iload_n 1, 1) := by decide +kernel
theorem dX5_leastWaiting_23 : decode cX5_leastWaiting 23 = .ok (.iaload, 1) := by decide +kernel
theorem dX5_leastWaiting_24 : decode cX5_leastWaiting 24 = .ok (.if_icmp .ge 5, 3) := by decide +kernel
theorem dX5_leastWaiting_27 : decode cX5_leastWaiting 27 = .ok (.iload_n 2, 1) := by decide +kernel
theorem dX5_leastWaiting_28 : decode cX5_leastWaiting 28 = .ok (.istore_n 1, 1) := by decide +kernel
theorem dX5_leastWaiting_29 : decode cX5_leastWaiting 29 = .ok (.iinc 2 1, 3) := by decide +kernel
theorem dX5_leastWaiting_32 : decode cX5_leastWaiting 32 = .ok (.goto (-28), 3) := by decide +kernel
theorem dX5_leastWaiting_35 : decode cX5_leastWaiting 35 = .ok (.iload_n 1, 1) := by decide +kernel
theorem dX5_leastWaiting_36 : decode cX5_leastWaiting 36 = .ok (.ireturn, 1) := by decide +kernel
theorem dX5_wakeBehind_0 : decode cX5_wakeBehind 0 = .ok (.iconst 0, 1) := by decide +kernel
theorem dX5_wakeBehind_1 : decode cX5_wakeBehind 1 = .ok (.istore 4, 2) := by decide +kernel
theorem dX5_wakeBehind_3 : decode cX5_wakeBehind 3 = .ok (.iload 4, 2) := by decide +kernel
theorem dX5_wakeBehind_5 : decode cX5_wakeBehind 5 = .ok (.aload_n 1, 1) := by decide +kernel
theorem dX5_wakeBehind_6 : decode cX5_wakeBehind 6 = .ok (.getfield 43, 3) := by decide +kernel
theorem dX5_wakeBehind_9 : decode cX5_wakeBehind 9 = .ok (.if_icmp .ge 75, 3) := by decide +kernel
theorem dX5_wakeBehind_12 : decode cX5_wakeBehind 12 = .ok (.aload_n 1, 1) := by decide +kernel
theorem dX5_wakeBehind_13 : decode cX5_wakeBehind 13 = .ok (.getfield 46, 3) := by decide +kernel
theorem dX5_wakeBehind_16 : decode cX5_wakeBehind 16 = .ok (.iload 4, 2) := by decide +kernel
theorem dX5_wakeBehind_18 : decode cX5_wakeBehind 18 = .ok (.iaload, 1) := by decide +kernel
theorem dX5_wakeBehind_19 : decode cX5_wakeBehind 19 = .ok (.iload_n 2, 1) := by decide +kernel
theorem dX5_wakeBehind_20 : decode cX5_wakeBehind 20 = .ok (.if_icmp .ne 58, 3) := by decide +kernel
theorem dX5_wakeBehind_23 : decode cX5_wakeBehind 23 = .ok (.iload 4, 2) := by decide +kernel
theorem dX5_wakeBehind_25 : decode cX5_wakeBehind 25 = .ok (.iload_n 3, 1) := by decide +kernel
theorem dX5_wakeBehind_26 : decode cX5_wakeBehind 26 = .ok (.if_icmp .eq 52, 3) := by decide +kernel
theorem dX5_wakeBehind_29 : decode cX5_wakeBehind 29 = .ok (.aload_n 0, 1) := by decide +kernel
theorem dX5_wakeBehind_30 : decode cX5_wakeBehind 30 = .ok (.aload_n 1, 1) := by decide +kernel
theorem dX5_wakeBehind_31 : decode cX5_wakeBehind 31 = .ok (.getfield 49, 3) := by decide +kernel
theorem dX5_wakeBehind_34 : decode cX5_wakeBehind 34 = .ok (.iload 4, 2) := by decide +kernel
theorem dX5_wakeBehind_36 : decode cX5_wakeBehind 36 = .ok (.iaload, 1) := by decide +kernel
theorem dX5_wakeBehind_37 : decode cX5_wakeBehind 37 = .ok (.invokevirtual 52, 3) := by decide +kernel
theorem dX5_wakeBehind_40 : decode cX5_wakeBehind 40 = .ok (.ifCond .ne 38, 3) := by decide +kernel
theorem dX5_wakeBehind_43 : decode cX5_wakeBehind 43 = .ok (.aload_n 0, 1) := by decide +kernel
theorem dX5_wakeBehind_44 : decode cX5_wakeBehind 44 = .ok (.getfield 24, 3) := by decide +kernel
theorem dX5_wakeBehind_47 : decode cX5_wakeBehind 47 = .ok (.bipush 10, 2) := by decide +kernel
theorem dX5_wakeBehind_49 : decode cX5_wakeBehind 49 = .ok (.if_icmp .ge 29, 3) := by decide +kernel
theorem dX5_wakeBehind_52 : decode cX5_wakeBehind 52 = .ok (.aload_n 0, 1) := by decide +kernel
theorem dX5_wakeBehind_53 : decode cX5_wakeBehind 53 = .ok (.getfield 15, 3) := by decide +kernel
theorem dX5_wakeBehind_56 : decode cX5_wakeBehind 56 = .ok (.aload_n 0, 1) := by decide +kernel
theorem dX5_wakeBehind_57 : decode cX5_wakeBehind 57 = .ok (.getfield 24, 3) := by decide +kernel
theorem dX5_wakeBehind_60 : decode cX5_wakeBehind 60 = .ok (.aload_n 1, 1) := by decide +kernel
theorem dX5_wakeBehind_61 : decode cX5_wakeBehind 61 = .ok (.getfield 49, 3) := by decide +kernel
theorem dX5_wakeBehind_64 : decode cX5_wakeBehind 64 = .ok (.iload 4, 2) := by decide +kernel
theorem dX5_wakeBehind_66 : decode cX5_wakeBehind 66 = .ok (.iaload, 1) := by decide +kernel
theorem dX5_wakeBehind_67 : decode cX5_wakeBehind 67 = .ok (.iastore, 1) := by decide +kernel
theorem dX5_wakeBehind_68 : decode cX5_wakeBehind 68 = .ok (.aload_n 0, 1) := by decide +kernel
theorem dX5_wakeBehind_69 : decode cX5_wakeBehind 69 = .ok (.dup, 1) := by decide +kernel
theorem dX5_wakeBehind_70 : decode cX5_wakeBehind 70 = .ok (.getfield 24, 3) := by decide +kernel
theorem dX5_wakeBehind_73 : decode cX5_wakeBehind 73 = .ok (.iconst 1, 1) := by decide +kernel
theorem dX5_wakeBehind_74 : decode cX5_wakeBehind 74 = .ok (.iadd, 1) := by decide +kernel
theorem dX5_wakeBehind_75 : decode cX5_wakeBehind 75 = .ok (.putfield 24, 3) := by decide +kernel
theorem dX5_wakeBehind_78 : decode cX5_wakeBehind 78 = .ok (.iinc 4 1, 3) := by decide +kernel
theorem dX5_wakeBehind_81 : decode cX5_wakeBehind 81 = .ok (.goto (-78), 3) := by decide +kernel
theorem dX5_wakeBehind_84 : decode cX5_wakeBehind 84 = .ok (.return_, 1) := by decide +kernel
theorem dX5_isWaiting_0 : decode cX5_isWaiting 0 = .ok (.iconst 0, 1) := by decide +kernel
theorem dX5_isWaiting_1 : decode cX5_isWaiting 1 = .ok (.istore_n 2, 1) := by decide +kernel
theorem dX5_isWaiting_2 : decode cX5_isWaiting 2 = .ok (.iload_n 2, 1) := by decide +kernel
theorem dX5_isWaiting_3 : decode cX5_isWaiting 3 = .ok (.aload_n 0, 1) := by decide +kernel
theorem dX5_isWaiting_4 : decode cX5_isWaiting 4 = .ok (.getfield 24, 3) := by decide +kernel
theorem dX5_isWaiting_7 : decode cX5_isWaiting 7 = .ok (.if_icmp .ge 21, 3) := by decide +kernel
theorem dX5_isWaiting_10 : decode cX5_isWaiting 10 = .ok (.aload_n 0, 1) := by decide +kernel
theorem dX5_isWaiting_11 : decode cX5_isWaiting 11 = .ok (.getfield 15, 3) := by decide +kernel
theorem dX5_isWaiting_14 : decode cX5_isWaiting 14 = .ok (.iload_n 2, 1) := by decide +kernel
theorem dX5_isWaiting_15 : decode cX5_isWaiting 15 = .ok (.iaload, 1) := by decide +kernel
theorem dX5_isWaiting_16 : decode cX5_isWaiting 16 = .ok (.iload_n 1, 1) := by decide +kernel
theorem dX5_isWaiting_17 : decode cX5_isWaiting 17 = .ok (.if_icmp .ne 5, 3) := by decide +kernel
theorem dX5_isWaiting_20 : decode cX5_isWaiting 20 = .ok (.iconst 1, 1) := by decide +kernel
theorem dX5_isWaiting_21 : decode cX5_isWaiting 21 = .ok (.ireturn, 1) := by decide +kernel
theorem dX5_isWaiting_22 : decode cX5_isWaiting 22 = .ok (.iinc 2 1, 3) := by decide +kernel
theorem dX5_isWaiting_25 : decode cX5_isWaiting 25 = .ok (.goto (-23), 3) := by decide +kernel
theorem dX5_isWaiting_28 : decode cX5_isWaiting 28 = .ok (.iconst 0, 1) := by decide +kernel
theorem dX5_isWaiting_29 : decode cX5_isWaiting 29 = .ok (.ireturn, 1) := by decide +kernel
theorem dX6_init_0 : decode cX6_init 0 = .ok (.aload_n 0, 1) := by decide +kernel
theorem dX6_init_1 : decode cX6_init 1 = .ok (.invokespecial 1, 3) := by decide +kernel
theorem dX6_init_4 : decode cX6_init 4 = .ok (.aload_n 0, 1) := by decide +kernel
theorem dX6_init_5 : decode cX6_init 5 = .ok (.new 7, 3) := by decide +kernel
theorem dX6_init_8 : decode cX6_init 8 = .ok (.dup, 1) := by decide +kernel
theorem dX6_init_9 : decode cX6_init 9 = .ok (.invokespecial 9, 3) := by decide +kernel
theorem dX6_init_12 : decode cX6_init 12 = .ok (.putfield 10, 3) := by decide +kernel
theorem dX6_init_15 : decode cX6_init 15 = .ok (.aload_n 0, 1) := by decide +kernel
theorem dX6_init_16 : decode cX6_init 16 = .ok (.new 16, 3) := by decide +kernel
theorem dX6_init_19 : decode cX6_init 19 = .ok (.dup, 1) := by decide +kernel
theorem dX6_init_20 : decode cX6_init 20 = .ok (.invokespecial 18, 3) := by decide +kernel
theorem dX6_init_23 : decode cX6_init 23 = .ok (.putfield 19, 3) := by decide +kernel
theorem dX6_init_26 : decode cX6_init 26 = .ok (.aload_n 0, 1) := by decide +kernel
theorem dX6_init_27 : decode cX6_init 27 = .ok (.new 23, 3) := by decide +kernel
theorem dX6_init_30 : decode cX6_init 30 = .ok (.dup, 1) := by decide +kernel
theorem dX6_init_31 : decode cX6_init 31 = .ok (.invokespecial 25, 3) := by decide +kernel
theorem dX6_init_34 : decode cX6_init 34 = .ok (.putfield 26, 3) := by decide +kernel
theorem dX6_init_37 : decode cX6_init 37 = .ok (.aload_n 0, 1) := by decide +kernel
theorem dX6_init_38 : decode cX6_init 38 = .ok (.new 23, 3) := by decide +kernel
theorem dX6_init_41 : decode cX6_init 41 = .ok (.dup, 1) := by decide +kernel
theorem dX6_init_42 : decode cX6_init 42 = .ok (.invokespecial 25, 3) := by decide +kernel
theorem dX6_init_45 : decode cX6_init 45 = .ok (.putfield 30, 3) := by decide +kernel
theorem dX6_init_48 : decode cX6_init 48 = .ok (.aload_n 0, 1) := by decide +kernel
theorem dX6_init_49 : decode cX6_init 49 = .ok (.new 33, 3) := by decide +kernel
theorem dX6_init_52 : decode cX6_init 52 = .ok (.dup, 1) := by decide +kernel
theorem dX6_init_53 : decode cX6_init 53 = .ok (.invokespecial 35, 3) := by decide +kernel
theorem dX6_init_56 : decode cX6_init 56 = .ok (.putfield 36, 3) := by decide +kernel
theorem dX6_init_59 : decode cX6_init 59 = .ok (.aload_n 0, 1) := by decide +kernel
theorem dX6_init_60 : decode cX6_init 60 = .ok (.new 40, 3) := by decide +kernel
theorem dX6_init_63 : decode cX6_init 63 = .ok (.dup, 1) := by decide +kernel
theorem dX6_init_64 : decode cX6_init 64 = .ok (.invokespecial 42, 3) := by decide +kernel
theorem dX6_init_67 : decode cX6_init 67 = .ok (.putfield 43, 3) := by decide +kernel
theorem dX6_init_70 : decode cX6_init 70 = .ok (.aload_n 0, 1) := by decide +kernel
theorem dX6_init_71 : decode cX6_init 71 = .ok (.new 40, 3) := by decide +kernel
theorem dX6_init_74 : decode cX6_init 74 = .ok (.dup, 1) := by decide +kernel
theorem dX6_init_75 : decode cX6_init 75 = .ok (.invokespecial 42, 3) := by decide +kernel
theorem dX6_init_78 : decode cX6_init 78 = .ok (.putfield 47, 3) := by decide +kernel
theorem dX6_init_81 : decode cX6_init 81 = .ok (.aload_n 0, 1) := by decide +kernel
theorem dX6_init_82 : decode cX6_init 82 = .ok (.new 50, 3) := by decide +kernel
theorem dX6_init_85 : decode cX6_init 85 = .ok (.dup, 1) := by decide +kernel
theorem dX6_init_86 : decode cX6_init 86 = .ok (.invokespecial 52, 3) := by decide +kernel
theorem dX6_init_89 : decode cX6_init 89 = .ok (.putfield 53, 3) := by decide +kernel
theorem dX6_init_92 : decode cX6_init 92 = .ok (.aload_n 0, 1) := by decide +kernel
theorem dX6_init_93 : decode cX6_init 93 = .ok (.getfield 10, 3) := by decide +kernel
theorem dX6_init_96 : decode cX6_init 96 = .ok (.iconst 0, 1) := by decide +kernel
theorem dX6_init_97 : decode cX6_init 97 = .ok (.iconst 4, 1) := by decide +kernel
theorem dX6_init_98 : decode cX6_init 98 = .ok (.iconst 4, 1) := by decide +kernel
theorem dX6_init_99 : decode cX6_init 99 = .ok (.invokevirtual 57, 3) := by decide +kernel
theorem dX6_init_102 : decode cX6_init 102 = .ok (.return_, 1) := by decide +kernel
theorem dX6_told_0 : decode cX6_told 0 = .ok (.iload_n 1, 1) := by decide +kernel
theorem dX6_told_1 : decode cX6_told 1 = .ok (.tableswitch 182 0 12 #[67, 75, 83, 91, 99, 107, 123, 131, 143, 156, 161, 169, 174], 67) := by decide +kernel
theorem dX6_told_68 : decode cX6_told 68 = .ok (.aload_n 0, 1) := by decide +kernel
theorem dX6_told_69 : decode cX6_told 69 = .ok (.getfield 10, 3) := by decide +kernel
theorem dX6_told_72 : decode cX6_told 72 = .ok (.getfield 61, 3) := by decide +kernel
theorem dX6_told_75 : decode cX6_told 75 = .ok (.ireturn, 1) := by decide +kernel
theorem dX6_told_76 : decode cX6_told 76 = .ok (.aload_n 0, 1) := by decide +kernel
theorem dX6_told_77 : decode cX6_told 77 = .ok (.getfield 10, 3) := by decide +kernel
theorem dX6_told_80 : decode cX6_told 80 = .ok (.getfield 65, 3) := by decide +kernel
theorem dX6_told_83 : decode cX6_told 83 = .ok (.ireturn, 1) := by decide +kernel
theorem dX6_told_84 : decode cX6_told 84 = .ok (.aload_n 0, 1) := by decide +kernel
theorem dX6_told_85 : decode cX6_told 85 = .ok (.getfield 10, 3) := by decide +kernel
theorem dX6_told_88 : decode cX6_told 88 = .ok (.getfield 68, 3) := by decide +kernel
theorem dX6_told_91 : decode cX6_told 91 = .ok (.ireturn, 1) := by decide +kernel
theorem dX6_told_92 : decode cX6_told 92 = .ok (.aload_n 0, 1) := by decide +kernel
theorem dX6_told_93 : decode cX6_told 93 = .ok (.getfield 10, 3) := by decide +kernel
theorem dX6_told_96 : decode cX6_told 96 = .ok (.invokevirtual 71, 3) := by decide +kernel
theorem dX6_told_99 : decode cX6_told 99 = .ok (.ireturn, 1) := by decide +kernel
theorem dX6_told_100 : decode cX6_told 100 = .ok (.aload_n 0, 1) := by decide +kernel
theorem dX6_told_101 : decode cX6_told 101 = .ok (.getfield 10, 3) := by decide +kernel
theorem dX6_told_104 : decode cX6_told 104 = .ok (.invokevirtual 75, 3) := by decide +kernel
theorem dX6_told_107 : decode cX6_told 107 = .ok (.ireturn, 1) := by decide +kernel
theorem dX6_told_108 : decode cX6_told 108 = .ok (.aload_n 0, 1) := by decide +kernel
theorem dX6_told_109 : decode cX6_told 109 = .ok (.getfield 10, 3) := by decide +kernel
theorem dX6_told_112 : decode cX6_told 112 = .ok (.invokevirtual 78, 3) := by decide +kernel
theorem dX6_told_115 : decode cX6_told 115 = .ok (.ifCond .eq 7, 3) := by decide +kernel
theorem dX6_told_118 : decode cX6_told 118 = .ok (.iconst 1, 1) := by decide +kernel
theorem dX6_told_119 : decode cX6_told 119 = .ok (.goto 4, 3) := by decide +kernel
theorem dX6_told_122 : decode cX6_told 122 = .ok (.iconst 0, 1) := by decide +kernel
theorem dX6_told_123 : decode cX6_told 123 = .ok (.ireturn, 1) := by decide +kernel
theorem dX6_told_124 : decode cX6_told 124 = .ok (.aload_n 0, 1) := by decide +kernel
theorem dX6_told_125 : decode cX6_told 125 = .ok (.getfield 10, 3) := by decide +kernel
theorem dX6_told_128 : decode cX6_told 128 = .ok (.invokevirtual 82, 3) := by decide +kernel
theorem dX6_told_131 : decode cX6_told 131 = .ok (.ireturn, 1) := by decide +kernel
theorem dX6_told_132 : decode cX6_told 132 = .ok (.aload_n 0, 1) := by decide +kernel
theorem dX6_told_133 : decode cX6_told 133 = .ok (.getfield 53, 3) := by decide +kernel
theorem dX6_told_136 : decode cX6_told 136 = .ok (.aload_n 0, 1) := by decide +kernel
theorem dX6_told_137 : decode cX6_told 137 = .ok (.getfield 10, 3) := by decide +kernel
theorem dX6_told_140 : decode cX6_told 140 = .ok (.invokevirtual 85, 3) := by decide +kernel
theorem dX6_told_143 : decode cX6_told 143 = .ok (.ireturn, 1) := by decide +kernel
theorem dX6_told_144 : decode cX6_told 144 = .ok (.aload_n 0, 1) := by decide +kernel
theorem dX6_told_145 : decode cX6_told 145 = .ok (.invokevirtual 89, 3) := by decide +kernel
theorem dX6_told_148 : decode cX6_told 148 = .ok (.ifCond .eq 7, 3) := by decide +kernel
theorem dX6_told_151 : decode cX6_told 151 = .ok (.iconst 1, 1) := by decide +kernel
theorem dX6_told_152 : decode cX6_told 152 = .ok (.goto 4, 3) := by decide +kernel
theorem dX6_told_155 : decode cX6_told 155 = .ok (.iconst 0, 1) := by decide +kernel
theorem dX6_told_156 : decode cX6_told 156 = .ok (.ireturn, 1) := by decide +kernel
theorem dX6_told_157 : decode cX6_told 157 = .ok (.aload_n 0, 1) := by decide +kernel
theorem dX6_told_158 : decode cX6_told 158 = .ok (.invokevirtual 92, 3) := by decide +kernel
theorem dX6_told_161 : decode cX6_told 161 = .ok (.ireturn, 1) := by decide +kernel
theorem dX6_told_162 : decode cX6_told 162 = .ok (.aload_n 0, 1) := by decide +kernel
theorem dX6_told_163 : decode cX6_told 163 = .ok (.getfield 36, 3) := by decide +kernel
theorem dX6_told_166 : decode cX6_told 166 = .ok (.getfield 95, 3) := by decide +kernel
theorem dX6_told_169 : decode cX6_told 169 = .ok (.ireturn, 1) := by decide +kernel
theorem dX6_told_170 : decode cX6_told 170 = .ok (.aload_n 0, 1) := by decide +kernel
theorem dX6_told_171 : decode cX6_told 171 = .ok (.invokevirtual 98, 3) := by decide +kernel
theorem dX6_told_174 : decode cX6_told 174 = .ok (.ireturn, 1) := by decide +kernel
theorem dX6_told_175 : decode cX6_told 175 = .ok (.aload_n 0, 1) := by decide +kernel
theorem dX6_told_176 : decode cX6_told 176 = .ok (.getfield 19, 3) := by decide +kernel
theorem dX6_told_179 : decode cX6_told 179 = .ok (.getfield 101, 3) := by decide +kernel
theorem dX6_told_182 : decode cX6_told 182 = .ok (.ireturn, 1) := by decide +kernel
theorem dX6_told_183 : decode cX6_told 183 = .ok (.ldc 104, 2) := by decide +kernel
theorem dX6_told_185 : decode cX6_told 185 = .ok (.ireturn, 1) := by decide +kernel
theorem dX6_joined_0 : decode cX6_joined 0 = .ok (.aload_n 0, 1) := by decide +kernel
theorem dX6_joined_1 : decode cX6_joined 1 = .ok (.getfield 10, 3) := by decide +kernel
theorem dX6_joined_4 : decode cX6_joined 4 = .ok (.iload_n 1, 1) := by decide +kernel
theorem dX6_joined_5 : decode cX6_joined 5 = .ok (.invokevirtual 105, 3) := by decide +kernel
theorem dX6_joined_8 : decode cX6_joined 8 = .ok (.ifCond .eq 14, 3) := by decide +kernel
theorem dX6_joined_11 : decode cX6_joined 11 = .ok (.aload_n 0, 1) := by decide +kernel
theorem dX6_joined_12 : decode cX6_joined 12 = .ok (.getfield 10, 3) := by decide +kernel
theorem dX6_joined_15 : decode cX6_joined 15 = .ok (.iload_n 2, 1) := by decide +kernel
theorem dX6_joined_16 : decode cX6_joined 16 = .ok (.invokevirtual 105, 3) := by decide +kernel
theorem dX6_joined_19 : decode cX6_joined 19 = .ok (.ifCond .ne 6, 3) := by decide +kernel
theorem dX6_joined_22 : decode cX6_joined 22 = .ok (.ldc 109, 2) := by decide +kernel
theorem dX6_joined_24 : decode cX6_joined 24 = .ok (.ireturn, 1) := by decide +kernel
theorem dX6_joined_25 : decode cX6_joined 25 = .ok (.aload_n 0, 1) := by decide +kernel
theorem dX6_joined_26 : decode cX6_joined 26 = .ok (.getfield 10, 3) := by decide +kernel
theorem dX6_joined_29 : decode cX6_joined 29 = .ok (.iload_n 1, 1) := by decide +kernel
theorem dX6_joined_30 : decode cX6_joined 30 = .ok (.iload_n 2, 1) := by decide +kernel
theorem dX6_joined_31 : decode cX6_joined 31 = .ok (.invokevirtual 110, 3) := by decide +kernel
theorem dX6_joined_34 : decode cX6_joined 34 = .ok (.ireturn, 1) := by decide +kernel
theorem dX6_below_0 : decode cX6_below 0 = .ok (.aload_n 0, 1) := by decide +kernel
theorem dX6_below_1 : decode cX6_below 1 = .ok (.getfield 10, 3) := by decide +kernel
theorem dX6_below_4 : decode cX6_below 4 = .ok (.iload_n 1, 1) := by decide +kernel
theorem dX6_below_5 : decode cX6_below 5 = .ok (.invokevirtual 105, 3) := by decide +kernel
theorem dX6_below_8 : decode cX6_below 8 = .ok (.ifCond .eq 14, 3) := by decide +kernel
theorem dX6_below_11 : decode cX6_below 11 = .ok (.aload_n 0, 1) := by decide +kernel
theorem dX6_below_12 : decode cX6_below 12 = .ok (.getfield 10, 3) := by decide +kernel
theorem dX6_below_15 : decode cX6_below 15 = .ok (.iload_n 2, 1) := by decide +kernel
theorem dX6_below_16 : decode cX6_below 16 = .ok (.invokevirtual 105, 3) := by decide +kernel
theorem dX6_below_19 : decode cX6_below 19 = .ok (.ifCond .ne 6, 3) := by decide +kernel
theorem dX6_below_22 : decode cX6_below 22 = .ok (.ldc 109, 2) := by decide +kernel
theorem dX6_below_24 : decode cX6_below 24 = .ok (.ireturn, 1) := by decide +kernel
theorem dX6_below_25 : decode cX6_below 25 = .ok (.aload_n 0, 1) := by decide +kernel
theorem dX6_below_26 : decode cX6_below 26 = .ok (.getfield 10, 3) := by decide +kernel
theorem dX6_below_29 : decode cX6_below 29 = .ok (.iload_n 1, 1) := by decide +kernel
theorem dX6_below_30 : decode cX6_below 30 = .ok (.iload_n 2, 1) := by decide +kernel
theorem dX6_below_31 : decode cX6_below 31 = .ok (.invokevirtual 114, 3) := by decide +kernel
theorem dX6_below_34 : decode cX6_below 34 = .ok (.ifCond .eq 7, 3) := by decide +kernel
theorem dX6_below_37 : decode cX6_below 37 = .ok (.iconst 1, 1) := by decide +kernel
theorem dX6_below_38 : decode cX6_below 38 = .ok (.goto 4, 3) := by decide +kernel
theorem dX6_below_41 : decode cX6_below 41 = .ok (.iconst 0, 1) := by decide +kernel
theorem dX6_below_42 : decode cX6_below 42 = .ok (.ireturn, 1) := by decide +kernel
theorem dX6_place_0 : decode cX6_place 0 = .ok (.aload_n 0, 1) := by decide +kernel
theorem dX6_place_1 : decode cX6_place 1 = .ok (.getfield 10, 3) := by decide +kernel
theorem dX6_place_4 : decode cX6_place 4 = .ok (.iload_n 1, 1) := by decide +kernel
theorem dX6_place_5 : decode cX6_place 5 = .ok (.invokevirtual 118, 3) := by decide +kernel
theorem dX6_place_8 : decode cX6_place 8 = .ok (.ifCond .ne 6, 3) := by decide +kernel
theorem dX6_place_11 : decode cX6_place 11 = .ok (.ldc 109, 2) := by decide +kernel
theorem dX6_place_13 : decode cX6_place 13 = .ok (.ireturn, 1) := by decide +kernel
theorem dX6_place_14 : decode cX6_place 14 = .ok (.iload_n 2, 1) := by decide +kernel
theorem dX6_place_15 : decode cX6_place 15 = .ok (.tableswitch 193 0 7 #[45, 58, 71, 95, 119, 128, 137, 165], 45) := by decide +kernel
theorem dX6_place_60 : decode cX6_place 60 = .ok (.aload_n 0, 1) := by decide +kernel
theorem dX6_place_61 : decode cX6_place 61 = .ok (.getfield 10, 3) := by decide +kernel
theorem dX6_place_64 : decode cX6_place 64 = .ok (.getfield 121, 3) := by decide +kernel
theorem dX6_place_67 : decode cX6_place 67 = .ok (.iload_n 1, 1) := by decide +kernel
theorem dX6_place_68 : decode cX6_place 68 = .ok (.iaload, 1) := by decide +kernel
theorem dX6_place_69 : decode cX6_place 69 = .ok (.invokestatic 125, 3) := by decide +kernel
theorem dX6_place_72 : decode cX6_place 72 = .ok (.ireturn, 1) := by decide +kernel
theorem dX6_place_73 : decode cX6_place 73 = .ok (.aload_n 0, 1) := by decide +kernel
theorem dX6_place_74 : decode cX6_place 74 = .ok (.getfield 10, 3) := by decide +kernel
theorem dX6_place_77 : decode cX6_place 77 = .ok (.getfield 121, 3) := by decide +kernel
theorem dX6_place_80 : decode cX6_place 80 = .ok (.iload_n 1, 1) := by decide +kernel
theorem dX6_place_81 : decode cX6_place 81 = .ok (.iaload, 1) := by decide +kernel
theorem dX6_place_82 : decode cX6_place 82 = .ok (.invokestatic 129, 3) := by decide +kernel
theorem dX6_place_85 : decode cX6_place 85 = .ok (.ireturn, 1) := by decide +kernel
theorem dX6_place_86 : decode cX6_place 86 = .ok (.aload_n 0, 1) := by decide +kernel
theorem dX6_place_87 : decode cX6_place 87 = .ok (.invokevirtual 132, 3) := by decide +kernel
theorem dX6_place_90 : decode cX6_place 90 = .ok (.ifCond .eq 18, 3) := by decide +kernel
theorem dX6_place_93 : decode cX6_place 93 = .ok (.aload_n 0, 1) := by decide +kernel
theorem dX6_place_94 : decode cX6_place 94 = .ok (.getfield 43, 3) := by decide +kernel
theorem dX6_place_97 : decode cX6_place 97 = .ok (.getfield 135, 3) := by decide +kernel
theorem dX6_place_100 : decode cX6_place 100 = .ok (.iload_n 1, 1) := by decide +kernel
theorem dX6_place_101 : decode cX6_place 101 = .ok (.iaload, 1) := by decide +kernel
theorem dX6_place_102 : decode cX6_place 102 = .ok (.invokestatic 125, 3) := by decide +kernel
theorem dX6_place_105 : decode cX6_place 105 = .ok (.goto 4, 3) := by decide +kernel
theorem dX6_place_108 : decode cX6_place 108 = .ok (.iconst (-1), 1) := by decide +kernel
theorem dX6_place_109 : decode cX6_place 109 = .ok (.ireturn, 1) := by decide +kernel
theorem dX6_place_110 : decode cX6_place 110 = .ok (.aload_n 0, 1) := by decide +kernel
theorem dX6_place_111 : decode cX6_place 111 = .ok (.invokevirtual 132, 3) := by decide +kernel
theorem dX6_place_114 : decode cX6_place 114 = .ok (.ifCond .eq 18, 3) := by decide +kernel
theorem dX6_place_117 : decode cX6_place 117 = .ok (.aload_n 0, 1) := by decide +kernel
theorem dX6_place_118 : decode cX6_place 118 = .ok (.getfield 43, 3) := by decide +kernel
theorem dX6_place_121 : decode cX6_place 121 = .ok (.getfield 135, 3) := by decide +kernel
theorem dX6_place_124 : decode cX6_place 124 = .ok (.iload_n 1, 1) := by decide +kernel
theorem dX6_place_125 : decode cX6_place 125 = .ok (.iaload, 1) := by decide +kernel
theorem dX6_place_126 : decode cX6_place 126 = .ok (.invokestatic 129, 3) := by decide +kernel
theorem dX6_place_129 : decode cX6_place 129 = .ok (.goto 4, 3) := by decide +kernel
theorem dX6_place_132 : decode cX6_place 132 = .ok (.iconst (-1), 1) := by decide +kernel
theorem dX6_place_133 : decode cX6_place 133 = .ok (.ireturn, 1) := by decide +kernel
theorem dX6_place_134 : decode cX6_place 134 = .ok (.aload_n 0, 1) := by decide +kernel
theorem dX6_place_135 : decode cX6_place 135 = .ok (.iload_n 1, 1) := by decide +kernel
theorem dX6_place_136 : decode cX6_place 136 = .ok (.invokevirtual 138, 3) := by decide +kernel
theorem dX6_place_139 : decode cX6_place 139 = .ok (.invokestatic 125, 3) := by decide +kernel
theorem dX6_place_142 : decode cX6_place 142 = .ok (.ireturn, 1) := by decide +kernel
theorem dX6_place_143 : decode cX6_place 143 = .ok (.aload_n 0, 1) := by decide +kernel
theorem dX6_place_144 : decode cX6_place 144 = .ok (.iload_n 1, 1) := by decide +kernel
theorem dX6_place_145 : decode cX6_place 145 = .ok (.invokevirtual 138, 3) := by decide +kernel
theorem dX6_place_148 : decode cX6_place 148 = .ok (.invokestatic 129, 3) := by decide +kernel
theorem dX6_place_151 : decode cX6_place 151 = .ok (.ireturn, 1) := by decide +kernel
theorem dX6_place_152 : decode cX6_place 152 = .ok (.aload_n 0, 1) := by decide +kernel
theorem dX6_place_153 : decode cX6_place 153 = .ok (.getfield 10, 3) := by decide +kernel
theorem dX6_place_156 : decode cX6_place 156 = .ok (.iload_n 1, 1) := by decide +kernel
theorem dX6_place_157 : decode cX6_place 157 = .ok (.invokevirtual 141, 3) := by decide +kernel
theorem dX6_place_160 : decode cX6_place 160 = .ok (.ifCond .eq 18, 3) := by decide +kernel
theorem dX6_place_163 : decode cX6_place 163 = .ok (.aload_n 0, 1) := by decide +kernel
theorem dX6_place_164 : decode cX6_place 164 = .ok (.getfield 10, 3) := by decide +kernel
theorem dX6_place_167 : decode cX6_place 167 = .ok (.getfield 144, 3) := by decide +kernel
theorem dX6_place_170 : decode cX6_place 170 = .ok (.iload_n 1, 1) := by decide +kernel
theorem dX6_place_171 : decode cX6_place 171 = .ok (.iaload, 1) := by decide +kernel
theorem dX6_place_172 : decode cX6_place 172 = .ok (.invokestatic 125, 3) := by decide +kernel
theorem dX6_place_175 : decode cX6_place 175 = .ok (.goto 4, 3) := by decide +kernel
theorem dX6_place_178 : decode cX6_place 178 = .ok (.iconst (-1), 1) := by decide +kernel
theorem dX6_place_179 : decode cX6_place 179 = .ok (.ireturn, 1) := by decide +kernel
theorem dX6_place_180 : decode cX6_place 180 = .ok (.aload_n 0, 1) := by decide +kernel
theorem dX6_place_181 : decode cX6_place 181 = .ok (.getfield 10, 3) := by decide +kernel
theorem dX6_place_184 : decode cX6_place 184 = .ok (.iload_n 1, 1) := by decide +kernel
theorem dX6_place_185 : decode cX6_place 185 = .ok (.invokevirtual 141, 3) := by decide +kernel
theorem dX6_place_188 : decode cX6_place 188 = .ok (.ifCond .eq 18, 3) := by decide +kernel
theorem dX6_place_191 : decode cX6_place 191 = .ok (.aload_n 0, 1) := by decide +kernel
theorem dX6_place_192 : decode cX6_place 192 = .ok (.getfield 10, 3) := by decide +kernel
theorem dX6_place_195 : decode cX6_place 195 = .ok (.getfield 144, 3) := by decide +kernel
theorem dX6_place_198 : decode cX6_place 198 = .ok (.iload_n 1, 1) := by decide +kernel
theorem dX6_place_199 : decode cX6_place 199 = .ok (.iaload, 1) := by decide +kernel
theorem dX6_place_200 : decode cX6_place 200 = .ok (.invokestatic 129, 3) := by decide +kernel
theorem dX6_place_203 : decode cX6_place 203 = .ok (.goto 4, 3) := by decide +kernel
theorem dX6_place_206 : decode cX6_place 206 = .ok (.iconst (-1), 1) := by decide +kernel
theorem dX6_place_207 : decode cX6_place 207 = .ok (.ireturn, 1) := by decide +kernel
theorem dX6_place_208 : decode cX6_place 208 = .ok (.ldc 104, 2) := by decide +kernel
theorem dX6_place_210 : decode cX6_place 210 = .ok (.ireturn, 1) := by decide +kernel
theorem dX6_wayAt_0 : decode cX6_wayAt 0 = .ok (.aload_n 0, 1) := by decide +kernel
theorem dX6_wayAt_1 : decode cX6_wayAt 1 = .ok (.getfield 10, 3) := by decide +kernel
theorem dX6_wayAt_4 : decode cX6_wayAt 4 = .ok (.iload_n 1, 1) := by decide +kernel
theorem dX6_wayAt_5 : decode cX6_wayAt 5 = .ok (.invokevirtual 147, 3) := by decide +kernel
theorem dX6_wayAt_8 : decode cX6_wayAt 8 = .ok (.ifCond .ne 6, 3) := by decide +kernel
theorem dX6_wayAt_11 : decode cX6_wayAt 11 = .ok (.ldc 109, 2) := by decide +kernel
theorem dX6_wayAt_13 : decode cX6_wayAt 13 = .ok (.ireturn, 1) := by decide +kernel
theorem dX6_wayAt_14 : decode cX6_wayAt 14 = .ok (.iload_n 2, 1) := by decide +kernel
theorem dX6_wayAt_15 : decode cX6_wayAt 15 = .ok (.tableswitch 193 0 8 #[49, 59, 69, 79, 89, 99, 116, 133, 163], 49) := by decide +kernel
theorem dX6_wayAt_64 : decode cX6_wayAt 64 = .ok (.aload_n 0, 1) := by decide +kernel
theorem dX6_wayAt_65 : decode cX6_wayAt 65 = .ok (.getfield 10, 3) := by decide +kernel
theorem dX6_wayAt_68 : decode cX6_wayAt 68 = .ok (.getfield 150, 3) := by decide +kernel
theorem dX6_wayAt_71 : decode cX6_wayAt 71 = .ok (.iload_n 1, 1) := by decide +kernel
theorem dX6_wayAt_72 : decode cX6_wayAt 72 = .ok (.iaload, 1) := by decide +kernel
theorem dX6_wayAt_73 : decode cX6_wayAt 73 = .ok (.ireturn, 1) := by decide +kernel
theorem dX6_wayAt_74 : decode cX6_wayAt 74 = .ok (.aload_n 0, 1) := by decide +kernel
theorem dX6_wayAt_75 : decode cX6_wayAt 75 = .ok (.getfield 10, 3) := by decide +kernel
theorem dX6_wayAt_78 : decode cX6_wayAt 78 = .ok (.getfield 153, 3) := by decide +kernel
theorem dX6_wayAt_81 : decode cX6_wayAt 81 = .ok (.iload_n 1, 1) := by decide +kernel
theorem dX6_wayAt_82 : decode cX6_wayAt 82 = .ok (.iaload, 1) := by decide +kernel
theorem dX6_wayAt_83 : decode cX6_wayAt 83 = .ok (.ireturn, 1) := by decide +kernel
theorem dX6_wayAt_84 : decode cX6_wayAt 84 = .ok (.aload_n 0, 1) := by decide +kernel
theorem dX6_wayAt_85 : decode cX6_wayAt 85 = .ok (.getfield 10, 3) := by decide +kernel
theorem dX6_wayAt_88 : decode cX6_wayAt 88 = .ok (.getfield 156, 3) := by decide +kernel
theorem dX6_wayAt_91 : decode cX6_wayAt 91 = .ok (.iload_n 1, 1) := by decide +kernel
theorem dX6_wayAt_92 : decode cX6_wayAt 92 = .ok (.iaload, 1) := by decide +kernel
theorem dX6_wayAt_93 : decode cX6_wayAt 93 = .ok (.ireturn, 1) := by decide +kernel
theorem dX6_wayAt_94 : decode cX6_wayAt 94 = .ok (.aload_n 0, 1) := by decide +kernel
theorem dX6_wayAt_95 : decode cX6_wayAt 95 = .ok (.getfield 10, 3) := by decide +kernel
theorem dX6_wayAt_98 : decode cX6_wayAt 98 = .ok (.getfield 159, 3) := by decide +kernel
theorem dX6_wayAt_101 : decode cX6_wayAt 101 = .ok (.iload_n 1, 1) := by decide +kernel
theorem dX6_wayAt_102 : decode cX6_wayAt 102 = .ok (.iaload, 1) := by decide +kernel
theorem dX6_wayAt_103 : decode cX6_wayAt 103 = .ok (.ireturn, 1) := by decide +kernel
theorem dX6_wayAt_104 : decode cX6_wayAt 104 = .ok (.aload_n 0, 1) := by decide +kernel
theorem dX6_wayAt_105 : decode cX6_wayAt 105 = .ok (.getfield 10, 3) := by decide +kernel
theorem dX6_wayAt_108 : decode cX6_wayAt 108 = .ok (.getfield 162, 3) := by decide +kernel
theorem dX6_wayAt_111 : decode cX6_wayAt 111 = .ok (.iload_n 1, 1) := by decide +kernel
theorem dX6_wayAt_112 : decode cX6_wayAt 112 = .ok (.iaload, 1) := by decide +kernel
theorem dX6_wayAt_113 : decode cX6_wayAt 113 = .ok (.ireturn, 1) := by decide +kernel
theorem dX6_wayAt_114 : decode cX6_wayAt 114 = .ok (.aload_n 0, 1) := by decide +kernel
theorem dX6_wayAt_115 : decode cX6_wayAt 115 = .ok (.getfield 10, 3) := by decide +kernel
theorem dX6_wayAt_118 : decode cX6_wayAt 118 = .ok (.iload_n 1, 1) := by decide +kernel
theorem dX6_wayAt_119 : decode cX6_wayAt 119 = .ok (.invokevirtual 165, 3) := by decide +kernel
theorem dX6_wayAt_122 : decode cX6_wayAt 122 = .ok (.ifCond .eq 7, 3) := by decide +kernel
theorem dX6_wayAt_125 : decode cX6_wayAt 125 = .ok (.iconst 1, 1) := by decide +kernel
theorem dX6_wayAt_126 : decode cX6_wayAt 126 = .ok (.goto 4, 3) := by decide +kernel
theorem dX6_wayAt_129 : decode cX6_wayAt 129 = .ok (.iconst 0, 1) := by decide +kernel
theorem dX6_wayAt_130 : decode cX6_wayAt 130 = .ok (.ireturn, 1) := by decide +kernel
theorem dX6_wayAt_131 : decode cX6_wayAt 131 = .ok (.aload_n 0, 1) := by decide +kernel
theorem dX6_wayAt_132 : decode cX6_wayAt 132 = .ok (.invokevirtual 132, 3) := by decide +kernel
theorem dX6_wayAt_135 : decode cX6_wayAt 135 = .ok (.ifCond .eq 11, 3) := by decide +kernel
theorem dX6_wayAt_138 : decode cX6_wayAt 138 = .ok (.aload_n 0, 1) := by decide +kernel
theorem dX6_wayAt_139 : decode cX6_wayAt 139 = .ok (.iload_n 1, 1) := by decide +kernel
theorem dX6_wayAt_140 : decode cX6_wayAt 140 = .ok (.invokevirtual 168, 3) := by decide +kernel
theorem dX6_wayAt_143 : decode cX6_wayAt 143 = .ok (.goto 4, 3) := by decide +kernel
theorem dX6_wayAt_146 : decode cX6_wayAt 146 = .ok (.iconst (-1), 1) := by decide +kernel
theorem dX6_wayAt_147 : decode cX6_wayAt 147 = .ok (.ireturn, 1) := by decide +kernel
theorem dX6_wayAt_148 : decode cX6_wayAt 148 = .ok (.aload_n 0, 1) := by decide +kernel
theorem dX6_wayAt_149 : decode cX6_wayAt 149 = .ok (.invokevirtual 132, 3) := by decide +kernel
theorem dX6_wayAt_152 : decode cX6_wayAt 152 = .ok (.ifCond .eq 24, 3) := by decide +kernel
theorem dX6_wayAt_155 : decode cX6_wayAt 155 = .ok (.aload_n 0, 1) := by decide +kernel
theorem dX6_wayAt_156 : decode cX6_wayAt 156 = .ok (.getfield 10, 3) := by decide +kernel
theorem dX6_wayAt_159 : decode cX6_wayAt 159 = .ok (.iload_n 1, 1) := by decide +kernel
theorem dX6_wayAt_160 : decode cX6_wayAt 160 = .ok (.aload_n 0, 1) := by decide +kernel
theorem dX6_wayAt_161 : decode cX6_wayAt 161 = .ok (.getfield 43, 3) := by decide +kernel
theorem dX6_wayAt_164 : decode cX6_wayAt 164 = .ok (.getfield 135, 3) := by decide +kernel
theorem dX6_wayAt_167 : decode cX6_wayAt 167 = .ok (.invokevirtual 171, 3) := by decide +kernel
theorem dX6_wayAt_170 : decode cX6_wayAt 170 = .ok (.invokestatic 125, 3) := by decide +kernel
theorem dX6_wayAt_173 : decode cX6_wayAt 173 = .ok (.goto 4, 3) := by decide +kernel
theorem dX6_wayAt_176 : decode cX6_wayAt 176 = .ok (.iconst (-1), 1) := by decide +kernel
theorem dX6_wayAt_177 : decode cX6_wayAt 177 = .ok (.ireturn, 1) := by decide +kernel
theorem dX6_wayAt_178 : decode cX6_wayAt 178 = .ok (.aload_n 0, 1) := by decide +kernel
theorem dX6_wayAt_179 : decode cX6_wayAt 179 = .ok (.invokevirtual 132, 3) := by decide +kernel
theorem dX6_wayAt_182 : decode cX6_wayAt 182 = .ok (.ifCond .eq 24, 3) := by decide +kernel
theorem dX6_wayAt_185 : decode cX6_wayAt 185 = .ok (.aload_n 0, 1) := by decide +kernel
theorem dX6_wayAt_186 : decode cX6_wayAt 186 = .ok (.getfield 10, 3) := by decide +kernel
theorem dX6_wayAt_189 : decode cX6_wayAt 189 = .ok (.iload_n 1, 1) := by decide +kernel
theorem dX6_wayAt_190 : decode cX6_wayAt 190 = .ok (.aload_n 0, 1) := by decide +kernel
theorem dX6_wayAt_191 : decode cX6_wayAt 191 = .ok (.getfield 43, 3) := by decide +kernel
theorem dX6_wayAt_194 : decode cX6_wayAt 194 = .ok (.getfield 135, 3) := by decide +kernel
theorem dX6_wayAt_197 : decode cX6_wayAt 197 = .ok (.invokevirtual 171, 3) := by decide +kernel
theorem dX6_wayAt_200 : decode cX6_wayAt 200 = .ok (.invokestatic 129, 3) := by decide +kernel
theorem dX6_wayAt_203 : decode cX6_wayAt 203 = .ok (.goto 4, 3) := by decide +kernel
theorem dX6_wayAt_206 : decode cX6_wayAt 206 = .ok (.iconst (-1), 1) := by decide +kernel
theorem dX6_wayAt_207 : decode cX6_wayAt 207 = .ok (.ireturn, 1) := by decide +kernel
theorem dX6_wayAt_208 : decode cX6_wayAt 208 = .ok (.ldc 104, 2) := by decide +kernel
theorem dX6_wayAt_210 : decode cX6_wayAt 210 = .ok (.ireturn, 1) := by decide +kernel
theorem dX6_mapped_0 : decode cX6_mapped 0 = .ok (.aload_n 0, 1) := by decide +kernel
theorem dX6_mapped_1 : decode cX6_mapped 1 = .ok (.getfield 10, 3) := by decide +kernel
theorem dX6_mapped_4 : decode cX6_mapped 4 = .ok (.iload_n 1, 1) := by decide +kernel
theorem dX6_mapped_5 : decode cX6_mapped 5 = .ok (.invokevirtual 147, 3) := by decide +kernel
theorem dX6_mapped_8 : decode cX6_mapped 8 = .ok (.ifCond .eq 14, 3) := by decide +kernel
theorem dX6_mapped_11 : decode cX6_mapped 11 = .ok (.aload_n 0, 1) := by decide +kernel
theorem dX6_mapped_12 : decode cX6_mapped 12 = .ok (.getfield 10, 3) := by decide +kernel
theorem dX6_mapped_15 : decode cX6_mapped 15 = .ok (.iload_n 2, 1) := by decide +kernel
theorem dX6_mapped_16 : decode cX6_mapped 16 = .ok (.invokevirtual 105, 3) := by decide +kernel
theorem dX6_mapped_19 : decode cX6_mapped 19 = .ok (.ifCond .ne 6, 3) := by decide +kernel
theorem dX6_mapped_22 : decode cX6_mapped 22 = .ok (.ldc 109, 2) := by decide +kernel
theorem dX6_mapped_24 : decode cX6_mapped 24 = .ok (.ireturn, 1) := by decide +kernel
theorem dX6_mapped_25 : decode cX6_mapped 25 = .ok (.aload_n 0, 1) := by decide +kernel
theorem dX6_mapped_26 : decode cX6_mapped 26 = .ok (.getfield 10, 3) := by decide +kernel
theorem dX6_mapped_29 : decode cX6_mapped 29 = .ok (.getfield 175, 3) := by decide +kernel
theorem dX6_mapped_32 : decode cX6_mapped 32 = .ok (.iload_n 1, 1) := by decide +kernel
theorem dX6_mapped_33 : decode cX6_mapped 33 = .ok (.bipush 8, 2) := by decide +kernel
theorem dX6_mapped_35 : decode cX6_mapped 35 = .ok (.imul, 1) := by decide +kernel
theorem dX6_mapped_36 : decode cX6_mapped 36 = .ok (.iload_n 2, 1) := by decide +kernel
theorem dX6_mapped_37 : decode cX6_mapped 37 = .ok (.iadd, 1) := by decide +kernel
theorem dX6_mapped_38 : decode cX6_mapped 38 = .ok (.iaload, 1) := by decide +kernel
theorem dX6_mapped_39 : decode cX6_mapped 39 = .ok (.ireturn, 1) := by decide +kernel
theorem dX6_steps_0 : decode cX6_steps 0 = .ok (.iload_n 1, 1) := by decide +kernel
theorem dX6_steps_1 : decode cX6_steps 1 = .ok (.invokestatic 178, 3) := by decide +kernel
theorem dX6_steps_4 : decode cX6_steps 4 = .ok (.ifCond .ne 6, 3) := by decide +kernel
theorem dX6_steps_7 : decode cX6_steps 7 = .ok (.ldc 104, 2) := by decide +kernel
theorem dX6_steps_9 : decode cX6_steps 9 = .ok (.ireturn, 1) := by decide +kernel
theorem dX6_steps_10 : decode cX6_steps 10 = .ok (.aload_n 0, 1) := by decide +kernel
theorem dX6_steps_11 : decode cX6_steps 11 = .ok (.getfield 47, 3) := by decide +kernel
theorem dX6_steps_14 : decode cX6_steps 14 = .ok (.aload_n 0, 1) := by decide +kernel
theorem dX6_steps_15 : decode cX6_steps 15 = .ok (.getfield 10, 3) := by decide +kernel
theorem dX6_steps_18 : decode cX6_steps 18 = .ok (.iload_n 1, 1) := by decide +kernel
theorem dX6_steps_19 : decode cX6_steps 19 = .ok (.iconst (-1), 1) := by decide +kernel
theorem dX6_steps_20 : decode cX6_steps 20 = .ok (.invokevirtual 181, 3) := by decide +kernel
theorem dX6_steps_23 : decode cX6_steps 23 = .ok (.ireturn, 1) := by decide +kernel
theorem dX6_worked_0 : decode cX6_worked 0 = .ok (.aload_n 0, 1) := by decide +kernel
theorem dX6_worked_1 : decode cX6_worked 1 = .ok (.getfield 10, 3) := by decide +kernel
theorem dX6_worked_4 : decode cX6_worked 4 = .ok (.iload_n 2, 1) := by decide +kernel
theorem dX6_worked_5 : decode cX6_worked 5 = .ok (.invokevirtual 118, 3) := by decide +kernel
theorem dX6_worked_8 : decode cX6_worked 8 = .ok (.ifCond .ne 6, 3) := by decide +kernel
theorem dX6_worked_11 : decode cX6_worked 11 = .ok (.ldc 109, 2) := by decide +kernel
theorem dX6_worked_13 : decode cX6_worked 13 = .ok (.ireturn, 1) := by decide +kernel
theorem dX6_worked_14 : decode cX6_worked 14 = .ok (.iload_n 1, 1) := by decide +kernel
theorem dX6_worked_15 : decode cX6_worked 15 = .ok (.invokestatic 178, 3) := by decide +kernel
theorem dX6_worked_18 : decode cX6_worked 18 = .ok (.ifCond .ne 6, 3) := by decide +kernel
theorem dX6_worked_21 : decode cX6_worked 21 = .ok (.ldc 104, 2) := by decide +kernel
theorem dX6_worked_23 : decode cX6_worked 23 = .ok (.ireturn, 1) := by decide +kernel
theorem dX6_worked_24 : decode cX6_worked 24 = .ok (.aload_n 0, 1) := by decide +kernel
theorem dX6_worked_25 : decode cX6_worked 25 = .ok (.getfield 47, 3) := by decide +kernel
theorem dX6_worked_28 : decode cX6_worked 28 = .ok (.aload_n 0, 1) := by decide +kernel
theorem dX6_worked_29 : decode cX6_worked 29 = .ok (.getfield 10, 3) := by decide +kernel
theorem dX6_worked_32 : decode cX6_worked 32 = .ok (.iload_n 1, 1) := by decide +kernel
theorem dX6_worked_33 : decode cX6_worked 33 = .ok (.iconst (-1), 1) := by decide +kernel
theorem dX6_worked_34 : decode cX6_worked 34 = .ok (.invokevirtual 181, 3) := by decide +kernel
theorem dX6_worked_37 : decode cX6_worked 37 = .ok (.iconst (-1), 1) := by decide +kernel
theorem dX6_worked_38 : decode cX6_worked 38 = .ok (.if_icmp .ne 7, 3) := by decide +kernel
theorem dX6_worked_41 : decode cX6_worked 41 = .ok (.iconst (-1), 1) := by decide +kernel
theorem dX6_worked_42 : decode cX6_worked 42 = .ok (.goto 12, 3) := by decide +kernel
theorem dX6_worked_45 : decode cX6_worked 45 = .ok (.aload_n 0, 1) := by decide +kernel
theorem dX6_worked_46 : decode cX6_worked 46 = .ok (.getfield 47, 3) := by decide +kernel
theorem dX6_worked_49 : decode cX6_worked 49 = .ok (.getfield 135, 3) := by decide +kernel
theorem dX6_worked_52 : decode cX6_worked 52 = .ok (.iload_n 2, 1) := by decide +kernel
theorem dX6_worked_53 : decode cX6_worked 53 = .ok (.iaload, 1) := by decide +kernel
theorem dX6_worked_54 : decode cX6_worked 54 = .ok (.ireturn, 1) := by decide +kernel
theorem dX6_build_0 : decode cX6_build 0 = .ok (.iload_n 1, 1) := by decide +kernel
theorem dX6_build_1 : decode cX6_build 1 = .ok (.ifCond .lt 29, 3) := by decide +kernel
theorem dX6_build_4 : decode cX6_build 4 = .ok (.iload_n 1, 1) := by decide +kernel
theorem dX6_build_5 : decode cX6_build 5 = .ok (.iconst 2, 1) := by decide +kernel
theorem dX6_build_6 : decode cX6_build 6 = .ok (.if_icmp .gt 24, 3) := by decide +kernel
theorem dX6_build_9 : decode cX6_build 9 = .ok (.iload_n 2, 1) := by decide +kernel
theorem dX6_build_10 : decode cX6_build 10 = .ok (.iconst 1, 1) := by decide +kernel
theorem dX6_build_11 : decode cX6_build 11 = .ok (.if_icmp .lt 19, 3) := by decide +kernel
theorem dX6_build_14 : decode cX6_build 14 = .ok (.iload_n 2, 1) := by decide +kernel
theorem dX6_build_15 : decode cX6_build 15 = .ok (.bipush 8, 2) := by decide +kernel
theorem dX6_build_17 : decode cX6_build 17 = .ok (.if_icmp .gt 13, 3) := by decide +kernel
theorem dX6_build_20 : decode cX6_build 20 = .ok (.iload_n 3, 1) := by decide +kernel
theorem dX6_build_21 : decode cX6_build 21 = .ok (.ifCond .lt 9, 3) := by decide +kernel
theorem dX6_build_24 : decode cX6_build 24 = .ok (.iload_n 3, 1) := by decide +kernel
theorem dX6_build_25 : decode cX6_build 25 = .ok (.bipush 10, 2) := by decide +kernel
theorem dX6_build_27 : decode cX6_build 27 = .ok (.if_icmp .le 6, 3) := by decide +kernel
theorem dX6_build_30 : decode cX6_build 30 = .ok (.ldc 104, 2) := by decide +kernel
theorem dX6_build_32 : decode cX6_build 32 = .ok (.ireturn, 1) := by decide +kernel
theorem dX6_build_33 : decode cX6_build 33 = .ok (.aload_n 0, 1) := by decide +kernel
theorem dX6_build_34 : decode cX6_build 34 = .ok (.getfield 19, 3) := by decide +kernel
theorem dX6_build_37 : decode cX6_build 37 = .ok (.aload_n 0, 1) := by decide +kernel
theorem dX6_build_38 : decode cX6_build 38 = .ok (.getfield 10, 3) := by decide +kernel
theorem dX6_build_41 : decode cX6_build 41 = .ok (.invokevirtual 185, 3) := by decide +kernel
theorem dX6_build_44 : decode cX6_build 44 = .ok (.aload_n 0, 1) := by decide +kernel
theorem dX6_build_45 : decode cX6_build 45 = .ok (.getfield 10, 3) := by decide +kernel
theorem dX6_build_48 : decode cX6_build 48 = .ok (.getfield 68, 3) := by decide +kernel
theorem dX6_build_51 : decode cX6_build 51 = .ok (.istore 4, 2) := by decide +kernel
theorem dX6_build_53 : decode cX6_build 53 = .ok (.aload_n 0, 1) := by decide +kernel
theorem dX6_build_54 : decode cX6_build 54 = .ok (.getfield 10, 3) := by decide +kernel
theorem dX6_build_57 : decode cX6_build 57 = .ok (.iload_n 1, 1) := by decide +kernel
theorem dX6_build_58 : decode cX6_build 58 = .ok (.iload_n 2, 1) := by decide +kernel
theorem dX6_build_59 : decode cX6_build 59 = .ok (.iload_n 3, 1) := by decide +kernel
theorem dX6_build_60 : decode cX6_build 60 = .ok (.invokevirtual 57, 3) := by decide +kernel
theorem dX6_build_63 : decode cX6_build 63 = .ok (.iload 4, 2) := by decide +kernel
theorem dX6_build_65 : decode cX6_build 65 = .ok (.ireturn, 1) := by decide +kernel
theorem dX6_cell_0 : decode cX6_cell 0 = .ok (.aload_n 0, 1) := by decide +kernel
theorem dX6_cell_1 : decode cX6_cell 1 = .ok (.getfield 10, 3) := by decide +kernel
theorem dX6_cell_4 : decode cX6_cell 4 = .ok (.iload_n 1, 1) := by decide +kernel
theorem dX6_cell_5 : decode cX6_cell 5 = .ok (.invokevirtual 105, 3) := by decide +kernel
theorem dX6_cell_8 : decode cX6_cell 8 = .ok (.ifCond .eq 25, 3) := by decide +kernel
theorem dX6_cell_11 : decode cX6_cell 11 = .ok (.aload_n 0, 1) := by decide +kernel
theorem dX6_cell_12 : decode cX6_cell 12 = .ok (.getfield 10, 3) := by decide +kernel
theorem dX6_cell_15 : decode cX6_cell 15 = .ok (.iload_n 2, 1) := by decide +kernel
theorem dX6_cell_16 : decode cX6_cell 16 = .ok (.invokevirtual 105, 3) := by decide +kernel
theorem dX6_cell_19 : decode cX6_cell 19 = .ok (.ifCond .eq 14, 3) := by decide +kernel
theorem dX6_cell_22 : decode cX6_cell 22 = .ok (.aload_n 0, 1) := by decide +kernel
theorem dX6_cell_23 : decode cX6_cell 23 = .ok (.getfield 10, 3) := by decide +kernel
theorem dX6_cell_26 : decode cX6_cell 26 = .ok (.iload_n 3, 1) := by decide +kernel
theorem dX6_cell_27 : decode cX6_cell 27 = .ok (.invokevirtual 105, 3) := by decide +kernel
theorem dX6_cell_30 : decode cX6_cell 30 = .ok (.ifCond .ne 6, 3) := by decide +kernel
theorem dX6_cell_33 : decode cX6_cell 33 = .ok (.ldc 109, 2) := by decide +kernel
theorem dX6_cell_35 : decode cX6_cell 35 = .ok (.ireturn, 1) := by decide +kernel
theorem dX6_cell_36 : decode cX6_cell 36 = .ok (.aload_n 0, 1) := by decide +kernel
theorem dX6_cell_37 : decode cX6_cell 37 = .ok (.getfield 19, 3) := by decide +kernel
theorem dX6_cell_40 : decode cX6_cell 40 = .ok (.aload_n 0, 1) := by decide +kernel
theorem dX6_cell_41 : decode cX6_cell 41 = .ok (.getfield 10, 3) := by decide +kernel
theorem dX6_cell_44 : decode cX6_cell 44 = .ok (.invokevirtual 185, 3) := by decide +kernel
theorem dX6_cell_47 : decode cX6_cell 47 = .ok (.aload_n 0, 1) := by decide +kernel
theorem dX6_cell_48 : decode cX6_cell 48 = .ok (.getfield 10, 3) := by decide +kernel
theorem dX6_cell_51 : decode cX6_cell 51 = .ok (.getfield 189, 3) := by decide +kernel
theorem dX6_cell_54 : decode cX6_cell 54 = .ok (.iload_n 1, 1) := by decide +kernel
theorem dX6_cell_55 : decode cX6_cell 55 = .ok (.bipush 8, 2) := by decide +kernel
theorem dX6_cell_57 : decode cX6_cell 57 = .ok (.imul, 1) := by decide +kernel
theorem dX6_cell_58 : decode cX6_cell 58 = .ok (.iload_n 2, 1) := by decide +kernel
theorem dX6_cell_59 : decode cX6_cell 59 = .ok (.iadd, 1) := by decide +kernel
theorem dX6_cell_60 : decode cX6_cell 60 = .ok (.iload_n 3, 1) := by decide +kernel
theorem dX6_cell_61 : decode cX6_cell 61 = .ok (.iastore, 1) := by decide +kernel
theorem dX6_cell_62 : decode cX6_cell 62 = .ok (.aload_n 0, 1) := by decide +kernel
theorem dX6_cell_63 : decode cX6_cell 63 = .ok (.getfield 10, 3) := by decide +kernel
theorem dX6_cell_66 : decode cX6_cell 66 = .ok (.invokevirtual 71, 3) := by decide +kernel
theorem dX6_cell_69 : decode cX6_cell 69 = .ok (.ireturn, 1) := by decide +kernel
theorem dX6_start_0 : decode cX6_start 0 = .ok (.aload_n 0, 1) := by decide +kernel
theorem dX6_start_1 : decode cX6_start 1 = .ok (.getfield 10, 3) := by decide +kernel
theorem dX6_start_4 : decode cX6_start 4 = .ok (.iload_n 1, 1) := by decide +kernel
theorem dX6_start_5 : decode cX6_start 5 = .ok (.invokevirtual 118, 3) := by decide +kernel
theorem dX6_start_8 : decode cX6_start 8 = .ok (.ifCond .eq 14, 3) := by decide +kernel
theorem dX6_start_11 : decode cX6_start 11 = .ok (.aload_n 0, 1) := by decide +kernel
theorem dX6_start_12 : decode cX6_start 12 = .ok (.getfield 10, 3) := by decide +kernel
theorem dX6_start_15 : decode cX6_start 15 = .ok (.iload_n 2, 1) := by decide +kernel
theorem dX6_start_16 : decode cX6_start 16 = .ok (.invokevirtual 105, 3) := by decide +kernel
theorem dX6_start_19 : decode cX6_start 19 = .ok (.ifCond .ne 6, 3) := by decide +kernel
theorem dX6_start_22 : decode cX6_start 22 = .ok (.ldc 109, 2) := by decide +kernel
theorem dX6_start_24 : decode cX6_start 24 = .ok (.ireturn, 1) := by decide +kernel
theorem dX6_start_25 : decode cX6_start 25 = .ok (.iload_n 3, 1) := by decide +kernel
theorem dX6_start_26 : decode cX6_start 26 = .ok (.invokestatic 192, 3) := by decide +kernel
theorem dX6_start_29 : decode cX6_start 29 = .ok (.ifCond .ne 6, 3) := by decide +kernel
theorem dX6_start_32 : decode cX6_start 32 = .ok (.ldc 104, 2) := by decide +kernel
theorem dX6_start_34 : decode cX6_start 34 = .ok (.ireturn, 1) := by decide +kernel
theorem dX6_start_35 : decode cX6_start 35 = .ok (.aload_n 0, 1) := by decide +kernel
theorem dX6_start_36 : decode cX6_start 36 = .ok (.getfield 19, 3) := by decide +kernel
theorem dX6_start_39 : decode cX6_start 39 = .ok (.aload_n 0, 1) := by decide +kernel
theorem dX6_start_40 : decode cX6_start 40 = .ok (.getfield 10, 3) := by decide +kernel
theorem dX6_start_43 : decode cX6_start 43 = .ok (.invokevirtual 185, 3) := by decide +kernel
theorem dX6_start_46 : decode cX6_start 46 = .ok (.aload_n 0, 1) := by decide +kernel
theorem dX6_start_47 : decode cX6_start 47 = .ok (.getfield 10, 3) := by decide +kernel
theorem dX6_start_50 : decode cX6_start 50 = .ok (.getfield 121, 3) := by decide +kernel
theorem dX6_start_53 : decode cX6_start 53 = .ok (.iload_n 1, 1) := by decide +kernel
theorem dX6_start_54 : decode cX6_start 54 = .ok (.iload_n 2, 1) := by decide +kernel
theorem dX6_start_55 : decode cX6_start 55 = .ok (.sipush 256, 3) := by decide +kernel
theorem dX6_start_58 : decode cX6_start 58 = .ok (.imul, 1) := by decide +kernel
theorem dX6_start_59 : decode cX6_start 59 = .ok (.iload_n 3, 1) := by decide +kernel
theorem dX6_start_60 : decode cX6_start 60 = .ok (.iadd, 1) := by decide +kernel
theorem dX6_start_61 : decode cX6_start 61 = .ok (.iastore, 1) := by decide +kernel
theorem dX6_start_62 : decode cX6_start 62 = .ok (.iconst 1, 1) := by decide +kernel
theorem dX6_start_63 : decode cX6_start 63 = .ok (.ireturn, 1) := by decide +kernel
theorem dX6_way_0 : decode cX6_way 0 = .ok (.aload_n 0, 1) := by decide +kernel
theorem dX6_way_1 : decode cX6_way 1 = .ok (.getfield 10, 3) := by decide +kernel
theorem dX6_way_4 : decode cX6_way 4 = .ok (.iload_n 1, 1) := by decide +kernel
theorem dX6_way_5 : decode cX6_way 5 = .ok (.invokevirtual 118, 3) := by decide +kernel
theorem dX6_way_8 : decode cX6_way 8 = .ok (.ifCond .eq 14, 3) := by decide +kernel
theorem dX6_way_11 : decode cX6_way 11 = .ok (.aload_n 0, 1) := by decide +kernel
theorem dX6_way_12 : decode cX6_way 12 = .ok (.getfield 10, 3) := by decide +kernel
theorem dX6_way_15 : decode cX6_way 15 = .ok (.iload_n 2, 1) := by decide +kernel
theorem dX6_way_16 : decode cX6_way 16 = .ok (.invokevirtual 118, 3) := by decide +kernel
theorem dX6_way_19 : decode cX6_way 19 = .ok (.ifCond .ne 6, 3) := by decide +kernel
theorem dX6_way_22 : decode cX6_way 22 = .ok (.ldc 109, 2) := by decide +kernel
theorem dX6_way_24 : decode cX6_way 24 = .ok (.ireturn, 1) := by decide +kernel
theorem dX6_way_25 : decode cX6_way 25 = .ok (.aload_n 0, 1) := by decide +kernel
theorem dX6_way_26 : decode cX6_way 26 = .ok (.getfield 10, 3) := by decide +kernel
theorem dX6_way_29 : decode cX6_way 29 = .ok (.getfield 68, 3) := by decide +kernel
theorem dX6_way_32 : decode cX6_way 32 = .ok (.bipush 20, 2) := by decide +kernel
theorem dX6_way_34 : decode cX6_way 34 = .ok (.if_icmp .lt 6, 3) := by decide +kernel
theorem dX6_way_37 : decode cX6_way 37 = .ok (.ldc 195, 2) := by decide +kernel
theorem dX6_way_39 : decode cX6_way 39 = .ok (.ireturn, 1) := by decide +kernel
theorem dX6_way_40 : decode cX6_way 40 = .ok (.aload_n 0, 1) := by decide +kernel
theorem dX6_way_41 : decode cX6_way 41 = .ok (.getfield 19, 3) := by decide +kernel
theorem dX6_way_44 : decode cX6_way 44 = .ok (.aload_n 0, 1) := by decide +kernel
theorem dX6_way_45 : decode cX6_way 45 = .ok (.getfield 10, 3) := by decide +kernel
theorem dX6_way_48 : decode cX6_way 48 = .ok (.invokevirtual 185, 3) := by decide +kernel
theorem dX6_way_51 : decode cX6_way 51 = .ok (.aload_n 0, 1) := by decide +kernel
theorem dX6_way_52 : decode cX6_way 52 = .ok (.getfield 10, 3) := by decide +kernel
theorem dX6_way_55 : decode cX6_way 55 = .ok (.iload_n 1, 1) := by decide +kernel
theorem dX6_way_56 : decode cX6_way 56 = .ok (.iload_n 2, 1) := by decide +kernel
theorem dX6_way_57 : decode cX6_way 57 = .ok (.invokevirtual 196, 3) := by decide +kernel
theorem dX6_way_60 : decode cX6_way 60 = .ok (.ireturn, 1) := by decide +kernel
theorem dX6_drop_0 : decode cX6_drop 0 = .ok (.aload_n 0, 1) := by decide +kernel
theorem dX6_drop_1 : decode cX6_drop 1 = .ok (.getfield 10, 3) := by decide +kernel
theorem dX6_drop_4 : decode cX6_drop 4 = .ok (.iload_n 1, 1) := by decide +kernel
theorem dX6_drop_5 : decode cX6_drop 5 = .ok (.invokevirtual 147, 3) := by decide +kernel
theorem dX6_drop_8 : decode cX6_drop 8 = .ok (.ifCond .ne 6, 3) := by decide +kernel
theorem dX6_drop_11 : decode cX6_drop 11 = .ok (.ldc 109, 2) := by decide +kernel
theorem dX6_drop_13 : decode cX6_drop 13 = .ok (.ireturn, 1) := by decide +kernel
theorem dX6_drop_14 : decode cX6_drop 14 = .ok (.aload_n 0, 1) := by decide +kernel
theorem dX6_drop_15 : decode cX6_drop 15 = .ok (.getfield 19, 3) := by decide +kernel
theorem dX6_drop_18 : decode cX6_drop 18 = .ok (.aload_n 0, 1) := by decide +kernel
theorem dX6_drop_19 : decode cX6_drop 19 = .ok (.getfield 10, 3) := by decide +kernel
theorem dX6_drop_22 : decode cX6_drop 22 = .ok (.invokevirtual 185, 3) := by decide +kernel
theorem dX6_drop_25 : decode cX6_drop 25 = .ok (.aload_n 0, 1) := by decide +kernel
theorem dX6_drop_26 : decode cX6_drop 26 = .ok (.getfield 10, 3) := by decide +kernel
theorem dX6_drop_29 : decode cX6_drop 29 = .ok (.iload_n 1, 1) := by decide +kernel
theorem dX6_drop_30 : decode cX6_drop 30 = .ok (.invokevirtual 199, 3) := by decide +kernel
theorem dX6_drop_33 : decode cX6_drop 33 = .ok (.aload_n 0, 1) := by decide +kernel
theorem dX6_drop_34 : decode cX6_drop 34 = .ok (.getfield 10, 3) := by decide +kernel
theorem dX6_drop_37 : decode cX6_drop 37 = .ok (.getfield 68, 3) := by decide +kernel
theorem dX6_drop_40 : decode cX6_drop 40 = .ok (.ireturn, 1) := by decide +kernel
theorem dX6_map_0 : decode cX6_map 0 = .ok (.aload_n 0, 1) := by decide +kernel
theorem dX6_map_1 : decode cX6_map 1 = .ok (.getfield 10, 3) := by decide +kernel
theorem dX6_map_4 : decode cX6_map 4 = .ok (.iload_n 1, 1) := by decide +kernel
theorem dX6_map_5 : decode cX6_map 5 = .ok (.invokevirtual 147, 3) := by decide +kernel
theorem dX6_map_8 : decode cX6_map 8 = .ok (.ifCond .eq 25, 3) := by decide +kernel
theorem dX6_map_11 : decode cX6_map 11 = .ok (.aload_n 0, 1) := by decide +kernel
theorem dX6_map_12 : decode cX6_map 12 = .ok (.getfield 10, 3) := by decide +kernel
theorem dX6_map_15 : decode cX6_map 15 = .ok (.iload_n 2, 1) := by decide +kernel
theorem dX6_map_16 : decode cX6_map 16 = .ok (.invokevirtual 105, 3) := by decide +kernel
theorem dX6_map_19 : decode cX6_map 19 = .ok (.ifCond .eq 14, 3) := by decide +kernel
theorem dX6_map_22 : decode cX6_map 22 = .ok (.aload_n 0, 1) := by decide +kernel
theorem dX6_map_23 : decode cX6_map 23 = .ok (.getfield 10, 3) := by decide +kernel
theorem dX6_map_26 : decode cX6_map 26 = .ok (.iload_n 3, 1) := by decide +kernel
theorem dX6_map_27 : decode cX6_map 27 = .ok (.invokevirtual 105, 3) := by decide +kernel
theorem dX6_map_30 : decode cX6_map 30 = .ok (.ifCond .ne 6, 3) := by decide +kernel
theorem dX6_map_33 : decode cX6_map 33 = .ok (.ldc 109, 2) := by decide +kernel
theorem dX6_map_35 : decode cX6_map 35 = .ok (.ireturn, 1) := by decide +kernel
theorem dX6_map_36 : decode cX6_map 36 = .ok (.aload_n 0, 1) := by decide +kernel
theorem dX6_map_37 : decode cX6_map 37 = .ok (.getfield 19, 3) := by decide +kernel
theorem dX6_map_40 : decode cX6_map 40 = .ok (.aload_n 0, 1) := by decide +kernel
theorem dX6_map_41 : decode cX6_map 41 = .ok (.getfield 10, 3) := by decide +kernel
theorem dX6_map_44 : decode cX6_map 44 = .ok (.invokevirtual 185, 3) := by decide +kernel
theorem dX6_map_47 : decode cX6_map 47 = .ok (.iload_n 1, 1) := by decide +kernel
theorem dX6_map_48 : decode cX6_map 48 = .ok (.bipush 8, 2) := by decide +kernel
theorem dX6_map_50 : decode cX6_map 50 = .ok (.imul, 1) := by decide +kernel
theorem dX6_map_51 : decode cX6_map 51 = .ok (.iload_n 2, 1) := by decide +kernel
theorem dX6_map_52 : decode cX6_map 52 = .ok (.iadd, 1) := by decide +kernel
theorem dX6_map_53 : decode cX6_map 53 = .ok (.istore 4, 2) := by decide +kernel
theorem dX6_map_55 : decode cX6_map 55 = .ok (.aload_n 0, 1) := by decide +kernel
theorem dX6_map_56 : decode cX6_map 56 = .ok (.getfield 10, 3) := by decide +kernel
theorem dX6_map_59 : decode cX6_map 59 = .ok (.getfield 175, 3) := by decide +kernel
theorem dX6_map_62 : decode cX6_map 62 = .ok (.iload 4, 2) := by decide +kernel
theorem dX6_map_64 : decode cX6_map 64 = .ok (.iaload, 1) := by decide +kernel
theorem dX6_map_65 : decode cX6_map 65 = .ok (.istore 5, 2) := by decide +kernel
theorem dX6_map_67 : decode cX6_map 67 = .ok (.aload_n 0, 1) := by decide +kernel
theorem dX6_map_68 : decode cX6_map 68 = .ok (.getfield 10, 3) := by decide +kernel
theorem dX6_map_71 : decode cX6_map 71 = .ok (.getfield 175, 3) := by decide +kernel
theorem dX6_map_74 : decode cX6_map 74 = .ok (.iload 4, 2) := by decide +kernel
theorem dX6_map_76 : decode cX6_map 76 = .ok (.iload_n 3, 1) := by decide +kernel
theorem dX6_map_77 : decode cX6_map 77 = .ok (.iastore, 1) := by decide +kernel
theorem dX6_map_78 : decode cX6_map 78 = .ok (.iload 5, 2) := by decide +kernel
theorem dX6_map_80 : decode cX6_map 80 = .ok (.ireturn, 1) := by decide +kernel
theorem dX6_marks_0 : decode cX6_marks 0 = .ok (.aload_n 0, 1) := by decide +kernel
theorem dX6_marks_1 : decode cX6_marks 1 = .ok (.getfield 10, 3) := by decide +kernel
theorem dX6_marks_4 : decode cX6_marks 4 = .ok (.iload_n 1, 1) := by decide +kernel
theorem dX6_marks_5 : decode cX6_marks 5 = .ok (.invokevirtual 147, 3) := by decide +kernel
theorem dX6_marks_8 : decode cX6_marks 8 = .ok (.ifCond .ne 6, 3) := by decide +kernel
theorem dX6_marks_11 : decode cX6_marks 11 = .ok (.ldc 109, 2) := by decide +kernel
theorem dX6_marks_13 : decode cX6_marks 13 = .ok (.ireturn, 1) := by decide +kernel
theorem dX6_marks_14 : decode cX6_marks 14 = .ok (.iload_n 2, 1) := by decide +kernel
theorem dX6_marks_15 : decode cX6_marks 15 = .ok (.invokestatic 192, 3) := by decide +kernel
theorem dX6_marks_18 : decode cX6_marks 18 = .ok (.ifCond .eq 10, 3) := by decide +kernel
theorem dX6_marks_21 : decode cX6_marks 21 = .ok (.iload_n 3, 1) := by decide +kernel
theorem dX6_marks_22 : decode cX6_marks 22 = .ok (.invokestatic 192, 3) := by decide +kernel
theorem dX6_marks_25 : decode cX6_marks 25 = .ok (.ifCond .ne 6, 3) := by decide +kernel
theorem dX6_marks_28 : decode cX6_marks 28 = .ok (.ldc 104, 2) := by decide +kernel
theorem dX6_marks_30 : decode cX6_marks 30 = .ok (.ireturn, 1) := by decide +kernel
theorem dX6_marks_31 : decode cX6_marks 31 = .ok (.aload_n 0, 1) := by decide +kernel
theorem dX6_marks_32 : decode cX6_marks 32 = .ok (.getfield 19, 3) := by decide +kernel
theorem dX6_marks_35 : decode cX6_marks 35 = .ok (.aload_n 0, 1) := by decide +kernel
theorem dX6_marks_36 : decode cX6_marks 36 = .ok (.getfield 10, 3) := by decide +kernel
theorem dX6_marks_39 : decode cX6_marks 39 = .ok (.invokevirtual 185, 3) := by decide +kernel
theorem dX6_marks_42 : decode cX6_marks 42 = .ok (.aload_n 0, 1) := by decide +kernel
theorem dX6_marks_43 : decode cX6_marks 43 = .ok (.getfield 10, 3) := by decide +kernel
theorem dX6_marks_46 : decode cX6_marks 46 = .ok (.getfield 156, 3) := by decide +kernel
theorem dX6_marks_49 : decode cX6_marks 49 = .ok (.iload_n 1, 1) := by decide +kernel
theorem dX6_marks_50 : decode cX6_marks 50 = .ok (.iload_n 2, 1) := by decide +kernel
theorem dX6_marks_51 : decode cX6_marks 51 = .ok (.iastore, 1) := by decide +kernel
theorem dX6_marks_52 : decode cX6_marks 52 = .ok (.aload_n 0, 1) := by decide +kernel
theorem dX6_marks_53 : decode cX6_marks 53 = .ok (.getfield 10, 3) := by decide +kernel
theorem dX6_marks_56 : decode cX6_marks 56 = .ok (.getfield 159, 3) := by decide +kernel
theorem dX6_marks_59 : decode cX6_marks 59 = .ok (.iload_n 1, 1) := by decide +kernel
theorem dX6_marks_60 : decode cX6_marks 60 = .ok (.iload_n 3, 1) := by decide +kernel
theorem dX6_marks_61 : decode cX6_marks 61 = .ok (.iastore, 1) := by decide +kernel
theorem dX6_marks_62 : decode cX6_marks 62 = .ok (.iconst 1, 1) := by decide +kernel
theorem dX6_marks_63 : decode cX6_marks 63 = .ok (.ireturn, 1) := by decide +kernel
theorem dX6_gate_0 : decode cX6_gate 0 = .ok (.aload_n 0, 1) := by decide +kernel
theorem dX6_gate_1 : decode cX6_gate 1 = .ok (.getfield 10, 3) := by decide +kernel
theorem dX6_gate_4 : decode cX6_gate 4 = .ok (.iload_n 1, 1) := by decide +kernel
theorem dX6_gate_5 : decode cX6_gate 5 = .ok (.invokevirtual 147, 3) := by decide +kernel
theorem dX6_gate_8 : decode cX6_gate 8 = .ok (.ifCond .eq 14, 3) := by decide +kernel
theorem dX6_gate_11 : decode cX6_gate 11 = .ok (.aload_n 0, 1) := by decide +kernel
theorem dX6_gate_12 : decode cX6_gate 12 = .ok (.getfield 10, 3) := by decide +kernel
theorem dX6_gate_15 : decode cX6_gate 15 = .ok (.iload_n 2, 1) := by decide +kernel
theorem dX6_gate_16 : decode cX6_gate 16 = .ok (.invokevirtual 105, 3) := by decide +kernel
theorem dX6_gate_19 : decode cX6_gate 19 = .ok (.ifCond .ne 6, 3) := by decide +kernel
theorem dX6_gate_22 : decode cX6_gate 22 = .ok (.ldc 109, 2) := by decide +kernel
theorem dX6_gate_24 : decode cX6_gate 24 = .ok (.ireturn, 1) := by decide +kernel
theorem dX6_gate_25 : decode cX6_gate 25 = .ok (.aload_n 0, 1) := by decide +kernel
theorem dX6_gate_26 : decode cX6_gate 26 = .ok (.getfield 19, 3) := by decide +kernel
theorem dX6_gate_29 : decode cX6_gate 29 = .ok (.aload_n 0, 1) := by decide +kernel
theorem dX6_gate_30 : decode cX6_gate 30 = .ok (.getfield 10, 3) := by decide +kernel
theorem dX6_gate_33 : decode cX6_gate 33 = .ok (.invokevirtual 185, 3) := by decide +kernel
theorem dX6_gate_36 : decode cX6_gate 36 = .ok (.aload_n 0, 1) := by decide +kernel
theorem dX6_gate_37 : decode cX6_gate 37 = .ok (.getfield 10, 3) := by decide +kernel
theorem dX6_gate_40 : decode cX6_gate 40 = .ok (.getfield 162, 3) := by decide +kernel
theorem dX6_gate_43 : decode cX6_gate 43 = .ok (.iload_n 1, 1) := by decide +kernel
theorem dX6_gate_44 : decode cX6_gate 44 = .ok (.iaload, 1) := by decide +kernel
theorem dX6_gate_45 : decode cX6_gate 45 = .ok (.istore_n 3, 1) := by decide +kernel
theorem dX6_gate_46 : decode cX6_gate 46 = .ok (.aload_n 0, 1) := by decide +kernel
theorem dX6_gate_47 : decode cX6_gate 47 = .ok (.getfield 10, 3) := by decide +kernel
theorem dX6_gate_50 : decode cX6_gate 50 = .ok (.getfield 162, 3) := by decide +kernel
theorem dX6_gate_53 : decode cX6_gate 53 = .ok (.iload_n 1, 1) := by decide +kernel
theorem dX6_gate_54 : decode cX6_gate 54 = .ok (.iload_n 2, 1) := by decide +kernel
theorem dX6_gate_55 : decode cX6_gate 55 = .ok (.iastore, 1) := by decide +kernel
theorem dX6_gate_56 : decode cX6_gate 56 = .ok (.iload_n 3, 1) := by decide +kernel
theorem dX6_gate_57 : decode cX6_gate 57 = .ok (.ireturn, 1) := by decide +kernel
theorem dX6_write_0 : decode cX6_write 0 = .ok (.aload_n 0, 1) := by decide +kernel
theorem dX6_write_1 : decode cX6_write 1 = .ok (.getfield 10, 3) := by decide +kernel
theorem dX6_write_4 : decode cX6_write 4 = .ok (.iload_n 1, 1) := by decide +kernel
theorem dX6_write_5 : decode cX6_write 5 = .ok (.invokevirtual 118, 3) := by decide +kernel
theorem dX6_write_8 : decode cX6_write 8 = .ok (.ifCond .eq 14, 3) := by decide +kernel
theorem dX6_write_11 : decode cX6_write 11 = .ok (.aload_n 0, 1) := by decide +kernel
theorem dX6_write_12 : decode cX6_write 12 = .ok (.getfield 10, 3) := by decide +kernel
theorem dX6_write_15 : decode cX6_write 15 = .ok (.iload_n 2, 1) := by decide +kernel
theorem dX6_write_16 : decode cX6_write 16 = .ok (.invokevirtual 105, 3) := by decide +kernel
theorem dX6_write_19 : decode cX6_write 19 = .ok (.ifCond .ne 6, 3) := by decide +kernel
theorem dX6_write_22 : decode cX6_write 22 = .ok (.ldc 109, 2) := by decide +kernel
theorem dX6_write_24 : decode cX6_write 24 = .ok (.ireturn, 1) := by decide +kernel
theorem dX6_write_25 : decode cX6_write 25 = .ok (.iload_n 3, 1) := by decide +kernel
theorem dX6_write_26 : decode cX6_write 26 = .ok (.invokestatic 192, 3) := by decide +kernel
theorem dX6_write_29 : decode cX6_write 29 = .ok (.ifCond .ne 6, 3) := by decide +kernel
theorem dX6_write_32 : decode cX6_write 32 = .ok (.ldc 104, 2) := by decide +kernel
theorem dX6_write_34 : decode cX6_write 34 = .ok (.ireturn, 1) := by decide +kernel
theorem dX6_write_35 : decode cX6_write 35 = .ok (.aload_n 0, 1) := by decide +kernel
theorem dX6_write_36 : decode cX6_write 36 = .ok (.getfield 10, 3) := by decide +kernel
theorem dX6_write_39 : decode cX6_write 39 = .ok (.iload_n 1, 1) := by decide +kernel
theorem dX6_write_40 : decode cX6_write 40 = .ok (.invokevirtual 141, 3) := by decide +kernel
theorem dX6_write_43 : decode cX6_write 43 = .ok (.ifCond .ne 6, 3) := by decide +kernel
theorem dX6_write_46 : decode cX6_write 46 = .ok (.ldc 203, 2) := by decide +kernel
theorem dX6_write_48 : decode cX6_write 48 = .ok (.ireturn, 1) := by decide +kernel
theorem dX6_write_49 : decode cX6_write 49 = .ok (.aload_n 0, 1) := by decide +kernel
theorem dX6_write_50 : decode cX6_write 50 = .ok (.getfield 19, 3) := by decide +kernel
theorem dX6_write_53 : decode cX6_write 53 = .ok (.aload_n 0, 1) := by decide +kernel
theorem dX6_write_54 : decode cX6_write 54 = .ok (.getfield 10, 3) := by decide +kernel
theorem dX6_write_57 : decode cX6_write 57 = .ok (.invokevirtual 185, 3) := by decide +kernel
theorem dX6_write_60 : decode cX6_write 60 = .ok (.aload_n 0, 1) := by decide +kernel
theorem dX6_write_61 : decode cX6_write 61 = .ok (.getfield 10, 3) := by decide +kernel
theorem dX6_write_64 : decode cX6_write 64 = .ok (.getfield 144, 3) := by decide +kernel
theorem dX6_write_67 : decode cX6_write 67 = .ok (.iload_n 1, 1) := by decide +kernel
theorem dX6_write_68 : decode cX6_write 68 = .ok (.iload_n 2, 1) := by decide +kernel
theorem dX6_write_69 : decode cX6_write 69 = .ok (.sipush 256, 3) := by decide +kernel
theorem dX6_write_72 : decode cX6_write 72 = .ok (.imul, 1) := by decide +kernel
theorem dX6_write_73 : decode cX6_write 73 = .ok (.iload_n 3, 1) := by decide +kernel
theorem dX6_write_74 : decode cX6_write 74 = .ok (.iadd, 1) := by decide +kernel
theorem dX6_write_75 : decode cX6_write 75 = .ok (.iastore, 1) := by decide +kernel
theorem dX6_write_76 : decode cX6_write 76 = .ok (.aload_n 0, 1) := by decide +kernel
theorem dX6_write_77 : decode cX6_write 77 = .ok (.getfield 53, 3) := by decide +kernel
theorem dX6_write_80 : decode cX6_write 80 = .ok (.aload_n 0, 1) := by decide +kernel
theorem dX6_write_81 : decode cX6_write 81 = .ok (.getfield 10, 3) := by decide +kernel
theorem dX6_write_84 : decode cX6_write 84 = .ok (.invokevirtual 85, 3) := by decide +kernel
theorem dX6_write_87 : decode cX6_write 87 = .ok (.ireturn, 1) := by decide +kernel
theorem dX6_copy_0 : decode cX6_copy 0 = .ok (.aload_n 0, 1) := by decide +kernel
theorem dX6_copy_1 : decode cX6_copy 1 = .ok (.invokevirtual 132, 3) := by decide +kernel
theorem dX6_copy_4 : decode cX6_copy 4 = .ok (.ifCond .ne 6, 3) := by decide +kernel
theorem dX6_copy_7 : decode cX6_copy 7 = .ok (.ldc 203, 2) := by decide +kernel
theorem dX6_copy_9 : decode cX6_copy 9 = .ok (.ireturn, 1) := by decide +kernel
theorem dX6_copy_10 : decode cX6_copy 10 = .ok (.aload_n 0, 1) := by decide +kernel
theorem dX6_copy_11 : decode cX6_copy 11 = .ok (.getfield 19, 3) := by decide +kernel
theorem dX6_copy_14 : decode cX6_copy 14 = .ok (.aload_n 0, 1) := by decide +kernel
theorem dX6_copy_15 : decode cX6_copy 15 = .ok (.getfield 10, 3) := by decide +kernel
theorem dX6_copy_18 : decode cX6_copy 18 = .ok (.invokevirtual 185, 3) := by decide +kernel
theorem dX6_copy_21 : decode cX6_copy 21 = .ok (.iconst 0, 1) := by decide +kernel
theorem dX6_copy_22 : decode cX6_copy 22 = .ok (.istore_n 1, 1) := by decide +kernel
theorem dX6_copy_23 : decode cX6_copy 23 = .ok (.iconst 0, 1) := by decide +kernel
theorem dX6_copy_24 : decode cX6_copy 24 = .ok (.istore_n 2, 1) := by decide +kernel
theorem dX6_copy_25 : decode cX6_copy 25 = .ok (.iload_n 2, 1) := by decide +kernel
theorem dX6_copy_26 : decode cX6_copy 26 = .ok (.aload_n 0, 1) := by decide +kernel
theorem dX6_copy_27 : decode cX6_copy 27 = .ok (.getfield 10, 3) := by decide +kernel
theorem dX6_copy_30 : decode cX6_copy 30 = .ok (.getfield 65, 3) := by decide +kernel
theorem dX6_copy_33 : decode cX6_copy 33 = .ok (.if_icmp .ge 41, 3) := by decide +kernel
theorem dX6_copy_36 : decode cX6_copy 36 = .ok (.aload_n 0, 1) := by decide +kernel
theorem dX6_copy_37 : decode cX6_copy 37 = .ok (.getfield 10, 3) := by decide +kernel
theorem dX6_copy_40 : decode cX6_copy 40 = .ok (.iload_n 2, 1) := by decide +kernel
theorem dX6_copy_41 : decode cX6_copy 41 = .ok (.invokevirtual 141, 3) := by decide +kernel
theorem dX6_copy_44 : decode cX6_copy 44 = .ok (.ifCond .eq 24, 3) := by decide +kernel
theorem dX6_copy_47 : decode cX6_copy 47 = .ok (.aload_n 0, 1) := by decide +kernel
theorem dX6_copy_48 : decode cX6_copy 48 = .ok (.getfield 10, 3) := by decide +kernel
theorem dX6_copy_51 : decode cX6_copy 51 = .ok (.getfield 144, 3) := by decide +kernel
theorem dX6_copy_54 : decode cX6_copy 54 = .ok (.iload_n 2, 1) := by decide +kernel
theorem dX6_copy_55 : decode cX6_copy 55 = .ok (.aload_n 0, 1) := by decide +kernel
theorem dX6_copy_56 : decode cX6_copy 56 = .ok (.getfield 43, 3) := by decide +kernel
theorem dX6_copy_59 : decode cX6_copy 59 = .ok (.getfield 135, 3) := by decide +kernel
theorem dX6_copy_62 : decode cX6_copy 62 = .ok (.iload_n 2, 1) := by decide +kernel
theorem dX6_copy_63 : decode cX6_copy 63 = .ok (.iaload, 1) := by decide +kernel
theorem dX6_copy_64 : decode cX6_copy 64 = .ok (.iastore, 1) := by decide +kernel
theorem dX6_copy_65 : decode cX6_copy 65 = .ok (.iinc 1 1, 3) := by decide +kernel
theorem dX6_copy_68 : decode cX6_copy 68 = .ok (.iinc 2 1, 3) := by decide +kernel
theorem dX6_copy_71 : decode cX6_copy 71 = .ok (.goto (-46), 3) := by decide +kernel
theorem dX6_copy_74 : decode cX6_copy 74 = .ok (.iload_n 1, 1) := by decide +kernel
theorem dX6_copy_75 : decode cX6_copy 75 = .ok (.ireturn, 1) := by decide +kernel
theorem dX6_drift_0 : decode cX6_drift 0 = .ok (.iload_n 1, 1) := by decide +kernel
theorem dX6_drift_1 : decode cX6_drift 1 = .ok (.iconst 1, 1) := by decide +kernel
theorem dX6_drift_2 : decode cX6_drift 2 = .ok (.if_icmp .lt 9, 3) := by decide +kernel
theorem dX6_drift_5 : decode cX6_drift 5 = .ok (.iload_n 1, 1) := by decide +kernel
theorem dX6_drift_6 : decode cX6_drift 6 = .ok (.bipush 16, 2) := by decide +kernel
theorem dX6_drift_8 : decode cX6_drift 8 = .ok (.if_icmp .le 6, 3) := by decide +kernel
theorem dX6_drift_11 : decode cX6_drift 11 = .ok (.ldc 104, 2) := by decide +kernel
theorem dX6_drift_13 : decode cX6_drift 13 = .ok (.ireturn, 1) := by decide +kernel
theorem dX6_drift_14 : decode cX6_drift 14 = .ok (.iconst 0, 1) := by decide +kernel
theorem dX6_drift_15 : decode cX6_drift 15 = .ok (.istore_n 2, 1) := by decide +kernel
theorem dX6_drift_16 : decode cX6_drift 16 = .ok (.iload_n 2, 1) := by decide +kernel
theorem dX6_drift_17 : decode cX6_drift 17 = .ok (.iload_n 1, 1) := by decide +kernel
theorem dX6_drift_18 : decode cX6_drift 18 = .ok (.if_icmp .ge 46, 3) := by decide +kernel
theorem dX6_drift_21 : decode cX6_drift 21 = .ok (.aload_n 0, 1) := by decide +kernel
theorem dX6_drift_22 : decode cX6_drift 22 = .ok (.getfield 10, 3) := by decide +kernel
theorem dX6_drift_25 : decode cX6_drift 25 = .ok (.getfield 65, 3) := by decide +kernel
theorem dX6_drift_28 : decode cX6_drift 28 = .ok (.ifCond .le 36, 3) := by decide +kernel
theorem dX6_drift_31 : decode cX6_drift 31 = .ok (.aload_n 0, 1) := by decide +kernel
theorem dX6_drift_32 : decode cX6_drift 32 = .ok (.getfield 10, 3) := by decide +kernel
theorem dX6_drift_35 : decode cX6_drift 35 = .ok (.getfield 68, 3) := by decide +kernel
theorem dX6_drift_38 : decode cX6_drift 38 = .ok (.bipush 20, 2) := by decide +kernel
theorem dX6_drift_40 : decode cX6_drift 40 = .ok (.if_icmp .ge 24, 3) := by decide +kernel
theorem dX6_drift_43 : decode cX6_drift 43 = .ok (.aload_n 0, 1) := by decide +kernel
theorem dX6_drift_44 : decode cX6_drift 44 = .ok (.getfield 19, 3) := by decide +kernel
theorem dX6_drift_47 : decode cX6_drift 47 = .ok (.aload_n 0, 1) := by decide +kernel
theorem dX6_drift_48 : decode cX6_drift 48 = .ok (.getfield 10, 3) := by decide +kernel
theorem dX6_drift_51 : decode cX6_drift 51 = .ok (.invokevirtual 185, 3) := by decide +kernel
theorem dX6_drift_54 : decode cX6_drift 54 = .ok (.aload_n 0, 1) := by decide +kernel
theorem dX6_drift_55 : decode cX6_drift 55 = .ok (.invokevirtual 204, 3) := by decide +kernel
theorem dX6_drift_58 : decode cX6_drift 58 = .ok (.iinc 2 1, 3) := by decide +kernel
theorem dX6_drift_61 : decode cX6_drift 61 = .ok (.goto (-45), 3) := by decide +kernel
theorem dX6_drift_64 : decode cX6_drift 64 = .ok (.aload_n 0, 1) := by decide +kernel
theorem dX6_drift_65 : decode cX6_drift 65 = .ok (.getfield 10, 3) := by decide +kernel
theorem dX6_drift_68 : decode cX6_drift 68 = .ok (.getfield 68, 3) := by decide +kernel
theorem dX6_drift_71 : decode cX6_drift 71 = .ok (.ireturn, 1) := by decide +kernel
theorem dX6_undo_0 : decode cX6_undo 0 = .ok (.iload_n 1, 1) := by decide +kernel
theorem dX6_undo_1 : decode cX6_undo 1 = .ok (.iconst 1, 1) := by decide +kernel
theorem dX6_undo_2 : decode cX6_undo 2 = .ok (.if_icmp .lt 9, 3) := by decide +kernel
theorem dX6_undo_5 : decode cX6_undo 5 = .ok (.iload_n 1, 1) := by decide +kernel
theorem dX6_undo_6 : decode cX6_undo 6 = .ok (.bipush 16, 2) := by decide +kernel
theorem dX6_undo_8 : decode cX6_undo 8 = .ok (.if_icmp .le 6, 3) := by decide +kernel
theorem dX6_undo_11 : decode cX6_undo 11 = .ok (.ldc 104, 2) := by decide +kernel
theorem dX6_undo_13 : decode cX6_undo 13 = .ok (.ireturn, 1) := by decide +kernel
theorem dX6_undo_14 : decode cX6_undo 14 = .ok (.iload_n 1, 1) := by decide +kernel
theorem dX6_undo_15 : decode cX6_undo 15 = .ok (.aload_n 0, 1) := by decide +kernel
theorem dX6_undo_16 : decode cX6_undo 16 = .ok (.getfield 19, 3) := by decide +kernel
theorem dX6_undo_19 : decode cX6_undo 19 = .ok (.getfield 101, 3) := by decide +kernel
theorem dX6_undo_22 : decode cX6_undo 22 = .ok (.if_icmp .le 6, 3) := by decide +kernel
theorem dX6_undo_25 : decode cX6_undo 25 = .ok (.ldc 203, 2) := by decide +kernel
theorem dX6_undo_27 : decode cX6_undo 27 = .ok (.ireturn, 1) := by decide +kernel
theorem dX6_undo_28 : decode cX6_undo 28 = .ok (.aload_n 0, 1) := by decide +kernel
theorem dX6_undo_29 : decode cX6_undo 29 = .ok (.getfield 19, 3) := by decide +kernel
theorem dX6_undo_32 : decode cX6_undo 32 = .ok (.aload_n 0, 1) := by decide +kernel
theorem dX6_undo_33 : decode cX6_undo 33 = .ok (.getfield 10, 3) := by decide +kernel
theorem dX6_undo_36 : decode cX6_undo 36 = .ok (.iload_n 1, 1) := by decide +kernel
theorem dX6_undo_37 : decode cX6_undo 37 = .ok (.invokevirtual 207, 3) := by decide +kernel
theorem dX6_undo_40 : decode cX6_undo 40 = .ok (.aload_n 0, 1) := by decide +kernel
theorem dX6_undo_41 : decode cX6_undo 41 = .ok (.getfield 10, 3) := by decide +kernel
theorem dX6_undo_44 : decode cX6_undo 44 = .ok (.getfield 68, 3) := by decide +kernel
theorem dX6_undo_47 : decode cX6_undo 47 = .ok (.ireturn, 1) := by decide +kernel
theorem dX6_note_0 : decode cX6_note 0 = .ok (.aload_n 0, 1) := by decide +kernel
theorem dX6_note_1 : decode cX6_note 1 = .ok (.getfield 10, 3) := by decide +kernel
theorem dX6_note_4 : decode cX6_note 4 = .ok (.iload_n 1, 1) := by decide +kernel
theorem dX6_note_5 : decode cX6_note 5 = .ok (.invokevirtual 118, 3) := by decide +kernel
theorem dX6_note_8 : decode cX6_note 8 = .ok (.ifCond .eq 14, 3) := by decide +kernel
theorem dX6_note_11 : decode cX6_note 11 = .ok (.aload_n 0, 1) := by decide +kernel
theorem dX6_note_12 : decode cX6_note 12 = .ok (.getfield 10, 3) := by decide +kernel
theorem dX6_note_15 : decode cX6_note 15 = .ok (.iload_n 2, 1) := by decide +kernel
theorem dX6_note_16 : decode cX6_note 16 = .ok (.invokevirtual 105, 3) := by decide +kernel
theorem dX6_note_19 : decode cX6_note 19 = .ok (.ifCond .ne 6, 3) := by decide +kernel
theorem dX6_note_22 : decode cX6_note 22 = .ok (.ldc 109, 2) := by decide +kernel
theorem dX6_note_24 : decode cX6_note 24 = .ok (.ireturn, 1) := by decide +kernel
theorem dX6_note_25 : decode cX6_note 25 = .ok (.iload_n 3, 1) := by decide +kernel
theorem dX6_note_26 : decode cX6_note 26 = .ok (.invokestatic 192, 3) := by decide +kernel
theorem dX6_note_29 : decode cX6_note 29 = .ok (.ifCond .ne 6, 3) := by decide +kernel
theorem dX6_note_32 : decode cX6_note 32 = .ok (.ldc 104, 2) := by decide +kernel
theorem dX6_note_34 : decode cX6_note 34 = .ok (.ireturn, 1) := by decide +kernel
theorem dX6_note_35 : decode cX6_note 35 = .ok (.aload_n 0, 1) := by decide +kernel
theorem dX6_note_36 : decode cX6_note 36 = .ok (.getfield 36, 3) := by decide +kernel
theorem dX6_note_39 : decode cX6_note 39 = .ok (.getfield 95, 3) := by decide +kernel
theorem dX6_note_42 : decode cX6_note 42 = .ok (.bipush 20, 2) := by decide +kernel
theorem dX6_note_44 : decode cX6_note 44 = .ok (.if_icmp .lt 6, 3) := by decide +kernel
theorem dX6_note_47 : decode cX6_note 47 = .ok (.ldc 195, 2) := by decide +kernel
theorem dX6_note_49 : decode cX6_note 49 = .ok (.ireturn, 1) := by decide +kernel
theorem dX6_note_50 : decode cX6_note 50 = .ok (.aload_n 0, 1) := by decide +kernel
theorem dX6_note_51 : decode cX6_note 51 = .ok (.getfield 36, 3) := by decide +kernel
theorem dX6_note_54 : decode cX6_note 54 = .ok (.iload_n 1, 1) := by decide +kernel
theorem dX6_note_55 : decode cX6_note 55 = .ok (.iload_n 2, 1) := by decide +kernel
theorem dX6_note_56 : decode cX6_note 56 = .ok (.sipush 256, 3) := by decide +kernel
theorem dX6_note_59 : decode cX6_note 59 = .ok (.imul, 1) := by decide +kernel
theorem dX6_note_60 : decode cX6_note 60 = .ok (.iload_n 3, 1) := by decide +kernel
theorem dX6_note_61 : decode cX6_note 61 = .ok (.iadd, 1) := by decide +kernel
theorem dX6_note_62 : decode cX6_note 62 = .ok (.invokevirtual 211, 3) := by decide +kernel
theorem dX6_note_65 : decode cX6_note 65 = .ok (.aload_n 0, 1) := by decide +kernel
theorem dX6_note_66 : decode cX6_note 66 = .ok (.getfield 36, 3) := by decide +kernel
theorem dX6_note_69 : decode cX6_note 69 = .ok (.getfield 95, 3) := by decide +kernel
theorem dX6_note_72 : decode cX6_note 72 = .ok (.ireturn, 1) := by decide +kernel
theorem dX6_tear_0 : decode cX6_tear 0 = .ok (.aload_n 0, 1) := by decide +kernel
theorem dX6_tear_1 : decode cX6_tear 1 = .ok (.getfield 36, 3) := by decide +kernel
theorem dX6_tear_4 : decode cX6_tear 4 = .ok (.getfield 95, 3) := by decide +kernel
theorem dX6_tear_7 : decode cX6_tear 7 = .ok (.istore_n 1, 1) := by decide +kernel
theorem dX6_tear_8 : decode cX6_tear 8 = .ok (.aload_n 0, 1) := by decide +kernel
theorem dX6_tear_9 : decode cX6_tear 9 = .ok (.getfield 36, 3) := by decide +kernel
theorem dX6_tear_12 : decode cX6_tear 12 = .ok (.iconst 0, 1) := by decide +kernel
theorem dX6_tear_13 : decode cX6_tear 13 = .ok (.putfield 95, 3) := by decide +kernel
theorem dX6_tear_16 : decode cX6_tear 16 = .ok (.iload_n 1, 1) := by decide +kernel
theorem dX6_tear_17 : decode cX6_tear 17 = .ok (.ireturn, 1) := by decide +kernel
theorem dX6_seed_0 : decode cX6_seed 0 = .ok (.iload_n 1, 1) := by decide +kernel
theorem dX6_seed_1 : decode cX6_seed 1 = .ok (.ifCond .ge 6, 3) := by decide +kernel
theorem dX6_seed_4 : decode cX6_seed 4 = .ok (.ldc 104, 2) := by decide +kernel
theorem dX6_seed_6 : decode cX6_seed 6 = .ok (.ireturn, 1) := by decide +kernel
theorem dX6_seed_7 : decode cX6_seed 7 = .ok (.aload_n 0, 1) := by decide +kernel
theorem dX6_seed_8 : decode cX6_seed 8 = .ok (.getfield 215, 3) := by decide +kernel
theorem dX6_seed_11 : decode cX6_seed 11 = .ok (.istore_n 2, 1) := by decide +kernel
theorem dX6_seed_12 : decode cX6_seed 12 = .ok (.aload_n 0, 1) := by decide +kernel
theorem dX6_seed_13 : decode cX6_seed 13 = .ok (.iload_n 1, 1) := by decide +kernel
theorem dX6_seed_14 : decode cX6_seed 14 = .ok (.putfield 215, 3) := by decide +kernel
theorem dX6_seed_17 : decode cX6_seed 17 = .ok (.iload_n 2, 1) := by decide +kernel
theorem dX6_seed_18 : decode cX6_seed 18 = .ok (.ireturn, 1) := by decide +kernel
theorem dX6_keep_0 : decode cX6_keep 0 = .ok (.iload_n 1, 1) := by decide +kernel
theorem dX6_keep_1 : decode cX6_keep 1 = .ok (.ifCond .lt 8, 3) := by decide +kernel
theorem dX6_keep_4 : decode cX6_keep 4 = .ok (.iload_n 1, 1) := by decide +kernel
theorem dX6_keep_5 : decode cX6_keep 5 = .ok (.iconst 1, 1) := by decide +kernel
theorem dX6_keep_6 : decode cX6_keep 6 = .ok (.if_icmp .le 6, 3) := by decide +kernel
theorem dX6_keep_9 : decode cX6_keep 9 = .ok (.ldc 109, 2) := by decide +kernel
theorem dX6_keep_11 : decode cX6_keep 11 = .ok (.ireturn, 1) := by decide +kernel
theorem dX6_keep_12 : decode cX6_keep 12 = .ok (.iload_n 1, 1) := by decide +kernel
theorem dX6_keep_13 : decode cX6_keep 13 = .ok (.ifCond .ne 10, 3) := by decide +kernel
theorem dX6_keep_16 : decode cX6_keep 16 = .ok (.aload_n 0, 1) := by decide +kernel
theorem dX6_keep_17 : decode cX6_keep 17 = .ok (.getfield 26, 3) := by decide +kernel
theorem dX6_keep_20 : decode cX6_keep 20 = .ok (.goto 7, 3) := by decide +kernel
theorem dX6_keep_23 : decode cX6_keep 23 = .ok (.aload_n 0, 1) := by decide +kernel
theorem dX6_keep_24 : decode cX6_keep 24 = .ok (.getfield 30, 3) := by decide +kernel
theorem dX6_keep_27 : decode cX6_keep 27 = .ok (.astore_n 2, 1) := by decide +kernel
theorem dX6_keep_28 : decode cX6_keep 28 = .ok (.aload_n 2, 1) := by decide +kernel
theorem dX6_keep_29 : decode cX6_keep 29 = .ok (.iconst 1, 1) := by decide +kernel
theorem dX6_keep_30 : decode cX6_keep 30 = .ok (.putfield 218, 3) := by decide +kernel
theorem dX6_keep_33 : decode cX6_keep 33 = .ok (.aload_n 2, 1) := by decide +kernel
theorem dX6_keep_34 : decode cX6_keep 34 = .ok (.getfield 222, 3) := by decide +kernel
theorem dX6_keep_37 : decode cX6_keep 37 = .ok (.aload_n 0, 1) := by decide +kernel
theorem dX6_keep_38 : decode cX6_keep 38 = .ok (.getfield 10, 3) := by decide +kernel
theorem dX6_keep_41 : decode cX6_keep 41 = .ok (.invokevirtual 223, 3) := by decide +kernel
theorem dX6_keep_44 : decode cX6_keep 44 = .ok (.aload_n 2, 1) := by decide +kernel
theorem dX6_keep_45 : decode cX6_keep 45 = .ok (.aload_n 0, 1) := by decide +kernel
theorem dX6_keep_46 : decode cX6_keep 46 = .ok (.getfield 215, 3) := by decide +kernel
theorem dX6_keep_49 : decode cX6_keep 49 = .ok (.putfield 226, 3) := by decide +kernel
theorem dX6_keep_52 : decode cX6_keep 52 = .ok (.aload_n 0, 1) := by decide +kernel
theorem dX6_keep_53 : decode cX6_keep 53 = .ok (.getfield 19, 3) := by decide +kernel
theorem dX6_keep_56 : decode cX6_keep 56 = .ok (.invokevirtual 227, 3) := by decide +kernel
theorem dX6_keep_59 : decode cX6_keep 59 = .ok (.iconst 1, 1) := by decide +kernel
theorem dX6_keep_60 : decode cX6_keep 60 = .ok (.ireturn, 1) := by decide +kernel
theorem dX6_goBack_0 : decode cX6_goBack 0 = .ok (.iload_n 1, 1) := by decide +kernel
theorem dX6_goBack_1 : decode cX6_goBack 1 = .ok (.ifCond .lt 8, 3) := by decide +kernel
theorem dX6_goBack_4 : decode cX6_goBack 4 = .ok (.iload_n 1, 1) := by decide +kernel
theorem dX6_goBack_5 : decode cX6_goBack 5 = .ok (.iconst 1, 1) := by decide +kernel
theorem dX6_goBack_6 : decode cX6_goBack 6 = .ok (.if_icmp .le 6, 3) := by decide +kernel
theorem dX6_goBack_9 : decode cX6_goBack 9 = .ok (.ldc 109, 2) := by decide +kernel
theorem dX6_goBack_11 : decode cX6_goBack 11 = .ok (.ireturn, 1) := by decide +kernel
theorem dX6_goBack_12 : decode cX6_goBack 12 = .ok (.iload_n 1, 1) := by decide +kernel
theorem dX6_goBack_13 : decode cX6_goBack 13 = .ok (.ifCond .ne 10, 3) := by decide +kernel
theorem dX6_goBack_16 : decode cX6_goBack 16 = .ok (.aload_n 0, 1) := by decide +kernel
theorem dX6_goBack_17 : decode cX6_goBack 17 = .ok (.getfield 26, 3) := by decide +kernel
theorem dX6_goBack_20 : decode cX6_goBack 20 = .ok (.goto 7, 3) := by decide +kernel
theorem dX6_goBack_23 : decode cX6_goBack 23 = .ok (.aload_n 0, 1) := by decide +kernel
theorem dX6_goBack_24 : decode cX6_goBack 24 = .ok (.getfield 30, 3) := by decide +kernel
theorem dX6_goBack_27 : decode cX6_goBack 27 = .ok (.astore_n 2, 1) := by decide +kernel
theorem dX6_goBack_28 : decode cX6_goBack 28 = .ok (.aload_n 2, 1) := by decide +kernel
theorem dX6_goBack_29 : decode cX6_goBack 29 = .ok (.getfield 218, 3) := by decide +kernel
theorem dX6_goBack_32 : decode cX6_goBack 32 = .ok (.ifCond .ne 6, 3) := by decide +kernel
theorem dX6_goBack_35 : decode cX6_goBack 35 = .ok (.ldc 203, 2) := by decide +kernel
theorem dX6_goBack_37 : decode cX6_goBack 37 = .ok (.ireturn, 1) := by decide +kernel
theorem dX6_goBack_38 : decode cX6_goBack 38 = .ok (.aload_n 0, 1) := by decide +kernel
theorem dX6_goBack_39 : decode cX6_goBack 39 = .ok (.getfield 10, 3) := by decide +kernel
theorem dX6_goBack_42 : decode cX6_goBack 42 = .ok (.aload_n 2, 1) := by decide +kernel
theorem dX6_goBack_43 : decode cX6_goBack 43 = .ok (.getfield 222, 3) := by decide +kernel
theorem dX6_goBack_46 : decode cX6_goBack 46 = .ok (.invokevirtual 223, 3) := by decide +kernel
theorem dX6_goBack_49 : decode cX6_goBack 49 = .ok (.aload_n 0, 1) := by decide +kernel
theorem dX6_goBack_50 : decode cX6_goBack 50 = .ok (.aload_n 2, 1) := by decide +kernel
theorem dX6_goBack_51 : decode cX6_goBack 51 = .ok (.getfield 226, 3) := by decide +kernel
theorem dX6_goBack_54 : decode cX6_goBack 54 = .ok (.putfield 215, 3) := by decide +kernel
theorem dX6_goBack_57 : decode cX6_goBack 57 = .ok (.aload_n 0, 1) := by decide +kernel
theorem dX6_goBack_58 : decode cX6_goBack 58 = .ok (.getfield 19, 3) := by decide +kernel
theorem dX6_goBack_61 : decode cX6_goBack 61 = .ok (.invokevirtual 227, 3) := by decide +kernel
theorem dX6_goBack_64 : decode cX6_goBack 64 = .ok (.iconst 1, 1) := by decide +kernel
theorem dX6_goBack_65 : decode cX6_goBack 65 = .ok (.ireturn, 1) := by decide +kernel
theorem dX6_valueOf_0 : decode cX6_valueOf 0 = .ok (.iload_n 0, 1) := by decide +kernel
theorem dX6_valueOf_1 : decode cX6_valueOf 1 = .ok (.sipush 256, 3) := by decide +kernel
theorem dX6_valueOf_4 : decode cX6_valueOf 4 = .ok (.idiv, 1) := by decide +kernel
theorem dX6_valueOf_5 : decode cX6_valueOf 5 = .ok (.ireturn, 1) := by decide +kernel
theorem dX6_setOf_0 : decode cX6_setOf 0 = .ok (.iload_n 0, 1) := by decide +kernel
theorem dX6_setOf_1 : decode cX6_setOf 1 = .ok (.sipush 255, 3) := by decide +kernel
theorem dX6_setOf_4 : decode cX6_setOf 4 = .ok (.iand, 1) := by decide +kernel
theorem dX6_setOf_5 : decode cX6_setOf 5 = .ok (.ireturn, 1) := by decide +kernel
theorem dX6_isSet_0 : decode cX6_isSet 0 = .ok (.iload_n 0, 1) := by decide +kernel
theorem dX6_isSet_1 : decode cX6_isSet 1 = .ok (.ifCond .lt 14, 3) := by decide +kernel
theorem dX6_isSet_4 : decode cX6_isSet 4 = .ok (.iload_n 0, 1) := by decide +kernel
theorem dX6_isSet_5 : decode cX6_isSet 5 = .ok (.sipush 255, 3) := by decide +kernel
theorem dX6_isSet_8 : decode cX6_isSet 8 = .ok (.if_icmp .gt 7, 3) := by decide +kernel
theorem dX6_isSet_11 : decode cX6_isSet 11 = .ok (.iconst 1, 1) := by decide +kernel
theorem dX6_isSet_12 : decode cX6_isSet 12 = .ok (.goto 4, 3) := by decide +kernel
theorem dX6_isSet_15 : decode cX6_isSet 15 = .ok (.iconst 0, 1) := by decide +kernel
theorem dX6_isSet_16 : decode cX6_isSet 16 = .ok (.ireturn, 1) := by decide +kernel
theorem dX6_isChoice_0 : decode cX6_isChoice 0 = .ok (.iload_n 0, 1) := by decide +kernel
theorem dX6_isChoice_1 : decode cX6_isChoice 1 = .ok (.ifCond .lt 12, 3) := by decide +kernel
theorem dX6_isChoice_4 : decode cX6_isChoice 4 = .ok (.iload_n 0, 1) := by decide +kernel
theorem dX6_isChoice_5 : decode cX6_isChoice 5 = .ok (.iconst 2, 1) := by decide +kernel
theorem dX6_isChoice_6 : decode cX6_isChoice 6 = .ok (.if_icmp .gt 7, 3) := by decide +kernel
theorem dX6_isChoice_9 : decode cX6_isChoice 9 = .ok (.iconst 1, 1) := by decide +kernel
theorem dX6_isChoice_10 : decode cX6_isChoice 10 = .ok (.goto 4, 3) := by decide +kernel
theorem dX6_isChoice_13 : decode cX6_isChoice 13 = .ok (.iconst 0, 1) := by decide +kernel
theorem dX6_isChoice_14 : decode cX6_isChoice 14 = .ok (.ireturn, 1) := by decide +kernel
theorem dX6_findKnown_0 : decode cX6_findKnown 0 = .ok (.aload_n 0, 1) := by decide +kernel
theorem dX6_findKnown_1 : decode cX6_findKnown 1 = .ok (.getfield 10, 3) := by decide +kernel
theorem dX6_findKnown_4 : decode cX6_findKnown 4 = .ok (.invokevirtual 78, 3) := by decide +kernel
theorem dX6_findKnown_7 : decode cX6_findKnown 7 = .ok (.ifCond .ne 5, 3) := by decide +kernel
theorem dX6_findKnown_10 : decode cX6_findKnown 10 = .ok (.iconst 0, 1) := by decide +kernel
theorem dX6_findKnown_11 : decode cX6_findKnown 11 = .ok (.ireturn, 1) := by decide +kernel
theorem dX6_findKnown_12 : decode cX6_findKnown 12 = .ok (.aload_n 0, 1) := by decide +kernel
theorem dX6_findKnown_13 : decode cX6_findKnown 13 = .ok (.getfield 43, 3) := by decide +kernel
theorem dX6_findKnown_16 : decode cX6_findKnown 16 = .ok (.aload_n 0, 1) := by decide +kernel
theorem dX6_findKnown_17 : decode cX6_findKnown 17 = .ok (.getfield 10, 3) := by decide +kernel
theorem dX6_findKnown_20 : decode cX6_findKnown 20 = .ok (.iconst 0, 1) := by decide +kernel
theorem dX6_findKnown_21 : decode cX6_findKnown 21 = .ok (.iconst (-1), 1) := by decide +kernel
theorem dX6_findKnown_22 : decode cX6_findKnown 22 = .ok (.invokevirtual 181, 3) := by decide +kernel
theorem dX6_findKnown_25 : decode cX6_findKnown 25 = .ok (.pop, 1) := by decide +kernel
theorem dX6_findKnown_26 : decode cX6_findKnown 26 = .ok (.iconst 1, 1) := by decide +kernel
theorem dX6_findKnown_27 : decode cX6_findKnown 27 = .ok (.ireturn, 1) := by decide +kernel
theorem dX6_otherwiseWithout_0 : decode cX6_otherwiseWithout 0 = .ok (.aload_n 0, 1) := by decide +kernel
theorem dX6_otherwiseWithout_1 : decode cX6_otherwiseWithout 1 = .ok (.getfield 47, 3) := by decide +kernel
theorem dX6_otherwiseWithout_4 : decode cX6_otherwiseWithout 4 = .ok (.aload_n 0, 1) := by decide +kernel
theorem dX6_otherwiseWithout_5 : decode cX6_otherwiseWithout 5 = .ok (.getfield 10, 3) := by decide +kernel
theorem dX6_otherwiseWithout_8 : decode cX6_otherwiseWithout 8 = .ok (.iconst 0, 1) := by decide +kernel
theorem dX6_otherwiseWithout_9 : decode cX6_otherwiseWithout 9 = .ok (.iload_n 1, 1) := by decide +kernel
theorem dX6_otherwiseWithout_10 : decode cX6_otherwiseWithout 10 = .ok (.invokevirtual 181, 3) := by decide +kernel
theorem dX6_otherwiseWithout_13 : decode cX6_otherwiseWithout 13 = .ok (.pop, 1) := by decide +kernel
theorem dX6_otherwiseWithout_14 : decode cX6_otherwiseWithout 14 = .ok (.iconst 0, 1) := by decide +kernel
theorem dX6_otherwiseWithout_15 : decode cX6_otherwiseWithout 15 = .ok (.istore_n 2, 1) := by decide +kernel
theorem dX6_otherwiseWithout_16 : decode cX6_otherwiseWithout 16 = .ok (.iconst 0, 1) := by decide +kernel
theorem dX6_otherwiseWithout_17 : decode cX6_otherwiseWithout 17 = .ok (.istore_n 3, 1) := by decide +kernel
theorem dX6_otherwiseWithout_18 : decode cX6_otherwiseWithout 18 = .ok (.iload_n 3, 1) := by decide +kernel
theorem dX6_otherwiseWithout_19 : decode cX6_otherwiseWithout 19 = .ok (.aload_n 0, 1) := by decide +kernel
theorem dX6_otherwiseWithout_20 : decode cX6_otherwiseWithout 20 = .ok (.getfield 10, 3) := by decide +kernel
theorem dX6_otherwiseWithout_23 : decode cX6_otherwiseWithout 23 = .ok (.getfield 65, 3) := by decide +kernel
theorem dX6_otherwiseWithout_26 : decode cX6_otherwiseWithout 26 = .ok (.if_icmp .ge 33, 3) := by decide +kernel
theorem dX6_otherwiseWithout_29 : decode cX6_otherwiseWithout 29 = .ok (.aload_n 0, 1) := by decide +kernel
theorem dX6_otherwiseWithout_30 : decode cX6_otherwiseWithout 30 = .ok (.getfield 47, 3) := by decide +kernel
theorem dX6_otherwiseWithout_33 : decode cX6_otherwiseWithout 33 = .ok (.getfield 135, 3) := by decide +kernel
theorem dX6_otherwiseWithout_36 : decode cX6_otherwiseWithout 36 = .ok (.iload_n 3, 1) := by decide +kernel
theorem dX6_otherwiseWithout_37 : decode cX6_otherwiseWithout 37 = .ok (.iaload, 1) := by decide +kernel
theorem dX6_otherwiseWithout_38 : decode cX6_otherwiseWithout 38 = .ok (.aload_n 0, 1) := by decide +kernel
theorem dX6_otherwiseWithout_39 : decode cX6_otherwiseWithout 39 = .ok (.getfield 43, 3) := by decide +kernel
theorem dX6_otherwiseWithout_42 : decode cX6_otherwiseWithout 42 = .ok (.getfield 135, 3) := by decide +kernel
theorem dX6_otherwiseWithout_45 : decode cX6_otherwiseWithout 45 = .ok (.iload_n 3, 1) := by decide +kernel
theorem dX6_otherwiseWithout_46 : decode cX6_otherwiseWithout 46 = .ok (.iaload, 1) := by decide +kernel
theorem dX6_otherwiseWithout_47 : decode cX6_otherwiseWithout 47 = .ok (.if_icmp .eq 6, 3) := by decide +kernel
theorem dX6_otherwiseWithout_50 : decode cX6_otherwiseWithout 50 = .ok (.iinc 2 1, 3) := by decide +kernel
theorem dX6_otherwiseWithout_53 : decode cX6_otherwiseWithout 53 = .ok (.iinc 3 1, 3) := by decide +kernel
theorem dX6_otherwiseWithout_56 : decode cX6_otherwiseWithout 56 = .ok (.goto (-38), 3) := by decide +kernel
theorem dX6_otherwiseWithout_59 : decode cX6_otherwiseWithout 59 = .ok (.iload_n 2, 1) := by decide +kernel
theorem dX6_otherwiseWithout_60 : decode cX6_otherwiseWithout 60 = .ok (.ireturn, 1) := by decide +kernel
theorem dX6_waysThatMatter_0 : decode cX6_waysThatMatter 0 = .ok (.aload_n 0, 1) := by decide +kernel
theorem dX6_waysThatMatter_1 : decode cX6_waysThatMatter 1 = .ok (.invokevirtual 132, 3) := by decide +kernel
theorem dX6_waysThatMatter_4 : decode cX6_waysThatMatter 4 = .ok (.ifCond .ne 5, 3) := by decide +kernel
theorem dX6_waysThatMatter_7 : decode cX6_waysThatMatter 7 = .ok (.iconst (-1), 1) := by decide +kernel
theorem dX6_waysThatMatter_8 : decode cX6_waysThatMatter 8 = .ok (.ireturn, 1) := by decide +kernel
theorem dX6_waysThatMatter_9 : decode cX6_waysThatMatter 9 = .ok (.iconst 0, 1) := by decide +kernel
theorem dX6_waysThatMatter_10 : decode cX6_waysThatMatter 10 = .ok (.istore_n 1, 1) := by decide +kernel
theorem dX6_waysThatMatter_11 : decode cX6_waysThatMatter 11 = .ok (.iconst 0, 1) := by decide +kernel
theorem dX6_waysThatMatter_12 : decode cX6_waysThatMatter 12 = .ok (.istore_n 2, 1) := by decide +kernel
theorem dX6_waysThatMatter_13 : decode cX6_waysThatMatter 13 = .ok (.iload_n 2, 1) := by decide +kernel
theorem dX6_waysThatMatter_14 : decode cX6_waysThatMatter 14 = .ok (.aload_n 0, 1) := by decide +kernel
theorem dX6_waysThatMatter_15 : decode cX6_waysThatMatter 15 = .ok (.getfield 10, 3) := by decide +kernel
theorem dX6_waysThatMatter_18 : decode cX6_waysThatMatter 18 = .ok (.getfield 68, 3) := by decide +kernel
theorem dX6_waysThatMatter_21 : decode cX6_waysThatMatter 21 = .ok (.if_icmp .ge 23, 3) := by decide +kernel
theorem dX6_waysThatMatter_24 : decode cX6_waysThatMatter 24 = .ok (.aload_n 0, 1) := by decide +kernel
theorem dX6_waysThatMatter_25 : decode cX6_waysThatMatter 25 = .ok (.iload_n 2, 1) := by decide +kernel
theorem dX6_waysThatMatter_26 : decode cX6_waysThatMatter 26 = .ok (.invokevirtual 168, 3) := by decide +kernel
theorem dX6_waysThatMatter_29 : decode cX6_waysThatMatter 29 = .ok (.ifCond .le 9, 3) := by decide +kernel
theorem dX6_waysThatMatter_32 : decode cX6_waysThatMatter 32 = .ok (.iload_n 1, 1) := by decide +kernel
theorem dX6_waysThatMatter_33 : decode cX6_waysThatMatter 33 = .ok (.iconst 1, 1) := by decide +kernel
theorem dX6_waysThatMatter_34 : decode cX6_waysThatMatter 34 = .ok (.iload_n 2, 1) := by decide +kernel
theorem dX6_waysThatMatter_35 : decode cX6_waysThatMatter 35 = .ok (.ishl, 1) := by decide +kernel
theorem dX6_waysThatMatter_36 : decode cX6_waysThatMatter 36 = .ok (.ior, 1) := by decide +kernel
theorem dX6_waysThatMatter_37 : decode cX6_waysThatMatter 37 = .ok (.istore_n 1, 1) := by decide +kernel
theorem dX6_waysThatMatter_38 : decode cX6_waysThatMatter 38 = .ok (.iinc 2 1, 3) := by decide +kernel
theorem dX6_waysThatMatter_41 : decode cX6_waysThatMatter 41 = .ok (.goto (-28), 3) := by decide +kernel
theorem dX6_waysThatMatter_44 : decode cX6_waysThatMatter 44 = .ok (.iload_n 1, 1) := by decide +kernel
theorem dX6_waysThatMatter_45 : decode cX6_waysThatMatter 45 = .ok (.ireturn, 1) := by decide +kernel
theorem dX6_rebuiltAt_0 : decode cX6_rebuiltAt 0 = .ok (.aload_n 0, 1) := by decide +kernel
theorem dX6_rebuiltAt_1 : decode cX6_rebuiltAt 1 = .ok (.getfield 53, 3) := by decide +kernel
theorem dX6_rebuiltAt_4 : decode cX6_rebuiltAt 4 = .ok (.aload_n 0, 1) := by decide +kernel
theorem dX6_rebuiltAt_5 : decode cX6_rebuiltAt 5 = .ok (.getfield 10, 3) := by decide +kernel
theorem dX6_rebuiltAt_8 : decode cX6_rebuiltAt 8 = .ok (.invokevirtual 230, 3) := by decide +kernel
theorem dX6_rebuiltAt_11 : decode cX6_rebuiltAt 11 = .ok (.aload_n 0, 1) := by decide +kernel
theorem dX6_rebuiltAt_12 : decode cX6_rebuiltAt 12 = .ok (.getfield 53, 3) := by decide +kernel
theorem dX6_rebuiltAt_15 : decode cX6_rebuiltAt 15 = .ok (.getfield 233, 3) := by decide +kernel
theorem dX6_rebuiltAt_18 : decode cX6_rebuiltAt 18 = .ok (.iload_n 1, 1) := by decide +kernel
theorem dX6_rebuiltAt_19 : decode cX6_rebuiltAt 19 = .ok (.iaload, 1) := by decide +kernel
theorem dX6_rebuiltAt_20 : decode cX6_rebuiltAt 20 = .ok (.ireturn, 1) := by decide +kernel
theorem dX6_isExact_0 : decode cX6_isExact 0 = .ok (.aload_n 0, 1) := by decide +kernel
theorem dX6_isExact_1 : decode cX6_isExact 1 = .ok (.invokevirtual 132, 3) := by decide +kernel
theorem dX6_isExact_4 : decode cX6_isExact 4 = .ok (.ifCond .eq 18, 3) := by decide +kernel
theorem dX6_isExact_7 : decode cX6_isExact 7 = .ok (.aload_n 0, 1) := by decide +kernel
theorem dX6_isExact_8 : decode cX6_isExact 8 = .ok (.getfield 53, 3) := by decide +kernel
theorem dX6_isExact_11 : decode cX6_isExact 11 = .ok (.aload_n 0, 1) := by decide +kernel
theorem dX6_isExact_12 : decode cX6_isExact 12 = .ok (.getfield 10, 3) := by decide +kernel
theorem dX6_isExact_15 : decode cX6_isExact 15 = .ok (.invokevirtual 85, 3) := by decide +kernel
theorem dX6_isExact_18 : decode cX6_isExact 18 = .ok (.iconst (-1), 1) := by decide +kernel
theorem dX6_isExact_19 : decode cX6_isExact 19 = .ok (.if_icmp .eq 5, 3) := by decide +kernel
theorem dX6_isExact_22 : decode cX6_isExact 22 = .ok (.iconst 0, 1) := by decide +kernel
theorem dX6_isExact_23 : decode cX6_isExact 23 = .ok (.ireturn, 1) := by decide +kernel
theorem dX6_isExact_24 : decode cX6_isExact 24 = .ok (.iconst 0, 1) := by decide +kernel
theorem dX6_isExact_25 : decode cX6_isExact 25 = .ok (.istore_n 1, 1) := by decide +kernel
theorem dX6_isExact_26 : decode cX6_isExact 26 = .ok (.iload_n 1, 1) := by decide +kernel
theorem dX6_isExact_27 : decode cX6_isExact 27 = .ok (.aload_n 0, 1) := by decide +kernel
theorem dX6_isExact_28 : decode cX6_isExact 28 = .ok (.getfield 10, 3) := by decide +kernel
theorem dX6_isExact_31 : decode cX6_isExact 31 = .ok (.getfield 65, 3) := by decide +kernel
theorem dX6_isExact_34 : decode cX6_isExact 34 = .ok (.if_icmp .ge 32, 3) := by decide +kernel
theorem dX6_isExact_37 : decode cX6_isExact 37 = .ok (.aload_n 0, 1) := by decide +kernel
theorem dX6_isExact_38 : decode cX6_isExact 38 = .ok (.getfield 53, 3) := by decide +kernel
theorem dX6_isExact_41 : decode cX6_isExact 41 = .ok (.getfield 233, 3) := by decide +kernel
theorem dX6_isExact_44 : decode cX6_isExact 44 = .ok (.iload_n 1, 1) := by decide +kernel
theorem dX6_isExact_45 : decode cX6_isExact 45 = .ok (.iaload, 1) := by decide +kernel
theorem dX6_isExact_46 : decode cX6_isExact 46 = .ok (.aload_n 0, 1) := by decide +kernel
theorem dX6_isExact_47 : decode cX6_isExact 47 = .ok (.getfield 43, 3) := by decide +kernel
theorem dX6_isExact_50 : decode cX6_isExact 50 = .ok (.getfield 135, 3) := by decide +kernel
theorem dX6_isExact_53 : decode cX6_isExact 53 = .ok (.iload_n 1, 1) := by decide +kernel
theorem dX6_isExact_54 : decode cX6_isExact 54 = .ok (.iaload, 1) := by decide +kernel
theorem dX6_isExact_55 : decode cX6_isExact 55 = .ok (.if_icmp .eq 5, 3) := by decide +kernel
theorem dX6_isExact_58 : decode cX6_isExact 58 = .ok (.iconst 0, 1) := by decide +kernel
theorem dX6_isExact_59 : decode cX6_isExact 59 = .ok (.ireturn, 1) := by decide +kernel
theorem dX6_isExact_60 : decode cX6_isExact 60 = .ok (.iinc 1 1, 3) := by decide +kernel
theorem dX6_isExact_63 : decode cX6_isExact 63 = .ok (.goto (-37), 3) := by decide +kernel
theorem dX6_isExact_66 : decode cX6_isExact 66 = .ok (.iconst 1, 1) := by decide +kernel
theorem dX6_isExact_67 : decode cX6_isExact 67 = .ok (.ireturn, 1) := by decide +kernel
theorem dX6_firstWrongEntry_0 : decode cX6_firstWrongEntry 0 = .ok (.aload_n 0, 1) := by decide +kernel
theorem dX6_firstWrongEntry_1 : decode cX6_firstWrongEntry 1 = .ok (.getfield 36, 3) := by decide +kernel
theorem dX6_firstWrongEntry_4 : decode cX6_firstWrongEntry 4 = .ok (.getfield 95, 3) := by decide +kernel
theorem dX6_firstWrongEntry_7 : decode cX6_firstWrongEntry 7 = .ok (.ifCond .ne 5, 3) := by decide +kernel
theorem dX6_firstWrongEntry_10 : decode cX6_firstWrongEntry 10 = .ok (.iconst (-1), 1) := by decide +kernel
theorem dX6_firstWrongEntry_11 : decode cX6_firstWrongEntry 11 = .ok (.ireturn, 1) := by decide +kernel
theorem dX6_firstWrongEntry_12 : decode cX6_firstWrongEntry 12 = .ok (.aload_n 0, 1) := by decide +kernel
theorem dX6_firstWrongEntry_13 : decode cX6_firstWrongEntry 13 = .ok (.invokevirtual 132, 3) := by decide +kernel
theorem dX6_firstWrongEntry_16 : decode cX6_firstWrongEntry 16 = .ok (.ifCond .eq 27, 3) := by decide +kernel
theorem dX6_firstWrongEntry_19 : decode cX6_firstWrongEntry 19 = .ok (.aload_n 0, 1) := by decide +kernel
theorem dX6_firstWrongEntry_20 : decode cX6_firstWrongEntry 20 = .ok (.getfield 36, 3) := by decide +kernel
theorem dX6_firstWrongEntry_23 : decode cX6_firstWrongEntry 23 = .ok (.aload_n 0, 1) := by decide +kernel
theorem dX6_firstWrongEntry_24 : decode cX6_firstWrongEntry 24 = .ok (.getfield 43, 3) := by decide +kernel
theorem dX6_firstWrongEntry_27 : decode cX6_firstWrongEntry 27 = .ok (.getfield 135, 3) := by decide +kernel
theorem dX6_firstWrongEntry_30 : decode cX6_firstWrongEntry 30 = .ok (.aload_n 0, 1) := by decide +kernel
theorem dX6_firstWrongEntry_31 : decode cX6_firstWrongEntry 31 = .ok (.getfield 10, 3) := by decide +kernel
theorem dX6_firstWrongEntry_34 : decode cX6_firstWrongEntry 34 = .ok (.getfield 65, 3) := by decide +kernel
theorem dX6_firstWrongEntry_37 : decode cX6_firstWrongEntry 37 = .ok (.invokevirtual 236, 3) := by decide +kernel
theorem dX6_firstWrongEntry_40 : decode cX6_firstWrongEntry 40 = .ok (.goto 4, 3) := by decide +kernel
theorem dX6_firstWrongEntry_43 : decode cX6_firstWrongEntry 43 = .ok (.iconst 0, 1) := by decide +kernel
theorem dX6_firstWrongEntry_44 : decode cX6_firstWrongEntry 44 = .ok (.ireturn, 1) := by decide +kernel
theorem dX6_addDrawnWay_0 : decode cX6_addDrawnWay 0 = .ok (.aload_n 0, 1) := by decide +kernel
theorem dX6_addDrawnWay_1 : decode cX6_addDrawnWay 1 = .ok (.aload_n 0, 1) := by decide +kernel
theorem dX6_addDrawnWay_2 : decode cX6_addDrawnWay 2 = .ok (.getfield 10, 3) := by decide +kernel
theorem dX6_addDrawnWay_5 : decode cX6_addDrawnWay 5 = .ok (.getfield 65, 3) := by decide +kernel
theorem dX6_addDrawnWay_8 : decode cX6_addDrawnWay 8 = .ok (.invokevirtual 240, 3) := by decide +kernel
theorem dX6_addDrawnWay_11 : decode cX6_addDrawnWay 11 = .ok (.istore_n 1, 1) := by decide +kernel
theorem dX6_addDrawnWay_12 : decode cX6_addDrawnWay 12 = .ok (.aload_n 0, 1) := by decide +kernel
theorem dX6_addDrawnWay_13 : decode cX6_addDrawnWay 13 = .ok (.aload_n 0, 1) := by decide +kernel
theorem dX6_addDrawnWay_14 : decode cX6_addDrawnWay 14 = .ok (.getfield 10, 3) := by decide +kernel
theorem dX6_addDrawnWay_17 : decode cX6_addDrawnWay 17 = .ok (.getfield 65, 3) := by decide +kernel
theorem dX6_addDrawnWay_20 : decode cX6_addDrawnWay 20 = .ok (.invokevirtual 240, 3) := by decide +kernel
theorem dX6_addDrawnWay_23 : decode cX6_addDrawnWay 23 = .ok (.istore_n 2, 1) := by decide +kernel
theorem dX6_addDrawnWay_24 : decode cX6_addDrawnWay 24 = .ok (.aload_n 0, 1) := by decide +kernel
theorem dX6_addDrawnWay_25 : decode cX6_addDrawnWay 25 = .ok (.getfield 10, 3) := by decide +kernel
theorem dX6_addDrawnWay_28 : decode cX6_addDrawnWay 28 = .ok (.iload_n 1, 1) := by decide +kernel
theorem dX6_addDrawnWay_29 : decode cX6_addDrawnWay 29 = .ok (.iload_n 2, 1) := by decide +kernel
theorem dX6_addDrawnWay_30 : decode cX6_addDrawnWay 30 = .ok (.invokevirtual 196, 3) := by decide +kernel
theorem dX6_addDrawnWay_33 : decode cX6_addDrawnWay 33 = .ok (.istore_n 3, 1) := by decide +kernel
theorem dX6_addDrawnWay_34 : decode cX6_addDrawnWay 34 = .ok (.aload_n 0, 1) := by decide +kernel
theorem dX6_addDrawnWay_35 : decode cX6_addDrawnWay 35 = .ok (.getfield 10, 3) := by decide +kernel
theorem dX6_addDrawnWay_38 : decode cX6_addDrawnWay 38 = .ok (.getfield 162, 3) := by decide +kernel
theorem dX6_addDrawnWay_41 : decode cX6_addDrawnWay 41 = .ok (.iload_n 3, 1) := by decide +kernel
theorem dX6_addDrawnWay_42 : decode cX6_addDrawnWay 42 = .ok (.aload_n 0, 1) := by decide +kernel
theorem dX6_addDrawnWay_43 : decode cX6_addDrawnWay 43 = .ok (.aload_n 0, 1) := by decide +kernel
theorem dX6_addDrawnWay_44 : decode cX6_addDrawnWay 44 = .ok (.getfield 10, 3) := by decide +kernel
theorem dX6_addDrawnWay_47 : decode cX6_addDrawnWay 47 = .ok (.getfield 61, 3) := by decide +kernel
theorem dX6_addDrawnWay_50 : decode cX6_addDrawnWay 50 = .ok (.invokevirtual 240, 3) := by decide +kernel
theorem dX6_addDrawnWay_53 : decode cX6_addDrawnWay 53 = .ok (.iastore, 1) := by decide +kernel
theorem dX6_addDrawnWay_54 : decode cX6_addDrawnWay 54 = .ok (.aload_n 0, 1) := by decide +kernel
theorem dX6_addDrawnWay_55 : decode cX6_addDrawnWay 55 = .ok (.getfield 10, 3) := by decide +kernel
theorem dX6_addDrawnWay_58 : decode cX6_addDrawnWay 58 = .ok (.getfield 156, 3) := by decide +kernel
theorem dX6_addDrawnWay_61 : decode cX6_addDrawnWay 61 = .ok (.iload_n 3, 1) := by decide +kernel
theorem dX6_addDrawnWay_62 : decode cX6_addDrawnWay 62 = .ok (.iconst 1, 1) := by decide +kernel
theorem dX6_addDrawnWay_63 : decode cX6_addDrawnWay 63 = .ok (.aload_n 0, 1) := by decide +kernel
theorem dX6_addDrawnWay_64 : decode cX6_addDrawnWay 64 = .ok (.bipush 8, 2) := by decide +kernel
theorem dX6_addDrawnWay_66 : decode cX6_addDrawnWay 66 = .ok (.invokevirtual 240, 3) := by decide +kernel
theorem dX6_addDrawnWay_69 : decode cX6_addDrawnWay 69 = .ok (.ishl, 1) := by decide +kernel
theorem dX6_addDrawnWay_70 : decode cX6_addDrawnWay 70 = .ok (.iastore, 1) := by decide +kernel
theorem dX6_addDrawnWay_71 : decode cX6_addDrawnWay 71 = .ok (.aload_n 0, 1) := by decide +kernel
theorem dX6_addDrawnWay_72 : decode cX6_addDrawnWay 72 = .ok (.getfield 10, 3) := by decide +kernel
theorem dX6_addDrawnWay_75 : decode cX6_addDrawnWay 75 = .ok (.getfield 159, 3) := by decide +kernel
theorem dX6_addDrawnWay_78 : decode cX6_addDrawnWay 78 = .ok (.iload_n 3, 1) := by decide +kernel
theorem dX6_addDrawnWay_79 : decode cX6_addDrawnWay 79 = .ok (.iconst 1, 1) := by decide +kernel
theorem dX6_addDrawnWay_80 : decode cX6_addDrawnWay 80 = .ok (.aload_n 0, 1) := by decide +kernel
theorem dX6_addDrawnWay_81 : decode cX6_addDrawnWay 81 = .ok (.bipush 8, 2) := by decide +kernel
theorem dX6_addDrawnWay_83 : decode cX6_addDrawnWay 83 = .ok (.invokevirtual 240, 3) := by decide +kernel
theorem dX6_addDrawnWay_86 : decode cX6_addDrawnWay 86 = .ok (.ishl, 1) := by decide +kernel
theorem dX6_addDrawnWay_87 : decode cX6_addDrawnWay 87 = .ok (.iastore, 1) := by decide +kernel
theorem dX6_addDrawnWay_88 : decode cX6_addDrawnWay 88 = .ok (.return_, 1) := by decide +kernel
theorem dX6_draw_0 : decode cX6_draw 0 = .ok (.aload_n 0, 1) := by decide +kernel
theorem dX6_draw_1 : decode cX6_draw 1 = .ok (.aload_n 0, 1) := by decide +kernel
theorem dX6_draw_2 : decode cX6_draw 2 = .ok (.getfield 215, 3) := by decide +kernel
theorem dX6_draw_5 : decode cX6_draw 5 = .ok (.i2l, 1) := by decide +kernel
theorem dX6_draw_6 : decode cX6_draw 6 = .ok (.ldc2_w 243, 3) := by decide +kernel
theorem dX6_draw_9 : decode cX6_draw 9 = .ok (.lmul, 1) := by decide +kernel
theorem dX6_draw_10 : decode cX6_draw 10 = .ok (.ldc2_w 245, 3) := by decide +kernel
theorem dX6_draw_13 : decode cX6_draw 13 = .ok (.ladd, 1) := by decide +kernel
theorem dX6_draw_14 : decode cX6_draw 14 = .ok (.ldc2_w 247, 3) := by decide +kernel
theorem dX6_draw_17 : decode cX6_draw 17 = .ok (.lrem, 1) := by decide +kernel
theorem dX6_draw_18 : decode cX6_draw 18 = .ok (.l2i, 1) := by decide +kernel
theorem dX6_draw_19 : decode cX6_draw 19 = .ok (.putfield 215, 3) := by decide +kernel
theorem dX6_draw_22 : decode cX6_draw 22 = .ok (.iload_n 1, 1) := by decide +kernel
theorem dX6_draw_23 : decode cX6_draw 23 = .ok (.ifCond .le 15, 3) := by decide +kernel
theorem dX6_draw_26 : decode cX6_draw 26 = .ok (.aload_n 0, 1) := by decide +kernel
theorem dX6_draw_27 : decode cX6_draw 27 = .ok (.getfield 215, 3) := by decide +kernel
theorem dX6_draw_30 : decode cX6_draw 30 = .ok (.ldc 249, 2) := by decide +kernel
theorem dX6_draw_32 : decode cX6_draw 32 = .ok (.idiv, 1) := by decide +kernel
theorem dX6_draw_33 : decode cX6_draw 33 = .ok (.iload_n 1, 1) := by decide +kernel
theorem dX6_draw_34 : decode cX6_draw 34 = .ok (.irem, 1) := by decide +kernel
theorem dX6_draw_35 : decode cX6_draw 35 = .ok (.goto 4, 3) := by decide +kernel
theorem dX6_draw_38 : decode cX6_draw 38 = .ok (.iconst 0, 1) := by decide +kernel
theorem dX6_draw_39 : decode cX6_draw 39 = .ok (.ireturn, 1) := by decide +kernel
end
section
theorem dX7_init_0 : decode cX7_init 0 = .ok (.aload_n 0, 1) := by decide +kernel
theorem dX7_init_1 : decode cX7_init 1 = .ok (.invokespecial 1, 3) := by decide +kernel
theorem dX7_init_4 : decode cX7_init 4 = .ok (.aload_n 0, 1) := by decide +kernel
theorem dX7_init_5 : decode cX7_init 5 = .ok (.sipush 367, 3) := by decide +kernel
theorem dX7_init_8 : decode cX7_init 8 = .ok (.newarray .int, 2) := by decide +kernel
theorem dX7_init_10 : decode cX7_init 10 = .ok (.putfield 7, 3) := by decide +kernel
theorem dX7_init_13 : decode cX7_init 13 = .ok (.aload_n 0, 1) := by decide +kernel
theorem dX7_init_14 : decode cX7_init 14 = .ok (.sipush 5872, 3) := by decide +kernel
theorem dX7_init_17 : decode cX7_init 17 = .ok (.newarray .int, 2) := by decide +kernel
theorem dX7_init_19 : decode cX7_init 19 = .ok (.putfield 13, 3) := by decide +kernel
theorem dX7_init_22 : decode cX7_init 22 = .ok (.aload_n 0, 1) := by decide +kernel
theorem dX7_init_23 : decode cX7_init 23 = .ok (.sipush 736, 3) := by decide +kernel
theorem dX7_init_26 : decode cX7_init 26 = .ok (.newarray .int, 2) := by decide +kernel
theorem dX7_init_28 : decode cX7_init 28 = .ok (.putfield 16, 3) := by decide +kernel
theorem dX7_init_31 : decode cX7_init 31 = .ok (.aload_n 0, 1) := by decide +kernel
theorem dX7_init_32 : decode cX7_init 32 = .ok (.iconst 2, 1) := by decide +kernel
theorem dX7_init_33 : decode cX7_init 33 = .ok (.newarray .boolean, 2) := by decide +kernel
theorem dX7_init_35 : decode cX7_init 35 = .ok (.putfield 19, 3) := by decide +kernel
theorem dX7_init_38 : decode cX7_init 38 = .ok (.aload_n 0, 1) := by decide +kernel
theorem dX7_init_39 : decode cX7_init 39 = .ok (.bipush 60, 2) := by decide +kernel
theorem dX7_init_41 : decode cX7_init 41 = .ok (.newarray .int, 2) := by decide +kernel
theorem dX7_init_43 : decode cX7_init 43 = .ok (.putfield 23, 3) := by decide +kernel
theorem dX7_init_46 : decode cX7_init 46 = .ok (.aload_n 0, 1) := by decide +kernel
theorem dX7_init_47 : decode cX7_init 47 = .ok (.bipush 20, 2) := by decide +kernel
theorem dX7_init_49 : decode cX7_init 49 = .ok (.newarray .int, 2) := by decide +kernel
theorem dX7_init_51 : decode cX7_init 51 = .ok (.putfield 26, 3) := by decide +kernel
theorem dX7_init_54 : decode cX7_init 54 = .ok (.aload_n 0, 1) := by decide +kernel
theorem dX7_init_55 : decode cX7_init 55 = .ok (.bipush 20, 2) := by decide +kernel
theorem dX7_init_57 : decode cX7_init 57 = .ok (.newarray .int, 2) := by decide +kernel
theorem dX7_init_59 : decode cX7_init 59 = .ok (.putfield 29, 3) := by decide +kernel
theorem dX7_init_62 : decode cX7_init 62 = .ok (.aload_n 0, 1) := by decide +kernel
theorem dX7_init_63 : decode cX7_init 63 = .ok (.bipush 20, 2) := by decide +kernel
theorem dX7_init_65 : decode cX7_init 65 = .ok (.newarray .int, 2) := by decide +kernel
theorem dX7_init_67 : decode cX7_init 67 = .ok (.putfield 32, 3) := by decide +kernel
theorem dX7_init_70 : decode cX7_init 70 = .ok (.aload_n 0, 1) := by decide +kernel
theorem dX7_init_71 : decode cX7_init 71 = .ok (.bipush 10, 2) := by decide +kernel
theorem dX7_init_73 : decode cX7_init 73 = .ok (.newarray .int, 2) := by decide +kernel
theorem dX7_init_75 : decode cX7_init 75 = .ok (.putfield 35, 3) := by decide +kernel
theorem dX7_init_78 : decode cX7_init 78 = .ok (.aload_n 0, 1) := by decide +kernel
theorem dX7_init_79 : decode cX7_init 79 = .ok (.iconst 0, 1) := by decide +kernel
theorem dX7_init_80 : decode cX7_init 80 = .ok (.iconst 4, 1) := by decide +kernel
theorem dX7_init_81 : decode cX7_init 81 = .ok (.iconst 4, 1) := by decide +kernel
theorem dX7_init_82 : decode cX7_init 82 = .ok (.invokevirtual 38, 3) := by decide +kernel
theorem dX7_init_85 : decode cX7_init 85 = .ok (.return_, 1) := by decide +kernel
theorem dX7_in_0 : decode cX7_in 0 = .ok (.iload_n 0, 1) := by decide +kernel
theorem dX7_in_1 : decode cX7_in 1 = .ok (.iload_n 1, 1) := by decide +kernel
theorem dX7_in_2 : decode cX7_in 2 = .ok (.if_icmp .lt 12, 3) := by decide +kernel
theorem dX7_in_5 : decode cX7_in 5 = .ok (.iload_n 0, 1) := by decide +kernel
theorem dX7_in_6 : decode cX7_in 6 = .ok (.iload_n 2, 1) := by decide +kernel
theorem dX7_in_7 : decode cX7_in 7 = .ok (.if_icmp .gt 7, 3) := by decide +kernel
theorem dX7_in_10 : decode cX7_in 10 = .ok (.iconst 1, 1) := by decide +kernel
theorem dX7_in_11 : decode cX7_in 11 = .ok (.goto 4, 3) := by decide +kernel
theorem dX7_in_14 : decode cX7_in 14 = .ok (.iconst 0, 1) := by decide +kernel
theorem dX7_in_15 : decode cX7_in 15 = .ok (.ireturn, 1) := by decide +kernel
theorem dX7_isValue_0 : decode cX7_isValue 0 = .ok (.iload_n 1, 1) := by decide +kernel
theorem dX7_isValue_1 : decode cX7_isValue 1 = .ok (.iconst 0, 1) := by decide +kernel
theorem dX7_isValue_2 : decode cX7_isValue 2 = .ok (.aload_n 0, 1) := by decide +kernel
theorem dX7_isValue_3 : decode cX7_isValue 3 = .ok (.getfield 7, 3) := by decide +kernel
theorem dX7_isValue_6 : decode cX7_isValue 6 = .ok (.iconst 0, 1) := by decide +kernel
theorem dX7_isValue_7 : decode cX7_isValue 7 = .ok (.iaload, 1) := by decide +kernel
theorem dX7_isValue_8 : decode cX7_isValue 8 = .ok (.iconst 1, 1) := by decide +kernel
theorem dX7_isValue_9 : decode cX7_isValue 9 = .ok (.isub, 1) := by decide +kernel
theorem dX7_isValue_10 : decode cX7_isValue 10 = .ok (.invokestatic 42, 3) := by decide +kernel
theorem dX7_isValue_13 : decode cX7_isValue 13 = .ok (.ireturn, 1) := by decide +kernel
theorem dX7_both_0 : decode cX7_both 0 = .ok (.aload_n 0, 1) := by decide +kernel
theorem dX7_both_1 : decode cX7_both 1 = .ok (.getfield 7, 3) := by decide +kernel
theorem dX7_both_4 : decode cX7_both 4 = .ok (.iconst 3, 1) := by decide +kernel
theorem dX7_both_5 : decode cX7_both 5 = .ok (.bipush 8, 2) := by decide +kernel
theorem dX7_both_7 : decode cX7_both 7 = .ok (.iload_n 1, 1) := by decide +kernel
theorem dX7_both_8 : decode cX7_both 8 = .ok (.imul, 1) := by decide +kernel
theorem dX7_both_9 : decode cX7_both 9 = .ok (.iadd, 1) := by decide +kernel
theorem dX7_both_10 : decode cX7_both 10 = .ok (.iload_n 2, 1) := by decide +kernel
theorem dX7_both_11 : decode cX7_both 11 = .ok (.iadd, 1) := by decide +kernel
theorem dX7_both_12 : decode cX7_both 12 = .ok (.iaload, 1) := by decide +kernel
theorem dX7_both_13 : decode cX7_both 13 = .ok (.ireturn, 1) := by decide +kernel
theorem dX7_isBelow_0 : decode cX7_isBelow 0 = .ok (.aload_n 0, 1) := by decide +kernel
theorem dX7_isBelow_1 : decode cX7_isBelow 1 = .ok (.iload_n 1, 1) := by decide +kernel
theorem dX7_isBelow_2 : decode cX7_isBelow 2 = .ok (.iload_n 2, 1) := by decide +kernel
theorem dX7_isBelow_3 : decode cX7_isBelow 3 = .ok (.invokevirtual 46, 3) := by decide +kernel
theorem dX7_isBelow_6 : decode cX7_isBelow 6 = .ok (.iload_n 2, 1) := by decide +kernel
theorem dX7_isBelow_7 : decode cX7_isBelow 7 = .ok (.if_icmp .ne 7, 3) := by decide +kernel
theorem dX7_isBelow_10 : decode cX7_isBelow 10 = .ok (.iconst 1, 1) := by decide +kernel
theorem dX7_isBelow_11 : decode cX7_isBelow 11 = .ok (.goto 4, 3) := by decide +kernel
theorem dX7_isBelow_14 : decode cX7_isBelow 14 = .ok (.iconst 0, 1) := by decide +kernel
theorem dX7_isBelow_15 : decode cX7_isBelow 15 = .ok (.ireturn, 1) := by decide +kernel
theorem dX7_holds_0 : decode cX7_holds 0 = .ok (.iload_n 1, 1) := by decide +kernel
theorem dX7_holds_1 : decode cX7_holds 1 = .ok (.tableswitch 97 1 3 #[27, 43, 64], 27) := by decide +kernel
theorem dX7_holds_28 : decode cX7_holds 28 = .ok (.aload_n 0, 1) := by decide +kernel
theorem dX7_holds_29 : decode cX7_holds 29 = .ok (.iload_n 2, 1) := by decide +kernel
theorem dX7_holds_30 : decode cX7_holds 30 = .ok (.iload_n 2, 1) := by decide +kernel
theorem dX7_holds_31 : decode cX7_holds 31 = .ok (.invokevirtual 46, 3) := by decide +kernel
theorem dX7_holds_34 : decode cX7_holds 34 = .ok (.iload_n 2, 1) := by decide +kernel
theorem dX7_holds_35 : decode cX7_holds 35 = .ok (.if_icmp .ne 7, 3) := by decide +kernel
theorem dX7_holds_38 : decode cX7_holds 38 = .ok (.iconst 1, 1) := by decide +kernel
theorem dX7_holds_39 : decode cX7_holds 39 = .ok (.goto 4, 3) := by decide +kernel
theorem dX7_holds_42 : decode cX7_holds 42 = .ok (.iconst 0, 1) := by decide +kernel
theorem dX7_holds_43 : decode cX7_holds 43 = .ok (.ireturn, 1) := by decide +kernel
theorem dX7_holds_44 : decode cX7_holds 44 = .ok (.aload_n 0, 1) := by decide +kernel
theorem dX7_holds_45 : decode cX7_holds 45 = .ok (.iload_n 2, 1) := by decide +kernel
theorem dX7_holds_46 : decode cX7_holds 46 = .ok (.iload_n 3, 1) := by decide +kernel
theorem dX7_holds_47 : decode cX7_holds 47 = .ok (.invokevirtual 46, 3) := by decide +kernel
theorem dX7_holds_50 : decode cX7_holds 50 = .ok (.aload_n 0, 1) := by decide +kernel
theorem dX7_holds_51 : decode cX7_holds 51 = .ok (.iload_n 3, 1) := by decide +kernel
theorem dX7_holds_52 : decode cX7_holds 52 = .ok (.iload_n 2, 1) := by decide +kernel
theorem dX7_holds_53 : decode cX7_holds 53 = .ok (.invokevirtual 46, 3) := by decide +kernel
theorem dX7_holds_56 : decode cX7_holds 56 = .ok (.if_icmp .ne 7, 3) := by decide +kernel
theorem dX7_holds_59 : decode cX7_holds 59 = .ok (.iconst 1, 1) := by decide +kernel
theorem dX7_holds_60 : decode cX7_holds 60 = .ok (.goto 4, 3) := by decide +kernel
theorem dX7_holds_63 : decode cX7_holds 63 = .ok (.iconst 0, 1) := by decide +kernel
theorem dX7_holds_64 : decode cX7_holds 64 = .ok (.ireturn, 1) := by decide +kernel
theorem dX7_holds_65 : decode cX7_holds 65 = .ok (.aload_n 0, 1) := by decide +kernel
theorem dX7_holds_66 : decode cX7_holds 66 = .ok (.aload_n 0, 1) := by decide +kernel
theorem dX7_holds_67 : decode cX7_holds 67 = .ok (.iload_n 2, 1) := by decide +kernel
theorem dX7_holds_68 : decode cX7_holds 68 = .ok (.iload_n 3, 1) := by decide +kernel
theorem dX7_holds_69 : decode cX7_holds 69 = .ok (.invokevirtual 46, 3) := by decide +kernel
theorem dX7_holds_72 : decode cX7_holds 72 = .ok (.iload 4, 2) := by decide +kernel
theorem dX7_holds_74 : decode cX7_holds 74 = .ok (.invokevirtual 46, 3) := by decide +kernel
theorem dX7_holds_77 : decode cX7_holds 77 = .ok (.aload_n 0, 1) := by decide +kernel
theorem dX7_holds_78 : decode cX7_holds 78 = .ok (.iload_n 2, 1) := by decide +kernel
theorem dX7_holds_79 : decode cX7_holds 79 = .ok (.aload_n 0, 1) := by decide +kernel
theorem dX7_holds_80 : decode cX7_holds 80 = .ok (.iload_n 3, 1) := by decide +kernel
theorem dX7_holds_81 : decode cX7_holds 81 = .ok (.iload 4, 2) := by decide +kernel
theorem dX7_holds_83 : decode cX7_holds 83 = .ok (.invokevirtual 46, 3) := by decide +kernel
theorem dX7_holds_86 : decode cX7_holds 86 = .ok (.invokevirtual 46, 3) := by decide +kernel
theorem dX7_holds_89 : decode cX7_holds 89 = .ok (.if_icmp .ne 7, 3) := by decide +kernel
theorem dX7_holds_92 : decode cX7_holds 92 = .ok (.iconst 1, 1) := by decide +kernel
theorem dX7_holds_93 : decode cX7_holds 93 = .ok (.goto 4, 3) := by decide +kernel
theorem dX7_holds_96 : decode cX7_holds 96 = .ok (.iconst 0, 1) := by decide +kernel
theorem dX7_holds_97 : decode cX7_holds 97 = .ok (.ireturn, 1) := by decide +kernel
theorem dX7_holds_98 : decode cX7_holds 98 = .ok (.aload_n 0, 1) := by decide +kernel
theorem dX7_holds_99 : decode cX7_holds 99 = .ok (.iconst 0, 1) := by decide +kernel
theorem dX7_holds_100 : decode cX7_holds 100 = .ok (.iload_n 2, 1) := by decide +kernel
theorem dX7_holds_101 : decode cX7_holds 101 = .ok (.invokevirtual 46, 3) := by decide +kernel
theorem dX7_holds_104 : decode cX7_holds 104 = .ok (.iload_n 2, 1) := by decide +kernel
theorem dX7_holds_105 : decode cX7_holds 105 = .ok (.if_icmp .ne 7, 3) := by decide +kernel
theorem dX7_holds_108 : decode cX7_holds 108 = .ok (.iconst 1, 1) := by decide +kernel
theorem dX7_holds_109 : decode cX7_holds 109 = .ok (.goto 4, 3) := by decide +kernel
theorem dX7_holds_112 : decode cX7_holds 112 = .ok (.iconst 0, 1) := by decide +kernel
theorem dX7_holds_113 : decode cX7_holds 113 = .ok (.ireturn, 1) := by decide +kernel
theorem dX7_broken_0 : decode cX7_broken 0 = .ok (.aload_n 0, 1) := by decide +kernel
theorem dX7_broken_1 : decode cX7_broken 1 = .ok (.getfield 7, 3) := by decide +kernel
theorem dX7_broken_4 : decode cX7_broken 4 = .ok (.iconst 0, 1) := by decide +kernel
theorem dX7_broken_5 : decode cX7_broken 5 = .ok (.iaload, 1) := by decide +kernel
theorem dX7_broken_6 : decode cX7_broken 6 = .ok (.istore_n 1, 1) := by decide +kernel
theorem dX7_broken_7 : decode cX7_broken 7 = .ok (.iconst 1, 1) := by decide +kernel
theorem dX7_broken_8 : decode cX7_broken 8 = .ok (.istore_n 2, 1) := by decide +kernel
theorem dX7_broken_9 : decode cX7_broken 9 = .ok (.iload_n 2, 1) := by decide +kernel
theorem dX7_broken_10 : decode cX7_broken 10 = .ok (.iconst 5, 1) := by decide +kernel
theorem dX7_broken_11 : decode cX7_broken 11 = .ok (.if_icmp .ge 49, 3) := by decide +kernel
theorem dX7_broken_14 : decode cX7_broken 14 = .ok (.iconst 0, 1) := by decide +kernel
theorem dX7_broken_15 : decode cX7_broken 15 = .ok (.istore_n 3, 1) := by decide +kernel
theorem dX7_broken_16 : decode cX7_broken 16 = .ok (.iload_n 3, 1) := by decide +kernel
theorem dX7_broken_17 : decode cX7_broken 17 = .ok (.iload_n 1, 1) := by decide +kernel
theorem dX7_broken_18 : decode cX7_broken 18 = .ok (.iload_n 1, 1) := by decide +kernel
theorem dX7_broken_19 : decode cX7_broken 19 = .ok (.imul, 1) := by decide +kernel
theorem dX7_broken_20 : decode cX7_broken 20 = .ok (.iload_n 1, 1) := by decide +kernel
theorem dX7_broken_21 : decode cX7_broken 21 = .ok (.imul, 1) := by decide +kernel
theorem dX7_broken_22 : decode cX7_broken 22 = .ok (.if_icmp .ge 32, 3) := by decide +kernel
theorem dX7_broken_25 : decode cX7_broken 25 = .ok (.aload_n 0, 1) := by decide +kernel
theorem dX7_broken_26 : decode cX7_broken 26 = .ok (.iload_n 2, 1) := by decide +kernel
theorem dX7_broken_27 : decode cX7_broken 27 = .ok (.iload_n 3, 1) := by decide +kernel
theorem dX7_broken_28 : decode cX7_broken 28 = .ok (.iload_n 1, 1) := by decide +kernel
theorem dX7_broken_29 : decode cX7_broken 29 = .ok (.idiv, 1) := by decide +kernel
theorem dX7_broken_30 : decode cX7_broken 30 = .ok (.iload_n 1, 1) := by decide +kernel
theorem dX7_broken_31 : decode cX7_broken 31 = .ok (.idiv, 1) := by decide +kernel
theorem dX7_broken_32 : decode cX7_broken 32 = .ok (.iload_n 3, 1) := by decide +kernel
theorem dX7_broken_33 : decode cX7_broken 33 = .ok (.iload_n 1, 1) := by decide +kernel
theorem dX7_broken_34 : decode cX7_broken 34 = .ok (.idiv, 1) := by decide +kernel
theorem dX7_broken_35 : decode cX7_broken 35 = .ok (.iload_n 1, 1) := by decide +kernel
theorem dX7_broken_36 : decode cX7_broken 36 = .ok (.irem, 1) := by decide +kernel
theorem dX7_broken_37 : decode cX7_broken 37 = .ok (.iload_n 3, 1) := by decide +kernel
theorem dX7_broken_38 : decode cX7_broken 38 = .ok (.iload_n 1, 1) := by decide +kernel
theorem dX7_broken_39 : decode cX7_broken 39 = .ok (.irem, 1) := by decide +kernel
theorem dX7_broken_40 : decode cX7_broken 40 = .ok (.invokevirtual 50, 3) := by decide +kernel
theorem dX7_broken_43 : decode cX7_broken 43 = .ok (.ifCond .ne 5, 3) := by decide +kernel
theorem dX7_broken_46 : decode cX7_broken 46 = .ok (.iload_n 2, 1) := by decide +kernel
theorem dX7_broken_47 : decode cX7_broken 47 = .ok (.ireturn, 1) := by decide +kernel
theorem dX7_broken_48 : decode cX7_broken 48 = .ok (.iinc 3 1, 3) := by decide +kernel
theorem dX7_broken_51 : decode cX7_broken 51 = .ok (.goto (-35), 3) := by decide +kernel
theorem dX7_broken_54 : decode cX7_broken 54 = .ok (.iinc 2 1, 3) := by decide +kernel
theorem dX7_broken_57 : decode cX7_broken 57 = .ok (.goto (-48), 3) := by decide +kernel
theorem dX7_broken_60 : decode cX7_broken 60 = .ok (.iconst 0, 1) := by decide +kernel
theorem dX7_broken_61 : decode cX7_broken 61 = .ok (.ireturn, 1) := by decide +kernel
theorem dX7_isPlace_0 : decode cX7_isPlace 0 = .ok (.iload_n 1, 1) := by decide +kernel
theorem dX7_isPlace_1 : decode cX7_isPlace 1 = .ok (.iconst 0, 1) := by decide +kernel
theorem dX7_isPlace_2 : decode cX7_isPlace 2 = .ok (.aload_n 0, 1) := by decide +kernel
theorem dX7_isPlace_3 : decode cX7_isPlace 3 = .ok (.getfield 7, 3) := by decide +kernel
theorem dX7_isPlace_6 : decode cX7_isPlace 6 = .ok (.iconst 1, 1) := by decide +kernel
theorem dX7_isPlace_7 : decode cX7_isPlace 7 = .ok (.iaload, 1) := by decide +kernel
theorem dX7_isPlace_8 : decode cX7_isPlace 8 = .ok (.iconst 1, 1) := by decide +kernel
theorem dX7_isPlace_9 : decode cX7_isPlace 9 = .ok (.isub, 1) := by decide +kernel
theorem dX7_isPlace_10 : decode cX7_isPlace 10 = .ok (.invokestatic 42, 3) := by decide +kernel
theorem dX7_isPlace_13 : decode cX7_isPlace 13 = .ok (.ireturn, 1) := by decide +kernel
theorem dX7_isWay_0 : decode cX7_isWay 0 = .ok (.iload_n 1, 1) := by decide +kernel
theorem dX7_isWay_1 : decode cX7_isWay 1 = .ok (.iconst 0, 1) := by decide +kernel
theorem dX7_isWay_2 : decode cX7_isWay 2 = .ok (.aload_n 0, 1) := by decide +kernel
theorem dX7_isWay_3 : decode cX7_isWay 3 = .ok (.getfield 7, 3) := by decide +kernel
theorem dX7_isWay_6 : decode cX7_isWay 6 = .ok (.iconst 2, 1) := by decide +kernel
theorem dX7_isWay_7 : decode cX7_isWay 7 = .ok (.iaload, 1) := by decide +kernel
theorem dX7_isWay_8 : decode cX7_isWay 8 = .ok (.iconst 1, 1) := by decide +kernel
theorem dX7_isWay_9 : decode cX7_isWay 9 = .ok (.isub, 1) := by decide +kernel
theorem dX7_isWay_10 : decode cX7_isWay 10 = .ok (.invokestatic 42, 3) := by decide +kernel
theorem dX7_isWay_13 : decode cX7_isWay 13 = .ok (.ireturn, 1) := by decide +kernel
theorem dX7_of_0 : decode cX7_of 0 = .ok (.aload_n 0, 1) := by decide +kernel
theorem dX7_of_1 : decode cX7_of 1 = .ok (.getfield 7, 3) := by decide +kernel
theorem dX7_of_4 : decode cX7_of 4 = .ok (.bipush 107, 2) := by decide +kernel
theorem dX7_of_6 : decode cX7_of 6 = .ok (.bipush 13, 2) := by decide +kernel
theorem dX7_of_8 : decode cX7_of 8 = .ok (.iload_n 1, 1) := by decide +kernel
theorem dX7_of_9 : decode cX7_of 9 = .ok (.imul, 1) := by decide +kernel
theorem dX7_of_10 : decode cX7_of 10 = .ok (.iadd, 1) := by decide +kernel
theorem dX7_of_11 : decode cX7_of 11 = .ok (.iload_n 2, 1) := by decide +kernel
theorem dX7_of_12 : decode cX7_of 12 = .ok (.iadd, 1) := by decide +kernel
theorem dX7_of_13 : decode cX7_of 13 = .ok (.iaload, 1) := by decide +kernel
theorem dX7_of_14 : decode cX7_of 14 = .ok (.ireturn, 1) := by decide +kernel
theorem dX7_keepsOrder_0 : decode cX7_keepsOrder 0 = .ok (.iconst 0, 1) := by decide +kernel
theorem dX7_keepsOrder_1 : decode cX7_keepsOrder 1 = .ok (.istore_n 2, 1) := by decide +kernel
theorem dX7_keepsOrder_2 : decode cX7_keepsOrder 2 = .ok (.iload_n 2, 1) := by decide +kernel
theorem dX7_keepsOrder_3 : decode cX7_keepsOrder 3 = .ok (.aload_n 0, 1) := by decide +kernel
theorem dX7_keepsOrder_4 : decode cX7_keepsOrder 4 = .ok (.getfield 7, 3) := by decide +kernel
theorem dX7_keepsOrder_7 : decode cX7_keepsOrder 7 = .ok (.iconst 0, 1) := by decide +kernel
theorem dX7_keepsOrder_8 : decode cX7_keepsOrder 8 = .ok (.iaload, 1) := by decide +kernel
theorem dX7_keepsOrder_9 : decode cX7_keepsOrder 9 = .ok (.if_icmp .ge 61, 3) := by decide +kernel
theorem dX7_keepsOrder_12 : decode cX7_keepsOrder 12 = .ok (.iconst 0, 1) := by decide +kernel
theorem dX7_keepsOrder_13 : decode cX7_keepsOrder 13 = .ok (.istore_n 3, 1) := by decide +kernel
theorem dX7_keepsOrder_14 : decode cX7_keepsOrder 14 = .ok (.iload_n 3, 1) := by decide +kernel
theorem dX7_keepsOrder_15 : decode cX7_keepsOrder 15 = .ok (.aload_n 0, 1) := by decide +kernel
theorem dX7_keepsOrder_16 : decode cX7_keepsOrder 16 = .ok (.getfield 7, 3) := by decide +kernel
theorem dX7_keepsOrder_19 : decode cX7_keepsOrder 19 = .ok (.iconst 0, 1) := by decide +kernel
theorem dX7_keepsOrder_20 : decode cX7_keepsOrder 20 = .ok (.iaload, 1) := by decide +kernel
theorem dX7_keepsOrder_21 : decode cX7_keepsOrder 21 = .ok (.if_icmp .ge 43, 3) := by decide +kernel
theorem dX7_keepsOrder_24 : decode cX7_keepsOrder 24 = .ok (.aload_n 0, 1) := by decide +kernel
theorem dX7_keepsOrder_25 : decode cX7_keepsOrder 25 = .ok (.iload_n 2, 1) := by decide +kernel
theorem dX7_keepsOrder_26 : decode cX7_keepsOrder 26 = .ok (.iload_n 3, 1) := by decide +kernel
theorem dX7_keepsOrder_27 : decode cX7_keepsOrder 27 = .ok (.invokevirtual 54, 3) := by decide +kernel
theorem dX7_keepsOrder_30 : decode cX7_keepsOrder 30 = .ok (.ifCond .eq 28, 3) := by decide +kernel
theorem dX7_keepsOrder_33 : decode cX7_keepsOrder 33 = .ok (.aload_n 0, 1) := by decide +kernel
theorem dX7_keepsOrder_34 : decode cX7_keepsOrder 34 = .ok (.aload_n 0, 1) := by decide +kernel
theorem dX7_keepsOrder_35 : decode cX7_keepsOrder 35 = .ok (.iload_n 1, 1) := by decide +kernel
theorem dX7_keepsOrder_36 : decode cX7_keepsOrder 36 = .ok (.iconst 5, 1) := by decide +kernel
theorem dX7_keepsOrder_37 : decode cX7_keepsOrder 37 = .ok (.iload_n 2, 1) := by decide +kernel
theorem dX7_keepsOrder_38 : decode cX7_keepsOrder 38 = .ok (.iadd, 1) := by decide +kernel
theorem dX7_keepsOrder_39 : decode cX7_keepsOrder 39 = .ok (.invokevirtual 58, 3) := by decide +kernel
theorem dX7_keepsOrder_42 : decode cX7_keepsOrder 42 = .ok (.aload_n 0, 1) := by decide +kernel
theorem dX7_keepsOrder_43 : decode cX7_keepsOrder 43 = .ok (.iload_n 1, 1) := by decide +kernel
theorem dX7_keepsOrder_44 : decode cX7_keepsOrder 44 = .ok (.iconst 5, 1) := by decide +kernel
theorem dX7_keepsOrder_45 : decode cX7_keepsOrder 45 = .ok (.iload_n 3, 1) := by decide +kernel
theorem dX7_keepsOrder_46 : decode cX7_keepsOrder 46 = .ok (.iadd, 1) := by decide +kernel
theorem dX7_keepsOrder_47 : decode cX7_keepsOrder 47 = .ok (.invokevirtual 58, 3) := by decide +kernel
theorem dX7_keepsOrder_50 : decode cX7_keepsOrder 50 = .ok (.invokevirtual 54, 3) := by decide +kernel
theorem dX7_keepsOrder_53 : decode cX7_keepsOrder 53 = .ok (.ifCond .ne 5, 3) := by decide +kernel
theorem dX7_keepsOrder_56 : decode cX7_keepsOrder 56 = .ok (.iconst 0, 1) := by decide +kernel
theorem dX7_keepsOrder_57 : decode cX7_keepsOrder 57 = .ok (.ireturn, 1) := by decide +kernel
theorem dX7_keepsOrder_58 : decode cX7_keepsOrder 58 = .ok (.iinc 3 1, 3) := by decide +kernel
theorem dX7_keepsOrder_61 : decode cX7_keepsOrder 61 = .ok (.goto (-47), 3) := by decide +kernel
theorem dX7_keepsOrder_64 : decode cX7_keepsOrder 64 = .ok (.iinc 2 1, 3) := by decide +kernel
theorem dX7_keepsOrder_67 : decode cX7_keepsOrder 67 = .ok (.goto (-65), 3) := by decide +kernel
theorem dX7_keepsOrder_70 : decode cX7_keepsOrder 70 = .ok (.iconst 1, 1) := by decide +kernel
theorem dX7_keepsOrder_71 : decode cX7_keepsOrder 71 = .ok (.ireturn, 1) := by decide +kernel
theorem dX7_firstUnordered_0 : decode cX7_firstUnordered 0 = .ok (.iconst 0, 1) := by decide +kernel
theorem dX7_firstUnordered_1 : decode cX7_firstUnordered 1 = .ok (.istore_n 1, 1) := by decide +kernel
theorem dX7_firstUnordered_2 : decode cX7_firstUnordered 2 = .ok (.iload_n 1, 1) := by decide +kernel
theorem dX7_firstUnordered_3 : decode cX7_firstUnordered 3 = .ok (.aload_n 0, 1) := by decide +kernel
theorem dX7_firstUnordered_4 : decode cX7_firstUnordered 4 = .ok (.getfield 7, 3) := by decide +kernel
theorem dX7_firstUnordered_7 : decode cX7_firstUnordered 7 = .ok (.iconst 2, 1) := by decide +kernel
theorem dX7_firstUnordered_8 : decode cX7_firstUnordered 8 = .ok (.iaload, 1) := by decide +kernel
theorem dX7_firstUnordered_9 : decode cX7_firstUnordered 9 = .ok (.if_icmp .ge 19, 3) := by decide +kernel
theorem dX7_firstUnordered_12 : decode cX7_firstUnordered 12 = .ok (.aload_n 0, 1) := by decide +kernel
theorem dX7_firstUnordered_13 : decode cX7_firstUnordered 13 = .ok (.iload_n 1, 1) := by decide +kernel
theorem dX7_firstUnordered_14 : decode cX7_firstUnordered 14 = .ok (.invokevirtual 61, 3) := by decide +kernel
theorem dX7_firstUnordered_17 : decode cX7_firstUnordered 17 = .ok (.ifCond .ne 5, 3) := by decide +kernel
theorem dX7_firstUnordered_20 : decode cX7_firstUnordered 20 = .ok (.iload_n 1, 1) := by decide +kernel
theorem dX7_firstUnordered_21 : decode cX7_firstUnordered 21 = .ok (.ireturn, 1) := by decide +kernel
theorem dX7_firstUnordered_22 : decode cX7_firstUnordered 22 = .ok (.iinc 1 1, 3) := by decide +kernel
theorem dX7_firstUnordered_25 : decode cX7_firstUnordered 25 = .ok (.goto (-23), 3) := by decide +kernel
theorem dX7_firstUnordered_28 : decode cX7_firstUnordered 28 = .ok (.iconst (-1), 1) := by decide +kernel
theorem dX7_firstUnordered_29 : decode cX7_firstUnordered 29 = .ok (.ireturn, 1) := by decide +kernel
theorem dX7_isWell_0 : decode cX7_isWell 0 = .ok (.aload_n 0, 1) := by decide +kernel
theorem dX7_isWell_1 : decode cX7_isWell 1 = .ok (.invokevirtual 65, 3) := by decide +kernel
theorem dX7_isWell_4 : decode cX7_isWell 4 = .ok (.ifCond .ne 15, 3) := by decide +kernel
theorem dX7_isWell_7 : decode cX7_isWell 7 = .ok (.aload_n 0, 1) := by decide +kernel
theorem dX7_isWell_8 : decode cX7_isWell 8 = .ok (.invokevirtual 69, 3) := by decide +kernel
theorem dX7_isWell_11 : decode cX7_isWell 11 = .ok (.iconst (-1), 1) := by decide +kernel
theorem dX7_isWell_12 : decode cX7_isWell 12 = .ok (.if_icmp .ne 7, 3) := by decide +kernel
theorem dX7_isWell_15 : decode cX7_isWell 15 = .ok (.iconst 1, 1) := by decide +kernel
theorem dX7_isWell_16 : decode cX7_isWell 16 = .ok (.goto 4, 3) := by decide +kernel
theorem dX7_isWell_19 : decode cX7_isWell 19 = .ok (.iconst 0, 1) := by decide +kernel
theorem dX7_isWell_20 : decode cX7_isWell 20 = .ok (.ireturn, 1) := by decide +kernel
theorem dX7_isSet_0 : decode cX7_isSet 0 = .ok (.iload_n 0, 1) := by decide +kernel
theorem dX7_isSet_1 : decode cX7_isSet 1 = .ok (.iconst 0, 1) := by decide +kernel
theorem dX7_isSet_2 : decode cX7_isSet 2 = .ok (.sipush 255, 3) := by decide +kernel
theorem dX7_isSet_5 : decode cX7_isSet 5 = .ok (.invokestatic 42, 3) := by decide +kernel
theorem dX7_isSet_8 : decode cX7_isSet 8 = .ok (.ireturn, 1) := by decide +kernel
theorem dX7_brings_0 : decode cX7_brings 0 = .ok (.aload_n 0, 1) := by decide +kernel
theorem dX7_brings_1 : decode cX7_brings 1 = .ok (.aload_n 0, 1) := by decide +kernel
theorem dX7_brings_2 : decode cX7_brings 2 = .ok (.iload_n 1, 1) := by decide +kernel
theorem dX7_brings_3 : decode cX7_brings 3 = .ok (.iconst 4, 1) := by decide +kernel
theorem dX7_brings_4 : decode cX7_brings 4 = .ok (.invokevirtual 58, 3) := by decide +kernel
theorem dX7_brings_7 : decode cX7_brings 7 = .ok (.iload_n 2, 1) := by decide +kernel
theorem dX7_brings_8 : decode cX7_brings 8 = .ok (.invokevirtual 54, 3) := by decide +kernel
theorem dX7_brings_11 : decode cX7_brings 11 = .ok (.istore 4, 2) := by decide +kernel
theorem dX7_brings_13 : decode cX7_brings 13 = .ok (.aload_n 0, 1) := by decide +kernel
theorem dX7_brings_14 : decode cX7_brings 14 = .ok (.iload 4, 2) := by decide +kernel
theorem dX7_brings_16 : decode cX7_brings 16 = .ok (.ifCond .eq 14, 3) := by decide +kernel
theorem dX7_brings_19 : decode cX7_brings 19 = .ok (.aload_n 0, 1) := by decide +kernel
theorem dX7_brings_20 : decode cX7_brings 20 = .ok (.iload_n 1, 1) := by decide +kernel
theorem dX7_brings_21 : decode cX7_brings 21 = .ok (.iconst 5, 1) := by decide +kernel
theorem dX7_brings_22 : decode cX7_brings 22 = .ok (.iload_n 2, 1) := by decide +kernel
theorem dX7_brings_23 : decode cX7_brings 23 = .ok (.iadd, 1) := by decide +kernel
theorem dX7_brings_24 : decode cX7_brings 24 = .ok (.invokevirtual 58, 3) := by decide +kernel
theorem dX7_brings_27 : decode cX7_brings 27 = .ok (.goto 4, 3) := by decide +kernel
theorem dX7_brings_30 : decode cX7_brings 30 = .ok (.iconst 0, 1) := by decide +kernel
theorem dX7_brings_31 : decode cX7_brings 31 = .ok (.putfield 72, 3) := by decide +kernel
theorem dX7_brings_34 : decode cX7_brings 34 = .ok (.aload_n 0, 1) := by decide +kernel
theorem dX7_brings_35 : decode cX7_brings 35 = .ok (.iload 4, 2) := by decide +kernel
theorem dX7_brings_37 : decode cX7_brings 37 = .ok (.ifCond .eq 23, 3) := by decide +kernel
theorem dX7_brings_40 : decode cX7_brings 40 = .ok (.iload_n 3, 1) := by decide +kernel
theorem dX7_brings_41 : decode cX7_brings 41 = .ok (.aload_n 0, 1) := by decide +kernel
theorem dX7_brings_42 : decode cX7_brings 42 = .ok (.iload_n 1, 1) := by decide +kernel
theorem dX7_brings_43 : decode cX7_brings 43 = .ok (.iconst 3, 1) := by decide +kernel
theorem dX7_brings_44 : decode cX7_brings 44 = .ok (.invokevirtual 58, 3) := by decide +kernel
theorem dX7_brings_47 : decode cX7_brings 47 = .ok (.iconst (-1), 1) := by decide +kernel
theorem dX7_brings_48 : decode cX7_brings 48 = .ok (.ixor, 1) := by decide +kernel
theorem dX7_brings_49 : decode cX7_brings 49 = .ok (.iand, 1) := by decide +kernel
theorem dX7_brings_50 : decode cX7_brings 50 = .ok (.aload_n 0, 1) := by decide +kernel
theorem dX7_brings_51 : decode cX7_brings 51 = .ok (.iload_n 1, 1) := by decide +kernel
theorem dX7_brings_52 : decode cX7_brings 52 = .ok (.iconst 2, 1) := by decide +kernel
theorem dX7_brings_53 : decode cX7_brings 53 = .ok (.invokevirtual 58, 3) := by decide +kernel
theorem dX7_brings_56 : decode cX7_brings 56 = .ok (.ior, 1) := by decide +kernel
theorem dX7_brings_57 : decode cX7_brings 57 = .ok (.goto 4, 3) := by decide +kernel
theorem dX7_brings_60 : decode cX7_brings 60 = .ok (.iconst 0, 1) := by decide +kernel
theorem dX7_brings_61 : decode cX7_brings 61 = .ok (.putfield 76, 3) := by decide +kernel
theorem dX7_brings_64 : decode cX7_brings 64 = .ok (.return_, 1) := by decide +kernel
theorem dX7_gathers_0 : decode cX7_gathers 0 = .ok (.aload_n 0, 1) := by decide +kernel
theorem dX7_gathers_1 : decode cX7_gathers 1 = .ok (.aload_n 0, 1) := by decide +kernel
theorem dX7_gathers_2 : decode cX7_gathers 2 = .ok (.getfield 7, 3) := by decide +kernel
theorem dX7_gathers_5 : decode cX7_gathers 5 = .ok (.bipush 67, 2) := by decide +kernel
theorem dX7_gathers_7 : decode cX7_gathers 7 = .ok (.iload_n 2, 1) := by decide +kernel
theorem dX7_gathers_8 : decode cX7_gathers 8 = .ok (.iadd, 1) := by decide +kernel
theorem dX7_gathers_9 : decode cX7_gathers 9 = .ok (.iaload, 1) := by decide +kernel
theorem dX7_gathers_10 : decode cX7_gathers 10 = .ok (.putfield 79, 3) := by decide +kernel
theorem dX7_gathers_13 : decode cX7_gathers 13 = .ok (.aload_n 0, 1) := by decide +kernel
theorem dX7_gathers_14 : decode cX7_gathers 14 = .ok (.aload_n 0, 1) := by decide +kernel
theorem dX7_gathers_15 : decode cX7_gathers 15 = .ok (.getfield 7, 3) := by decide +kernel
theorem dX7_gathers_18 : decode cX7_gathers 18 = .ok (.bipush 77, 2) := by decide +kernel
theorem dX7_gathers_20 : decode cX7_gathers 20 = .ok (.iload_n 2, 1) := by decide +kernel
theorem dX7_gathers_21 : decode cX7_gathers 21 = .ok (.iadd, 1) := by decide +kernel
theorem dX7_gathers_22 : decode cX7_gathers 22 = .ok (.iaload, 1) := by decide +kernel
theorem dX7_gathers_23 : decode cX7_gathers 23 = .ok (.putfield 82, 3) := by decide +kernel
theorem dX7_gathers_26 : decode cX7_gathers 26 = .ok (.iconst 0, 1) := by decide +kernel
theorem dX7_gathers_27 : decode cX7_gathers 27 = .ok (.istore 4, 2) := by decide +kernel
theorem dX7_gathers_29 : decode cX7_gathers 29 = .ok (.iload 4, 2) := by decide +kernel
theorem dX7_gathers_31 : decode cX7_gathers 31 = .ok (.aload_n 0, 1) := by decide +kernel
theorem dX7_gathers_32 : decode cX7_gathers 32 = .ok (.getfield 7, 3) := by decide +kernel
theorem dX7_gathers_35 : decode cX7_gathers 35 = .ok (.iconst 2, 1) := by decide +kernel
theorem dX7_gathers_36 : decode cX7_gathers 36 = .ok (.iaload, 1) := by decide +kernel
theorem dX7_gathers_37 : decode cX7_gathers 37 = .ok (.if_icmp .ge 82, 3) := by decide +kernel
theorem dX7_gathers_40 : decode cX7_gathers 40 = .ok (.iload 4, 2) := by decide +kernel
theorem dX7_gathers_42 : decode cX7_gathers 42 = .ok (.iload_n 3, 1) := by decide +kernel
theorem dX7_gathers_43 : decode cX7_gathers 43 = .ok (.if_icmp .eq 70, 3) := by decide +kernel
theorem dX7_gathers_46 : decode cX7_gathers 46 = .ok (.aload_n 0, 1) := by decide +kernel
theorem dX7_gathers_47 : decode cX7_gathers 47 = .ok (.iload 4, 2) := by decide +kernel
theorem dX7_gathers_49 : decode cX7_gathers 49 = .ok (.iconst 1, 1) := by decide +kernel
theorem dX7_gathers_50 : decode cX7_gathers 50 = .ok (.invokevirtual 58, 3) := by decide +kernel
theorem dX7_gathers_53 : decode cX7_gathers 53 = .ok (.iload_n 2, 1) := by decide +kernel
theorem dX7_gathers_54 : decode cX7_gathers 54 = .ok (.if_icmp .ne 59, 3) := by decide +kernel
theorem dX7_gathers_57 : decode cX7_gathers 57 = .ok (.aload_n 0, 1) := by decide +kernel
theorem dX7_gathers_58 : decode cX7_gathers 58 = .ok (.iload 4, 2) := by decide +kernel
theorem dX7_gathers_60 : decode cX7_gathers 60 = .ok (.aload_n 1, 1) := by decide +kernel
theorem dX7_gathers_61 : decode cX7_gathers 61 = .ok (.aload_n 0, 1) := by decide +kernel
theorem dX7_gathers_62 : decode cX7_gathers 62 = .ok (.iload 4, 2) := by decide +kernel
theorem dX7_gathers_64 : decode cX7_gathers 64 = .ok (.iconst 0, 1) := by decide +kernel
theorem dX7_gathers_65 : decode cX7_gathers 65 = .ok (.invokevirtual 58, 3) := by decide +kernel
theorem dX7_gathers_68 : decode cX7_gathers 68 = .ok (.iaload, 1) := by decide +kernel
theorem dX7_gathers_69 : decode cX7_gathers 69 = .ok (.aload_n 1, 1) := by decide +kernel
theorem dX7_gathers_70 : decode cX7_gathers 70 = .ok (.bipush 10, 2) := by decide +kernel
theorem dX7_gathers_72 : decode cX7_gathers 72 = .ok (.aload_n 0, 1) := by decide +kernel
theorem dX7_gathers_73 : decode cX7_gathers 73 = .ok (.iload 4, 2) := by decide +kernel
theorem dX7_gathers_75 : decode cX7_gathers 75 = .ok (.iconst 0, 1) := by decide +kernel
theorem dX7_gathers_76 : decode cX7_gathers 76 = .ok (.invokevirtual 58, 3) := by decide +kernel
theorem dX7_gathers_79 : decode cX7_gathers 79 = .ok (.iadd, 1) := by decide +kernel
theorem dX7_gathers_80 : decode cX7_gathers 80 = .ok (.iaload, 1) := by decide +kernel
theorem dX7_gathers_81 : decode cX7_gathers 81 = .ok (.invokevirtual 85, 3) := by decide +kernel
theorem dX7_gathers_84 : decode cX7_gathers 84 = .ok (.aload_n 0, 1) := by decide +kernel
theorem dX7_gathers_85 : decode cX7_gathers 85 = .ok (.aload_n 0, 1) := by decide +kernel
theorem dX7_gathers_86 : decode cX7_gathers 86 = .ok (.aload_n 0, 1) := by decide +kernel
theorem dX7_gathers_87 : decode cX7_gathers 87 = .ok (.getfield 79, 3) := by decide +kernel
theorem dX7_gathers_90 : decode cX7_gathers 90 = .ok (.aload_n 0, 1) := by decide +kernel
theorem dX7_gathers_91 : decode cX7_gathers 91 = .ok (.getfield 72, 3) := by decide +kernel
theorem dX7_gathers_94 : decode cX7_gathers 94 = .ok (.invokevirtual 46, 3) := by decide +kernel
theorem dX7_gathers_97 : decode cX7_gathers 97 = .ok (.putfield 79, 3) := by decide +kernel
theorem dX7_gathers_100 : decode cX7_gathers 100 = .ok (.aload_n 0, 1) := by decide +kernel
theorem dX7_gathers_101 : decode cX7_gathers 101 = .ok (.dup, 1) := by decide +kernel
theorem dX7_gathers_102 : decode cX7_gathers 102 = .ok (.getfield 82, 3) := by decide +kernel
theorem dX7_gathers_105 : decode cX7_gathers 105 = .ok (.aload_n 0, 1) := by decide +kernel
theorem dX7_gathers_106 : decode cX7_gathers 106 = .ok (.getfield 76, 3) := by decide +kernel
theorem dX7_gathers_109 : decode cX7_gathers 109 = .ok (.ior, 1) := by decide +kernel
theorem dX7_gathers_110 : decode cX7_gathers 110 = .ok (.putfield 82, 3) := by decide +kernel
theorem dX7_gathers_113 : decode cX7_gathers 113 = .ok (.iinc 4 1, 3) := by decide +kernel
theorem dX7_gathers_116 : decode cX7_gathers 116 = .ok (.goto (-87), 3) := by decide +kernel
theorem dX7_gathers_119 : decode cX7_gathers 119 = .ok (.return_, 1) := by decide +kernel
theorem dX7_waits_0 : decode cX7_waits 0 = .ok (.iconst 0, 1) := by decide +kernel
theorem dX7_waits_1 : decode cX7_waits 1 = .ok (.istore_n 2, 1) := by decide +kernel
theorem dX7_waits_2 : decode cX7_waits 2 = .ok (.iload_n 2, 1) := by decide +kernel
theorem dX7_waits_3 : decode cX7_waits 3 = .ok (.aload_n 0, 1) := by decide +kernel
theorem dX7_waits_4 : decode cX7_waits 4 = .ok (.getfield 88, 3) := by decide +kernel
theorem dX7_waits_7 : decode cX7_waits 7 = .ok (.if_icmp .ge 21, 3) := by decide +kernel
theorem dX7_waits_10 : decode cX7_waits 10 = .ok (.aload_n 0, 1) := by decide +kernel
theorem dX7_waits_11 : decode cX7_waits 11 = .ok (.getfield 35, 3) := by decide +kernel
theorem dX7_waits_14 : decode cX7_waits 14 = .ok (.iload_n 2, 1) := by decide +kernel
theorem dX7_waits_15 : decode cX7_waits 15 = .ok (.iaload, 1) := by decide +kernel
theorem dX7_waits_16 : decode cX7_waits 16 = .ok (.iload_n 1, 1) := by decide +kernel
theorem dX7_waits_17 : decode cX7_waits 17 = .ok (.if_icmp .ne 5, 3) := by decide +kernel
theorem dX7_waits_20 : decode cX7_waits 20 = .ok (.iconst 1, 1) := by decide +kernel
theorem dX7_waits_21 : decode cX7_waits 21 = .ok (.ireturn, 1) := by decide +kernel
theorem dX7_waits_22 : decode cX7_waits 22 = .ok (.iinc 2 1, 3) := by decide +kernel
theorem dX7_waits_25 : decode cX7_waits 25 = .ok (.goto (-23), 3) := by decide +kernel
theorem dX7_waits_28 : decode cX7_waits 28 = .ok (.iconst 0, 1) := by decide +kernel
theorem dX7_waits_29 : decode cX7_waits 29 = .ok (.ireturn, 1) := by decide +kernel
theorem dX7_taken_0 : decode cX7_taken 0 = .ok (.iload_n 1, 1) := by decide +kernel
theorem dX7_taken_1 : decode cX7_taken 1 = .ok (.iconst 2, 1) := by decide +kernel
theorem dX7_taken_2 : decode cX7_taken 2 = .ok (.if_icmp .ne 12, 3) := by decide +kernel
theorem dX7_taken_5 : decode cX7_taken 5 = .ok (.aload_n 0, 1) := by decide +kernel
theorem dX7_taken_6 : decode cX7_taken 6 = .ok (.getfield 88, 3) := by decide +kernel
theorem dX7_taken_9 : decode cX7_taken 9 = .ok (.iconst 1, 1) := by decide +kernel
theorem dX7_taken_10 : decode cX7_taken 10 = .ok (.isub, 1) := by decide +kernel
theorem dX7_taken_11 : decode cX7_taken 11 = .ok (.goto 4, 3) := by decide +kernel
theorem dX7_taken_14 : decode cX7_taken 14 = .ok (.iconst 0, 1) := by decide +kernel
theorem dX7_taken_15 : decode cX7_taken 15 = .ok (.istore_n 2, 1) := by decide +kernel
theorem dX7_taken_16 : decode cX7_taken 16 = .ok (.iconst 0, 1) := by decide +kernel
theorem dX7_taken_17 : decode cX7_taken 17 = .ok (.istore_n 3, 1) := by decide +kernel
theorem dX7_taken_18 : decode cX7_taken 18 = .ok (.iload_n 3, 1) := by decide +kernel
theorem dX7_taken_19 : decode cX7_taken 19 = .ok (.aload_n 0, 1) := by decide +kernel
theorem dX7_taken_20 : decode cX7_taken 20 = .ok (.getfield 88, 3) := by decide +kernel
theorem dX7_taken_23 : decode cX7_taken 23 = .ok (.if_icmp .ge 34, 3) := by decide +kernel
theorem dX7_taken_26 : decode cX7_taken 26 = .ok (.iload_n 1, 1) := by decide +kernel
theorem dX7_taken_27 : decode cX7_taken 27 = .ok (.ifCond .ne 30, 3) := by decide +kernel
theorem dX7_taken_30 : decode cX7_taken 30 = .ok (.aload_n 0, 1) := by decide +kernel
theorem dX7_taken_31 : decode cX7_taken 31 = .ok (.getfield 35, 3) := by decide +kernel
theorem dX7_taken_34 : decode cX7_taken 34 = .ok (.iload_n 3, 1) := by decide +kernel
theorem dX7_taken_35 : decode cX7_taken 35 = .ok (.iaload, 1) := by decide +kernel
theorem dX7_taken_36 : decode cX7_taken 36 = .ok (.aload_n 0, 1) := by decide +kernel
theorem dX7_taken_37 : decode cX7_taken 37 = .ok (.getfield 35, 3) := by decide +kernel
theorem dX7_taken_40 : decode cX7_taken 40 = .ok (.iload_n 2, 1) := by decide +kernel
theorem dX7_taken_41 : decode cX7_taken 41 = .ok (.iaload, 1) := by decide +kernel
theorem dX7_taken_42 : decode cX7_taken 42 = .ok (.if_icmp .ge 7, 3) := by decide +kernel
theorem dX7_taken_45 : decode cX7_taken 45 = .ok (.iload_n 3, 1) := by decide +kernel
theorem dX7_taken_46 : decode cX7_taken 46 = .ok (.goto 4, 3) := by decide +kernel
theorem dX7_taken_49 : decode cX7_taken 49 = .ok (.iload_n 2, 1) := by decide +kernel
theorem dX7_taken_50 : decode cX7_taken 50 = .ok (.istore_n 2, 1) := by decide +kernel
theorem dX7_taken_51 : decode cX7_taken 51 = .ok (.iinc 3 1, 3) := by decide +kernel
theorem dX7_taken_54 : decode cX7_taken 54 = .ok (.goto (-36), 3) := by decide +kernel
theorem dX7_taken_57 : decode cX7_taken 57 = .ok (.aload_n 0, 1) := by decide +kernel
theorem dX7_taken_58 : decode cX7_taken 58 = .ok (.getfield 35, 3) := by decide +kernel
theorem dX7_taken_61 : decode cX7_taken 61 = .ok (.iload_n 2, 1) := by decide +kernel
theorem dX7_taken_62 : decode cX7_taken 62 = .ok (.iaload, 1) := by decide +kernel
theorem dX7_taken_63 : decode cX7_taken 63 = .ok (.istore_n 3, 1) := by decide +kernel
theorem dX7_taken_64 : decode cX7_taken 64 = .ok (.aload_n 0, 1) := by decide +kernel
theorem dX7_taken_65 : decode cX7_taken 65 = .ok (.dup, 1) := by decide +kernel
theorem dX7_taken_66 : decode cX7_taken 66 = .ok (.getfield 88, 3) := by decide +kernel
theorem dX7_taken_69 : decode cX7_taken 69 = .ok (.iconst 1, 1) := by decide +kernel
theorem dX7_taken_70 : decode cX7_taken 70 = .ok (.isub, 1) := by decide +kernel
theorem dX7_taken_71 : decode cX7_taken 71 = .ok (.putfield 88, 3) := by decide +kernel
theorem dX7_taken_74 : decode cX7_taken 74 = .ok (.iload_n 2, 1) := by decide +kernel
theorem dX7_taken_75 : decode cX7_taken 75 = .ok (.istore 4, 2) := by decide +kernel
theorem dX7_taken_77 : decode cX7_taken 77 = .ok (.iload 4, 2) := by decide +kernel
theorem dX7_taken_79 : decode cX7_taken 79 = .ok (.aload_n 0, 1) := by decide +kernel
theorem dX7_taken_80 : decode cX7_taken 80 = .ok (.getfield 88, 3) := by decide +kernel
theorem dX7_taken_83 : decode cX7_taken 83 = .ok (.if_icmp .ge 25, 3) := by decide +kernel
theorem dX7_taken_86 : decode cX7_taken 86 = .ok (.aload_n 0, 1) := by decide +kernel
theorem dX7_taken_87 : decode cX7_taken 87 = .ok (.getfield 35, 3) := by decide +kernel
theorem dX7_taken_90 : decode cX7_taken 90 = .ok (.iload 4, 2) := by decide +kernel
theorem dX7_taken_92 : decode cX7_taken 92 = .ok (.aload_n 0, 1) := by decide +kernel
theorem dX7_taken_93 : decode cX7_taken 93 = .ok (.getfield 35, 3) := by decide +kernel
theorem dX7_taken_96 : decode cX7_taken 96 = .ok (.iload 4, 2) := by decide +kernel
theorem dX7_taken_98 : decode cX7_taken 98 = .ok (.iconst 1, 1) := by decide +kernel
theorem dX7_taken_99 : decode cX7_taken 99 = .ok (.iadd, 1) := by decide +kernel
theorem dX7_taken_100 : decode cX7_taken 100 = .ok (.iaload, 1) := by decide +kernel
theorem dX7_taken_101 : decode cX7_taken 101 = .ok (.iastore, 1) := by decide +kernel
theorem dX7_taken_102 : decode cX7_taken 102 = .ok (.iinc 4 1, 3) := by decide +kernel
theorem dX7_taken_105 : decode cX7_taken 105 = .ok (.goto (-28), 3) := by decide +kernel
theorem dX7_taken_108 : decode cX7_taken 108 = .ok (.iload_n 3, 1) := by decide +kernel
theorem dX7_taken_109 : decode cX7_taken 109 = .ok (.ireturn, 1) := by decide +kernel
theorem dX7_works_0 : decode cX7_works 0 = .ok (.iconst 0, 1) := by decide +kernel
theorem dX7_works_1 : decode cX7_works 1 = .ok (.istore 4, 2) := by decide +kernel
theorem dX7_works_3 : decode cX7_works 3 = .ok (.iload 4, 2) := by decide +kernel
theorem dX7_works_5 : decode cX7_works 5 = .ok (.bipush 20, 2) := by decide +kernel
theorem dX7_works_7 : decode cX7_works 7 = .ok (.if_icmp .ge 14, 3) := by decide +kernel
theorem dX7_works_10 : decode cX7_works 10 = .ok (.aload_n 1, 1) := by decide +kernel
theorem dX7_works_11 : decode cX7_works 11 = .ok (.iload 4, 2) := by decide +kernel
theorem dX7_works_13 : decode cX7_works 13 = .ok (.iconst 0, 1) := by decide +kernel
theorem dX7_works_14 : decode cX7_works 14 = .ok (.iastore, 1) := by decide +kernel
theorem dX7_works_15 : decode cX7_works 15 = .ok (.iinc 4 1, 3) := by decide +kernel
theorem dX7_works_18 : decode cX7_works 18 = .ok (.goto (-15), 3) := by decide +kernel
theorem dX7_works_21 : decode cX7_works 21 = .ok (.aload_n 0, 1) := by decide +kernel
theorem dX7_works_22 : decode cX7_works 22 = .ok (.aload_n 0, 1) := by decide +kernel
theorem dX7_works_23 : decode cX7_works 23 = .ok (.getfield 7, 3) := by decide +kernel
theorem dX7_works_26 : decode cX7_works 26 = .ok (.iconst 1, 1) := by decide +kernel
theorem dX7_works_27 : decode cX7_works 27 = .ok (.iaload, 1) := by decide +kernel
theorem dX7_works_28 : decode cX7_works 28 = .ok (.putfield 88, 3) := by decide +kernel
theorem dX7_works_31 : decode cX7_works 31 = .ok (.iconst 0, 1) := by decide +kernel
theorem dX7_works_32 : decode cX7_works 32 = .ok (.istore 4, 2) := by decide +kernel
theorem dX7_works_34 : decode cX7_works 34 = .ok (.iload 4, 2) := by decide +kernel
theorem dX7_works_36 : decode cX7_works 36 = .ok (.aload_n 0, 1) := by decide +kernel
theorem dX7_works_37 : decode cX7_works 37 = .ok (.getfield 88, 3) := by decide +kernel
theorem dX7_works_40 : decode cX7_works 40 = .ok (.if_icmp .ge 18, 3) := by decide +kernel
theorem dX7_works_43 : decode cX7_works 43 = .ok (.aload_n 0, 1) := by decide +kernel
theorem dX7_works_44 : decode cX7_works 44 = .ok (.getfield 35, 3) := by decide +kernel
theorem dX7_works_47 : decode cX7_works 47 = .ok (.iload 4, 2) := by decide +kernel
theorem dX7_works_49 : decode cX7_works 49 = .ok (.iload 4, 2) := by decide +kernel
theorem dX7_works_51 : decode cX7_works 51 = .ok (.iastore, 1) := by decide +kernel
theorem dX7_works_52 : decode cX7_works 52 = .ok (.iinc 4 1, 3) := by decide +kernel
theorem dX7_works_55 : decode cX7_works 55 = .ok (.goto (-21), 3) := by decide +kernel
theorem dX7_works_58 : decode cX7_works 58 = .ok (.iconst 0, 1) := by decide +kernel
theorem dX7_works_59 : decode cX7_works 59 = .ok (.istore 4, 2) := by decide +kernel
theorem dX7_works_61 : decode cX7_works 61 = .ok (.aload_n 0, 1) := by decide +kernel
theorem dX7_works_62 : decode cX7_works 62 = .ok (.getfield 88, 3) := by decide +kernel
theorem dX7_works_65 : decode cX7_works 65 = .ok (.ifCond .le 154, 3) := by decide +kernel
theorem dX7_works_68 : decode cX7_works 68 = .ok (.iload 4, 2) := by decide +kernel
theorem dX7_works_70 : decode cX7_works 70 = .ok (.sipush 2000, 3) := by decide +kernel
theorem dX7_works_73 : decode cX7_works 73 = .ok (.if_icmp .ge 146, 3) := by decide +kernel
theorem dX7_works_76 : decode cX7_works 76 = .ok (.aload_n 0, 1) := by decide +kernel
theorem dX7_works_77 : decode cX7_works 77 = .ok (.iload_n 2, 1) := by decide +kernel
theorem dX7_works_78 : decode cX7_works 78 = .ok (.invokevirtual 91, 3) := by decide +kernel
theorem dX7_works_81 : decode cX7_works 81 = .ok (.istore 5, 2) := by decide +kernel
theorem dX7_works_83 : decode cX7_works 83 = .ok (.iinc 4 1, 3) := by decide +kernel
theorem dX7_works_86 : decode cX7_works 86 = .ok (.aload_n 0, 1) := by decide +kernel
theorem dX7_works_87 : decode cX7_works 87 = .ok (.aload_n 1, 1) := by decide +kernel
theorem dX7_works_88 : decode cX7_works 88 = .ok (.iload 5, 2) := by decide +kernel
theorem dX7_works_90 : decode cX7_works 90 = .ok (.iload_n 3, 1) := by decide +kernel
theorem dX7_works_91 : decode cX7_works 91 = .ok (.invokevirtual 95, 3) := by decide +kernel
theorem dX7_works_94 : decode cX7_works 94 = .ok (.aload_n 0, 1) := by decide +kernel
theorem dX7_works_95 : decode cX7_works 95 = .ok (.getfield 79, 3) := by decide +kernel
theorem dX7_works_98 : decode cX7_works 98 = .ok (.aload_n 1, 1) := by decide +kernel
theorem dX7_works_99 : decode cX7_works 99 = .ok (.iload 5, 2) := by decide +kernel
theorem dX7_works_101 : decode cX7_works 101 = .ok (.iaload, 1) := by decide +kernel
theorem dX7_works_102 : decode cX7_works 102 = .ok (.if_icmp .ne 17, 3) := by decide +kernel
theorem dX7_works_105 : decode cX7_works 105 = .ok (.aload_n 0, 1) := by decide +kernel
theorem dX7_works_106 : decode cX7_works 106 = .ok (.getfield 82, 3) := by decide +kernel
theorem dX7_works_109 : decode cX7_works 109 = .ok (.aload_n 1, 1) := by decide +kernel
theorem dX7_works_110 : decode cX7_works 110 = .ok (.bipush 10, 2) := by decide +kernel
theorem dX7_works_112 : decode cX7_works 112 = .ok (.iload 5, 2) := by decide +kernel
theorem dX7_works_114 : decode cX7_works 114 = .ok (.iadd, 1) := by decide +kernel
theorem dX7_works_115 : decode cX7_works 115 = .ok (.iaload, 1) := by decide +kernel
theorem dX7_works_116 : decode cX7_works 116 = .ok (.if_icmp .eq 100, 3) := by decide +kernel
theorem dX7_works_119 : decode cX7_works 119 = .ok (.aload_n 1, 1) := by decide +kernel
theorem dX7_works_120 : decode cX7_works 120 = .ok (.iload 5, 2) := by decide +kernel
theorem dX7_works_122 : decode cX7_works 122 = .ok (.aload_n 0, 1) := by decide +kernel
theorem dX7_works_123 : decode cX7_works 123 = .ok (.getfield 79, 3) := by decide +kernel
theorem dX7_works_126 : decode cX7_works 126 = .ok (.iastore, 1) := by decide +kernel
theorem dX7_works_127 : decode cX7_works 127 = .ok (.aload_n 1, 1) := by decide +kernel
theorem dX7_works_128 : decode cX7_works 128 = .ok (.bipush 10, 2) := by decide +kernel
theorem dX7_works_130 : decode cX7_works 130 = .ok (.iload 5, 2) := by decide +kernel
theorem dX7_works_132 : decode cX7_works 132 = .ok (.iadd, 1) := by decide +kernel
theorem dX7_works_133 : decode cX7_works 133 = .ok (.aload_n 0, 1) := by decide +kernel
theorem dX7_works_134 : decode cX7_works 134 = .ok (.getfield 82, 3) := by decide +kernel
theorem dX7_works_137 : decode cX7_works 137 = .ok (.iastore, 1) := by decide +kernel
theorem dX7_works_138 : decode cX7_works 138 = .ok (.iconst 0, 1) := by decide +kernel
theorem dX7_works_139 : decode cX7_works 139 = .ok (.istore 6, 2) := by decide +kernel
theorem dX7_works_141 : decode cX7_works 141 = .ok (.iload 6, 2) := by decide +kernel
theorem dX7_works_143 : decode cX7_works 143 = .ok (.aload_n 0, 1) := by decide +kernel
theorem dX7_works_144 : decode cX7_works 144 = .ok (.getfield 7, 3) := by decide +kernel
theorem dX7_works_147 : decode cX7_works 147 = .ok (.iconst 2, 1) := by decide +kernel
theorem dX7_works_148 : decode cX7_works 148 = .ok (.iaload, 1) := by decide +kernel
theorem dX7_works_149 : decode cX7_works 149 = .ok (.if_icmp .ge 67, 3) := by decide +kernel
theorem dX7_works_152 : decode cX7_works 152 = .ok (.iload 6, 2) := by decide +kernel
theorem dX7_works_154 : decode cX7_works 154 = .ok (.iload_n 3, 1) := by decide +kernel
theorem dX7_works_155 : decode cX7_works 155 = .ok (.if_icmp .eq 55, 3) := by decide +kernel
theorem dX7_works_158 : decode cX7_works 158 = .ok (.aload_n 0, 1) := by decide +kernel
theorem dX7_works_159 : decode cX7_works 159 = .ok (.iload 6, 2) := by decide +kernel
theorem dX7_works_161 : decode cX7_works 161 = .ok (.iconst 0, 1) := by decide +kernel
theorem dX7_works_162 : decode cX7_works 162 = .ok (.invokevirtual 58, 3) := by decide +kernel
theorem dX7_works_165 : decode cX7_works 165 = .ok (.iload 5, 2) := by decide +kernel
theorem dX7_works_167 : decode cX7_works 167 = .ok (.if_icmp .ne 43, 3) := by decide +kernel
theorem dX7_works_170 : decode cX7_works 170 = .ok (.aload_n 0, 1) := by decide +kernel
theorem dX7_works_171 : decode cX7_works 171 = .ok (.aload_n 0, 1) := by decide +kernel
theorem dX7_works_172 : decode cX7_works 172 = .ok (.iload 6, 2) := by decide +kernel
theorem dX7_works_174 : decode cX7_works 174 = .ok (.iconst 1, 1) := by decide +kernel
theorem dX7_works_175 : decode cX7_works 175 = .ok (.invokevirtual 58, 3) := by decide +kernel
theorem dX7_works_178 : decode cX7_works 178 = .ok (.invokevirtual 99, 3) := by decide +kernel
theorem dX7_works_181 : decode cX7_works 181 = .ok (.ifCond .ne 29, 3) := by decide +kernel
theorem dX7_works_184 : decode cX7_works 184 = .ok (.aload_n 0, 1) := by decide +kernel
theorem dX7_works_185 : decode cX7_works 185 = .ok (.getfield 35, 3) := by decide +kernel
theorem dX7_works_188 : decode cX7_works 188 = .ok (.aload_n 0, 1) := by decide +kernel
theorem dX7_works_189 : decode cX7_works 189 = .ok (.getfield 88, 3) := by decide +kernel
theorem dX7_works_192 : decode cX7_works 192 = .ok (.aload_n 0, 1) := by decide +kernel
theorem dX7_works_193 : decode cX7_works 193 = .ok (.iload 6, 2) := by decide +kernel
theorem dX7_works_195 : decode cX7_works 195 = .ok (.iconst 1, 1) := by decide +kernel
theorem dX7_works_196 : decode cX7_works 196 = .ok (.invokevirtual 58, 3) := by decide +kernel
theorem dX7_works_199 : decode cX7_works 199 = .ok (.iastore, 1) := by decide +kernel
theorem dX7_works_200 : decode cX7_works 200 = .ok (.aload_n 0, 1) := by decide +kernel
theorem dX7_works_201 : decode cX7_works 201 = .ok (.dup, 1) := by decide +kernel
theorem dX7_works_202 : decode cX7_works 202 = .ok (.getfield 88, 3) := by decide +kernel
theorem dX7_works_205 : decode cX7_works 205 = .ok (.iconst 1, 1) := by decide +kernel
theorem dX7_works_206 : decode cX7_works 206 = .ok (.iadd, 1) := by decide +kernel
theorem dX7_works_207 : decode cX7_works 207 = .ok (.putfield 88, 3) := by decide +kernel
theorem dX7_works_210 : decode cX7_works 210 = .ok (.iinc 6 1, 3) := by decide +kernel
theorem dX7_works_213 : decode cX7_works 213 = .ok (.goto (-72), 3) := by decide +kernel
theorem dX7_works_216 : decode cX7_works 216 = .ok (.goto (-155), 3) := by decide +kernel
theorem dX7_works_219 : decode cX7_works 219 = .ok (.aload_n 0, 1) := by decide +kernel
theorem dX7_works_220 : decode cX7_works 220 = .ok (.getfield 88, 3) := by decide +kernel
theorem dX7_works_223 : decode cX7_works 223 = .ok (.ifCond .le 7, 3) := by decide +kernel
theorem dX7_works_226 : decode cX7_works 226 = .ok (.iconst (-1), 1) := by decide +kernel
theorem dX7_works_227 : decode cX7_works 227 = .ok (.goto 5, 3) := by decide +kernel
theorem dX7_works_230 : decode cX7_works 230 = .ok (.iload 4, 2) := by decide +kernel
theorem dX7_works_232 : decode cX7_works 232 = .ok (.ireturn, 1) := by decide +kernel
theorem dX7_without_0 : decode cX7_without 0 = .ok (.aload_n 0, 1) := by decide +kernel
theorem dX7_without_1 : decode cX7_without 1 = .ok (.aload_n 0, 1) := by decide +kernel
theorem dX7_without_2 : decode cX7_without 2 = .ok (.getfield 26, 3) := by decide +kernel
theorem dX7_without_5 : decode cX7_without 5 = .ok (.iconst 0, 1) := by decide +kernel
theorem dX7_without_6 : decode cX7_without 6 = .ok (.iconst (-1), 1) := by decide +kernel
theorem dX7_without_7 : decode cX7_without 7 = .ok (.invokevirtual 102, 3) := by decide +kernel
theorem dX7_without_10 : decode cX7_without 10 = .ok (.istore_n 2, 1) := by decide +kernel
theorem dX7_without_11 : decode cX7_without 11 = .ok (.aload_n 0, 1) := by decide +kernel
theorem dX7_without_12 : decode cX7_without 12 = .ok (.aload_n 0, 1) := by decide +kernel
theorem dX7_without_13 : decode cX7_without 13 = .ok (.getfield 29, 3) := by decide +kernel
theorem dX7_without_16 : decode cX7_without 16 = .ok (.iconst 0, 1) := by decide +kernel
theorem dX7_without_17 : decode cX7_without 17 = .ok (.iload_n 1, 1) := by decide +kernel
theorem dX7_without_18 : decode cX7_without 18 = .ok (.invokevirtual 102, 3) := by decide +kernel
theorem dX7_without_21 : decode cX7_without 21 = .ok (.istore_n 3, 1) := by decide +kernel
theorem dX7_without_22 : decode cX7_without 22 = .ok (.iconst 0, 1) := by decide +kernel
theorem dX7_without_23 : decode cX7_without 23 = .ok (.istore 4, 2) := by decide +kernel
theorem dX7_without_25 : decode cX7_without 25 = .ok (.iconst 0, 1) := by decide +kernel
theorem dX7_without_26 : decode cX7_without 26 = .ok (.istore 5, 2) := by decide +kernel
theorem dX7_without_28 : decode cX7_without 28 = .ok (.iload 5, 2) := by decide +kernel
theorem dX7_without_30 : decode cX7_without 30 = .ok (.aload_n 0, 1) := by decide +kernel
theorem dX7_without_31 : decode cX7_without 31 = .ok (.getfield 7, 3) := by decide +kernel
theorem dX7_without_34 : decode cX7_without 34 = .ok (.iconst 1, 1) := by decide +kernel
theorem dX7_without_35 : decode cX7_without 35 = .ok (.iaload, 1) := by decide +kernel
theorem dX7_without_36 : decode cX7_without 36 = .ok (.if_icmp .ge 59, 3) := by decide +kernel
theorem dX7_without_39 : decode cX7_without 39 = .ok (.iload 4, 2) := by decide +kernel
theorem dX7_without_41 : decode cX7_without 41 = .ok (.aload_n 0, 1) := by decide +kernel
theorem dX7_without_42 : decode cX7_without 42 = .ok (.getfield 26, 3) := by decide +kernel
theorem dX7_without_45 : decode cX7_without 45 = .ok (.iload 5, 2) := by decide +kernel
theorem dX7_without_47 : decode cX7_without 47 = .ok (.iaload, 1) := by decide +kernel
theorem dX7_without_48 : decode cX7_without 48 = .ok (.aload_n 0, 1) := by decide +kernel
theorem dX7_without_49 : decode cX7_without 49 = .ok (.getfield 29, 3) := by decide +kernel
theorem dX7_without_52 : decode cX7_without 52 = .ok (.iload 5, 2) := by decide +kernel
theorem dX7_without_54 : decode cX7_without 54 = .ok (.iaload, 1) := by decide +kernel
theorem dX7_without_55 : decode cX7_without 55 = .ok (.if_icmp .ne 26, 3) := by decide +kernel
theorem dX7_without_58 : decode cX7_without 58 = .ok (.aload_n 0, 1) := by decide +kernel
theorem dX7_without_59 : decode cX7_without 59 = .ok (.getfield 26, 3) := by decide +kernel
theorem dX7_without_62 : decode cX7_without 62 = .ok (.bipush 10, 2) := by decide +kernel
theorem dX7_without_64 : decode cX7_without 64 = .ok (.iload 5, 2) := by decide +kernel
theorem dX7_without_66 : decode cX7_without 66 = .ok (.iadd, 1) := by decide +kernel
theorem dX7_without_67 : decode cX7_without 67 = .ok (.iaload, 1) := by decide +kernel
theorem dX7_without_68 : decode cX7_without 68 = .ok (.aload_n 0, 1) := by decide +kernel
theorem dX7_without_69 : decode cX7_without 69 = .ok (.getfield 29, 3) := by decide +kernel
theorem dX7_without_72 : decode cX7_without 72 = .ok (.bipush 10, 2) := by decide +kernel
theorem dX7_without_74 : decode cX7_without 74 = .ok (.iload 5, 2) := by decide +kernel
theorem dX7_without_76 : decode cX7_without 76 = .ok (.iadd, 1) := by decide +kernel
theorem dX7_without_77 : decode cX7_without 77 = .ok (.iaload, 1) := by decide +kernel
theorem dX7_without_78 : decode cX7_without 78 = .ok (.if_icmp .eq 7, 3) := by decide +kernel
theorem dX7_without_81 : decode cX7_without 81 = .ok (.iconst 1, 1) := by decide +kernel
theorem dX7_without_82 : decode cX7_without 82 = .ok (.goto 4, 3) := by decide +kernel
theorem dX7_without_85 : decode cX7_without 85 = .ok (.iconst 0, 1) := by decide +kernel
theorem dX7_without_86 : decode cX7_without 86 = .ok (.iadd, 1) := by decide +kernel
theorem dX7_without_87 : decode cX7_without 87 = .ok (.istore 4, 2) := by decide +kernel
theorem dX7_without_89 : decode cX7_without 89 = .ok (.iinc 5 1, 3) := by decide +kernel
theorem dX7_without_92 : decode cX7_without 92 = .ok (.goto (-64), 3) := by decide +kernel
theorem dX7_without_95 : decode cX7_without 95 = .ok (.iload_n 2, 1) := by decide +kernel
theorem dX7_without_96 : decode cX7_without 96 = .ok (.ifCond .lt 7, 3) := by decide +kernel
theorem dX7_without_99 : decode cX7_without 99 = .ok (.iload_n 3, 1) := by decide +kernel
theorem dX7_without_100 : decode cX7_without 100 = .ok (.ifCond .ge 7, 3) := by decide +kernel
theorem dX7_without_103 : decode cX7_without 103 = .ok (.iconst (-1), 1) := by decide +kernel
theorem dX7_without_104 : decode cX7_without 104 = .ok (.goto 5, 3) := by decide +kernel
theorem dX7_without_107 : decode cX7_without 107 = .ok (.iload 4, 2) := by decide +kernel
theorem dX7_without_109 : decode cX7_without 109 = .ok (.ireturn, 1) := by decide +kernel
theorem dX7_matters_0 : decode cX7_matters 0 = .ok (.iconst 0, 1) := by decide +kernel
theorem dX7_matters_1 : decode cX7_matters 1 = .ok (.istore_n 1, 1) := by decide +kernel
theorem dX7_matters_2 : decode cX7_matters 2 = .ok (.iconst 0, 1) := by decide +kernel
theorem dX7_matters_3 : decode cX7_matters 3 = .ok (.istore_n 2, 1) := by decide +kernel
theorem dX7_matters_4 : decode cX7_matters 4 = .ok (.iload_n 2, 1) := by decide +kernel
theorem dX7_matters_5 : decode cX7_matters 5 = .ok (.aload_n 0, 1) := by decide +kernel
theorem dX7_matters_6 : decode cX7_matters 6 = .ok (.getfield 7, 3) := by decide +kernel
theorem dX7_matters_9 : decode cX7_matters 9 = .ok (.iconst 2, 1) := by decide +kernel
theorem dX7_matters_10 : decode cX7_matters 10 = .ok (.iaload, 1) := by decide +kernel
theorem dX7_matters_11 : decode cX7_matters 11 = .ok (.if_icmp .ge 27, 3) := by decide +kernel
theorem dX7_matters_14 : decode cX7_matters 14 = .ok (.iload_n 1, 1) := by decide +kernel
theorem dX7_matters_15 : decode cX7_matters 15 = .ok (.aload_n 0, 1) := by decide +kernel
theorem dX7_matters_16 : decode cX7_matters 16 = .ok (.iload_n 2, 1) := by decide +kernel
theorem dX7_matters_17 : decode cX7_matters 17 = .ok (.invokevirtual 106, 3) := by decide +kernel
theorem dX7_matters_20 : decode cX7_matters 20 = .ok (.ifCond .le 9, 3) := by decide +kernel
theorem dX7_matters_23 : decode cX7_matters 23 = .ok (.iconst 1, 1) := by decide +kernel
theorem dX7_matters_24 : decode cX7_matters 24 = .ok (.iload_n 2, 1) := by decide +kernel
theorem dX7_matters_25 : decode cX7_matters 25 = .ok (.ishl, 1) := by decide +kernel
theorem dX7_matters_26 : decode cX7_matters 26 = .ok (.goto 4, 3) := by decide +kernel
theorem dX7_matters_29 : decode cX7_matters 29 = .ok (.iconst 0, 1) := by decide +kernel
theorem dX7_matters_30 : decode cX7_matters 30 = .ok (.ior, 1) := by decide +kernel
theorem dX7_matters_31 : decode cX7_matters 31 = .ok (.istore_n 1, 1) := by decide +kernel
theorem dX7_matters_32 : decode cX7_matters 32 = .ok (.iinc 2 1, 3) := by decide +kernel
theorem dX7_matters_35 : decode cX7_matters 35 = .ok (.goto (-31), 3) := by decide +kernel
theorem dX7_matters_38 : decode cX7_matters 38 = .ok (.iload_n 1, 1) := by decide +kernel
theorem dX7_matters_39 : decode cX7_matters 39 = .ok (.ireturn, 1) := by decide +kernel
theorem dX7_isKept_0 : decode cX7_isKept 0 = .ok (.iconst 0, 1) := by decide +kernel
theorem dX7_isKept_1 : decode cX7_isKept 1 = .ok (.istore_n 2, 1) := by decide +kernel
theorem dX7_isKept_2 : decode cX7_isKept 2 = .ok (.iload_n 2, 1) := by decide +kernel
theorem dX7_isKept_3 : decode cX7_isKept 3 = .ok (.aload_n 0, 1) := by decide +kernel
theorem dX7_isKept_4 : decode cX7_isKept 4 = .ok (.getfield 7, 3) := by decide +kernel
theorem dX7_isKept_7 : decode cX7_isKept 7 = .ok (.iconst 2, 1) := by decide +kernel
theorem dX7_isKept_8 : decode cX7_isKept 8 = .ok (.iaload, 1) := by decide +kernel
theorem dX7_isKept_9 : decode cX7_isKept 9 = .ok (.if_icmp .ge 31, 3) := by decide +kernel
theorem dX7_isKept_12 : decode cX7_isKept 12 = .ok (.aload_n 0, 1) := by decide +kernel
theorem dX7_isKept_13 : decode cX7_isKept 13 = .ok (.iload_n 2, 1) := by decide +kernel
theorem dX7_isKept_14 : decode cX7_isKept 14 = .ok (.iconst 1, 1) := by decide +kernel
theorem dX7_isKept_15 : decode cX7_isKept 15 = .ok (.invokevirtual 58, 3) := by decide +kernel
theorem dX7_isKept_18 : decode cX7_isKept 18 = .ok (.iload_n 1, 1) := by decide +kernel
theorem dX7_isKept_19 : decode cX7_isKept 19 = .ok (.if_icmp .ne 15, 3) := by decide +kernel
theorem dX7_isKept_22 : decode cX7_isKept 22 = .ok (.aload_n 0, 1) := by decide +kernel
theorem dX7_isKept_23 : decode cX7_isKept 23 = .ok (.iload_n 2, 1) := by decide +kernel
theorem dX7_isKept_24 : decode cX7_isKept 24 = .ok (.iconst 0, 1) := by decide +kernel
theorem dX7_isKept_25 : decode cX7_isKept 25 = .ok (.invokevirtual 58, 3) := by decide +kernel
theorem dX7_isKept_28 : decode cX7_isKept 28 = .ok (.iload_n 1, 1) := by decide +kernel
theorem dX7_isKept_29 : decode cX7_isKept 29 = .ok (.if_icmp .lt 5, 3) := by decide +kernel
theorem dX7_isKept_32 : decode cX7_isKept 32 = .ok (.iconst 1, 1) := by decide +kernel
theorem dX7_isKept_33 : decode cX7_isKept 33 = .ok (.ireturn, 1) := by decide +kernel
theorem dX7_isKept_34 : decode cX7_isKept 34 = .ok (.iinc 2 1, 3) := by decide +kernel
theorem dX7_isKept_37 : decode cX7_isKept 37 = .ok (.goto (-35), 3) := by decide +kernel
theorem dX7_isKept_40 : decode cX7_isKept 40 = .ok (.iconst 0, 1) := by decide +kernel
theorem dX7_isKept_41 : decode cX7_isKept 41 = .ok (.ireturn, 1) := by decide +kernel
theorem dX7_kept_0 : decode cX7_kept 0 = .ok (.iconst 0, 1) := by decide +kernel
theorem dX7_kept_1 : decode cX7_kept 1 = .ok (.istore_n 1, 1) := by decide +kernel
theorem dX7_kept_2 : decode cX7_kept 2 = .ok (.iconst 0, 1) := by decide +kernel
theorem dX7_kept_3 : decode cX7_kept 3 = .ok (.istore_n 2, 1) := by decide +kernel
theorem dX7_kept_4 : decode cX7_kept 4 = .ok (.iload_n 2, 1) := by decide +kernel
theorem dX7_kept_5 : decode cX7_kept 5 = .ok (.aload_n 0, 1) := by decide +kernel
theorem dX7_kept_6 : decode cX7_kept 6 = .ok (.getfield 7, 3) := by decide +kernel
theorem dX7_kept_9 : decode cX7_kept 9 = .ok (.iconst 1, 1) := by decide +kernel
theorem dX7_kept_10 : decode cX7_kept 10 = .ok (.iaload, 1) := by decide +kernel
theorem dX7_kept_11 : decode cX7_kept 11 = .ok (.if_icmp .ge 27, 3) := by decide +kernel
theorem dX7_kept_14 : decode cX7_kept 14 = .ok (.iload_n 1, 1) := by decide +kernel
theorem dX7_kept_15 : decode cX7_kept 15 = .ok (.aload_n 0, 1) := by decide +kernel
theorem dX7_kept_16 : decode cX7_kept 16 = .ok (.iload_n 2, 1) := by decide +kernel
theorem dX7_kept_17 : decode cX7_kept 17 = .ok (.invokevirtual 109, 3) := by decide +kernel
theorem dX7_kept_20 : decode cX7_kept 20 = .ok (.ifCond .eq 9, 3) := by decide +kernel
theorem dX7_kept_23 : decode cX7_kept 23 = .ok (.iconst 1, 1) := by decide +kernel
theorem dX7_kept_24 : decode cX7_kept 24 = .ok (.iload_n 2, 1) := by decide +kernel
theorem dX7_kept_25 : decode cX7_kept 25 = .ok (.ishl, 1) := by decide +kernel
theorem dX7_kept_26 : decode cX7_kept 26 = .ok (.goto 4, 3) := by decide +kernel
theorem dX7_kept_29 : decode cX7_kept 29 = .ok (.iconst 0, 1) := by decide +kernel
theorem dX7_kept_30 : decode cX7_kept 30 = .ok (.ior, 1) := by decide +kernel
theorem dX7_kept_31 : decode cX7_kept 31 = .ok (.istore_n 1, 1) := by decide +kernel
theorem dX7_kept_32 : decode cX7_kept 32 = .ok (.iinc 2 1, 3) := by decide +kernel
theorem dX7_kept_35 : decode cX7_kept 35 = .ok (.goto (-31), 3) := by decide +kernel
theorem dX7_kept_38 : decode cX7_kept 38 = .ok (.iload_n 1, 1) := by decide +kernel
theorem dX7_kept_39 : decode cX7_kept 39 = .ok (.ireturn, 1) := by decide +kernel
theorem dX7_rebuilds_0 : decode cX7_rebuilds 0 = .ok (.iconst 0, 1) := by decide +kernel
theorem dX7_rebuilds_1 : decode cX7_rebuilds 1 = .ok (.istore_n 1, 1) := by decide +kernel
theorem dX7_rebuilds_2 : decode cX7_rebuilds 2 = .ok (.iload_n 1, 1) := by decide +kernel
theorem dX7_rebuilds_3 : decode cX7_rebuilds 3 = .ok (.aload_n 0, 1) := by decide +kernel
theorem dX7_rebuilds_4 : decode cX7_rebuilds 4 = .ok (.getfield 7, 3) := by decide +kernel
theorem dX7_rebuilds_7 : decode cX7_rebuilds 7 = .ok (.iconst 1, 1) := by decide +kernel
theorem dX7_rebuilds_8 : decode cX7_rebuilds 8 = .ok (.iaload, 1) := by decide +kernel
theorem dX7_rebuilds_9 : decode cX7_rebuilds 9 = .ok (.if_icmp .ge 80, 3) := by decide +kernel
theorem dX7_rebuilds_12 : decode cX7_rebuilds 12 = .ok (.aload_n 0, 1) := by decide +kernel
theorem dX7_rebuilds_13 : decode cX7_rebuilds 13 = .ok (.iload_n 1, 1) := by decide +kernel
theorem dX7_rebuilds_14 : decode cX7_rebuilds 14 = .ok (.invokevirtual 109, 3) := by decide +kernel
theorem dX7_rebuilds_17 : decode cX7_rebuilds 17 = .ok (.istore_n 2, 1) := by decide +kernel
theorem dX7_rebuilds_18 : decode cX7_rebuilds 18 = .ok (.aload_n 0, 1) := by decide +kernel
theorem dX7_rebuilds_19 : decode cX7_rebuilds 19 = .ok (.aload_n 0, 1) := by decide +kernel
theorem dX7_rebuilds_20 : decode cX7_rebuilds 20 = .ok (.getfield 32, 3) := by decide +kernel
theorem dX7_rebuilds_23 : decode cX7_rebuilds 23 = .ok (.iload_n 1, 1) := by decide +kernel
theorem dX7_rebuilds_24 : decode cX7_rebuilds 24 = .ok (.iconst (-1), 1) := by decide +kernel
theorem dX7_rebuilds_25 : decode cX7_rebuilds 25 = .ok (.invokevirtual 95, 3) := by decide +kernel
theorem dX7_rebuilds_28 : decode cX7_rebuilds 28 = .ok (.aload_n 0, 1) := by decide +kernel
theorem dX7_rebuilds_29 : decode cX7_rebuilds 29 = .ok (.getfield 32, 3) := by decide +kernel
theorem dX7_rebuilds_32 : decode cX7_rebuilds 32 = .ok (.iload_n 1, 1) := by decide +kernel
theorem dX7_rebuilds_33 : decode cX7_rebuilds 33 = .ok (.iload_n 2, 1) := by decide +kernel
theorem dX7_rebuilds_34 : decode cX7_rebuilds 34 = .ok (.ifCond .eq 15, 3) := by decide +kernel
theorem dX7_rebuilds_37 : decode cX7_rebuilds 37 = .ok (.aload_n 0, 1) := by decide +kernel
theorem dX7_rebuilds_38 : decode cX7_rebuilds 38 = .ok (.getfield 7, 3) := by decide +kernel
theorem dX7_rebuilds_41 : decode cX7_rebuilds 41 = .ok (.bipush 87, 2) := by decide +kernel
theorem dX7_rebuilds_43 : decode cX7_rebuilds 43 = .ok (.iload_n 1, 1) := by decide +kernel
theorem dX7_rebuilds_44 : decode cX7_rebuilds 44 = .ok (.iadd, 1) := by decide +kernel
theorem dX7_rebuilds_45 : decode cX7_rebuilds 45 = .ok (.iaload, 1) := by decide +kernel
theorem dX7_rebuilds_46 : decode cX7_rebuilds 46 = .ok (.goto 7, 3) := by decide +kernel
theorem dX7_rebuilds_49 : decode cX7_rebuilds 49 = .ok (.aload_n 0, 1) := by decide +kernel
theorem dX7_rebuilds_50 : decode cX7_rebuilds 50 = .ok (.getfield 79, 3) := by decide +kernel
theorem dX7_rebuilds_53 : decode cX7_rebuilds 53 = .ok (.iastore, 1) := by decide +kernel
theorem dX7_rebuilds_54 : decode cX7_rebuilds 54 = .ok (.aload_n 0, 1) := by decide +kernel
theorem dX7_rebuilds_55 : decode cX7_rebuilds 55 = .ok (.getfield 32, 3) := by decide +kernel
theorem dX7_rebuilds_58 : decode cX7_rebuilds 58 = .ok (.bipush 10, 2) := by decide +kernel
theorem dX7_rebuilds_60 : decode cX7_rebuilds 60 = .ok (.iload_n 1, 1) := by decide +kernel
theorem dX7_rebuilds_61 : decode cX7_rebuilds 61 = .ok (.iadd, 1) := by decide +kernel
theorem dX7_rebuilds_62 : decode cX7_rebuilds 62 = .ok (.iload_n 2, 1) := by decide +kernel
theorem dX7_rebuilds_63 : decode cX7_rebuilds 63 = .ok (.ifCond .eq 15, 3) := by decide +kernel
theorem dX7_rebuilds_66 : decode cX7_rebuilds 66 = .ok (.aload_n 0, 1) := by decide +kernel
theorem dX7_rebuilds_67 : decode cX7_rebuilds 67 = .ok (.getfield 7, 3) := by decide +kernel
theorem dX7_rebuilds_70 : decode cX7_rebuilds 70 = .ok (.bipush 97, 2) := by decide +kernel
theorem dX7_rebuilds_72 : decode cX7_rebuilds 72 = .ok (.iload_n 1, 1) := by decide +kernel
theorem dX7_rebuilds_73 : decode cX7_rebuilds 73 = .ok (.iadd, 1) := by decide +kernel
theorem dX7_rebuilds_74 : decode cX7_rebuilds 74 = .ok (.iaload, 1) := by decide +kernel
theorem dX7_rebuilds_75 : decode cX7_rebuilds 75 = .ok (.goto 7, 3) := by decide +kernel
theorem dX7_rebuilds_78 : decode cX7_rebuilds 78 = .ok (.aload_n 0, 1) := by decide +kernel
theorem dX7_rebuilds_79 : decode cX7_rebuilds 79 = .ok (.getfield 82, 3) := by decide +kernel
theorem dX7_rebuilds_82 : decode cX7_rebuilds 82 = .ok (.iastore, 1) := by decide +kernel
theorem dX7_rebuilds_83 : decode cX7_rebuilds 83 = .ok (.iinc 1 1, 3) := by decide +kernel
theorem dX7_rebuilds_86 : decode cX7_rebuilds 86 = .ok (.goto (-84), 3) := by decide +kernel
theorem dX7_rebuilds_89 : decode cX7_rebuilds 89 = .ok (.return_, 1) := by decide +kernel
theorem dX7_isLess_0 : decode cX7_isLess 0 = .ok (.aload_n 0, 1) := by decide +kernel
theorem dX7_isLess_1 : decode cX7_isLess 1 = .ok (.iload_n 1, 1) := by decide +kernel
theorem dX7_isLess_2 : decode cX7_isLess 2 = .ok (.aload_n 0, 1) := by decide +kernel
theorem dX7_isLess_3 : decode cX7_isLess 3 = .ok (.getfield 7, 3) := by decide +kernel
theorem dX7_isLess_6 : decode cX7_isLess 6 = .ok (.bipush 87, 2) := by decide +kernel
theorem dX7_isLess_8 : decode cX7_isLess 8 = .ok (.iload_n 3, 1) := by decide +kernel
theorem dX7_isLess_9 : decode cX7_isLess 9 = .ok (.iadd, 1) := by decide +kernel
theorem dX7_isLess_10 : decode cX7_isLess 10 = .ok (.iaload, 1) := by decide +kernel
theorem dX7_isLess_11 : decode cX7_isLess 11 = .ok (.invokevirtual 54, 3) := by decide +kernel
theorem dX7_isLess_14 : decode cX7_isLess 14 = .ok (.ifCond .eq 23, 3) := by decide +kernel
theorem dX7_isLess_17 : decode cX7_isLess 17 = .ok (.iload_n 2, 1) := by decide +kernel
theorem dX7_isLess_18 : decode cX7_isLess 18 = .ok (.aload_n 0, 1) := by decide +kernel
theorem dX7_isLess_19 : decode cX7_isLess 19 = .ok (.getfield 7, 3) := by decide +kernel
theorem dX7_isLess_22 : decode cX7_isLess 22 = .ok (.bipush 97, 2) := by decide +kernel
theorem dX7_isLess_24 : decode cX7_isLess 24 = .ok (.iload_n 3, 1) := by decide +kernel
theorem dX7_isLess_25 : decode cX7_isLess 25 = .ok (.iadd, 1) := by decide +kernel
theorem dX7_isLess_26 : decode cX7_isLess 26 = .ok (.iaload, 1) := by decide +kernel
theorem dX7_isLess_27 : decode cX7_isLess 27 = .ok (.iconst (-1), 1) := by decide +kernel
theorem dX7_isLess_28 : decode cX7_isLess 28 = .ok (.ixor, 1) := by decide +kernel
theorem dX7_isLess_29 : decode cX7_isLess 29 = .ok (.iand, 1) := by decide +kernel
theorem dX7_isLess_30 : decode cX7_isLess 30 = .ok (.ifCond .ne 7, 3) := by decide +kernel
theorem dX7_isLess_33 : decode cX7_isLess 33 = .ok (.iconst 1, 1) := by decide +kernel
theorem dX7_isLess_34 : decode cX7_isLess 34 = .ok (.goto 4, 3) := by decide +kernel
theorem dX7_isLess_37 : decode cX7_isLess 37 = .ok (.iconst 0, 1) := by decide +kernel
theorem dX7_isLess_38 : decode cX7_isLess 38 = .ok (.ireturn, 1) := by decide +kernel
theorem dX7_isTakenAt_0 : decode cX7_isTakenAt 0 = .ok (.aload_n 0, 1) := by decide +kernel
theorem dX7_isTakenAt_1 : decode cX7_isTakenAt 1 = .ok (.aload_n 0, 1) := by decide +kernel
theorem dX7_isTakenAt_2 : decode cX7_isTakenAt 2 = .ok (.getfield 32, 3) := by decide +kernel
theorem dX7_isTakenAt_5 : decode cX7_isTakenAt 5 = .ok (.iload_n 1, 1) := by decide +kernel
theorem dX7_isTakenAt_6 : decode cX7_isTakenAt 6 = .ok (.iconst (-1), 1) := by decide +kernel
theorem dX7_isTakenAt_7 : decode cX7_isTakenAt 7 = .ok (.invokevirtual 95, 3) := by decide +kernel
theorem dX7_isTakenAt_10 : decode cX7_isTakenAt 10 = .ok (.aload_n 0, 1) := by decide +kernel
theorem dX7_isTakenAt_11 : decode cX7_isTakenAt 11 = .ok (.aload_n 0, 1) := by decide +kernel
theorem dX7_isTakenAt_12 : decode cX7_isTakenAt 12 = .ok (.getfield 79, 3) := by decide +kernel
theorem dX7_isTakenAt_15 : decode cX7_isTakenAt 15 = .ok (.aload_n 0, 1) := by decide +kernel
theorem dX7_isTakenAt_16 : decode cX7_isTakenAt 16 = .ok (.getfield 82, 3) := by decide +kernel
theorem dX7_isTakenAt_19 : decode cX7_isTakenAt 19 = .ok (.iload_n 1, 1) := by decide +kernel
theorem dX7_isTakenAt_20 : decode cX7_isTakenAt 20 = .ok (.invokevirtual 112, 3) := by decide +kernel
theorem dX7_isTakenAt_23 : decode cX7_isTakenAt 23 = .ok (.ireturn, 1) := by decide +kernel
theorem dX7_refused_0 : decode cX7_refused 0 = .ok (.aload_n 0, 1) := by decide +kernel
theorem dX7_refused_1 : decode cX7_refused 1 = .ok (.invokevirtual 115, 3) := by decide +kernel
theorem dX7_refused_4 : decode cX7_refused 4 = .ok (.iconst 0, 1) := by decide +kernel
theorem dX7_refused_5 : decode cX7_refused 5 = .ok (.istore_n 1, 1) := by decide +kernel
theorem dX7_refused_6 : decode cX7_refused 6 = .ok (.iload_n 1, 1) := by decide +kernel
theorem dX7_refused_7 : decode cX7_refused 7 = .ok (.aload_n 0, 1) := by decide +kernel
theorem dX7_refused_8 : decode cX7_refused 8 = .ok (.getfield 7, 3) := by decide +kernel
theorem dX7_refused_11 : decode cX7_refused 11 = .ok (.iconst 1, 1) := by decide +kernel
theorem dX7_refused_12 : decode cX7_refused 12 = .ok (.iaload, 1) := by decide +kernel
theorem dX7_refused_13 : decode cX7_refused 13 = .ok (.if_icmp .ge 27, 3) := by decide +kernel
theorem dX7_refused_16 : decode cX7_refused 16 = .ok (.aload_n 0, 1) := by decide +kernel
theorem dX7_refused_17 : decode cX7_refused 17 = .ok (.iload_n 1, 1) := by decide +kernel
theorem dX7_refused_18 : decode cX7_refused 18 = .ok (.invokevirtual 109, 3) := by decide +kernel
theorem dX7_refused_21 : decode cX7_refused 21 = .ok (.ifCond .eq 13, 3) := by decide +kernel
theorem dX7_refused_24 : decode cX7_refused 24 = .ok (.aload_n 0, 1) := by decide +kernel
theorem dX7_refused_25 : decode cX7_refused 25 = .ok (.iload_n 1, 1) := by decide +kernel
theorem dX7_refused_26 : decode cX7_refused 26 = .ok (.invokevirtual 118, 3) := by decide +kernel
theorem dX7_refused_29 : decode cX7_refused 29 = .ok (.ifCond .ne 5, 3) := by decide +kernel
theorem dX7_refused_32 : decode cX7_refused 32 = .ok (.iload_n 1, 1) := by decide +kernel
theorem dX7_refused_33 : decode cX7_refused 33 = .ok (.ireturn, 1) := by decide +kernel
theorem dX7_refused_34 : decode cX7_refused 34 = .ok (.iinc 1 1, 3) := by decide +kernel
theorem dX7_refused_37 : decode cX7_refused 37 = .ok (.goto (-31), 3) := by decide +kernel
theorem dX7_refused_40 : decode cX7_refused 40 = .ok (.iconst (-1), 1) := by decide +kernel
theorem dX7_refused_41 : decode cX7_refused 41 = .ok (.ireturn, 1) := by decide +kernel
theorem dX7_isExact_0 : decode cX7_isExact 0 = .ok (.aload_n 0, 1) := by decide +kernel
theorem dX7_isExact_1 : decode cX7_isExact 1 = .ok (.invokevirtual 121, 3) := by decide +kernel
theorem dX7_isExact_4 : decode cX7_isExact 4 = .ok (.ifCond .eq 11, 3) := by decide +kernel
theorem dX7_isExact_7 : decode cX7_isExact 7 = .ok (.aload_n 0, 1) := by decide +kernel
theorem dX7_isExact_8 : decode cX7_isExact 8 = .ok (.invokevirtual 125, 3) := by decide +kernel
theorem dX7_isExact_11 : decode cX7_isExact 11 = .ok (.iconst (-1), 1) := by decide +kernel
theorem dX7_isExact_12 : decode cX7_isExact 12 = .ok (.if_icmp .eq 5, 3) := by decide +kernel
theorem dX7_isExact_15 : decode cX7_isExact 15 = .ok (.iconst 0, 1) := by decide +kernel
theorem dX7_isExact_16 : decode cX7_isExact 16 = .ok (.ireturn, 1) := by decide +kernel
theorem dX7_isExact_17 : decode cX7_isExact 17 = .ok (.aload_n 0, 1) := by decide +kernel
theorem dX7_isExact_18 : decode cX7_isExact 18 = .ok (.aload_n 0, 1) := by decide +kernel
theorem dX7_isExact_19 : decode cX7_isExact 19 = .ok (.getfield 26, 3) := by decide +kernel
theorem dX7_isExact_22 : decode cX7_isExact 22 = .ok (.iconst 0, 1) := by decide +kernel
theorem dX7_isExact_23 : decode cX7_isExact 23 = .ok (.iconst (-1), 1) := by decide +kernel
theorem dX7_isExact_24 : decode cX7_isExact 24 = .ok (.invokevirtual 102, 3) := by decide +kernel
theorem dX7_isExact_27 : decode cX7_isExact 27 = .ok (.ifCond .lt 7, 3) := by decide +kernel
theorem dX7_isExact_30 : decode cX7_isExact 30 = .ok (.iconst 1, 1) := by decide +kernel
theorem dX7_isExact_31 : decode cX7_isExact 31 = .ok (.goto 4, 3) := by decide +kernel
theorem dX7_isExact_34 : decode cX7_isExact 34 = .ok (.iconst 0, 1) := by decide +kernel
theorem dX7_isExact_35 : decode cX7_isExact 35 = .ok (.istore_n 1, 1) := by decide +kernel
theorem dX7_isExact_36 : decode cX7_isExact 36 = .ok (.iconst 0, 1) := by decide +kernel
theorem dX7_isExact_37 : decode cX7_isExact 37 = .ok (.istore_n 2, 1) := by decide +kernel
theorem dX7_isExact_38 : decode cX7_isExact 38 = .ok (.iload_n 2, 1) := by decide +kernel
theorem dX7_isExact_39 : decode cX7_isExact 39 = .ok (.aload_n 0, 1) := by decide +kernel
theorem dX7_isExact_40 : decode cX7_isExact 40 = .ok (.getfield 7, 3) := by decide +kernel
theorem dX7_isExact_43 : decode cX7_isExact 43 = .ok (.iconst 1, 1) := by decide +kernel
theorem dX7_isExact_44 : decode cX7_isExact 44 = .ok (.iaload, 1) := by decide +kernel
theorem dX7_isExact_45 : decode cX7_isExact 45 = .ok (.if_icmp .ge 55, 3) := by decide +kernel
theorem dX7_isExact_48 : decode cX7_isExact 48 = .ok (.iload_n 1, 1) := by decide +kernel
theorem dX7_isExact_49 : decode cX7_isExact 49 = .ok (.ifCond .eq 43, 3) := by decide +kernel
theorem dX7_isExact_52 : decode cX7_isExact 52 = .ok (.aload_n 0, 1) := by decide +kernel
theorem dX7_isExact_53 : decode cX7_isExact 53 = .ok (.getfield 26, 3) := by decide +kernel
theorem dX7_isExact_56 : decode cX7_isExact 56 = .ok (.iload_n 2, 1) := by decide +kernel
theorem dX7_isExact_57 : decode cX7_isExact 57 = .ok (.iaload, 1) := by decide +kernel
theorem dX7_isExact_58 : decode cX7_isExact 58 = .ok (.aload_n 0, 1) := by decide +kernel
theorem dX7_isExact_59 : decode cX7_isExact 59 = .ok (.getfield 32, 3) := by decide +kernel
theorem dX7_isExact_62 : decode cX7_isExact 62 = .ok (.iload_n 2, 1) := by decide +kernel
theorem dX7_isExact_63 : decode cX7_isExact 63 = .ok (.iaload, 1) := by decide +kernel
theorem dX7_isExact_64 : decode cX7_isExact 64 = .ok (.if_icmp .ne 28, 3) := by decide +kernel
theorem dX7_isExact_67 : decode cX7_isExact 67 = .ok (.aload_n 0, 1) := by decide +kernel
theorem dX7_isExact_68 : decode cX7_isExact 68 = .ok (.getfield 26, 3) := by decide +kernel
theorem dX7_isExact_71 : decode cX7_isExact 71 = .ok (.bipush 10, 2) := by decide +kernel
theorem dX7_isExact_73 : decode cX7_isExact 73 = .ok (.iload_n 2, 1) := by decide +kernel
theorem dX7_isExact_74 : decode cX7_isExact 74 = .ok (.iadd, 1) := by decide +kernel
theorem dX7_isExact_75 : decode cX7_isExact 75 = .ok (.iaload, 1) := by decide +kernel
theorem dX7_isExact_76 : decode cX7_isExact 76 = .ok (.aload_n 0, 1) := by decide +kernel
theorem dX7_isExact_77 : decode cX7_isExact 77 = .ok (.getfield 32, 3) := by decide +kernel
theorem dX7_isExact_80 : decode cX7_isExact 80 = .ok (.bipush 10, 2) := by decide +kernel
theorem dX7_isExact_82 : decode cX7_isExact 82 = .ok (.iload_n 2, 1) := by decide +kernel
theorem dX7_isExact_83 : decode cX7_isExact 83 = .ok (.iadd, 1) := by decide +kernel
theorem dX7_isExact_84 : decode cX7_isExact 84 = .ok (.iaload, 1) := by decide +kernel
theorem dX7_isExact_85 : decode cX7_isExact 85 = .ok (.if_icmp .ne 7, 3) := by decide +kernel
theorem dX7_isExact_88 : decode cX7_isExact 88 = .ok (.iconst 1, 1) := by decide +kernel
theorem dX7_isExact_89 : decode cX7_isExact 89 = .ok (.goto 4, 3) := by decide +kernel
theorem dX7_isExact_92 : decode cX7_isExact 92 = .ok (.iconst 0, 1) := by decide +kernel
theorem dX7_isExact_93 : decode cX7_isExact 93 = .ok (.istore_n 1, 1) := by decide +kernel
theorem dX7_isExact_94 : decode cX7_isExact 94 = .ok (.iinc 2 1, 3) := by decide +kernel
theorem dX7_isExact_97 : decode cX7_isExact 97 = .ok (.goto (-59), 3) := by decide +kernel
theorem dX7_isExact_100 : decode cX7_isExact 100 = .ok (.iload_n 1, 1) := by decide +kernel
theorem dX7_isExact_101 : decode cX7_isExact 101 = .ok (.ireturn, 1) := by decide +kernel
theorem dX7_wrong_0 : decode cX7_wrong 0 = .ok (.aload_n 0, 1) := by decide +kernel
theorem dX7_wrong_1 : decode cX7_wrong 1 = .ok (.invokevirtual 121, 3) := by decide +kernel
theorem dX7_wrong_4 : decode cX7_wrong 4 = .ok (.ifCond .eq 20, 3) := by decide +kernel
theorem dX7_wrong_7 : decode cX7_wrong 7 = .ok (.aload_n 0, 1) := by decide +kernel
theorem dX7_wrong_8 : decode cX7_wrong 8 = .ok (.aload_n 0, 1) := by decide +kernel
theorem dX7_wrong_9 : decode cX7_wrong 9 = .ok (.getfield 26, 3) := by decide +kernel
theorem dX7_wrong_12 : decode cX7_wrong 12 = .ok (.iconst 0, 1) := by decide +kernel
theorem dX7_wrong_13 : decode cX7_wrong 13 = .ok (.iconst (-1), 1) := by decide +kernel
theorem dX7_wrong_14 : decode cX7_wrong 14 = .ok (.invokevirtual 102, 3) := by decide +kernel
theorem dX7_wrong_17 : decode cX7_wrong 17 = .ok (.ifCond .lt 7, 3) := by decide +kernel
theorem dX7_wrong_20 : decode cX7_wrong 20 = .ok (.iconst 1, 1) := by decide +kernel
theorem dX7_wrong_21 : decode cX7_wrong 21 = .ok (.goto 4, 3) := by decide +kernel
theorem dX7_wrong_24 : decode cX7_wrong 24 = .ok (.iconst 0, 1) := by decide +kernel
theorem dX7_wrong_25 : decode cX7_wrong 25 = .ok (.istore_n 1, 1) := by decide +kernel
theorem dX7_wrong_26 : decode cX7_wrong 26 = .ok (.iconst 0, 1) := by decide +kernel
theorem dX7_wrong_27 : decode cX7_wrong 27 = .ok (.istore_n 2, 1) := by decide +kernel
theorem dX7_wrong_28 : decode cX7_wrong 28 = .ok (.iload_n 2, 1) := by decide +kernel
theorem dX7_wrong_29 : decode cX7_wrong 29 = .ok (.aload_n 0, 1) := by decide +kernel
theorem dX7_wrong_30 : decode cX7_wrong 30 = .ok (.getfield 128, 3) := by decide +kernel
theorem dX7_wrong_33 : decode cX7_wrong 33 = .ok (.if_icmp .ge 73, 3) := by decide +kernel
theorem dX7_wrong_36 : decode cX7_wrong 36 = .ok (.aload_n 0, 1) := by decide +kernel
theorem dX7_wrong_37 : decode cX7_wrong 37 = .ok (.getfield 23, 3) := by decide +kernel
theorem dX7_wrong_40 : decode cX7_wrong 40 = .ok (.iconst 3, 1) := by decide +kernel
theorem dX7_wrong_41 : decode cX7_wrong 41 = .ok (.iload_n 2, 1) := by decide +kernel
theorem dX7_wrong_42 : decode cX7_wrong 42 = .ok (.imul, 1) := by decide +kernel
theorem dX7_wrong_43 : decode cX7_wrong 43 = .ok (.iaload, 1) := by decide +kernel
theorem dX7_wrong_44 : decode cX7_wrong 44 = .ok (.istore_n 3, 1) := by decide +kernel
theorem dX7_wrong_45 : decode cX7_wrong 45 = .ok (.iload_n 1, 1) := by decide +kernel
theorem dX7_wrong_46 : decode cX7_wrong 46 = .ok (.ifCond .eq 52, 3) := by decide +kernel
theorem dX7_wrong_49 : decode cX7_wrong 49 = .ok (.aload_n 0, 1) := by decide +kernel
theorem dX7_wrong_50 : decode cX7_wrong 50 = .ok (.iload_n 3, 1) := by decide +kernel
theorem dX7_wrong_51 : decode cX7_wrong 51 = .ok (.invokevirtual 131, 3) := by decide +kernel
theorem dX7_wrong_54 : decode cX7_wrong 54 = .ok (.ifCond .eq 44, 3) := by decide +kernel
theorem dX7_wrong_57 : decode cX7_wrong 57 = .ok (.aload_n 0, 1) := by decide +kernel
theorem dX7_wrong_58 : decode cX7_wrong 58 = .ok (.getfield 26, 3) := by decide +kernel
theorem dX7_wrong_61 : decode cX7_wrong 61 = .ok (.iload_n 3, 1) := by decide +kernel
theorem dX7_wrong_62 : decode cX7_wrong 62 = .ok (.iaload, 1) := by decide +kernel
theorem dX7_wrong_63 : decode cX7_wrong 63 = .ok (.aload_n 0, 1) := by decide +kernel
theorem dX7_wrong_64 : decode cX7_wrong 64 = .ok (.getfield 23, 3) := by decide +kernel
theorem dX7_wrong_67 : decode cX7_wrong 67 = .ok (.iconst 3, 1) := by decide +kernel
theorem dX7_wrong_68 : decode cX7_wrong 68 = .ok (.iload_n 2, 1) := by decide +kernel
theorem dX7_wrong_69 : decode cX7_wrong 69 = .ok (.imul, 1) := by decide +kernel
theorem dX7_wrong_70 : decode cX7_wrong 70 = .ok (.iconst 1, 1) := by decide +kernel
theorem dX7_wrong_71 : decode cX7_wrong 71 = .ok (.iadd, 1) := by decide +kernel
theorem dX7_wrong_72 : decode cX7_wrong 72 = .ok (.iaload, 1) := by decide +kernel
theorem dX7_wrong_73 : decode cX7_wrong 73 = .ok (.if_icmp .ne 25, 3) := by decide +kernel
theorem dX7_wrong_76 : decode cX7_wrong 76 = .ok (.aload_n 0, 1) := by decide +kernel
theorem dX7_wrong_77 : decode cX7_wrong 77 = .ok (.getfield 26, 3) := by decide +kernel
theorem dX7_wrong_80 : decode cX7_wrong 80 = .ok (.bipush 10, 2) := by decide +kernel
theorem dX7_wrong_82 : decode cX7_wrong 82 = .ok (.iload_n 3, 1) := by decide +kernel
theorem dX7_wrong_83 : decode cX7_wrong 83 = .ok (.iadd, 1) := by decide +kernel
theorem dX7_wrong_84 : decode cX7_wrong 84 = .ok (.iaload, 1) := by decide +kernel
theorem dX7_wrong_85 : decode cX7_wrong 85 = .ok (.aload_n 0, 1) := by decide +kernel
theorem dX7_wrong_86 : decode cX7_wrong 86 = .ok (.getfield 23, 3) := by decide +kernel
theorem dX7_wrong_89 : decode cX7_wrong 89 = .ok (.iconst 3, 1) := by decide +kernel
theorem dX7_wrong_90 : decode cX7_wrong 90 = .ok (.iload_n 2, 1) := by decide +kernel
theorem dX7_wrong_91 : decode cX7_wrong 91 = .ok (.imul, 1) := by decide +kernel
theorem dX7_wrong_92 : decode cX7_wrong 92 = .ok (.iconst 2, 1) := by decide +kernel
theorem dX7_wrong_93 : decode cX7_wrong 93 = .ok (.iadd, 1) := by decide +kernel
theorem dX7_wrong_94 : decode cX7_wrong 94 = .ok (.iaload, 1) := by decide +kernel
theorem dX7_wrong_95 : decode cX7_wrong 95 = .ok (.if_icmp .eq 5, 3) := by decide +kernel
theorem dX7_wrong_98 : decode cX7_wrong 98 = .ok (.iload_n 2, 1) := by decide +kernel
theorem dX7_wrong_99 : decode cX7_wrong 99 = .ok (.ireturn, 1) := by decide +kernel
theorem dX7_wrong_100 : decode cX7_wrong 100 = .ok (.iinc 2 1, 3) := by decide +kernel
theorem dX7_wrong_103 : decode cX7_wrong 103 = .ok (.goto (-75), 3) := by decide +kernel
theorem dX7_wrong_106 : decode cX7_wrong 106 = .ok (.iconst (-1), 1) := by decide +kernel
theorem dX7_wrong_107 : decode cX7_wrong 107 = .ok (.ireturn, 1) := by decide +kernel
theorem dX7_told_0 : decode cX7_told 0 = .ok (.iload_n 1, 1) := by decide +kernel
theorem dX7_told_1 : decode cX7_told 1 = .ok (.tableswitch 165 0 12 #[67, 74, 81, 88, 93, 98, 111, 116, 121, 134, 150, 155, 160], 67) := by decide +kernel
theorem dX7_told_68 : decode cX7_told 68 = .ok (.aload_n 0, 1) := by decide +kernel
theorem dX7_told_69 : decode cX7_told 69 = .ok (.getfield 7, 3) := by decide +kernel
theorem dX7_told_72 : decode cX7_told 72 = .ok (.iconst 0, 1) := by decide +kernel
theorem dX7_told_73 : decode cX7_told 73 = .ok (.iaload, 1) := by decide +kernel
theorem dX7_told_74 : decode cX7_told 74 = .ok (.ireturn, 1) := by decide +kernel
theorem dX7_told_75 : decode cX7_told 75 = .ok (.aload_n 0, 1) := by decide +kernel
theorem dX7_told_76 : decode cX7_told 76 = .ok (.getfield 7, 3) := by decide +kernel
theorem dX7_told_79 : decode cX7_told 79 = .ok (.iconst 1, 1) := by decide +kernel
theorem dX7_told_80 : decode cX7_told 80 = .ok (.iaload, 1) := by decide +kernel
theorem dX7_told_81 : decode cX7_told 81 = .ok (.ireturn, 1) := by decide +kernel
theorem dX7_told_82 : decode cX7_told 82 = .ok (.aload_n 0, 1) := by decide +kernel
theorem dX7_told_83 : decode cX7_told 83 = .ok (.getfield 7, 3) := by decide +kernel
theorem dX7_told_86 : decode cX7_told 86 = .ok (.iconst 2, 1) := by decide +kernel
theorem dX7_told_87 : decode cX7_told 87 = .ok (.iaload, 1) := by decide +kernel
theorem dX7_told_88 : decode cX7_told 88 = .ok (.ireturn, 1) := by decide +kernel
theorem dX7_told_89 : decode cX7_told 89 = .ok (.aload_n 0, 1) := by decide +kernel
theorem dX7_told_90 : decode cX7_told 90 = .ok (.invokevirtual 65, 3) := by decide +kernel
theorem dX7_told_93 : decode cX7_told 93 = .ok (.ireturn, 1) := by decide +kernel
theorem dX7_told_94 : decode cX7_told 94 = .ok (.aload_n 0, 1) := by decide +kernel
theorem dX7_told_95 : decode cX7_told 95 = .ok (.invokevirtual 69, 3) := by decide +kernel
theorem dX7_told_98 : decode cX7_told 98 = .ok (.ireturn, 1) := by decide +kernel
theorem dX7_told_99 : decode cX7_told 99 = .ok (.aload_n 0, 1) := by decide +kernel
theorem dX7_told_100 : decode cX7_told 100 = .ok (.invokevirtual 121, 3) := by decide +kernel
theorem dX7_told_103 : decode cX7_told 103 = .ok (.ifCond .eq 7, 3) := by decide +kernel
theorem dX7_told_106 : decode cX7_told 106 = .ok (.iconst 1, 1) := by decide +kernel
theorem dX7_told_107 : decode cX7_told 107 = .ok (.goto 4, 3) := by decide +kernel
theorem dX7_told_110 : decode cX7_told 110 = .ok (.iconst 0, 1) := by decide +kernel
theorem dX7_told_111 : decode cX7_told 111 = .ok (.ireturn, 1) := by decide +kernel
theorem dX7_told_112 : decode cX7_told 112 = .ok (.aload_n 0, 1) := by decide +kernel
theorem dX7_told_113 : decode cX7_told 113 = .ok (.invokevirtual 134, 3) := by decide +kernel
theorem dX7_told_116 : decode cX7_told 116 = .ok (.ireturn, 1) := by decide +kernel
theorem dX7_told_117 : decode cX7_told 117 = .ok (.aload_n 0, 1) := by decide +kernel
theorem dX7_told_118 : decode cX7_told 118 = .ok (.invokevirtual 125, 3) := by decide +kernel
theorem dX7_told_121 : decode cX7_told 121 = .ok (.ireturn, 1) := by decide +kernel
theorem dX7_told_122 : decode cX7_told 122 = .ok (.aload_n 0, 1) := by decide +kernel
theorem dX7_told_123 : decode cX7_told 123 = .ok (.invokevirtual 137, 3) := by decide +kernel
theorem dX7_told_126 : decode cX7_told 126 = .ok (.ifCond .eq 7, 3) := by decide +kernel
theorem dX7_told_129 : decode cX7_told 129 = .ok (.iconst 1, 1) := by decide +kernel
theorem dX7_told_130 : decode cX7_told 130 = .ok (.goto 4, 3) := by decide +kernel
theorem dX7_told_133 : decode cX7_told 133 = .ok (.iconst 0, 1) := by decide +kernel
theorem dX7_told_134 : decode cX7_told 134 = .ok (.ireturn, 1) := by decide +kernel
theorem dX7_told_135 : decode cX7_told 135 = .ok (.aload_n 0, 1) := by decide +kernel
theorem dX7_told_136 : decode cX7_told 136 = .ok (.invokevirtual 121, 3) := by decide +kernel
theorem dX7_told_139 : decode cX7_told 139 = .ok (.ifCond .eq 10, 3) := by decide +kernel
theorem dX7_told_142 : decode cX7_told 142 = .ok (.aload_n 0, 1) := by decide +kernel
theorem dX7_told_143 : decode cX7_told 143 = .ok (.invokevirtual 140, 3) := by decide +kernel
theorem dX7_told_146 : decode cX7_told 146 = .ok (.goto 4, 3) := by decide +kernel
theorem dX7_told_149 : decode cX7_told 149 = .ok (.iconst (-1), 1) := by decide +kernel
theorem dX7_told_150 : decode cX7_told 150 = .ok (.ireturn, 1) := by decide +kernel
theorem dX7_told_151 : decode cX7_told 151 = .ok (.aload_n 0, 1) := by decide +kernel
theorem dX7_told_152 : decode cX7_told 152 = .ok (.getfield 128, 3) := by decide +kernel
theorem dX7_told_155 : decode cX7_told 155 = .ok (.ireturn, 1) := by decide +kernel
theorem dX7_told_156 : decode cX7_told 156 = .ok (.aload_n 0, 1) := by decide +kernel
theorem dX7_told_157 : decode cX7_told 157 = .ok (.invokevirtual 143, 3) := by decide +kernel
theorem dX7_told_160 : decode cX7_told 160 = .ok (.ireturn, 1) := by decide +kernel
theorem dX7_told_161 : decode cX7_told 161 = .ok (.aload_n 0, 1) := by decide +kernel
theorem dX7_told_162 : decode cX7_told 162 = .ok (.getfield 146, 3) := by decide +kernel
theorem dX7_told_165 : decode cX7_told 165 = .ok (.ireturn, 1) := by decide +kernel
theorem dX7_told_166 : decode cX7_told 166 = .ok (.ldc 149, 2) := by decide +kernel
theorem dX7_told_168 : decode cX7_told 168 = .ok (.ireturn, 1) := by decide +kernel
theorem dX7_joined_0 : decode cX7_joined 0 = .ok (.aload_n 0, 1) := by decide +kernel
theorem dX7_joined_1 : decode cX7_joined 1 = .ok (.iload_n 1, 1) := by decide +kernel
theorem dX7_joined_2 : decode cX7_joined 2 = .ok (.invokevirtual 150, 3) := by decide +kernel
theorem dX7_joined_5 : decode cX7_joined 5 = .ok (.ifCond .eq 20, 3) := by decide +kernel
theorem dX7_joined_8 : decode cX7_joined 8 = .ok (.aload_n 0, 1) := by decide +kernel
theorem dX7_joined_9 : decode cX7_joined 9 = .ok (.iload_n 2, 1) := by decide +kernel
theorem dX7_joined_10 : decode cX7_joined 10 = .ok (.invokevirtual 150, 3) := by decide +kernel
theorem dX7_joined_13 : decode cX7_joined 13 = .ok (.ifCond .eq 12, 3) := by decide +kernel
theorem dX7_joined_16 : decode cX7_joined 16 = .ok (.aload_n 0, 1) := by decide +kernel
theorem dX7_joined_17 : decode cX7_joined 17 = .ok (.iload_n 1, 1) := by decide +kernel
theorem dX7_joined_18 : decode cX7_joined 18 = .ok (.iload_n 2, 1) := by decide +kernel
theorem dX7_joined_19 : decode cX7_joined 19 = .ok (.invokevirtual 46, 3) := by decide +kernel
theorem dX7_joined_22 : decode cX7_joined 22 = .ok (.goto 5, 3) := by decide +kernel
theorem dX7_joined_25 : decode cX7_joined 25 = .ok (.ldc 153, 2) := by decide +kernel
theorem dX7_joined_27 : decode cX7_joined 27 = .ok (.ireturn, 1) := by decide +kernel
theorem dX7_below_0 : decode cX7_below 0 = .ok (.aload_n 0, 1) := by decide +kernel
theorem dX7_below_1 : decode cX7_below 1 = .ok (.iload_n 1, 1) := by decide +kernel
theorem dX7_below_2 : decode cX7_below 2 = .ok (.invokevirtual 150, 3) := by decide +kernel
theorem dX7_below_5 : decode cX7_below 5 = .ok (.ifCond .eq 11, 3) := by decide +kernel
theorem dX7_below_8 : decode cX7_below 8 = .ok (.aload_n 0, 1) := by decide +kernel
theorem dX7_below_9 : decode cX7_below 9 = .ok (.iload_n 2, 1) := by decide +kernel
theorem dX7_below_10 : decode cX7_below 10 = .ok (.invokevirtual 150, 3) := by decide +kernel
theorem dX7_below_13 : decode cX7_below 13 = .ok (.ifCond .ne 6, 3) := by decide +kernel
theorem dX7_below_16 : decode cX7_below 16 = .ok (.ldc 153, 2) := by decide +kernel
theorem dX7_below_18 : decode cX7_below 18 = .ok (.ireturn, 1) := by decide +kernel
theorem dX7_below_19 : decode cX7_below 19 = .ok (.aload_n 0, 1) := by decide +kernel
theorem dX7_below_20 : decode cX7_below 20 = .ok (.iload_n 1, 1) := by decide +kernel
theorem dX7_below_21 : decode cX7_below 21 = .ok (.iload_n 2, 1) := by decide +kernel
theorem dX7_below_22 : decode cX7_below 22 = .ok (.invokevirtual 54, 3) := by decide +kernel
theorem dX7_below_25 : decode cX7_below 25 = .ok (.ifCond .eq 7, 3) := by decide +kernel
theorem dX7_below_28 : decode cX7_below 28 = .ok (.iconst 1, 1) := by decide +kernel
theorem dX7_below_29 : decode cX7_below 29 = .ok (.goto 4, 3) := by decide +kernel
theorem dX7_below_32 : decode cX7_below 32 = .ok (.iconst 0, 1) := by decide +kernel
theorem dX7_below_33 : decode cX7_below 33 = .ok (.ireturn, 1) := by decide +kernel
theorem dX7_knownAt_0 : decode cX7_knownAt 0 = .ok (.aload_n 0, 1) := by decide +kernel
theorem dX7_knownAt_1 : decode cX7_knownAt 1 = .ok (.invokevirtual 121, 3) := by decide +kernel
theorem dX7_knownAt_4 : decode cX7_knownAt 4 = .ok (.ifCond .eq 25, 3) := by decide +kernel
theorem dX7_knownAt_7 : decode cX7_knownAt 7 = .ok (.aload_n 0, 1) := by decide +kernel
theorem dX7_knownAt_8 : decode cX7_knownAt 8 = .ok (.aload_n 0, 1) := by decide +kernel
theorem dX7_knownAt_9 : decode cX7_knownAt 9 = .ok (.getfield 26, 3) := by decide +kernel
theorem dX7_knownAt_12 : decode cX7_knownAt 12 = .ok (.iconst 0, 1) := by decide +kernel
theorem dX7_knownAt_13 : decode cX7_knownAt 13 = .ok (.iconst (-1), 1) := by decide +kernel
theorem dX7_knownAt_14 : decode cX7_knownAt 14 = .ok (.invokevirtual 102, 3) := by decide +kernel
theorem dX7_knownAt_17 : decode cX7_knownAt 17 = .ok (.ifCond .lt 12, 3) := by decide +kernel
theorem dX7_knownAt_20 : decode cX7_knownAt 20 = .ok (.aload_n 0, 1) := by decide +kernel
theorem dX7_knownAt_21 : decode cX7_knownAt 21 = .ok (.getfield 26, 3) := by decide +kernel
theorem dX7_knownAt_24 : decode cX7_knownAt 24 = .ok (.iload_n 1, 1) := by decide +kernel
theorem dX7_knownAt_25 : decode cX7_knownAt 25 = .ok (.iaload, 1) := by decide +kernel
theorem dX7_knownAt_26 : decode cX7_knownAt 26 = .ok (.goto 4, 3) := by decide +kernel
theorem dX7_knownAt_29 : decode cX7_knownAt 29 = .ok (.iconst (-1), 1) := by decide +kernel
theorem dX7_knownAt_30 : decode cX7_knownAt 30 = .ok (.ireturn, 1) := by decide +kernel
theorem dX7_rebuiltAt_0 : decode cX7_rebuiltAt 0 = .ok (.aload_n 0, 1) := by decide +kernel
theorem dX7_rebuiltAt_1 : decode cX7_rebuiltAt 1 = .ok (.invokevirtual 115, 3) := by decide +kernel
theorem dX7_rebuiltAt_4 : decode cX7_rebuiltAt 4 = .ok (.aload_n 0, 1) := by decide +kernel
theorem dX7_rebuiltAt_5 : decode cX7_rebuiltAt 5 = .ok (.getfield 32, 3) := by decide +kernel
theorem dX7_rebuiltAt_8 : decode cX7_rebuiltAt 8 = .ok (.iload_n 1, 1) := by decide +kernel
theorem dX7_rebuiltAt_9 : decode cX7_rebuiltAt 9 = .ok (.iaload, 1) := by decide +kernel
theorem dX7_rebuiltAt_10 : decode cX7_rebuiltAt 10 = .ok (.ireturn, 1) := by decide +kernel
theorem dX7_place_0 : decode cX7_place 0 = .ok (.aload_n 0, 1) := by decide +kernel
theorem dX7_place_1 : decode cX7_place 1 = .ok (.iload_n 1, 1) := by decide +kernel
theorem dX7_place_2 : decode cX7_place 2 = .ok (.invokevirtual 131, 3) := by decide +kernel
theorem dX7_place_5 : decode cX7_place 5 = .ok (.ifCond .ne 6, 3) := by decide +kernel
theorem dX7_place_8 : decode cX7_place 8 = .ok (.ldc 153, 2) := by decide +kernel
theorem dX7_place_10 : decode cX7_place 10 = .ok (.ireturn, 1) := by decide +kernel
theorem dX7_place_11 : decode cX7_place 11 = .ok (.iload_n 2, 1) := by decide +kernel
theorem dX7_place_12 : decode cX7_place 12 = .ok (.tableswitch 142 0 7 #[48, 58, 68, 74, 83, 89, 98, 120], 48) := by decide +kernel
theorem dX7_place_60 : decode cX7_place 60 = .ok (.aload_n 0, 1) := by decide +kernel
theorem dX7_place_61 : decode cX7_place 61 = .ok (.getfield 7, 3) := by decide +kernel
theorem dX7_place_64 : decode cX7_place 64 = .ok (.bipush 67, 2) := by decide +kernel
theorem dX7_place_66 : decode cX7_place 66 = .ok (.iload_n 1, 1) := by decide +kernel
theorem dX7_place_67 : decode cX7_place 67 = .ok (.iadd, 1) := by decide +kernel
theorem dX7_place_68 : decode cX7_place 68 = .ok (.iaload, 1) := by decide +kernel
theorem dX7_place_69 : decode cX7_place 69 = .ok (.ireturn, 1) := by decide +kernel
theorem dX7_place_70 : decode cX7_place 70 = .ok (.aload_n 0, 1) := by decide +kernel
theorem dX7_place_71 : decode cX7_place 71 = .ok (.getfield 7, 3) := by decide +kernel
theorem dX7_place_74 : decode cX7_place 74 = .ok (.bipush 77, 2) := by decide +kernel
theorem dX7_place_76 : decode cX7_place 76 = .ok (.iload_n 1, 1) := by decide +kernel
theorem dX7_place_77 : decode cX7_place 77 = .ok (.iadd, 1) := by decide +kernel
theorem dX7_place_78 : decode cX7_place 78 = .ok (.iaload, 1) := by decide +kernel
theorem dX7_place_79 : decode cX7_place 79 = .ok (.ireturn, 1) := by decide +kernel
theorem dX7_place_80 : decode cX7_place 80 = .ok (.aload_n 0, 1) := by decide +kernel
theorem dX7_place_81 : decode cX7_place 81 = .ok (.iload_n 1, 1) := by decide +kernel
theorem dX7_place_82 : decode cX7_place 82 = .ok (.invokevirtual 154, 3) := by decide +kernel
theorem dX7_place_85 : decode cX7_place 85 = .ok (.ireturn, 1) := by decide +kernel
theorem dX7_place_86 : decode cX7_place 86 = .ok (.aload_n 0, 1) := by decide +kernel
theorem dX7_place_87 : decode cX7_place 87 = .ok (.bipush 10, 2) := by decide +kernel
theorem dX7_place_89 : decode cX7_place 89 = .ok (.iload_n 1, 1) := by decide +kernel
theorem dX7_place_90 : decode cX7_place 90 = .ok (.iadd, 1) := by decide +kernel
theorem dX7_place_91 : decode cX7_place 91 = .ok (.invokevirtual 154, 3) := by decide +kernel
theorem dX7_place_94 : decode cX7_place 94 = .ok (.ireturn, 1) := by decide +kernel
theorem dX7_place_95 : decode cX7_place 95 = .ok (.aload_n 0, 1) := by decide +kernel
theorem dX7_place_96 : decode cX7_place 96 = .ok (.iload_n 1, 1) := by decide +kernel
theorem dX7_place_97 : decode cX7_place 97 = .ok (.invokevirtual 157, 3) := by decide +kernel
theorem dX7_place_100 : decode cX7_place 100 = .ok (.ireturn, 1) := by decide +kernel
theorem dX7_place_101 : decode cX7_place 101 = .ok (.aload_n 0, 1) := by decide +kernel
theorem dX7_place_102 : decode cX7_place 102 = .ok (.bipush 10, 2) := by decide +kernel
theorem dX7_place_104 : decode cX7_place 104 = .ok (.iload_n 1, 1) := by decide +kernel
theorem dX7_place_105 : decode cX7_place 105 = .ok (.iadd, 1) := by decide +kernel
theorem dX7_place_106 : decode cX7_place 106 = .ok (.invokevirtual 157, 3) := by decide +kernel
theorem dX7_place_109 : decode cX7_place 109 = .ok (.ireturn, 1) := by decide +kernel
theorem dX7_place_110 : decode cX7_place 110 = .ok (.aload_n 0, 1) := by decide +kernel
theorem dX7_place_111 : decode cX7_place 111 = .ok (.iload_n 1, 1) := by decide +kernel
theorem dX7_place_112 : decode cX7_place 112 = .ok (.invokevirtual 109, 3) := by decide +kernel
theorem dX7_place_115 : decode cX7_place 115 = .ok (.ifCond .eq 15, 3) := by decide +kernel
theorem dX7_place_118 : decode cX7_place 118 = .ok (.aload_n 0, 1) := by decide +kernel
theorem dX7_place_119 : decode cX7_place 119 = .ok (.getfield 7, 3) := by decide +kernel
theorem dX7_place_122 : decode cX7_place 122 = .ok (.bipush 87, 2) := by decide +kernel
theorem dX7_place_124 : decode cX7_place 124 = .ok (.iload_n 1, 1) := by decide +kernel
theorem dX7_place_125 : decode cX7_place 125 = .ok (.iadd, 1) := by decide +kernel
theorem dX7_place_126 : decode cX7_place 126 = .ok (.iaload, 1) := by decide +kernel
theorem dX7_place_127 : decode cX7_place 127 = .ok (.goto 4, 3) := by decide +kernel
theorem dX7_place_130 : decode cX7_place 130 = .ok (.iconst (-1), 1) := by decide +kernel
theorem dX7_place_131 : decode cX7_place 131 = .ok (.ireturn, 1) := by decide +kernel
theorem dX7_place_132 : decode cX7_place 132 = .ok (.aload_n 0, 1) := by decide +kernel
theorem dX7_place_133 : decode cX7_place 133 = .ok (.iload_n 1, 1) := by decide +kernel
theorem dX7_place_134 : decode cX7_place 134 = .ok (.invokevirtual 109, 3) := by decide +kernel
theorem dX7_place_137 : decode cX7_place 137 = .ok (.ifCond .eq 15, 3) := by decide +kernel
theorem dX7_place_140 : decode cX7_place 140 = .ok (.aload_n 0, 1) := by decide +kernel
theorem dX7_place_141 : decode cX7_place 141 = .ok (.getfield 7, 3) := by decide +kernel
theorem dX7_place_144 : decode cX7_place 144 = .ok (.bipush 97, 2) := by decide +kernel
theorem dX7_place_146 : decode cX7_place 146 = .ok (.iload_n 1, 1) := by decide +kernel
theorem dX7_place_147 : decode cX7_place 147 = .ok (.iadd, 1) := by decide +kernel
theorem dX7_place_148 : decode cX7_place 148 = .ok (.iaload, 1) := by decide +kernel
theorem dX7_place_149 : decode cX7_place 149 = .ok (.goto 4, 3) := by decide +kernel
theorem dX7_place_152 : decode cX7_place 152 = .ok (.iconst (-1), 1) := by decide +kernel
theorem dX7_place_153 : decode cX7_place 153 = .ok (.ireturn, 1) := by decide +kernel
theorem dX7_place_154 : decode cX7_place 154 = .ok (.ldc 149, 2) := by decide +kernel
theorem dX7_place_156 : decode cX7_place 156 = .ok (.ireturn, 1) := by decide +kernel
theorem dX7_broughtBy_0 : decode cX7_broughtBy 0 = .ok (.aload_n 0, 1) := by decide +kernel
theorem dX7_broughtBy_1 : decode cX7_broughtBy 1 = .ok (.invokevirtual 121, 3) := by decide +kernel
theorem dX7_broughtBy_4 : decode cX7_broughtBy 4 = .ok (.ifCond .eq 16, 3) := by decide +kernel
theorem dX7_broughtBy_7 : decode cX7_broughtBy 7 = .ok (.aload_n 0, 1) := by decide +kernel
theorem dX7_broughtBy_8 : decode cX7_broughtBy 8 = .ok (.aload_n 0, 1) := by decide +kernel
theorem dX7_broughtBy_9 : decode cX7_broughtBy 9 = .ok (.getfield 26, 3) := by decide +kernel
theorem dX7_broughtBy_12 : decode cX7_broughtBy 12 = .ok (.iconst 0, 1) := by decide +kernel
theorem dX7_broughtBy_13 : decode cX7_broughtBy 13 = .ok (.iconst (-1), 1) := by decide +kernel
theorem dX7_broughtBy_14 : decode cX7_broughtBy 14 = .ok (.invokevirtual 102, 3) := by decide +kernel
theorem dX7_broughtBy_17 : decode cX7_broughtBy 17 = .ok (.ifCond .ge 5, 3) := by decide +kernel
theorem dX7_broughtBy_20 : decode cX7_broughtBy 20 = .ok (.iconst (-1), 1) := by decide +kernel
theorem dX7_broughtBy_21 : decode cX7_broughtBy 21 = .ok (.ireturn, 1) := by decide +kernel
theorem dX7_broughtBy_22 : decode cX7_broughtBy 22 = .ok (.aload_n 0, 1) := by decide +kernel
theorem dX7_broughtBy_23 : decode cX7_broughtBy 23 = .ok (.iload_n 1, 1) := by decide +kernel
theorem dX7_broughtBy_24 : decode cX7_broughtBy 24 = .ok (.aload_n 0, 1) := by decide +kernel
theorem dX7_broughtBy_25 : decode cX7_broughtBy 25 = .ok (.getfield 26, 3) := by decide +kernel
theorem dX7_broughtBy_28 : decode cX7_broughtBy 28 = .ok (.aload_n 0, 1) := by decide +kernel
theorem dX7_broughtBy_29 : decode cX7_broughtBy 29 = .ok (.iload_n 1, 1) := by decide +kernel
theorem dX7_broughtBy_30 : decode cX7_broughtBy 30 = .ok (.iconst 0, 1) := by decide +kernel
theorem dX7_broughtBy_31 : decode cX7_broughtBy 31 = .ok (.invokevirtual 58, 3) := by decide +kernel
theorem dX7_broughtBy_34 : decode cX7_broughtBy 34 = .ok (.iaload, 1) := by decide +kernel
theorem dX7_broughtBy_35 : decode cX7_broughtBy 35 = .ok (.aload_n 0, 1) := by decide +kernel
theorem dX7_broughtBy_36 : decode cX7_broughtBy 36 = .ok (.getfield 26, 3) := by decide +kernel
theorem dX7_broughtBy_39 : decode cX7_broughtBy 39 = .ok (.bipush 10, 2) := by decide +kernel
theorem dX7_broughtBy_41 : decode cX7_broughtBy 41 = .ok (.aload_n 0, 1) := by decide +kernel
theorem dX7_broughtBy_42 : decode cX7_broughtBy 42 = .ok (.iload_n 1, 1) := by decide +kernel
theorem dX7_broughtBy_43 : decode cX7_broughtBy 43 = .ok (.iconst 0, 1) := by decide +kernel
theorem dX7_broughtBy_44 : decode cX7_broughtBy 44 = .ok (.invokevirtual 58, 3) := by decide +kernel
theorem dX7_broughtBy_47 : decode cX7_broughtBy 47 = .ok (.iadd, 1) := by decide +kernel
theorem dX7_broughtBy_48 : decode cX7_broughtBy 48 = .ok (.iaload, 1) := by decide +kernel
theorem dX7_broughtBy_49 : decode cX7_broughtBy 49 = .ok (.invokevirtual 85, 3) := by decide +kernel
theorem dX7_broughtBy_52 : decode cX7_broughtBy 52 = .ok (.iload_n 2, 1) := by decide +kernel
theorem dX7_broughtBy_53 : decode cX7_broughtBy 53 = .ok (.bipush 7, 2) := by decide +kernel
theorem dX7_broughtBy_55 : decode cX7_broughtBy 55 = .ok (.if_icmp .ne 10, 3) := by decide +kernel
theorem dX7_broughtBy_58 : decode cX7_broughtBy 58 = .ok (.aload_n 0, 1) := by decide +kernel
theorem dX7_broughtBy_59 : decode cX7_broughtBy 59 = .ok (.getfield 72, 3) := by decide +kernel
theorem dX7_broughtBy_62 : decode cX7_broughtBy 62 = .ok (.goto 7, 3) := by decide +kernel
theorem dX7_broughtBy_65 : decode cX7_broughtBy 65 = .ok (.aload_n 0, 1) := by decide +kernel
theorem dX7_broughtBy_66 : decode cX7_broughtBy 66 = .ok (.getfield 76, 3) := by decide +kernel
theorem dX7_broughtBy_69 : decode cX7_broughtBy 69 = .ok (.ireturn, 1) := by decide +kernel
theorem dX7_wayAt_0 : decode cX7_wayAt 0 = .ok (.aload_n 0, 1) := by decide +kernel
theorem dX7_wayAt_1 : decode cX7_wayAt 1 = .ok (.iload_n 1, 1) := by decide +kernel
theorem dX7_wayAt_2 : decode cX7_wayAt 2 = .ok (.invokevirtual 160, 3) := by decide +kernel
theorem dX7_wayAt_5 : decode cX7_wayAt 5 = .ok (.ifCond .ne 6, 3) := by decide +kernel
theorem dX7_wayAt_8 : decode cX7_wayAt 8 = .ok (.ldc 153, 2) := by decide +kernel
theorem dX7_wayAt_10 : decode cX7_wayAt 10 = .ok (.ireturn, 1) := by decide +kernel
theorem dX7_wayAt_11 : decode cX7_wayAt 11 = .ok (.iload_n 2, 1) := by decide +kernel
theorem dX7_wayAt_12 : decode cX7_wayAt 12 = .ok (.iconst 0, 1) := by decide +kernel
theorem dX7_wayAt_13 : decode cX7_wayAt 13 = .ok (.bipush 8, 2) := by decide +kernel
theorem dX7_wayAt_15 : decode cX7_wayAt 15 = .ok (.invokestatic 42, 3) := by decide +kernel
theorem dX7_wayAt_18 : decode cX7_wayAt 18 = .ok (.ifCond .ne 6, 3) := by decide +kernel
theorem dX7_wayAt_21 : decode cX7_wayAt 21 = .ok (.ldc 149, 2) := by decide +kernel
theorem dX7_wayAt_23 : decode cX7_wayAt 23 = .ok (.ireturn, 1) := by decide +kernel
theorem dX7_wayAt_24 : decode cX7_wayAt 24 = .ok (.iload_n 2, 1) := by decide +kernel
theorem dX7_wayAt_25 : decode cX7_wayAt 25 = .ok (.iconst 5, 1) := by decide +kernel
theorem dX7_wayAt_26 : decode cX7_wayAt 26 = .ok (.if_icmp .ge 10, 3) := by decide +kernel
theorem dX7_wayAt_29 : decode cX7_wayAt 29 = .ok (.aload_n 0, 1) := by decide +kernel
theorem dX7_wayAt_30 : decode cX7_wayAt 30 = .ok (.iload_n 1, 1) := by decide +kernel
theorem dX7_wayAt_31 : decode cX7_wayAt 31 = .ok (.iload_n 2, 1) := by decide +kernel
theorem dX7_wayAt_32 : decode cX7_wayAt 32 = .ok (.invokevirtual 58, 3) := by decide +kernel
theorem dX7_wayAt_35 : decode cX7_wayAt 35 = .ok (.ireturn, 1) := by decide +kernel
theorem dX7_wayAt_36 : decode cX7_wayAt 36 = .ok (.iload_n 2, 1) := by decide +kernel
theorem dX7_wayAt_37 : decode cX7_wayAt 37 = .ok (.iconst 5, 1) := by decide +kernel
theorem dX7_wayAt_38 : decode cX7_wayAt 38 = .ok (.if_icmp .ne 17, 3) := by decide +kernel
theorem dX7_wayAt_41 : decode cX7_wayAt 41 = .ok (.aload_n 0, 1) := by decide +kernel
theorem dX7_wayAt_42 : decode cX7_wayAt 42 = .ok (.iload_n 1, 1) := by decide +kernel
theorem dX7_wayAt_43 : decode cX7_wayAt 43 = .ok (.invokevirtual 61, 3) := by decide +kernel
theorem dX7_wayAt_46 : decode cX7_wayAt 46 = .ok (.ifCond .eq 7, 3) := by decide +kernel
theorem dX7_wayAt_49 : decode cX7_wayAt 49 = .ok (.iconst 1, 1) := by decide +kernel
theorem dX7_wayAt_50 : decode cX7_wayAt 50 = .ok (.goto 4, 3) := by decide +kernel
theorem dX7_wayAt_53 : decode cX7_wayAt 53 = .ok (.iconst 0, 1) := by decide +kernel
theorem dX7_wayAt_54 : decode cX7_wayAt 54 = .ok (.ireturn, 1) := by decide +kernel
theorem dX7_wayAt_55 : decode cX7_wayAt 55 = .ok (.iload_n 2, 1) := by decide +kernel
theorem dX7_wayAt_56 : decode cX7_wayAt 56 = .ok (.bipush 6, 2) := by decide +kernel
theorem dX7_wayAt_58 : decode cX7_wayAt 58 = .ok (.if_icmp .le 12, 3) := by decide +kernel
theorem dX7_wayAt_61 : decode cX7_wayAt 61 = .ok (.aload_n 0, 1) := by decide +kernel
theorem dX7_wayAt_62 : decode cX7_wayAt 62 = .ok (.iload_n 1, 1) := by decide +kernel
theorem dX7_wayAt_63 : decode cX7_wayAt 63 = .ok (.iload_n 2, 1) := by decide +kernel
theorem dX7_wayAt_64 : decode cX7_wayAt 64 = .ok (.invokevirtual 163, 3) := by decide +kernel
theorem dX7_wayAt_67 : decode cX7_wayAt 67 = .ok (.goto 19, 3) := by decide +kernel
theorem dX7_wayAt_70 : decode cX7_wayAt 70 = .ok (.aload_n 0, 1) := by decide +kernel
theorem dX7_wayAt_71 : decode cX7_wayAt 71 = .ok (.invokevirtual 121, 3) := by decide +kernel
theorem dX7_wayAt_74 : decode cX7_wayAt 74 = .ok (.ifCond .eq 11, 3) := by decide +kernel
theorem dX7_wayAt_77 : decode cX7_wayAt 77 = .ok (.aload_n 0, 1) := by decide +kernel
theorem dX7_wayAt_78 : decode cX7_wayAt 78 = .ok (.iload_n 1, 1) := by decide +kernel
theorem dX7_wayAt_79 : decode cX7_wayAt 79 = .ok (.invokevirtual 106, 3) := by decide +kernel
theorem dX7_wayAt_82 : decode cX7_wayAt 82 = .ok (.goto 4, 3) := by decide +kernel
theorem dX7_wayAt_85 : decode cX7_wayAt 85 = .ok (.iconst (-1), 1) := by decide +kernel
theorem dX7_wayAt_86 : decode cX7_wayAt 86 = .ok (.ireturn, 1) := by decide +kernel
theorem dX7_mapped_0 : decode cX7_mapped 0 = .ok (.aload_n 0, 1) := by decide +kernel
theorem dX7_mapped_1 : decode cX7_mapped 1 = .ok (.iload_n 1, 1) := by decide +kernel
theorem dX7_mapped_2 : decode cX7_mapped 2 = .ok (.invokevirtual 160, 3) := by decide +kernel
theorem dX7_mapped_5 : decode cX7_mapped 5 = .ok (.ifCond .eq 22, 3) := by decide +kernel
theorem dX7_mapped_8 : decode cX7_mapped 8 = .ok (.aload_n 0, 1) := by decide +kernel
theorem dX7_mapped_9 : decode cX7_mapped 9 = .ok (.iload_n 2, 1) := by decide +kernel
theorem dX7_mapped_10 : decode cX7_mapped 10 = .ok (.invokevirtual 150, 3) := by decide +kernel
theorem dX7_mapped_13 : decode cX7_mapped 13 = .ok (.ifCond .eq 14, 3) := by decide +kernel
theorem dX7_mapped_16 : decode cX7_mapped 16 = .ok (.aload_n 0, 1) := by decide +kernel
theorem dX7_mapped_17 : decode cX7_mapped 17 = .ok (.iload_n 1, 1) := by decide +kernel
theorem dX7_mapped_18 : decode cX7_mapped 18 = .ok (.iconst 5, 1) := by decide +kernel
theorem dX7_mapped_19 : decode cX7_mapped 19 = .ok (.iload_n 2, 1) := by decide +kernel
theorem dX7_mapped_20 : decode cX7_mapped 20 = .ok (.iadd, 1) := by decide +kernel
theorem dX7_mapped_21 : decode cX7_mapped 21 = .ok (.invokevirtual 58, 3) := by decide +kernel
theorem dX7_mapped_24 : decode cX7_mapped 24 = .ok (.goto 5, 3) := by decide +kernel
theorem dX7_mapped_27 : decode cX7_mapped 27 = .ok (.ldc 153, 2) := by decide +kernel
theorem dX7_mapped_29 : decode cX7_mapped 29 = .ok (.ireturn, 1) := by decide +kernel
theorem dX7_steps_0 : decode cX7_steps 0 = .ok (.iload_n 1, 1) := by decide +kernel
theorem dX7_steps_1 : decode cX7_steps 1 = .ok (.iconst 0, 1) := by decide +kernel
theorem dX7_steps_2 : decode cX7_steps 2 = .ok (.iconst 2, 1) := by decide +kernel
theorem dX7_steps_3 : decode cX7_steps 3 = .ok (.invokestatic 42, 3) := by decide +kernel
theorem dX7_steps_6 : decode cX7_steps 6 = .ok (.ifCond .eq 16, 3) := by decide +kernel
theorem dX7_steps_9 : decode cX7_steps 9 = .ok (.aload_n 0, 1) := by decide +kernel
theorem dX7_steps_10 : decode cX7_steps 10 = .ok (.aload_n 0, 1) := by decide +kernel
theorem dX7_steps_11 : decode cX7_steps 11 = .ok (.getfield 29, 3) := by decide +kernel
theorem dX7_steps_14 : decode cX7_steps 14 = .ok (.iload_n 1, 1) := by decide +kernel
theorem dX7_steps_15 : decode cX7_steps 15 = .ok (.iconst (-1), 1) := by decide +kernel
theorem dX7_steps_16 : decode cX7_steps 16 = .ok (.invokevirtual 102, 3) := by decide +kernel
theorem dX7_steps_19 : decode cX7_steps 19 = .ok (.goto 5, 3) := by decide +kernel
theorem dX7_steps_22 : decode cX7_steps 22 = .ok (.ldc 149, 2) := by decide +kernel
theorem dX7_steps_24 : decode cX7_steps 24 = .ok (.ireturn, 1) := by decide +kernel
theorem dX7_worked_0 : decode cX7_worked 0 = .ok (.aload_n 0, 1) := by decide +kernel
theorem dX7_worked_1 : decode cX7_worked 1 = .ok (.iload_n 2, 1) := by decide +kernel
theorem dX7_worked_2 : decode cX7_worked 2 = .ok (.invokevirtual 131, 3) := by decide +kernel
theorem dX7_worked_5 : decode cX7_worked 5 = .ok (.ifCond .ne 6, 3) := by decide +kernel
theorem dX7_worked_8 : decode cX7_worked 8 = .ok (.ldc 153, 2) := by decide +kernel
theorem dX7_worked_10 : decode cX7_worked 10 = .ok (.ireturn, 1) := by decide +kernel
theorem dX7_worked_11 : decode cX7_worked 11 = .ok (.iload_n 1, 1) := by decide +kernel
theorem dX7_worked_12 : decode cX7_worked 12 = .ok (.iconst 0, 1) := by decide +kernel
theorem dX7_worked_13 : decode cX7_worked 13 = .ok (.iconst 2, 1) := by decide +kernel
theorem dX7_worked_14 : decode cX7_worked 14 = .ok (.invokestatic 42, 3) := by decide +kernel
theorem dX7_worked_17 : decode cX7_worked 17 = .ok (.ifCond .ne 6, 3) := by decide +kernel
theorem dX7_worked_20 : decode cX7_worked 20 = .ok (.ldc 149, 2) := by decide +kernel
theorem dX7_worked_22 : decode cX7_worked 22 = .ok (.ireturn, 1) := by decide +kernel
theorem dX7_worked_23 : decode cX7_worked 23 = .ok (.aload_n 0, 1) := by decide +kernel
theorem dX7_worked_24 : decode cX7_worked 24 = .ok (.aload_n 0, 1) := by decide +kernel
theorem dX7_worked_25 : decode cX7_worked 25 = .ok (.getfield 29, 3) := by decide +kernel
theorem dX7_worked_28 : decode cX7_worked 28 = .ok (.iload_n 1, 1) := by decide +kernel
theorem dX7_worked_29 : decode cX7_worked 29 = .ok (.iconst (-1), 1) := by decide +kernel
theorem dX7_worked_30 : decode cX7_worked 30 = .ok (.invokevirtual 102, 3) := by decide +kernel
theorem dX7_worked_33 : decode cX7_worked 33 = .ok (.ifCond .ge 7, 3) := by decide +kernel
theorem dX7_worked_36 : decode cX7_worked 36 = .ok (.iconst (-1), 1) := by decide +kernel
theorem dX7_worked_37 : decode cX7_worked 37 = .ok (.goto 23, 3) := by decide +kernel
theorem dX7_worked_40 : decode cX7_worked 40 = .ok (.sipush 256, 3) := by decide +kernel
theorem dX7_worked_43 : decode cX7_worked 43 = .ok (.aload_n 0, 1) := by decide +kernel
theorem dX7_worked_44 : decode cX7_worked 44 = .ok (.getfield 29, 3) := by decide +kernel
theorem dX7_worked_47 : decode cX7_worked 47 = .ok (.iload_n 2, 1) := by decide +kernel
theorem dX7_worked_48 : decode cX7_worked 48 = .ok (.iaload, 1) := by decide +kernel
theorem dX7_worked_49 : decode cX7_worked 49 = .ok (.imul, 1) := by decide +kernel
theorem dX7_worked_50 : decode cX7_worked 50 = .ok (.aload_n 0, 1) := by decide +kernel
theorem dX7_worked_51 : decode cX7_worked 51 = .ok (.getfield 29, 3) := by decide +kernel
theorem dX7_worked_54 : decode cX7_worked 54 = .ok (.bipush 10, 2) := by decide +kernel
theorem dX7_worked_56 : decode cX7_worked 56 = .ok (.iload_n 2, 1) := by decide +kernel
theorem dX7_worked_57 : decode cX7_worked 57 = .ok (.iadd, 1) := by decide +kernel
theorem dX7_worked_58 : decode cX7_worked 58 = .ok (.iaload, 1) := by decide +kernel
theorem dX7_worked_59 : decode cX7_worked 59 = .ok (.iadd, 1) := by decide +kernel
theorem dX7_worked_60 : decode cX7_worked 60 = .ok (.ireturn, 1) := by decide +kernel
theorem dX7_notes_0 : decode cX7_notes 0 = .ok (.aload_n 0, 1) := by decide +kernel
theorem dX7_notes_1 : decode cX7_notes 1 = .ok (.getfield 146, 3) := by decide +kernel
theorem dX7_notes_4 : decode cX7_notes 4 = .ok (.bipush 16, 2) := by decide +kernel
theorem dX7_notes_6 : decode cX7_notes 6 = .ok (.if_icmp .ne 44, 3) := by decide +kernel
theorem dX7_notes_9 : decode cX7_notes 9 = .ok (.iconst 0, 1) := by decide +kernel
theorem dX7_notes_10 : decode cX7_notes 10 = .ok (.istore_n 1, 1) := by decide +kernel
theorem dX7_notes_11 : decode cX7_notes 11 = .ok (.iload_n 1, 1) := by decide +kernel
theorem dX7_notes_12 : decode cX7_notes 12 = .ok (.sipush 5505, 3) := by decide +kernel
theorem dX7_notes_15 : decode cX7_notes 15 = .ok (.if_icmp .ge 25, 3) := by decide +kernel
theorem dX7_notes_18 : decode cX7_notes 18 = .ok (.aload_n 0, 1) := by decide +kernel
theorem dX7_notes_19 : decode cX7_notes 19 = .ok (.getfield 13, 3) := by decide +kernel
theorem dX7_notes_22 : decode cX7_notes 22 = .ok (.iload_n 1, 1) := by decide +kernel
theorem dX7_notes_23 : decode cX7_notes 23 = .ok (.aload_n 0, 1) := by decide +kernel
theorem dX7_notes_24 : decode cX7_notes 24 = .ok (.getfield 13, 3) := by decide +kernel
theorem dX7_notes_27 : decode cX7_notes 27 = .ok (.iload_n 1, 1) := by decide +kernel
theorem dX7_notes_28 : decode cX7_notes 28 = .ok (.sipush 367, 3) := by decide +kernel
theorem dX7_notes_31 : decode cX7_notes 31 = .ok (.iadd, 1) := by decide +kernel
theorem dX7_notes_32 : decode cX7_notes 32 = .ok (.iaload, 1) := by decide +kernel
theorem dX7_notes_33 : decode cX7_notes 33 = .ok (.iastore, 1) := by decide +kernel
theorem dX7_notes_34 : decode cX7_notes 34 = .ok (.iinc 1 1, 3) := by decide +kernel
theorem dX7_notes_37 : decode cX7_notes 37 = .ok (.goto (-26), 3) := by decide +kernel
theorem dX7_notes_40 : decode cX7_notes 40 = .ok (.aload_n 0, 1) := by decide +kernel
theorem dX7_notes_41 : decode cX7_notes 41 = .ok (.dup, 1) := by decide +kernel
theorem dX7_notes_42 : decode cX7_notes 42 = .ok (.getfield 146, 3) := by decide +kernel
theorem dX7_notes_45 : decode cX7_notes 45 = .ok (.iconst 1, 1) := by decide +kernel
theorem dX7_notes_46 : decode cX7_notes 46 = .ok (.isub, 1) := by decide +kernel
theorem dX7_notes_47 : decode cX7_notes 47 = .ok (.putfield 146, 3) := by decide +kernel
theorem dX7_notes_50 : decode cX7_notes 50 = .ok (.iconst 0, 1) := by decide +kernel
theorem dX7_notes_51 : decode cX7_notes 51 = .ok (.istore_n 1, 1) := by decide +kernel
theorem dX7_notes_52 : decode cX7_notes 52 = .ok (.iload_n 1, 1) := by decide +kernel
theorem dX7_notes_53 : decode cX7_notes 53 = .ok (.sipush 367, 3) := by decide +kernel
theorem dX7_notes_56 : decode cX7_notes 56 = .ok (.if_icmp .ge 30, 3) := by decide +kernel
theorem dX7_notes_59 : decode cX7_notes 59 = .ok (.aload_n 0, 1) := by decide +kernel
theorem dX7_notes_60 : decode cX7_notes 60 = .ok (.getfield 13, 3) := by decide +kernel
theorem dX7_notes_63 : decode cX7_notes 63 = .ok (.sipush 367, 3) := by decide +kernel
theorem dX7_notes_66 : decode cX7_notes 66 = .ok (.aload_n 0, 1) := by decide +kernel
theorem dX7_notes_67 : decode cX7_notes 67 = .ok (.getfield 146, 3) := by decide +kernel
theorem dX7_notes_70 : decode cX7_notes 70 = .ok (.imul, 1) := by decide +kernel
theorem dX7_notes_71 : decode cX7_notes 71 = .ok (.iload_n 1, 1) := by decide +kernel
theorem dX7_notes_72 : decode cX7_notes 72 = .ok (.iadd, 1) := by decide +kernel
theorem dX7_notes_73 : decode cX7_notes 73 = .ok (.aload_n 0, 1) := by decide +kernel
theorem dX7_notes_74 : decode cX7_notes 74 = .ok (.getfield 7, 3) := by decide +kernel
theorem dX7_notes_77 : decode cX7_notes 77 = .ok (.iload_n 1, 1) := by decide +kernel
theorem dX7_notes_78 : decode cX7_notes 78 = .ok (.iaload, 1) := by decide +kernel
theorem dX7_notes_79 : decode cX7_notes 79 = .ok (.iastore, 1) := by decide +kernel
theorem dX7_notes_80 : decode cX7_notes 80 = .ok (.iinc 1 1, 3) := by decide +kernel
theorem dX7_notes_83 : decode cX7_notes 83 = .ok (.goto (-31), 3) := by decide +kernel
theorem dX7_notes_86 : decode cX7_notes 86 = .ok (.aload_n 0, 1) := by decide +kernel
theorem dX7_notes_87 : decode cX7_notes 87 = .ok (.dup, 1) := by decide +kernel
theorem dX7_notes_88 : decode cX7_notes 88 = .ok (.getfield 146, 3) := by decide +kernel
theorem dX7_notes_91 : decode cX7_notes 91 = .ok (.iconst 1, 1) := by decide +kernel
theorem dX7_notes_92 : decode cX7_notes 92 = .ok (.iadd, 1) := by decide +kernel
theorem dX7_notes_93 : decode cX7_notes 93 = .ok (.putfield 146, 3) := by decide +kernel
theorem dX7_notes_96 : decode cX7_notes 96 = .ok (.return_, 1) := by decide +kernel
theorem dX7_builds_0 : decode cX7_builds 0 = .ok (.iconst 0, 1) := by decide +kernel
theorem dX7_builds_1 : decode cX7_builds 1 = .ok (.istore 4, 2) := by decide +kernel
theorem dX7_builds_3 : decode cX7_builds 3 = .ok (.iload 4, 2) := by decide +kernel
theorem dX7_builds_5 : decode cX7_builds 5 = .ok (.sipush 367, 3) := by decide +kernel
theorem dX7_builds_8 : decode cX7_builds 8 = .ok (.if_icmp .ge 17, 3) := by decide +kernel
theorem dX7_builds_11 : decode cX7_builds 11 = .ok (.aload_n 0, 1) := by decide +kernel
theorem dX7_builds_12 : decode cX7_builds 12 = .ok (.getfield 7, 3) := by decide +kernel
theorem dX7_builds_15 : decode cX7_builds 15 = .ok (.iload 4, 2) := by decide +kernel
theorem dX7_builds_17 : decode cX7_builds 17 = .ok (.iconst 0, 1) := by decide +kernel
theorem dX7_builds_18 : decode cX7_builds 18 = .ok (.iastore, 1) := by decide +kernel
theorem dX7_builds_19 : decode cX7_builds 19 = .ok (.iinc 4 1, 3) := by decide +kernel
theorem dX7_builds_22 : decode cX7_builds 22 = .ok (.goto (-19), 3) := by decide +kernel
theorem dX7_builds_25 : decode cX7_builds 25 = .ok (.aload_n 0, 1) := by decide +kernel
theorem dX7_builds_26 : decode cX7_builds 26 = .ok (.getfield 7, 3) := by decide +kernel
theorem dX7_builds_29 : decode cX7_builds 29 = .ok (.iconst 0, 1) := by decide +kernel
theorem dX7_builds_30 : decode cX7_builds 30 = .ok (.iload_n 1, 1) := by decide +kernel
theorem dX7_builds_31 : decode cX7_builds 31 = .ok (.iconst 2, 1) := by decide +kernel
theorem dX7_builds_32 : decode cX7_builds 32 = .ok (.if_icmp .ne 8, 3) := by decide +kernel
theorem dX7_builds_35 : decode cX7_builds 35 = .ok (.bipush 8, 2) := by decide +kernel
theorem dX7_builds_37 : decode cX7_builds 37 = .ok (.goto 4, 3) := by decide +kernel
theorem dX7_builds_40 : decode cX7_builds 40 = .ok (.iload_n 2, 1) := by decide +kernel
theorem dX7_builds_41 : decode cX7_builds 41 = .ok (.iastore, 1) := by decide +kernel
theorem dX7_builds_42 : decode cX7_builds 42 = .ok (.aload_n 0, 1) := by decide +kernel
theorem dX7_builds_43 : decode cX7_builds 43 = .ok (.getfield 7, 3) := by decide +kernel
theorem dX7_builds_46 : decode cX7_builds 46 = .ok (.iconst 1, 1) := by decide +kernel
theorem dX7_builds_47 : decode cX7_builds 47 = .ok (.iload_n 3, 1) := by decide +kernel
theorem dX7_builds_48 : decode cX7_builds 48 = .ok (.iastore, 1) := by decide +kernel
theorem dX7_builds_49 : decode cX7_builds 49 = .ok (.iconst 0, 1) := by decide +kernel
theorem dX7_builds_50 : decode cX7_builds 50 = .ok (.istore 4, 2) := by decide +kernel
theorem dX7_builds_52 : decode cX7_builds 52 = .ok (.iload 4, 2) := by decide +kernel
theorem dX7_builds_54 : decode cX7_builds 54 = .ok (.bipush 8, 2) := by decide +kernel
theorem dX7_builds_56 : decode cX7_builds 56 = .ok (.if_icmp .ge 103, 3) := by decide +kernel
theorem dX7_builds_59 : decode cX7_builds 59 = .ok (.iconst 0, 1) := by decide +kernel
theorem dX7_builds_60 : decode cX7_builds 60 = .ok (.istore 5, 2) := by decide +kernel
theorem dX7_builds_62 : decode cX7_builds 62 = .ok (.iload 5, 2) := by decide +kernel
theorem dX7_builds_64 : decode cX7_builds 64 = .ok (.bipush 8, 2) := by decide +kernel
theorem dX7_builds_66 : decode cX7_builds 66 = .ok (.if_icmp .ge 87, 3) := by decide +kernel
theorem dX7_builds_69 : decode cX7_builds 69 = .ok (.iload 4, 2) := by decide +kernel
theorem dX7_builds_71 : decode cX7_builds 71 = .ok (.iload 5, 2) := by decide +kernel
theorem dX7_builds_73 : decode cX7_builds 73 = .ok (.if_icmp .le 8, 3) := by decide +kernel
theorem dX7_builds_76 : decode cX7_builds 76 = .ok (.iload 4, 2) := by decide +kernel
theorem dX7_builds_78 : decode cX7_builds 78 = .ok (.goto 5, 3) := by decide +kernel
theorem dX7_builds_81 : decode cX7_builds 81 = .ok (.iload 5, 2) := by decide +kernel
theorem dX7_builds_83 : decode cX7_builds 83 = .ok (.istore 6, 2) := by decide +kernel
theorem dX7_builds_85 : decode cX7_builds 85 = .ok (.aload_n 0, 1) := by decide +kernel
theorem dX7_builds_86 : decode cX7_builds 86 = .ok (.getfield 7, 3) := by decide +kernel
theorem dX7_builds_89 : decode cX7_builds 89 = .ok (.iconst 3, 1) := by decide +kernel
theorem dX7_builds_90 : decode cX7_builds 90 = .ok (.bipush 8, 2) := by decide +kernel
theorem dX7_builds_92 : decode cX7_builds 92 = .ok (.iload 4, 2) := by decide +kernel
theorem dX7_builds_94 : decode cX7_builds 94 = .ok (.imul, 1) := by decide +kernel
theorem dX7_builds_95 : decode cX7_builds 95 = .ok (.iadd, 1) := by decide +kernel
theorem dX7_builds_96 : decode cX7_builds 96 = .ok (.iload 5, 2) := by decide +kernel
theorem dX7_builds_98 : decode cX7_builds 98 = .ok (.iadd, 1) := by decide +kernel
theorem dX7_builds_99 : decode cX7_builds 99 = .ok (.iload_n 1, 1) := by decide +kernel
theorem dX7_builds_100 : decode cX7_builds 100 = .ok (.iconst 2, 1) := by decide +kernel
theorem dX7_builds_101 : decode cX7_builds 101 = .ok (.if_icmp .ne 11, 3) := by decide +kernel
theorem dX7_builds_104 : decode cX7_builds 104 = .ok (.iload 4, 2) := by decide +kernel
theorem dX7_builds_106 : decode cX7_builds 106 = .ok (.iload 5, 2) := by decide +kernel
theorem dX7_builds_108 : decode cX7_builds 108 = .ok (.ior, 1) := by decide +kernel
theorem dX7_builds_109 : decode cX7_builds 109 = .ok (.goto 37, 3) := by decide +kernel
theorem dX7_builds_112 : decode cX7_builds 112 = .ok (.iload_n 1, 1) := by decide +kernel
theorem dX7_builds_113 : decode cX7_builds 113 = .ok (.ifCond .eq 20, 3) := by decide +kernel
theorem dX7_builds_116 : decode cX7_builds 116 = .ok (.iload 4, 2) := by decide +kernel
theorem dX7_builds_118 : decode cX7_builds 118 = .ok (.iload 5, 2) := by decide +kernel
theorem dX7_builds_120 : decode cX7_builds 120 = .ok (.if_icmp .eq 13, 3) := by decide +kernel
theorem dX7_builds_123 : decode cX7_builds 123 = .ok (.iload 4, 2) := by decide +kernel
theorem dX7_builds_125 : decode cX7_builds 125 = .ok (.ifCond .eq 8, 3) := by decide +kernel
theorem dX7_builds_128 : decode cX7_builds 128 = .ok (.iload 5, 2) := by decide +kernel
theorem dX7_builds_130 : decode cX7_builds 130 = .ok (.ifCond .ne 8, 3) := by decide +kernel
theorem dX7_builds_133 : decode cX7_builds 133 = .ok (.iload 6, 2) := by decide +kernel
theorem dX7_builds_135 : decode cX7_builds 135 = .ok (.goto 11, 3) := by decide +kernel
theorem dX7_builds_138 : decode cX7_builds 138 = .ok (.aload_n 0, 1) := by decide +kernel
theorem dX7_builds_139 : decode cX7_builds 139 = .ok (.getfield 7, 3) := by decide +kernel
theorem dX7_builds_142 : decode cX7_builds 142 = .ok (.iconst 0, 1) := by decide +kernel
theorem dX7_builds_143 : decode cX7_builds 143 = .ok (.iaload, 1) := by decide +kernel
theorem dX7_builds_144 : decode cX7_builds 144 = .ok (.iconst 1, 1) := by decide +kernel
theorem dX7_builds_145 : decode cX7_builds 145 = .ok (.isub, 1) := by decide +kernel
theorem dX7_builds_146 : decode cX7_builds 146 = .ok (.iastore, 1) := by decide +kernel
theorem dX7_builds_147 : decode cX7_builds 147 = .ok (.iinc 5 1, 3) := by decide +kernel
theorem dX7_builds_150 : decode cX7_builds 150 = .ok (.goto (-88), 3) := by decide +kernel
theorem dX7_builds_153 : decode cX7_builds 153 = .ok (.iinc 4 1, 3) := by decide +kernel
theorem dX7_builds_156 : decode cX7_builds 156 = .ok (.goto (-104), 3) := by decide +kernel
theorem dX7_builds_159 : decode cX7_builds 159 = .ok (.return_, 1) := by decide +kernel
theorem dX7_build_0 : decode cX7_build 0 = .ok (.iload_n 1, 1) := by decide +kernel
theorem dX7_build_1 : decode cX7_build 1 = .ok (.iconst 0, 1) := by decide +kernel
theorem dX7_build_2 : decode cX7_build 2 = .ok (.iconst 2, 1) := by decide +kernel
theorem dX7_build_3 : decode cX7_build 3 = .ok (.invokestatic 42, 3) := by decide +kernel
theorem dX7_build_6 : decode cX7_build 6 = .ok (.ifCond .eq 23, 3) := by decide +kernel
theorem dX7_build_9 : decode cX7_build 9 = .ok (.iload_n 2, 1) := by decide +kernel
theorem dX7_build_10 : decode cX7_build 10 = .ok (.iconst 1, 1) := by decide +kernel
theorem dX7_build_11 : decode cX7_build 11 = .ok (.bipush 8, 2) := by decide +kernel
theorem dX7_build_13 : decode cX7_build 13 = .ok (.invokestatic 42, 3) := by decide +kernel
theorem dX7_build_16 : decode cX7_build 16 = .ok (.ifCond .eq 13, 3) := by decide +kernel
theorem dX7_build_19 : decode cX7_build 19 = .ok (.iload_n 3, 1) := by decide +kernel
theorem dX7_build_20 : decode cX7_build 20 = .ok (.iconst 0, 1) := by decide +kernel
theorem dX7_build_21 : decode cX7_build 21 = .ok (.bipush 10, 2) := by decide +kernel
theorem dX7_build_23 : decode cX7_build 23 = .ok (.invokestatic 42, 3) := by decide +kernel
theorem dX7_build_26 : decode cX7_build 26 = .ok (.ifCond .ne 6, 3) := by decide +kernel
theorem dX7_build_29 : decode cX7_build 29 = .ok (.ldc 149, 2) := by decide +kernel
theorem dX7_build_31 : decode cX7_build 31 = .ok (.ireturn, 1) := by decide +kernel
theorem dX7_build_32 : decode cX7_build 32 = .ok (.aload_n 0, 1) := by decide +kernel
theorem dX7_build_33 : decode cX7_build 33 = .ok (.getfield 7, 3) := by decide +kernel
theorem dX7_build_36 : decode cX7_build 36 = .ok (.iconst 2, 1) := by decide +kernel
theorem dX7_build_37 : decode cX7_build 37 = .ok (.iaload, 1) := by decide +kernel
theorem dX7_build_38 : decode cX7_build 38 = .ok (.istore 4, 2) := by decide +kernel
theorem dX7_build_40 : decode cX7_build 40 = .ok (.aload_n 0, 1) := by decide +kernel
theorem dX7_build_41 : decode cX7_build 41 = .ok (.invokevirtual 166, 3) := by decide +kernel
theorem dX7_build_44 : decode cX7_build 44 = .ok (.aload_n 0, 1) := by decide +kernel
theorem dX7_build_45 : decode cX7_build 45 = .ok (.iload_n 1, 1) := by decide +kernel
theorem dX7_build_46 : decode cX7_build 46 = .ok (.iload_n 2, 1) := by decide +kernel
theorem dX7_build_47 : decode cX7_build 47 = .ok (.iload_n 3, 1) := by decide +kernel
theorem dX7_build_48 : decode cX7_build 48 = .ok (.invokevirtual 38, 3) := by decide +kernel
theorem dX7_build_51 : decode cX7_build 51 = .ok (.iload 4, 2) := by decide +kernel
theorem dX7_build_53 : decode cX7_build 53 = .ok (.ireturn, 1) := by decide +kernel
theorem dX7_cell_0 : decode cX7_cell 0 = .ok (.aload_n 0, 1) := by decide +kernel
theorem dX7_cell_1 : decode cX7_cell 1 = .ok (.iload_n 1, 1) := by decide +kernel
theorem dX7_cell_2 : decode cX7_cell 2 = .ok (.invokevirtual 150, 3) := by decide +kernel
theorem dX7_cell_5 : decode cX7_cell 5 = .ok (.ifCond .eq 19, 3) := by decide +kernel
theorem dX7_cell_8 : decode cX7_cell 8 = .ok (.aload_n 0, 1) := by decide +kernel
theorem dX7_cell_9 : decode cX7_cell 9 = .ok (.iload_n 2, 1) := by decide +kernel
theorem dX7_cell_10 : decode cX7_cell 10 = .ok (.invokevirtual 150, 3) := by decide +kernel
theorem dX7_cell_13 : decode cX7_cell 13 = .ok (.ifCond .eq 11, 3) := by decide +kernel
theorem dX7_cell_16 : decode cX7_cell 16 = .ok (.aload_n 0, 1) := by decide +kernel
theorem dX7_cell_17 : decode cX7_cell 17 = .ok (.iload_n 3, 1) := by decide +kernel
theorem dX7_cell_18 : decode cX7_cell 18 = .ok (.invokevirtual 150, 3) := by decide +kernel
theorem dX7_cell_21 : decode cX7_cell 21 = .ok (.ifCond .ne 6, 3) := by decide +kernel
theorem dX7_cell_24 : decode cX7_cell 24 = .ok (.ldc 153, 2) := by decide +kernel
theorem dX7_cell_26 : decode cX7_cell 26 = .ok (.ireturn, 1) := by decide +kernel
theorem dX7_cell_27 : decode cX7_cell 27 = .ok (.aload_n 0, 1) := by decide +kernel
theorem dX7_cell_28 : decode cX7_cell 28 = .ok (.invokevirtual 166, 3) := by decide +kernel
theorem dX7_cell_31 : decode cX7_cell 31 = .ok (.aload_n 0, 1) := by decide +kernel
theorem dX7_cell_32 : decode cX7_cell 32 = .ok (.getfield 7, 3) := by decide +kernel
theorem dX7_cell_35 : decode cX7_cell 35 = .ok (.iconst 3, 1) := by decide +kernel
theorem dX7_cell_36 : decode cX7_cell 36 = .ok (.bipush 8, 2) := by decide +kernel
theorem dX7_cell_38 : decode cX7_cell 38 = .ok (.iload_n 1, 1) := by decide +kernel
theorem dX7_cell_39 : decode cX7_cell 39 = .ok (.imul, 1) := by decide +kernel
theorem dX7_cell_40 : decode cX7_cell 40 = .ok (.iadd, 1) := by decide +kernel
theorem dX7_cell_41 : decode cX7_cell 41 = .ok (.iload_n 2, 1) := by decide +kernel
theorem dX7_cell_42 : decode cX7_cell 42 = .ok (.iadd, 1) := by decide +kernel
theorem dX7_cell_43 : decode cX7_cell 43 = .ok (.iload_n 3, 1) := by decide +kernel
theorem dX7_cell_44 : decode cX7_cell 44 = .ok (.iastore, 1) := by decide +kernel
theorem dX7_cell_45 : decode cX7_cell 45 = .ok (.aload_n 0, 1) := by decide +kernel
theorem dX7_cell_46 : decode cX7_cell 46 = .ok (.invokevirtual 65, 3) := by decide +kernel
theorem dX7_cell_49 : decode cX7_cell 49 = .ok (.ireturn, 1) := by decide +kernel
theorem dX7_start_0 : decode cX7_start 0 = .ok (.aload_n 0, 1) := by decide +kernel
theorem dX7_start_1 : decode cX7_start 1 = .ok (.iload_n 1, 1) := by decide +kernel
theorem dX7_start_2 : decode cX7_start 2 = .ok (.invokevirtual 131, 3) := by decide +kernel
theorem dX7_start_5 : decode cX7_start 5 = .ok (.ifCond .eq 11, 3) := by decide +kernel
theorem dX7_start_8 : decode cX7_start 8 = .ok (.aload_n 0, 1) := by decide +kernel
theorem dX7_start_9 : decode cX7_start 9 = .ok (.iload_n 2, 1) := by decide +kernel
theorem dX7_start_10 : decode cX7_start 10 = .ok (.invokevirtual 150, 3) := by decide +kernel
theorem dX7_start_13 : decode cX7_start 13 = .ok (.ifCond .ne 6, 3) := by decide +kernel
theorem dX7_start_16 : decode cX7_start 16 = .ok (.ldc 153, 2) := by decide +kernel
theorem dX7_start_18 : decode cX7_start 18 = .ok (.ireturn, 1) := by decide +kernel
theorem dX7_start_19 : decode cX7_start 19 = .ok (.iload_n 3, 1) := by decide +kernel
theorem dX7_start_20 : decode cX7_start 20 = .ok (.invokestatic 169, 3) := by decide +kernel
theorem dX7_start_23 : decode cX7_start 23 = .ok (.ifCond .ne 6, 3) := by decide +kernel
theorem dX7_start_26 : decode cX7_start 26 = .ok (.ldc 149, 2) := by decide +kernel
theorem dX7_start_28 : decode cX7_start 28 = .ok (.ireturn, 1) := by decide +kernel
theorem dX7_start_29 : decode cX7_start 29 = .ok (.aload_n 0, 1) := by decide +kernel
theorem dX7_start_30 : decode cX7_start 30 = .ok (.invokevirtual 166, 3) := by decide +kernel
theorem dX7_start_33 : decode cX7_start 33 = .ok (.aload_n 0, 1) := by decide +kernel
theorem dX7_start_34 : decode cX7_start 34 = .ok (.getfield 7, 3) := by decide +kernel
theorem dX7_start_37 : decode cX7_start 37 = .ok (.bipush 67, 2) := by decide +kernel
theorem dX7_start_39 : decode cX7_start 39 = .ok (.iload_n 1, 1) := by decide +kernel
theorem dX7_start_40 : decode cX7_start 40 = .ok (.iadd, 1) := by decide +kernel
theorem dX7_start_41 : decode cX7_start 41 = .ok (.iload_n 2, 1) := by decide +kernel
theorem dX7_start_42 : decode cX7_start 42 = .ok (.iastore, 1) := by decide +kernel
theorem dX7_start_43 : decode cX7_start 43 = .ok (.aload_n 0, 1) := by decide +kernel
theorem dX7_start_44 : decode cX7_start 44 = .ok (.getfield 7, 3) := by decide +kernel
theorem dX7_start_47 : decode cX7_start 47 = .ok (.bipush 77, 2) := by decide +kernel
theorem dX7_start_49 : decode cX7_start 49 = .ok (.iload_n 1, 1) := by decide +kernel
theorem dX7_start_50 : decode cX7_start 50 = .ok (.iadd, 1) := by decide +kernel
theorem dX7_start_51 : decode cX7_start 51 = .ok (.iload_n 3, 1) := by decide +kernel
theorem dX7_start_52 : decode cX7_start 52 = .ok (.iastore, 1) := by decide +kernel
theorem dX7_start_53 : decode cX7_start 53 = .ok (.iconst 1, 1) := by decide +kernel
theorem dX7_start_54 : decode cX7_start 54 = .ok (.ireturn, 1) := by decide +kernel
theorem dX7_comes_0 : decode cX7_comes 0 = .ok (.bipush 107, 2) := by decide +kernel
theorem dX7_comes_2 : decode cX7_comes 2 = .ok (.bipush 13, 2) := by decide +kernel
theorem dX7_comes_4 : decode cX7_comes 4 = .ok (.aload_n 0, 1) := by decide +kernel
theorem dX7_comes_5 : decode cX7_comes 5 = .ok (.getfield 7, 3) := by decide +kernel
theorem dX7_comes_8 : decode cX7_comes 8 = .ok (.iconst 2, 1) := by decide +kernel
theorem dX7_comes_9 : decode cX7_comes 9 = .ok (.iaload, 1) := by decide +kernel
theorem dX7_comes_10 : decode cX7_comes 10 = .ok (.imul, 1) := by decide +kernel
theorem dX7_comes_11 : decode cX7_comes 11 = .ok (.iadd, 1) := by decide +kernel
theorem dX7_comes_12 : decode cX7_comes 12 = .ok (.istore 6, 2) := by decide +kernel
theorem dX7_comes_14 : decode cX7_comes 14 = .ok (.aload_n 0, 1) := by decide +kernel
theorem dX7_comes_15 : decode cX7_comes 15 = .ok (.getfield 7, 3) := by decide +kernel
theorem dX7_comes_18 : decode cX7_comes 18 = .ok (.iload 6, 2) := by decide +kernel
theorem dX7_comes_20 : decode cX7_comes 20 = .ok (.iconst 0, 1) := by decide +kernel
theorem dX7_comes_21 : decode cX7_comes 21 = .ok (.iadd, 1) := by decide +kernel
theorem dX7_comes_22 : decode cX7_comes 22 = .ok (.iload_n 1, 1) := by decide +kernel
theorem dX7_comes_23 : decode cX7_comes 23 = .ok (.iastore, 1) := by decide +kernel
theorem dX7_comes_24 : decode cX7_comes 24 = .ok (.aload_n 0, 1) := by decide +kernel
theorem dX7_comes_25 : decode cX7_comes 25 = .ok (.getfield 7, 3) := by decide +kernel
theorem dX7_comes_28 : decode cX7_comes 28 = .ok (.iload 6, 2) := by decide +kernel
theorem dX7_comes_30 : decode cX7_comes 30 = .ok (.iconst 1, 1) := by decide +kernel
theorem dX7_comes_31 : decode cX7_comes 31 = .ok (.iadd, 1) := by decide +kernel
theorem dX7_comes_32 : decode cX7_comes 32 = .ok (.iload_n 2, 1) := by decide +kernel
theorem dX7_comes_33 : decode cX7_comes 33 = .ok (.iastore, 1) := by decide +kernel
theorem dX7_comes_34 : decode cX7_comes 34 = .ok (.aload_n 0, 1) := by decide +kernel
theorem dX7_comes_35 : decode cX7_comes 35 = .ok (.getfield 7, 3) := by decide +kernel
theorem dX7_comes_38 : decode cX7_comes 38 = .ok (.iload 6, 2) := by decide +kernel
theorem dX7_comes_40 : decode cX7_comes 40 = .ok (.iconst 2, 1) := by decide +kernel
theorem dX7_comes_41 : decode cX7_comes 41 = .ok (.iadd, 1) := by decide +kernel
theorem dX7_comes_42 : decode cX7_comes 42 = .ok (.iload_n 3, 1) := by decide +kernel
theorem dX7_comes_43 : decode cX7_comes 43 = .ok (.iastore, 1) := by decide +kernel
theorem dX7_comes_44 : decode cX7_comes 44 = .ok (.aload_n 0, 1) := by decide +kernel
theorem dX7_comes_45 : decode cX7_comes 45 = .ok (.getfield 7, 3) := by decide +kernel
theorem dX7_comes_48 : decode cX7_comes 48 = .ok (.iload 6, 2) := by decide +kernel
theorem dX7_comes_50 : decode cX7_comes 50 = .ok (.iconst 3, 1) := by decide +kernel
theorem dX7_comes_51 : decode cX7_comes 51 = .ok (.iadd, 1) := by decide +kernel
theorem dX7_comes_52 : decode cX7_comes 52 = .ok (.iload 4, 2) := by decide +kernel
theorem dX7_comes_54 : decode cX7_comes 54 = .ok (.iastore, 1) := by decide +kernel
theorem dX7_comes_55 : decode cX7_comes 55 = .ok (.aload_n 0, 1) := by decide +kernel
theorem dX7_comes_56 : decode cX7_comes 56 = .ok (.getfield 7, 3) := by decide +kernel
theorem dX7_comes_59 : decode cX7_comes 59 = .ok (.iload 6, 2) := by decide +kernel
theorem dX7_comes_61 : decode cX7_comes 61 = .ok (.iconst 4, 1) := by decide +kernel
theorem dX7_comes_62 : decode cX7_comes 62 = .ok (.iadd, 1) := by decide +kernel
theorem dX7_comes_63 : decode cX7_comes 63 = .ok (.iload 5, 2) := by decide +kernel
theorem dX7_comes_65 : decode cX7_comes 65 = .ok (.iastore, 1) := by decide +kernel
theorem dX7_comes_66 : decode cX7_comes 66 = .ok (.iconst 0, 1) := by decide +kernel
theorem dX7_comes_67 : decode cX7_comes 67 = .ok (.istore 7, 2) := by decide +kernel
theorem dX7_comes_69 : decode cX7_comes 69 = .ok (.iload 7, 2) := by decide +kernel
theorem dX7_comes_71 : decode cX7_comes 71 = .ok (.bipush 8, 2) := by decide +kernel
theorem dX7_comes_73 : decode cX7_comes 73 = .ok (.if_icmp .ge 23, 3) := by decide +kernel
theorem dX7_comes_76 : decode cX7_comes 76 = .ok (.aload_n 0, 1) := by decide +kernel
theorem dX7_comes_77 : decode cX7_comes 77 = .ok (.getfield 7, 3) := by decide +kernel
theorem dX7_comes_80 : decode cX7_comes 80 = .ok (.iload 6, 2) := by decide +kernel
theorem dX7_comes_82 : decode cX7_comes 82 = .ok (.iconst 5, 1) := by decide +kernel
theorem dX7_comes_83 : decode cX7_comes 83 = .ok (.iadd, 1) := by decide +kernel
theorem dX7_comes_84 : decode cX7_comes 84 = .ok (.iload 7, 2) := by decide +kernel
theorem dX7_comes_86 : decode cX7_comes 86 = .ok (.iadd, 1) := by decide +kernel
theorem dX7_comes_87 : decode cX7_comes 87 = .ok (.iload 7, 2) := by decide +kernel
theorem dX7_comes_89 : decode cX7_comes 89 = .ok (.iastore, 1) := by decide +kernel
theorem dX7_comes_90 : decode cX7_comes 90 = .ok (.iinc 7 1, 3) := by decide +kernel
theorem dX7_comes_93 : decode cX7_comes 93 = .ok (.goto (-24), 3) := by decide +kernel
theorem dX7_comes_96 : decode cX7_comes 96 = .ok (.aload_n 0, 1) := by decide +kernel
theorem dX7_comes_97 : decode cX7_comes 97 = .ok (.getfield 7, 3) := by decide +kernel
theorem dX7_comes_100 : decode cX7_comes 100 = .ok (.iconst 2, 1) := by decide +kernel
theorem dX7_comes_101 : decode cX7_comes 101 = .ok (.dup2, 1) := by decide +kernel
theorem dX7_comes_102 : decode cX7_comes 102 = .ok (.iaload, 1) := by decide +kernel
theorem dX7_comes_103 : decode cX7_comes 103 = .ok (.iconst 1, 1) := by decide +kernel
theorem dX7_comes_104 : decode cX7_comes 104 = .ok (.iadd, 1) := by decide +kernel
theorem dX7_comes_105 : decode cX7_comes 105 = .ok (.iastore, 1) := by decide +kernel
theorem dX7_comes_106 : decode cX7_comes 106 = .ok (.return_, 1) := by decide +kernel
theorem dX7_way_0 : decode cX7_way 0 = .ok (.aload_n 0, 1) := by decide +kernel
theorem dX7_way_1 : decode cX7_way 1 = .ok (.iload_n 1, 1) := by decide +kernel
theorem dX7_way_2 : decode cX7_way 2 = .ok (.invokevirtual 131, 3) := by decide +kernel
theorem dX7_way_5 : decode cX7_way 5 = .ok (.ifCond .eq 11, 3) := by decide +kernel
theorem dX7_way_8 : decode cX7_way 8 = .ok (.aload_n 0, 1) := by decide +kernel
theorem dX7_way_9 : decode cX7_way 9 = .ok (.iload_n 2, 1) := by decide +kernel
theorem dX7_way_10 : decode cX7_way 10 = .ok (.invokevirtual 131, 3) := by decide +kernel
theorem dX7_way_13 : decode cX7_way 13 = .ok (.ifCond .ne 6, 3) := by decide +kernel
theorem dX7_way_16 : decode cX7_way 16 = .ok (.ldc 153, 2) := by decide +kernel
theorem dX7_way_18 : decode cX7_way 18 = .ok (.ireturn, 1) := by decide +kernel
theorem dX7_way_19 : decode cX7_way 19 = .ok (.aload_n 0, 1) := by decide +kernel
theorem dX7_way_20 : decode cX7_way 20 = .ok (.getfield 7, 3) := by decide +kernel
theorem dX7_way_23 : decode cX7_way 23 = .ok (.iconst 2, 1) := by decide +kernel
theorem dX7_way_24 : decode cX7_way 24 = .ok (.iaload, 1) := by decide +kernel
theorem dX7_way_25 : decode cX7_way 25 = .ok (.bipush 20, 2) := by decide +kernel
theorem dX7_way_27 : decode cX7_way 27 = .ok (.if_icmp .ne 6, 3) := by decide +kernel
theorem dX7_way_30 : decode cX7_way 30 = .ok (.ldc 172, 2) := by decide +kernel
theorem dX7_way_32 : decode cX7_way 32 = .ok (.ireturn, 1) := by decide +kernel
theorem dX7_way_33 : decode cX7_way 33 = .ok (.aload_n 0, 1) := by decide +kernel
theorem dX7_way_34 : decode cX7_way 34 = .ok (.invokevirtual 166, 3) := by decide +kernel
theorem dX7_way_37 : decode cX7_way 37 = .ok (.aload_n 0, 1) := by decide +kernel
theorem dX7_way_38 : decode cX7_way 38 = .ok (.iload_n 1, 1) := by decide +kernel
theorem dX7_way_39 : decode cX7_way 39 = .ok (.iload_n 2, 1) := by decide +kernel
theorem dX7_way_40 : decode cX7_way 40 = .ok (.iconst 0, 1) := by decide +kernel
theorem dX7_way_41 : decode cX7_way 41 = .ok (.iconst 0, 1) := by decide +kernel
theorem dX7_way_42 : decode cX7_way 42 = .ok (.iconst 0, 1) := by decide +kernel
theorem dX7_way_43 : decode cX7_way 43 = .ok (.invokevirtual 173, 3) := by decide +kernel
theorem dX7_way_46 : decode cX7_way 46 = .ok (.aload_n 0, 1) := by decide +kernel
theorem dX7_way_47 : decode cX7_way 47 = .ok (.getfield 7, 3) := by decide +kernel
theorem dX7_way_50 : decode cX7_way 50 = .ok (.iconst 2, 1) := by decide +kernel
theorem dX7_way_51 : decode cX7_way 51 = .ok (.iaload, 1) := by decide +kernel
theorem dX7_way_52 : decode cX7_way 52 = .ok (.iconst 1, 1) := by decide +kernel
theorem dX7_way_53 : decode cX7_way 53 = .ok (.isub, 1) := by decide +kernel
theorem dX7_way_54 : decode cX7_way 54 = .ok (.ireturn, 1) := by decide +kernel
theorem dX7_drop_0 : decode cX7_drop 0 = .ok (.aload_n 0, 1) := by decide +kernel
theorem dX7_drop_1 : decode cX7_drop 1 = .ok (.iload_n 1, 1) := by decide +kernel
theorem dX7_drop_2 : decode cX7_drop 2 = .ok (.invokevirtual 160, 3) := by decide +kernel
theorem dX7_drop_5 : decode cX7_drop 5 = .ok (.ifCond .ne 6, 3) := by decide +kernel
theorem dX7_drop_8 : decode cX7_drop 8 = .ok (.ldc 153, 2) := by decide +kernel
theorem dX7_drop_10 : decode cX7_drop 10 = .ok (.ireturn, 1) := by decide +kernel
theorem dX7_drop_11 : decode cX7_drop 11 = .ok (.aload_n 0, 1) := by decide +kernel
theorem dX7_drop_12 : decode cX7_drop 12 = .ok (.invokevirtual 166, 3) := by decide +kernel
theorem dX7_drop_15 : decode cX7_drop 15 = .ok (.bipush 107, 2) := by decide +kernel
theorem dX7_drop_17 : decode cX7_drop 17 = .ok (.bipush 13, 2) := by decide +kernel
theorem dX7_drop_19 : decode cX7_drop 19 = .ok (.iload_n 1, 1) := by decide +kernel
theorem dX7_drop_20 : decode cX7_drop 20 = .ok (.imul, 1) := by decide +kernel
theorem dX7_drop_21 : decode cX7_drop 21 = .ok (.iadd, 1) := by decide +kernel
theorem dX7_drop_22 : decode cX7_drop 22 = .ok (.istore_n 2, 1) := by decide +kernel
theorem dX7_drop_23 : decode cX7_drop 23 = .ok (.iload_n 2, 1) := by decide +kernel
theorem dX7_drop_24 : decode cX7_drop 24 = .ok (.bipush 13, 2) := by decide +kernel
theorem dX7_drop_26 : decode cX7_drop 26 = .ok (.iadd, 1) := by decide +kernel
theorem dX7_drop_27 : decode cX7_drop 27 = .ok (.sipush 367, 3) := by decide +kernel
theorem dX7_drop_30 : decode cX7_drop 30 = .ok (.if_icmp .ge 24, 3) := by decide +kernel
theorem dX7_drop_33 : decode cX7_drop 33 = .ok (.aload_n 0, 1) := by decide +kernel
theorem dX7_drop_34 : decode cX7_drop 34 = .ok (.getfield 7, 3) := by decide +kernel
theorem dX7_drop_37 : decode cX7_drop 37 = .ok (.iload_n 2, 1) := by decide +kernel
theorem dX7_drop_38 : decode cX7_drop 38 = .ok (.aload_n 0, 1) := by decide +kernel
theorem dX7_drop_39 : decode cX7_drop 39 = .ok (.getfield 7, 3) := by decide +kernel
theorem dX7_drop_42 : decode cX7_drop 42 = .ok (.iload_n 2, 1) := by decide +kernel
theorem dX7_drop_43 : decode cX7_drop 43 = .ok (.bipush 13, 2) := by decide +kernel
theorem dX7_drop_45 : decode cX7_drop 45 = .ok (.iadd, 1) := by decide +kernel
theorem dX7_drop_46 : decode cX7_drop 46 = .ok (.iaload, 1) := by decide +kernel
theorem dX7_drop_47 : decode cX7_drop 47 = .ok (.iastore, 1) := by decide +kernel
theorem dX7_drop_48 : decode cX7_drop 48 = .ok (.iinc 2 1, 3) := by decide +kernel
theorem dX7_drop_51 : decode cX7_drop 51 = .ok (.goto (-28), 3) := by decide +kernel
theorem dX7_drop_54 : decode cX7_drop 54 = .ok (.aload_n 0, 1) := by decide +kernel
theorem dX7_drop_55 : decode cX7_drop 55 = .ok (.getfield 7, 3) := by decide +kernel
theorem dX7_drop_58 : decode cX7_drop 58 = .ok (.iconst 2, 1) := by decide +kernel
theorem dX7_drop_59 : decode cX7_drop 59 = .ok (.dup2, 1) := by decide +kernel
theorem dX7_drop_60 : decode cX7_drop 60 = .ok (.iaload, 1) := by decide +kernel
theorem dX7_drop_61 : decode cX7_drop 61 = .ok (.iconst 1, 1) := by decide +kernel
theorem dX7_drop_62 : decode cX7_drop 62 = .ok (.isub, 1) := by decide +kernel
theorem dX7_drop_63 : decode cX7_drop 63 = .ok (.iastore, 1) := by decide +kernel
theorem dX7_drop_64 : decode cX7_drop 64 = .ok (.aload_n 0, 1) := by decide +kernel
theorem dX7_drop_65 : decode cX7_drop 65 = .ok (.getfield 7, 3) := by decide +kernel
theorem dX7_drop_68 : decode cX7_drop 68 = .ok (.iconst 2, 1) := by decide +kernel
theorem dX7_drop_69 : decode cX7_drop 69 = .ok (.iaload, 1) := by decide +kernel
theorem dX7_drop_70 : decode cX7_drop 70 = .ok (.ireturn, 1) := by decide +kernel
theorem dX7_map_0 : decode cX7_map 0 = .ok (.aload_n 0, 1) := by decide +kernel
theorem dX7_map_1 : decode cX7_map 1 = .ok (.iload_n 1, 1) := by decide +kernel
theorem dX7_map_2 : decode cX7_map 2 = .ok (.invokevirtual 160, 3) := by decide +kernel
theorem dX7_map_5 : decode cX7_map 5 = .ok (.ifCond .eq 19, 3) := by decide +kernel
theorem dX7_map_8 : decode cX7_map 8 = .ok (.aload_n 0, 1) := by decide +kernel
theorem dX7_map_9 : decode cX7_map 9 = .ok (.iload_n 2, 1) := by decide +kernel
theorem dX7_map_10 : decode cX7_map 10 = .ok (.invokevirtual 150, 3) := by decide +kernel
theorem dX7_map_13 : decode cX7_map 13 = .ok (.ifCond .eq 11, 3) := by decide +kernel
theorem dX7_map_16 : decode cX7_map 16 = .ok (.aload_n 0, 1) := by decide +kernel
theorem dX7_map_17 : decode cX7_map 17 = .ok (.iload_n 3, 1) := by decide +kernel
theorem dX7_map_18 : decode cX7_map 18 = .ok (.invokevirtual 150, 3) := by decide +kernel
theorem dX7_map_21 : decode cX7_map 21 = .ok (.ifCond .ne 6, 3) := by decide +kernel
theorem dX7_map_24 : decode cX7_map 24 = .ok (.ldc 153, 2) := by decide +kernel
theorem dX7_map_26 : decode cX7_map 26 = .ok (.ireturn, 1) := by decide +kernel
theorem dX7_map_27 : decode cX7_map 27 = .ok (.aload_n 0, 1) := by decide +kernel
theorem dX7_map_28 : decode cX7_map 28 = .ok (.invokevirtual 166, 3) := by decide +kernel
theorem dX7_map_31 : decode cX7_map 31 = .ok (.aload_n 0, 1) := by decide +kernel
theorem dX7_map_32 : decode cX7_map 32 = .ok (.iload_n 1, 1) := by decide +kernel
theorem dX7_map_33 : decode cX7_map 33 = .ok (.iconst 5, 1) := by decide +kernel
theorem dX7_map_34 : decode cX7_map 34 = .ok (.iload_n 2, 1) := by decide +kernel
theorem dX7_map_35 : decode cX7_map 35 = .ok (.iadd, 1) := by decide +kernel
theorem dX7_map_36 : decode cX7_map 36 = .ok (.invokevirtual 58, 3) := by decide +kernel
theorem dX7_map_39 : decode cX7_map 39 = .ok (.istore 4, 2) := by decide +kernel
theorem dX7_map_41 : decode cX7_map 41 = .ok (.aload_n 0, 1) := by decide +kernel
theorem dX7_map_42 : decode cX7_map 42 = .ok (.getfield 7, 3) := by decide +kernel
theorem dX7_map_45 : decode cX7_map 45 = .ok (.bipush 107, 2) := by decide +kernel
theorem dX7_map_47 : decode cX7_map 47 = .ok (.bipush 13, 2) := by decide +kernel
theorem dX7_map_49 : decode cX7_map 49 = .ok (.iload_n 1, 1) := by decide +kernel
theorem dX7_map_50 : decode cX7_map 50 = .ok (.imul, 1) := by decide +kernel
theorem dX7_map_51 : decode cX7_map 51 = .ok (.iadd, 1) := by decide +kernel
theorem dX7_map_52 : decode cX7_map 52 = .ok (.iconst 5, 1) := by decide +kernel
theorem dX7_map_53 : decode cX7_map 53 = .ok (.iadd, 1) := by decide +kernel
theorem dX7_map_54 : decode cX7_map 54 = .ok (.iload_n 2, 1) := by decide +kernel
theorem dX7_map_55 : decode cX7_map 55 = .ok (.iadd, 1) := by decide +kernel
theorem dX7_map_56 : decode cX7_map 56 = .ok (.iload_n 3, 1) := by decide +kernel
theorem dX7_map_57 : decode cX7_map 57 = .ok (.iastore, 1) := by decide +kernel
theorem dX7_map_58 : decode cX7_map 58 = .ok (.iload 4, 2) := by decide +kernel
theorem dX7_map_60 : decode cX7_map 60 = .ok (.ireturn, 1) := by decide +kernel
theorem dX7_marks_0 : decode cX7_marks 0 = .ok (.aload_n 0, 1) := by decide +kernel
theorem dX7_marks_1 : decode cX7_marks 1 = .ok (.iload_n 1, 1) := by decide +kernel
theorem dX7_marks_2 : decode cX7_marks 2 = .ok (.invokevirtual 160, 3) := by decide +kernel
theorem dX7_marks_5 : decode cX7_marks 5 = .ok (.ifCond .ne 6, 3) := by decide +kernel
theorem dX7_marks_8 : decode cX7_marks 8 = .ok (.ldc 153, 2) := by decide +kernel
theorem dX7_marks_10 : decode cX7_marks 10 = .ok (.ireturn, 1) := by decide +kernel
theorem dX7_marks_11 : decode cX7_marks 11 = .ok (.iload_n 2, 1) := by decide +kernel
theorem dX7_marks_12 : decode cX7_marks 12 = .ok (.invokestatic 169, 3) := by decide +kernel
theorem dX7_marks_15 : decode cX7_marks 15 = .ok (.ifCond .eq 10, 3) := by decide +kernel
theorem dX7_marks_18 : decode cX7_marks 18 = .ok (.iload_n 3, 1) := by decide +kernel
theorem dX7_marks_19 : decode cX7_marks 19 = .ok (.invokestatic 169, 3) := by decide +kernel
theorem dX7_marks_22 : decode cX7_marks 22 = .ok (.ifCond .ne 6, 3) := by decide +kernel
theorem dX7_marks_25 : decode cX7_marks 25 = .ok (.ldc 149, 2) := by decide +kernel
theorem dX7_marks_27 : decode cX7_marks 27 = .ok (.ireturn, 1) := by decide +kernel
theorem dX7_marks_28 : decode cX7_marks 28 = .ok (.aload_n 0, 1) := by decide +kernel
theorem dX7_marks_29 : decode cX7_marks 29 = .ok (.invokevirtual 166, 3) := by decide +kernel
theorem dX7_marks_32 : decode cX7_marks 32 = .ok (.aload_n 0, 1) := by decide +kernel
theorem dX7_marks_33 : decode cX7_marks 33 = .ok (.getfield 7, 3) := by decide +kernel
theorem dX7_marks_36 : decode cX7_marks 36 = .ok (.bipush 107, 2) := by decide +kernel
theorem dX7_marks_38 : decode cX7_marks 38 = .ok (.bipush 13, 2) := by decide +kernel
theorem dX7_marks_40 : decode cX7_marks 40 = .ok (.iload_n 1, 1) := by decide +kernel
theorem dX7_marks_41 : decode cX7_marks 41 = .ok (.imul, 1) := by decide +kernel
theorem dX7_marks_42 : decode cX7_marks 42 = .ok (.iadd, 1) := by decide +kernel
theorem dX7_marks_43 : decode cX7_marks 43 = .ok (.iconst 2, 1) := by decide +kernel
theorem dX7_marks_44 : decode cX7_marks 44 = .ok (.iadd, 1) := by decide +kernel
theorem dX7_marks_45 : decode cX7_marks 45 = .ok (.iload_n 2, 1) := by decide +kernel
theorem dX7_marks_46 : decode cX7_marks 46 = .ok (.iastore, 1) := by decide +kernel
theorem dX7_marks_47 : decode cX7_marks 47 = .ok (.aload_n 0, 1) := by decide +kernel
theorem dX7_marks_48 : decode cX7_marks 48 = .ok (.getfield 7, 3) := by decide +kernel
theorem dX7_marks_51 : decode cX7_marks 51 = .ok (.bipush 107, 2) := by decide +kernel
theorem dX7_marks_53 : decode cX7_marks 53 = .ok (.bipush 13, 2) := by decide +kernel
theorem dX7_marks_55 : decode cX7_marks 55 = .ok (.iload_n 1, 1) := by decide +kernel
theorem dX7_marks_56 : decode cX7_marks 56 = .ok (.imul, 1) := by decide +kernel
theorem dX7_marks_57 : decode cX7_marks 57 = .ok (.iadd, 1) := by decide +kernel
theorem dX7_marks_58 : decode cX7_marks 58 = .ok (.iconst 3, 1) := by decide +kernel
theorem dX7_marks_59 : decode cX7_marks 59 = .ok (.iadd, 1) := by decide +kernel
theorem dX7_marks_60 : decode cX7_marks 60 = .ok (.iload_n 3, 1) := by decide +kernel
theorem dX7_marks_61 : decode cX7_marks 61 = .ok (.iastore, 1) := by decide +kernel
theorem dX7_marks_62 : decode cX7_marks 62 = .ok (.iconst 1, 1) := by decide +kernel
theorem dX7_marks_63 : decode cX7_marks 63 = .ok (.ireturn, 1) := by decide +kernel
theorem dX7_gate_0 : decode cX7_gate 0 = .ok (.aload_n 0, 1) := by decide +kernel
theorem dX7_gate_1 : decode cX7_gate 1 = .ok (.iload_n 1, 1) := by decide +kernel
theorem dX7_gate_2 : decode cX7_gate 2 = .ok (.invokevirtual 160, 3) := by decide +kernel
theorem dX7_gate_5 : decode cX7_gate 5 = .ok (.ifCond .eq 11, 3) := by decide +kernel
theorem dX7_gate_8 : decode cX7_gate 8 = .ok (.aload_n 0, 1) := by decide +kernel
theorem dX7_gate_9 : decode cX7_gate 9 = .ok (.iload_n 2, 1) := by decide +kernel
theorem dX7_gate_10 : decode cX7_gate 10 = .ok (.invokevirtual 150, 3) := by decide +kernel
theorem dX7_gate_13 : decode cX7_gate 13 = .ok (.ifCond .ne 6, 3) := by decide +kernel
theorem dX7_gate_16 : decode cX7_gate 16 = .ok (.ldc 153, 2) := by decide +kernel
theorem dX7_gate_18 : decode cX7_gate 18 = .ok (.ireturn, 1) := by decide +kernel
theorem dX7_gate_19 : decode cX7_gate 19 = .ok (.aload_n 0, 1) := by decide +kernel
theorem dX7_gate_20 : decode cX7_gate 20 = .ok (.invokevirtual 166, 3) := by decide +kernel
theorem dX7_gate_23 : decode cX7_gate 23 = .ok (.aload_n 0, 1) := by decide +kernel
theorem dX7_gate_24 : decode cX7_gate 24 = .ok (.iload_n 1, 1) := by decide +kernel
theorem dX7_gate_25 : decode cX7_gate 25 = .ok (.iconst 4, 1) := by decide +kernel
theorem dX7_gate_26 : decode cX7_gate 26 = .ok (.invokevirtual 58, 3) := by decide +kernel
theorem dX7_gate_29 : decode cX7_gate 29 = .ok (.istore_n 3, 1) := by decide +kernel
theorem dX7_gate_30 : decode cX7_gate 30 = .ok (.aload_n 0, 1) := by decide +kernel
theorem dX7_gate_31 : decode cX7_gate 31 = .ok (.getfield 7, 3) := by decide +kernel
theorem dX7_gate_34 : decode cX7_gate 34 = .ok (.bipush 107, 2) := by decide +kernel
theorem dX7_gate_36 : decode cX7_gate 36 = .ok (.bipush 13, 2) := by decide +kernel
theorem dX7_gate_38 : decode cX7_gate 38 = .ok (.iload_n 1, 1) := by decide +kernel
theorem dX7_gate_39 : decode cX7_gate 39 = .ok (.imul, 1) := by decide +kernel
theorem dX7_gate_40 : decode cX7_gate 40 = .ok (.iadd, 1) := by decide +kernel
theorem dX7_gate_41 : decode cX7_gate 41 = .ok (.iconst 4, 1) := by decide +kernel
theorem dX7_gate_42 : decode cX7_gate 42 = .ok (.iadd, 1) := by decide +kernel
theorem dX7_gate_43 : decode cX7_gate 43 = .ok (.iload_n 2, 1) := by decide +kernel
theorem dX7_gate_44 : decode cX7_gate 44 = .ok (.iastore, 1) := by decide +kernel
theorem dX7_gate_45 : decode cX7_gate 45 = .ok (.iload_n 3, 1) := by decide +kernel
theorem dX7_gate_46 : decode cX7_gate 46 = .ok (.ireturn, 1) := by decide +kernel
theorem dX7_write_0 : decode cX7_write 0 = .ok (.aload_n 0, 1) := by decide +kernel
theorem dX7_write_1 : decode cX7_write 1 = .ok (.iload_n 1, 1) := by decide +kernel
theorem dX7_write_2 : decode cX7_write 2 = .ok (.invokevirtual 131, 3) := by decide +kernel
theorem dX7_write_5 : decode cX7_write 5 = .ok (.ifCond .eq 11, 3) := by decide +kernel
theorem dX7_write_8 : decode cX7_write 8 = .ok (.aload_n 0, 1) := by decide +kernel
theorem dX7_write_9 : decode cX7_write 9 = .ok (.iload_n 2, 1) := by decide +kernel
theorem dX7_write_10 : decode cX7_write 10 = .ok (.invokevirtual 150, 3) := by decide +kernel
theorem dX7_write_13 : decode cX7_write 13 = .ok (.ifCond .ne 6, 3) := by decide +kernel
theorem dX7_write_16 : decode cX7_write 16 = .ok (.ldc 153, 2) := by decide +kernel
theorem dX7_write_18 : decode cX7_write 18 = .ok (.ireturn, 1) := by decide +kernel
theorem dX7_write_19 : decode cX7_write 19 = .ok (.iload_n 3, 1) := by decide +kernel
theorem dX7_write_20 : decode cX7_write 20 = .ok (.invokestatic 169, 3) := by decide +kernel
theorem dX7_write_23 : decode cX7_write 23 = .ok (.ifCond .ne 6, 3) := by decide +kernel
theorem dX7_write_26 : decode cX7_write 26 = .ok (.ldc 149, 2) := by decide +kernel
theorem dX7_write_28 : decode cX7_write 28 = .ok (.ireturn, 1) := by decide +kernel
theorem dX7_write_29 : decode cX7_write 29 = .ok (.aload_n 0, 1) := by decide +kernel
theorem dX7_write_30 : decode cX7_write 30 = .ok (.iload_n 1, 1) := by decide +kernel
theorem dX7_write_31 : decode cX7_write 31 = .ok (.invokevirtual 109, 3) := by decide +kernel
theorem dX7_write_34 : decode cX7_write 34 = .ok (.ifCond .ne 6, 3) := by decide +kernel
theorem dX7_write_37 : decode cX7_write 37 = .ok (.ldc 177, 2) := by decide +kernel
theorem dX7_write_39 : decode cX7_write 39 = .ok (.ireturn, 1) := by decide +kernel
theorem dX7_write_40 : decode cX7_write 40 = .ok (.aload_n 0, 1) := by decide +kernel
theorem dX7_write_41 : decode cX7_write 41 = .ok (.invokevirtual 166, 3) := by decide +kernel
theorem dX7_write_44 : decode cX7_write 44 = .ok (.aload_n 0, 1) := by decide +kernel
theorem dX7_write_45 : decode cX7_write 45 = .ok (.getfield 7, 3) := by decide +kernel
theorem dX7_write_48 : decode cX7_write 48 = .ok (.bipush 87, 2) := by decide +kernel
theorem dX7_write_50 : decode cX7_write 50 = .ok (.iload_n 1, 1) := by decide +kernel
theorem dX7_write_51 : decode cX7_write 51 = .ok (.iadd, 1) := by decide +kernel
theorem dX7_write_52 : decode cX7_write 52 = .ok (.iload_n 2, 1) := by decide +kernel
theorem dX7_write_53 : decode cX7_write 53 = .ok (.iastore, 1) := by decide +kernel
theorem dX7_write_54 : decode cX7_write 54 = .ok (.aload_n 0, 1) := by decide +kernel
theorem dX7_write_55 : decode cX7_write 55 = .ok (.getfield 7, 3) := by decide +kernel
theorem dX7_write_58 : decode cX7_write 58 = .ok (.bipush 97, 2) := by decide +kernel
theorem dX7_write_60 : decode cX7_write 60 = .ok (.iload_n 1, 1) := by decide +kernel
theorem dX7_write_61 : decode cX7_write 61 = .ok (.iadd, 1) := by decide +kernel
theorem dX7_write_62 : decode cX7_write 62 = .ok (.iload_n 3, 1) := by decide +kernel
theorem dX7_write_63 : decode cX7_write 63 = .ok (.iastore, 1) := by decide +kernel
theorem dX7_write_64 : decode cX7_write 64 = .ok (.aload_n 0, 1) := by decide +kernel
theorem dX7_write_65 : decode cX7_write 65 = .ok (.invokevirtual 125, 3) := by decide +kernel
theorem dX7_write_68 : decode cX7_write 68 = .ok (.ireturn, 1) := by decide +kernel
theorem dX7_copy_0 : decode cX7_copy 0 = .ok (.aload_n 0, 1) := by decide +kernel
theorem dX7_copy_1 : decode cX7_copy 1 = .ok (.invokevirtual 121, 3) := by decide +kernel
theorem dX7_copy_4 : decode cX7_copy 4 = .ok (.ifCond .eq 16, 3) := by decide +kernel
theorem dX7_copy_7 : decode cX7_copy 7 = .ok (.aload_n 0, 1) := by decide +kernel
theorem dX7_copy_8 : decode cX7_copy 8 = .ok (.aload_n 0, 1) := by decide +kernel
theorem dX7_copy_9 : decode cX7_copy 9 = .ok (.getfield 26, 3) := by decide +kernel
theorem dX7_copy_12 : decode cX7_copy 12 = .ok (.iconst 0, 1) := by decide +kernel
theorem dX7_copy_13 : decode cX7_copy 13 = .ok (.iconst (-1), 1) := by decide +kernel
theorem dX7_copy_14 : decode cX7_copy 14 = .ok (.invokevirtual 102, 3) := by decide +kernel
theorem dX7_copy_17 : decode cX7_copy 17 = .ok (.ifCond .ge 6, 3) := by decide +kernel
theorem dX7_copy_20 : decode cX7_copy 20 = .ok (.ldc 177, 2) := by decide +kernel
theorem dX7_copy_22 : decode cX7_copy 22 = .ok (.ireturn, 1) := by decide +kernel
theorem dX7_copy_23 : decode cX7_copy 23 = .ok (.aload_n 0, 1) := by decide +kernel
theorem dX7_copy_24 : decode cX7_copy 24 = .ok (.invokevirtual 166, 3) := by decide +kernel
theorem dX7_copy_27 : decode cX7_copy 27 = .ok (.iconst 0, 1) := by decide +kernel
theorem dX7_copy_28 : decode cX7_copy 28 = .ok (.istore_n 1, 1) := by decide +kernel
theorem dX7_copy_29 : decode cX7_copy 29 = .ok (.iconst 0, 1) := by decide +kernel
theorem dX7_copy_30 : decode cX7_copy 30 = .ok (.istore_n 2, 1) := by decide +kernel
theorem dX7_copy_31 : decode cX7_copy 31 = .ok (.iload_n 2, 1) := by decide +kernel
theorem dX7_copy_32 : decode cX7_copy 32 = .ok (.aload_n 0, 1) := by decide +kernel
theorem dX7_copy_33 : decode cX7_copy 33 = .ok (.getfield 7, 3) := by decide +kernel
theorem dX7_copy_36 : decode cX7_copy 36 = .ok (.iconst 1, 1) := by decide +kernel
theorem dX7_copy_37 : decode cX7_copy 37 = .ok (.iaload, 1) := by decide +kernel
theorem dX7_copy_38 : decode cX7_copy 38 = .ok (.if_icmp .ge 53, 3) := by decide +kernel
theorem dX7_copy_41 : decode cX7_copy 41 = .ok (.aload_n 0, 1) := by decide +kernel
theorem dX7_copy_42 : decode cX7_copy 42 = .ok (.iload_n 2, 1) := by decide +kernel
theorem dX7_copy_43 : decode cX7_copy 43 = .ok (.invokevirtual 109, 3) := by decide +kernel
theorem dX7_copy_46 : decode cX7_copy 46 = .ok (.ifCond .eq 39, 3) := by decide +kernel
theorem dX7_copy_49 : decode cX7_copy 49 = .ok (.aload_n 0, 1) := by decide +kernel
theorem dX7_copy_50 : decode cX7_copy 50 = .ok (.getfield 7, 3) := by decide +kernel
theorem dX7_copy_53 : decode cX7_copy 53 = .ok (.bipush 87, 2) := by decide +kernel
theorem dX7_copy_55 : decode cX7_copy 55 = .ok (.iload_n 2, 1) := by decide +kernel
theorem dX7_copy_56 : decode cX7_copy 56 = .ok (.iadd, 1) := by decide +kernel
theorem dX7_copy_57 : decode cX7_copy 57 = .ok (.aload_n 0, 1) := by decide +kernel
theorem dX7_copy_58 : decode cX7_copy 58 = .ok (.getfield 26, 3) := by decide +kernel
theorem dX7_copy_61 : decode cX7_copy 61 = .ok (.iload_n 2, 1) := by decide +kernel
theorem dX7_copy_62 : decode cX7_copy 62 = .ok (.iaload, 1) := by decide +kernel
theorem dX7_copy_63 : decode cX7_copy 63 = .ok (.iastore, 1) := by decide +kernel
theorem dX7_copy_64 : decode cX7_copy 64 = .ok (.aload_n 0, 1) := by decide +kernel
theorem dX7_copy_65 : decode cX7_copy 65 = .ok (.getfield 7, 3) := by decide +kernel
theorem dX7_copy_68 : decode cX7_copy 68 = .ok (.bipush 97, 2) := by decide +kernel
theorem dX7_copy_70 : decode cX7_copy 70 = .ok (.iload_n 2, 1) := by decide +kernel
theorem dX7_copy_71 : decode cX7_copy 71 = .ok (.iadd, 1) := by decide +kernel
theorem dX7_copy_72 : decode cX7_copy 72 = .ok (.aload_n 0, 1) := by decide +kernel
theorem dX7_copy_73 : decode cX7_copy 73 = .ok (.getfield 26, 3) := by decide +kernel
theorem dX7_copy_76 : decode cX7_copy 76 = .ok (.bipush 10, 2) := by decide +kernel
theorem dX7_copy_78 : decode cX7_copy 78 = .ok (.iload_n 2, 1) := by decide +kernel
theorem dX7_copy_79 : decode cX7_copy 79 = .ok (.iadd, 1) := by decide +kernel
theorem dX7_copy_80 : decode cX7_copy 80 = .ok (.iaload, 1) := by decide +kernel
theorem dX7_copy_81 : decode cX7_copy 81 = .ok (.iastore, 1) := by decide +kernel
theorem dX7_copy_82 : decode cX7_copy 82 = .ok (.iinc 1 1, 3) := by decide +kernel
theorem dX7_copy_85 : decode cX7_copy 85 = .ok (.iinc 2 1, 3) := by decide +kernel
theorem dX7_copy_88 : decode cX7_copy 88 = .ok (.goto (-57), 3) := by decide +kernel
theorem dX7_copy_91 : decode cX7_copy 91 = .ok (.iload_n 1, 1) := by decide +kernel
theorem dX7_copy_92 : decode cX7_copy 92 = .ok (.ireturn, 1) := by decide +kernel
theorem dX7_draw_0 : decode cX7_draw 0 = .ok (.aload_n 0, 1) := by decide +kernel
theorem dX7_draw_1 : decode cX7_draw 1 = .ok (.aload_n 0, 1) := by decide +kernel
theorem dX7_draw_2 : decode cX7_draw 2 = .ok (.getfield 178, 3) := by decide +kernel
theorem dX7_draw_5 : decode cX7_draw 5 = .ok (.i2l, 1) := by decide +kernel
theorem dX7_draw_6 : decode cX7_draw 6 = .ok (.ldc2_w 181, 3) := by decide +kernel
theorem dX7_draw_9 : decode cX7_draw 9 = .ok (.lmul, 1) := by decide +kernel
theorem dX7_draw_10 : decode cX7_draw 10 = .ok (.ldc2_w 183, 3) := by decide +kernel
theorem dX7_draw_13 : decode cX7_draw 13 = .ok (.ladd, 1) := by decide +kernel
theorem dX7_draw_14 : decode cX7_draw 14 = .ok (.ldc2_w 185, 3) := by decide +kernel
theorem dX7_draw_17 : decode cX7_draw 17 = .ok (.lrem, 1) := by decide +kernel
theorem dX7_draw_18 : decode cX7_draw 18 = .ok (.l2i, 1) := by decide +kernel
theorem dX7_draw_19 : decode cX7_draw 19 = .ok (.putfield 178, 3) := by decide +kernel
theorem dX7_draw_22 : decode cX7_draw 22 = .ok (.aload_n 0, 1) := by decide +kernel
theorem dX7_draw_23 : decode cX7_draw 23 = .ok (.getfield 178, 3) := by decide +kernel
theorem dX7_draw_26 : decode cX7_draw 26 = .ok (.ldc 187, 2) := by decide +kernel
theorem dX7_draw_28 : decode cX7_draw 28 = .ok (.idiv, 1) := by decide +kernel
theorem dX7_draw_29 : decode cX7_draw 29 = .ok (.iload_n 1, 1) := by decide +kernel
theorem dX7_draw_30 : decode cX7_draw 30 = .ok (.irem, 1) := by decide +kernel
theorem dX7_draw_31 : decode cX7_draw 31 = .ok (.ireturn, 1) := by decide +kernel
theorem dX7_drift_0 : decode cX7_drift 0 = .ok (.iload_n 1, 1) := by decide +kernel
theorem dX7_drift_1 : decode cX7_drift 1 = .ok (.iconst 1, 1) := by decide +kernel
theorem dX7_drift_2 : decode cX7_drift 2 = .ok (.bipush 16, 2) := by decide +kernel
theorem dX7_drift_4 : decode cX7_drift 4 = .ok (.invokestatic 42, 3) := by decide +kernel
theorem dX7_drift_7 : decode cX7_drift 7 = .ok (.ifCond .ne 6, 3) := by decide +kernel
theorem dX7_drift_10 : decode cX7_drift 10 = .ok (.ldc 149, 2) := by decide +kernel
theorem dX7_drift_12 : decode cX7_drift 12 = .ok (.ireturn, 1) := by decide +kernel
theorem dX7_drift_13 : decode cX7_drift 13 = .ok (.iconst 0, 1) := by decide +kernel
theorem dX7_drift_14 : decode cX7_drift 14 = .ok (.istore_n 2, 1) := by decide +kernel
theorem dX7_drift_15 : decode cX7_drift 15 = .ok (.iload_n 2, 1) := by decide +kernel
theorem dX7_drift_16 : decode cX7_drift 16 = .ok (.iload_n 1, 1) := by decide +kernel
theorem dX7_drift_17 : decode cX7_drift 17 = .ok (.if_icmp .ge 101, 3) := by decide +kernel
theorem dX7_drift_20 : decode cX7_drift 20 = .ok (.aload_n 0, 1) := by decide +kernel
theorem dX7_drift_21 : decode cX7_drift 21 = .ok (.getfield 7, 3) := by decide +kernel
theorem dX7_drift_24 : decode cX7_drift 24 = .ok (.iconst 1, 1) := by decide +kernel
theorem dX7_drift_25 : decode cX7_drift 25 = .ok (.iaload, 1) := by decide +kernel
theorem dX7_drift_26 : decode cX7_drift 26 = .ok (.ifCond .le 92, 3) := by decide +kernel
theorem dX7_drift_29 : decode cX7_drift 29 = .ok (.aload_n 0, 1) := by decide +kernel
theorem dX7_drift_30 : decode cX7_drift 30 = .ok (.getfield 7, 3) := by decide +kernel
theorem dX7_drift_33 : decode cX7_drift 33 = .ok (.iconst 2, 1) := by decide +kernel
theorem dX7_drift_34 : decode cX7_drift 34 = .ok (.iaload, 1) := by decide +kernel
theorem dX7_drift_35 : decode cX7_drift 35 = .ok (.bipush 20, 2) := by decide +kernel
theorem dX7_drift_37 : decode cX7_drift 37 = .ok (.if_icmp .ge 81, 3) := by decide +kernel
theorem dX7_drift_40 : decode cX7_drift 40 = .ok (.aload_n 0, 1) := by decide +kernel
theorem dX7_drift_41 : decode cX7_drift 41 = .ok (.invokevirtual 166, 3) := by decide +kernel
theorem dX7_drift_44 : decode cX7_drift 44 = .ok (.aload_n 0, 1) := by decide +kernel
theorem dX7_drift_45 : decode cX7_drift 45 = .ok (.aload_n 0, 1) := by decide +kernel
theorem dX7_drift_46 : decode cX7_drift 46 = .ok (.getfield 7, 3) := by decide +kernel
theorem dX7_drift_49 : decode cX7_drift 49 = .ok (.iconst 1, 1) := by decide +kernel
theorem dX7_drift_50 : decode cX7_drift 50 = .ok (.iaload, 1) := by decide +kernel
theorem dX7_drift_51 : decode cX7_drift 51 = .ok (.invokevirtual 188, 3) := by decide +kernel
theorem dX7_drift_54 : decode cX7_drift 54 = .ok (.istore_n 3, 1) := by decide +kernel
theorem dX7_drift_55 : decode cX7_drift 55 = .ok (.aload_n 0, 1) := by decide +kernel
theorem dX7_drift_56 : decode cX7_drift 56 = .ok (.aload_n 0, 1) := by decide +kernel
theorem dX7_drift_57 : decode cX7_drift 57 = .ok (.getfield 7, 3) := by decide +kernel
theorem dX7_drift_60 : decode cX7_drift 60 = .ok (.iconst 1, 1) := by decide +kernel
theorem dX7_drift_61 : decode cX7_drift 61 = .ok (.iaload, 1) := by decide +kernel
theorem dX7_drift_62 : decode cX7_drift 62 = .ok (.invokevirtual 188, 3) := by decide +kernel
theorem dX7_drift_65 : decode cX7_drift 65 = .ok (.istore 4, 2) := by decide +kernel
theorem dX7_drift_67 : decode cX7_drift 67 = .ok (.aload_n 0, 1) := by decide +kernel
theorem dX7_drift_68 : decode cX7_drift 68 = .ok (.aload_n 0, 1) := by decide +kernel
theorem dX7_drift_69 : decode cX7_drift 69 = .ok (.getfield 7, 3) := by decide +kernel
theorem dX7_drift_72 : decode cX7_drift 72 = .ok (.iconst 0, 1) := by decide +kernel
theorem dX7_drift_73 : decode cX7_drift 73 = .ok (.iaload, 1) := by decide +kernel
theorem dX7_drift_74 : decode cX7_drift 74 = .ok (.invokevirtual 188, 3) := by decide +kernel
theorem dX7_drift_77 : decode cX7_drift 77 = .ok (.istore 5, 2) := by decide +kernel
theorem dX7_drift_79 : decode cX7_drift 79 = .ok (.iconst 1, 1) := by decide +kernel
theorem dX7_drift_80 : decode cX7_drift 80 = .ok (.aload_n 0, 1) := by decide +kernel
theorem dX7_drift_81 : decode cX7_drift 81 = .ok (.bipush 8, 2) := by decide +kernel
theorem dX7_drift_83 : decode cX7_drift 83 = .ok (.invokevirtual 188, 3) := by decide +kernel
theorem dX7_drift_86 : decode cX7_drift 86 = .ok (.ishl, 1) := by decide +kernel
theorem dX7_drift_87 : decode cX7_drift 87 = .ok (.istore 6, 2) := by decide +kernel
theorem dX7_drift_89 : decode cX7_drift 89 = .ok (.iconst 1, 1) := by decide +kernel
theorem dX7_drift_90 : decode cX7_drift 90 = .ok (.aload_n 0, 1) := by decide +kernel
theorem dX7_drift_91 : decode cX7_drift 91 = .ok (.bipush 8, 2) := by decide +kernel
theorem dX7_drift_93 : decode cX7_drift 93 = .ok (.invokevirtual 188, 3) := by decide +kernel
theorem dX7_drift_96 : decode cX7_drift 96 = .ok (.ishl, 1) := by decide +kernel
theorem dX7_drift_97 : decode cX7_drift 97 = .ok (.istore 7, 2) := by decide +kernel
theorem dX7_drift_99 : decode cX7_drift 99 = .ok (.aload_n 0, 1) := by decide +kernel
theorem dX7_drift_100 : decode cX7_drift 100 = .ok (.iload_n 3, 1) := by decide +kernel
theorem dX7_drift_101 : decode cX7_drift 101 = .ok (.iload 4, 2) := by decide +kernel
theorem dX7_drift_103 : decode cX7_drift 103 = .ok (.iload 6, 2) := by decide +kernel
theorem dX7_drift_105 : decode cX7_drift 105 = .ok (.iload 7, 2) := by decide +kernel
theorem dX7_drift_107 : decode cX7_drift 107 = .ok (.iload 5, 2) := by decide +kernel
theorem dX7_drift_109 : decode cX7_drift 109 = .ok (.invokevirtual 173, 3) := by decide +kernel
theorem dX7_drift_112 : decode cX7_drift 112 = .ok (.iinc 2 1, 3) := by decide +kernel
theorem dX7_drift_115 : decode cX7_drift 115 = .ok (.goto (-100), 3) := by decide +kernel
theorem dX7_drift_118 : decode cX7_drift 118 = .ok (.aload_n 0, 1) := by decide +kernel
theorem dX7_drift_119 : decode cX7_drift 119 = .ok (.getfield 7, 3) := by decide +kernel
theorem dX7_drift_122 : decode cX7_drift 122 = .ok (.iconst 2, 1) := by decide +kernel
theorem dX7_drift_123 : decode cX7_drift 123 = .ok (.iaload, 1) := by decide +kernel
theorem dX7_drift_124 : decode cX7_drift 124 = .ok (.ireturn, 1) := by decide +kernel
theorem dX7_undo_0 : decode cX7_undo 0 = .ok (.iload_n 1, 1) := by decide +kernel
theorem dX7_undo_1 : decode cX7_undo 1 = .ok (.iconst 1, 1) := by decide +kernel
theorem dX7_undo_2 : decode cX7_undo 2 = .ok (.bipush 16, 2) := by decide +kernel
theorem dX7_undo_4 : decode cX7_undo 4 = .ok (.invokestatic 42, 3) := by decide +kernel
theorem dX7_undo_7 : decode cX7_undo 7 = .ok (.ifCond .ne 6, 3) := by decide +kernel
theorem dX7_undo_10 : decode cX7_undo 10 = .ok (.ldc 149, 2) := by decide +kernel
theorem dX7_undo_12 : decode cX7_undo 12 = .ok (.ireturn, 1) := by decide +kernel
theorem dX7_undo_13 : decode cX7_undo 13 = .ok (.iload_n 1, 1) := by decide +kernel
theorem dX7_undo_14 : decode cX7_undo 14 = .ok (.aload_n 0, 1) := by decide +kernel
theorem dX7_undo_15 : decode cX7_undo 15 = .ok (.getfield 146, 3) := by decide +kernel
theorem dX7_undo_18 : decode cX7_undo 18 = .ok (.if_icmp .le 6, 3) := by decide +kernel
theorem dX7_undo_21 : decode cX7_undo 21 = .ok (.ldc 177, 2) := by decide +kernel
theorem dX7_undo_23 : decode cX7_undo 23 = .ok (.ireturn, 1) := by decide +kernel
theorem dX7_undo_24 : decode cX7_undo 24 = .ok (.aload_n 0, 1) := by decide +kernel
theorem dX7_undo_25 : decode cX7_undo 25 = .ok (.dup, 1) := by decide +kernel
theorem dX7_undo_26 : decode cX7_undo 26 = .ok (.getfield 146, 3) := by decide +kernel
theorem dX7_undo_29 : decode cX7_undo 29 = .ok (.iload_n 1, 1) := by decide +kernel
theorem dX7_undo_30 : decode cX7_undo 30 = .ok (.isub, 1) := by decide +kernel
theorem dX7_undo_31 : decode cX7_undo 31 = .ok (.putfield 146, 3) := by decide +kernel
theorem dX7_undo_34 : decode cX7_undo 34 = .ok (.iconst 0, 1) := by decide +kernel
theorem dX7_undo_35 : decode cX7_undo 35 = .ok (.istore_n 2, 1) := by decide +kernel
theorem dX7_undo_36 : decode cX7_undo 36 = .ok (.iload_n 2, 1) := by decide +kernel
theorem dX7_undo_37 : decode cX7_undo 37 = .ok (.sipush 367, 3) := by decide +kernel
theorem dX7_undo_40 : decode cX7_undo 40 = .ok (.if_icmp .ge 30, 3) := by decide +kernel
theorem dX7_undo_43 : decode cX7_undo 43 = .ok (.aload_n 0, 1) := by decide +kernel
theorem dX7_undo_44 : decode cX7_undo 44 = .ok (.getfield 7, 3) := by decide +kernel
theorem dX7_undo_47 : decode cX7_undo 47 = .ok (.iload_n 2, 1) := by decide +kernel
theorem dX7_undo_48 : decode cX7_undo 48 = .ok (.aload_n 0, 1) := by decide +kernel
theorem dX7_undo_49 : decode cX7_undo 49 = .ok (.getfield 13, 3) := by decide +kernel
theorem dX7_undo_52 : decode cX7_undo 52 = .ok (.sipush 367, 3) := by decide +kernel
theorem dX7_undo_55 : decode cX7_undo 55 = .ok (.aload_n 0, 1) := by decide +kernel
theorem dX7_undo_56 : decode cX7_undo 56 = .ok (.getfield 146, 3) := by decide +kernel
theorem dX7_undo_59 : decode cX7_undo 59 = .ok (.imul, 1) := by decide +kernel
theorem dX7_undo_60 : decode cX7_undo 60 = .ok (.iload_n 2, 1) := by decide +kernel
theorem dX7_undo_61 : decode cX7_undo 61 = .ok (.iadd, 1) := by decide +kernel
theorem dX7_undo_62 : decode cX7_undo 62 = .ok (.iaload, 1) := by decide +kernel
theorem dX7_undo_63 : decode cX7_undo 63 = .ok (.iastore, 1) := by decide +kernel
theorem dX7_undo_64 : decode cX7_undo 64 = .ok (.iinc 2 1, 3) := by decide +kernel
theorem dX7_undo_67 : decode cX7_undo 67 = .ok (.goto (-31), 3) := by decide +kernel
theorem dX7_undo_70 : decode cX7_undo 70 = .ok (.aload_n 0, 1) := by decide +kernel
theorem dX7_undo_71 : decode cX7_undo 71 = .ok (.getfield 7, 3) := by decide +kernel
theorem dX7_undo_74 : decode cX7_undo 74 = .ok (.iconst 2, 1) := by decide +kernel
theorem dX7_undo_75 : decode cX7_undo 75 = .ok (.iaload, 1) := by decide +kernel
theorem dX7_undo_76 : decode cX7_undo 76 = .ok (.ireturn, 1) := by decide +kernel
theorem dX7_note_0 : decode cX7_note 0 = .ok (.aload_n 0, 1) := by decide +kernel
theorem dX7_note_1 : decode cX7_note 1 = .ok (.iload_n 1, 1) := by decide +kernel
theorem dX7_note_2 : decode cX7_note 2 = .ok (.invokevirtual 131, 3) := by decide +kernel
theorem dX7_note_5 : decode cX7_note 5 = .ok (.ifCond .eq 11, 3) := by decide +kernel
theorem dX7_note_8 : decode cX7_note 8 = .ok (.aload_n 0, 1) := by decide +kernel
theorem dX7_note_9 : decode cX7_note 9 = .ok (.iload_n 2, 1) := by decide +kernel
theorem dX7_note_10 : decode cX7_note 10 = .ok (.invokevirtual 150, 3) := by decide +kernel
theorem dX7_note_13 : decode cX7_note 13 = .ok (.ifCond .ne 6, 3) := by decide +kernel
theorem dX7_note_16 : decode cX7_note 16 = .ok (.ldc 153, 2) := by decide +kernel
theorem dX7_note_18 : decode cX7_note 18 = .ok (.ireturn, 1) := by decide +kernel
theorem dX7_note_19 : decode cX7_note 19 = .ok (.iload_n 3, 1) := by decide +kernel
theorem dX7_note_20 : decode cX7_note 20 = .ok (.invokestatic 169, 3) := by decide +kernel
theorem dX7_note_23 : decode cX7_note 23 = .ok (.ifCond .ne 6, 3) := by decide +kernel
theorem dX7_note_26 : decode cX7_note 26 = .ok (.ldc 149, 2) := by decide +kernel
theorem dX7_note_28 : decode cX7_note 28 = .ok (.ireturn, 1) := by decide +kernel
theorem dX7_note_29 : decode cX7_note 29 = .ok (.aload_n 0, 1) := by decide +kernel
theorem dX7_note_30 : decode cX7_note 30 = .ok (.getfield 128, 3) := by decide +kernel
theorem dX7_note_33 : decode cX7_note 33 = .ok (.bipush 20, 2) := by decide +kernel
theorem dX7_note_35 : decode cX7_note 35 = .ok (.if_icmp .ne 6, 3) := by decide +kernel
theorem dX7_note_38 : decode cX7_note 38 = .ok (.ldc 172, 2) := by decide +kernel
theorem dX7_note_40 : decode cX7_note 40 = .ok (.ireturn, 1) := by decide +kernel
theorem dX7_note_41 : decode cX7_note 41 = .ok (.aload_n 0, 1) := by decide +kernel
theorem dX7_note_42 : decode cX7_note 42 = .ok (.getfield 23, 3) := by decide +kernel
theorem dX7_note_45 : decode cX7_note 45 = .ok (.iconst 3, 1) := by decide +kernel
theorem dX7_note_46 : decode cX7_note 46 = .ok (.aload_n 0, 1) := by decide +kernel
theorem dX7_note_47 : decode cX7_note 47 = .ok (.getfield 128, 3) := by decide +kernel
theorem dX7_note_50 : decode cX7_note 50 = .ok (.imul, 1) := by decide +kernel
theorem dX7_note_51 : decode cX7_note 51 = .ok (.iload_n 1, 1) := by decide +kernel
theorem dX7_note_52 : decode cX7_note 52 = .ok (.iastore, 1) := by decide +kernel
theorem dX7_note_53 : decode cX7_note 53 = .ok (.aload_n 0, 1) := by decide +kernel
theorem dX7_note_54 : decode cX7_note 54 = .ok (.getfield 23, 3) := by decide +kernel
theorem dX7_note_57 : decode cX7_note 57 = .ok (.iconst 3, 1) := by decide +kernel
theorem dX7_note_58 : decode cX7_note 58 = .ok (.aload_n 0, 1) := by decide +kernel
theorem dX7_note_59 : decode cX7_note 59 = .ok (.getfield 128, 3) := by decide +kernel
theorem dX7_note_62 : decode cX7_note 62 = .ok (.imul, 1) := by decide +kernel
theorem dX7_note_63 : decode cX7_note 63 = .ok (.iconst 1, 1) := by decide +kernel
theorem dX7_note_64 : decode cX7_note 64 = .ok (.iadd, 1) := by decide +kernel
theorem dX7_note_65 : decode cX7_note 65 = .ok (.iload_n 2, 1) := by decide +kernel
theorem dX7_note_66 : decode cX7_note 66 = .ok (.iastore, 1) := by decide +kernel
theorem dX7_note_67 : decode cX7_note 67 = .ok (.aload_n 0, 1) := by decide +kernel
theorem dX7_note_68 : decode cX7_note 68 = .ok (.getfield 23, 3) := by decide +kernel
theorem dX7_note_71 : decode cX7_note 71 = .ok (.iconst 3, 1) := by decide +kernel
theorem dX7_note_72 : decode cX7_note 72 = .ok (.aload_n 0, 1) := by decide +kernel
theorem dX7_note_73 : decode cX7_note 73 = .ok (.getfield 128, 3) := by decide +kernel
theorem dX7_note_76 : decode cX7_note 76 = .ok (.imul, 1) := by decide +kernel
theorem dX7_note_77 : decode cX7_note 77 = .ok (.iconst 2, 1) := by decide +kernel
theorem dX7_note_78 : decode cX7_note 78 = .ok (.iadd, 1) := by decide +kernel
theorem dX7_note_79 : decode cX7_note 79 = .ok (.iload_n 3, 1) := by decide +kernel
theorem dX7_note_80 : decode cX7_note 80 = .ok (.iastore, 1) := by decide +kernel
theorem dX7_note_81 : decode cX7_note 81 = .ok (.aload_n 0, 1) := by decide +kernel
theorem dX7_note_82 : decode cX7_note 82 = .ok (.dup, 1) := by decide +kernel
theorem dX7_note_83 : decode cX7_note 83 = .ok (.getfield 128, 3) := by decide +kernel
theorem dX7_note_86 : decode cX7_note 86 = .ok (.iconst 1, 1) := by decide +kernel
theorem dX7_note_87 : decode cX7_note 87 = .ok (.iadd, 1) := by decide +kernel
theorem dX7_note_88 : decode cX7_note 88 = .ok (.putfield 128, 3) := by decide +kernel
theorem dX7_note_91 : decode cX7_note 91 = .ok (.aload_n 0, 1) := by decide +kernel
theorem dX7_note_92 : decode cX7_note 92 = .ok (.getfield 128, 3) := by decide +kernel
theorem dX7_note_95 : decode cX7_note 95 = .ok (.ireturn, 1) := by decide +kernel
theorem dX7_tear_0 : decode cX7_tear 0 = .ok (.aload_n 0, 1) := by decide +kernel
theorem dX7_tear_1 : decode cX7_tear 1 = .ok (.getfield 128, 3) := by decide +kernel
theorem dX7_tear_4 : decode cX7_tear 4 = .ok (.istore_n 1, 1) := by decide +kernel
theorem dX7_tear_5 : decode cX7_tear 5 = .ok (.aload_n 0, 1) := by decide +kernel
theorem dX7_tear_6 : decode cX7_tear 6 = .ok (.iconst 0, 1) := by decide +kernel
theorem dX7_tear_7 : decode cX7_tear 7 = .ok (.putfield 128, 3) := by decide +kernel
theorem dX7_tear_10 : decode cX7_tear 10 = .ok (.iload_n 1, 1) := by decide +kernel
theorem dX7_tear_11 : decode cX7_tear 11 = .ok (.ireturn, 1) := by decide +kernel
theorem dX7_seed_0 : decode cX7_seed 0 = .ok (.iload_n 1, 1) := by decide +kernel
theorem dX7_seed_1 : decode cX7_seed 1 = .ok (.ifCond .ge 6, 3) := by decide +kernel
theorem dX7_seed_4 : decode cX7_seed 4 = .ok (.ldc 149, 2) := by decide +kernel
theorem dX7_seed_6 : decode cX7_seed 6 = .ok (.ireturn, 1) := by decide +kernel
theorem dX7_seed_7 : decode cX7_seed 7 = .ok (.aload_n 0, 1) := by decide +kernel
theorem dX7_seed_8 : decode cX7_seed 8 = .ok (.getfield 178, 3) := by decide +kernel
theorem dX7_seed_11 : decode cX7_seed 11 = .ok (.istore_n 2, 1) := by decide +kernel
theorem dX7_seed_12 : decode cX7_seed 12 = .ok (.aload_n 0, 1) := by decide +kernel
theorem dX7_seed_13 : decode cX7_seed 13 = .ok (.iload_n 1, 1) := by decide +kernel
theorem dX7_seed_14 : decode cX7_seed 14 = .ok (.putfield 178, 3) := by decide +kernel
theorem dX7_seed_17 : decode cX7_seed 17 = .ok (.iload_n 2, 1) := by decide +kernel
theorem dX7_seed_18 : decode cX7_seed 18 = .ok (.ireturn, 1) := by decide +kernel
theorem dX7_keep_0 : decode cX7_keep 0 = .ok (.iload_n 1, 1) := by decide +kernel
theorem dX7_keep_1 : decode cX7_keep 1 = .ok (.iconst 0, 1) := by decide +kernel
theorem dX7_keep_2 : decode cX7_keep 2 = .ok (.iconst 1, 1) := by decide +kernel
theorem dX7_keep_3 : decode cX7_keep 3 = .ok (.invokestatic 42, 3) := by decide +kernel
theorem dX7_keep_6 : decode cX7_keep 6 = .ok (.ifCond .ne 6, 3) := by decide +kernel
theorem dX7_keep_9 : decode cX7_keep 9 = .ok (.ldc 153, 2) := by decide +kernel
theorem dX7_keep_11 : decode cX7_keep 11 = .ok (.ireturn, 1) := by decide +kernel
theorem dX7_keep_12 : decode cX7_keep 12 = .ok (.iconst 0, 1) := by decide +kernel
theorem dX7_keep_13 : decode cX7_keep 13 = .ok (.istore_n 2, 1) := by decide +kernel
theorem dX7_keep_14 : decode cX7_keep 14 = .ok (.iload_n 2, 1) := by decide +kernel
theorem dX7_keep_15 : decode cX7_keep 15 = .ok (.sipush 367, 3) := by decide +kernel
theorem dX7_keep_18 : decode cX7_keep 18 = .ok (.if_icmp .ge 27, 3) := by decide +kernel
theorem dX7_keep_21 : decode cX7_keep 21 = .ok (.aload_n 0, 1) := by decide +kernel
theorem dX7_keep_22 : decode cX7_keep 22 = .ok (.getfield 16, 3) := by decide +kernel
theorem dX7_keep_25 : decode cX7_keep 25 = .ok (.sipush 368, 3) := by decide +kernel
theorem dX7_keep_28 : decode cX7_keep 28 = .ok (.iload_n 1, 1) := by decide +kernel
theorem dX7_keep_29 : decode cX7_keep 29 = .ok (.imul, 1) := by decide +kernel
theorem dX7_keep_30 : decode cX7_keep 30 = .ok (.iload_n 2, 1) := by decide +kernel
theorem dX7_keep_31 : decode cX7_keep 31 = .ok (.iadd, 1) := by decide +kernel
theorem dX7_keep_32 : decode cX7_keep 32 = .ok (.aload_n 0, 1) := by decide +kernel
theorem dX7_keep_33 : decode cX7_keep 33 = .ok (.getfield 7, 3) := by decide +kernel
theorem dX7_keep_36 : decode cX7_keep 36 = .ok (.iload_n 2, 1) := by decide +kernel
theorem dX7_keep_37 : decode cX7_keep 37 = .ok (.iaload, 1) := by decide +kernel
theorem dX7_keep_38 : decode cX7_keep 38 = .ok (.iastore, 1) := by decide +kernel
theorem dX7_keep_39 : decode cX7_keep 39 = .ok (.iinc 2 1, 3) := by decide +kernel
theorem dX7_keep_42 : decode cX7_keep 42 = .ok (.goto (-28), 3) := by decide +kernel
theorem dX7_keep_45 : decode cX7_keep 45 = .ok (.aload_n 0, 1) := by decide +kernel
theorem dX7_keep_46 : decode cX7_keep 46 = .ok (.getfield 16, 3) := by decide +kernel
theorem dX7_keep_49 : decode cX7_keep 49 = .ok (.sipush 368, 3) := by decide +kernel
theorem dX7_keep_52 : decode cX7_keep 52 = .ok (.iload_n 1, 1) := by decide +kernel
theorem dX7_keep_53 : decode cX7_keep 53 = .ok (.imul, 1) := by decide +kernel
theorem dX7_keep_54 : decode cX7_keep 54 = .ok (.sipush 367, 3) := by decide +kernel
theorem dX7_keep_57 : decode cX7_keep 57 = .ok (.iadd, 1) := by decide +kernel
theorem dX7_keep_58 : decode cX7_keep 58 = .ok (.aload_n 0, 1) := by decide +kernel
theorem dX7_keep_59 : decode cX7_keep 59 = .ok (.getfield 178, 3) := by decide +kernel
theorem dX7_keep_62 : decode cX7_keep 62 = .ok (.iastore, 1) := by decide +kernel
theorem dX7_keep_63 : decode cX7_keep 63 = .ok (.aload_n 0, 1) := by decide +kernel
theorem dX7_keep_64 : decode cX7_keep 64 = .ok (.getfield 19, 3) := by decide +kernel
theorem dX7_keep_67 : decode cX7_keep 67 = .ok (.iload_n 1, 1) := by decide +kernel
theorem dX7_keep_68 : decode cX7_keep 68 = .ok (.iconst 1, 1) := by decide +kernel
theorem dX7_keep_69 : decode cX7_keep 69 = .ok (.bastore, 1) := by decide +kernel
theorem dX7_keep_70 : decode cX7_keep 70 = .ok (.aload_n 0, 1) := by decide +kernel
theorem dX7_keep_71 : decode cX7_keep 71 = .ok (.iconst 0, 1) := by decide +kernel
theorem dX7_keep_72 : decode cX7_keep 72 = .ok (.putfield 146, 3) := by decide +kernel
theorem dX7_keep_75 : decode cX7_keep 75 = .ok (.iconst 1, 1) := by decide +kernel
theorem dX7_keep_76 : decode cX7_keep 76 = .ok (.ireturn, 1) := by decide +kernel
theorem dX7_goBack_0 : decode cX7_goBack 0 = .ok (.iload_n 1, 1) := by decide +kernel
theorem dX7_goBack_1 : decode cX7_goBack 1 = .ok (.iconst 0, 1) := by decide +kernel
theorem dX7_goBack_2 : decode cX7_goBack 2 = .ok (.iconst 1, 1) := by decide +kernel
theorem dX7_goBack_3 : decode cX7_goBack 3 = .ok (.invokestatic 42, 3) := by decide +kernel
theorem dX7_goBack_6 : decode cX7_goBack 6 = .ok (.ifCond .ne 6, 3) := by decide +kernel
theorem dX7_goBack_9 : decode cX7_goBack 9 = .ok (.ldc 153, 2) := by decide +kernel
theorem dX7_goBack_11 : decode cX7_goBack 11 = .ok (.ireturn, 1) := by decide +kernel
theorem dX7_goBack_12 : decode cX7_goBack 12 = .ok (.aload_n 0, 1) := by decide +kernel
theorem dX7_goBack_13 : decode cX7_goBack 13 = .ok (.getfield 19, 3) := by decide +kernel
theorem dX7_goBack_16 : decode cX7_goBack 16 = .ok (.iload_n 1, 1) := by decide +kernel
theorem dX7_goBack_17 : decode cX7_goBack 17 = .ok (.baload, 1) := by decide +kernel
theorem dX7_goBack_18 : decode cX7_goBack 18 = .ok (.ifCond .ne 6, 3) := by decide +kernel
theorem dX7_goBack_21 : decode cX7_goBack 21 = .ok (.ldc 177, 2) := by decide +kernel
theorem dX7_goBack_23 : decode cX7_goBack 23 = .ok (.ireturn, 1) := by decide +kernel
theorem dX7_goBack_24 : decode cX7_goBack 24 = .ok (.iconst 0, 1) := by decide +kernel
theorem dX7_goBack_25 : decode cX7_goBack 25 = .ok (.istore_n 2, 1) := by decide +kernel
theorem dX7_goBack_26 : decode cX7_goBack 26 = .ok (.iload_n 2, 1) := by decide +kernel
theorem dX7_goBack_27 : decode cX7_goBack 27 = .ok (.sipush 367, 3) := by decide +kernel
theorem dX7_goBack_30 : decode cX7_goBack 30 = .ok (.if_icmp .ge 27, 3) := by decide +kernel
theorem dX7_goBack_33 : decode cX7_goBack 33 = .ok (.aload_n 0, 1) := by decide +kernel
theorem dX7_goBack_34 : decode cX7_goBack 34 = .ok (.getfield 7, 3) := by decide +kernel
theorem dX7_goBack_37 : decode cX7_goBack 37 = .ok (.iload_n 2, 1) := by decide +kernel
theorem dX7_goBack_38 : decode cX7_goBack 38 = .ok (.aload_n 0, 1) := by decide +kernel
theorem dX7_goBack_39 : decode cX7_goBack 39 = .ok (.getfield 16, 3) := by decide +kernel
theorem dX7_goBack_42 : decode cX7_goBack 42 = .ok (.sipush 368, 3) := by decide +kernel
theorem dX7_goBack_45 : decode cX7_goBack 45 = .ok (.iload_n 1, 1) := by decide +kernel
theorem dX7_goBack_46 : decode cX7_goBack 46 = .ok (.imul, 1) := by decide +kernel
theorem dX7_goBack_47 : decode cX7_goBack 47 = .ok (.iload_n 2, 1) := by decide +kernel
theorem dX7_goBack_48 : decode cX7_goBack 48 = .ok (.iadd, 1) := by decide +kernel
theorem dX7_goBack_49 : decode cX7_goBack 49 = .ok (.iaload, 1) := by decide +kernel
theorem dX7_goBack_50 : decode cX7_goBack 50 = .ok (.iastore, 1) := by decide +kernel
theorem dX7_goBack_51 : decode cX7_goBack 51 = .ok (.iinc 2 1, 3) := by decide +kernel
theorem dX7_goBack_54 : decode cX7_goBack 54 = .ok (.goto (-28), 3) := by decide +kernel
theorem dX7_goBack_57 : decode cX7_goBack 57 = .ok (.aload_n 0, 1) := by decide +kernel
theorem dX7_goBack_58 : decode cX7_goBack 58 = .ok (.aload_n 0, 1) := by decide +kernel
theorem dX7_goBack_59 : decode cX7_goBack 59 = .ok (.getfield 16, 3) := by decide +kernel
theorem dX7_goBack_62 : decode cX7_goBack 62 = .ok (.sipush 368, 3) := by decide +kernel
theorem dX7_goBack_65 : decode cX7_goBack 65 = .ok (.iload_n 1, 1) := by decide +kernel
theorem dX7_goBack_66 : decode cX7_goBack 66 = .ok (.imul, 1) := by decide +kernel
theorem dX7_goBack_67 : decode cX7_goBack 67 = .ok (.sipush 367, 3) := by decide +kernel
theorem dX7_goBack_70 : decode cX7_goBack 70 = .ok (.iadd, 1) := by decide +kernel
theorem dX7_goBack_71 : decode cX7_goBack 71 = .ok (.iaload, 1) := by decide +kernel
theorem dX7_goBack_72 : decode cX7_goBack 72 = .ok (.putfield 178, 3) := by decide +kernel
theorem dX7_goBack_75 : decode cX7_goBack 75 = .ok (.aload_n 0, 1) := by decide +kernel
theorem dX7_goBack_76 : decode cX7_goBack 76 = .ok (.iconst 0, 1) := by decide +kernel
theorem dX7_goBack_77 : decode cX7_goBack 77 = .ok (.putfield 146, 3) := by decide +kernel
theorem dX7_goBack_80 : decode cX7_goBack 80 = .ok (.iconst 1, 1) := by decide +kernel
theorem dX7_goBack_81 : decode cX7_goBack 81 = .ok (.ireturn, 1) := by decide +kernel
end
section
theorem dL_law_0 : decode cL_law 0 = .ok (.new 7, 3) := by decide +kernel
theorem dL_law_3 : decode cL_law 3 = .ok (.dup, 1) := by decide +kernel
theorem dL_law_4 : decode cL_law 4 = .ok (.invokespecial 9, 3) := by decide +kernel
theorem dL_law_7 : decode cL_law 7 = .ok (.astore_n 1, 1) := by decide +kernel
theorem dL_law_8 : decode cL_law 8 = .ok (.new 10, 3) := by decide +kernel
theorem dL_law_11 : decode cL_law 11 = .ok (.dup, 1) := by decide +kernel
theorem dL_law_12 : decode cL_law 12 = .ok (.invokespecial 12, 3) := by decide +kernel
theorem dL_law_15 : decode cL_law 15 = .ok (.astore_n 2, 1) := by decide +kernel
theorem dL_law_16 : decode cL_law 16 = .ok (.iconst 0, 1) := by decide +kernel
theorem dL_law_17 : decode cL_law 17 = .ok (.istore_n 3, 1) := by decide +kernel
theorem dL_law_18 : decode cL_law 18 = .ok (.iload_n 3, 1) := by decide +kernel
theorem dL_law_19 : decode cL_law 19 = .ok (.aload_n 0, 1) := by decide +kernel
theorem dL_law_20 : decode cL_law 20 = .ok (.arraylength, 1) := by decide +kernel
theorem dL_law_21 : decode cL_law 21 = .ok (.iconst 4, 1) := by decide +kernel
theorem dL_law_22 : decode cL_law 22 = .ok (.isub, 1) := by decide +kernel
theorem dL_law_23 : decode cL_law 23 = .ok (.if_icmp .gt 906, 3) := by decide +kernel
theorem dL_law_26 : decode cL_law 26 = .ok (.aload_n 0, 1) := by decide +kernel
theorem dL_law_27 : decode cL_law 27 = .ok (.iload_n 3, 1) := by decide +kernel
theorem dL_law_28 : decode cL_law 28 = .ok (.iaload, 1) := by decide +kernel
theorem dL_law_29 : decode cL_law 29 = .ok (.bipush 31, 2) := by decide +kernel
theorem dL_law_31 : decode cL_law 31 = .ok (.iand, 1) := by decide +kernel
theorem dL_law_32 : decode cL_law 32 = .ok (.tableswitch 891 0 24 #[116, 139, 172, 205, 238, 271, 304, 327, 360, 403, 446, 489, 522, 545, 588, 631, 664, 707, 720, 743, 766, 809, 822, 845, 868], 116) := by decide +kernel
theorem dL_law_148 : decode cL_law 148 = .ok (.aload_n 1, 1) := by decide +kernel
theorem dL_law_149 : decode cL_law 149 = .ok (.aload_n 0, 1) := by decide +kernel
theorem dL_law_150 : decode cL_law 150 = .ok (.iload_n 3, 1) := by decide +kernel
theorem dL_law_151 : decode cL_law 151 = .ok (.iconst 1, 1) := by decide +kernel
theorem dL_law_152 : decode cL_law 152 = .ok (.iadd, 1) := by decide +kernel
theorem dL_law_153 : decode cL_law 153 = .ok (.iaload, 1) := by decide +kernel
theorem dL_law_154 : decode cL_law 154 = .ok (.invokevirtual 13, 3) := by decide +kernel
theorem dL_law_157 : decode cL_law 157 = .ok (.aload_n 2, 1) := by decide +kernel
theorem dL_law_158 : decode cL_law 158 = .ok (.aload_n 0, 1) := by decide +kernel
theorem dL_law_159 : decode cL_law 159 = .ok (.iload_n 3, 1) := by decide +kernel
theorem dL_law_160 : decode cL_law 160 = .ok (.iconst 1, 1) := by decide +kernel
theorem dL_law_161 : decode cL_law 161 = .ok (.iadd, 1) := by decide +kernel
theorem dL_law_162 : decode cL_law 162 = .ok (.iaload, 1) := by decide +kernel
theorem dL_law_163 : decode cL_law 163 = .ok (.invokevirtual 17, 3) := by decide +kernel
theorem dL_law_166 : decode cL_law 166 = .ok (.if_icmp .eq 757, 3) := by decide +kernel
theorem dL_law_169 : decode cL_law 169 = .ok (.iconst 0, 1) := by decide +kernel
theorem dL_law_170 : decode cL_law 170 = .ok (.ireturn, 1) := by decide +kernel
theorem dL_law_171 : decode cL_law 171 = .ok (.aload_n 1, 1) := by decide +kernel
theorem dL_law_172 : decode cL_law 172 = .ok (.aload_n 0, 1) := by decide +kernel
theorem dL_law_173 : decode cL_law 173 = .ok (.iload_n 3, 1) := by decide +kernel
theorem dL_law_174 : decode cL_law 174 = .ok (.iconst 1, 1) := by decide +kernel
theorem dL_law_175 : decode cL_law 175 = .ok (.iadd, 1) := by decide +kernel
theorem dL_law_176 : decode cL_law 176 = .ok (.iaload, 1) := by decide +kernel
theorem dL_law_177 : decode cL_law 177 = .ok (.aload_n 0, 1) := by decide +kernel
theorem dL_law_178 : decode cL_law 178 = .ok (.iload_n 3, 1) := by decide +kernel
theorem dL_law_179 : decode cL_law 179 = .ok (.iconst 2, 1) := by decide +kernel
theorem dL_law_180 : decode cL_law 180 = .ok (.iadd, 1) := by decide +kernel
theorem dL_law_181 : decode cL_law 181 = .ok (.iaload, 1) := by decide +kernel
theorem dL_law_182 : decode cL_law 182 = .ok (.invokevirtual 18, 3) := by decide +kernel
theorem dL_law_185 : decode cL_law 185 = .ok (.aload_n 2, 1) := by decide +kernel
theorem dL_law_186 : decode cL_law 186 = .ok (.aload_n 0, 1) := by decide +kernel
theorem dL_law_187 : decode cL_law 187 = .ok (.iload_n 3, 1) := by decide +kernel
theorem dL_law_188 : decode cL_law 188 = .ok (.iconst 1, 1) := by decide +kernel
theorem dL_law_189 : decode cL_law 189 = .ok (.iadd, 1) := by decide +kernel
theorem dL_law_190 : decode cL_law 190 = .ok (.iaload, 1) := by decide +kernel
theorem dL_law_191 : decode cL_law 191 = .ok (.aload_n 0, 1) := by decide +kernel
theorem dL_law_192 : decode cL_law 192 = .ok (.iload_n 3, 1) := by decide +kernel
theorem dL_law_193 : decode cL_law 193 = .ok (.iconst 2, 1) := by decide +kernel
theorem dL_law_194 : decode cL_law 194 = .ok (.iadd, 1) := by decide +kernel
theorem dL_law_195 : decode cL_law 195 = .ok (.iaload, 1) := by decide +kernel
theorem dL_law_196 : decode cL_law 196 = .ok (.invokevirtual 22, 3) := by decide +kernel
theorem dL_law_199 : decode cL_law 199 = .ok (.if_icmp .eq 724, 3) := by decide +kernel
theorem dL_law_202 : decode cL_law 202 = .ok (.iconst 0, 1) := by decide +kernel
theorem dL_law_203 : decode cL_law 203 = .ok (.ireturn, 1) := by decide +kernel
theorem dL_law_204 : decode cL_law 204 = .ok (.aload_n 1, 1) := by decide +kernel
theorem dL_law_205 : decode cL_law 205 = .ok (.aload_n 0, 1) := by decide +kernel
theorem dL_law_206 : decode cL_law 206 = .ok (.iload_n 3, 1) := by decide +kernel
theorem dL_law_207 : decode cL_law 207 = .ok (.iconst 1, 1) := by decide +kernel
theorem dL_law_208 : decode cL_law 208 = .ok (.iadd, 1) := by decide +kernel
theorem dL_law_209 : decode cL_law 209 = .ok (.iaload, 1) := by decide +kernel
theorem dL_law_210 : decode cL_law 210 = .ok (.aload_n 0, 1) := by decide +kernel
theorem dL_law_211 : decode cL_law 211 = .ok (.iload_n 3, 1) := by decide +kernel
theorem dL_law_212 : decode cL_law 212 = .ok (.iconst 2, 1) := by decide +kernel
theorem dL_law_213 : decode cL_law 213 = .ok (.iadd, 1) := by decide +kernel
theorem dL_law_214 : decode cL_law 214 = .ok (.iaload, 1) := by decide +kernel
theorem dL_law_215 : decode cL_law 215 = .ok (.invokevirtual 23, 3) := by decide +kernel
theorem dL_law_218 : decode cL_law 218 = .ok (.aload_n 2, 1) := by decide +kernel
theorem dL_law_219 : decode cL_law 219 = .ok (.aload_n 0, 1) := by decide +kernel
theorem dL_law_220 : decode cL_law 220 = .ok (.iload_n 3, 1) := by decide +kernel
theorem dL_law_221 : decode cL_law 221 = .ok (.iconst 1, 1) := by decide +kernel
theorem dL_law_222 : decode cL_law 222 = .ok (.iadd, 1) := by decide +kernel
theorem dL_law_223 : decode cL_law 223 = .ok (.iaload, 1) := by decide +kernel
theorem dL_law_224 : decode cL_law 224 = .ok (.aload_n 0, 1) := by decide +kernel
theorem dL_law_225 : decode cL_law 225 = .ok (.iload_n 3, 1) := by decide +kernel
theorem dL_law_226 : decode cL_law 226 = .ok (.iconst 2, 1) := by decide +kernel
theorem dL_law_227 : decode cL_law 227 = .ok (.iadd, 1) := by decide +kernel
theorem dL_law_228 : decode cL_law 228 = .ok (.iaload, 1) := by decide +kernel
theorem dL_law_229 : decode cL_law 229 = .ok (.invokevirtual 26, 3) := by decide +kernel
theorem dL_law_232 : decode cL_law 232 = .ok (.if_icmp .eq 691, 3) := by decide +kernel
theorem dL_law_235 : decode cL_law 235 = .ok (.iconst 0, 1) := by decide +kernel
theorem dL_law_236 : decode cL_law 236 = .ok (.ireturn, 1) := by decide +kernel
theorem dL_law_237 : decode cL_law 237 = .ok (.aload_n 1, 1) := by decide +kernel
theorem dL_law_238 : decode cL_law 238 = .ok (.aload_n 0, 1) := by decide +kernel
theorem dL_law_239 : decode cL_law 239 = .ok (.iload_n 3, 1) := by decide +kernel
theorem dL_law_240 : decode cL_law 240 = .ok (.iconst 1, 1) := by decide +kernel
theorem dL_law_241 : decode cL_law 241 = .ok (.iadd, 1) := by decide +kernel
theorem dL_law_242 : decode cL_law 242 = .ok (.iaload, 1) := by decide +kernel
theorem dL_law_243 : decode cL_law 243 = .ok (.aload_n 0, 1) := by decide +kernel
theorem dL_law_244 : decode cL_law 244 = .ok (.iload_n 3, 1) := by decide +kernel
theorem dL_law_245 : decode cL_law 245 = .ok (.iconst 2, 1) := by decide +kernel
theorem dL_law_246 : decode cL_law 246 = .ok (.iadd, 1) := by decide +kernel
theorem dL_law_247 : decode cL_law 247 = .ok (.iaload, 1) := by decide +kernel
theorem dL_law_248 : decode cL_law 248 = .ok (.invokevirtual 27, 3) := by decide +kernel
theorem dL_law_251 : decode cL_law 251 = .ok (.aload_n 2, 1) := by decide +kernel
theorem dL_law_252 : decode cL_law 252 = .ok (.aload_n 0, 1) := by decide +kernel
theorem dL_law_253 : decode cL_law 253 = .ok (.iload_n 3, 1) := by decide +kernel
theorem dL_law_254 : decode cL_law 254 = .ok (.iconst 1, 1) := by decide +kernel
theorem dL_law_255 : decode cL_law 255 = .ok (.iadd, 1) := by decide +kernel
theorem dL_law_256 : decode cL_law 256 = .ok (.iaload, 1) := by decide +kernel
theorem dL_law_257 : decode cL_law 257 = .ok (.aload_n 0, 1) := by decide +kernel
theorem dL_law_258 : decode cL_law 258 = .ok (.iload_n 3, 1) := by decide +kernel
theorem dL_law_259 : decode cL_law 259 = .ok (.iconst 2, 1) := by decide +kernel
theorem dL_law_260 : decode cL_law 260 = .ok (.iadd, 1) := by decide +kernel
theorem dL_law_261 : decode cL_law 261 = .ok (.iaload, 1) := by decide +kernel
theorem dL_law_262 : decode cL_law 262 = .ok (.invokevirtual 30, 3) := by decide +kernel
theorem dL_law_265 : decode cL_law 265 = .ok (.if_icmp .eq 658, 3) := by decide +kernel
theorem dL_law_268 : decode cL_law 268 = .ok (.iconst 0, 1) := by decide +kernel
theorem dL_law_269 : decode cL_law 269 = .ok (.ireturn, 1) := by decide +kernel
theorem dL_law_270 : decode cL_law 270 = .ok (.aload_n 1, 1) := by decide +kernel
theorem dL_law_271 : decode cL_law 271 = .ok (.aload_n 0, 1) := by decide +kernel
theorem dL_law_272 : decode cL_law 272 = .ok (.iload_n 3, 1) := by decide +kernel
theorem dL_law_273 : decode cL_law 273 = .ok (.iconst 1, 1) := by decide +kernel
theorem dL_law_274 : decode cL_law 274 = .ok (.iadd, 1) := by decide +kernel
theorem dL_law_275 : decode cL_law 275 = .ok (.iaload, 1) := by decide +kernel
theorem dL_law_276 : decode cL_law 276 = .ok (.aload_n 0, 1) := by decide +kernel
theorem dL_law_277 : decode cL_law 277 = .ok (.iload_n 3, 1) := by decide +kernel
theorem dL_law_278 : decode cL_law 278 = .ok (.iconst 2, 1) := by decide +kernel
theorem dL_law_279 : decode cL_law 279 = .ok (.iadd, 1) := by decide +kernel
theorem dL_law_280 : decode cL_law 280 = .ok (.iaload, 1) := by decide +kernel
theorem dL_law_281 : decode cL_law 281 = .ok (.invokevirtual 31, 3) := by decide +kernel
theorem dL_law_284 : decode cL_law 284 = .ok (.aload_n 2, 1) := by decide +kernel
theorem dL_law_285 : decode cL_law 285 = .ok (.aload_n 0, 1) := by decide +kernel
theorem dL_law_286 : decode cL_law 286 = .ok (.iload_n 3, 1) := by decide +kernel
theorem dL_law_287 : decode cL_law 287 = .ok (.iconst 1, 1) := by decide +kernel
theorem dL_law_288 : decode cL_law 288 = .ok (.iadd, 1) := by decide +kernel
theorem dL_law_289 : decode cL_law 289 = .ok (.iaload, 1) := by decide +kernel
theorem dL_law_290 : decode cL_law 290 = .ok (.aload_n 0, 1) := by decide +kernel
theorem dL_law_291 : decode cL_law 291 = .ok (.iload_n 3, 1) := by decide +kernel
theorem dL_law_292 : decode cL_law 292 = .ok (.iconst 2, 1) := by decide +kernel
theorem dL_law_293 : decode cL_law 293 = .ok (.iadd, 1) := by decide +kernel
theorem dL_law_294 : decode cL_law 294 = .ok (.iaload, 1) := by decide +kernel
theorem dL_law_295 : decode cL_law 295 = .ok (.invokevirtual 34, 3) := by decide +kernel
theorem dL_law_298 : decode cL_law 298 = .ok (.if_icmp .eq 625, 3) := by decide +kernel
theorem dL_law_301 : decode cL_law 301 = .ok (.iconst 0, 1) := by decide +kernel
theorem dL_law_302 : decode cL_law 302 = .ok (.ireturn, 1) := by decide +kernel
theorem dL_law_303 : decode cL_law 303 = .ok (.aload_n 1, 1) := by decide +kernel
theorem dL_law_304 : decode cL_law 304 = .ok (.aload_n 0, 1) := by decide +kernel
theorem dL_law_305 : decode cL_law 305 = .ok (.iload_n 3, 1) := by decide +kernel
theorem dL_law_306 : decode cL_law 306 = .ok (.iconst 1, 1) := by decide +kernel
theorem dL_law_307 : decode cL_law 307 = .ok (.iadd, 1) := by decide +kernel
theorem dL_law_308 : decode cL_law 308 = .ok (.iaload, 1) := by decide +kernel
theorem dL_law_309 : decode cL_law 309 = .ok (.aload_n 0, 1) := by decide +kernel
theorem dL_law_310 : decode cL_law 310 = .ok (.iload_n 3, 1) := by decide +kernel
theorem dL_law_311 : decode cL_law 311 = .ok (.iconst 2, 1) := by decide +kernel
theorem dL_law_312 : decode cL_law 312 = .ok (.iadd, 1) := by decide +kernel
theorem dL_law_313 : decode cL_law 313 = .ok (.iaload, 1) := by decide +kernel
theorem dL_law_314 : decode cL_law 314 = .ok (.invokevirtual 35, 3) := by decide +kernel
theorem dL_law_317 : decode cL_law 317 = .ok (.aload_n 2, 1) := by decide +kernel
theorem dL_law_318 : decode cL_law 318 = .ok (.aload_n 0, 1) := by decide +kernel
theorem dL_law_319 : decode cL_law 319 = .ok (.iload_n 3, 1) := by decide +kernel
theorem dL_law_320 : decode cL_law 320 = .ok (.iconst 1, 1) := by decide +kernel
theorem dL_law_321 : decode cL_law 321 = .ok (.iadd, 1) := by decide +kernel
theorem dL_law_322 : decode cL_law 322 = .ok (.iaload, 1) := by decide +kernel
theorem dL_law_323 : decode cL_law 323 = .ok (.aload_n 0, 1) := by decide +kernel
theorem dL_law_324 : decode cL_law 324 = .ok (.iload_n 3, 1) := by decide +kernel
theorem dL_law_325 : decode cL_law 325 = .ok (.iconst 2, 1) := by decide +kernel
theorem dL_law_326 : decode cL_law 326 = .ok (.iadd, 1) := by decide +kernel
theorem dL_law_327 : decode cL_law 327 = .ok (.iaload, 1) := by decide +kernel
theorem dL_law_328 : decode cL_law 328 = .ok (.invokevirtual 38, 3) := by decide +kernel
theorem dL_law_331 : decode cL_law 331 = .ok (.if_icmp .eq 592, 3) := by decide +kernel
theorem dL_law_334 : decode cL_law 334 = .ok (.iconst 0, 1) := by decide +kernel
theorem dL_law_335 : decode cL_law 335 = .ok (.ireturn, 1) := by decide +kernel
theorem dL_law_336 : decode cL_law 336 = .ok (.aload_n 1, 1) := by decide +kernel
theorem dL_law_337 : decode cL_law 337 = .ok (.aload_n 0, 1) := by decide +kernel
theorem dL_law_338 : decode cL_law 338 = .ok (.iload_n 3, 1) := by decide +kernel
theorem dL_law_339 : decode cL_law 339 = .ok (.iconst 1, 1) := by decide +kernel
theorem dL_law_340 : decode cL_law 340 = .ok (.iadd, 1) := by decide +kernel
theorem dL_law_341 : decode cL_law 341 = .ok (.iaload, 1) := by decide +kernel
theorem dL_law_342 : decode cL_law 342 = .ok (.invokevirtual 39, 3) := by decide +kernel
theorem dL_law_345 : decode cL_law 345 = .ok (.aload_n 2, 1) := by decide +kernel
theorem dL_law_346 : decode cL_law 346 = .ok (.aload_n 0, 1) := by decide +kernel
theorem dL_law_347 : decode cL_law 347 = .ok (.iload_n 3, 1) := by decide +kernel
theorem dL_law_348 : decode cL_law 348 = .ok (.iconst 1, 1) := by decide +kernel
theorem dL_law_349 : decode cL_law 349 = .ok (.iadd, 1) := by decide +kernel
theorem dL_law_350 : decode cL_law 350 = .ok (.iaload, 1) := by decide +kernel
theorem dL_law_351 : decode cL_law 351 = .ok (.invokevirtual 42, 3) := by decide +kernel
theorem dL_law_354 : decode cL_law 354 = .ok (.if_icmp .eq 569, 3) := by decide +kernel
theorem dL_law_357 : decode cL_law 357 = .ok (.iconst 0, 1) := by decide +kernel
theorem dL_law_358 : decode cL_law 358 = .ok (.ireturn, 1) := by decide +kernel
theorem dL_law_359 : decode cL_law 359 = .ok (.aload_n 1, 1) := by decide +kernel
theorem dL_law_360 : decode cL_law 360 = .ok (.aload_n 0, 1) := by decide +kernel
theorem dL_law_361 : decode cL_law 361 = .ok (.iload_n 3, 1) := by decide +kernel
theorem dL_law_362 : decode cL_law 362 = .ok (.iconst 1, 1) := by decide +kernel
theorem dL_law_363 : decode cL_law 363 = .ok (.iadd, 1) := by decide +kernel
theorem dL_law_364 : decode cL_law 364 = .ok (.iaload, 1) := by decide +kernel
theorem dL_law_365 : decode cL_law 365 = .ok (.aload_n 0, 1) := by decide +kernel
theorem dL_law_366 : decode cL_law 366 = .ok (.iload_n 3, 1) := by decide +kernel
theorem dL_law_367 : decode cL_law 367 = .ok (.iconst 2, 1) := by decide +kernel
theorem dL_law_368 : decode cL_law 368 = .ok (.iadd, 1) := by decide +kernel
theorem dL_law_369 : decode cL_law 369 = .ok (.iaload, 1) := by decide +kernel
theorem dL_law_370 : decode cL_law 370 = .ok (.invokevirtual 43, 3) := by decide +kernel
theorem dL_law_373 : decode cL_law 373 = .ok (.aload_n 2, 1) := by decide +kernel
theorem dL_law_374 : decode cL_law 374 = .ok (.aload_n 0, 1) := by decide +kernel
theorem dL_law_375 : decode cL_law 375 = .ok (.iload_n 3, 1) := by decide +kernel
theorem dL_law_376 : decode cL_law 376 = .ok (.iconst 1, 1) := by decide +kernel
theorem dL_law_377 : decode cL_law 377 = .ok (.iadd, 1) := by decide +kernel
theorem dL_law_378 : decode cL_law 378 = .ok (.iaload, 1) := by decide +kernel
theorem dL_law_379 : decode cL_law 379 = .ok (.aload_n 0, 1) := by decide +kernel
theorem dL_law_380 : decode cL_law 380 = .ok (.iload_n 3, 1) := by decide +kernel
theorem dL_law_381 : decode cL_law 381 = .ok (.iconst 2, 1) := by decide +kernel
theorem dL_law_382 : decode cL_law 382 = .ok (.iadd, 1) := by decide +kernel
theorem dL_law_383 : decode cL_law 383 = .ok (.iaload, 1) := by decide +kernel
theorem dL_law_384 : decode cL_law 384 = .ok (.invokevirtual 46, 3) := by decide +kernel
theorem dL_law_387 : decode cL_law 387 = .ok (.if_icmp .eq 536, 3) := by decide +kernel
theorem dL_law_390 : decode cL_law 390 = .ok (.iconst 0, 1) := by decide +kernel
theorem dL_law_391 : decode cL_law 391 = .ok (.ireturn, 1) := by decide +kernel
theorem dL_law_392 : decode cL_law 392 = .ok (.aload_n 1, 1) := by decide +kernel
theorem dL_law_393 : decode cL_law 393 = .ok (.aload_n 0, 1) := by decide +kernel
theorem dL_law_394 : decode cL_law 394 = .ok (.iload_n 3, 1) := by decide +kernel
theorem dL_law_395 : decode cL_law 395 = .ok (.iconst 1, 1) := by decide +kernel
theorem dL_law_396 : decode cL_law 396 = .ok (.iadd, 1) := by decide +kernel
theorem dL_law_397 : decode cL_law 397 = .ok (.iaload, 1) := by decide +kernel
theorem dL_law_398 : decode cL_law 398 = .ok (.aload_n 0, 1) := by decide +kernel
theorem dL_law_399 : decode cL_law 399 = .ok (.iload_n 3, 1) := by decide +kernel
theorem dL_law_400 : decode cL_law 400 = .ok (.iconst 2, 1) := by decide +kernel
theorem dL_law_401 : decode cL_law 401 = .ok (.iadd, 1) := by decide +kernel
theorem dL_law_402 : decode cL_law 402 = .ok (.iaload, 1) := by decide +kernel
theorem dL_law_403 : decode cL_law 403 = .ok (.aload_n 0, 1) := by decide +kernel
theorem dL_law_404 : decode cL_law 404 = .ok (.iload_n 3, 1) := by decide +kernel
theorem dL_law_405 : decode cL_law 405 = .ok (.iconst 3, 1) := by decide +kernel
theorem dL_law_406 : decode cL_law 406 = .ok (.iadd, 1) := by decide +kernel
theorem dL_law_407 : decode cL_law 407 = .ok (.iaload, 1) := by decide +kernel
theorem dL_law_408 : decode cL_law 408 = .ok (.invokevirtual 47, 3) := by decide +kernel
theorem dL_law_411 : decode cL_law 411 = .ok (.aload_n 2, 1) := by decide +kernel
theorem dL_law_412 : decode cL_law 412 = .ok (.aload_n 0, 1) := by decide +kernel
theorem dL_law_413 : decode cL_law 413 = .ok (.iload_n 3, 1) := by decide +kernel
theorem dL_law_414 : decode cL_law 414 = .ok (.iconst 1, 1) := by decide +kernel
theorem dL_law_415 : decode cL_law 415 = .ok (.iadd, 1) := by decide +kernel
theorem dL_law_416 : decode cL_law 416 = .ok (.iaload, 1) := by decide +kernel
theorem dL_law_417 : decode cL_law 417 = .ok (.aload_n 0, 1) := by decide +kernel
theorem dL_law_418 : decode cL_law 418 = .ok (.iload_n 3, 1) := by decide +kernel
theorem dL_law_419 : decode cL_law 419 = .ok (.iconst 2, 1) := by decide +kernel
theorem dL_law_420 : decode cL_law 420 = .ok (.iadd, 1) := by decide +kernel
theorem dL_law_421 : decode cL_law 421 = .ok (.iaload, 1) := by decide +kernel
theorem dL_law_422 : decode cL_law 422 = .ok (.aload_n 0, 1) := by decide +kernel
theorem dL_law_423 : decode cL_law 423 = .ok (.iload_n 3, 1) := by decide +kernel
theorem dL_law_424 : decode cL_law 424 = .ok (.iconst 3, 1) := by decide +kernel
theorem dL_law_425 : decode cL_law 425 = .ok (.iadd, 1) := by decide +kernel
theorem dL_law_426 : decode cL_law 426 = .ok (.iaload, 1) := by decide +kernel
theorem dL_law_427 : decode cL_law 427 = .ok (.invokevirtual 51, 3) := by decide +kernel
theorem dL_law_430 : decode cL_law 430 = .ok (.if_icmp .eq 493, 3) := by decide +kernel
theorem dL_law_433 : decode cL_law 433 = .ok (.iconst 0, 1) := by decide +kernel
theorem dL_law_434 : decode cL_law 434 = .ok (.ireturn, 1) := by decide +kernel
theorem dL_law_435 : decode cL_law 435 = .ok (.aload_n 1, 1) := by decide +kernel
theorem dL_law_436 : decode cL_law 436 = .ok (.aload_n 0, 1) := by decide +kernel
theorem dL_law_437 : decode cL_law 437 = .ok (.iload_n 3, 1) := by decide +kernel
theorem dL_law_438 : decode cL_law 438 = .ok (.iconst 1, 1) := by decide +kernel
theorem dL_law_439 : decode cL_law 439 = .ok (.iadd, 1) := by decide +kernel
theorem dL_law_440 : decode cL_law 440 = .ok (.iaload, 1) := by decide +kernel
theorem dL_law_441 : decode cL_law 441 = .ok (.aload_n 0, 1) := by decide +kernel
theorem dL_law_442 : decode cL_law 442 = .ok (.iload_n 3, 1) := by decide +kernel
theorem dL_law_443 : decode cL_law 443 = .ok (.iconst 2, 1) := by decide +kernel
theorem dL_law_444 : decode cL_law 444 = .ok (.iadd, 1) := by decide +kernel
theorem dL_law_445 : decode cL_law 445 = .ok (.iaload, 1) := by decide +kernel
theorem dL_law_446 : decode cL_law 446 = .ok (.aload_n 0, 1) := by decide +kernel
theorem dL_law_447 : decode cL_law 447 = .ok (.iload_n 3, 1) := by decide +kernel
theorem dL_law_448 : decode cL_law 448 = .ok (.iconst 3, 1) := by decide +kernel
theorem dL_law_449 : decode cL_law 449 = .ok (.iadd, 1) := by decide +kernel
theorem dL_law_450 : decode cL_law 450 = .ok (.iaload, 1) := by decide +kernel
theorem dL_law_451 : decode cL_law 451 = .ok (.invokevirtual 52, 3) := by decide +kernel
theorem dL_law_454 : decode cL_law 454 = .ok (.aload_n 2, 1) := by decide +kernel
theorem dL_law_455 : decode cL_law 455 = .ok (.aload_n 0, 1) := by decide +kernel
theorem dL_law_456 : decode cL_law 456 = .ok (.iload_n 3, 1) := by decide +kernel
theorem dL_law_457 : decode cL_law 457 = .ok (.iconst 1, 1) := by decide +kernel
theorem dL_law_458 : decode cL_law 458 = .ok (.iadd, 1) := by decide +kernel
theorem dL_law_459 : decode cL_law 459 = .ok (.iaload, 1) := by decide +kernel
theorem dL_law_460 : decode cL_law 460 = .ok (.aload_n 0, 1) := by decide +kernel
theorem dL_law_461 : decode cL_law 461 = .ok (.iload_n 3, 1) := by decide +kernel
theorem dL_law_462 : decode cL_law 462 = .ok (.iconst 2, 1) := by decide +kernel
theorem dL_law_463 : decode cL_law 463 = .ok (.iadd, 1) := by decide +kernel
theorem dL_law_464 : decode cL_law 464 = .ok (.iaload, 1) := by decide +kernel
theorem dL_law_465 : decode cL_law 465 = .ok (.aload_n 0, 1) := by decide +kernel
theorem dL_law_466 : decode cL_law 466 = .ok (.iload_n 3, 1) := by decide +kernel
theorem dL_law_467 : decode cL_law 467 = .ok (.iconst 3, 1) := by decide +kernel
theorem dL_law_468 : decode cL_law 468 = .ok (.iadd, 1) := by decide +kernel
theorem dL_law_469 : decode cL_law 469 = .ok (.iaload, 1) := by decide +kernel
theorem dL_law_470 : decode cL_law 470 = .ok (.invokevirtual 55, 3) := by decide +kernel
theorem dL_law_473 : decode cL_law 473 = .ok (.if_icmp .eq 450, 3) := by decide +kernel
theorem dL_law_476 : decode cL_law 476 = .ok (.iconst 0, 1) := by decide +kernel
theorem dL_law_477 : decode cL_law 477 = .ok (.ireturn, 1) := by decide +kernel
theorem dL_law_478 : decode cL_law 478 = .ok (.aload_n 1, 1) := by decide +kernel
theorem dL_law_479 : decode cL_law 479 = .ok (.aload_n 0, 1) := by decide +kernel
theorem dL_law_480 : decode cL_law 480 = .ok (.iload_n 3, 1) := by decide +kernel
theorem dL_law_481 : decode cL_law 481 = .ok (.iconst 1, 1) := by decide +kernel
theorem dL_law_482 : decode cL_law 482 = .ok (.iadd, 1) := by decide +kernel
theorem dL_law_483 : decode cL_law 483 = .ok (.iaload, 1) := by decide +kernel
theorem dL_law_484 : decode cL_law 484 = .ok (.aload_n 0, 1) := by decide +kernel
theorem dL_law_485 : decode cL_law 485 = .ok (.iload_n 3, 1) := by decide +kernel
theorem dL_law_486 : decode cL_law 486 = .ok (.iconst 2, 1) := by decide +kernel
theorem dL_law_487 : decode cL_law 487 = .ok (.iadd, 1) := by decide +kernel
theorem dL_law_488 : decode cL_law 488 = .ok (.iaload, 1) := by decide +kernel
theorem dL_law_489 : decode cL_law 489 = .ok (.aload_n 0, 1) := by decide +kernel
theorem dL_law_490 : decode cL_law 490 = .ok (.iload_n 3, 1) := by decide +kernel
theorem dL_law_491 : decode cL_law 491 = .ok (.iconst 3, 1) := by decide +kernel
theorem dL_law_492 : decode cL_law 492 = .ok (.iadd, 1) := by decide +kernel
theorem dL_law_493 : decode cL_law 493 = .ok (.iaload, 1) := by decide +kernel
theorem dL_law_494 : decode cL_law 494 = .ok (.invokevirtual 56, 3) := by decide +kernel
theorem dL_law_497 : decode cL_law 497 = .ok (.aload_n 2, 1) := by decide +kernel
theorem dL_law_498 : decode cL_law 498 = .ok (.aload_n 0, 1) := by decide +kernel
theorem dL_law_499 : decode cL_law 499 = .ok (.iload_n 3, 1) := by decide +kernel
theorem dL_law_500 : decode cL_law 500 = .ok (.iconst 1, 1) := by decide +kernel
theorem dL_law_501 : decode cL_law 501 = .ok (.iadd, 1) := by decide +kernel
theorem dL_law_502 : decode cL_law 502 = .ok (.iaload, 1) := by decide +kernel
theorem dL_law_503 : decode cL_law 503 = .ok (.aload_n 0, 1) := by decide +kernel
theorem dL_law_504 : decode cL_law 504 = .ok (.iload_n 3, 1) := by decide +kernel
theorem dL_law_505 : decode cL_law 505 = .ok (.iconst 2, 1) := by decide +kernel
theorem dL_law_506 : decode cL_law 506 = .ok (.iadd, 1) := by decide +kernel
theorem dL_law_507 : decode cL_law 507 = .ok (.iaload, 1) := by decide +kernel
theorem dL_law_508 : decode cL_law 508 = .ok (.aload_n 0, 1) := by decide +kernel
theorem dL_law_509 : decode cL_law 509 = .ok (.iload_n 3, 1) := by decide +kernel
theorem dL_law_510 : decode cL_law 510 = .ok (.iconst 3, 1) := by decide +kernel
theorem dL_law_511 : decode cL_law 511 = .ok (.iadd, 1) := by decide +kernel
theorem dL_law_512 : decode cL_law 512 = .ok (.iaload, 1) := by decide +kernel
theorem dL_law_513 : decode cL_law 513 = .ok (.invokevirtual 59, 3) := by decide +kernel
theorem dL_law_516 : decode cL_law 516 = .ok (.if_icmp .eq 407, 3) := by decide +kernel
theorem dL_law_519 : decode cL_law 519 = .ok (.iconst 0, 1) := by decide +kernel
theorem dL_law_520 : decode cL_law 520 = .ok (.ireturn, 1) := by decide +kernel
theorem dL_law_521 : decode cL_law 521 = .ok (.aload_n 1, 1) := by decide +kernel
theorem dL_law_522 : decode cL_law 522 = .ok (.aload_n 0, 1) := by decide +kernel
theorem dL_law_523 : decode cL_law 523 = .ok (.iload_n 3, 1) := by decide +kernel
theorem dL_law_524 : decode cL_law 524 = .ok (.iconst 1, 1) := by decide +kernel
theorem dL_law_525 : decode cL_law 525 = .ok (.iadd, 1) := by decide +kernel
theorem dL_law_526 : decode cL_law 526 = .ok (.iaload, 1) := by decide +kernel
theorem dL_law_527 : decode cL_law 527 = .ok (.aload_n 0, 1) := by decide +kernel
theorem dL_law_528 : decode cL_law 528 = .ok (.iload_n 3, 1) := by decide +kernel
theorem dL_law_529 : decode cL_law 529 = .ok (.iconst 2, 1) := by decide +kernel
theorem dL_law_530 : decode cL_law 530 = .ok (.iadd, 1) := by decide +kernel
theorem dL_law_531 : decode cL_law 531 = .ok (.iaload, 1) := by decide +kernel
theorem dL_law_532 : decode cL_law 532 = .ok (.invokevirtual 60, 3) := by decide +kernel
theorem dL_law_535 : decode cL_law 535 = .ok (.aload_n 2, 1) := by decide +kernel
theorem dL_law_536 : decode cL_law 536 = .ok (.aload_n 0, 1) := by decide +kernel
theorem dL_law_537 : decode cL_law 537 = .ok (.iload_n 3, 1) := by decide +kernel
theorem dL_law_538 : decode cL_law 538 = .ok (.iconst 1, 1) := by decide +kernel
theorem dL_law_539 : decode cL_law 539 = .ok (.iadd, 1) := by decide +kernel
theorem dL_law_540 : decode cL_law 540 = .ok (.iaload, 1) := by decide +kernel
theorem dL_law_541 : decode cL_law 541 = .ok (.aload_n 0, 1) := by decide +kernel
theorem dL_law_542 : decode cL_law 542 = .ok (.iload_n 3, 1) := by decide +kernel
theorem dL_law_543 : decode cL_law 543 = .ok (.iconst 2, 1) := by decide +kernel
theorem dL_law_544 : decode cL_law 544 = .ok (.iadd, 1) := by decide +kernel
theorem dL_law_545 : decode cL_law 545 = .ok (.iaload, 1) := by decide +kernel
theorem dL_law_546 : decode cL_law 546 = .ok (.invokevirtual 63, 3) := by decide +kernel
theorem dL_law_549 : decode cL_law 549 = .ok (.if_icmp .eq 374, 3) := by decide +kernel
theorem dL_law_552 : decode cL_law 552 = .ok (.iconst 0, 1) := by decide +kernel
theorem dL_law_553 : decode cL_law 553 = .ok (.ireturn, 1) := by decide +kernel
theorem dL_law_554 : decode cL_law 554 = .ok (.aload_n 1, 1) := by decide +kernel
theorem dL_law_555 : decode cL_law 555 = .ok (.aload_n 0, 1) := by decide +kernel
theorem dL_law_556 : decode cL_law 556 = .ok (.iload_n 3, 1) := by decide +kernel
theorem dL_law_557 : decode cL_law 557 = .ok (.iconst 1, 1) := by decide +kernel
theorem dL_law_558 : decode cL_law 558 = .ok (.iadd, 1) := by decide +kernel
theorem dL_law_559 : decode cL_law 559 = .ok (.iaload, 1) := by decide +kernel
theorem dL_law_560 : decode cL_law 560 = .ok (.invokevirtual 64, 3) := by decide +kernel
theorem dL_law_563 : decode cL_law 563 = .ok (.aload_n 2, 1) := by decide +kernel
theorem dL_law_564 : decode cL_law 564 = .ok (.aload_n 0, 1) := by decide +kernel
theorem dL_law_565 : decode cL_law 565 = .ok (.iload_n 3, 1) := by decide +kernel
theorem dL_law_566 : decode cL_law 566 = .ok (.iconst 1, 1) := by decide +kernel
theorem dL_law_567 : decode cL_law 567 = .ok (.iadd, 1) := by decide +kernel
theorem dL_law_568 : decode cL_law 568 = .ok (.iaload, 1) := by decide +kernel
theorem dL_law_569 : decode cL_law 569 = .ok (.invokevirtual 67, 3) := by decide +kernel
theorem dL_law_572 : decode cL_law 572 = .ok (.if_icmp .eq 351, 3) := by decide +kernel
theorem dL_law_575 : decode cL_law 575 = .ok (.iconst 0, 1) := by decide +kernel
theorem dL_law_576 : decode cL_law 576 = .ok (.ireturn, 1) := by decide +kernel
theorem dL_law_577 : decode cL_law 577 = .ok (.aload_n 1, 1) := by decide +kernel
theorem dL_law_578 : decode cL_law 578 = .ok (.aload_n 0, 1) := by decide +kernel
theorem dL_law_579 : decode cL_law 579 = .ok (.iload_n 3, 1) := by decide +kernel
theorem dL_law_580 : decode cL_law 580 = .ok (.iconst 1, 1) := by decide +kernel
theorem dL_law_581 : decode cL_law 581 = .ok (.iadd, 1) := by decide +kernel
theorem dL_law_582 : decode cL_law 582 = .ok (.iaload, 1) := by decide +kernel
theorem dL_law_583 : decode cL_law 583 = .ok (.aload_n 0, 1) := by decide +kernel
theorem dL_law_584 : decode cL_law 584 = .ok (.iload_n 3, 1) := by decide +kernel
theorem dL_law_585 : decode cL_law 585 = .ok (.iconst 2, 1) := by decide +kernel
theorem dL_law_586 : decode cL_law 586 = .ok (.iadd, 1) := by decide +kernel
theorem dL_law_587 : decode cL_law 587 = .ok (.iaload, 1) := by decide +kernel
theorem dL_law_588 : decode cL_law 588 = .ok (.aload_n 0, 1) := by decide +kernel
theorem dL_law_589 : decode cL_law 589 = .ok (.iload_n 3, 1) := by decide +kernel
theorem dL_law_590 : decode cL_law 590 = .ok (.iconst 3, 1) := by decide +kernel
theorem dL_law_591 : decode cL_law 591 = .ok (.iadd, 1) := by decide +kernel
theorem dL_law_592 : decode cL_law 592 = .ok (.iaload, 1) := by decide +kernel
theorem dL_law_593 : decode cL_law 593 = .ok (.invokevirtual 68, 3) := by decide +kernel
theorem dL_law_596 : decode cL_law 596 = .ok (.aload_n 2, 1) := by decide +kernel
theorem dL_law_597 : decode cL_law 597 = .ok (.aload_n 0, 1) := by decide +kernel
theorem dL_law_598 : decode cL_law 598 = .ok (.iload_n 3, 1) := by decide +kernel
theorem dL_law_599 : decode cL_law 599 = .ok (.iconst 1, 1) := by decide +kernel
theorem dL_law_600 : decode cL_law 600 = .ok (.iadd, 1) := by decide +kernel
theorem dL_law_601 : decode cL_law 601 = .ok (.iaload, 1) := by decide +kernel
theorem dL_law_602 : decode cL_law 602 = .ok (.aload_n 0, 1) := by decide +kernel
theorem dL_law_603 : decode cL_law 603 = .ok (.iload_n 3, 1) := by decide +kernel
theorem dL_law_604 : decode cL_law 604 = .ok (.iconst 2, 1) := by decide +kernel
theorem dL_law_605 : decode cL_law 605 = .ok (.iadd, 1) := by decide +kernel
theorem dL_law_606 : decode cL_law 606 = .ok (.iaload, 1) := by decide +kernel
theorem dL_law_607 : decode cL_law 607 = .ok (.aload_n 0, 1) := by decide +kernel
theorem dL_law_608 : decode cL_law 608 = .ok (.iload_n 3, 1) := by decide +kernel
theorem dL_law_609 : decode cL_law 609 = .ok (.iconst 3, 1) := by decide +kernel
theorem dL_law_610 : decode cL_law 610 = .ok (.iadd, 1) := by decide +kernel
theorem dL_law_611 : decode cL_law 611 = .ok (.iaload, 1) := by decide +kernel
theorem dL_law_612 : decode cL_law 612 = .ok (.invokevirtual 71, 3) := by decide +kernel
theorem dL_law_615 : decode cL_law 615 = .ok (.if_icmp .eq 308, 3) := by decide +kernel
theorem dL_law_618 : decode cL_law 618 = .ok (.iconst 0, 1) := by decide +kernel
theorem dL_law_619 : decode cL_law 619 = .ok (.ireturn, 1) := by decide +kernel
theorem dL_law_620 : decode cL_law 620 = .ok (.aload_n 1, 1) := by decide +kernel
theorem dL_law_621 : decode cL_law 621 = .ok (.aload_n 0, 1) := by decide +kernel
theorem dL_law_622 : decode cL_law 622 = .ok (.iload_n 3, 1) := by decide +kernel
theorem dL_law_623 : decode cL_law 623 = .ok (.iconst 1, 1) := by decide +kernel
theorem dL_law_624 : decode cL_law 624 = .ok (.iadd, 1) := by decide +kernel
theorem dL_law_625 : decode cL_law 625 = .ok (.iaload, 1) := by decide +kernel
theorem dL_law_626 : decode cL_law 626 = .ok (.aload_n 0, 1) := by decide +kernel
theorem dL_law_627 : decode cL_law 627 = .ok (.iload_n 3, 1) := by decide +kernel
theorem dL_law_628 : decode cL_law 628 = .ok (.iconst 2, 1) := by decide +kernel
theorem dL_law_629 : decode cL_law 629 = .ok (.iadd, 1) := by decide +kernel
theorem dL_law_630 : decode cL_law 630 = .ok (.iaload, 1) := by decide +kernel
theorem dL_law_631 : decode cL_law 631 = .ok (.aload_n 0, 1) := by decide +kernel
theorem dL_law_632 : decode cL_law 632 = .ok (.iload_n 3, 1) := by decide +kernel
theorem dL_law_633 : decode cL_law 633 = .ok (.iconst 3, 1) := by decide +kernel
theorem dL_law_634 : decode cL_law 634 = .ok (.iadd, 1) := by decide +kernel
theorem dL_law_635 : decode cL_law 635 = .ok (.iaload, 1) := by decide +kernel
theorem dL_law_636 : decode cL_law 636 = .ok (.invokevirtual 72, 3) := by decide +kernel
theorem dL_law_639 : decode cL_law 639 = .ok (.aload_n 2, 1) := by decide +kernel
theorem dL_law_640 : decode cL_law 640 = .ok (.aload_n 0, 1) := by decide +kernel
theorem dL_law_641 : decode cL_law 641 = .ok (.iload_n 3, 1) := by decide +kernel
theorem dL_law_642 : decode cL_law 642 = .ok (.iconst 1, 1) := by decide +kernel
theorem dL_law_643 : decode cL_law 643 = .ok (.iadd, 1) := by decide +kernel
theorem dL_law_644 : decode cL_law 644 = .ok (.iaload, 1) := by decide +kernel
theorem dL_law_645 : decode cL_law 645 = .ok (.aload_n 0, 1) := by decide +kernel
theorem dL_law_646 : decode cL_law 646 = .ok (.iload_n 3, 1) := by decide +kernel
theorem dL_law_647 : decode cL_law 647 = .ok (.iconst 2, 1) := by decide +kernel
theorem dL_law_648 : decode cL_law 648 = .ok (.iadd, 1) := by decide +kernel
theorem dL_law_649 : decode cL_law 649 = .ok (.iaload, 1) := by decide +kernel
theorem dL_law_650 : decode cL_law 650 = .ok (.aload_n 0, 1) := by decide +kernel
theorem dL_law_651 : decode cL_law 651 = .ok (.iload_n 3, 1) := by decide +kernel
theorem dL_law_652 : decode cL_law 652 = .ok (.iconst 3, 1) := by decide +kernel
theorem dL_law_653 : decode cL_law 653 = .ok (.iadd, 1) := by decide +kernel
theorem dL_law_654 : decode cL_law 654 = .ok (.iaload, 1) := by decide +kernel
theorem dL_law_655 : decode cL_law 655 = .ok (.invokevirtual 75, 3) := by decide +kernel
theorem dL_law_658 : decode cL_law 658 = .ok (.if_icmp .eq 265, 3) := by decide +kernel
theorem dL_law_661 : decode cL_law 661 = .ok (.iconst 0, 1) := by decide +kernel
theorem dL_law_662 : decode cL_law 662 = .ok (.ireturn, 1) := by decide +kernel
theorem dL_law_663 : decode cL_law 663 = .ok (.aload_n 1, 1) := by decide +kernel
theorem dL_law_664 : decode cL_law 664 = .ok (.aload_n 0, 1) := by decide +kernel
theorem dL_law_665 : decode cL_law 665 = .ok (.iload_n 3, 1) := by decide +kernel
theorem dL_law_666 : decode cL_law 666 = .ok (.iconst 1, 1) := by decide +kernel
theorem dL_law_667 : decode cL_law 667 = .ok (.iadd, 1) := by decide +kernel
theorem dL_law_668 : decode cL_law 668 = .ok (.iaload, 1) := by decide +kernel
theorem dL_law_669 : decode cL_law 669 = .ok (.aload_n 0, 1) := by decide +kernel
theorem dL_law_670 : decode cL_law 670 = .ok (.iload_n 3, 1) := by decide +kernel
theorem dL_law_671 : decode cL_law 671 = .ok (.iconst 2, 1) := by decide +kernel
theorem dL_law_672 : decode cL_law 672 = .ok (.iadd, 1) := by decide +kernel
theorem dL_law_673 : decode cL_law 673 = .ok (.iaload, 1) := by decide +kernel
theorem dL_law_674 : decode cL_law 674 = .ok (.invokevirtual 76, 3) := by decide +kernel
theorem dL_law_677 : decode cL_law 677 = .ok (.aload_n 2, 1) := by decide +kernel
theorem dL_law_678 : decode cL_law 678 = .ok (.aload_n 0, 1) := by decide +kernel
theorem dL_law_679 : decode cL_law 679 = .ok (.iload_n 3, 1) := by decide +kernel
theorem dL_law_680 : decode cL_law 680 = .ok (.iconst 1, 1) := by decide +kernel
theorem dL_law_681 : decode cL_law 681 = .ok (.iadd, 1) := by decide +kernel
theorem dL_law_682 : decode cL_law 682 = .ok (.iaload, 1) := by decide +kernel
theorem dL_law_683 : decode cL_law 683 = .ok (.aload_n 0, 1) := by decide +kernel
theorem dL_law_684 : decode cL_law 684 = .ok (.iload_n 3, 1) := by decide +kernel
theorem dL_law_685 : decode cL_law 685 = .ok (.iconst 2, 1) := by decide +kernel
theorem dL_law_686 : decode cL_law 686 = .ok (.iadd, 1) := by decide +kernel
theorem dL_law_687 : decode cL_law 687 = .ok (.iaload, 1) := by decide +kernel
theorem dL_law_688 : decode cL_law 688 = .ok (.invokevirtual 79, 3) := by decide +kernel
theorem dL_law_691 : decode cL_law 691 = .ok (.if_icmp .eq 232, 3) := by decide +kernel
theorem dL_law_694 : decode cL_law 694 = .ok (.iconst 0, 1) := by decide +kernel
theorem dL_law_695 : decode cL_law 695 = .ok (.ireturn, 1) := by decide +kernel
theorem dL_law_696 : decode cL_law 696 = .ok (.aload_n 1, 1) := by decide +kernel
theorem dL_law_697 : decode cL_law 697 = .ok (.aload_n 0, 1) := by decide +kernel
theorem dL_law_698 : decode cL_law 698 = .ok (.iload_n 3, 1) := by decide +kernel
theorem dL_law_699 : decode cL_law 699 = .ok (.iconst 1, 1) := by decide +kernel
theorem dL_law_700 : decode cL_law 700 = .ok (.iadd, 1) := by decide +kernel
theorem dL_law_701 : decode cL_law 701 = .ok (.iaload, 1) := by decide +kernel
theorem dL_law_702 : decode cL_law 702 = .ok (.aload_n 0, 1) := by decide +kernel
theorem dL_law_703 : decode cL_law 703 = .ok (.iload_n 3, 1) := by decide +kernel
theorem dL_law_704 : decode cL_law 704 = .ok (.iconst 2, 1) := by decide +kernel
theorem dL_law_705 : decode cL_law 705 = .ok (.iadd, 1) := by decide +kernel
theorem dL_law_706 : decode cL_law 706 = .ok (.iaload, 1) := by decide +kernel
theorem dL_law_707 : decode cL_law 707 = .ok (.aload_n 0, 1) := by decide +kernel
theorem dL_law_708 : decode cL_law 708 = .ok (.iload_n 3, 1) := by decide +kernel
theorem dL_law_709 : decode cL_law 709 = .ok (.iconst 3, 1) := by decide +kernel
theorem dL_law_710 : decode cL_law 710 = .ok (.iadd, 1) := by decide +kernel
theorem dL_law_711 : decode cL_law 711 = .ok (.iaload, 1) := by decide +kernel
theorem dL_law_712 : decode cL_law 712 = .ok (.invokevirtual 80, 3) := by decide +kernel
theorem dL_law_715 : decode cL_law 715 = .ok (.aload_n 2, 1) := by decide +kernel
theorem dL_law_716 : decode cL_law 716 = .ok (.aload_n 0, 1) := by decide +kernel
theorem dL_law_717 : decode cL_law 717 = .ok (.iload_n 3, 1) := by decide +kernel
theorem dL_law_718 : decode cL_law 718 = .ok (.iconst 1, 1) := by decide +kernel
theorem dL_law_719 : decode cL_law 719 = .ok (.iadd, 1) := by decide +kernel
theorem dL_law_720 : decode cL_law 720 = .ok (.iaload, 1) := by decide +kernel
theorem dL_law_721 : decode cL_law 721 = .ok (.aload_n 0, 1) := by decide +kernel
theorem dL_law_722 : decode cL_law 722 = .ok (.iload_n 3, 1) := by decide +kernel
theorem dL_law_723 : decode cL_law 723 = .ok (.iconst 2, 1) := by decide +kernel
theorem dL_law_724 : decode cL_law 724 = .ok (.iadd, 1) := by decide +kernel
theorem dL_law_725 : decode cL_law 725 = .ok (.iaload, 1) := by decide +kernel
theorem dL_law_726 : decode cL_law 726 = .ok (.aload_n 0, 1) := by decide +kernel
theorem dL_law_727 : decode cL_law 727 = .ok (.iload_n 3, 1) := by decide +kernel
theorem dL_law_728 : decode cL_law 728 = .ok (.iconst 3, 1) := by decide +kernel
theorem dL_law_729 : decode cL_law 729 = .ok (.iadd, 1) := by decide +kernel
theorem dL_law_730 : decode cL_law 730 = .ok (.iaload, 1) := by decide +kernel
theorem dL_law_731 : decode cL_law 731 = .ok (.invokevirtual 83, 3) := by decide +kernel
theorem dL_law_734 : decode cL_law 734 = .ok (.if_icmp .eq 189, 3) := by decide +kernel
theorem dL_law_737 : decode cL_law 737 = .ok (.iconst 0, 1) := by decide +kernel
theorem dL_law_738 : decode cL_law 738 = .ok (.ireturn, 1) := by decide +kernel
theorem dL_law_739 : decode cL_law 739 = .ok (.aload_n 1, 1) := by decide +kernel
theorem dL_law_740 : decode cL_law 740 = .ok (.invokevirtual 84, 3) := by decide +kernel
theorem dL_law_743 : decode cL_law 743 = .ok (.aload_n 2, 1) := by decide +kernel
theorem dL_law_744 : decode cL_law 744 = .ok (.invokevirtual 88, 3) := by decide +kernel
theorem dL_law_747 : decode cL_law 747 = .ok (.if_icmp .eq 176, 3) := by decide +kernel
theorem dL_law_750 : decode cL_law 750 = .ok (.iconst 0, 1) := by decide +kernel
theorem dL_law_751 : decode cL_law 751 = .ok (.ireturn, 1) := by decide +kernel
theorem dL_law_752 : decode cL_law 752 = .ok (.aload_n 1, 1) := by decide +kernel
theorem dL_law_753 : decode cL_law 753 = .ok (.aload_n 0, 1) := by decide +kernel
theorem dL_law_754 : decode cL_law 754 = .ok (.iload_n 3, 1) := by decide +kernel
theorem dL_law_755 : decode cL_law 755 = .ok (.iconst 1, 1) := by decide +kernel
theorem dL_law_756 : decode cL_law 756 = .ok (.iadd, 1) := by decide +kernel
theorem dL_law_757 : decode cL_law 757 = .ok (.iaload, 1) := by decide +kernel
theorem dL_law_758 : decode cL_law 758 = .ok (.invokevirtual 89, 3) := by decide +kernel
theorem dL_law_761 : decode cL_law 761 = .ok (.aload_n 2, 1) := by decide +kernel
theorem dL_law_762 : decode cL_law 762 = .ok (.aload_n 0, 1) := by decide +kernel
theorem dL_law_763 : decode cL_law 763 = .ok (.iload_n 3, 1) := by decide +kernel
theorem dL_law_764 : decode cL_law 764 = .ok (.iconst 1, 1) := by decide +kernel
theorem dL_law_765 : decode cL_law 765 = .ok (.iadd, 1) := by decide +kernel
theorem dL_law_766 : decode cL_law 766 = .ok (.iaload, 1) := by decide +kernel
theorem dL_law_767 : decode cL_law 767 = .ok (.invokevirtual 92, 3) := by decide +kernel
theorem dL_law_770 : decode cL_law 770 = .ok (.if_icmp .eq 153, 3) := by decide +kernel
theorem dL_law_773 : decode cL_law 773 = .ok (.iconst 0, 1) := by decide +kernel
theorem dL_law_774 : decode cL_law 774 = .ok (.ireturn, 1) := by decide +kernel
theorem dL_law_775 : decode cL_law 775 = .ok (.aload_n 1, 1) := by decide +kernel
theorem dL_law_776 : decode cL_law 776 = .ok (.aload_n 0, 1) := by decide +kernel
theorem dL_law_777 : decode cL_law 777 = .ok (.iload_n 3, 1) := by decide +kernel
theorem dL_law_778 : decode cL_law 778 = .ok (.iconst 1, 1) := by decide +kernel
theorem dL_law_779 : decode cL_law 779 = .ok (.iadd, 1) := by decide +kernel
theorem dL_law_780 : decode cL_law 780 = .ok (.iaload, 1) := by decide +kernel
theorem dL_law_781 : decode cL_law 781 = .ok (.invokevirtual 93, 3) := by decide +kernel
theorem dL_law_784 : decode cL_law 784 = .ok (.aload_n 2, 1) := by decide +kernel
theorem dL_law_785 : decode cL_law 785 = .ok (.aload_n 0, 1) := by decide +kernel
theorem dL_law_786 : decode cL_law 786 = .ok (.iload_n 3, 1) := by decide +kernel
theorem dL_law_787 : decode cL_law 787 = .ok (.iconst 1, 1) := by decide +kernel
theorem dL_law_788 : decode cL_law 788 = .ok (.iadd, 1) := by decide +kernel
theorem dL_law_789 : decode cL_law 789 = .ok (.iaload, 1) := by decide +kernel
theorem dL_law_790 : decode cL_law 790 = .ok (.invokevirtual 96, 3) := by decide +kernel
theorem dL_law_793 : decode cL_law 793 = .ok (.if_icmp .eq 130, 3) := by decide +kernel
theorem dL_law_796 : decode cL_law 796 = .ok (.iconst 0, 1) := by decide +kernel
theorem dL_law_797 : decode cL_law 797 = .ok (.ireturn, 1) := by decide +kernel
theorem dL_law_798 : decode cL_law 798 = .ok (.aload_n 1, 1) := by decide +kernel
theorem dL_law_799 : decode cL_law 799 = .ok (.aload_n 0, 1) := by decide +kernel
theorem dL_law_800 : decode cL_law 800 = .ok (.iload_n 3, 1) := by decide +kernel
theorem dL_law_801 : decode cL_law 801 = .ok (.iconst 1, 1) := by decide +kernel
theorem dL_law_802 : decode cL_law 802 = .ok (.iadd, 1) := by decide +kernel
theorem dL_law_803 : decode cL_law 803 = .ok (.iaload, 1) := by decide +kernel
theorem dL_law_804 : decode cL_law 804 = .ok (.aload_n 0, 1) := by decide +kernel
theorem dL_law_805 : decode cL_law 805 = .ok (.iload_n 3, 1) := by decide +kernel
theorem dL_law_806 : decode cL_law 806 = .ok (.iconst 2, 1) := by decide +kernel
theorem dL_law_807 : decode cL_law 807 = .ok (.iadd, 1) := by decide +kernel
theorem dL_law_808 : decode cL_law 808 = .ok (.iaload, 1) := by decide +kernel
theorem dL_law_809 : decode cL_law 809 = .ok (.aload_n 0, 1) := by decide +kernel
theorem dL_law_810 : decode cL_law 810 = .ok (.iload_n 3, 1) := by decide +kernel
theorem dL_law_811 : decode cL_law 811 = .ok (.iconst 3, 1) := by decide +kernel
theorem dL_law_812 : decode cL_law 812 = .ok (.iadd, 1) := by decide +kernel
theorem dL_law_813 : decode cL_law 813 = .ok (.iaload, 1) := by decide +kernel
theorem dL_law_814 : decode cL_law 814 = .ok (.invokevirtual 97, 3) := by decide +kernel
theorem dL_law_817 : decode cL_law 817 = .ok (.aload_n 2, 1) := by decide +kernel
theorem dL_law_818 : decode cL_law 818 = .ok (.aload_n 0, 1) := by decide +kernel
theorem dL_law_819 : decode cL_law 819 = .ok (.iload_n 3, 1) := by decide +kernel
theorem dL_law_820 : decode cL_law 820 = .ok (.iconst 1, 1) := by decide +kernel
theorem dL_law_821 : decode cL_law 821 = .ok (.iadd, 1) := by decide +kernel
theorem dL_law_822 : decode cL_law 822 = .ok (.iaload, 1) := by decide +kernel
theorem dL_law_823 : decode cL_law 823 = .ok (.aload_n 0, 1) := by decide +kernel
theorem dL_law_824 : decode cL_law 824 = .ok (.iload_n 3, 1) := by decide +kernel
theorem dL_law_825 : decode cL_law 825 = .ok (.iconst 2, 1) := by decide +kernel
theorem dL_law_826 : decode cL_law 826 = .ok (.iadd, 1) := by decide +kernel
theorem dL_law_827 : decode cL_law 827 = .ok (.iaload, 1) := by decide +kernel
theorem dL_law_828 : decode cL_law 828 = .ok (.aload_n 0, 1) := by decide +kernel
theorem dL_law_829 : decode cL_law 829 = .ok (.iload_n 3, 1) := by decide +kernel
theorem dL_law_830 : decode cL_law 830 = .ok (.iconst 3, 1) := by decide +kernel
theorem dL_law_831 : decode cL_law 831 = .ok (.iadd, 1) := by decide +kernel
theorem dL_law_832 : decode cL_law 832 = .ok (.iaload, 1) := by decide +kernel
theorem dL_law_833 : decode cL_law 833 = .ok (.invokevirtual 100, 3) := by decide +kernel
theorem dL_law_836 : decode cL_law 836 = .ok (.if_icmp .eq 87, 3) := by decide +kernel
theorem dL_law_839 : decode cL_law 839 = .ok (.iconst 0, 1) := by decide +kernel
theorem dL_law_840 : decode cL_law 840 = .ok (.ireturn, 1) := by decide +kernel
theorem dL_law_841 : decode cL_law 841 = .ok (.aload_n 1, 1) := by decide +kernel
theorem dL_law_842 : decode cL_law 842 = .ok (.invokevirtual 101, 3) := by decide +kernel
theorem dL_law_845 : decode cL_law 845 = .ok (.aload_n 2, 1) := by decide +kernel
theorem dL_law_846 : decode cL_law 846 = .ok (.invokevirtual 104, 3) := by decide +kernel
theorem dL_law_849 : decode cL_law 849 = .ok (.if_icmp .eq 74, 3) := by decide +kernel
theorem dL_law_852 : decode cL_law 852 = .ok (.iconst 0, 1) := by decide +kernel
theorem dL_law_853 : decode cL_law 853 = .ok (.ireturn, 1) := by decide +kernel
theorem dL_law_854 : decode cL_law 854 = .ok (.aload_n 1, 1) := by decide +kernel
theorem dL_law_855 : decode cL_law 855 = .ok (.aload_n 0, 1) := by decide +kernel
theorem dL_law_856 : decode cL_law 856 = .ok (.iload_n 3, 1) := by decide +kernel
theorem dL_law_857 : decode cL_law 857 = .ok (.iconst 1, 1) := by decide +kernel
theorem dL_law_858 : decode cL_law 858 = .ok (.iadd, 1) := by decide +kernel
theorem dL_law_859 : decode cL_law 859 = .ok (.iaload, 1) := by decide +kernel
theorem dL_law_860 : decode cL_law 860 = .ok (.invokevirtual 105, 3) := by decide +kernel
theorem dL_law_863 : decode cL_law 863 = .ok (.aload_n 2, 1) := by decide +kernel
theorem dL_law_864 : decode cL_law 864 = .ok (.aload_n 0, 1) := by decide +kernel
theorem dL_law_865 : decode cL_law 865 = .ok (.iload_n 3, 1) := by decide +kernel
theorem dL_law_866 : decode cL_law 866 = .ok (.iconst 1, 1) := by decide +kernel
theorem dL_law_867 : decode cL_law 867 = .ok (.iadd, 1) := by decide +kernel
theorem dL_law_868 : decode cL_law 868 = .ok (.iaload, 1) := by decide +kernel
theorem dL_law_869 : decode cL_law 869 = .ok (.invokevirtual 108, 3) := by decide +kernel
theorem dL_law_872 : decode cL_law 872 = .ok (.if_icmp .eq 51, 3) := by decide +kernel
theorem dL_law_875 : decode cL_law 875 = .ok (.iconst 0, 1) := by decide +kernel
theorem dL_law_876 : decode cL_law 876 = .ok (.ireturn, 1) := by decide +kernel
theorem dL_law_877 : decode cL_law 877 = .ok (.aload_n 1, 1) := by decide +kernel
theorem dL_law_878 : decode cL_law 878 = .ok (.aload_n 0, 1) := by decide +kernel
theorem dL_law_879 : decode cL_law 879 = .ok (.iload_n 3, 1) := by decide +kernel
theorem dL_law_880 : decode cL_law 880 = .ok (.iconst 1, 1) := by decide +kernel
theorem dL_law_881 : decode cL_law 881 = .ok (.iadd, 1) := by decide +kernel
theorem dL_law_882 : decode cL_law 882 = .ok (.iaload, 1) := by decide +kernel
theorem dL_law_883 : decode cL_law 883 = .ok (.invokevirtual 109, 3) := by decide +kernel
theorem dL_law_886 : decode cL_law 886 = .ok (.aload_n 2, 1) := by decide +kernel
theorem dL_law_887 : decode cL_law 887 = .ok (.aload_n 0, 1) := by decide +kernel
theorem dL_law_888 : decode cL_law 888 = .ok (.iload_n 3, 1) := by decide +kernel
theorem dL_law_889 : decode cL_law 889 = .ok (.iconst 1, 1) := by decide +kernel
theorem dL_law_890 : decode cL_law 890 = .ok (.iadd, 1) := by decide +kernel
theorem dL_law_891 : decode cL_law 891 = .ok (.iaload, 1) := by decide +kernel
theorem dL_law_892 : decode cL_law 892 = .ok (.invokevirtual 112, 3) := by decide +kernel
theorem dL_law_895 : decode cL_law 895 = .ok (.if_icmp .eq 28, 3) := by decide +kernel
theorem dL_law_898 : decode cL_law 898 = .ok (.iconst 0, 1) := by decide +kernel
theorem dL_law_899 : decode cL_law 899 = .ok (.ireturn, 1) := by decide +kernel
theorem dL_law_900 : decode cL_law 900 = .ok (.aload_n 1, 1) := by decide +kernel
theorem dL_law_901 : decode cL_law 901 = .ok (.aload_n 0, 1) := by decide +kernel
theorem dL_law_902 : decode cL_law 902 = .ok (.iload_n 3, 1) := by decide +kernel
theorem dL_law_903 : decode cL_law 903 = .ok (.iconst 1, 1) := by decide +kernel
theorem dL_law_904 : decode cL_law 904 = .ok (.iadd, 1) := by decide +kernel
theorem dL_law_905 : decode cL_law 905 = .ok (.iaload, 1) := by decide +kernel
theorem dL_law_906 : decode cL_law 906 = .ok (.invokevirtual 113, 3) := by decide +kernel
theorem dL_law_909 : decode cL_law 909 = .ok (.aload_n 2, 1) := by decide +kernel
theorem dL_law_910 : decode cL_law 910 = .ok (.aload_n 0, 1) := by decide +kernel
theorem dL_law_911 : decode cL_law 911 = .ok (.iload_n 3, 1) := by decide +kernel
theorem dL_law_912 : decode cL_law 912 = .ok (.iconst 1, 1) := by decide +kernel
theorem dL_law_913 : decode cL_law 913 = .ok (.iadd, 1) := by decide +kernel
theorem dL_law_914 : decode cL_law 914 = .ok (.iaload, 1) := by decide +kernel
theorem dL_law_915 : decode cL_law 915 = .ok (.invokevirtual 116, 3) := by decide +kernel
theorem dL_law_918 : decode cL_law 918 = .ok (.if_icmp .eq 5, 3) := by decide +kernel
theorem dL_law_921 : decode cL_law 921 = .ok (.iconst 0, 1) := by decide +kernel
theorem dL_law_922 : decode cL_law 922 = .ok (.ireturn, 1) := by decide +kernel
theorem dL_law_923 : decode cL_law 923 = .ok (.iinc 3 4, 3) := by decide +kernel
theorem dL_law_926 : decode cL_law 926 = .ok (.goto (-908), 3) := by decide +kernel
theorem dL_law_929 : decode cL_law 929 = .ok (.iconst 1, 1) := by decide +kernel
theorem dL_law_930 : decode cL_law 930 = .ok (.ireturn, 1) := by decide +kernel
end
section
/-! MY BASE: pure partial functions, one word list for all methods, contracts in two forms (reads only; writes), rows for calls. -/
def gd {α : Type} (b : Bool) (k : Option α) : Option α := bif b then k else none
theorem gd_some {α : Type} {b : Bool} {k : Option α} {v : α} (h : gd b k = some v) : b = true ∧ k = some v := by
  cases b with
  | false => exact absurd h (by simp [gd])
  | true => exact ⟨rfl, h⟩
def bd {α β : Type} (x : Option α) (k : α → Option β) : Option β := x.bind k
theorem bd_some {α β : Type} {x : Option α} {k : α → Option β} {v : β} (h : bd x k = some v) : ∃ q, x = some q ∧ k q = some v := by
  cases x with
  | none => exact absurd h (by simp [bd])
  | some q => exact ⟨q, rfl, h⟩
theorem ite_t {α : Type} {c : Prop} [Decidable c] {a b v : α} (hc : c) (h : (if c then a else b) = v) : a = v := by rw [if_pos hc] at h; exact h
theorem ite_f {α : Type} {c : Prop} [Decidable c] {a b v : α} (hc : ¬ c) (h : (if c then a else b) = v) : b = v := by rw [if_neg hc] at h; exact h
def ck (i : Int32) (n : Nat) : Bool := !(decide (i < 0) || decide (n ≤ i.toNatClampNeg))
theorem ck_in {i : Int32} {n : Nat} (h : ck i n = true) : vp_in i n := by
  intro q
  rcases q with q | q
  · simp [ck, q] at h
  · simp [ck, q] at h
def nz (i : Int32) : Bool := !(decide (i = 0))
theorem nz_ne {i : Int32} (h : nz i = true) : ¬ i = 0 := by intro q; simp [nz, q] at h
def bz (i : Int32) : Bool := decide (i = 0) || decide (i = 1)
theorem bz_or {i : Int32} (h : bz i = true) : i = 0 ∨ i = 1 := by simpa [bz] using h
def cpy (sp dp n : Int32) (n0 n1 : Nat) : Bool := !(decide (sp < 0)) && !(decide (dp < 0)) && !(decide (n < 0)) && decide (sp.toNatClampNeg + n.toNatClampNeg ≤ n0) && decide (dp.toNatClampNeg + n.toNatClampNeg ≤ n1)
theorem cpy_all {sp dp n : Int32} {n0 n1 : Nat} (h : cpy sp dp n n0 n1 = true) : (((¬ sp < 0 ∧ ¬ dp < 0) ∧ ¬ n < 0) ∧ sp.toNatClampNeg + n.toNatClampNeg ≤ n0) ∧ dp.toNatClampNeg + n.toNatClampNeg ≤ n1 := by
  simpa only [cpy, Bool.and_eq_true, Bool.not_eq_true', decide_eq_false_iff_not, decide_eq_true_eq] using h
theorem cpy_1 {sp dp n : Int32} {n0 n1 : Nat} (h : cpy sp dp n n0 n1 = true) : ¬ sp < 0 := (cpy_all h).1.1.1.1
theorem cpy_2 {sp dp n : Int32} {n0 n1 : Nat} (h : cpy sp dp n n0 n1 = true) : ¬ dp < 0 := (cpy_all h).1.1.1.2
theorem cpy_3 {sp dp n : Int32} {n0 n1 : Nat} (h : cpy sp dp n n0 n1 = true) : ¬ n < 0 := (cpy_all h).1.1.2
theorem cpy_4 {sp dp n : Int32} {n0 n1 : Nat} (h : cpy sp dp n n0 n1 = true) : sp.toNatClampNeg + n.toNatClampNeg ≤ n0 := (cpy_all h).1.2
theorem cpy_5 {sp dp n : Int32} {n0 n1 : Nat} (h : cpy sp dp n n0 n1 = true) : dp.toNatClampNeg + n.toNatClampNeg ≤ n1 := (cpy_all h).2
/-- an object's numbers: row 0 its int fields, row i its i-th array -/
abbrev Ob : Type := Nat → Nat → Int32
def sA (w : Ob) (i : Nat) (g : Nat → Int32) : Ob := fun a => bif Nat.beq a i then g else w a
abbrev kTy (cI cZ cR : ClassId) : List (ClassId × FieldType) := [(cI, .int), (cZ, .boolean), (cR, .object RX4)]
def kNest : List (String × Nat × MethodName × String) := [(RX6, 9, yX4_init, "FixedFacts"), (RX3, 17, yX4_init, "FixedFacts"), (RX6, 25, yX1_init, "FixedFacts"), (RX1, 9, yX4_init, "FixedFacts"), (RX6, 35, yX0_init, "FixedFacts"), (RX6, 42, yX5_init, "FixedFacts"), (RX6, 52, yX2_init, "FixedFacts"), (RX4, 96, yX6_valueOf, "FixedFacts"), (RX4, 100, yX6_setOf, "FixedFacts")]
def KN (D : va_G) (cI cZ cR : ClassId) (U : State) : Prop := va_K D vwCl (kTy cI cZ cR) U ∧ ∀ q ∈ kNest, va_Nw (.methodLinkNest q.1 q.2.1 q.2.2.1 q.2.2.2) U
theorem KN.moved {D : va_G} {cI cZ cR : ClassId} {s U : State} (hW : s.WarmedH U.vm) (h : KN D cI cZ cR s) : KN D cI cZ cR U := ⟨va_K.moved hW.alike h.1, fun q hq => va_Nw.warmM hW (h.2 q hq)⟩
theorem KN.blind {D : va_G} {cI cZ cR : ClassId} {U : State} {g : JFrame} {mk : MethodId} {a : Array Value} (h : KN D cI cZ cR U) : KN D cI cZ cR (U.calling g mk a) := ⟨va_K.moved (u := U) (U := U.calling g mk a) (Vm.Alike.refl U.vm) h.1, fun q hq => va_Nw.same rfl rfl (h.2 q hq)⟩
def kPr (D : va_G) (cI cZ cR : ClassId) (wc : va_W) : State → Prop := fun U => KN D cI cZ cR U ∧ va_P D vwCl wc U.heap
def kPw (D : va_G) (cI cZ cR : ClassId) (wc : va_W) (sz : Nat) : State → Prop := fun U => U.heap.size = sz ∧ KN D cI cZ cR U ∧ va_P D vwCl wc U.heap ∧ va_D (fun _ => True) wc
theorem kPr_blind {D : va_G} {cI cZ cR : ClassId} {wc : va_W} {av : List Value} : FrameBlind (va_Pc av (kPr D cI cZ cR wc)) := fun _ _ _ _ q => ⟨q.1, q.2.1.blind, q.2.2⟩
theorem kPw_blind {D : va_G} {cI cZ cR : ClassId} {wc : va_W} {sz : Nat} {av : List Value} : FrameBlind (va_Pc av (kPw D cI cZ cR wc sz)) := fun _ _ _ _ q => ⟨q.1, q.2.1, q.2.2.1.blind, q.2.2.2⟩
abbrev wM (y : MethodName) (b : ByteArray) (n : Nat) (r : Option FieldType) : List Cond := Cond.code y b n r :: wT
/-- what is the same at every call of a method -/
def kMS (y : MethodName) (b : ByteArray) (n : Nat) (r : Option FieldType) (k : Nat) : Prop := Cond.code y b n r ∈ wT ∧ Cond.initialized y.cls ∈ wT ∧ (y.cls ≠ "java/lang/invoke/MethodHandle" ∧ y.cls ≠ "java/lang/invoke/VarHandle" ∧ (parseMethodDescriptor y.desc).map (fun d => d.parameters.length) = some k)
def kMV (y : MethodName) : Prop := Cond.instanceMethod y ∈ wT ∧ Cond.selects y.cls y y ∈ wT
theorem kGI {y : MethodName} {b : ByteArray} {n : Nat} {r : Option FieldType} (h : Cond.code y b n r ∈ wT) : GoodIn wT (wM y b n r) := fun w hw => (List.mem_cons.mp hw).elim (fun e => by rw [e]; exact ⟨h, kGood _ h⟩) (fun h => ⟨h, kGood w h⟩)
abbrev kCr (l : Launch) (y : MethodName) (cc : ByteArray) (maxL : Nat) (ret : Option FieldType) (rm : Room) (av : List Value) (D : va_G) (cI cZ cR : ClassId) (wc : va_W) (r : Int32) : Prop := Met l y (wM y cc maxL ret) rm (va_Pc av (kPr D cI cZ cR wc)) (vp_Si fun q => q = r) 0 0 (fun _ => False)
abbrev kCi (l : Launch) (y : MethodName) (cc : ByteArray) (maxL : Nat) (ret : Option FieldType) (rm : Room) (av : List Value) (D : va_G) (cI cZ cR : ClassId) (wc : va_W) (sz : Nat) (wd : va_W) (r : Int32) : Prop := Met l y (wM y cc maxL ret) rm (va_Pc av (kPw D cI cZ cR wc sz)) (va_Qi (fun q (_ : Unit) => q = r) (fun _ t => va_P D vwCl wd t.heap ∧ va_D (va_A wc sz) wd) (va_A wc sz)) 0 0 (va_A wc sz)
abbrev kCv (l : Launch) (y : MethodName) (cc : ByteArray) (maxL : Nat) (ret : Option FieldType) (rm : Room) (av : List Value) (D : va_G) (cI cZ cR : ClassId) (wc : va_W) (sz : Nat) (wd : va_W) : Prop := Met l y (wM y cc maxL ret) rm (va_Pc av (kPw D cI cZ cR wc sz)) (va_Qv (fun (_ : Unit) => True) (fun _ t => va_P D vwCl wd t.heap ∧ va_D (va_A wc sz) wd) (va_A wc sz)) 0 0 (va_A wc sz)
theorem no_none {α : Type} {v : α} {P : Prop} (h : (none : Option α) = some v) : P := by cases h
def sI (w : Ob) (k : Nat) (v : Int32) : Ob := sA w 0 (fun b => bif Nat.beq b k then v else w 0 b)
abbrev cWeb (cI : ClassId) (a a1 a2 a3 a4 a5 a6 a7 a8 a9 : Nat) (w : Ob) : va_W := [(a, .inr (4, [.int (w 0 0), .int (w 0 1), .int (w 0 2), .ref a1, .ref a2, .ref a3, .ref a4, .ref a5, .ref a6, .ref a7, .ref a8, .ref a9])), (a1, .inl (cI, 64, .inl (w 1))), (a2, .inl (cI, 10, .inl (w 2))), (a3, .inl (cI, 10, .inl (w 3))), (a4, .inl (cI, 20, .inl (w 4))), (a5, .inl (cI, 20, .inl (w 5))), (a6, .inl (cI, 160, .inl (w 6))), (a7, .inl (cI, 20, .inl (w 7))), (a8, .inl (cI, 20, .inl (w 8))), (a9, .inl (cI, 20, .inl (w 9)))]
abbrev cArr (cI : ClassId) (n a : Nat) (g : Nat → Int32) : va_W := [(a, .inl (cI, n, .inl g))]
abbrev cWork (cI : ClassId) (a a1 a2 : Nat) (w : Ob) : va_W := [(a, .inr (5, [.ref a1, .ref a2, .int (w 0 0)])), (a1, .inl (cI, 10, .inl (w 1))), (a2, .inl (cI, 10, .inl (w 2)))]
abbrev cJudge (cI : ClassId) (a a1 : Nat) (w : Ob) : va_W := [(a, .inr (2, [.ref a1])), (a1, .inl (cI, 10, .inl (w 1)))]
abbrev cBook (cI : ClassId) (a a1 a2 : Nat) (w : Ob) : va_W := [(a, .inr (0, [.int (w 0 0), .ref a1, .ref a2])), (a1, .inl (cI, 20, .inl (w 1))), (a2, .inl (cI, 20, .inl (w 2)))]
abbrev cModel (cI cZ : ClassId) (a a1 a2 a3 a4 a5 a6 a7 a8 a9 : Nat) (w : Ob) : va_W := [(a, .inr (7, [.ref a1, .ref a2, .int (w 0 2), .ref a3, .ref a4, .int (w 0 5), .ref a5, .int (w 0 7), .ref a6, .ref a7, .ref a8, .int (w 0 11), .int (w 0 12), .int (w 0 13), .int (w 0 14), .ref a9, .int (w 0 16)])), (a1, .inl (cI, 367, .inl (w 1))), (a2, .inl (cI, 5872, .inl (w 2))), (a3, .inl (cI, 736, .inl (w 3))), (a4, .inl (cZ, 2, .inl (w 4))), (a5, .inl (cI, 60, .inl (w 5))), (a6, .inl (cI, 20, .inl (w 6))), (a7, .inl (cI, 20, .inl (w 7))), (a8, .inl (cI, 20, .inl (w 8))), (a9, .inl (cI, 10, .inl (w 9)))]
section KB
variable {p : Program} {l : Launch} {e : Env} {R : Room} {s : State} {m : MethodId} {args : Array Value} {below : List Frame} {meth : Method} {c : Code} {H : Heap} {locs : List Loc} {cells slots : Nat} {Q : State → Prop}
variable {D : va_G} {cI cZ cR : ClassId} {cc bytes : ByteArray} {nL maxL index n pc : Nat} {own : String} {y : MethodName} {ret : Option FieldType} {rm : Room} {b : Nat} {As rest : List Value} {ls : Array Slot} {wc wd : va_W} {r v : Int32} {A : Nat → Prop} {sz : Nat}
theorem kCB {mc ms : Nat} (ht : ∀ w ∈ wT, w.before args s = true) (hs : kMS y bytes maxL ret n) (hl : Cond.methodLink own index y ∈ wT) (hrc : rm.cells = mc) (hrs : rm.slots = ms) (hR : rm.frames + 1 ≤ R.frames ∧ 8 + (maxL + 11) + rm.locals ≤ R.locals) : CallB R s args own index y bytes maxL ret (wM y bytes maxL ret) rm mc ms n :=
  callB_of n ht (kGI hs.1) rfl hrc hrs (ht _ hs.2.1) (ht _ hl) hs.2.2 hR
theorem kCW {mc ms : Nat} (ht : ∀ w ∈ wT, w.before args s = true) (hs : kMS y bytes maxL ret n) (hv : kMV y) (hl : Cond.methodLink own index y ∈ wT) (hrc : rm.cells = mc) (hrs : rm.slots = ms) (hR : rm.frames + 1 ≤ R.frames ∧ 8 + (maxL + 11) + rm.locals ≤ R.locals) : CallW R s args own y.cls index y bytes maxL ret (wM y bytes maxL ret) rm mc ms n :=
  ⟨kCB ht hs hl hrc hrs hR, ht _ hv.1, ht _ hv.2⟩
/-- behind a call that reads only -/
theorem kx_si {post : Int32 → Prop} {a : Array Value} {st0 : List Value} (hr : va_Run p l e R s m args below meth c H locs cells slots 0 0 (F0 m pc ls st0) rest (vp_Si post a) (fun _ => False))
    (kk : ∀ r : Int32, post r → W p l e R s m args below meth c H locs cells slots Q (F0 m (pc + 3) ls (.int r :: rest))) : W p l e R s m args below meth c H locs cells slots Q (F0 m pc ls st0) := by
  intro T hT X
  obtain ⟨v, st₀, t, T', L, h0, X', hL, e1, e2, ⟨r, hv, hp, hh⟩, st⟩ := hr T hT X
  cases hv
  obtain ⟨t2, a1, b1⟩ := kk r hp T' (by rw [e1, hh, h0]) (Stand.forget X' (fun q h => (hL q h).elim))
  exact ⟨t2, st t2 a1, b1⟩
/-- a call of an instance method that reads only -/
theorem kx_rv (hx : p.tables.exec = Jvm.exec) (hb : c.code = cc) (hml : c.maxLocals = nL) (hown : s.vm.findClass own = some m.cls) (hts : ∀ w ∈ wT, w.before args s = true) (hk : KN D cI cZ cR s) (hP : va_P D vwCl wc H) (hsz : ls.size = nL)
    (hs : kMS y bytes maxL ret n) (hv : kMV y) (hM : Met l y (wM y bytes maxL ret) rm (va_Pc (.ref b :: As) (kPr D cI cZ cR wc)) (vp_Si fun q => q = r) 0 0 (fun _ => False))
    (hl : Cond.methodLink own index y ∈ wT) (hrc : rm.cells = 0) (hrs : rm.slots = 0) (hR : rm.frames + 1 ≤ R.frames ∧ 8 + (maxL + 11) + rm.locals ≤ R.locals)
    {ci q0 N : Nat} {T : u_T} {fs : List Value} (hcl : vwCl[ci]? = some (y.cls, T, N)) (he : wc[q0]? = some (b, .inr (ci, fs))) (hn : As.length = n) (hW : (rest.map fun v => v.category).sum ≤ 8) (hc : cells ≤ R.cells ∧ slots ≤ R.slots) (hdg : decode cc pc = .ok (.invokevirtual index, 3))
    (kk : W p l e R s m args below meth c H locs cells slots Q (F0 m (pc + 3) ls (.int r :: rest))) : W p l e R s m args below meth c H locs cells slots Q (F0 m pc ls (As.reverse ++ .ref b :: rest)) :=
  kx_si (va_runV (As := As) (rest := rest) ⟨hx, hb, hml, hown, hts⟩ hM (kCW hts hs hv hl hrc hrs hR) ⟨kPr_blind, va_recv hk.1 hP hcl he, fun U hU hW' => ⟨rfl, hk.moved hW', by rw [hU]; exact hP⟩⟩ rfl hn hsz rfl (lv_room hW) hdg hc) (fun q hq => by rw [hq]; exact kk)
/-- a call of a static method of the same class that reads only -/
theorem kx_rs (hx : p.tables.exec = Jvm.exec) (hb : c.code = cc) (hml : c.maxLocals = nL) (hown : s.vm.findClass own = some m.cls) (hts : ∀ w ∈ wT, w.before args s = true) (hk : KN D cI cZ cR s) (hsz : ls.size = nL)
    (hs : kMS y bytes maxL ret n) (hv : Cond.static y ∈ wT) (hM : Met l y (wM y bytes maxL ret) rm (va_Pc As (kPr D cI cZ cR [])) (vp_Si fun q => q = r) 0 0 (fun _ => False))
    (hl : Cond.methodLink own index y ∈ wT) (hrc : rm.cells = 0) (hrs : rm.slots = 0) (hR : rm.frames + 1 ≤ R.frames ∧ 8 + (maxL + 11) + rm.locals ≤ R.locals)
    (hn : As.length = n) (hW : (rest.map fun v => v.category).sum ≤ 8) (hc : cells ≤ R.cells ∧ slots ≤ R.slots) (hdg : decode cc pc = .ok (.invokestatic index, 3))
    (kk : W p l e R s m args below meth c H locs cells slots Q (F0 m (pc + 3) ls (.int r :: rest))) : W p l e R s m args below meth c H locs cells slots Q (F0 m pc ls (As.reverse ++ rest)) :=
  kx_si (va_runS (As := As) (rest := rest) ⟨hx, hb, hml, hown, hts⟩ hM ⟨kCB hts hs hl hrc hrs hR, hts _ hv⟩ ⟨kPr_blind, fun U hU hW' => ⟨rfl, hk.moved hW', fun k q h => by simp at h⟩⟩ rfl hn hsz rfl (lv_room hW) hdg hc) (fun q hq => by rw [hq]; exact kk)
/-- a call of a nest mate's private static method that reads only -/
theorem kx_rsn {host : String} (hx : p.tables.exec = Jvm.exec) (hb : c.code = cc) (hml : c.maxLocals = nL) (hown : s.vm.findClass own = some m.cls) (hts : ∀ w ∈ wT, w.before args s = true) (hk : KN D cI cZ cR s) (hsz : ls.size = nL)
    (hs : kMS y bytes maxL ret n) (hv : Cond.static y ∈ wT) (hM : Met l y (wM y bytes maxL ret) rm (va_Pc As (kPr D cI cZ cR [])) (vp_Si fun q => q = r) 0 0 (fun _ => False))
    (hl : (own, index, y, host) ∈ kNest) (hrc : rm.cells = 0) (hrs : rm.slots = 0) (hR : rm.frames + 1 ≤ R.frames ∧ 8 + (maxL + 11) + rm.locals ≤ R.locals)
    (hn : As.length = n) (hW : (rest.map fun v => v.category).sum ≤ 8) (hc : cells ≤ R.cells ∧ slots ≤ R.slots) (hdg : decode cc pc = .ok (.invokestatic index, 3))
    (kk : W p l e R s m args below meth c H locs cells slots Q (F0 m (pc + 3) ls (.int r :: rest))) : W p l e R s m args below meth c H locs cells slots Q (F0 m pc ls (As.reverse ++ rest)) :=
  kx_si (va_runSN (As := As) (rest := rest) ⟨hx, hb, hml, hown, hts⟩ hM ⟨va_cnB n hts (kGI hs.1) rfl hrc hrs (hk.2 _ hl) (hts _ hs.2.1) hs.2.2 hR, hts _ hv, trivial⟩ ⟨kPr_blind, fun U hU hW' => ⟨rfl, hk.moved hW', fun k q h => by simp at h⟩⟩ rfl hn hsz rfl (lv_room hW) hdg hc) (fun q hq => by rw [hq]; exact kk)
/-- a method's contract out of its walk: reads only, int -/
theorem kMri {av : List Value} (hy : plainName y.cls = true) (hlen : (lg_sl av).length ≤ maxL)
    (body : ∀ (p : Program) (e : Env) (s : State) (m : MethodId) (below : List Frame) (meth : Method) (c : Code) (Q : State → Prop), p.tables.exec = Jvm.exec → c.code = cc → c.maxLocals = maxL → s.vm.findClass y.cls = some m.cls → (∀ w ∈ wT, w.before av.toArray s = true) → KN D cI cZ cR s → va_P D vwCl wc s.heap →
      (∀ (pc : Nat) (ls : Array Slot) (v : Int32), some v = some r → decode cc pc = .ok (.ireturn, 1) → W p l e rm s m av.toArray below meth c s.heap [] 0 0 Q (F0 m pc ls [.int v])) →
      ∀ ls : Array Slot, lv_has ls maxL (lv_args 0 av) → W p l e rm s m av.toArray below meth c s.heap [] 0 0 Q (F0 m 0 ls [])) : kCr l y cc maxL (some .int) rm av D cI cZ cR wc r := by
  refine Met.ofW (cc := cc) (maxL := maxL) (ret := some .int) hy rfl ?_
  intro p e s m args below meth c s₁ B hml hv
  obtain ⟨rfl, hk, hP⟩ := hv
  have hts := atoms_spec (ws := wM y cc maxL (some .int)) B.pre
  rw [lg_entry_eq]
  exact body p e s m below meth c _ B.exec B.bytes hml (findClass_of_methodNamed B.named) (fun w hw => hts w (List.mem_cons_of_mem _ hw)) hk hP (fun pc ls v hv hdg => W.iret B.exec B.bytes B.returns (fun t ht _ => ⟨v, rfl, Option.some.inj hv, ht⟩) (fun q h => by cases h) hdg B.notSynchronized) _ (lv_entry av hlen)
/-- reads only, boolean -/
theorem kMrz {av : List Value} (hy : plainName y.cls = true) (hlen : (lg_sl av).length ≤ maxL)
    (body : ∀ (p : Program) (e : Env) (s : State) (m : MethodId) (below : List Frame) (meth : Method) (c : Code) (Q : State → Prop), p.tables.exec = Jvm.exec → c.code = cc → c.maxLocals = maxL → s.vm.findClass y.cls = some m.cls → (∀ w ∈ wT, w.before av.toArray s = true) → KN D cI cZ cR s → va_P D vwCl wc s.heap →
      (∀ (pc : Nat) (ls : Array Slot) (v : Int32), some v = some r → (v = 0 ∨ v = 1) → decode cc pc = .ok (.ireturn, 1) → W p l e rm s m av.toArray below meth c s.heap [] 0 0 Q (F0 m pc ls [.int v])) →
      ∀ ls : Array Slot, lv_has ls maxL (lv_args 0 av) → W p l e rm s m av.toArray below meth c s.heap [] 0 0 Q (F0 m 0 ls [])) : kCr l y cc maxL (some .boolean) rm av D cI cZ cR wc r := by
  refine Met.ofW (cc := cc) (maxL := maxL) (ret := some .boolean) hy rfl ?_
  intro p e s m args below meth c s₁ B hml hv
  obtain ⟨rfl, hk, hP⟩ := hv
  have hts := atoms_spec (ws := wM y cc maxL (some .boolean)) B.pre
  rw [lg_entry_eq]
  exact body p e s m below meth c _ B.exec B.bytes hml (findClass_of_methodNamed B.named) (fun w hw => hts w (List.mem_cons_of_mem _ hw)) hk hP (fun pc ls v hv hz hdg => W.zret B.exec B.bytes B.returns (by rcases hz with rfl | rfl <;> rfl) (fun t ht _ => ⟨v, rfl, Option.some.inj hv, ht⟩) (fun q h => by cases h) hdg B.notSynchronized) _ (lv_entry av hlen)
/-- writes, int -/
theorem kMwi {β : Type} {wf : β → va_W} {u : β} {av : List Value} (hy : plainName y.cls = true) (hlen : (lg_sl av).length ≤ maxL)
    (body : ∀ (p : Program) (e : Env) (s : State) (m : MethodId) (below : List Frame) (meth : Method) (c : Code) (Q : State → Prop) (A : Nat → Prop), p.tables.exec = Jvm.exec → c.code = cc → c.maxLocals = maxL → s.vm.findClass y.cls = some m.cls → (∀ w ∈ wT, w.before av.toArray s = true) → KN D cI cZ cR s → va_P D vwCl wc s.heap → va_D A wc → (∀ q : Nat, s.heap.size ≤ q → A q) → va_S A s.heap s.heap [] →
      (∀ (pc : Nat) (ls : Array Slot) (v : Int32) (u' : β) (H : Heap) (locs : List Loc), some (v, u') = some (r, u) → decode cc pc = .ok (.ireturn, 1) → va_P D vwCl (wf u') H → va_D A (wf u') → va_S A s.heap H locs → W p l e rm s m av.toArray below meth c H locs 0 0 Q (F0 m pc ls [.int v])) →
      ∀ ls : Array Slot, lv_has ls maxL (lv_args 0 av) → W p l e rm s m av.toArray below meth c s.heap [] 0 0 Q (F0 m 0 ls [])) : kCi l y cc maxL (some .int) rm av D cI cZ cR wc sz (wf u) r := by
  refine Met.ofW (cc := cc) (maxL := maxL) (ret := some .int) hy rfl ?_
  intro p e s m args below meth c s₁ B hml hv
  obtain ⟨rfl, hsz, hk, hP, hD⟩ := hv
  have hts := atoms_spec (ws := wM y cc maxL (some .int)) B.pre
  subst hsz
  rw [lg_entry_eq]
  exact body p e s m below meth c _ _ B.exec B.bytes hml (findClass_of_methodNamed B.named) (fun w hw => hts w (List.mem_cons_of_mem _ hw)) hk hP hD.self (fun q h => Or.inr h) va_S.rf (fun pc ls v u' H locs hv hdg hP hD hS => by
    cases hv
    exact W.iret B.exec B.bytes B.returns (fun t ht _ => ⟨⟨_, (), rfl, rfl, by rw [ht]; exact hP, hD⟩, hS.F ht⟩) hS.2.2 hdg B.notSynchronized) _ (lv_entry av hlen)
/-- writes, boolean -/
theorem kMwz {β : Type} {wf : β → va_W} {u : β} {av : List Value} (hy : plainName y.cls = true) (hlen : (lg_sl av).length ≤ maxL)
    (body : ∀ (p : Program) (e : Env) (s : State) (m : MethodId) (below : List Frame) (meth : Method) (c : Code) (Q : State → Prop) (A : Nat → Prop), p.tables.exec = Jvm.exec → c.code = cc → c.maxLocals = maxL → s.vm.findClass y.cls = some m.cls → (∀ w ∈ wT, w.before av.toArray s = true) → KN D cI cZ cR s → va_P D vwCl wc s.heap → va_D A wc → (∀ q : Nat, s.heap.size ≤ q → A q) → va_S A s.heap s.heap [] →
      (∀ (pc : Nat) (ls : Array Slot) (v : Int32) (u' : β) (H : Heap) (locs : List Loc), some (v, u') = some (r, u) → (v = 0 ∨ v = 1) → decode cc pc = .ok (.ireturn, 1) → va_P D vwCl (wf u') H → va_D A (wf u') → va_S A s.heap H locs → W p l e rm s m av.toArray below meth c H locs 0 0 Q (F0 m pc ls [.int v])) →
      ∀ ls : Array Slot, lv_has ls maxL (lv_args 0 av) → W p l e rm s m av.toArray below meth c s.heap [] 0 0 Q (F0 m 0 ls [])) : kCi l y cc maxL (some .boolean) rm av D cI cZ cR wc sz (wf u) r := by
  refine Met.ofW (cc := cc) (maxL := maxL) (ret := some .boolean) hy rfl ?_
  intro p e s m args below meth c s₁ B hml hv
  obtain ⟨rfl, hsz, hk, hP, hD⟩ := hv
  have hts := atoms_spec (ws := wM y cc maxL (some .boolean)) B.pre
  subst hsz
  rw [lg_entry_eq]
  exact body p e s m below meth c _ _ B.exec B.bytes hml (findClass_of_methodNamed B.named) (fun w hw => hts w (List.mem_cons_of_mem _ hw)) hk hP hD.self (fun q h => Or.inr h) va_S.rf (fun pc ls v u' H locs hv hz hdg hP hD hS => by
    cases hv
    exact W.zret B.exec B.bytes B.returns (by rcases hz with rfl | rfl <;> rfl) (fun t ht _ => ⟨⟨_, (), rfl, rfl, by rw [ht]; exact hP, hD⟩, hS.F ht⟩) hS.2.2 hdg B.notSynchronized) _ (lv_entry av hlen)
/-- writes, void -/
theorem kMwv {β : Type} {wf : β → va_W} {u : β} {av : List Value} (hy : plainName y.cls = true) (hlen : (lg_sl av).length ≤ maxL)
    (body : ∀ (p : Program) (e : Env) (s : State) (m : MethodId) (below : List Frame) (meth : Method) (c : Code) (Q : State → Prop) (A : Nat → Prop), p.tables.exec = Jvm.exec → c.code = cc → c.maxLocals = maxL → s.vm.findClass y.cls = some m.cls → (∀ w ∈ wT, w.before av.toArray s = true) → KN D cI cZ cR s → va_P D vwCl wc s.heap → va_D A wc → (∀ q : Nat, s.heap.size ≤ q → A q) → va_S A s.heap s.heap [] →
      (∀ (pc : Nat) (ls : Array Slot) (u' : β) (H : Heap) (locs : List Loc), some u' = some u → decode cc pc = .ok (.return_, 1) → va_P D vwCl (wf u') H → va_D A (wf u') → va_S A s.heap H locs → W p l e rm s m av.toArray below meth c H locs 0 0 Q (F0 m pc ls [])) →
      ∀ ls : Array Slot, lv_has ls maxL (lv_args 0 av) → W p l e rm s m av.toArray below meth c s.heap [] 0 0 Q (F0 m 0 ls [])) : kCv l y cc maxL none rm av D cI cZ cR wc sz (wf u) := by
  refine Met.ofW (cc := cc) (maxL := maxL) (ret := none) hy rfl ?_
  intro p e s m args below meth c s₁ B hml hv
  obtain ⟨rfl, hsz, hk, hP, hD⟩ := hv
  have hts := atoms_spec (ws := wM y cc maxL none) B.pre
  subst hsz
  rw [lg_entry_eq]
  exact body p e s m below meth c _ _ B.exec B.bytes hml (findClass_of_methodNamed B.named) (fun w hw => hts w (List.mem_cons_of_mem _ hw)) hk hP hD.self (fun q h => Or.inr h) va_S.rf (fun pc ls u' H locs hv hdg hP hD hS => by
    cases hv
    exact W.vret B.exec B.bytes B.returns (fun t ht _ => ⟨⟨(), rfl, trivial, by rw [ht]; exact hP, hD⟩, hS.F ht⟩) hS.2.2 hdg B.notSynchronized) _ (lv_entry av hlen)
/-- behind a call that writes: the callee's new world beside the rest, in the order wn -/
theorem kx_join {ws wr w1 wn : va_W} {H1 : Heap} (hP : va_P D vwCl ws H) (hD : va_D A ws) (isC isR : List Nat) (hC : isC.map (fun i => ws[i]?) = wc.map some) (hR : isR.map (fun i => ws[i]?) = wr.map some) (hn : va_nd isR = true) (hdis : ∀ i ∈ isR, i ∉ isC) (hF : ∀ q, va_A wc H.size q → A q)
    (hk : ∀ q : Nat, q < H.size → ¬ va_A wc H.size q → H1[q]? = H[q]?) (hP1 : va_P D vwCl w1 H1) (hD1 : va_D (va_A wc H.size) w1) (is : List Nat) (hN : va_nd is = true) (hI : is.map (fun i => (wr ++ w1)[i]?) = wn.map some) : va_P D vwCl wn H1 ∧ va_D A wn := by
  obtain ⟨h1, h2⟩ := va_join hP hD isC isR hC hR hn hdis hk hF hP1 hD1
  refine ⟨fun k q hq => ?_, h2.sub is hN hI⟩
  have h3 : (is.map (fun i => (wr ++ w1)[i]?))[k]? = some (some q) := by rw [hI, List.getElem?_map, hq]; rfl
  rw [List.getElem?_map] at h3
  cases hi : is[k]? with
  | none => rw [hi] at h3; cases h3
  | some i => rw [hi] at h3; exact h1 i q (Option.some.inj h3)
theorem kx_cut {ws : va_W} (hP : va_P D vwCl ws H) (isC : List Nat) (hC : isC.map (fun i => ws[i]?) = wc.map some) : va_P D vwCl wc H := by
  intro k q hq
  have h3 : (isC.map (fun i => ws[i]?))[k]? = some (some q) := by rw [hC, List.getElem?_map, hq]; rfl
  rw [List.getElem?_map] at h3
  cases hi : isC[k]? with
  | none => rw [hi] at h3; cases h3
  | some i => rw [hi] at h3; exact hP i q (Option.some.inj h3)
theorem kx_wi (hx : p.tables.exec = Jvm.exec) (hb : c.code = cc) (hml : c.maxLocals = nL) (hown : s.vm.findClass own = some m.cls) (hts : ∀ w ∈ wT, w.before args s = true) (hk : KN D cI cZ cR s) {ws wr wn : va_W} (hP : va_P D vwCl ws H) (hD : va_D A ws) (hS : va_S A s.heap H locs) (hA : ∀ q : Nat, s.heap.size ≤ q → A q) (hsz : ls.size = nL)
    (hs : kMS y bytes maxL ret n) (hv : kMV y) (hM : Met l y (wM y bytes maxL ret) rm (va_Pc (.ref b :: As) (kPw D cI cZ cR wc H.size)) (va_Qi (fun q (_ : Unit) => q = r) (fun _ t => va_P D vwCl wd t.heap ∧ va_D (va_A wc H.size) wd) (va_A wc H.size)) 0 0 (va_A wc H.size))
    (hl : Cond.methodLink own index y ∈ wT) (hrc : rm.cells = 0) (hrs : rm.slots = 0) (hR : rm.frames + 1 ≤ R.frames ∧ 8 + (maxL + 11) + rm.locals ≤ R.locals)
    (isC isR isN : List Nat) (hC : isC.map (fun i => ws[i]?) = wc.map some) (hRr : isR.map (fun i => ws[i]?) = wr.map some) (hnC : va_nd isC = true) (hn2 : va_nd isR = true) (hdis : ∀ i ∈ isR, i ∉ isC) (hN : va_nd isN = true) (hI : isN.map (fun i => (wr ++ wd)[i]?) = wn.map some)
    {ci q0 N : Nat} {T : u_T} {fs : List Value} (hcl : vwCl[ci]? = some (y.cls, T, N)) (he : wc[q0]? = some (b, .inr (ci, fs))) (hn : As.length = n) (hW : (rest.map fun v => v.category).sum ≤ 8) (hc : cells ≤ R.cells ∧ slots ≤ R.slots) (hdg : decode cc pc = .ok (.invokevirtual index, 3))
    (kk : ∀ (H1 : Heap) (locs1 : List Loc), va_P D vwCl wn H1 → va_D A wn → va_S A s.heap H1 locs1 → W p l e R s m args below meth c H1 locs1 cells slots Q (F0 m (pc + 3) ls (.int r :: rest))) : W p l e R s m args below meth c H locs cells slots Q (F0 m pc ls (As.reverse ++ .ref b :: rest)) := by
  have hFc := va_free (wc := wc) hD hS hA isC hC
  have hDc := hD.sub (ws' := wc) isC hnC hC
  have hPc : va_P D vwCl wc H := kx_cut hP isC hC
  refine va_calli (va_runV (As := As) (rest := rest) ⟨hx, hb, hml, hown, hts⟩ hM (kCW hts hs hv hl hrc hrs hR) ⟨kPw_blind, va_recv hk.1 hPc hcl he, fun U hU hW' => ⟨rfl, by rw [hU], hk.moved hW', by rw [hU]; exact hPc, hDc.weaken (fun _ _ _ _ => trivial)⟩⟩ rfl hn hsz rfl (lv_room hW) hdg hc) hS (fun q _ h => hFc q h) hFc (fun q u t H1 locs1 ht hvm hw hB hz1 hk1 hS1 => ?_)
  obtain ⟨hP1, hD1⟩ := hB
  rw [ht] at hP1
  obtain ⟨g1, g2⟩ := kx_join (wn := wn) hP hD isC isR hC hRr hn2 hdis hFc hk1 hP1 hD1 isN hN hI
  rw [hw]
  exact kk H1 locs1 g1 g2 hS1
theorem kx_wv (hx : p.tables.exec = Jvm.exec) (hb : c.code = cc) (hml : c.maxLocals = nL) (hown : s.vm.findClass own = some m.cls) (hts : ∀ w ∈ wT, w.before args s = true) (hk : KN D cI cZ cR s) {ws wr wn : va_W} (hP : va_P D vwCl ws H) (hD : va_D A ws) (hS : va_S A s.heap H locs) (hA : ∀ q : Nat, s.heap.size ≤ q → A q) (hsz : ls.size = nL)
    (hs : kMS y bytes maxL ret n) (hv : kMV y) (hM : Met l y (wM y bytes maxL ret) rm (va_Pc (.ref b :: As) (kPw D cI cZ cR wc H.size)) (va_Qv (fun (_ : Unit) => True) (fun _ t => va_P D vwCl wd t.heap ∧ va_D (va_A wc H.size) wd) (va_A wc H.size)) 0 0 (va_A wc H.size))
    (hl : Cond.methodLink own index y ∈ wT) (hrc : rm.cells = 0) (hrs : rm.slots = 0) (hR : rm.frames + 1 ≤ R.frames ∧ 8 + (maxL + 11) + rm.locals ≤ R.locals)
    (isC isR isN : List Nat) (hC : isC.map (fun i => ws[i]?) = wc.map some) (hRr : isR.map (fun i => ws[i]?) = wr.map some) (hnC : va_nd isC = true) (hn2 : va_nd isR = true) (hdis : ∀ i ∈ isR, i ∉ isC) (hN : va_nd isN = true) (hI : isN.map (fun i => (wr ++ wd)[i]?) = wn.map some)
    {ci q0 N : Nat} {T : u_T} {fs : List Value} (hcl : vwCl[ci]? = some (y.cls, T, N)) (he : wc[q0]? = some (b, .inr (ci, fs))) (hn : As.length = n) (hW : (rest.map fun v => v.category).sum ≤ 8) (hc : cells ≤ R.cells ∧ slots ≤ R.slots) (hdg : decode cc pc = .ok (.invokevirtual index, 3))
    (kk : ∀ (H1 : Heap) (locs1 : List Loc), va_P D vwCl wn H1 → va_D A wn → va_S A s.heap H1 locs1 → W p l e R s m args below meth c H1 locs1 cells slots Q (F0 m (pc + 3) ls rest)) : W p l e R s m args below meth c H locs cells slots Q (F0 m pc ls (As.reverse ++ .ref b :: rest)) := by
  have hFc := va_free (wc := wc) hD hS hA isC hC
  have hDc := hD.sub (ws' := wc) isC hnC hC
  have hPc : va_P D vwCl wc H := kx_cut hP isC hC
  refine va_callv (va_runV (As := As) (rest := rest) ⟨hx, hb, hml, hown, hts⟩ hM (kCW hts hs hv hl hrc hrs hR) ⟨kPw_blind, va_recv hk.1 hPc hcl he, fun U hU hW' => ⟨rfl, by rw [hU], hk.moved hW', by rw [hU]; exact hPc, hDc.weaken (fun _ _ _ _ => trivial)⟩⟩ rfl hn hsz rfl (lv_room hW) hdg hc) hS (fun q _ h => hFc q h) hFc (fun u t H1 locs1 ht hvm hw hB hz1 hk1 hS1 => ?_)
  obtain ⟨hP1, hD1⟩ := hB
  rw [ht] at hP1
  obtain ⟨g1, g2⟩ := kx_join (wn := wn) hP hD isC isR hC hRr hn2 hdis hFc hk1 hP1 hD1 isN hN hI
  exact kk H1 locs1 g1 g2 hS1
end KB
end
section
theorem s_yX6_valueOf : kMS yX6_valueOf cX6_valueOf 1 (some .int) 1 := ⟨mT_322, mT_51, by decide +kernel⟩
def f_valueOf (x : Int32) : Option Int32 := some (x / 256)
set_option maxHeartbeats 4000000 in
set_option maxRecDepth 100000 in
theorem c_valueOf (l : Launch) (D : va_G) (cI cZ cR : ClassId) (x : Int32) (r : Int32) (hf : f_valueOf x = some r) : kCr l yX6_valueOf cX6_valueOf 1 (some .int) { frames := 0, cells := 0, slots := 0, locals := 0 } [.int x] D cI cZ cR ([]) r := by
  refine kMri (by decide) (Nat.le_of_ble_eq_true rfl) ?_
  intro p e s m below meth c Q hx hb hml hown hts hk hP hret ls hl
  have hK := hk.1
  have hl : lv_has ls 1 [(0, .int x)] := hl
  rw [f_valueOf] at hf
  refine lv_iload_n hx hb dX6_valueOf_0 rfl (lv_at hl 0 rfl) ?_
  refine lv_sipush (v := 256) hx hb dX6_valueOf_1 (by decide) ?_
  refine lv_idiv hx hb dX6_valueOf_4 (by decide) ?_
  exact hret _ _ _ hf dX6_valueOf_5
theorem s_yX6_setOf : kMS yX6_setOf cX6_setOf 1 (some .int) 1 := ⟨mT_325, mT_51, by decide +kernel⟩
def f_setOf (x : Int32) : Option Int32 := some (x &&& 255)
set_option maxHeartbeats 4000000 in
set_option maxRecDepth 100000 in
theorem c_setOf (l : Launch) (D : va_G) (cI cZ cR : ClassId) (x : Int32) (r : Int32) (hf : f_setOf x = some r) : kCr l yX6_setOf cX6_setOf 1 (some .int) { frames := 0, cells := 0, slots := 0, locals := 0 } [.int x] D cI cZ cR ([]) r := by
  refine kMri (by decide) (Nat.le_of_ble_eq_true rfl) ?_
  intro p e s m below meth c Q hx hb hml hown hts hk hP hret ls hl
  have hK := hk.1
  have hl : lv_has ls 1 [(0, .int x)] := hl
  rw [f_setOf] at hf
  refine lv_iload_n hx hb dX6_setOf_0 rfl (lv_at hl 0 rfl) ?_
  refine lv_sipush (v := 255) hx hb dX6_setOf_1 (by decide) ?_
  refine lv_iand hx hb dX6_setOf_4 ?_
  exact hret _ _ _ hf dX6_setOf_5
theorem s_yX4_hasValue : kMS yX4_hasValue cX4_hasValue 2 (some .boolean) 1 := ⟨mT_387, mT_52, by decide +kernel⟩
theorem v_yX4_hasValue : kMV yX4_hasValue := ⟨mT_385, mT_386⟩
def f_hasValue (w : Ob) (x : Int32) : Option Int32 := if x < 0 then (some 0) else (if (w 0 0) ≤ x then (some 0) else (some 1))
set_option maxHeartbeats 4000000 in
set_option maxRecDepth 100000 in
theorem c_hasValue (l : Launch) (D : va_G) (cI cZ cR : ClassId) (wa w1 w2 w3 w4 w5 w6 w7 w8 w9 : Nat) (w : Ob) (x : Int32) (r : Int32) (hf : f_hasValue w x = some r) : kCr l yX4_hasValue cX4_hasValue 2 (some .boolean) { frames := 0, cells := 0, slots := 0, locals := 0 } [.ref wa, .int x] D cI cZ cR (cWeb cI wa w1 w2 w3 w4 w5 w6 w7 w8 w9 w) r := by
  refine kMrz (by decide) (Nat.le_of_ble_eq_true rfl) ?_
  intro p e s m below meth c Q hx hb hml hown hts hk hP hret ls hl
  have hK := hk.1
  have hl : lv_has ls 2 [(0, .ref wa), (1, .int x)] := hl
  rw [f_hasValue] at hf
  refine lv_iload_n hx hb dX4_hasValue_0 rfl (lv_at hl 1 rfl) ?_
  refine lv_if_lt (tgt := 16) hx hb dX4_hasValue_1 (by decide) (fun c1 => ?_) (fun c1 => ?_)
  · have hf := ite_t c1 hf
    refine lv_iconst (v := 0) hx hb dX4_hasValue_16 (by decide) ?_
    exact hret _ _ _ hf (Or.inl rfl) dX4_hasValue_17
  · have hf := ite_f c1 hf
    refine lv_iload_n hx hb dX4_hasValue_4 rfl (lv_at hl 1 rfl) ?_
    refine lv_aload_n hx hb dX4_hasValue_5 rfl (lv_at hl 0 rfl) ?_
    refine va_get (D := D) (ci := 4) (v := .int (w 0 0)) (C := RX4) (T := TX4) (N := 12) hx hb hts inT4 hown hK hP 0 rfl rfl 0 (by decide) (hts _ mT_75) (fun _ h9 => h9) rfl dX4_hasValue_6 ?_
    refine lv_icmp_ge (tgt := 16) hx hb dX4_hasValue_9 (by decide) (fun c2 => ?_) (fun c2 => ?_)
    · have hf := ite_t c2 hf
      refine lv_iconst (v := 0) hx hb dX4_hasValue_16 (by decide) ?_
      exact hret _ _ _ hf (Or.inl rfl) dX4_hasValue_17
    · have hf := ite_f c2 hf
      refine lv_iconst (v := 1) hx hb dX4_hasValue_12 (by decide) ?_
      refine lv_goto (tgt := 17) hx hb dX4_hasValue_13 (by decide) ?_
      exact hret _ _ _ hf (Or.inr rfl) dX4_hasValue_17
theorem s_yX4_hasPlace : kMS yX4_hasPlace cX4_hasPlace 2 (some .boolean) 1 := ⟨mT_402, mT_52, by decide +kernel⟩
theorem v_yX4_hasPlace : kMV yX4_hasPlace := ⟨mT_400, mT_401⟩
def f_hasPlace (w : Ob) (x : Int32) : Option Int32 := if x < 0 then (some 0) else (if (w 0 1) ≤ x then (some 0) else (some 1))
set_option maxHeartbeats 4000000 in
set_option maxRecDepth 100000 in
theorem c_hasPlace (l : Launch) (D : va_G) (cI cZ cR : ClassId) (wa w1 w2 w3 w4 w5 w6 w7 w8 w9 : Nat) (w : Ob) (x : Int32) (r : Int32) (hf : f_hasPlace w x = some r) : kCr l yX4_hasPlace cX4_hasPlace 2 (some .boolean) { frames := 0, cells := 0, slots := 0, locals := 0 } [.ref wa, .int x] D cI cZ cR (cWeb cI wa w1 w2 w3 w4 w5 w6 w7 w8 w9 w) r := by
  refine kMrz (by decide) (Nat.le_of_ble_eq_true rfl) ?_
  intro p e s m below meth c Q hx hb hml hown hts hk hP hret ls hl
  have hK := hk.1
  have hl : lv_has ls 2 [(0, .ref wa), (1, .int x)] := hl
  rw [f_hasPlace] at hf
  refine lv_iload_n hx hb dX4_hasPlace_0 rfl (lv_at hl 1 rfl) ?_
  refine lv_if_lt (tgt := 16) hx hb dX4_hasPlace_1 (by decide) (fun c1 => ?_) (fun c1 => ?_)
  · have hf := ite_t c1 hf
    refine lv_iconst (v := 0) hx hb dX4_hasPlace_16 (by decide) ?_
    exact hret _ _ _ hf (Or.inl rfl) dX4_hasPlace_17
  · have hf := ite_f c1 hf
    refine lv_iload_n hx hb dX4_hasPlace_4 rfl (lv_at hl 1 rfl) ?_
    refine lv_aload_n hx hb dX4_hasPlace_5 rfl (lv_at hl 0 rfl) ?_
    refine va_get (D := D) (ci := 4) (v := .int (w 0 1)) (C := RX4) (T := TX4) (N := 12) hx hb hts inT4 hown hK hP 0 rfl rfl 1 (by decide) (hts _ mT_79) (fun _ h9 => h9) rfl dX4_hasPlace_6 ?_
    refine lv_icmp_ge (tgt := 16) hx hb dX4_hasPlace_9 (by decide) (fun c2 => ?_) (fun c2 => ?_)
    · have hf := ite_t c2 hf
      refine lv_iconst (v := 0) hx hb dX4_hasPlace_16 (by decide) ?_
      exact hret _ _ _ hf (Or.inl rfl) dX4_hasPlace_17
    · have hf := ite_f c2 hf
      refine lv_iconst (v := 1) hx hb dX4_hasPlace_12 (by decide) ?_
      refine lv_goto (tgt := 17) hx hb dX4_hasPlace_13 (by decide) ?_
      exact hret _ _ _ hf (Or.inr rfl) dX4_hasPlace_17
theorem s_yX4_hasWay : kMS yX4_hasWay cX4_hasWay 2 (some .boolean) 1 := ⟨mT_418, mT_52, by decide +kernel⟩
theorem v_yX4_hasWay : kMV yX4_hasWay := ⟨mT_416, mT_417⟩
def f_hasWay (w : Ob) (x : Int32) : Option Int32 := if x < 0 then (some 0) else (if (w 0 2) ≤ x then (some 0) else (some 1))
set_option maxHeartbeats 4000000 in
set_option maxRecDepth 100000 in
theorem c_hasWay (l : Launch) (D : va_G) (cI cZ cR : ClassId) (wa w1 w2 w3 w4 w5 w6 w7 w8 w9 : Nat) (w : Ob) (x : Int32) (r : Int32) (hf : f_hasWay w x = some r) : kCr l yX4_hasWay cX4_hasWay 2 (some .boolean) { frames := 0, cells := 0, slots := 0, locals := 0 } [.ref wa, .int x] D cI cZ cR (cWeb cI wa w1 w2 w3 w4 w5 w6 w7 w8 w9 w) r := by
  refine kMrz (by decide) (Nat.le_of_ble_eq_true rfl) ?_
  intro p e s m below meth c Q hx hb hml hown hts hk hP hret ls hl
  have hK := hk.1
  have hl : lv_has ls 2 [(0, .ref wa), (1, .int x)] := hl
  rw [f_hasWay] at hf
  refine lv_iload_n hx hb dX4_hasWay_0 rfl (lv_at hl 1 rfl) ?_
  refine lv_if_lt (tgt := 16) hx hb dX4_hasWay_1 (by decide) (fun c1 => ?_) (fun c1 => ?_)
  · have hf := ite_t c1 hf
    refine lv_iconst (v := 0) hx hb dX4_hasWay_16 (by decide) ?_
    exact hret _ _ _ hf (Or.inl rfl) dX4_hasWay_17
  · have hf := ite_f c1 hf
    refine lv_iload_n hx hb dX4_hasWay_4 rfl (lv_at hl 1 rfl) ?_
    refine lv_aload_n hx hb dX4_hasWay_5 rfl (lv_at hl 0 rfl) ?_
    refine va_get (D := D) (ci := 4) (v := .int (w 0 2)) (C := RX4) (T := TX4) (N := 12) hx hb hts inT4 hown hK hP 0 rfl rfl 2 (by decide) (hts _ mT_81) (fun _ h9 => h9) rfl dX4_hasWay_6 ?_
    refine lv_icmp_ge (tgt := 16) hx hb dX4_hasWay_9 (by decide) (fun c2 => ?_) (fun c2 => ?_)
    · have hf := ite_t c2 hf
      refine lv_iconst (v := 0) hx hb dX4_hasWay_16 (by decide) ?_
      exact hret _ _ _ hf (Or.inl rfl) dX4_hasWay_17
    · have hf := ite_f c2 hf
      refine lv_iconst (v := 1) hx hb dX4_hasWay_12 (by decide) ?_
      refine lv_goto (tgt := 17) hx hb dX4_hasWay_13 (by decide) ?_
      exact hret _ _ _ hf (Or.inr rfl) dX4_hasWay_17
theorem s_yX4_join : kMS yX4_join cX4_join 3 (some .int) 2 := ⟨mT_269, mT_52, by decide +kernel⟩
theorem v_yX4_join : kMV yX4_join := ⟨mT_267, mT_268⟩
def f_join (w : Ob) (x : Int32) (y : Int32) : Option Int32 := gd (ck ((x * 8) + y) 64) (some ((w 1) (Int32.toNatClampNeg ((x * 8) + y))))
set_option maxHeartbeats 4000000 in
set_option maxRecDepth 100000 in
theorem c_join (l : Launch) (D : va_G) (cI cZ cR : ClassId) (wa w1 w2 w3 w4 w5 w6 w7 w8 w9 : Nat) (w : Ob) (x : Int32) (y : Int32) (r : Int32) (hf : f_join w x y = some r) : kCr l yX4_join cX4_join 3 (some .int) { frames := 0, cells := 0, slots := 0, locals := 0 } [.ref wa, .int x, .int y] D cI cZ cR (cWeb cI wa w1 w2 w3 w4 w5 w6 w7 w8 w9 w) r := by
  refine kMri (by decide) (Nat.le_of_ble_eq_true rfl) ?_
  intro p e s m below meth c Q hx hb hml hown hts hk hP hret ls hl
  have hK := hk.1
  have hl : lv_has ls 3 [(0, .ref wa), (1, .int x), (2, .int y)] := hl
  rw [f_join] at hf
  refine lv_aload_n hx hb dX4_join_0 rfl (lv_at hl 0 rfl) ?_
  refine va_get (D := D) (ci := 4) (v := .ref w1) (C := RX4) (T := TX4) (N := 12) hx hb hts inT4 hown hK hP 0 rfl rfl 3 (by decide) (hts _ mT_84) (fun _ h9 => h9) rfl dX4_join_1 ?_
  refine lv_iload_n hx hb dX4_join_4 rfl (lv_at hl 1 rfl) ?_
  refine lv_bipush (v := 8) hx hb dX4_join_5 (by decide) ?_
  refine lv_imul hx hb dX4_join_7 ?_
  refine lv_iload_n hx hb dX4_join_8 rfl (lv_at hl 2 rfl) ?_
  refine lv_iadd hx hb dX4_join_9 ?_
  obtain ⟨b1, hf⟩ := gd_some hf
  refine va_iald (n := 64) (f := w 1) hx hb hK hP 1 0 rfl rfl (ck_in b1) dX4_join_10 ?_
  exact hret _ _ _ hf dX4_join_11
theorem s_yX4_isBelow : kMS yX4_isBelow cX4_isBelow 3 (some .boolean) 2 := ⟨mT_293, mT_52, by decide +kernel⟩
theorem v_yX4_isBelow : kMV yX4_isBelow := ⟨mT_291, mT_292⟩
def f_isBelow (w : Ob) (x : Int32) (y : Int32) : Option Int32 := gd (ck ((x * 8) + y) 64) (if ((w 1) (Int32.toNatClampNeg ((x * 8) + y))) = y then (some 1) else (some 0))
set_option maxHeartbeats 4000000 in
set_option maxRecDepth 100000 in
theorem c_isBelow (l : Launch) (D : va_G) (cI cZ cR : ClassId) (wa w1 w2 w3 w4 w5 w6 w7 w8 w9 : Nat) (w : Ob) (x : Int32) (y : Int32) (r : Int32) (hf : f_isBelow w x y = some r) : kCr l yX4_isBelow cX4_isBelow 3 (some .boolean) { frames := 0, cells := 0, slots := 0, locals := 0 } [.ref wa, .int x, .int y] D cI cZ cR (cWeb cI wa w1 w2 w3 w4 w5 w6 w7 w8 w9 w) r := by
  refine kMrz (by decide) (Nat.le_of_ble_eq_true rfl) ?_
  intro p e s m below meth c Q hx hb hml hown hts hk hP hret ls hl
  have hK := hk.1
  have hl : lv_has ls 3 [(0, .ref wa), (1, .int x), (2, .int y)] := hl
  rw [f_isBelow] at hf
  refine lv_aload_n hx hb dX4_isBelow_0 rfl (lv_at hl 0 rfl) ?_
  refine va_get (D := D) (ci := 4) (v := .ref w1) (C := RX4) (T := TX4) (N := 12) hx hb hts inT4 hown hK hP 0 rfl rfl 3 (by decide) (hts _ mT_84) (fun _ h9 => h9) rfl dX4_isBelow_1 ?_
  refine lv_iload_n hx hb dX4_isBelow_4 rfl (lv_at hl 1 rfl) ?_
  refine lv_bipush (v := 8) hx hb dX4_isBelow_5 (by decide) ?_
  refine lv_imul hx hb dX4_isBelow_7 ?_
  refine lv_iload_n hx hb dX4_isBelow_8 rfl (lv_at hl 2 rfl) ?_
  refine lv_iadd hx hb dX4_isBelow_9 ?_
  obtain ⟨b1, hf⟩ := gd_some hf
  refine va_iald (n := 64) (f := w 1) hx hb hK hP 1 0 rfl rfl (ck_in b1) dX4_isBelow_10 ?_
  refine lv_iload_n hx hb dX4_isBelow_11 rfl (lv_at hl 2 rfl) ?_
  refine lv_icmp_ne (tgt := 19) hx hb dX4_isBelow_12 (by decide) (fun c2 => ?_) (fun c2 => ?_)
  · have hf := ite_f c2 hf
    refine lv_iconst (v := 0) hx hb dX4_isBelow_19 (by decide) ?_
    exact hret _ _ _ hf (Or.inl rfl) dX4_isBelow_20
  · have hf := ite_t c2 hf
    refine lv_iconst (v := 1) hx hb dX4_isBelow_15 (by decide) ?_
    refine lv_goto (tgt := 20) hx hb dX4_isBelow_16 (by decide) ?_
    exact hret _ _ _ hf (Or.inr rfl) dX4_isBelow_20
theorem s_yX4_isKept : kMS yX4_isKept cX4_isKept 3 (some .boolean) 1 := ⟨mT_315, mT_52, by decide +kernel⟩
theorem v_yX4_isKept : kMV yX4_isKept := ⟨mT_313, mT_314⟩
def k_isKept_2 (x2_2 : Int32) : Option Int32 := some 0
def lp_isKept_2 (w : Ob) (x : Int32) (kk0 : Int32 → Option Int32) : Nat → Int32 → Option Int32
  | 0, _ => none
  | fu1 + 1, x2_2 => if (w 0 2) ≤ x2_2 then (kk0 x2_2) else (gd (ck x2_2 20) (if ((w 5) (Int32.toNatClampNeg x2_2)) = x then (gd (ck x2_2 20) (if ((w 4) (Int32.toNatClampNeg x2_2)) < x then ((lp_isKept_2 w x kk0 fu1) (x2_2 + 1)) else (some 1))) else ((lp_isKept_2 w x kk0 fu1) (x2_2 + 1))))
def f_isKept (w : Ob) (x : Int32) : Option Int32 := lp_isKept_2 w x k_isKept_2 10000 0
set_option maxHeartbeats 4000000 in
set_option maxRecDepth 100000 in
theorem c_isKept (l : Launch) (D : va_G) (cI cZ cR : ClassId) (wa w1 w2 w3 w4 w5 w6 w7 w8 w9 : Nat) (w : Ob) (x : Int32) (r : Int32) (hf : f_isKept w x = some r) : kCr l yX4_isKept cX4_isKept 3 (some .boolean) { frames := 0, cells := 0, slots := 0, locals := 0 } [.ref wa, .int x] D cI cZ cR (cWeb cI wa w1 w2 w3 w4 w5 w6 w7 w8 w9 w) r := by
  refine kMrz (by decide) (Nat.le_of_ble_eq_true rfl) ?_
  intro p e s m below meth c Q hx hb hml hown hts hk hP hret ls hl
  have hK := hk.1
  have hl : lv_has ls 3 [(0, .ref wa), (1, .int x)] := hl
  rw [f_isKept] at hf
  refine lv_iconst (v := 0) hx hb dX4_isKept_0 (by decide) ?_
  refine lv_istore_n (lv' := [(2, .int 0), (0, .ref wa), (1, .int x)]) hx hb dX4_isKept_1 rfl hl (by decide) rfl (fun ls hl => ?_)
  have kx1 : ∀ (x2_2 : Int32) (ls : Array Slot), k_isKept_2 x2_2 = some r → lv_has ls 3 [(0, .ref wa), (1, .int x), (2, .int x2_2)] → W p l e ({ frames := 0, cells := 0, slots := 0, locals := 0 } : Room) s m ([.ref wa, .int x] : List Value).toArray below meth c s.heap [] 0 0 Q (F0 m 38 ls []) := by
    intro x2_2 ls hf hl
    rw [k_isKept_2] at hf
    refine lv_iconst (v := 0) hx hb dX4_isKept_38 (by decide) ?_
    exact hret _ _ _ hf (Or.inl rfl) dX4_isKept_39
  have lh1 : ∀ (fu1 : Nat) (x2_2 : Int32) (ls : Array Slot), lp_isKept_2 w x k_isKept_2 fu1 x2_2 = some r → lv_has ls 3 [(0, .ref wa), (1, .int x), (2, .int x2_2)] → W p l e ({ frames := 0, cells := 0, slots := 0, locals := 0 } : Room) s m ([.ref wa, .int x] : List Value).toArray below meth c s.heap [] 0 0 Q (F0 m 2 ls []) := by
    intro fu1
    induction fu1 with
    | zero => intro x2_2 ls hf hl; exact no_none hf
    | succ fu1 ih1 =>
      intro x2_2 ls hf hl
      rw [lp_isKept_2] at hf
      refine lv_iload_n hx hb dX4_isKept_2 rfl (lv_at hl 2 rfl) ?_
      refine lv_aload_n hx hb dX4_isKept_3 rfl (lv_at hl 0 rfl) ?_
      refine va_get (D := D) (ci := 4) (v := .int (w 0 2)) (C := RX4) (T := TX4) (N := 12) hx hb hts inT4 hown hK hP 0 rfl rfl 2 (by decide) (hts _ mT_81) (fun _ h9 => h9) rfl dX4_isKept_4 ?_
      refine lv_icmp_ge (tgt := 38) hx hb dX4_isKept_7 (by decide) (fun c3 => ?_) (fun c3 => ?_)
      · have hf := ite_t c3 hf
        exact kx1 x2_2 _ hf (lv_sub hl [0, 1, 2] rfl)
      · have hf := ite_f c3 hf
        refine lv_aload_n hx hb dX4_isKept_10 rfl (lv_at hl 0 rfl) ?_
        refine va_get (D := D) (ci := 4) (v := .ref w5) (C := RX4) (T := TX4) (N := 12) hx hb hts inT4 hown hK hP 0 rfl rfl 7 (by decide) (hts _ mT_94) (fun _ h9 => h9) rfl dX4_isKept_11 ?_
        refine lv_iload_n hx hb dX4_isKept_14 rfl (lv_at hl 2 rfl) ?_
        obtain ⟨b4, hf⟩ := gd_some hf
        refine va_iald (n := 20) (f := w 5) hx hb hK hP 5 0 rfl rfl (ck_in b4) dX4_isKept_15 ?_
        refine lv_iload_n hx hb dX4_isKept_16 rfl (lv_at hl 1 rfl) ?_
        refine lv_icmp_ne (tgt := 32) hx hb dX4_isKept_17 (by decide) (fun c5 => ?_) (fun c5 => ?_)
        · have hf := ite_f c5 hf
          refine lv_iinc (v := x2_2 + 1) (lv' := [(2, .int (x2_2 + 1)), (0, .ref wa), (1, .int x)]) hx hb dX4_isKept_32 hl (k := 2) rfl rfl (by decide) rfl (fun ls hl => ?_)
          refine lv_goto (tgt := 2) hx hb dX4_isKept_35 (by decide) ?_
          exact ih1 (x2_2 + 1) _ hf (lv_sub hl [1, 2, 0] rfl)
        · have hf := ite_t c5 hf
          refine lv_aload_n hx hb dX4_isKept_20 rfl (lv_at hl 0 rfl) ?_
          refine va_get (D := D) (ci := 4) (v := .ref w4) (C := RX4) (T := TX4) (N := 12) hx hb hts inT4 hown hK hP 0 rfl rfl 6 (by decide) (hts _ mT_91) (fun _ h9 => h9) rfl dX4_isKept_21 ?_
          refine lv_iload_n hx hb dX4_isKept_24 rfl (lv_at hl 2 rfl) ?_
          obtain ⟨b6, hf⟩ := gd_some hf
          refine va_iald (n := 20) (f := w 4) hx hb hK hP 4 0 rfl rfl (ck_in b6) dX4_isKept_25 ?_
          refine lv_iload_n hx hb dX4_isKept_26 rfl (lv_at hl 1 rfl) ?_
          refine lv_icmp_lt (tgt := 32) hx hb dX4_isKept_27 (by decide) (fun c7 => ?_) (fun c7 => ?_)
          · have hf := ite_t c7 hf
            refine lv_iinc (v := x2_2 + 1) (lv' := [(2, .int (x2_2 + 1)), (0, .ref wa), (1, .int x)]) hx hb dX4_isKept_32 hl (k := 2) rfl rfl (by decide) rfl (fun ls hl => ?_)
            refine lv_goto (tgt := 2) hx hb dX4_isKept_35 (by decide) ?_
            exact ih1 (x2_2 + 1) _ hf (lv_sub hl [1, 2, 0] rfl)
          · have hf := ite_f c7 hf
            refine lv_iconst (v := 1) hx hb dX4_isKept_30 (by decide) ?_
            exact hret _ _ _ hf (Or.inr rfl) dX4_isKept_31
  exact lh1 10000 0 _ hf (lv_sub hl [1, 2, 0] rfl)
theorem s_yX4_keptPlaces : kMS yX4_keptPlaces cX4_keptPlaces 3 (some .int) 0 := ⟨mT_303, mT_52, by decide +kernel⟩
theorem v_yX4_keptPlaces : kMV yX4_keptPlaces := ⟨mT_301, mT_302⟩
def k_keptPlaces_4 (x1_2 : Int32) (x2_3 : Int32) : Option Int32 := some x1_2
def lp_keptPlaces_4 (w : Ob) (kk0 : Int32 → Int32 → Option Int32) : Nat → Int32 → Int32 → Option Int32
  | 0, _, _ => none
  | fu1 + 1, x1_2, x2_3 => if (w 0 2) ≤ x2_3 then (kk0 x1_2 x2_3) else (gd (ck x2_3 20) (gd (ck x2_3 20) (if ((w 4) (Int32.toNatClampNeg x2_3)) < ((w 5) (Int32.toNatClampNeg x2_3)) then ((lp_keptPlaces_4 w kk0 fu1) x1_2 (x2_3 + 1)) else (gd (ck x2_3 20) ((lp_keptPlaces_4 w kk0 fu1) (x1_2 ||| (1 <<< (((w 5) (Int32.toNatClampNeg x2_3)) &&& 31))) (x2_3 + 1))))))
def f_keptPlaces (w : Ob) : Option Int32 := lp_keptPlaces_4 w k_keptPlaces_4 10000 0 0
set_option maxHeartbeats 4000000 in
set_option maxRecDepth 100000 in
theorem c_keptPlaces (l : Launch) (D : va_G) (cI cZ cR : ClassId) (wa w1 w2 w3 w4 w5 w6 w7 w8 w9 : Nat) (w : Ob) (r : Int32) (hf : f_keptPlaces w = some r) : kCr l yX4_keptPlaces cX4_keptPlaces 3 (some .int) { frames := 0, cells := 0, slots := 0, locals := 0 } [.ref wa] D cI cZ cR (cWeb cI wa w1 w2 w3 w4 w5 w6 w7 w8 w9 w) r := by
  refine kMri (by decide) (Nat.le_of_ble_eq_true rfl) ?_
  intro p e s m below meth c Q hx hb hml hown hts hk hP hret ls hl
  have hK := hk.1
  have hl : lv_has ls 3 [(0, .ref wa)] := hl
  rw [f_keptPlaces] at hf
  refine lv_iconst (v := 0) hx hb dX4_keptPlaces_0 (by decide) ?_
  refine lv_istore_n (lv' := [(1, .int 0), (0, .ref wa)]) hx hb dX4_keptPlaces_1 rfl hl (by decide) rfl (fun ls hl => ?_)
  refine lv_iconst (v := 0) hx hb dX4_keptPlaces_2 (by decide) ?_
  refine lv_istore_n (lv' := [(2, .int 0), (1, .int 0), (0, .ref wa)]) hx hb dX4_keptPlaces_3 rfl hl (by decide) rfl (fun ls hl => ?_)
  have kx1 : ∀ (x1_2 : Int32) (x2_3 : Int32) (ls : Array Slot), k_keptPlaces_4 x1_2 x2_3 = some r → lv_has ls 3 [(0, .ref wa), (1, .int x1_2), (2, .int x2_3)] → W p l e ({ frames := 0, cells := 0, slots := 0, locals := 0 } : Room) s m ([.ref wa] : List Value).toArray below meth c s.heap [] 0 0 Q (F0 m 44 ls []) := by
    intro x1_2 x2_3 ls hf hl
    rw [k_keptPlaces_4] at hf
    refine lv_iload_n hx hb dX4_keptPlaces_44 rfl (lv_at hl 1 rfl) ?_
    exact hret _ _ _ hf dX4_keptPlaces_45
  have lh1 : ∀ (fu1 : Nat) (x1_2 : Int32) (x2_3 : Int32) (ls : Array Slot), lp_keptPlaces_4 w k_keptPlaces_4 fu1 x1_2 x2_3 = some r → lv_has ls 3 [(0, .ref wa), (1, .int x1_2), (2, .int x2_3)] → W p l e ({ frames := 0, cells := 0, slots := 0, locals := 0 } : Room) s m ([.ref wa] : List Value).toArray below meth c s.heap [] 0 0 Q (F0 m 4 ls []) := by
    intro fu1
    induction fu1 with
    | zero => intro x1_2 x2_3 ls hf hl; exact no_none hf
    | succ fu1 ih1 =>
      intro x1_2 x2_3 ls hf hl
      rw [lp_keptPlaces_4] at hf
      refine lv_iload_n hx hb dX4_keptPlaces_4 rfl (lv_at hl 2 rfl) ?_
      refine lv_aload_n hx hb dX4_keptPlaces_5 rfl (lv_at hl 0 rfl) ?_
      refine va_get (D := D) (ci := 4) (v := .int (w 0 2)) (C := RX4) (T := TX4) (N := 12) hx hb hts inT4 hown hK hP 0 rfl rfl 2 (by decide) (hts _ mT_81) (fun _ h9 => h9) rfl dX4_keptPlaces_6 ?_
      refine lv_icmp_ge (tgt := 44) hx hb dX4_keptPlaces_9 (by decide) (fun c4 => ?_) (fun c4 => ?_)
      · have hf := ite_t c4 hf
        exact kx1 x1_2 x2_3 _ hf (lv_sub hl [0, 1, 2] rfl)
      · have hf := ite_f c4 hf
        refine lv_aload_n hx hb dX4_keptPlaces_12 rfl (lv_at hl 0 rfl) ?_
        refine va_get (D := D) (ci := 4) (v := .ref w4) (C := RX4) (T := TX4) (N := 12) hx hb hts inT4 hown hK hP 0 rfl rfl 6 (by decide) (hts _ mT_91) (fun _ h9 => h9) rfl dX4_keptPlaces_13 ?_
        refine lv_iload_n hx hb dX4_keptPlaces_16 rfl (lv_at hl 2 rfl) ?_
        obtain ⟨b5, hf⟩ := gd_some hf
        refine va_iald (n := 20) (f := w 4) hx hb hK hP 4 0 rfl rfl (ck_in b5) dX4_keptPlaces_17 ?_
        refine lv_aload_n hx hb dX4_keptPlaces_18 rfl (lv_at hl 0 rfl) ?_
        refine va_get (D := D) (ci := 4) (v := .ref w5) (C := RX4) (T := TX4) (N := 12) hx hb hts inT4 hown hK hP 0 rfl rfl 7 (by decide) (hts _ mT_94) (fun _ h9 => h9) rfl dX4_keptPlaces_19 ?_
        refine lv_iload_n hx hb dX4_keptPlaces_22 rfl (lv_at hl 2 rfl) ?_
        obtain ⟨b6, hf⟩ := gd_some hf
        refine va_iald (n := 20) (f := w 5) hx hb hK hP 5 0 rfl rfl (ck_in b6) dX4_keptPlaces_23 ?_
        refine lv_icmp_lt (tgt := 38) hx hb dX4_keptPlaces_24 (by decide) (fun c7 => ?_) (fun c7 => ?_)
        · have hf := ite_t c7 hf
          refine lv_iinc (v := x2_3 + 1) (lv' := [(2, .int (x2_3 + 1)), (0, .ref wa), (1, .int x1_2)]) hx hb dX4_keptPlaces_38 hl (k := 2) rfl rfl (by decide) rfl (fun ls hl => ?_)
          refine lv_goto (tgt := 4) hx hb dX4_keptPlaces_41 (by decide) ?_
          exact ih1 x1_2 (x2_3 + 1) _ hf (lv_sub hl [1, 2, 0] rfl)
        · have hf := ite_f c7 hf
          refine lv_iload_n hx hb dX4_keptPlaces_27 rfl (lv_at hl 1 rfl) ?_
          refine lv_iconst (v := 1) hx hb dX4_keptPlaces_28 (by decide) ?_
          refine lv_aload_n hx hb dX4_keptPlaces_29 rfl (lv_at hl 0 rfl) ?_
          refine va_get (D := D) (ci := 4) (v := .ref w5) (C := RX4) (T := TX4) (N := 12) hx hb hts inT4 hown hK hP 0 rfl rfl 7 (by decide) (hts _ mT_94) (fun _ h9 => h9) rfl dX4_keptPlaces_30 ?_
          refine lv_iload_n hx hb dX4_keptPlaces_33 rfl (lv_at hl 2 rfl) ?_
          obtain ⟨b8, hf⟩ := gd_some hf
          refine va_iald (n := 20) (f := w 5) hx hb hK hP 5 0 rfl rfl (ck_in b8) dX4_keptPlaces_34 ?_
          refine lv_ishl hx hb dX4_keptPlaces_35 ?_
          refine lv_ior hx hb dX4_keptPlaces_36 ?_
          refine lv_istore_n (lv' := [(1, .int (x1_2 ||| (1 <<< (((w 5) (Int32.toNatClampNeg x2_3)) &&& 31)))), (0, .ref wa), (2, .int x2_3)]) hx hb dX4_keptPlaces_37 rfl hl (by decide) rfl (fun ls hl => ?_)
          refine lv_iinc (v := x2_3 + 1) (lv' := [(2, .int (x2_3 + 1)), (1, .int (x1_2 ||| (1 <<< (((w 5) (Int32.toNatClampNeg x2_3)) &&& 31)))), (0, .ref wa)]) hx hb dX4_keptPlaces_38 hl (k := 2) rfl rfl (by decide) rfl (fun ls hl => ?_)
          refine lv_goto (tgt := 4) hx hb dX4_keptPlaces_41 (by decide) ?_
          exact ih1 (x1_2 ||| (1 <<< (((w 5) (Int32.toNatClampNeg x2_3)) &&& 31))) (x2_3 + 1) _ hf (lv_sub hl [2, 1, 0] rfl)
  exact lh1 10000 0 0 _ hf (lv_sub hl [2, 1, 0] rfl)
theorem s_yX4_brought : kMS yX4_brought cX4_brought 5 (some .int) 2 := ⟨mT_329, mT_52, by decide +kernel⟩
theorem v_yX4_brought : kMV yX4_brought := ⟨mT_327, mT_328⟩
def f_brought (w : Ob) (g : Nat → Int32) (x : Int32) : Option Int32 := gd (ck x 20) (gd (ck ((w 4) (Int32.toNatClampNeg x)) 10) (bd (f_valueOf (g (Int32.toNatClampNeg ((w 4) (Int32.toNatClampNeg x))))) (fun q3 => gd (ck x 20) (bd (f_isBelow w ((w 9) (Int32.toNatClampNeg x)) q3) (fun q6 => if q6 = 0 then (some 0) else (gd (ck ((x * 8) + q3) 160) (bd (f_setOf (g (Int32.toNatClampNeg ((w 4) (Int32.toNatClampNeg x))))) (fun q10 => gd (ck x 20) (gd (ck x 20) (some ((((w 6) (Int32.toNatClampNeg ((x * 8) + q3))) * 256) + ((q10 &&& (((w 8) (Int32.toNatClampNeg x)) ^^^ (-1))) ||| ((w 7) (Int32.toNatClampNeg x))))))))))))))
set_option maxHeartbeats 4000000 in
set_option maxRecDepth 100000 in
theorem c_brought (l : Launch) (D : va_G) (cI cZ cR : ClassId) (wa w1 w2 w3 w4 w5 w6 w7 w8 w9 ga : Nat) (w : Ob) (g : Nat → Int32) (x : Int32) (r : Int32) (hf : f_brought w g x = some r) : kCr l yX4_brought cX4_brought 5 (some .int) { frames := 1, cells := 0, slots := 0, locals := 22 } [.ref wa, .int x, .ref ga] D cI cZ cR (cWeb cI wa w1 w2 w3 w4 w5 w6 w7 w8 w9 w ++ (cArr cI 10 ga g)) r := by
  refine kMri (by decide) (Nat.le_of_ble_eq_true rfl) ?_
  intro p e s m below meth c Q hx hb hml hown hts hk hP hret ls hl
  have hK := hk.1
  have hl : lv_has ls 5 [(0, .ref wa), (1, .int x), (2, .ref ga)] := hl
  rw [f_brought] at hf
  refine lv_aload_n hx hb dX4_brought_0 rfl (lv_at hl 2 rfl) ?_
  refine lv_aload_n hx hb dX4_brought_1 rfl (lv_at hl 0 rfl) ?_
  refine va_get (D := D) (ci := 4) (v := .ref w4) (C := RX4) (T := TX4) (N := 12) hx hb hts inT4 hown hK hP 0 rfl rfl 6 (by decide) (hts _ mT_91) (fun _ h9 => h9) rfl dX4_brought_2 ?_
  refine lv_iload_n hx hb dX4_brought_5 rfl (lv_at hl 1 rfl) ?_
  obtain ⟨b1, hf⟩ := gd_some hf
  refine va_iald (n := 20) (f := w 4) hx hb hK hP 4 0 rfl rfl (ck_in b1) dX4_brought_6 ?_
  obtain ⟨b2, hf⟩ := gd_some hf
  refine va_iald (n := 10) (f := g) hx hb hK hP 10 0 rfl rfl (ck_in b2) dX4_brought_7 ?_
  refine lv_istore_n (lv' := [(3, .int (g (Int32.toNatClampNeg ((w 4) (Int32.toNatClampNeg x))))), (0, .ref wa), (1, .int x), (2, .ref ga)]) hx hb dX4_brought_8 rfl hl (by decide) rfl (fun ls hl => ?_)
  refine lv_iload_n hx hb dX4_brought_9 rfl (lv_at hl 0 rfl) ?_
  obtain ⟨q3, h4, hf⟩ := bd_some hf
  refine kx_rsn (As := [.int (g (Int32.toNatClampNeg ((w 4) (Int32.toNatClampNeg x))))]) (rest := []) hx hb hml hown hts hk hl.1 s_yX6_valueOf mT_321 (c_valueOf l D cI cZ cR (g (Int32.toNatClampNeg ((w 4) (Int32.toNatClampNeg x)))) _ h4) (List.mem_of_getElem? (i := 7) rfl) rfl rfl ⟨Nat.le_of_ble_eq_true rfl, Nat.le_of_ble_eq_true rfl⟩ rfl (Nat.le_of_ble_eq_true rfl) ⟨Nat.zero_le _, Nat.zero_le _⟩ dX4_brought_10 ?_
  refine lv_istore (lv' := [(4, .int q3), (3, .int (g (Int32.toNatClampNeg ((w 4) (Int32.toNatClampNeg x))))), (0, .ref wa), (1, .int x), (2, .ref ga)]) hx hb dX4_brought_13 hl (by decide) rfl (fun ls hl => ?_)
  refine lv_aload_n hx hb dX4_brought_15 rfl (lv_at hl 2 rfl) ?_
  refine lv_aload_n hx hb dX4_brought_16 rfl (lv_at hl 2 rfl) ?_
  refine va_get (D := D) (ci := 4) (v := .ref w9) (C := RX4) (T := TX4) (N := 12) hx hb hts inT4 hown hK hP 0 rfl rfl 11 (by decide) (hts _ mT_103) (fun _ h9 => h9) rfl dX4_brought_17 ?_
  refine lv_iload_n hx hb dX4_brought_20 rfl (lv_at hl 3 rfl) ?_
  obtain ⟨b5, hf⟩ := gd_some hf
  refine va_iald (n := 20) (f := w 9) hx hb hK hP 9 0 rfl rfl (ck_in b5) dX4_brought_21 ?_
  refine lv_iload hx hb dX4_brought_22 (lv_at hl 0 rfl) ?_
  obtain ⟨q6, h7, hf⟩ := bd_some hf
  refine kx_rv (As := [.int ((w 9) (Int32.toNatClampNeg x)), .int q3]) (rest := []) hx hb hml hown hts hk (hP.sub (ws' := cWeb cI wa w1 w2 w3 w4 w5 w6 w7 w8 w9 w) [0, 1, 2, 3, 4, 5, 6, 7, 8, 9] rfl) hl.1 s_yX4_isBelow v_yX4_isBelow (c_isBelow l D cI cZ cR wa w1 w2 w3 w4 w5 w6 w7 w8 w9 w ((w 9) (Int32.toNatClampNeg x)) q3 _ h7) mT_290 rfl rfl ⟨Nat.le_of_ble_eq_true rfl, Nat.le_of_ble_eq_true rfl⟩ (ci := 4) (q0 := 0) rfl rfl rfl (Nat.le_of_ble_eq_true rfl) ⟨Nat.zero_le _, Nat.zero_le _⟩ dX4_brought_24 ?_
  refine lv_if_ne (tgt := 32) hx hb dX4_brought_27 (by decide) (fun c8 => ?_) (fun c8 => ?_)
  · have hf := ite_f c8 hf
    refine lv_aload_n hx hb dX4_brought_32 rfl (lv_at hl 2 rfl) ?_
    refine va_get (D := D) (ci := 4) (v := .ref w6) (C := RX4) (T := TX4) (N := 12) hx hb hts inT4 hown hK hP 0 rfl rfl 8 (by decide) (hts _ mT_97) (fun _ h9 => h9) rfl dX4_brought_33 ?_
    refine lv_iload_n hx hb dX4_brought_36 rfl (lv_at hl 3 rfl) ?_
    refine lv_bipush (v := 8) hx hb dX4_brought_37 (by decide) ?_
    refine lv_imul hx hb dX4_brought_39 ?_
    refine lv_iload hx hb dX4_brought_40 (lv_at hl 0 rfl) ?_
    refine lv_iadd hx hb dX4_brought_42 ?_
    obtain ⟨b9, hf⟩ := gd_some hf
    refine va_iald (n := 160) (f := w 6) hx hb hK hP 6 0 rfl rfl (ck_in b9) dX4_brought_43 ?_
    refine lv_sipush (v := 256) hx hb dX4_brought_44 (by decide) ?_
    refine lv_imul hx hb dX4_brought_47 ?_
    refine lv_iload_n hx hb dX4_brought_48 rfl (lv_at hl 1 rfl) ?_
    obtain ⟨q10, h11, hf⟩ := bd_some hf
    refine kx_rsn (As := [.int (g (Int32.toNatClampNeg ((w 4) (Int32.toNatClampNeg x))))]) (rest := [.int (((w 6) (Int32.toNatClampNeg ((x * 8) + q3))) * 256)]) hx hb hml hown hts hk hl.1 s_yX6_setOf mT_324 (c_setOf l D cI cZ cR (g (Int32.toNatClampNeg ((w 4) (Int32.toNatClampNeg x)))) _ h11) (List.mem_of_getElem? (i := 8) rfl) rfl rfl ⟨Nat.le_of_ble_eq_true rfl, Nat.le_of_ble_eq_true rfl⟩ rfl (Nat.le_of_ble_eq_true rfl) ⟨Nat.zero_le _, Nat.zero_le _⟩ dX4_brought_49 ?_
    refine lv_aload_n hx hb dX4_brought_52 rfl (lv_at hl 2 rfl) ?_
    refine va_get (D := D) (ci := 4) (v := .ref w8) (C := RX4) (T := TX4) (N := 12) hx hb hts inT4 hown hK hP 0 rfl rfl 10 (by decide) (hts _ mT_101) (fun _ h9 => h9) rfl dX4_brought_53 ?_
    refine lv_iload_n hx hb dX4_brought_56 rfl (lv_at hl 3 rfl) ?_
    obtain ⟨b12, hf⟩ := gd_some hf
    refine va_iald (n := 20) (f := w 8) hx hb hK hP 8 0 rfl rfl (ck_in b12) dX4_brought_57 ?_
    refine lv_iconst (v := (-1)) hx hb dX4_brought_58 (by decide) ?_
    refine lv_ixor hx hb dX4_brought_59 ?_
    refine lv_iand hx hb dX4_brought_60 ?_
    refine lv_aload_n hx hb dX4_brought_61 rfl (lv_at hl 2 rfl) ?_
    refine va_get (D := D) (ci := 4) (v := .ref w7) (C := RX4) (T := TX4) (N := 12) hx hb hts inT4 hown hK hP 0 rfl rfl 9 (by decide) (hts _ mT_99) (fun _ h9 => h9) rfl dX4_brought_62 ?_
    refine lv_iload_n hx hb dX4_brought_65 rfl (lv_at hl 3 rfl) ?_
    obtain ⟨b13, hf⟩ := gd_some hf
    refine va_iald (n := 20) (f := w 7) hx hb hK hP 7 0 rfl rfl (ck_in b13) dX4_brought_66 ?_
    refine lv_ior hx hb dX4_brought_67 ?_
    refine lv_iadd hx hb dX4_brought_68 ?_
    exact hret _ _ _ hf dX4_brought_69
  · have hf := ite_t c8 hf
    refine lv_iconst (v := 0) hx hb dX4_brought_30 (by decide) ?_
    exact hret _ _ _ hf dX4_brought_31
theorem s_yX4_together : kMS yX4_together cX4_together 8 (some .int) 3 := ⟨mT_319, mT_52, by decide +kernel⟩
theorem v_yX4_together : kMV yX4_together := ⟨mT_317, mT_318⟩
def k_together_25 (x4_8 : Int32) (x5_9 : Int32) (x6_10 : Int32) : Option Int32 := some ((x4_8 * 256) + x5_9)
def lp_together_25 (w : Ob) (g : Nat → Int32) (x : Int32) (y : Int32) (kk0 : Int32 → Int32 → Int32 → Option Int32) : Nat → Int32 → Int32 → Int32 → Option Int32
  | 0, _, _, _ => none
  | fu7 + 1, x4_8, x5_9, x6_10 => if (w 0 2) ≤ x6_10 then (kk0 x4_8 x5_9 x6_10) else (gd (ck x6_10 20) (if ((w 5) (Int32.toNatClampNeg x6_10)) = x then (if x6_10 = y then ((lp_together_25 w g x y kk0 fu7) x4_8 x5_9 (x6_10 + 1)) else (bd (f_brought w g x6_10) (fun q15 => bd (f_valueOf q15) (fun q17 => bd (f_join w x4_8 q17) (fun q19 => bd (f_setOf q15) (fun q21 => (lp_together_25 w g x y kk0 fu7) q19 (x5_9 ||| q21) (x6_10 + 1))))))) else ((lp_together_25 w g x y kk0 fu7) x4_8 x5_9 (x6_10 + 1))))
def f_together (w : Ob) (g : Nat → Int32) (x : Int32) (y : Int32) : Option Int32 := gd (ck x 10) (bd (f_valueOf ((w 2) (Int32.toNatClampNeg x))) (fun q2 => gd (ck x 10) (bd (f_setOf ((w 2) (Int32.toNatClampNeg x))) (fun q5 => lp_together_25 w g x y k_together_25 10000 q2 q5 0))))
set_option maxHeartbeats 4000000 in
set_option maxRecDepth 100000 in
theorem c_together (l : Launch) (D : va_G) (cI cZ cR : ClassId) (wa w1 w2 w3 w4 w5 w6 w7 w8 w9 ga : Nat) (w : Ob) (g : Nat → Int32) (x : Int32) (y : Int32) (r : Int32) (hf : f_together w g x y = some r) : kCr l yX4_together cX4_together 8 (some .int) { frames := 2, cells := 0, slots := 0, locals := 46 } [.ref wa, .int x, .ref ga, .int y] D cI cZ cR (cWeb cI wa w1 w2 w3 w4 w5 w6 w7 w8 w9 w ++ (cArr cI 10 ga g)) r := by
  refine kMri (by decide) (Nat.le_of_ble_eq_true rfl) ?_
  intro p e s m below meth c Q hx hb hml hown hts hk hP hret ls hl
  have hK := hk.1
  have hl : lv_has ls 8 [(0, .ref wa), (1, .int x), (2, .ref ga), (3, .int y)] := hl
  rw [f_together] at hf
  refine lv_aload_n hx hb dX4_together_0 rfl (lv_at hl 0 rfl) ?_
  refine va_get (D := D) (ci := 4) (v := .ref w2) (C := RX4) (T := TX4) (N := 12) hx hb hts inT4 hown hK hP 0 rfl rfl 4 (by decide) (hts _ mT_86) (fun _ h9 => h9) rfl dX4_together_1 ?_
  refine lv_iload_n hx hb dX4_together_4 rfl (lv_at hl 1 rfl) ?_
  obtain ⟨b1, hf⟩ := gd_some hf
  refine va_iald (n := 10) (f := w 2) hx hb hK hP 2 0 rfl rfl (ck_in b1) dX4_together_5 ?_
  obtain ⟨q2, h3, hf⟩ := bd_some hf
  refine kx_rsn (As := [.int ((w 2) (Int32.toNatClampNeg x))]) (rest := []) hx hb hml hown hts hk hl.1 s_yX6_valueOf mT_321 (c_valueOf l D cI cZ cR ((w 2) (Int32.toNatClampNeg x)) _ h3) (List.mem_of_getElem? (i := 7) rfl) rfl rfl ⟨Nat.le_of_ble_eq_true rfl, Nat.le_of_ble_eq_true rfl⟩ rfl (Nat.le_of_ble_eq_true rfl) ⟨Nat.zero_le _, Nat.zero_le _⟩ dX4_together_6 ?_
  refine lv_istore (lv' := [(4, .int q2), (0, .ref wa), (1, .int x), (2, .ref ga), (3, .int y)]) hx hb dX4_together_9 hl (by decide) rfl (fun ls hl => ?_)
  refine lv_aload_n hx hb dX4_together_11 rfl (lv_at hl 1 rfl) ?_
  refine va_get (D := D) (ci := 4) (v := .ref w2) (C := RX4) (T := TX4) (N := 12) hx hb hts inT4 hown hK hP 0 rfl rfl 4 (by decide) (hts _ mT_86) (fun _ h9 => h9) rfl dX4_together_12 ?_
  refine lv_iload_n hx hb dX4_together_15 rfl (lv_at hl 2 rfl) ?_
  obtain ⟨b4, hf⟩ := gd_some hf
  refine va_iald (n := 10) (f := w 2) hx hb hK hP 2 0 rfl rfl (ck_in b4) dX4_together_16 ?_
  obtain ⟨q5, h6, hf⟩ := bd_some hf
  refine kx_rsn (As := [.int ((w 2) (Int32.toNatClampNeg x))]) (rest := []) hx hb hml hown hts hk hl.1 s_yX6_setOf mT_324 (c_setOf l D cI cZ cR ((w 2) (Int32.toNatClampNeg x)) _ h6) (List.mem_of_getElem? (i := 8) rfl) rfl rfl ⟨Nat.le_of_ble_eq_true rfl, Nat.le_of_ble_eq_true rfl⟩ rfl (Nat.le_of_ble_eq_true rfl) ⟨Nat.zero_le _, Nat.zero_le _⟩ dX4_together_17 ?_
  refine lv_istore (lv' := [(5, .int q5), (4, .int q2), (0, .ref wa), (1, .int x), (2, .ref ga), (3, .int y)]) hx hb dX4_together_20 hl (by decide) rfl (fun ls hl => ?_)
  refine lv_iconst (v := 0) hx hb dX4_together_22 (by decide) ?_
  refine lv_istore (lv' := [(6, .int 0), (5, .int q5), (4, .int q2), (0, .ref wa), (1, .int x), (2, .ref ga), (3, .int y)]) hx hb dX4_together_23 hl (by decide) rfl (fun ls hl => ?_)
  have kx7 : ∀ (x4_8 : Int32) (x5_9 : Int32) (x6_10 : Int32) (ls : Array Slot), k_together_25 x4_8 x5_9 x6_10 = some r → lv_has ls 8 [(0, .ref wa), (1, .int x), (2, .ref ga), (3, .int y), (4, .int x4_8), (5, .int x5_9), (6, .int x6_10)] → W p l e ({ frames := 2, cells := 0, slots := 0, locals := 46 } : Room) s m ([.ref wa, .int x, .ref ga, .int y] : List Value).toArray below meth c s.heap [] 0 0 Q (F0 m 89 ls []) := by
    intro x4_8 x5_9 x6_10 ls hf hl
    rw [k_together_25] at hf
    refine lv_iload hx hb dX4_together_89 (lv_at hl 4 rfl) ?_
    refine lv_sipush (v := 256) hx hb dX4_together_91 (by decide) ?_
    refine lv_imul hx hb dX4_together_94 ?_
    refine lv_iload hx hb dX4_together_95 (lv_at hl 5 rfl) ?_
    refine lv_iadd hx hb dX4_together_97 ?_
    exact hret _ _ _ hf dX4_together_98
  have lh7 : ∀ (fu7 : Nat) (x4_8 : Int32) (x5_9 : Int32) (x6_10 : Int32) (ls : Array Slot), lp_together_25 w g x y k_together_25 fu7 x4_8 x5_9 x6_10 = some r → lv_has ls 8 [(0, .ref wa), (1, .int x), (2, .ref ga), (3, .int y), (4, .int x4_8), (5, .int x5_9), (6, .int x6_10)] → W p l e ({ frames := 2, cells := 0, slots := 0, locals := 46 } : Room) s m ([.ref wa, .int x, .ref ga, .int y] : List Value).toArray below meth c s.heap [] 0 0 Q (F0 m 25 ls []) := by
    intro fu7
    induction fu7 with
    | zero => intro x4_8 x5_9 x6_10 ls hf hl; exact no_none hf
    | succ fu7 ih7 =>
      intro x4_8 x5_9 x6_10 ls hf hl
      rw [lp_together_25] at hf
      refine lv_iload hx hb dX4_together_25 (lv_at hl 6 rfl) ?_
      refine lv_aload_n hx hb dX4_together_27 rfl (lv_at hl 0 rfl) ?_
      refine va_get (D := D) (ci := 4) (v := .int (w 0 2)) (C := RX4) (T := TX4) (N := 12) hx hb hts inT4 hown hK hP 0 rfl rfl 2 (by decide) (hts _ mT_81) (fun _ h9 => h9) rfl dX4_together_28 ?_
      refine lv_icmp_ge (tgt := 89) hx hb dX4_together_31 (by decide) (fun c11 => ?_) (fun c11 => ?_)
      · have hf := ite_t c11 hf
        exact kx7 x4_8 x5_9 x6_10 _ hf (lv_sub hl [0, 1, 2, 3, 4, 5, 6] rfl)
      · have hf := ite_f c11 hf
        refine lv_aload_n hx hb dX4_together_34 rfl (lv_at hl 0 rfl) ?_
        refine va_get (D := D) (ci := 4) (v := .ref w5) (C := RX4) (T := TX4) (N := 12) hx hb hts inT4 hown hK hP 0 rfl rfl 7 (by decide) (hts _ mT_94) (fun _ h9 => h9) rfl dX4_together_35 ?_
        refine lv_iload hx hb dX4_together_38 (lv_at hl 6 rfl) ?_
        obtain ⟨b12, hf⟩ := gd_some hf
        refine va_iald (n := 20) (f := w 5) hx hb hK hP 5 0 rfl rfl (ck_in b12) dX4_together_40 ?_
        refine lv_iload_n hx hb dX4_together_41 rfl (lv_at hl 1 rfl) ?_
        refine lv_icmp_ne (tgt := 83) hx hb dX4_together_42 (by decide) (fun c13 => ?_) (fun c13 => ?_)
        · have hf := ite_f c13 hf
          refine lv_iinc (v := x6_10 + 1) (lv' := [(6, .int (x6_10 + 1)), (0, .ref wa), (1, .int x), (2, .ref ga), (3, .int y), (4, .int x4_8), (5, .int x5_9)]) hx hb dX4_together_83 hl (k := 6) rfl rfl (by decide) rfl (fun ls hl => ?_)
          refine lv_goto (tgt := 25) hx hb dX4_together_86 (by decide) ?_
          exact ih7 x4_8 x5_9 (x6_10 + 1) _ hf (lv_sub hl [1, 2, 3, 4, 5, 6, 0] rfl)
        · have hf := ite_t c13 hf
          refine lv_iload hx hb dX4_together_45 (lv_at hl 6 rfl) ?_
          refine lv_iload_n hx hb dX4_together_47 rfl (lv_at hl 3 rfl) ?_
          refine lv_icmp_eq (tgt := 83) hx hb dX4_together_48 (by decide) (fun c14 => ?_) (fun c14 => ?_)
          · have hf := ite_t c14 hf
            refine lv_iinc (v := x6_10 + 1) (lv' := [(6, .int (x6_10 + 1)), (0, .ref wa), (1, .int x), (2, .ref ga), (3, .int y), (4, .int x4_8), (5, .int x5_9)]) hx hb dX4_together_83 hl (k := 6) rfl rfl (by decide) rfl (fun ls hl => ?_)
            refine lv_goto (tgt := 25) hx hb dX4_together_86 (by decide) ?_
            exact ih7 x4_8 x5_9 (x6_10 + 1) _ hf (lv_sub hl [1, 2, 3, 4, 5, 6, 0] rfl)
          · have hf := ite_f c14 hf
            refine lv_aload_n hx hb dX4_together_51 rfl (lv_at hl 0 rfl) ?_
            refine lv_iload hx hb dX4_together_52 (lv_at hl 6 rfl) ?_
            refine lv_aload_n hx hb dX4_together_54 rfl (lv_at hl 2 rfl) ?_
            obtain ⟨q15, h16, hf⟩ := bd_some hf
            refine kx_rv (As := [.int x6_10, .ref ga]) (rest := []) hx hb hml hown hts hk hP hl.1 s_yX4_brought v_yX4_brought (c_brought l D cI cZ cR wa w1 w2 w3 w4 w5 w6 w7 w8 w9 ga w g x6_10 _ h16) mT_326 rfl rfl ⟨Nat.le_of_ble_eq_true rfl, Nat.le_of_ble_eq_true rfl⟩ (ci := 4) (q0 := 0) rfl rfl rfl (Nat.le_of_ble_eq_true rfl) ⟨Nat.zero_le _, Nat.zero_le _⟩ dX4_together_55 ?_
            refine lv_istore (lv' := [(7, .int q15), (0, .ref wa), (1, .int x), (2, .ref ga), (3, .int y), (4, .int x4_8), (5, .int x5_9), (6, .int x6_10)]) hx hb dX4_together_58 hl (by decide) rfl (fun ls hl => ?_)
            refine lv_aload_n hx hb dX4_together_60 rfl (lv_at hl 1 rfl) ?_
            refine lv_iload hx hb dX4_together_61 (lv_at hl 5 rfl) ?_
            refine lv_iload hx hb dX4_together_63 (lv_at hl 0 rfl) ?_
            obtain ⟨q17, h18, hf⟩ := bd_some hf
            refine kx_rsn (As := [.int q15]) (rest := [.int x4_8, .ref wa]) hx hb hml hown hts hk hl.1 s_yX6_valueOf mT_321 (c_valueOf l D cI cZ cR q15 _ h18) (List.mem_of_getElem? (i := 7) rfl) rfl rfl ⟨Nat.le_of_ble_eq_true rfl, Nat.le_of_ble_eq_true rfl⟩ rfl (Nat.le_of_ble_eq_true rfl) ⟨Nat.zero_le _, Nat.zero_le _⟩ dX4_together_65 ?_
            obtain ⟨q19, h20, hf⟩ := bd_some hf
            refine kx_rv (As := [.int x4_8, .int q17]) (rest := []) hx hb hml hown hts hk (hP.sub (ws' := cWeb cI wa w1 w2 w3 w4 w5 w6 w7 w8 w9 w) [0, 1, 2, 3, 4, 5, 6, 7, 8, 9] rfl) hl.1 s_yX4_join v_yX4_join (c_join l D cI cZ cR wa w1 w2 w3 w4 w5 w6 w7 w8 w9 w x4_8 q17 _ h20) mT_266 rfl rfl ⟨Nat.le_of_ble_eq_true rfl, Nat.le_of_ble_eq_true rfl⟩ (ci := 4) (q0 := 0) rfl rfl rfl (Nat.le_of_ble_eq_true rfl) ⟨Nat.zero_le _, Nat.zero_le _⟩ dX4_together_68 ?_
            refine lv_istore (lv' := [(4, .int q19), (7, .int q15), (0, .ref wa), (1, .int x), (2, .ref ga), (3, .int y), (5, .int x5_9), (6, .int x6_10)]) hx hb dX4_together_71 hl (by decide) rfl (fun ls hl => ?_)
            refine lv_iload hx hb dX4_together_73 (lv_at hl 6 rfl) ?_
            refine lv_iload hx hb dX4_together_75 (lv_at hl 1 rfl) ?_
            obtain ⟨q21, h22, hf⟩ := bd_some hf
            refine kx_rsn (As := [.int q15]) (rest := [.int x5_9]) hx hb hml hown hts hk hl.1 s_yX6_setOf mT_324 (c_setOf l D cI cZ cR q15 _ h22) (List.mem_of_getElem? (i := 8) rfl) rfl rfl ⟨Nat.le_of_ble_eq_true rfl, Nat.le_of_ble_eq_true rfl⟩ rfl (Nat.le_of_ble_eq_true rfl) ⟨Nat.zero_le _, Nat.zero_le _⟩ dX4_together_77 ?_
            refine lv_ior hx hb dX4_together_80 ?_
            refine lv_istore (lv' := [(5, .int (x5_9 ||| q21)), (4, .int q19), (7, .int q15), (0, .ref wa), (1, .int x), (2, .ref ga), (3, .int y), (6, .int x6_10)]) hx hb dX4_together_81 hl (by decide) rfl (fun ls hl => ?_)
            refine lv_iinc (v := x6_10 + 1) (lv' := [(6, .int (x6_10 + 1)), (5, .int (x5_9 ||| q21)), (4, .int q19), (7, .int q15), (0, .ref wa), (1, .int x), (2, .ref ga), (3, .int y)]) hx hb dX4_together_83 hl (k := 7) rfl rfl (by decide) rfl (fun ls hl => ?_)
            refine lv_goto (tgt := 25) hx hb dX4_together_86 (by decide) ?_
            exact ih7 q19 (x5_9 ||| q21) (x6_10 + 1) _ hf (lv_sub hl [4, 5, 6, 7, 2, 1, 0] rfl)
  exact lh7 10000 q2 q5 0 _ hf (lv_sub hl [3, 4, 5, 6, 2, 1, 0] rfl)
theorem s_yX4_isNoMore : kMS yX4_isNoMore cX4_isNoMore 3 (some .boolean) 2 := ⟨mT_333, mT_52, by decide +kernel⟩
theorem v_yX4_isNoMore : kMV yX4_isNoMore := ⟨mT_331, mT_332⟩
def f_isNoMore (w : Ob) (x : Int32) (y : Int32) : Option Int32 := bd (f_valueOf x) (fun q1 => bd (f_valueOf y) (fun q3 => bd (f_isBelow w q1 q3) (fun q5 => if q5 = 0 then (some 0) else (bd (f_setOf x) (fun q8 => bd (f_setOf y) (fun q10 => if (q8 &&& (q10 ^^^ (-1))) = 0 then (some 1) else (some 0)))))))
set_option maxHeartbeats 4000000 in
set_option maxRecDepth 100000 in
theorem c_isNoMore (l : Launch) (D : va_G) (cI cZ cR : ClassId) (wa w1 w2 w3 w4 w5 w6 w7 w8 w9 : Nat) (w : Ob) (x : Int32) (y : Int32) (r : Int32) (hf : f_isNoMore w x y = some r) : kCr l yX4_isNoMore cX4_isNoMore 3 (some .boolean) { frames := 1, cells := 0, slots := 0, locals := 22 } [.ref wa, .int x, .int y] D cI cZ cR (cWeb cI wa w1 w2 w3 w4 w5 w6 w7 w8 w9 w) r := by
  refine kMrz (by decide) (Nat.le_of_ble_eq_true rfl) ?_
  intro p e s m below meth c Q hx hb hml hown hts hk hP hret ls hl
  have hK := hk.1
  have hl : lv_has ls 3 [(0, .ref wa), (1, .int x), (2, .int y)] := hl
  rw [f_isNoMore] at hf
  refine lv_aload_n hx hb dX4_isNoMore_0 rfl (lv_at hl 0 rfl) ?_
  refine lv_iload_n hx hb dX4_isNoMore_1 rfl (lv_at hl 1 rfl) ?_
  obtain ⟨q1, h2, hf⟩ := bd_some hf
  refine kx_rsn (As := [.int x]) (rest := [.ref wa]) hx hb hml hown hts hk hl.1 s_yX6_valueOf mT_321 (c_valueOf l D cI cZ cR x _ h2) (List.mem_of_getElem? (i := 7) rfl) rfl rfl ⟨Nat.le_of_ble_eq_true rfl, Nat.le_of_ble_eq_true rfl⟩ rfl (Nat.le_of_ble_eq_true rfl) ⟨Nat.zero_le _, Nat.zero_le _⟩ dX4_isNoMore_2 ?_
  refine lv_iload_n hx hb dX4_isNoMore_5 rfl (lv_at hl 2 rfl) ?_
  obtain ⟨q3, h4, hf⟩ := bd_some hf
  refine kx_rsn (As := [.int y]) (rest := [.int q1, .ref wa]) hx hb hml hown hts hk hl.1 s_yX6_valueOf mT_321 (c_valueOf l D cI cZ cR y _ h4) (List.mem_of_getElem? (i := 7) rfl) rfl rfl ⟨Nat.le_of_ble_eq_true rfl, Nat.le_of_ble_eq_true rfl⟩ rfl (Nat.le_of_ble_eq_true rfl) ⟨Nat.zero_le _, Nat.zero_le _⟩ dX4_isNoMore_6 ?_
  obtain ⟨q5, h6, hf⟩ := bd_some hf
  refine kx_rv (As := [.int q1, .int q3]) (rest := []) hx hb hml hown hts hk hP hl.1 s_yX4_isBelow v_yX4_isBelow (c_isBelow l D cI cZ cR wa w1 w2 w3 w4 w5 w6 w7 w8 w9 w q1 q3 _ h6) mT_290 rfl rfl ⟨Nat.le_of_ble_eq_true rfl, Nat.le_of_ble_eq_true rfl⟩ (ci := 4) (q0 := 0) rfl rfl rfl (Nat.le_of_ble_eq_true rfl) ⟨Nat.zero_le _, Nat.zero_le _⟩ dX4_isNoMore_9 ?_
  refine lv_if_eq (tgt := 33) hx hb dX4_isNoMore_12 (by decide) (fun c7 => ?_) (fun c7 => ?_)
  · have hf := ite_t c7 hf
    refine lv_iconst (v := 0) hx hb dX4_isNoMore_33 (by decide) ?_
    exact hret _ _ _ hf (Or.inl rfl) dX4_isNoMore_34
  · have hf := ite_f c7 hf
    refine lv_iload_n hx hb dX4_isNoMore_15 rfl (lv_at hl 1 rfl) ?_
    obtain ⟨q8, h9, hf⟩ := bd_some hf
    refine kx_rsn (As := [.int x]) (rest := []) hx hb hml hown hts hk hl.1 s_yX6_setOf mT_324 (c_setOf l D cI cZ cR x _ h9) (List.mem_of_getElem? (i := 8) rfl) rfl rfl ⟨Nat.le_of_ble_eq_true rfl, Nat.le_of_ble_eq_true rfl⟩ rfl (Nat.le_of_ble_eq_true rfl) ⟨Nat.zero_le _, Nat.zero_le _⟩ dX4_isNoMore_16 ?_
    refine lv_iload_n hx hb dX4_isNoMore_19 rfl (lv_at hl 2 rfl) ?_
    obtain ⟨q10, h11, hf⟩ := bd_some hf
    refine kx_rsn (As := [.int y]) (rest := [.int q8]) hx hb hml hown hts hk hl.1 s_yX6_setOf mT_324 (c_setOf l D cI cZ cR y _ h11) (List.mem_of_getElem? (i := 8) rfl) rfl rfl ⟨Nat.le_of_ble_eq_true rfl, Nat.le_of_ble_eq_true rfl⟩ rfl (Nat.le_of_ble_eq_true rfl) ⟨Nat.zero_le _, Nat.zero_le _⟩ dX4_isNoMore_20 ?_
    refine lv_iconst (v := (-1)) hx hb dX4_isNoMore_23 (by decide) ?_
    refine lv_ixor hx hb dX4_isNoMore_24 ?_
    refine lv_iand hx hb dX4_isNoMore_25 ?_
    refine lv_if_ne (tgt := 33) hx hb dX4_isNoMore_26 (by decide) (fun c12 => ?_) (fun c12 => ?_)
    · have hf := ite_f c12 hf
      refine lv_iconst (v := 0) hx hb dX4_isNoMore_33 (by decide) ?_
      exact hret _ _ _ hf (Or.inl rfl) dX4_isNoMore_34
    · have hf := ite_t c12 hf
      refine lv_iconst (v := 1) hx hb dX4_isNoMore_29 (by decide) ?_
      refine lv_goto (tgt := 34) hx hb dX4_isNoMore_30 (by decide) ?_
      exact hret _ _ _ hf (Or.inr rfl) dX4_isNoMore_34
theorem s_yX4_joinsWithItself : kMS yX4_joinsWithItself cX4_joinsWithItself 2 (some .boolean) 0 := ⟨mT_265, mT_52, by decide +kernel⟩
theorem v_yX4_joinsWithItself : kMV yX4_joinsWithItself := ⟨mT_264, mT_1⟩
def k_joinsWithItself_2 (x1_2 : Int32) : Option Int32 := some 1
def lp_joinsWithItself_2 (w : Ob) (kk0 : Int32 → Option Int32) : Nat → Int32 → Option Int32
  | 0, _ => none
  | fu1 + 1, x1_2 => if (w 0 0) ≤ x1_2 then (kk0 x1_2) else (bd (f_join w x1_2 x1_2) (fun q4 => if q4 = x1_2 then ((lp_joinsWithItself_2 w kk0 fu1) (x1_2 + 1)) else (some 0)))
def f_joinsWithItself (w : Ob) : Option Int32 := lp_joinsWithItself_2 w k_joinsWithItself_2 10000 0
set_option maxHeartbeats 4000000 in
set_option maxRecDepth 100000 in
theorem c_joinsWithItself (l : Launch) (D : va_G) (cI cZ cR : ClassId) (wa w1 w2 w3 w4 w5 w6 w7 w8 w9 : Nat) (w : Ob) (r : Int32) (hf : f_joinsWithItself w = some r) : kCr l yX4_joinsWithItself cX4_joinsWithItself 2 (some .boolean) { frames := 1, cells := 0, slots := 0, locals := 22 } [.ref wa] D cI cZ cR (cWeb cI wa w1 w2 w3 w4 w5 w6 w7 w8 w9 w) r := by
  refine kMrz (by decide) (Nat.le_of_ble_eq_true rfl) ?_
  intro p e s m below meth c Q hx hb hml hown hts hk hP hret ls hl
  have hK := hk.1
  have hl : lv_has ls 2 [(0, .ref wa)] := hl
  rw [f_joinsWithItself] at hf
  refine lv_iconst (v := 0) hx hb dX4_joinsWithItself_0 (by decide) ?_
  refine lv_istore_n (lv' := [(1, .int 0), (0, .ref wa)]) hx hb dX4_joinsWithItself_1 rfl hl (by decide) rfl (fun ls hl => ?_)
  have kx1 : ∀ (x1_2 : Int32) (ls : Array Slot), k_joinsWithItself_2 x1_2 = some r → lv_has ls 2 [(0, .ref wa), (1, .int x1_2)] → W p l e ({ frames := 1, cells := 0, slots := 0, locals := 22 } : Room) s m ([.ref wa] : List Value).toArray below meth c s.heap [] 0 0 Q (F0 m 28 ls []) := by
    intro x1_2 ls hf hl
    rw [k_joinsWithItself_2] at hf
    refine lv_iconst (v := 1) hx hb dX4_joinsWithItself_28 (by decide) ?_
    exact hret _ _ _ hf (Or.inr rfl) dX4_joinsWithItself_29
  have lh1 : ∀ (fu1 : Nat) (x1_2 : Int32) (ls : Array Slot), lp_joinsWithItself_2 w k_joinsWithItself_2 fu1 x1_2 = some r → lv_has ls 2 [(0, .ref wa), (1, .int x1_2)] → W p l e ({ frames := 1, cells := 0, slots := 0, locals := 22 } : Room) s m ([.ref wa] : List Value).toArray below meth c s.heap [] 0 0 Q (F0 m 2 ls []) := by
    intro fu1
    induction fu1 with
    | zero => intro x1_2 ls hf hl; exact no_none hf
    | succ fu1 ih1 =>
      intro x1_2 ls hf hl
      rw [lp_joinsWithItself_2] at hf
      refine lv_iload_n hx hb dX4_joinsWithItself_2 rfl (lv_at hl 1 rfl) ?_
      refine lv_aload_n hx hb dX4_joinsWithItself_3 rfl (lv_at hl 0 rfl) ?_
      refine va_get (D := D) (ci := 4) (v := .int (w 0 0)) (C := RX4) (T := TX4) (N := 12) hx hb hts inT4 hown hK hP 0 rfl rfl 0 (by decide) (hts _ mT_75) (fun _ h9 => h9) rfl dX4_joinsWithItself_4 ?_
      refine lv_icmp_ge (tgt := 28) hx hb dX4_joinsWithItself_7 (by decide) (fun c3 => ?_) (fun c3 => ?_)
      · have hf := ite_t c3 hf
        exact kx1 x1_2 _ hf (lv_sub hl [0, 1] rfl)
      · have hf := ite_f c3 hf
        refine lv_aload_n hx hb dX4_joinsWithItself_10 rfl (lv_at hl 0 rfl) ?_
        refine lv_iload_n hx hb dX4_joinsWithItself_11 rfl (lv_at hl 1 rfl) ?_
        refine lv_iload_n hx hb dX4_joinsWithItself_12 rfl (lv_at hl 1 rfl) ?_
        obtain ⟨q4, h5, hf⟩ := bd_some hf
        refine kx_rv (As := [.int x1_2, .int x1_2]) (rest := []) hx hb hml hown hts hk hP hl.1 s_yX4_join v_yX4_join (c_join l D cI cZ cR wa w1 w2 w3 w4 w5 w6 w7 w8 w9 w x1_2 x1_2 _ h5) mT_266 rfl rfl ⟨Nat.le_of_ble_eq_true rfl, Nat.le_of_ble_eq_true rfl⟩ (ci := 4) (q0 := 0) rfl rfl rfl (Nat.le_of_ble_eq_true rfl) ⟨Nat.zero_le _, Nat.zero_le _⟩ dX4_joinsWithItself_13 ?_
        refine lv_iload_n hx hb dX4_joinsWithItself_16 rfl (lv_at hl 1 rfl) ?_
        refine lv_icmp_eq (tgt := 22) hx hb dX4_joinsWithItself_17 (by decide) (fun c6 => ?_) (fun c6 => ?_)
        · have hf := ite_t c6 hf
          refine lv_iinc (v := x1_2 + 1) (lv' := [(1, .int (x1_2 + 1)), (0, .ref wa)]) hx hb dX4_joinsWithItself_22 hl (k := 1) rfl rfl (by decide) rfl (fun ls hl => ?_)
          refine lv_goto (tgt := 2) hx hb dX4_joinsWithItself_25 (by decide) ?_
          exact ih1 (x1_2 + 1) _ hf (lv_sub hl [1, 0] rfl)
        · have hf := ite_f c6 hf
          refine lv_iconst (v := 0) hx hb dX4_joinsWithItself_20 (by decide) ?_
          exact hret _ _ _ hf (Or.inl rfl) dX4_joinsWithItself_21
  exact lh1 10000 0 _ hf (lv_sub hl [1, 0] rfl)
theorem s_yX4_joinsBothWaysAlike : kMS yX4_joinsBothWaysAlike cX4_joinsBothWaysAlike 3 (some .boolean) 0 := ⟨mT_273, mT_52, by decide +kernel⟩
theorem v_yX4_joinsBothWaysAlike : kMV yX4_joinsBothWaysAlike := ⟨mT_272, mT_2⟩
def k_joinsBothWaysAlike_2 (x1_2 : Int32) : Option Int32 := some 1
def k_joinsBothWaysAlike_12 (x1_2 : Int32) (go_L1 : Int32 → Option Int32) (x2_5 : Int32) : Option Int32 := go_L1 (x1_2 + 1)
def lp_joinsBothWaysAlike_12 (w : Ob) (x1_2 : Int32) (kk0 : Int32 → Option Int32) : Nat → Int32 → Option Int32
  | 0, _ => none
  | fu4 + 1, x2_5 => if x1_2 ≤ x2_5 then (kk0 x2_5) else (bd (f_join w x1_2 x2_5) (fun q7 => bd (f_join w x2_5 x1_2) (fun q9 => if q7 = q9 then ((lp_joinsBothWaysAlike_12 w x1_2 kk0 fu4) (x2_5 + 1)) else (some 0))))
def lp_joinsBothWaysAlike_2 (w : Ob) (kk0 : Int32 → Option Int32) : Nat → Int32 → Option Int32
  | 0, _ => none
  | fu1 + 1, x1_2 => if (w 0 0) ≤ x1_2 then (kk0 x1_2) else (lp_joinsBothWaysAlike_12 w x1_2 (k_joinsBothWaysAlike_12 x1_2 ((lp_joinsBothWaysAlike_2 w kk0 fu1))) 10000 0)
def f_joinsBothWaysAlike (w : Ob) : Option Int32 := lp_joinsBothWaysAlike_2 w k_joinsBothWaysAlike_2 10000 0
set_option maxHeartbeats 4000000 in
set_option maxRecDepth 100000 in
theorem c_joinsBothWaysAlike (l : Launch) (D : va_G) (cI cZ cR : ClassId) (wa w1 w2 w3 w4 w5 w6 w7 w8 w9 : Nat) (w : Ob) (r : Int32) (hf : f_joinsBothWaysAlike w = some r) : kCr l yX4_joinsBothWaysAlike cX4_joinsBothWaysAlike 3 (some .boolean) { frames := 1, cells := 0, slots := 0, locals := 22 } [.ref wa] D cI cZ cR (cWeb cI wa w1 w2 w3 w4 w5 w6 w7 w8 w9 w) r := by
  refine kMrz (by decide) (Nat.le_of_ble_eq_true rfl) ?_
  intro p e s m below meth c Q hx hb hml hown hts hk hP hret ls hl
  have hK := hk.1
  have hl : lv_has ls 3 [(0, .ref wa)] := hl
  rw [f_joinsBothWaysAlike] at hf
  refine lv_iconst (v := 0) hx hb dX4_joinsBothWaysAlike_0 (by decide) ?_
  refine lv_istore_n (lv' := [(1, .int 0), (0, .ref wa)]) hx hb dX4_joinsBothWaysAlike_1 rfl hl (by decide) rfl (fun ls hl => ?_)
  have kx1 : ∀ (x1_2 : Int32) (ls : Array Slot), k_joinsBothWaysAlike_2 x1_2 = some r → lv_has ls 3 [(0, .ref wa), (1, .int x1_2)] → W p l e ({ frames := 1, cells := 0, slots := 0, locals := 22 } : Room) s m ([.ref wa] : List Value).toArray below meth c s.heap [] 0 0 Q (F0 m 46 ls []) := by
    intro x1_2 ls hf hl
    rw [k_joinsBothWaysAlike_2] at hf
    refine lv_iconst (v := 1) hx hb dX4_joinsBothWaysAlike_46 (by decide) ?_
    exact hret _ _ _ hf (Or.inr rfl) dX4_joinsBothWaysAlike_47
  have lh1 : ∀ (fu1 : Nat) (x1_2 : Int32) (ls : Array Slot), lp_joinsBothWaysAlike_2 w k_joinsBothWaysAlike_2 fu1 x1_2 = some r → lv_has ls 3 [(0, .ref wa), (1, .int x1_2)] → W p l e ({ frames := 1, cells := 0, slots := 0, locals := 22 } : Room) s m ([.ref wa] : List Value).toArray below meth c s.heap [] 0 0 Q (F0 m 2 ls []) := by
    intro fu1
    induction fu1 with
    | zero => intro x1_2 ls hf hl; exact no_none hf
    | succ fu1 ih1 =>
      intro x1_2 ls hf hl
      rw [lp_joinsBothWaysAlike_2] at hf
      refine lv_iload_n hx hb dX4_joinsBothWaysAlike_2 rfl (lv_at hl 1 rfl) ?_
      refine lv_aload_n hx hb dX4_joinsBothWaysAlike_3 rfl (lv_at hl 0 rfl) ?_
      refine va_get (D := D) (ci := 4) (v := .int (w 0 0)) (C := RX4) (T := TX4) (N := 12) hx hb hts inT4 hown hK hP 0 rfl rfl 0 (by decide) (hts _ mT_75) (fun _ h9 => h9) rfl dX4_joinsBothWaysAlike_4 ?_
      refine lv_icmp_ge (tgt := 46) hx hb dX4_joinsBothWaysAlike_7 (by decide) (fun c3 => ?_) (fun c3 => ?_)
      · have hf := ite_t c3 hf
        exact kx1 x1_2 _ hf (lv_sub hl [0, 1] rfl)
      · have hf := ite_f c3 hf
        refine lv_iconst (v := 0) hx hb dX4_joinsBothWaysAlike_10 (by decide) ?_
        refine lv_istore_n (lv' := [(2, .int 0), (0, .ref wa), (1, .int x1_2)]) hx hb dX4_joinsBothWaysAlike_11 rfl hl (by decide) rfl (fun ls hl => ?_)
        have kx4 : ∀ (x2_5 : Int32) (ls : Array Slot), (k_joinsBothWaysAlike_12 x1_2 ((lp_joinsBothWaysAlike_2 w k_joinsBothWaysAlike_2 fu1))) x2_5 = some r → lv_has ls 3 [(0, .ref wa), (1, .int x1_2), (2, .int x2_5)] → W p l e ({ frames := 1, cells := 0, slots := 0, locals := 22 } : Room) s m ([.ref wa] : List Value).toArray below meth c s.heap [] 0 0 Q (F0 m 40 ls []) := by
          intro x2_5 ls hf hl
          rw [k_joinsBothWaysAlike_12] at hf
          refine lv_iinc (v := x1_2 + 1) (lv' := [(1, .int (x1_2 + 1)), (0, .ref wa), (2, .int x2_5)]) hx hb dX4_joinsBothWaysAlike_40 hl (k := 1) rfl rfl (by decide) rfl (fun ls hl => ?_)
          refine lv_goto (tgt := 2) hx hb dX4_joinsBothWaysAlike_43 (by decide) ?_
          exact ih1 (x1_2 + 1) _ hf (lv_sub hl [1, 0] rfl)
        have lh4 : ∀ (fu4 : Nat) (x2_5 : Int32) (ls : Array Slot), lp_joinsBothWaysAlike_12 w x1_2 (k_joinsBothWaysAlike_12 x1_2 ((lp_joinsBothWaysAlike_2 w k_joinsBothWaysAlike_2 fu1))) fu4 x2_5 = some r → lv_has ls 3 [(0, .ref wa), (1, .int x1_2), (2, .int x2_5)] → W p l e ({ frames := 1, cells := 0, slots := 0, locals := 22 } : Room) s m ([.ref wa] : List Value).toArray below meth c s.heap [] 0 0 Q (F0 m 12 ls []) := by
          intro fu4
          induction fu4 with
          | zero => intro x2_5 ls hf hl; exact no_none hf
          | succ fu4 ih4 =>
            intro x2_5 ls hf hl
            rw [lp_joinsBothWaysAlike_12] at hf
            refine lv_iload_n hx hb dX4_joinsBothWaysAlike_12 rfl (lv_at hl 2 rfl) ?_
            refine lv_iload_n hx hb dX4_joinsBothWaysAlike_13 rfl (lv_at hl 1 rfl) ?_
            refine lv_icmp_ge (tgt := 40) hx hb dX4_joinsBothWaysAlike_14 (by decide) (fun c6 => ?_) (fun c6 => ?_)
            · have hf := ite_t c6 hf
              exact kx4 x2_5 _ hf (lv_sub hl [0, 1, 2] rfl)
            · have hf := ite_f c6 hf
              refine lv_aload_n hx hb dX4_joinsBothWaysAlike_17 rfl (lv_at hl 0 rfl) ?_
              refine lv_iload_n hx hb dX4_joinsBothWaysAlike_18 rfl (lv_at hl 1 rfl) ?_
              refine lv_iload_n hx hb dX4_joinsBothWaysAlike_19 rfl (lv_at hl 2 rfl) ?_
              obtain ⟨q7, h8, hf⟩ := bd_some hf
              refine kx_rv (As := [.int x1_2, .int x2_5]) (rest := []) hx hb hml hown hts hk hP hl.1 s_yX4_join v_yX4_join (c_join l D cI cZ cR wa w1 w2 w3 w4 w5 w6 w7 w8 w9 w x1_2 x2_5 _ h8) mT_266 rfl rfl ⟨Nat.le_of_ble_eq_true rfl, Nat.le_of_ble_eq_true rfl⟩ (ci := 4) (q0 := 0) rfl rfl rfl (Nat.le_of_ble_eq_true rfl) ⟨Nat.zero_le _, Nat.zero_le _⟩ dX4_joinsBothWaysAlike_20 ?_
              refine lv_aload_n hx hb dX4_joinsBothWaysAlike_23 rfl (lv_at hl 0 rfl) ?_
              refine lv_iload_n hx hb dX4_joinsBothWaysAlike_24 rfl (lv_at hl 2 rfl) ?_
              refine lv_iload_n hx hb dX4_joinsBothWaysAlike_25 rfl (lv_at hl 1 rfl) ?_
              obtain ⟨q9, h10, hf⟩ := bd_some hf
              refine kx_rv (As := [.int x2_5, .int x1_2]) (rest := [.int q7]) hx hb hml hown hts hk hP hl.1 s_yX4_join v_yX4_join (c_join l D cI cZ cR wa w1 w2 w3 w4 w5 w6 w7 w8 w9 w x2_5 x1_2 _ h10) mT_266 rfl rfl ⟨Nat.le_of_ble_eq_true rfl, Nat.le_of_ble_eq_true rfl⟩ (ci := 4) (q0 := 0) rfl rfl rfl (Nat.le_of_ble_eq_true rfl) ⟨Nat.zero_le _, Nat.zero_le _⟩ dX4_joinsBothWaysAlike_26 ?_
              refine lv_icmp_eq (tgt := 34) hx hb dX4_joinsBothWaysAlike_29 (by decide) (fun c11 => ?_) (fun c11 => ?_)
              · have hf := ite_t c11 hf
                refine lv_iinc (v := x2_5 + 1) (lv' := [(2, .int (x2_5 + 1)), (0, .ref wa), (1, .int x1_2)]) hx hb dX4_joinsBothWaysAlike_34 hl (k := 2) rfl rfl (by decide) rfl (fun ls hl => ?_)
                refine lv_goto (tgt := 12) hx hb dX4_joinsBothWaysAlike_37 (by decide) ?_
                exact ih4 (x2_5 + 1) _ hf (lv_sub hl [1, 2, 0] rfl)
              · have hf := ite_f c11 hf
                refine lv_iconst (v := 0) hx hb dX4_joinsBothWaysAlike_32 (by decide) ?_
                exact hret _ _ _ hf (Or.inl rfl) dX4_joinsBothWaysAlike_33
        exact lh4 10000 0 _ hf (lv_sub hl [1, 2, 0] rfl)
  exact lh1 10000 0 _ hf (lv_sub hl [1, 0] rfl)
theorem s_yX4_joinsInAnyGroupsAlike : kMS yX4_joinsInAnyGroupsAlike cX4_joinsInAnyGroupsAlike 5 (some .boolean) 0 := ⟨mT_277, mT_52, by decide +kernel⟩
theorem v_yX4_joinsInAnyGroupsAlike : kMV yX4_joinsInAnyGroupsAlike := ⟨mT_276, mT_3⟩
def k_joinsInAnyGroupsAlike_2 (x1_2 : Int32) : Option Int32 := some 1
def k_joinsInAnyGroupsAlike_12 (x1_2 : Int32) (go_L1 : Int32 → Option Int32) (x2_5 : Int32) : Option Int32 := go_L1 (x1_2 + 1)
def k_joinsInAnyGroupsAlike_30 (x2_5 : Int32) (go_L4 : Int32 → Option Int32) (x4_10 : Int32) : Option Int32 := go_L4 (x2_5 + 1)
def lp_joinsInAnyGroupsAlike_30 (w : Ob) (x1_2 : Int32) (x2_5 : Int32) (q7 : Int32) (kk0 : Int32 → Option Int32) : Nat → Int32 → Option Int32
  | 0, _ => none
  | fu9 + 1, x4_10 => if (w 0 0) ≤ x4_10 then (kk0 x4_10) else (bd (f_join w q7 x4_10) (fun q12 => bd (f_join w x2_5 x4_10) (fun q14 => bd (f_join w x1_2 q14) (fun q16 => if q12 = q16 then ((lp_joinsInAnyGroupsAlike_30 w x1_2 x2_5 q7 kk0 fu9) (x4_10 + 1)) else (some 0)))))
def lp_joinsInAnyGroupsAlike_12 (w : Ob) (x1_2 : Int32) (kk0 : Int32 → Option Int32) : Nat → Int32 → Option Int32
  | 0, _ => none
  | fu4 + 1, x2_5 => if (w 0 0) ≤ x2_5 then (kk0 x2_5) else (bd (f_join w x1_2 x2_5) (fun q7 => lp_joinsInAnyGroupsAlike_30 w x1_2 x2_5 q7 (k_joinsInAnyGroupsAlike_30 x2_5 ((lp_joinsInAnyGroupsAlike_12 w x1_2 kk0 fu4))) 10000 0))
def lp_joinsInAnyGroupsAlike_2 (w : Ob) (kk0 : Int32 → Option Int32) : Nat → Int32 → Option Int32
  | 0, _ => none
  | fu1 + 1, x1_2 => if (w 0 0) ≤ x1_2 then (kk0 x1_2) else (lp_joinsInAnyGroupsAlike_12 w x1_2 (k_joinsInAnyGroupsAlike_12 x1_2 ((lp_joinsInAnyGroupsAlike_2 w kk0 fu1))) 10000 0)
def f_joinsInAnyGroupsAlike (w : Ob) : Option Int32 := lp_joinsInAnyGroupsAlike_2 w k_joinsInAnyGroupsAlike_2 10000 0
set_option maxHeartbeats 4000000 in
set_option maxRecDepth 100000 in
theorem c_joinsInAnyGroupsAlike (l : Launch) (D : va_G) (cI cZ cR : ClassId) (wa w1 w2 w3 w4 w5 w6 w7 w8 w9 : Nat) (w : Ob) (r : Int32) (hf : f_joinsInAnyGroupsAlike w = some r) : kCr l yX4_joinsInAnyGroupsAlike cX4_joinsInAnyGroupsAlike 5 (some .boolean) { frames := 1, cells := 0, slots := 0, locals := 22 } [.ref wa] D cI cZ cR (cWeb cI wa w1 w2 w3 w4 w5 w6 w7 w8 w9 w) r := by
  refine kMrz (by decide) (Nat.le_of_ble_eq_true rfl) ?_
  intro p e s m below meth c Q hx hb hml hown hts hk hP hret ls hl
  have hK := hk.1
  have hl : lv_has ls 5 [(0, .ref wa)] := hl
  rw [f_joinsInAnyGroupsAlike] at hf
  refine lv_iconst (v := 0) hx hb dX4_joinsInAnyGroupsAlike_0 (by decide) ?_
  refine lv_istore_n (lv' := [(1, .int 0), (0, .ref wa)]) hx hb dX4_joinsInAnyGroupsAlike_1 rfl hl (by decide) rfl (fun ls hl => ?_)
  have kx1 : ∀ (x1_2 : Int32) (ls : Array Slot), k_joinsInAnyGroupsAlike_2 x1_2 = some r → lv_has ls 5 [(0, .ref wa), (1, .int x1_2)] → W p l e ({ frames := 1, cells := 0, slots := 0, locals := 22 } : Room) s m ([.ref wa] : List Value).toArray below meth c s.heap [] 0 0 Q (F0 m 81 ls []) := by
    intro x1_2 ls hf hl
    rw [k_joinsInAnyGroupsAlike_2] at hf
    refine lv_iconst (v := 1) hx hb dX4_joinsInAnyGroupsAlike_81 (by decide) ?_
    exact hret _ _ _ hf (Or.inr rfl) dX4_joinsInAnyGroupsAlike_82
  have lh1 : ∀ (fu1 : Nat) (x1_2 : Int32) (ls : Array Slot), lp_joinsInAnyGroupsAlike_2 w k_joinsInAnyGroupsAlike_2 fu1 x1_2 = some r → lv_has ls 5 [(0, .ref wa), (1, .int x1_2)] → W p l e ({ frames := 1, cells := 0, slots := 0, locals := 22 } : Room) s m ([.ref wa] : List Value).toArray below meth c s.heap [] 0 0 Q (F0 m 2 ls []) := by
    intro fu1
    induction fu1 with
    | zero => intro x1_2 ls hf hl; exact no_none hf
    | succ fu1 ih1 =>
      intro x1_2 ls hf hl
      rw [lp_joinsInAnyGroupsAlike_2] at hf
      refine lv_iload_n hx hb dX4_joinsInAnyGroupsAlike_2 rfl (lv_at hl 1 rfl) ?_
      refine lv_aload_n hx hb dX4_joinsInAnyGroupsAlike_3 rfl (lv_at hl 0 rfl) ?_
      refine va_get (D := D) (ci := 4) (v := .int (w 0 0)) (C := RX4) (T := TX4) (N := 12) hx hb hts inT4 hown hK hP 0 rfl rfl 0 (by decide) (hts _ mT_75) (fun _ h9 => h9) rfl dX4_joinsInAnyGroupsAlike_4 ?_
      refine lv_icmp_ge (tgt := 81) hx hb dX4_joinsInAnyGroupsAlike_7 (by decide) (fun c3 => ?_) (fun c3 => ?_)
      · have hf := ite_t c3 hf
        exact kx1 x1_2 _ hf (lv_sub hl [0, 1] rfl)
      · have hf := ite_f c3 hf
        refine lv_iconst (v := 0) hx hb dX4_joinsInAnyGroupsAlike_10 (by decide) ?_
        refine lv_istore_n (lv' := [(2, .int 0), (0, .ref wa), (1, .int x1_2)]) hx hb dX4_joinsInAnyGroupsAlike_11 rfl hl (by decide) rfl (fun ls hl => ?_)
        have kx4 : ∀ (x2_5 : Int32) (ls : Array Slot), (k_joinsInAnyGroupsAlike_12 x1_2 ((lp_joinsInAnyGroupsAlike_2 w k_joinsInAnyGroupsAlike_2 fu1))) x2_5 = some r → lv_has ls 5 [(0, .ref wa), (1, .int x1_2), (2, .int x2_5)] → W p l e ({ frames := 1, cells := 0, slots := 0, locals := 22 } : Room) s m ([.ref wa] : List Value).toArray below meth c s.heap [] 0 0 Q (F0 m 75 ls []) := by
          intro x2_5 ls hf hl
          rw [k_joinsInAnyGroupsAlike_12] at hf
          refine lv_iinc (v := x1_2 + 1) (lv' := [(1, .int (x1_2 + 1)), (0, .ref wa), (2, .int x2_5)]) hx hb dX4_joinsInAnyGroupsAlike_75 hl (k := 1) rfl rfl (by decide) rfl (fun ls hl => ?_)
          refine lv_goto (tgt := 2) hx hb dX4_joinsInAnyGroupsAlike_78 (by decide) ?_
          exact ih1 (x1_2 + 1) _ hf (lv_sub hl [1, 0] rfl)
        have lh4 : ∀ (fu4 : Nat) (x2_5 : Int32) (ls : Array Slot), lp_joinsInAnyGroupsAlike_12 w x1_2 (k_joinsInAnyGroupsAlike_12 x1_2 ((lp_joinsInAnyGroupsAlike_2 w k_joinsInAnyGroupsAlike_2 fu1))) fu4 x2_5 = some r → lv_has ls 5 [(0, .ref wa), (1, .int x1_2), (2, .int x2_5)] → W p l e ({ frames := 1, cells := 0, slots := 0, locals := 22 } : Room) s m ([.ref wa] : List Value).toArray below meth c s.heap [] 0 0 Q (F0 m 12 ls []) := by
          intro fu4
          induction fu4 with
          | zero => intro x2_5 ls hf hl; exact no_none hf
          | succ fu4 ih4 =>
            intro x2_5 ls hf hl
            rw [lp_joinsInAnyGroupsAlike_12] at hf
            refine lv_iload_n hx hb dX4_joinsInAnyGroupsAlike_12 rfl (lv_at hl 2 rfl) ?_
            refine lv_aload_n hx hb dX4_joinsInAnyGroupsAlike_13 rfl (lv_at hl 0 rfl) ?_
            refine va_get (D := D) (ci := 4) (v := .int (w 0 0)) (C := RX4) (T := TX4) (N := 12) hx hb hts inT4 hown hK hP 0 rfl rfl 0 (by decide) (hts _ mT_75) (fun _ h9 => h9) rfl dX4_joinsInAnyGroupsAlike_14 ?_
            refine lv_icmp_ge (tgt := 75) hx hb dX4_joinsInAnyGroupsAlike_17 (by decide) (fun c6 => ?_) (fun c6 => ?_)
            · have hf := ite_t c6 hf
              exact kx4 x2_5 _ hf (lv_sub hl [0, 1, 2] rfl)
            · have hf := ite_f c6 hf
              refine lv_aload_n hx hb dX4_joinsInAnyGroupsAlike_20 rfl (lv_at hl 0 rfl) ?_
              refine lv_iload_n hx hb dX4_joinsInAnyGroupsAlike_21 rfl (lv_at hl 1 rfl) ?_
              refine lv_iload_n hx hb dX4_joinsInAnyGroupsAlike_22 rfl (lv_at hl 2 rfl) ?_
              obtain ⟨q7, h8, hf⟩ := bd_some hf
              refine kx_rv (As := [.int x1_2, .int x2_5]) (rest := []) hx hb hml hown hts hk hP hl.1 s_yX4_join v_yX4_join (c_join l D cI cZ cR wa w1 w2 w3 w4 w5 w6 w7 w8 w9 w x1_2 x2_5 _ h8) mT_266 rfl rfl ⟨Nat.le_of_ble_eq_true rfl, Nat.le_of_ble_eq_true rfl⟩ (ci := 4) (q0 := 0) rfl rfl rfl (Nat.le_of_ble_eq_true rfl) ⟨Nat.zero_le _, Nat.zero_le _⟩ dX4_joinsInAnyGroupsAlike_23 ?_
              refine lv_istore_n (lv' := [(3, .int q7), (0, .ref wa), (1, .int x1_2), (2, .int x2_5)]) hx hb dX4_joinsInAnyGroupsAlike_26 rfl hl (by decide) rfl (fun ls hl => ?_)
              refine lv_iconst (v := 0) hx hb dX4_joinsInAnyGroupsAlike_27 (by decide) ?_
              refine lv_istore (lv' := [(4, .int 0), (3, .int q7), (0, .ref wa), (1, .int x1_2), (2, .int x2_5)]) hx hb dX4_joinsInAnyGroupsAlike_28 hl (by decide) rfl (fun ls hl => ?_)
              have kx9 : ∀ (x4_10 : Int32) (ls : Array Slot), (k_joinsInAnyGroupsAlike_30 x2_5 ((lp_joinsInAnyGroupsAlike_12 w x1_2 (k_joinsInAnyGroupsAlike_12 x1_2 ((lp_joinsInAnyGroupsAlike_2 w k_joinsInAnyGroupsAlike_2 fu1))) fu4))) x4_10 = some r → lv_has ls 5 [(0, .ref wa), (1, .int x1_2), (2, .int x2_5), (3, .int q7), (4, .int x4_10)] → W p l e ({ frames := 1, cells := 0, slots := 0, locals := 22 } : Room) s m ([.ref wa] : List Value).toArray below meth c s.heap [] 0 0 Q (F0 m 69 ls []) := by
                intro x4_10 ls hf hl
                rw [k_joinsInAnyGroupsAlike_30] at hf
                refine lv_iinc (v := x2_5 + 1) (lv' := [(2, .int (x2_5 + 1)), (0, .ref wa), (1, .int x1_2), (3, .int q7), (4, .int x4_10)]) hx hb dX4_joinsInAnyGroupsAlike_69 hl (k := 2) rfl rfl (by decide) rfl (fun ls hl => ?_)
                refine lv_goto (tgt := 12) hx hb dX4_joinsInAnyGroupsAlike_72 (by decide) ?_
                exact ih4 (x2_5 + 1) _ hf (lv_sub hl [1, 2, 0] rfl)
              have lh9 : ∀ (fu9 : Nat) (x4_10 : Int32) (ls : Array Slot), lp_joinsInAnyGroupsAlike_30 w x1_2 x2_5 q7 (k_joinsInAnyGroupsAlike_30 x2_5 ((lp_joinsInAnyGroupsAlike_12 w x1_2 (k_joinsInAnyGroupsAlike_12 x1_2 ((lp_joinsInAnyGroupsAlike_2 w k_joinsInAnyGroupsAlike_2 fu1))) fu4))) fu9 x4_10 = some r → lv_has ls 5 [(0, .ref wa), (1, .int x1_2), (2, .int x2_5), (3, .int q7), (4, .int x4_10)] → W p l e ({ frames := 1, cells := 0, slots := 0, locals := 22 } : Room) s m ([.ref wa] : List Value).toArray below meth c s.heap [] 0 0 Q (F0 m 30 ls []) := by
                intro fu9
                induction fu9 with
                | zero => intro x4_10 ls hf hl; exact no_none hf
                | succ fu9 ih9 =>
                  intro x4_10 ls hf hl
                  rw [lp_joinsInAnyGroupsAlike_30] at hf
                  refine lv_iload hx hb dX4_joinsInAnyGroupsAlike_30 (lv_at hl 4 rfl) ?_
                  refine lv_aload_n hx hb dX4_joinsInAnyGroupsAlike_32 rfl (lv_at hl 0 rfl) ?_
                  refine va_get (D := D) (ci := 4) (v := .int (w 0 0)) (C := RX4) (T := TX4) (N := 12) hx hb hts inT4 hown hK hP 0 rfl rfl 0 (by decide) (hts _ mT_75) (fun _ h9 => h9) rfl dX4_joinsInAnyGroupsAlike_33 ?_
                  refine lv_icmp_ge (tgt := 69) hx hb dX4_joinsInAnyGroupsAlike_36 (by decide) (fun c11 => ?_) (fun c11 => ?_)
                  · have hf := ite_t c11 hf
                    exact kx9 x4_10 _ hf (lv_sub hl [0, 1, 2, 3, 4] rfl)
                  · have hf := ite_f c11 hf
                    refine lv_aload_n hx hb dX4_joinsInAnyGroupsAlike_39 rfl (lv_at hl 0 rfl) ?_
                    refine lv_iload_n hx hb dX4_joinsInAnyGroupsAlike_40 rfl (lv_at hl 3 rfl) ?_
                    refine lv_iload hx hb dX4_joinsInAnyGroupsAlike_41 (lv_at hl 4 rfl) ?_
                    obtain ⟨q12, h13, hf⟩ := bd_some hf
                    refine kx_rv (As := [.int q7, .int x4_10]) (rest := []) hx hb hml hown hts hk hP hl.1 s_yX4_join v_yX4_join (c_join l D cI cZ cR wa w1 w2 w3 w4 w5 w6 w7 w8 w9 w q7 x4_10 _ h13) mT_266 rfl rfl ⟨Nat.le_of_ble_eq_true rfl, Nat.le_of_ble_eq_true rfl⟩ (ci := 4) (q0 := 0) rfl rfl rfl (Nat.le_of_ble_eq_true rfl) ⟨Nat.zero_le _, Nat.zero_le _⟩ dX4_joinsInAnyGroupsAlike_43 ?_
                    refine lv_aload_n hx hb dX4_joinsInAnyGroupsAlike_46 rfl (lv_at hl 0 rfl) ?_
                    refine lv_iload_n hx hb dX4_joinsInAnyGroupsAlike_47 rfl (lv_at hl 1 rfl) ?_
                    refine lv_aload_n hx hb dX4_joinsInAnyGroupsAlike_48 rfl (lv_at hl 0 rfl) ?_
                    refine lv_iload_n hx hb dX4_joinsInAnyGroupsAlike_49 rfl (lv_at hl 2 rfl) ?_
                    refine lv_iload hx hb dX4_joinsInAnyGroupsAlike_50 (lv_at hl 4 rfl) ?_
                    obtain ⟨q14, h15, hf⟩ := bd_some hf
                    refine kx_rv (As := [.int x2_5, .int x4_10]) (rest := [.int x1_2, .ref wa, .int q12]) hx hb hml hown hts hk hP hl.1 s_yX4_join v_yX4_join (c_join l D cI cZ cR wa w1 w2 w3 w4 w5 w6 w7 w8 w9 w x2_5 x4_10 _ h15) mT_266 rfl rfl ⟨Nat.le_of_ble_eq_true rfl, Nat.le_of_ble_eq_true rfl⟩ (ci := 4) (q0 := 0) rfl rfl rfl (Nat.le_of_ble_eq_true rfl) ⟨Nat.zero_le _, Nat.zero_le _⟩ dX4_joinsInAnyGroupsAlike_52 ?_
                    obtain ⟨q16, h17, hf⟩ := bd_some hf
                    refine kx_rv (As := [.int x1_2, .int q14]) (rest := [.int q12]) hx hb hml hown hts hk hP hl.1 s_yX4_join v_yX4_join (c_join l D cI cZ cR wa w1 w2 w3 w4 w5 w6 w7 w8 w9 w x1_2 q14 _ h17) mT_266 rfl rfl ⟨Nat.le_of_ble_eq_true rfl, Nat.le_of_ble_eq_true rfl⟩ (ci := 4) (q0 := 0) rfl rfl rfl (Nat.le_of_ble_eq_true rfl) ⟨Nat.zero_le _, Nat.zero_le _⟩ dX4_joinsInAnyGroupsAlike_55 ?_
                    refine lv_icmp_eq (tgt := 63) hx hb dX4_joinsInAnyGroupsAlike_58 (by decide) (fun c18 => ?_) (fun c18 => ?_)
                    · have hf := ite_t c18 hf
                      refine lv_iinc (v := x4_10 + 1) (lv' := [(4, .int (x4_10 + 1)), (0, .ref wa), (1, .int x1_2), (2, .int x2_5), (3, .int q7)]) hx hb dX4_joinsInAnyGroupsAlike_63 hl (k := 4) rfl rfl (by decide) rfl (fun ls hl => ?_)
                      refine lv_goto (tgt := 30) hx hb dX4_joinsInAnyGroupsAlike_66 (by decide) ?_
                      exact ih9 (x4_10 + 1) _ hf (lv_sub hl [1, 2, 3, 4, 0] rfl)
                    · have hf := ite_f c18 hf
                      refine lv_iconst (v := 0) hx hb dX4_joinsInAnyGroupsAlike_61 (by decide) ?_
                      exact hret _ _ _ hf (Or.inl rfl) dX4_joinsInAnyGroupsAlike_62
              exact lh9 10000 0 _ hf (lv_sub hl [2, 3, 4, 1, 0] rfl)
        exact lh4 10000 0 _ hf (lv_sub hl [1, 2, 0] rfl)
  exact lh1 10000 0 _ hf (lv_sub hl [1, 0] rfl)
theorem s_yX4_joinsZeroAsNothing : kMS yX4_joinsZeroAsNothing cX4_joinsZeroAsNothing 2 (some .boolean) 0 := ⟨mT_281, mT_52, by decide +kernel⟩
theorem v_yX4_joinsZeroAsNothing : kMV yX4_joinsZeroAsNothing := ⟨mT_280, mT_4⟩
def k_joinsZeroAsNothing_2 (x1_2 : Int32) : Option Int32 := some 1
def lp_joinsZeroAsNothing_2 (w : Ob) (kk0 : Int32 → Option Int32) : Nat → Int32 → Option Int32
  | 0, _ => none
  | fu1 + 1, x1_2 => if (w 0 0) ≤ x1_2 then (kk0 x1_2) else (bd (f_join w 0 x1_2) (fun q4 => if q4 = x1_2 then ((lp_joinsZeroAsNothing_2 w kk0 fu1) (x1_2 + 1)) else (some 0)))
def f_joinsZeroAsNothing (w : Ob) : Option Int32 := lp_joinsZeroAsNothing_2 w k_joinsZeroAsNothing_2 10000 0
set_option maxHeartbeats 4000000 in
set_option maxRecDepth 100000 in
theorem c_joinsZeroAsNothing (l : Launch) (D : va_G) (cI cZ cR : ClassId) (wa w1 w2 w3 w4 w5 w6 w7 w8 w9 : Nat) (w : Ob) (r : Int32) (hf : f_joinsZeroAsNothing w = some r) : kCr l yX4_joinsZeroAsNothing cX4_joinsZeroAsNothing 2 (some .boolean) { frames := 1, cells := 0, slots := 0, locals := 22 } [.ref wa] D cI cZ cR (cWeb cI wa w1 w2 w3 w4 w5 w6 w7 w8 w9 w) r := by
  refine kMrz (by decide) (Nat.le_of_ble_eq_true rfl) ?_
  intro p e s m below meth c Q hx hb hml hown hts hk hP hret ls hl
  have hK := hk.1
  have hl : lv_has ls 2 [(0, .ref wa)] := hl
  rw [f_joinsZeroAsNothing] at hf
  refine lv_iconst (v := 0) hx hb dX4_joinsZeroAsNothing_0 (by decide) ?_
  refine lv_istore_n (lv' := [(1, .int 0), (0, .ref wa)]) hx hb dX4_joinsZeroAsNothing_1 rfl hl (by decide) rfl (fun ls hl => ?_)
  have kx1 : ∀ (x1_2 : Int32) (ls : Array Slot), k_joinsZeroAsNothing_2 x1_2 = some r → lv_has ls 2 [(0, .ref wa), (1, .int x1_2)] → W p l e ({ frames := 1, cells := 0, slots := 0, locals := 22 } : Room) s m ([.ref wa] : List Value).toArray below meth c s.heap [] 0 0 Q (F0 m 28 ls []) := by
    intro x1_2 ls hf hl
    rw [k_joinsZeroAsNothing_2] at hf
    refine lv_iconst (v := 1) hx hb dX4_joinsZeroAsNothing_28 (by decide) ?_
    exact hret _ _ _ hf (Or.inr rfl) dX4_joinsZeroAsNothing_29
  have lh1 : ∀ (fu1 : Nat) (x1_2 : Int32) (ls : Array Slot), lp_joinsZeroAsNothing_2 w k_joinsZeroAsNothing_2 fu1 x1_2 = some r → lv_has ls 2 [(0, .ref wa), (1, .int x1_2)] → W p l e ({ frames := 1, cells := 0, slots := 0, locals := 22 } : Room) s m ([.ref wa] : List Value).toArray below meth c s.heap [] 0 0 Q (F0 m 2 ls []) := by
    intro fu1
    induction fu1 with
    | zero => intro x1_2 ls hf hl; exact no_none hf
    | succ fu1 ih1 =>
      intro x1_2 ls hf hl
      rw [lp_joinsZeroAsNothing_2] at hf
      refine lv_iload_n hx hb dX4_joinsZeroAsNothing_2 rfl (lv_at hl 1 rfl) ?_
      refine lv_aload_n hx hb dX4_joinsZeroAsNothing_3 rfl (lv_at hl 0 rfl) ?_
      refine va_get (D := D) (ci := 4) (v := .int (w 0 0)) (C := RX4) (T := TX4) (N := 12) hx hb hts inT4 hown hK hP 0 rfl rfl 0 (by decide) (hts _ mT_75) (fun _ h9 => h9) rfl dX4_joinsZeroAsNothing_4 ?_
      refine lv_icmp_ge (tgt := 28) hx hb dX4_joinsZeroAsNothing_7 (by decide) (fun c3 => ?_) (fun c3 => ?_)
      · have hf := ite_t c3 hf
        exact kx1 x1_2 _ hf (lv_sub hl [0, 1] rfl)
      · have hf := ite_f c3 hf
        refine lv_aload_n hx hb dX4_joinsZeroAsNothing_10 rfl (lv_at hl 0 rfl) ?_
        refine lv_iconst (v := 0) hx hb dX4_joinsZeroAsNothing_11 (by decide) ?_
        refine lv_iload_n hx hb dX4_joinsZeroAsNothing_12 rfl (lv_at hl 1 rfl) ?_
        obtain ⟨q4, h5, hf⟩ := bd_some hf
        refine kx_rv (As := [.int 0, .int x1_2]) (rest := []) hx hb hml hown hts hk hP hl.1 s_yX4_join v_yX4_join (c_join l D cI cZ cR wa w1 w2 w3 w4 w5 w6 w7 w8 w9 w 0 x1_2 _ h5) mT_266 rfl rfl ⟨Nat.le_of_ble_eq_true rfl, Nat.le_of_ble_eq_true rfl⟩ (ci := 4) (q0 := 0) rfl rfl rfl (Nat.le_of_ble_eq_true rfl) ⟨Nat.zero_le _, Nat.zero_le _⟩ dX4_joinsZeroAsNothing_13 ?_
        refine lv_iload_n hx hb dX4_joinsZeroAsNothing_16 rfl (lv_at hl 1 rfl) ?_
        refine lv_icmp_eq (tgt := 22) hx hb dX4_joinsZeroAsNothing_17 (by decide) (fun c6 => ?_) (fun c6 => ?_)
        · have hf := ite_t c6 hf
          refine lv_iinc (v := x1_2 + 1) (lv' := [(1, .int (x1_2 + 1)), (0, .ref wa)]) hx hb dX4_joinsZeroAsNothing_22 hl (k := 1) rfl rfl (by decide) rfl (fun ls hl => ?_)
          refine lv_goto (tgt := 2) hx hb dX4_joinsZeroAsNothing_25 (by decide) ?_
          exact ih1 (x1_2 + 1) _ hf (lv_sub hl [1, 0] rfl)
        · have hf := ite_f c6 hf
          refine lv_iconst (v := 0) hx hb dX4_joinsZeroAsNothing_20 (by decide) ?_
          exact hret _ _ _ hf (Or.inl rfl) dX4_joinsZeroAsNothing_21
  exact lh1 10000 0 _ hf (lv_sub hl [1, 0] rfl)
theorem s_yX4_brokenLaw : kMS yX4_brokenLaw cX4_brokenLaw 1 (some .int) 0 := ⟨mT_261, mT_52, by decide +kernel⟩
theorem v_yX4_brokenLaw : kMV yX4_brokenLaw := ⟨mT_259, mT_260⟩
def f_brokenLaw (w : Ob) : Option Int32 := bd (f_joinsWithItself w) (fun q1 => if q1 = 0 then (some 1) else (bd (f_joinsBothWaysAlike w) (fun q4 => if q4 = 0 then (some 2) else (bd (f_joinsInAnyGroupsAlike w) (fun q7 => if q7 = 0 then (some 3) else (bd (f_joinsZeroAsNothing w) (fun q10 => if q10 = 0 then (some 4) else (some 0))))))))
set_option maxHeartbeats 4000000 in
set_option maxRecDepth 100000 in
theorem c_brokenLaw (l : Launch) (D : va_G) (cI cZ cR : ClassId) (wa w1 w2 w3 w4 w5 w6 w7 w8 w9 : Nat) (w : Ob) (r : Int32) (hf : f_brokenLaw w = some r) : kCr l yX4_brokenLaw cX4_brokenLaw 1 (some .int) { frames := 2, cells := 0, slots := 0, locals := 46 } [.ref wa] D cI cZ cR (cWeb cI wa w1 w2 w3 w4 w5 w6 w7 w8 w9 w) r := by
  refine kMri (by decide) (Nat.le_of_ble_eq_true rfl) ?_
  intro p e s m below meth c Q hx hb hml hown hts hk hP hret ls hl
  have hK := hk.1
  have hl : lv_has ls 1 [(0, .ref wa)] := hl
  rw [f_brokenLaw] at hf
  refine lv_aload_n hx hb dX4_brokenLaw_0 rfl (lv_at hl 0 rfl) ?_
  obtain ⟨q1, h2, hf⟩ := bd_some hf
  refine kx_rv (As := []) (rest := []) hx hb hml hown hts hk hP hl.1 s_yX4_joinsWithItself v_yX4_joinsWithItself (c_joinsWithItself l D cI cZ cR wa w1 w2 w3 w4 w5 w6 w7 w8 w9 w _ h2) mT_262 rfl rfl ⟨Nat.le_of_ble_eq_true rfl, Nat.le_of_ble_eq_true rfl⟩ (ci := 4) (q0 := 0) rfl rfl rfl (Nat.le_of_ble_eq_true rfl) ⟨Nat.zero_le _, Nat.zero_le _⟩ dX4_brokenLaw_1 ?_
  refine lv_if_ne (tgt := 9) hx hb dX4_brokenLaw_4 (by decide) (fun c3 => ?_) (fun c3 => ?_)
  · have hf := ite_f c3 hf
    refine lv_aload_n hx hb dX4_brokenLaw_9 rfl (lv_at hl 0 rfl) ?_
    obtain ⟨q4, h5, hf⟩ := bd_some hf
    refine kx_rv (As := []) (rest := []) hx hb hml hown hts hk hP hl.1 s_yX4_joinsBothWaysAlike v_yX4_joinsBothWaysAlike (c_joinsBothWaysAlike l D cI cZ cR wa w1 w2 w3 w4 w5 w6 w7 w8 w9 w _ h5) mT_270 rfl rfl ⟨Nat.le_of_ble_eq_true rfl, Nat.le_of_ble_eq_true rfl⟩ (ci := 4) (q0 := 0) rfl rfl rfl (Nat.le_of_ble_eq_true rfl) ⟨Nat.zero_le _, Nat.zero_le _⟩ dX4_brokenLaw_10 ?_
    refine lv_if_ne (tgt := 18) hx hb dX4_brokenLaw_13 (by decide) (fun c6 => ?_) (fun c6 => ?_)
    · have hf := ite_f c6 hf
      refine lv_aload_n hx hb dX4_brokenLaw_18 rfl (lv_at hl 0 rfl) ?_
      obtain ⟨q7, h8, hf⟩ := bd_some hf
      refine kx_rv (As := []) (rest := []) hx hb hml hown hts hk hP hl.1 s_yX4_joinsInAnyGroupsAlike v_yX4_joinsInAnyGroupsAlike (c_joinsInAnyGroupsAlike l D cI cZ cR wa w1 w2 w3 w4 w5 w6 w7 w8 w9 w _ h8) mT_274 rfl rfl ⟨Nat.le_of_ble_eq_true rfl, Nat.le_of_ble_eq_true rfl⟩ (ci := 4) (q0 := 0) rfl rfl rfl (Nat.le_of_ble_eq_true rfl) ⟨Nat.zero_le _, Nat.zero_le _⟩ dX4_brokenLaw_19 ?_
      refine lv_if_ne (tgt := 27) hx hb dX4_brokenLaw_22 (by decide) (fun c9 => ?_) (fun c9 => ?_)
      · have hf := ite_f c9 hf
        refine lv_aload_n hx hb dX4_brokenLaw_27 rfl (lv_at hl 0 rfl) ?_
        obtain ⟨q10, h11, hf⟩ := bd_some hf
        refine kx_rv (As := []) (rest := []) hx hb hml hown hts hk hP hl.1 s_yX4_joinsZeroAsNothing v_yX4_joinsZeroAsNothing (c_joinsZeroAsNothing l D cI cZ cR wa w1 w2 w3 w4 w5 w6 w7 w8 w9 w _ h11) mT_278 rfl rfl ⟨Nat.le_of_ble_eq_true rfl, Nat.le_of_ble_eq_true rfl⟩ (ci := 4) (q0 := 0) rfl rfl rfl (Nat.le_of_ble_eq_true rfl) ⟨Nat.zero_le _, Nat.zero_le _⟩ dX4_brokenLaw_28 ?_
        refine lv_if_eq (tgt := 38) hx hb dX4_brokenLaw_31 (by decide) (fun c12 => ?_) (fun c12 => ?_)
        · have hf := ite_t c12 hf
          refine lv_iconst (v := 4) hx hb dX4_brokenLaw_38 (by decide) ?_
          exact hret _ _ _ hf dX4_brokenLaw_39
        · have hf := ite_f c12 hf
          refine lv_iconst (v := 0) hx hb dX4_brokenLaw_34 (by decide) ?_
          refine lv_goto (tgt := 39) hx hb dX4_brokenLaw_35 (by decide) ?_
          exact hret _ _ _ hf dX4_brokenLaw_39
      · have hf := ite_t c9 hf
        refine lv_iconst (v := 3) hx hb dX4_brokenLaw_25 (by decide) ?_
        exact hret _ _ _ hf dX4_brokenLaw_26
    · have hf := ite_t c6 hf
      refine lv_iconst (v := 2) hx hb dX4_brokenLaw_16 (by decide) ?_
      exact hret _ _ _ hf dX4_brokenLaw_17
  · have hf := ite_t c3 hf
    refine lv_iconst (v := 1) hx hb dX4_brokenLaw_7 (by decide) ?_
    exact hret _ _ _ hf dX4_brokenLaw_8
theorem s_yX4_keepsOrder : kMS yX4_keepsOrder cX4_keepsOrder 5 (some .boolean) 1 := ⟨mT_289, mT_52, by decide +kernel⟩
theorem v_yX4_keepsOrder : kMV yX4_keepsOrder := ⟨mT_287, mT_288⟩
def k_keepsOrder_7 (x3_2 : Int32) : Option Int32 := some 1
def k_keepsOrder_18 (x3_2 : Int32) (go_L1 : Int32 → Option Int32) (x4_5 : Int32) : Option Int32 := go_L1 (x3_2 + 1)
def lp_keepsOrder_18 (w : Ob) (x : Int32) (x3_2 : Int32) (kk0 : Int32 → Option Int32) : Nat → Int32 → Option Int32
  | 0, _ => none
  | fu4 + 1, x4_5 => if (w 0 0) ≤ x4_5 then (kk0 x4_5) else (bd (f_isBelow w x3_2 x4_5) (fun q7 => if q7 = 0 then ((lp_keepsOrder_18 w x x3_2 kk0 fu4) (x4_5 + 1)) else (gd (ck ((x * 8) + x3_2) 160) (gd (ck ((x * 8) + x4_5) 160) (bd (f_isBelow w ((w 6) (Int32.toNatClampNeg ((x * 8) + x3_2))) ((w 6) (Int32.toNatClampNeg ((x * 8) + x4_5)))) (fun q12 => if q12 = 0 then (some 0) else ((lp_keepsOrder_18 w x x3_2 kk0 fu4) (x4_5 + 1))))))))
def lp_keepsOrder_7 (w : Ob) (x : Int32) (kk0 : Int32 → Option Int32) : Nat → Int32 → Option Int32
  | 0, _ => none
  | fu1 + 1, x3_2 => if (w 0 0) ≤ x3_2 then (kk0 x3_2) else (lp_keepsOrder_18 w x x3_2 (k_keepsOrder_18 x3_2 ((lp_keepsOrder_7 w x kk0 fu1))) 10000 0)
def f_keepsOrder (w : Ob) (x : Int32) : Option Int32 := lp_keepsOrder_7 w x k_keepsOrder_7 10000 0
set_option maxHeartbeats 4000000 in
set_option maxRecDepth 100000 in
theorem c_keepsOrder (l : Launch) (D : va_G) (cI cZ cR : ClassId) (wa w1 w2 w3 w4 w5 w6 w7 w8 w9 : Nat) (w : Ob) (x : Int32) (r : Int32) (hf : f_keepsOrder w x = some r) : kCr l yX4_keepsOrder cX4_keepsOrder 5 (some .boolean) { frames := 1, cells := 0, slots := 0, locals := 22 } [.ref wa, .int x] D cI cZ cR (cWeb cI wa w1 w2 w3 w4 w5 w6 w7 w8 w9 w) r := by
  refine kMrz (by decide) (Nat.le_of_ble_eq_true rfl) ?_
  intro p e s m below meth c Q hx hb hml hown hts hk hP hret ls hl
  have hK := hk.1
  have hl : lv_has ls 5 [(0, .ref wa), (1, .int x)] := hl
  rw [f_keepsOrder] at hf
  refine lv_iload_n hx hb dX4_keepsOrder_0 rfl (lv_at hl 1 rfl) ?_
  refine lv_bipush (v := 8) hx hb dX4_keepsOrder_1 (by decide) ?_
  refine lv_imul hx hb dX4_keepsOrder_3 ?_
  refine lv_istore_n (lv' := [(2, .int (x * 8)), (0, .ref wa), (1, .int x)]) hx hb dX4_keepsOrder_4 rfl hl (by decide) rfl (fun ls hl => ?_)
  refine lv_iconst (v := 0) hx hb dX4_keepsOrder_5 (by decide) ?_
  refine lv_istore_n (lv' := [(3, .int 0), (2, .int (x * 8)), (0, .ref wa), (1, .int x)]) hx hb dX4_keepsOrder_6 rfl hl (by decide) rfl (fun ls hl => ?_)
  have kx1 : ∀ (x3_2 : Int32) (ls : Array Slot), k_keepsOrder_7 x3_2 = some r → lv_has ls 5 [(0, .ref wa), (1, .int x), (2, .int (x * 8)), (3, .int x3_2)] → W p l e ({ frames := 1, cells := 0, slots := 0, locals := 22 } : Room) s m ([.ref wa, .int x] : List Value).toArray below meth c s.heap [] 0 0 Q (F0 m 75 ls []) := by
    intro x3_2 ls hf hl
    rw [k_keepsOrder_7] at hf
    refine lv_iconst (v := 1) hx hb dX4_keepsOrder_75 (by decide) ?_
    exact hret _ _ _ hf (Or.inr rfl) dX4_keepsOrder_76
  have lh1 : ∀ (fu1 : Nat) (x3_2 : Int32) (ls : Array Slot), lp_keepsOrder_7 w x k_keepsOrder_7 fu1 x3_2 = some r → lv_has ls 5 [(0, .ref wa), (1, .int x), (2, .int (x * 8)), (3, .int x3_2)] → W p l e ({ frames := 1, cells := 0, slots := 0, locals := 22 } : Room) s m ([.ref wa, .int x] : List Value).toArray below meth c s.heap [] 0 0 Q (F0 m 7 ls []) := by
    intro fu1
    induction fu1 with
    | zero => intro x3_2 ls hf hl; exact no_none hf
    | succ fu1 ih1 =>
      intro x3_2 ls hf hl
      rw [lp_keepsOrder_7] at hf
      refine lv_iload_n hx hb dX4_keepsOrder_7 rfl (lv_at hl 3 rfl) ?_
      refine lv_aload_n hx hb dX4_keepsOrder_8 rfl (lv_at hl 0 rfl) ?_
      refine va_get (D := D) (ci := 4) (v := .int (w 0 0)) (C := RX4) (T := TX4) (N := 12) hx hb hts inT4 hown hK hP 0 rfl rfl 0 (by decide) (hts _ mT_75) (fun _ h9 => h9) rfl dX4_keepsOrder_9 ?_
      refine lv_icmp_ge (tgt := 75) hx hb dX4_keepsOrder_12 (by decide) (fun c3 => ?_) (fun c3 => ?_)
      · have hf := ite_t c3 hf
        exact kx1 x3_2 _ hf (lv_sub hl [0, 1, 2, 3] rfl)
      · have hf := ite_f c3 hf
        refine lv_iconst (v := 0) hx hb dX4_keepsOrder_15 (by decide) ?_
        refine lv_istore (lv' := [(4, .int 0), (0, .ref wa), (1, .int x), (2, .int (x * 8)), (3, .int x3_2)]) hx hb dX4_keepsOrder_16 hl (by decide) rfl (fun ls hl => ?_)
        have kx4 : ∀ (x4_5 : Int32) (ls : Array Slot), (k_keepsOrder_18 x3_2 ((lp_keepsOrder_7 w x k_keepsOrder_7 fu1))) x4_5 = some r → lv_has ls 5 [(0, .ref wa), (1, .int x), (2, .int (x * 8)), (3, .int x3_2), (4, .int x4_5)] → W p l e ({ frames := 1, cells := 0, slots := 0, locals := 22 } : Room) s m ([.ref wa, .int x] : List Value).toArray below meth c s.heap [] 0 0 Q (F0 m 69 ls []) := by
          intro x4_5 ls hf hl
          rw [k_keepsOrder_18] at hf
          refine lv_iinc (v := x3_2 + 1) (lv' := [(3, .int (x3_2 + 1)), (0, .ref wa), (1, .int x), (2, .int (x * 8)), (4, .int x4_5)]) hx hb dX4_keepsOrder_69 hl (k := 3) rfl rfl (by decide) rfl (fun ls hl => ?_)
          refine lv_goto (tgt := 7) hx hb dX4_keepsOrder_72 (by decide) ?_
          exact ih1 (x3_2 + 1) _ hf (lv_sub hl [1, 2, 3, 0] rfl)
        have lh4 : ∀ (fu4 : Nat) (x4_5 : Int32) (ls : Array Slot), lp_keepsOrder_18 w x x3_2 (k_keepsOrder_18 x3_2 ((lp_keepsOrder_7 w x k_keepsOrder_7 fu1))) fu4 x4_5 = some r → lv_has ls 5 [(0, .ref wa), (1, .int x), (2, .int (x * 8)), (3, .int x3_2), (4, .int x4_5)] → W p l e ({ frames := 1, cells := 0, slots := 0, locals := 22 } : Room) s m ([.ref wa, .int x] : List Value).toArray below meth c s.heap [] 0 0 Q (F0 m 18 ls []) := by
          intro fu4
          induction fu4 with
          | zero => intro x4_5 ls hf hl; exact no_none hf
          | succ fu4 ih4 =>
            intro x4_5 ls hf hl
            rw [lp_keepsOrder_18] at hf
            refine lv_iload hx hb dX4_keepsOrder_18 (lv_at hl 4 rfl) ?_
            refine lv_aload_n hx hb dX4_keepsOrder_20 rfl (lv_at hl 0 rfl) ?_
            refine va_get (D := D) (ci := 4) (v := .int (w 0 0)) (C := RX4) (T := TX4) (N := 12) hx hb hts inT4 hown hK hP 0 rfl rfl 0 (by decide) (hts _ mT_75) (fun _ h9 => h9) rfl dX4_keepsOrder_21 ?_
            refine lv_icmp_ge (tgt := 69) hx hb dX4_keepsOrder_24 (by decide) (fun c6 => ?_) (fun c6 => ?_)
            · have hf := ite_t c6 hf
              exact kx4 x4_5 _ hf (lv_sub hl [0, 1, 2, 3, 4] rfl)
            · have hf := ite_f c6 hf
              refine lv_aload_n hx hb dX4_keepsOrder_27 rfl (lv_at hl 0 rfl) ?_
              refine lv_iload_n hx hb dX4_keepsOrder_28 rfl (lv_at hl 3 rfl) ?_
              refine lv_iload hx hb dX4_keepsOrder_29 (lv_at hl 4 rfl) ?_
              obtain ⟨q7, h8, hf⟩ := bd_some hf
              refine kx_rv (As := [.int x3_2, .int x4_5]) (rest := []) hx hb hml hown hts hk hP hl.1 s_yX4_isBelow v_yX4_isBelow (c_isBelow l D cI cZ cR wa w1 w2 w3 w4 w5 w6 w7 w8 w9 w x3_2 x4_5 _ h8) mT_290 rfl rfl ⟨Nat.le_of_ble_eq_true rfl, Nat.le_of_ble_eq_true rfl⟩ (ci := 4) (q0 := 0) rfl rfl rfl (Nat.le_of_ble_eq_true rfl) ⟨Nat.zero_le _, Nat.zero_le _⟩ dX4_keepsOrder_31 ?_
              refine lv_if_eq (tgt := 63) hx hb dX4_keepsOrder_34 (by decide) (fun c9 => ?_) (fun c9 => ?_)
              · have hf := ite_t c9 hf
                refine lv_iinc (v := x4_5 + 1) (lv' := [(4, .int (x4_5 + 1)), (0, .ref wa), (1, .int x), (2, .int (x * 8)), (3, .int x3_2)]) hx hb dX4_keepsOrder_63 hl (k := 4) rfl rfl (by decide) rfl (fun ls hl => ?_)
                refine lv_goto (tgt := 18) hx hb dX4_keepsOrder_66 (by decide) ?_
                exact ih4 (x4_5 + 1) _ hf (lv_sub hl [1, 2, 3, 4, 0] rfl)
              · have hf := ite_f c9 hf
                refine lv_aload_n hx hb dX4_keepsOrder_37 rfl (lv_at hl 0 rfl) ?_
                refine lv_aload_n hx hb dX4_keepsOrder_38 rfl (lv_at hl 0 rfl) ?_
                refine va_get (D := D) (ci := 4) (v := .ref w6) (C := RX4) (T := TX4) (N := 12) hx hb hts inT4 hown hK hP 0 rfl rfl 8 (by decide) (hts _ mT_97) (fun _ h9 => h9) rfl dX4_keepsOrder_39 ?_
                refine lv_iload_n hx hb dX4_keepsOrder_42 rfl (lv_at hl 2 rfl) ?_
                refine lv_iload_n hx hb dX4_keepsOrder_43 rfl (lv_at hl 3 rfl) ?_
                refine lv_iadd hx hb dX4_keepsOrder_44 ?_
                obtain ⟨b10, hf⟩ := gd_some hf
                refine va_iald (n := 160) (f := w 6) hx hb hK hP 6 0 rfl rfl (ck_in b10) dX4_keepsOrder_45 ?_
                refine lv_aload_n hx hb dX4_keepsOrder_46 rfl (lv_at hl 0 rfl) ?_
                refine va_get (D := D) (ci := 4) (v := .ref w6) (C := RX4) (T := TX4) (N := 12) hx hb hts inT4 hown hK hP 0 rfl rfl 8 (by decide) (hts _ mT_97) (fun _ h9 => h9) rfl dX4_keepsOrder_47 ?_
                refine lv_iload_n hx hb dX4_keepsOrder_50 rfl (lv_at hl 2 rfl) ?_
                refine lv_iload hx hb dX4_keepsOrder_51 (lv_at hl 4 rfl) ?_
                refine lv_iadd hx hb dX4_keepsOrder_53 ?_
                obtain ⟨b11, hf⟩ := gd_some hf
                refine va_iald (n := 160) (f := w 6) hx hb hK hP 6 0 rfl rfl (ck_in b11) dX4_keepsOrder_54 ?_
                obtain ⟨q12, h13, hf⟩ := bd_some hf
                refine kx_rv (As := [.int ((w 6) (Int32.toNatClampNeg ((x * 8) + x3_2))), .int ((w 6) (Int32.toNatClampNeg ((x * 8) + x4_5)))]) (rest := []) hx hb hml hown hts hk hP hl.1 s_yX4_isBelow v_yX4_isBelow (c_isBelow l D cI cZ cR wa w1 w2 w3 w4 w5 w6 w7 w8 w9 w ((w 6) (Int32.toNatClampNeg ((x * 8) + x3_2))) ((w 6) (Int32.toNatClampNeg ((x * 8) + x4_5))) _ h13) mT_290 rfl rfl ⟨Nat.le_of_ble_eq_true rfl, Nat.le_of_ble_eq_true rfl⟩ (ci := 4) (q0 := 0) rfl rfl rfl (Nat.le_of_ble_eq_true rfl) ⟨Nat.zero_le _, Nat.zero_le _⟩ dX4_keepsOrder_55 ?_
                refine lv_if_ne (tgt := 63) hx hb dX4_keepsOrder_58 (by decide) (fun c14 => ?_) (fun c14 => ?_)
                · have hf := ite_f c14 hf
                  refine lv_iinc (v := x4_5 + 1) (lv' := [(4, .int (x4_5 + 1)), (0, .ref wa), (1, .int x), (2, .int (x * 8)), (3, .int x3_2)]) hx hb dX4_keepsOrder_63 hl (k := 4) rfl rfl (by decide) rfl (fun ls hl => ?_)
                  refine lv_goto (tgt := 18) hx hb dX4_keepsOrder_66 (by decide) ?_
                  exact ih4 (x4_5 + 1) _ hf (lv_sub hl [1, 2, 3, 4, 0] rfl)
                · have hf := ite_t c14 hf
                  refine lv_iconst (v := 0) hx hb dX4_keepsOrder_61 (by decide) ?_
                  exact hret _ _ _ hf (Or.inl rfl) dX4_keepsOrder_62
        exact lh4 10000 0 _ hf (lv_sub hl [1, 2, 3, 4, 0] rfl)
  exact lh1 10000 0 _ hf (lv_sub hl [2, 3, 1, 0] rfl)
theorem s_yX4_firstOutOfOrder : kMS yX4_firstOutOfOrder cX4_firstOutOfOrder 2 (some .int) 0 := ⟨mT_285, mT_52, by decide +kernel⟩
theorem v_yX4_firstOutOfOrder : kMV yX4_firstOutOfOrder := ⟨mT_283, mT_284⟩
def k_firstOutOfOrder_2 (x1_2 : Int32) : Option Int32 := some (-1)
def lp_firstOutOfOrder_2 (w : Ob) (kk0 : Int32 → Option Int32) : Nat → Int32 → Option Int32
  | 0, _ => none
  | fu1 + 1, x1_2 => if (w 0 2) ≤ x1_2 then (kk0 x1_2) else (bd (f_keepsOrder w x1_2) (fun q4 => if q4 = 0 then (some x1_2) else ((lp_firstOutOfOrder_2 w kk0 fu1) (x1_2 + 1))))
def f_firstOutOfOrder (w : Ob) : Option Int32 := lp_firstOutOfOrder_2 w k_firstOutOfOrder_2 10000 0
set_option maxHeartbeats 4000000 in
set_option maxRecDepth 100000 in
theorem c_firstOutOfOrder (l : Launch) (D : va_G) (cI cZ cR : ClassId) (wa w1 w2 w3 w4 w5 w6 w7 w8 w9 : Nat) (w : Ob) (r : Int32) (hf : f_firstOutOfOrder w = some r) : kCr l yX4_firstOutOfOrder cX4_firstOutOfOrder 2 (some .int) { frames := 2, cells := 0, slots := 0, locals := 46 } [.ref wa] D cI cZ cR (cWeb cI wa w1 w2 w3 w4 w5 w6 w7 w8 w9 w) r := by
  refine kMri (by decide) (Nat.le_of_ble_eq_true rfl) ?_
  intro p e s m below meth c Q hx hb hml hown hts hk hP hret ls hl
  have hK := hk.1
  have hl : lv_has ls 2 [(0, .ref wa)] := hl
  rw [f_firstOutOfOrder] at hf
  refine lv_iconst (v := 0) hx hb dX4_firstOutOfOrder_0 (by decide) ?_
  refine lv_istore_n (lv' := [(1, .int 0), (0, .ref wa)]) hx hb dX4_firstOutOfOrder_1 rfl hl (by decide) rfl (fun ls hl => ?_)
  have kx1 : ∀ (x1_2 : Int32) (ls : Array Slot), k_firstOutOfOrder_2 x1_2 = some r → lv_has ls 2 [(0, .ref wa), (1, .int x1_2)] → W p l e ({ frames := 2, cells := 0, slots := 0, locals := 46 } : Room) s m ([.ref wa] : List Value).toArray below meth c s.heap [] 0 0 Q (F0 m 26 ls []) := by
    intro x1_2 ls hf hl
    rw [k_firstOutOfOrder_2] at hf
    refine lv_iconst (v := (-1)) hx hb dX4_firstOutOfOrder_26 (by decide) ?_
    exact hret _ _ _ hf dX4_firstOutOfOrder_27
  have lh1 : ∀ (fu1 : Nat) (x1_2 : Int32) (ls : Array Slot), lp_firstOutOfOrder_2 w k_firstOutOfOrder_2 fu1 x1_2 = some r → lv_has ls 2 [(0, .ref wa), (1, .int x1_2)] → W p l e ({ frames := 2, cells := 0, slots := 0, locals := 46 } : Room) s m ([.ref wa] : List Value).toArray below meth c s.heap [] 0 0 Q (F0 m 2 ls []) := by
    intro fu1
    induction fu1 with
    | zero => intro x1_2 ls hf hl; exact no_none hf
    | succ fu1 ih1 =>
      intro x1_2 ls hf hl
      rw [lp_firstOutOfOrder_2] at hf
      refine lv_iload_n hx hb dX4_firstOutOfOrder_2 rfl (lv_at hl 1 rfl) ?_
      refine lv_aload_n hx hb dX4_firstOutOfOrder_3 rfl (lv_at hl 0 rfl) ?_
      refine va_get (D := D) (ci := 4) (v := .int (w 0 2)) (C := RX4) (T := TX4) (N := 12) hx hb hts inT4 hown hK hP 0 rfl rfl 2 (by decide) (hts _ mT_81) (fun _ h9 => h9) rfl dX4_firstOutOfOrder_4 ?_
      refine lv_icmp_ge (tgt := 26) hx hb dX4_firstOutOfOrder_7 (by decide) (fun c3 => ?_) (fun c3 => ?_)
      · have hf := ite_t c3 hf
        exact kx1 x1_2 _ hf (lv_sub hl [0, 1] rfl)
      · have hf := ite_f c3 hf
        refine lv_aload_n hx hb dX4_firstOutOfOrder_10 rfl (lv_at hl 0 rfl) ?_
        refine lv_iload_n hx hb dX4_firstOutOfOrder_11 rfl (lv_at hl 1 rfl) ?_
        obtain ⟨q4, h5, hf⟩ := bd_some hf
        refine kx_rv (As := [.int x1_2]) (rest := []) hx hb hml hown hts hk hP hl.1 s_yX4_keepsOrder v_yX4_keepsOrder (c_keepsOrder l D cI cZ cR wa w1 w2 w3 w4 w5 w6 w7 w8 w9 w x1_2 _ h5) mT_286 rfl rfl ⟨Nat.le_of_ble_eq_true rfl, Nat.le_of_ble_eq_true rfl⟩ (ci := 4) (q0 := 0) rfl rfl rfl (Nat.le_of_ble_eq_true rfl) ⟨Nat.zero_le _, Nat.zero_le _⟩ dX4_firstOutOfOrder_12 ?_
        refine lv_if_ne (tgt := 20) hx hb dX4_firstOutOfOrder_15 (by decide) (fun c6 => ?_) (fun c6 => ?_)
        · have hf := ite_f c6 hf
          refine lv_iinc (v := x1_2 + 1) (lv' := [(1, .int (x1_2 + 1)), (0, .ref wa)]) hx hb dX4_firstOutOfOrder_20 hl (k := 1) rfl rfl (by decide) rfl (fun ls hl => ?_)
          refine lv_goto (tgt := 2) hx hb dX4_firstOutOfOrder_23 (by decide) ?_
          exact ih1 (x1_2 + 1) _ hf (lv_sub hl [1, 0] rfl)
        · have hf := ite_t c6 hf
          refine lv_iload_n hx hb dX4_firstOutOfOrder_18 rfl (lv_at hl 1 rfl) ?_
          exact hret _ _ _ hf dX4_firstOutOfOrder_19
  exact lh1 10000 0 _ hf (lv_sub hl [1, 0] rfl)
theorem s_yX4_isWell : kMS yX4_isWell cX4_isWell 1 (some .boolean) 0 := ⟨mT_297, mT_52, by decide +kernel⟩
theorem v_yX4_isWell : kMV yX4_isWell := ⟨mT_295, mT_296⟩
def f_isWell (w : Ob) : Option Int32 := bd (f_brokenLaw w) (fun q1 => if q1 = 0 then (bd (f_firstOutOfOrder w) (fun q4 => if q4 = (-1) then (some 1) else (some 0))) else (some 0))
set_option maxHeartbeats 4000000 in
set_option maxRecDepth 100000 in
theorem c_isWell (l : Launch) (D : va_G) (cI cZ cR : ClassId) (wa w1 w2 w3 w4 w5 w6 w7 w8 w9 : Nat) (w : Ob) (r : Int32) (hf : f_isWell w = some r) : kCr l yX4_isWell cX4_isWell 1 (some .boolean) { frames := 3, cells := 0, slots := 0, locals := 67 } [.ref wa] D cI cZ cR (cWeb cI wa w1 w2 w3 w4 w5 w6 w7 w8 w9 w) r := by
  refine kMrz (by decide) (Nat.le_of_ble_eq_true rfl) ?_
  intro p e s m below meth c Q hx hb hml hown hts hk hP hret ls hl
  have hK := hk.1
  have hl : lv_has ls 1 [(0, .ref wa)] := hl
  rw [f_isWell] at hf
  refine lv_aload_n hx hb dX4_isWell_0 rfl (lv_at hl 0 rfl) ?_
  obtain ⟨q1, h2, hf⟩ := bd_some hf
  refine kx_rv (As := []) (rest := []) hx hb hml hown hts hk hP hl.1 s_yX4_brokenLaw v_yX4_brokenLaw (c_brokenLaw l D cI cZ cR wa w1 w2 w3 w4 w5 w6 w7 w8 w9 w _ h2) mT_298 rfl rfl ⟨Nat.le_of_ble_eq_true rfl, Nat.le_of_ble_eq_true rfl⟩ (ci := 4) (q0 := 0) rfl rfl rfl (Nat.le_of_ble_eq_true rfl) ⟨Nat.zero_le _, Nat.zero_le _⟩ dX4_isWell_1 ?_
  refine lv_if_ne (tgt := 19) hx hb dX4_isWell_4 (by decide) (fun c3 => ?_) (fun c3 => ?_)
  · have hf := ite_f c3 hf
    refine lv_iconst (v := 0) hx hb dX4_isWell_19 (by decide) ?_
    exact hret _ _ _ hf (Or.inl rfl) dX4_isWell_20
  · have hf := ite_t c3 hf
    refine lv_aload_n hx hb dX4_isWell_7 rfl (lv_at hl 0 rfl) ?_
    obtain ⟨q4, h5, hf⟩ := bd_some hf
    refine kx_rv (As := []) (rest := []) hx hb hml hown hts hk hP hl.1 s_yX4_firstOutOfOrder v_yX4_firstOutOfOrder (c_firstOutOfOrder l D cI cZ cR wa w1 w2 w3 w4 w5 w6 w7 w8 w9 w _ h5) mT_299 rfl rfl ⟨Nat.le_of_ble_eq_true rfl, Nat.le_of_ble_eq_true rfl⟩ (ci := 4) (q0 := 0) rfl rfl rfl (Nat.le_of_ble_eq_true rfl) ⟨Nat.zero_le _, Nat.zero_le _⟩ dX4_isWell_8 ?_
    refine lv_iconst (v := (-1)) hx hb dX4_isWell_11 (by decide) ?_
    refine lv_icmp_ne (tgt := 19) hx hb dX4_isWell_12 (by decide) (fun c6 => ?_) (fun c6 => ?_)
    · have hf := ite_f c6 hf
      refine lv_iconst (v := 0) hx hb dX4_isWell_19 (by decide) ?_
      exact hret _ _ _ hf (Or.inl rfl) dX4_isWell_20
    · have hf := ite_t c6 hf
      refine lv_iconst (v := 1) hx hb dX4_isWell_15 (by decide) ?_
      refine lv_goto (tgt := 20) hx hb dX4_isWell_16 (by decide) ?_
      exact hret _ _ _ hf (Or.inr rfl) dX4_isWell_20
end
section
theorem s_yX5_isWaiting : kMS yX5_isWaiting cX5_isWaiting 3 (some .boolean) 1 := ⟨mT_362, mT_56, by decide +kernel⟩
theorem v_yX5_isWaiting : kMV yX5_isWaiting := ⟨mT_361, mT_10⟩
def k_isWaiting_2 (x2_2 : Int32) : Option Int32 := some 0
def lp_isWaiting_2 (wk : Ob) (x : Int32) (kk0 : Int32 → Option Int32) : Nat → Int32 → Option Int32
  | 0, _ => none
  | fu1 + 1, x2_2 => if (wk 0 0) ≤ x2_2 then (kk0 x2_2) else (gd (ck x2_2 10) (if ((wk 2) (Int32.toNatClampNeg x2_2)) = x then (some 1) else ((lp_isWaiting_2 wk x kk0 fu1) (x2_2 + 1))))
def f_isWaiting (wk : Ob) (x : Int32) : Option Int32 := lp_isWaiting_2 wk x k_isWaiting_2 10000 0
set_option maxHeartbeats 4000000 in
set_option maxRecDepth 100000 in
theorem c_isWaiting (l : Launch) (D : va_G) (cI cZ cR : ClassId) (wka wk1 wk2 : Nat) (wk : Ob) (x : Int32) (r : Int32) (hf : f_isWaiting wk x = some r) : kCr l yX5_isWaiting cX5_isWaiting 3 (some .boolean) { frames := 0, cells := 0, slots := 0, locals := 0 } [.ref wka, .int x] D cI cZ cR (cWork cI wka wk1 wk2 wk) r := by
  refine kMrz (by decide) (Nat.le_of_ble_eq_true rfl) ?_
  intro p e s m below meth c Q hx hb hml hown hts hk hP hret ls hl
  have hK := hk.1
  have hl : lv_has ls 3 [(0, .ref wka), (1, .int x)] := hl
  rw [f_isWaiting] at hf
  refine lv_iconst (v := 0) hx hb dX5_isWaiting_0 (by decide) ?_
  refine lv_istore_n (lv' := [(2, .int 0), (0, .ref wka), (1, .int x)]) hx hb dX5_isWaiting_1 rfl hl (by decide) rfl (fun ls hl => ?_)
  have kx1 : ∀ (x2_2 : Int32) (ls : Array Slot), k_isWaiting_2 x2_2 = some r → lv_has ls 3 [(0, .ref wka), (1, .int x), (2, .int x2_2)] → W p l e ({ frames := 0, cells := 0, slots := 0, locals := 0 } : Room) s m ([.ref wka, .int x] : List Value).toArray below meth c s.heap [] 0 0 Q (F0 m 28 ls []) := by
    intro x2_2 ls hf hl
    rw [k_isWaiting_2] at hf
    refine lv_iconst (v := 0) hx hb dX5_isWaiting_28 (by decide) ?_
    exact hret _ _ _ hf (Or.inl rfl) dX5_isWaiting_29
  have lh1 : ∀ (fu1 : Nat) (x2_2 : Int32) (ls : Array Slot), lp_isWaiting_2 wk x k_isWaiting_2 fu1 x2_2 = some r → lv_has ls 3 [(0, .ref wka), (1, .int x), (2, .int x2_2)] → W p l e ({ frames := 0, cells := 0, slots := 0, locals := 0 } : Room) s m ([.ref wka, .int x] : List Value).toArray below meth c s.heap [] 0 0 Q (F0 m 2 ls []) := by
    intro fu1
    induction fu1 with
    | zero => intro x2_2 ls hf hl; exact no_none hf
    | succ fu1 ih1 =>
      intro x2_2 ls hf hl
      rw [lp_isWaiting_2] at hf
      refine lv_iload_n hx hb dX5_isWaiting_2 rfl (lv_at hl 2 rfl) ?_
      refine lv_aload_n hx hb dX5_isWaiting_3 rfl (lv_at hl 0 rfl) ?_
      refine va_get (D := D) (ci := 5) (v := .int (wk 0 0)) (C := RX5) (T := TX5) (N := 3) hx hb hts inT5 hown hK hP 0 rfl rfl 2 (by decide) (hts _ mT_196) (fun _ h9 => h9) rfl dX5_isWaiting_4 ?_
      refine lv_icmp_ge (tgt := 28) hx hb dX5_isWaiting_7 (by decide) (fun c3 => ?_) (fun c3 => ?_)
      · have hf := ite_t c3 hf
        exact kx1 x2_2 _ hf (lv_sub hl [0, 1, 2] rfl)
      · have hf := ite_f c3 hf
        refine lv_aload_n hx hb dX5_isWaiting_10 rfl (lv_at hl 0 rfl) ?_
        refine va_get (D := D) (ci := 5) (v := .ref wk2) (C := RX5) (T := TX5) (N := 3) hx hb hts inT5 hown hK hP 0 rfl rfl 1 (by decide) (hts _ mT_195) (fun _ h9 => h9) rfl dX5_isWaiting_11 ?_
        refine lv_iload_n hx hb dX5_isWaiting_14 rfl (lv_at hl 2 rfl) ?_
        obtain ⟨b4, hf⟩ := gd_some hf
        refine va_iald (n := 10) (f := wk 2) hx hb hK hP 2 0 rfl rfl (ck_in b4) dX5_isWaiting_15 ?_
        refine lv_iload_n hx hb dX5_isWaiting_16 rfl (lv_at hl 1 rfl) ?_
        refine lv_icmp_ne (tgt := 22) hx hb dX5_isWaiting_17 (by decide) (fun c5 => ?_) (fun c5 => ?_)
        · have hf := ite_f c5 hf
          refine lv_iinc (v := x2_2 + 1) (lv' := [(2, .int (x2_2 + 1)), (0, .ref wka), (1, .int x)]) hx hb dX5_isWaiting_22 hl (k := 2) rfl rfl (by decide) rfl (fun ls hl => ?_)
          refine lv_goto (tgt := 2) hx hb dX5_isWaiting_25 (by decide) ?_
          exact ih1 (x2_2 + 1) _ hf (lv_sub hl [1, 2, 0] rfl)
        · have hf := ite_t c5 hf
          refine lv_iconst (v := 1) hx hb dX5_isWaiting_20 (by decide) ?_
          exact hret _ _ _ hf (Or.inr rfl) dX5_isWaiting_21
  exact lh1 10000 0 _ hf (lv_sub hl [1, 2, 0] rfl)
theorem s_yX5_leastWaiting : kMS yX5_leastWaiting cX5_leastWaiting 3 (some .int) 0 := ⟨mT_353, mT_56, by decide +kernel⟩
theorem v_yX5_leastWaiting : kMV yX5_leastWaiting := ⟨mT_352, mT_8⟩
def k_leastWaiting_4 (x1_2 : Int32) (x2_3 : Int32) : Option Int32 := some x1_2
def lp_leastWaiting_4 (wk : Ob) (kk0 : Int32 → Int32 → Option Int32) : Nat → Int32 → Int32 → Option Int32
  | 0, _, _ => none
  | fu1 + 1, x1_2, x2_3 => if (wk 0 0) ≤ x2_3 then (kk0 x1_2 x2_3) else (gd (ck x2_3 10) (gd (ck x1_2 10) (if ((wk 2) (Int32.toNatClampNeg x1_2)) ≤ ((wk 2) (Int32.toNatClampNeg x2_3)) then ((lp_leastWaiting_4 wk kk0 fu1) x1_2 (x2_3 + 1)) else ((lp_leastWaiting_4 wk kk0 fu1) x2_3 (x2_3 + 1)))))
def f_leastWaiting (wk : Ob) : Option Int32 := lp_leastWaiting_4 wk k_leastWaiting_4 10000 0 1
set_option maxHeartbeats 4000000 in
set_option maxRecDepth 100000 in
theorem c_leastWaiting (l : Launch) (D : va_G) (cI cZ cR : ClassId) (wka wk1 wk2 : Nat) (wk : Ob) (r : Int32) (hf : f_leastWaiting wk = some r) : kCr l yX5_leastWaiting cX5_leastWaiting 3 (some .int) { frames := 0, cells := 0, slots := 0, locals := 0 } [.ref wka] D cI cZ cR (cWork cI wka wk1 wk2 wk) r := by
  refine kMri (by decide) (Nat.le_of_ble_eq_true rfl) ?_
  intro p e s m below meth c Q hx hb hml hown hts hk hP hret ls hl
  have hK := hk.1
  have hl : lv_has ls 3 [(0, .ref wka)] := hl
  rw [f_leastWaiting] at hf
  refine lv_iconst (v := 0) hx hb dX5_leastWaiting_0 (by decide) ?_
  refine lv_istore_n (lv' := [(1, .int 0), (0, .ref wka)]) hx hb dX5_leastWaiting_1 rfl hl (by decide) rfl (fun ls hl => ?_)
  refine lv_iconst (v := 1) hx hb dX5_leastWaiting_2 (by decide) ?_
  refine lv_istore_n (lv' := [(2, .int 1), (1, .int 0), (0, .ref wka)]) hx hb dX5_leastWaiting_3 rfl hl (by decide) rfl (fun ls hl => ?_)
  have kx1 : ∀ (x1_2 : Int32) (x2_3 : Int32) (ls : Array Slot), k_leastWaiting_4 x1_2 x2_3 = some r → lv_has ls 3 [(0, .ref wka), (1, .int x1_2), (2, .int x2_3)] → W p l e ({ frames := 0, cells := 0, slots := 0, locals := 0 } : Room) s m ([.ref wka] : List Value).toArray below meth c s.heap [] 0 0 Q (F0 m 35 ls []) := by
    intro x1_2 x2_3 ls hf hl
    rw [k_leastWaiting_4] at hf
    refine lv_iload_n hx hb dX5_leastWaiting_35 rfl (lv_at hl 1 rfl) ?_
    exact hret _ _ _ hf dX5_leastWaiting_36
  have lh1 : ∀ (fu1 : Nat) (x1_2 : Int32) (x2_3 : Int32) (ls : Array Slot), lp_leastWaiting_4 wk k_leastWaiting_4 fu1 x1_2 x2_3 = some r → lv_has ls 3 [(0, .ref wka), (1, .int x1_2), (2, .int x2_3)] → W p l e ({ frames := 0, cells := 0, slots := 0, locals := 0 } : Room) s m ([.ref wka] : List Value).toArray below meth c s.heap [] 0 0 Q (F0 m 4 ls []) := by
    intro fu1
    induction fu1 with
    | zero => intro x1_2 x2_3 ls hf hl; exact no_none hf
    | succ fu1 ih1 =>
      intro x1_2 x2_3 ls hf hl
      rw [lp_leastWaiting_4] at hf
      refine lv_iload_n hx hb dX5_leastWaiting_4 rfl (lv_at hl 2 rfl) ?_
      refine lv_aload_n hx hb dX5_leastWaiting_5 rfl (lv_at hl 0 rfl) ?_
      refine va_get (D := D) (ci := 5) (v := .int (wk 0 0)) (C := RX5) (T := TX5) (N := 3) hx hb hts inT5 hown hK hP 0 rfl rfl 2 (by decide) (hts _ mT_196) (fun _ h9 => h9) rfl dX5_leastWaiting_6 ?_
      refine lv_icmp_ge (tgt := 35) hx hb dX5_leastWaiting_9 (by decide) (fun c4 => ?_) (fun c4 => ?_)
      · have hf := ite_t c4 hf
        exact kx1 x1_2 x2_3 _ hf (lv_sub hl [0, 1, 2] rfl)
      · have hf := ite_f c4 hf
        refine lv_aload_n hx hb dX5_leastWaiting_12 rfl (lv_at hl 0 rfl) ?_
        refine va_get (D := D) (ci := 5) (v := .ref wk2) (C := RX5) (T := TX5) (N := 3) hx hb hts inT5 hown hK hP 0 rfl rfl 1 (by decide) (hts _ mT_195) (fun _ h9 => h9) rfl dX5_leastWaiting_13 ?_
        refine lv_iload_n hx hb dX5_leastWaiting_16 rfl (lv_at hl 2 rfl) ?_
        obtain ⟨b5, hf⟩ := gd_some hf
        refine va_iald (n := 10) (f := wk 2) hx hb hK hP 2 0 rfl rfl (ck_in b5) dX5_leastWaiting_17 ?_
        refine lv_aload_n hx hb dX5_leastWaiting_18 rfl (lv_at hl 0 rfl) ?_
        refine va_get (D := D) (ci := 5) (v := .ref wk2) (C := RX5) (T := TX5) (N := 3) hx hb hts inT5 hown hK hP 0 rfl rfl 1 (by decide) (hts _ mT_195) (fun _ h9 => h9) rfl dX5_leastWaiting_19 ?_
        refine lv_iload_n hx hb dX5_leastWaiting_22 rfl (lv_at hl 1 rfl) ?_
        obtain ⟨b6, hf⟩ := gd_some hf
        refine va_iald (n := 10) (f := wk 2) hx hb hK hP 2 0 rfl rfl (ck_in b6) dX5_leastWaiting_23 ?_
        refine lv_icmp_ge (tgt := 29) hx hb dX5_leastWaiting_24 (by decide) (fun c7 => ?_) (fun c7 => ?_)
        · have hf := ite_t c7 hf
          refine lv_iinc (v := x2_3 + 1) (lv' := [(2, .int (x2_3 + 1)), (0, .ref wka), (1, .int x1_2)]) hx hb dX5_leastWaiting_29 hl (k := 2) rfl rfl (by decide) rfl (fun ls hl => ?_)
          refine lv_goto (tgt := 4) hx hb dX5_leastWaiting_32 (by decide) ?_
          exact ih1 x1_2 (x2_3 + 1) _ hf (lv_sub hl [1, 2, 0] rfl)
        · have hf := ite_f c7 hf
          refine lv_iload_n hx hb dX5_leastWaiting_27 rfl (lv_at hl 2 rfl) ?_
          refine lv_istore_n (lv' := [(1, .int x2_3), (0, .ref wka), (2, .int x2_3)]) hx hb dX5_leastWaiting_28 rfl hl (by decide) rfl (fun ls hl => ?_)
          refine lv_iinc (v := x2_3 + 1) (lv' := [(2, .int (x2_3 + 1)), (1, .int x2_3), (0, .ref wka)]) hx hb dX5_leastWaiting_29 hl (k := 2) rfl rfl (by decide) rfl (fun ls hl => ?_)
          refine lv_goto (tgt := 4) hx hb dX5_leastWaiting_32 (by decide) ?_
          exact ih1 x2_3 (x2_3 + 1) _ hf (lv_sub hl [2, 1, 0] rfl)
  exact lh1 10000 0 1 _ hf (lv_sub hl [2, 1, 0] rfl)
theorem s_yX5_takeNext : kMS yX5_takeNext cX5_takeNext 5 (some .int) 1 := ⟨mT_349, mT_56, by decide +kernel⟩
theorem v_yX5_takeNext : kMV yX5_takeNext := ⟨mT_348, mT_7⟩
def k_takeNext_47 (wk : Ob) (x4_5 : Int32) (wk_6 : Ob) : Option (Int32 × Ob) := some ((wk 2) (Int32.toNatClampNeg ((wk 0 0) - 1)), wk_6)
def lp_takeNext_47 (kk0 : Int32 → Ob → Option (Int32 × Ob)) : Nat → Int32 → Ob → Option (Int32 × Ob)
  | 0, _, _ => none
  | fu4 + 1, x4_5, wk_6 => if (wk_6 0 0) ≤ x4_5 then (kk0 x4_5 wk_6) else (gd (ck (x4_5 + 1) 10) (gd (ck x4_5 10) ((lp_takeNext_47 kk0 fu4) (x4_5 + 1) (sA wk_6 2 (upd (wk_6 2) (Int32.toNatClampNeg x4_5) ((wk_6 2) (Int32.toNatClampNeg (x4_5 + 1))))))))
def k_takeNext_47_1 (wk : Ob) (x4_11 : Int32) (wk_12 : Ob) : Option (Int32 × Ob) := some ((wk 2) (Int32.toNatClampNeg 0), wk_12)
def lp_takeNext_47_1 (kk0 : Int32 → Ob → Option (Int32 × Ob)) : Nat → Int32 → Ob → Option (Int32 × Ob)
  | 0, _, _ => none
  | fu10 + 1, x4_11, wk_12 => if (wk_12 0 0) ≤ x4_11 then (kk0 x4_11 wk_12) else (gd (ck (x4_11 + 1) 10) (gd (ck x4_11 10) ((lp_takeNext_47_1 kk0 fu10) (x4_11 + 1) (sA wk_12 2 (upd (wk_12 2) (Int32.toNatClampNeg x4_11) ((wk_12 2) (Int32.toNatClampNeg (x4_11 + 1))))))))
def k_takeNext_47_2 (wk : Ob) (q16 : Int32) (x4_20 : Int32) (wk_21 : Ob) : Option (Int32 × Ob) := some ((wk 2) (Int32.toNatClampNeg q16), wk_21)
def lp_takeNext_47_2 (kk0 : Int32 → Ob → Option (Int32 × Ob)) : Nat → Int32 → Ob → Option (Int32 × Ob)
  | 0, _, _ => none
  | fu19 + 1, x4_20, wk_21 => if (wk_21 0 0) ≤ x4_20 then (kk0 x4_20 wk_21) else (gd (ck (x4_20 + 1) 10) (gd (ck x4_20 10) ((lp_takeNext_47_2 kk0 fu19) (x4_20 + 1) (sA wk_21 2 (upd (wk_21 2) (Int32.toNatClampNeg x4_20) ((wk_21 2) (Int32.toNatClampNeg (x4_20 + 1))))))))
def f_takeNext (wk : Ob) (x : Int32) : Option (Int32 × Ob) := if x = 0 then (bd (f_leastWaiting wk) (fun q16 => gd (ck q16 10) (lp_takeNext_47_2 (k_takeNext_47_2 wk q16) 10000 q16 (sI wk 0 ((wk 0 0) - 1))))) else (if x = 1 then (lp_takeNext_47_1 (k_takeNext_47_1 wk) 10000 0 (sI wk 0 ((wk 0 0) - 1))) else (gd (ck ((wk 0 0) - 1) 10) (lp_takeNext_47 (k_takeNext_47 wk) 10000 ((wk 0 0) - 1) (sI wk 0 ((wk 0 0) - 1)))))
set_option maxHeartbeats 4000000 in
set_option maxRecDepth 100000 in
theorem c_takeNext (l : Launch) (D : va_G) (cI cZ cR : ClassId) (wka wk1 wk2 : Nat) (wk : Ob) (x : Int32) (sz : Nat) (r : Int32) (u : Ob) (hf : f_takeNext wk x = some (r, u)) : kCi l yX5_takeNext cX5_takeNext 5 (some .int) { frames := 1, cells := 0, slots := 0, locals := 22 } [.ref wka, .int x] D cI cZ cR (cWork cI wka wk1 wk2 wk) sz (cWork cI wka wk1 wk2 u) r := by
  refine kMwi (wf := (fun u : Ob => cWork cI wka wk1 wk2 u)) (u := u) (by decide) (Nat.le_of_ble_eq_true rfl) ?_
  intro p e s m below meth c Q A hx hb hml hown hts hk hP hD hA hS hret ls hl
  have hS0 := hS
  have hK := hk.1
  have hl : lv_has ls 5 [(0, .ref wka), (1, .int x)] := hl
  rw [f_takeNext] at hf
  refine lv_iload_n hx hb dX5_takeNext_0 rfl (lv_at hl 1 rfl) ?_
  refine lv_if_ne (tgt := 11) hx hb dX5_takeNext_1 (by decide) (fun c1 => ?_) (fun c1 => ?_)
  · have hf := ite_f c1 hf
    refine lv_iload_n hx hb dX5_takeNext_11 rfl (lv_at hl 1 rfl) ?_
    refine lv_iconst (v := 1) hx hb dX5_takeNext_12 (by decide) ?_
    refine lv_icmp_ne (tgt := 20) hx hb dX5_takeNext_13 (by decide) (fun c2 => ?_) (fun c2 => ?_)
    · have hf := ite_f c2 hf
      refine lv_aload_n hx hb dX5_takeNext_20 rfl (lv_at hl 0 rfl) ?_
      refine va_get (D := D) (ci := 5) (v := .int (wk 0 0)) (C := RX5) (T := TX5) (N := 3) hx hb hts inT5 hown hK hP 0 rfl rfl 2 (by decide) (hts _ mT_196) (fun _ h9 => h9) rfl dX5_takeNext_21 ?_
      refine lv_iconst (v := 1) hx hb dX5_takeNext_24 (by decide) ?_
      refine lv_isub hx hb dX5_takeNext_25 ?_
      refine lv_istore_n (lv' := [(2, .int ((wk 0 0) - 1)), (0, .ref wka), (1, .int x)]) hx hb dX5_takeNext_26 rfl hl (by decide) rfl (fun ls hl => ?_)
      refine lv_aload_n hx hb dX5_takeNext_27 rfl (lv_at hl 1 rfl) ?_
      refine va_get (D := D) (ci := 5) (v := .ref wk2) (C := RX5) (T := TX5) (N := 3) hx hb hts inT5 hown hK hP 0 rfl rfl 1 (by decide) (hts _ mT_195) (fun _ h9 => h9) rfl dX5_takeNext_28 ?_
      refine lv_iload_n hx hb dX5_takeNext_31 rfl (lv_at hl 0 rfl) ?_
      obtain ⟨b3, hf⟩ := gd_some hf
      refine va_iald (n := 10) (f := wk 2) hx hb hK hP 2 0 rfl rfl (ck_in b3) dX5_takeNext_32 ?_
      refine lv_istore_n (lv' := [(3, .int ((wk 2) (Int32.toNatClampNeg ((wk 0 0) - 1)))), (2, .int ((wk 0 0) - 1)), (0, .ref wka), (1, .int x)]) hx hb dX5_takeNext_33 rfl hl (by decide) rfl (fun ls hl => ?_)
      refine lv_aload_n hx hb dX5_takeNext_34 rfl (lv_at hl 2 rfl) ?_
      refine lv_dup hx hb dX5_takeNext_35 rfl ?_
      refine va_get (D := D) (ci := 5) (v := .int (wk 0 0)) (C := RX5) (T := TX5) (N := 3) hx hb hts inT5 hown hK hP 0 rfl rfl 2 (by decide) (hts _ mT_196) (fun _ h9 => h9) rfl dX5_takeNext_36 ?_
      refine lv_iconst (v := 1) hx hb dX5_takeNext_39 (by decide) ?_
      refine lv_isub hx hb dX5_takeNext_40 ?_
      refine va_put (D := D) (ci := 5) (v := .int ((wk 0 0) - 1)) (ty := .int) (C := RX5) (T := TX5) (N := 3) hx hb hts inT5 tyX5 tyX5_ok nmX5 hown hK hP hD hS 0 rfl rfl 2 (by decide) (hts _ mT_196) (fun _ h9 => h9) rfl (by decide +kernel) rfl rfl (Nat.le_of_ble_eq_true rfl) dX5_takeNext_41 (fun H locs hP hD hS => ?_)
      have hP : va_P D vwCl (cWork cI wka wk1 wk2 (sI wk 0 ((wk 0 0) - 1))) H := hP
      have hD : va_D A (cWork cI wka wk1 wk2 (sI wk 0 ((wk 0 0) - 1))) := hD
      refine lv_iload_n hx hb dX5_takeNext_44 rfl (lv_at hl 1 rfl) ?_
      refine lv_istore (lv' := [(4, .int ((wk 0 0) - 1)), (3, .int ((wk 2) (Int32.toNatClampNeg ((wk 0 0) - 1)))), (2, .int ((wk 0 0) - 1)), (0, .ref wka), (1, .int x)]) hx hb dX5_takeNext_45 hl (by decide) rfl (fun ls hl => ?_)
      have kx4 : ∀ (x4_5 : Int32) (wk_6 : Ob) (H : Heap) (locs : List Loc) (ls : Array Slot), (k_takeNext_47 wk) x4_5 wk_6 = some (r, u) → va_P D vwCl (cWork cI wka wk1 wk2 wk_6) H → va_D A (cWork cI wka wk1 wk2 wk_6) → va_S A s.heap H locs → lv_has ls 5 [(0, .ref wka), (1, .int x), (2, .int ((wk 0 0) - 1)), (3, .int ((wk 2) (Int32.toNatClampNeg ((wk 0 0) - 1)))), (4, .int x4_5)] → W p l e ({ frames := 1, cells := 0, slots := 0, locals := 22 } : Room) s m ([.ref wka, .int x] : List Value).toArray below meth c H locs 0 0 Q (F0 m 78 ls []) := by
        intro x4_5 wk_6 H locs ls hf hP hD hS hl
        rw [k_takeNext_47] at hf
        refine lv_iload_n hx hb dX5_takeNext_78 rfl (lv_at hl 3 rfl) ?_
        exact hret _ _ _ wk_6 _ _ hf dX5_takeNext_79 hP hD hS
      have lh4 : ∀ (fu4 : Nat) (x4_5 : Int32) (wk_6 : Ob) (H : Heap) (locs : List Loc) (ls : Array Slot), lp_takeNext_47 (k_takeNext_47 wk) fu4 x4_5 wk_6 = some (r, u) → va_P D vwCl (cWork cI wka wk1 wk2 wk_6) H → va_D A (cWork cI wka wk1 wk2 wk_6) → va_S A s.heap H locs → lv_has ls 5 [(0, .ref wka), (1, .int x), (2, .int ((wk 0 0) - 1)), (3, .int ((wk 2) (Int32.toNatClampNeg ((wk 0 0) - 1)))), (4, .int x4_5)] → W p l e ({ frames := 1, cells := 0, slots := 0, locals := 22 } : Room) s m ([.ref wka, .int x] : List Value).toArray below meth c H locs 0 0 Q (F0 m 47 ls []) := by
        intro fu4
        induction fu4 with
        | zero => intro x4_5 wk_6 H locs ls hf hP hD hS hl; exact no_none hf
        | succ fu4 ih4 =>
          intro x4_5 wk_6 H locs ls hf hP hD hS hl
          rw [lp_takeNext_47] at hf
          refine lv_iload hx hb dX5_takeNext_47 (lv_at hl 4 rfl) ?_
          refine lv_aload_n hx hb dX5_takeNext_49 rfl (lv_at hl 0 rfl) ?_
          refine va_get (D := D) (ci := 5) (v := .int (wk_6 0 0)) (C := RX5) (T := TX5) (N := 3) hx hb hts inT5 hown hK hP 0 rfl rfl 2 (by decide) (hts _ mT_196) (fun _ h9 => h9) rfl dX5_takeNext_50 ?_
          refine lv_icmp_ge (tgt := 78) hx hb dX5_takeNext_53 (by decide) (fun c7 => ?_) (fun c7 => ?_)
          · have hf := ite_t c7 hf
            exact kx4 x4_5 wk_6 _ _ _ hf hP hD hS (lv_sub hl [0, 1, 2, 3, 4] rfl)
          · have hf := ite_f c7 hf
            refine lv_aload_n hx hb dX5_takeNext_56 rfl (lv_at hl 0 rfl) ?_
            refine va_get (D := D) (ci := 5) (v := .ref wk2) (C := RX5) (T := TX5) (N := 3) hx hb hts inT5 hown hK hP 0 rfl rfl 1 (by decide) (hts _ mT_195) (fun _ h9 => h9) rfl dX5_takeNext_57 ?_
            refine lv_iload hx hb dX5_takeNext_60 (lv_at hl 4 rfl) ?_
            refine lv_aload_n hx hb dX5_takeNext_62 rfl (lv_at hl 0 rfl) ?_
            refine va_get (D := D) (ci := 5) (v := .ref wk2) (C := RX5) (T := TX5) (N := 3) hx hb hts inT5 hown hK hP 0 rfl rfl 1 (by decide) (hts _ mT_195) (fun _ h9 => h9) rfl dX5_takeNext_63 ?_
            refine lv_iload hx hb dX5_takeNext_66 (lv_at hl 4 rfl) ?_
            refine lv_iconst (v := 1) hx hb dX5_takeNext_68 (by decide) ?_
            refine lv_iadd hx hb dX5_takeNext_69 ?_
            obtain ⟨b8, hf⟩ := gd_some hf
            refine va_iald (n := 10) (f := wk_6 2) hx hb hK hP 2 0 rfl rfl (ck_in b8) dX5_takeNext_70 ?_
            obtain ⟨b9, hf⟩ := gd_some hf
            refine va_iast (n := 10) (f := wk_6 2) hx hb hK hP hD hS 2 0 rfl rfl (ck_in b9) dX5_takeNext_71 (fun H locs hP hD hS => ?_)
            have hP : va_P D vwCl (cWork cI wka wk1 wk2 (sA wk_6 2 (upd (wk_6 2) (Int32.toNatClampNeg x4_5) ((wk_6 2) (Int32.toNatClampNeg (x4_5 + 1)))))) H := hP
            have hD : va_D A (cWork cI wka wk1 wk2 (sA wk_6 2 (upd (wk_6 2) (Int32.toNatClampNeg x4_5) ((wk_6 2) (Int32.toNatClampNeg (x4_5 + 1)))))) := hD
            refine lv_iinc (v := x4_5 + 1) (lv' := [(4, .int (x4_5 + 1)), (0, .ref wka), (1, .int x), (2, .int ((wk 0 0) - 1)), (3, .int ((wk 2) (Int32.toNatClampNeg ((wk 0 0) - 1))))]) hx hb dX5_takeNext_72 hl (k := 4) rfl rfl (by decide) rfl (fun ls hl => ?_)
            refine lv_goto (tgt := 47) hx hb dX5_takeNext_75 (by decide) ?_
            exact ih4 (x4_5 + 1) (sA wk_6 2 (upd (wk_6 2) (Int32.toNatClampNeg x4_5) ((wk_6 2) (Int32.toNatClampNeg (x4_5 + 1))))) _ _ _ hf hP hD hS (lv_sub hl [1, 2, 3, 4, 0] rfl)
      exact lh4 10000 ((wk 0 0) - 1) (sI wk 0 ((wk 0 0) - 1)) _ _ _ hf hP hD hS (lv_sub hl [3, 4, 2, 1, 0] rfl)
    · have hf := ite_t c2 hf
      refine lv_iconst (v := 0) hx hb dX5_takeNext_16 (by decide) ?_
      refine lv_goto (tgt := 26) hx hb dX5_takeNext_17 (by decide) ?_
      refine lv_istore_n (lv' := [(2, .int 0), (0, .ref wka), (1, .int x)]) hx hb dX5_takeNext_26 rfl hl (by decide) rfl (fun ls hl => ?_)
      refine lv_aload_n hx hb dX5_takeNext_27 rfl (lv_at hl 1 rfl) ?_
      refine va_get (D := D) (ci := 5) (v := .ref wk2) (C := RX5) (T := TX5) (N := 3) hx hb hts inT5 hown hK hP 0 rfl rfl 1 (by decide) (hts _ mT_195) (fun _ h9 => h9) rfl dX5_takeNext_28 ?_
      refine lv_iload_n hx hb dX5_takeNext_31 rfl (lv_at hl 0 rfl) ?_
      refine va_iald (n := 10) (f := wk 2) hx hb hK hP 2 0 rfl rfl (ck_in (by decide)) dX5_takeNext_32 ?_
      refine lv_istore_n (lv' := [(3, .int ((wk 2) (Int32.toNatClampNeg 0))), (2, .int 0), (0, .ref wka), (1, .int x)]) hx hb dX5_takeNext_33 rfl hl (by decide) rfl (fun ls hl => ?_)
      refine lv_aload_n hx hb dX5_takeNext_34 rfl (lv_at hl 2 rfl) ?_
      refine lv_dup hx hb dX5_takeNext_35 rfl ?_
      refine va_get (D := D) (ci := 5) (v := .int (wk 0 0)) (C := RX5) (T := TX5) (N := 3) hx hb hts inT5 hown hK hP 0 rfl rfl 2 (by decide) (hts _ mT_196) (fun _ h9 => h9) rfl dX5_takeNext_36 ?_
      refine lv_iconst (v := 1) hx hb dX5_takeNext_39 (by decide) ?_
      refine lv_isub hx hb dX5_takeNext_40 ?_
      refine va_put (D := D) (ci := 5) (v := .int ((wk 0 0) - 1)) (ty := .int) (C := RX5) (T := TX5) (N := 3) hx hb hts inT5 tyX5 tyX5_ok nmX5 hown hK hP hD hS 0 rfl rfl 2 (by decide) (hts _ mT_196) (fun _ h9 => h9) rfl (by decide +kernel) rfl rfl (Nat.le_of_ble_eq_true rfl) dX5_takeNext_41 (fun H locs hP hD hS => ?_)
      have hP : va_P D vwCl (cWork cI wka wk1 wk2 (sI wk 0 ((wk 0 0) - 1))) H := hP
      have hD : va_D A (cWork cI wka wk1 wk2 (sI wk 0 ((wk 0 0) - 1))) := hD
      refine lv_iload_n hx hb dX5_takeNext_44 rfl (lv_at hl 1 rfl) ?_
      refine lv_istore (lv' := [(4, .int 0), (3, .int ((wk 2) (Int32.toNatClampNeg 0))), (2, .int 0), (0, .ref wka), (1, .int x)]) hx hb dX5_takeNext_45 hl (by decide) rfl (fun ls hl => ?_)
      have kx10 : ∀ (x4_11 : Int32) (wk_12 : Ob) (H : Heap) (locs : List Loc) (ls : Array Slot), (k_takeNext_47_1 wk) x4_11 wk_12 = some (r, u) → va_P D vwCl (cWork cI wka wk1 wk2 wk_12) H → va_D A (cWork cI wka wk1 wk2 wk_12) → va_S A s.heap H locs → lv_has ls 5 [(0, .ref wka), (1, .int x), (2, .int 0), (3, .int ((wk 2) (Int32.toNatClampNeg 0))), (4, .int x4_11)] → W p l e ({ frames := 1, cells := 0, slots := 0, locals := 22 } : Room) s m ([.ref wka, .int x] : List Value).toArray below meth c H locs 0 0 Q (F0 m 78 ls []) := by
        intro x4_11 wk_12 H locs ls hf hP hD hS hl
        rw [k_takeNext_47_1] at hf
        refine lv_iload_n hx hb dX5_takeNext_78 rfl (lv_at hl 3 rfl) ?_
        exact hret _ _ _ wk_12 _ _ hf dX5_takeNext_79 hP hD hS
      have lh10 : ∀ (fu10 : Nat) (x4_11 : Int32) (wk_12 : Ob) (H : Heap) (locs : List Loc) (ls : Array Slot), lp_takeNext_47_1 (k_takeNext_47_1 wk) fu10 x4_11 wk_12 = some (r, u) → va_P D vwCl (cWork cI wka wk1 wk2 wk_12) H → va_D A (cWork cI wka wk1 wk2 wk_12) → va_S A s.heap H locs → lv_has ls 5 [(0, .ref wka), (1, .int x), (2, .int 0), (3, .int ((wk 2) (Int32.toNatClampNeg 0))), (4, .int x4_11)] → W p l e ({ frames := 1, cells := 0, slots := 0, locals := 22 } : Room) s m ([.ref wka, .int x] : List Value).toArray below meth c H locs 0 0 Q (F0 m 47 ls []) := by
        intro fu10
        induction fu10 with
        | zero => intro x4_11 wk_12 H locs ls hf hP hD hS hl; exact no_none hf
        | succ fu10 ih10 =>
          intro x4_11 wk_12 H locs ls hf hP hD hS hl
          rw [lp_takeNext_47_1] at hf
          refine lv_iload hx hb dX5_takeNext_47 (lv_at hl 4 rfl) ?_
          refine lv_aload_n hx hb dX5_takeNext_49 rfl (lv_at hl 0 rfl) ?_
          refine va_get (D := D) (ci := 5) (v := .int (wk_12 0 0)) (C := RX5) (T := TX5) (N := 3) hx hb hts inT5 hown hK hP 0 rfl rfl 2 (by decide) (hts _ mT_196) (fun _ h9 => h9) rfl dX5_takeNext_50 ?_
          refine lv_icmp_ge (tgt := 78) hx hb dX5_takeNext_53 (by decide) (fun c13 => ?_) (fun c13 => ?_)
          · have hf := ite_t c13 hf
            exact kx10 x4_11 wk_12 _ _ _ hf hP hD hS (lv_sub hl [0, 1, 2, 3, 4] rfl)
          · have hf := ite_f c13 hf
            refine lv_aload_n hx hb dX5_takeNext_56 rfl (lv_at hl 0 rfl) ?_
            refine va_get (D := D) (ci := 5) (v := .ref wk2) (C := RX5) (T := TX5) (N := 3) hx hb hts inT5 hown hK hP 0 rfl rfl 1 (by decide) (hts _ mT_195) (fun _ h9 => h9) rfl dX5_takeNext_57 ?_
            refine lv_iload hx hb dX5_takeNext_60 (lv_at hl 4 rfl) ?_
            refine lv_aload_n hx hb dX5_takeNext_62 rfl (lv_at hl 0 rfl) ?_
            refine va_get (D := D) (ci := 5) (v := .ref wk2) (C := RX5) (T := TX5) (N := 3) hx hb hts inT5 hown hK hP 0 rfl rfl 1 (by decide) (hts _ mT_195) (fun _ h9 => h9) rfl dX5_takeNext_63 ?_
            refine lv_iload hx hb dX5_takeNext_66 (lv_at hl 4 rfl) ?_
            refine lv_iconst (v := 1) hx hb dX5_takeNext_68 (by decide) ?_
            refine lv_iadd hx hb dX5_takeNext_69 ?_
            obtain ⟨b14, hf⟩ := gd_some hf
            refine va_iald (n := 10) (f := wk_12 2) hx hb hK hP 2 0 rfl rfl (ck_in b14) dX5_takeNext_70 ?_
            obtain ⟨b15, hf⟩ := gd_some hf
            refine va_iast (n := 10) (f := wk_12 2) hx hb hK hP hD hS 2 0 rfl rfl (ck_in b15) dX5_takeNext_71 (fun H locs hP hD hS => ?_)
            have hP : va_P D vwCl (cWork cI wka wk1 wk2 (sA wk_12 2 (upd (wk_12 2) (Int32.toNatClampNeg x4_11) ((wk_12 2) (Int32.toNatClampNeg (x4_11 + 1)))))) H := hP
            have hD : va_D A (cWork cI wka wk1 wk2 (sA wk_12 2 (upd (wk_12 2) (Int32.toNatClampNeg x4_11) ((wk_12 2) (Int32.toNatClampNeg (x4_11 + 1)))))) := hD
            refine lv_iinc (v := x4_11 + 1) (lv' := [(4, .int (x4_11 + 1)), (0, .ref wka), (1, .int x), (2, .int 0), (3, .int ((wk 2) (Int32.toNatClampNeg 0)))]) hx hb dX5_takeNext_72 hl (k := 4) rfl rfl (by decide) rfl (fun ls hl => ?_)
            refine lv_goto (tgt := 47) hx hb dX5_takeNext_75 (by decide) ?_
            exact ih10 (x4_11 + 1) (sA wk_12 2 (upd (wk_12 2) (Int32.toNatClampNeg x4_11) ((wk_12 2) (Int32.toNatClampNeg (x4_11 + 1))))) _ _ _ hf hP hD hS (lv_sub hl [1, 2, 3, 4, 0] rfl)
      exact lh10 10000 0 (sI wk 0 ((wk 0 0) - 1)) _ _ _ hf hP hD hS (lv_sub hl [3, 4, 2, 1, 0] rfl)
  · have hf := ite_t c1 hf
    refine lv_aload_n hx hb dX5_takeNext_4 rfl (lv_at hl 0 rfl) ?_
    obtain ⟨q16, h17, hf⟩ := bd_some hf
    refine kx_rv (As := []) (rest := []) hx hb hml hown hts hk hP hl.1 s_yX5_leastWaiting v_yX5_leastWaiting (c_leastWaiting l D cI cZ cR wka wk1 wk2 wk _ h17) mT_350 rfl rfl ⟨Nat.le_of_ble_eq_true rfl, Nat.le_of_ble_eq_true rfl⟩ (ci := 5) (q0 := 0) rfl rfl rfl (Nat.le_of_ble_eq_true rfl) ⟨Nat.zero_le _, Nat.zero_le _⟩ dX5_takeNext_5 ?_
    refine lv_goto (tgt := 26) hx hb dX5_takeNext_8 (by decide) ?_
    refine lv_istore_n (lv' := [(2, .int q16), (0, .ref wka), (1, .int x)]) hx hb dX5_takeNext_26 rfl hl (by decide) rfl (fun ls hl => ?_)
    refine lv_aload_n hx hb dX5_takeNext_27 rfl (lv_at hl 1 rfl) ?_
    refine va_get (D := D) (ci := 5) (v := .ref wk2) (C := RX5) (T := TX5) (N := 3) hx hb hts inT5 hown hK hP 0 rfl rfl 1 (by decide) (hts _ mT_195) (fun _ h9 => h9) rfl dX5_takeNext_28 ?_
    refine lv_iload_n hx hb dX5_takeNext_31 rfl (lv_at hl 0 rfl) ?_
    obtain ⟨b18, hf⟩ := gd_some hf
    refine va_iald (n := 10) (f := wk 2) hx hb hK hP 2 0 rfl rfl (ck_in b18) dX5_takeNext_32 ?_
    refine lv_istore_n (lv' := [(3, .int ((wk 2) (Int32.toNatClampNeg q16))), (2, .int q16), (0, .ref wka), (1, .int x)]) hx hb dX5_takeNext_33 rfl hl (by decide) rfl (fun ls hl => ?_)
    refine lv_aload_n hx hb dX5_takeNext_34 rfl (lv_at hl 2 rfl) ?_
    refine lv_dup hx hb dX5_takeNext_35 rfl ?_
    refine va_get (D := D) (ci := 5) (v := .int (wk 0 0)) (C := RX5) (T := TX5) (N := 3) hx hb hts inT5 hown hK hP 0 rfl rfl 2 (by decide) (hts _ mT_196) (fun _ h9 => h9) rfl dX5_takeNext_36 ?_
    refine lv_iconst (v := 1) hx hb dX5_takeNext_39 (by decide) ?_
    refine lv_isub hx hb dX5_takeNext_40 ?_
    refine va_put (D := D) (ci := 5) (v := .int ((wk 0 0) - 1)) (ty := .int) (C := RX5) (T := TX5) (N := 3) hx hb hts inT5 tyX5 tyX5_ok nmX5 hown hK hP hD hS 0 rfl rfl 2 (by decide) (hts _ mT_196) (fun _ h9 => h9) rfl (by decide +kernel) rfl rfl (Nat.le_of_ble_eq_true rfl) dX5_takeNext_41 (fun H locs hP hD hS => ?_)
    have hP : va_P D vwCl (cWork cI wka wk1 wk2 (sI wk 0 ((wk 0 0) - 1))) H := hP
    have hD : va_D A (cWork cI wka wk1 wk2 (sI wk 0 ((wk 0 0) - 1))) := hD
    refine lv_iload_n hx hb dX5_takeNext_44 rfl (lv_at hl 1 rfl) ?_
    refine lv_istore (lv' := [(4, .int q16), (3, .int ((wk 2) (Int32.toNatClampNeg q16))), (2, .int q16), (0, .ref wka), (1, .int x)]) hx hb dX5_takeNext_45 hl (by decide) rfl (fun ls hl => ?_)
    have kx19 : ∀ (x4_20 : Int32) (wk_21 : Ob) (H : Heap) (locs : List Loc) (ls : Array Slot), (k_takeNext_47_2 wk q16) x4_20 wk_21 = some (r, u) → va_P D vwCl (cWork cI wka wk1 wk2 wk_21) H → va_D A (cWork cI wka wk1 wk2 wk_21) → va_S A s.heap H locs → lv_has ls 5 [(0, .ref wka), (1, .int x), (2, .int q16), (3, .int ((wk 2) (Int32.toNatClampNeg q16))), (4, .int x4_20)] → W p l e ({ frames := 1, cells := 0, slots := 0, locals := 22 } : Room) s m ([.ref wka, .int x] : List Value).toArray below meth c H locs 0 0 Q (F0 m 78 ls []) := by
      intro x4_20 wk_21 H locs ls hf hP hD hS hl
      rw [k_takeNext_47_2] at hf
      refine lv_iload_n hx hb dX5_takeNext_78 rfl (lv_at hl 3 rfl) ?_
      exact hret _ _ _ wk_21 _ _ hf dX5_takeNext_79 hP hD hS
    have lh19 : ∀ (fu19 : Nat) (x4_20 : Int32) (wk_21 : Ob) (H : Heap) (locs : List Loc) (ls : Array Slot), lp_takeNext_47_2 (k_takeNext_47_2 wk q16) fu19 x4_20 wk_21 = some (r, u) → va_P D vwCl (cWork cI wka wk1 wk2 wk_21) H → va_D A (cWork cI wka wk1 wk2 wk_21) → va_S A s.heap H locs → lv_has ls 5 [(0, .ref wka), (1, .int x), (2, .int q16), (3, .int ((wk 2) (Int32.toNatClampNeg q16))), (4, .int x4_20)] → W p l e ({ frames := 1, cells := 0, slots := 0, locals := 22 } : Room) s m ([.ref wka, .int x] : List Value).toArray below meth c H locs 0 0 Q (F0 m 47 ls []) := by
      intro fu19
      induction fu19 with
      | zero => intro x4_20 wk_21 H locs ls hf hP hD hS hl; exact no_none hf
      | succ fu19 ih19 =>
        intro x4_20 wk_21 H locs ls hf hP hD hS hl
        rw [lp_takeNext_47_2] at hf
        refine lv_iload hx hb dX5_takeNext_47 (lv_at hl 4 rfl) ?_
        refine lv_aload_n hx hb dX5_takeNext_49 rfl (lv_at hl 0 rfl) ?_
        refine va_get (D := D) (ci := 5) (v := .int (wk_21 0 0)) (C := RX5) (T := TX5) (N := 3) hx hb hts inT5 hown hK hP 0 rfl rfl 2 (by decide) (hts _ mT_196) (fun _ h9 => h9) rfl dX5_takeNext_50 ?_
        refine lv_icmp_ge (tgt := 78) hx hb dX5_takeNext_53 (by decide) (fun c22 => ?_) (fun c22 => ?_)
        · have hf := ite_t c22 hf
          exact kx19 x4_20 wk_21 _ _ _ hf hP hD hS (lv_sub hl [0, 1, 2, 3, 4] rfl)
        · have hf := ite_f c22 hf
          refine lv_aload_n hx hb dX5_takeNext_56 rfl (lv_at hl 0 rfl) ?_
          refine va_get (D := D) (ci := 5) (v := .ref wk2) (C := RX5) (T := TX5) (N := 3) hx hb hts inT5 hown hK hP 0 rfl rfl 1 (by decide) (hts _ mT_195) (fun _ h9 => h9) rfl dX5_takeNext_57 ?_
          refine lv_iload hx hb dX5_takeNext_60 (lv_at hl 4 rfl) ?_
          refine lv_aload_n hx hb dX5_takeNext_62 rfl (lv_at hl 0 rfl) ?_
          refine va_get (D := D) (ci := 5) (v := .ref wk2) (C := RX5) (T := TX5) (N := 3) hx hb hts inT5 hown hK hP 0 rfl rfl 1 (by decide) (hts _ mT_195) (fun _ h9 => h9) rfl dX5_takeNext_63 ?_
          refine lv_iload hx hb dX5_takeNext_66 (lv_at hl 4 rfl) ?_
          refine lv_iconst (v := 1) hx hb dX5_takeNext_68 (by decide) ?_
          refine lv_iadd hx hb dX5_takeNext_69 ?_
          obtain ⟨b23, hf⟩ := gd_some hf
          refine va_iald (n := 10) (f := wk_21 2) hx hb hK hP 2 0 rfl rfl (ck_in b23) dX5_takeNext_70 ?_
          obtain ⟨b24, hf⟩ := gd_some hf
          refine va_iast (n := 10) (f := wk_21 2) hx hb hK hP hD hS 2 0 rfl rfl (ck_in b24) dX5_takeNext_71 (fun H locs hP hD hS => ?_)
          have hP : va_P D vwCl (cWork cI wka wk1 wk2 (sA wk_21 2 (upd (wk_21 2) (Int32.toNatClampNeg x4_20) ((wk_21 2) (Int32.toNatClampNeg (x4_20 + 1)))))) H := hP
          have hD : va_D A (cWork cI wka wk1 wk2 (sA wk_21 2 (upd (wk_21 2) (Int32.toNatClampNeg x4_20) ((wk_21 2) (Int32.toNatClampNeg (x4_20 + 1)))))) := hD
          refine lv_iinc (v := x4_20 + 1) (lv' := [(4, .int (x4_20 + 1)), (0, .ref wka), (1, .int x), (2, .int q16), (3, .int ((wk 2) (Int32.toNatClampNeg q16)))]) hx hb dX5_takeNext_72 hl (k := 4) rfl rfl (by decide) rfl (fun ls hl => ?_)
          refine lv_goto (tgt := 47) hx hb dX5_takeNext_75 (by decide) ?_
          exact ih19 (x4_20 + 1) (sA wk_21 2 (upd (wk_21 2) (Int32.toNatClampNeg x4_20) ((wk_21 2) (Int32.toNatClampNeg (x4_20 + 1))))) _ _ _ hf hP hD hS (lv_sub hl [1, 2, 3, 4, 0] rfl)
    exact lh19 10000 q16 (sI wk 0 ((wk 0 0) - 1)) _ _ _ hf hP hD hS (lv_sub hl [3, 4, 2, 1, 0] rfl)
theorem s_yX5_wakeBehind : kMS yX5_wakeBehind cX5_wakeBehind 5 none 3 := ⟨mT_358, mT_56, by decide +kernel⟩
theorem v_yX5_wakeBehind : kMV yX5_wakeBehind := ⟨mT_357, mT_9⟩
def k_wakeBehind_3 (x4_2 : Int32) (wk_3 : Ob) : Option Ob := some wk_3
def lp_wakeBehind_3 (w : Ob) (x : Int32) (y : Int32) (kk0 : Int32 → Ob → Option Ob) : Nat → Int32 → Ob → Option Ob
  | 0, _, _ => none
  | fu1 + 1, x4_2, wk_3 => if (w 0 2) ≤ x4_2 then (kk0 x4_2 wk_3) else (gd (ck x4_2 20) (if ((w 4) (Int32.toNatClampNeg x4_2)) = x then (if x4_2 = y then ((lp_wakeBehind_3 w x y kk0 fu1) (x4_2 + 1) wk_3) else (gd (ck x4_2 20) (bd (f_isWaiting wk_3 ((w 5) (Int32.toNatClampNeg x4_2))) (fun q9 => if q9 = 0 then (if 10 ≤ (wk_3 0 0) then ((lp_wakeBehind_3 w x y kk0 fu1) (x4_2 + 1) wk_3) else (gd (ck x4_2 20) (gd (ck (wk_3 0 0) 10) ((lp_wakeBehind_3 w x y kk0 fu1) (x4_2 + 1) (sI (sA wk_3 2 (upd (wk_3 2) (Int32.toNatClampNeg (wk_3 0 0)) ((w 5) (Int32.toNatClampNeg x4_2)))) 0 ((wk_3 0 0) + 1)))))) else ((lp_wakeBehind_3 w x y kk0 fu1) (x4_2 + 1) wk_3))))) else ((lp_wakeBehind_3 w x y kk0 fu1) (x4_2 + 1) wk_3)))
def f_wakeBehind (wk : Ob) (w : Ob) (x : Int32) (y : Int32) : Option Ob := lp_wakeBehind_3 w x y k_wakeBehind_3 10000 0 wk
set_option maxHeartbeats 4000000 in
set_option maxRecDepth 100000 in
theorem c_wakeBehind (l : Launch) (D : va_G) (cI cZ cR : ClassId) (wka wk1 wk2 wa w1 w2 w3 w4 w5 w6 w7 w8 w9 : Nat) (wk : Ob) (w : Ob) (x : Int32) (y : Int32) (sz : Nat) (u : Ob) (hf : f_wakeBehind wk w x y = some u) : kCv l yX5_wakeBehind cX5_wakeBehind 5 none { frames := 1, cells := 0, slots := 0, locals := 22 } [.ref wka, .ref wa, .int x, .int y] D cI cZ cR (cWork cI wka wk1 wk2 wk ++ (cWeb cI wa w1 w2 w3 w4 w5 w6 w7 w8 w9 w)) sz (cWork cI wka wk1 wk2 u ++ (cWeb cI wa w1 w2 w3 w4 w5 w6 w7 w8 w9 w)) := by
  refine kMwv (wf := (fun u : Ob => cWork cI wka wk1 wk2 u ++ (cWeb cI wa w1 w2 w3 w4 w5 w6 w7 w8 w9 w))) (u := u) (by decide) (Nat.le_of_ble_eq_true rfl) ?_
  intro p e s m below meth c Q A hx hb hml hown hts hk hP hD hA hS hret ls hl
  have hS0 := hS
  have hK := hk.1
  have hl : lv_has ls 5 [(0, .ref wka), (1, .ref wa), (2, .int x), (3, .int y)] := hl
  rw [f_wakeBehind] at hf
  refine lv_iconst (v := 0) hx hb dX5_wakeBehind_0 (by decide) ?_
  refine lv_istore (lv' := [(4, .int 0), (0, .ref wka), (1, .ref wa), (2, .int x), (3, .int y)]) hx hb dX5_wakeBehind_1 hl (by decide) rfl (fun ls hl => ?_)
  have kx1 : ∀ (x4_2 : Int32) (wk_3 : Ob) (H : Heap) (locs : List Loc) (ls : Array Slot), k_wakeBehind_3 x4_2 wk_3 = some u → va_P D vwCl (cWork cI wka wk1 wk2 wk_3 ++ (cWeb cI wa w1 w2 w3 w4 w5 w6 w7 w8 w9 w)) H → va_D A (cWork cI wka wk1 wk2 wk_3 ++ (cWeb cI wa w1 w2 w3 w4 w5 w6 w7 w8 w9 w)) → va_S A s.heap H locs → lv_has ls 5 [(0, .ref wka), (1, .ref wa), (2, .int x), (3, .int y), (4, .int x4_2)] → W p l e ({ frames := 1, cells := 0, slots := 0, locals := 22 } : Room) s m ([.ref wka, .ref wa, .int x, .int y] : List Value).toArray below meth c H locs 0 0 Q (F0 m 84 ls []) := by
    intro x4_2 wk_3 H locs ls hf hP hD hS hl
    rw [k_wakeBehind_3] at hf
    exact hret _ _ wk_3 _ _ hf dX5_wakeBehind_84 hP hD hS
  have lh1 : ∀ (fu1 : Nat) (x4_2 : Int32) (wk_3 : Ob) (H : Heap) (locs : List Loc) (ls : Array Slot), lp_wakeBehind_3 w x y k_wakeBehind_3 fu1 x4_2 wk_3 = some u → va_P D vwCl (cWork cI wka wk1 wk2 wk_3 ++ (cWeb cI wa w1 w2 w3 w4 w5 w6 w7 w8 w9 w)) H → va_D A (cWork cI wka wk1 wk2 wk_3 ++ (cWeb cI wa w1 w2 w3 w4 w5 w6 w7 w8 w9 w)) → va_S A s.heap H locs → lv_has ls 5 [(0, .ref wka), (1, .ref wa), (2, .int x), (3, .int y), (4, .int x4_2)] → W p l e ({ frames := 1, cells := 0, slots := 0, locals := 22 } : Room) s m ([.ref wka, .ref wa, .int x, .int y] : List Value).toArray below meth c H locs 0 0 Q (F0 m 3 ls []) := by
    intro fu1
    induction fu1 with
    | zero => intro x4_2 wk_3 H locs ls hf hP hD hS hl; exact no_none hf
    | succ fu1 ih1 =>
      intro x4_2 wk_3 H locs ls hf hP hD hS hl
      rw [lp_wakeBehind_3] at hf
      refine lv_iload hx hb dX5_wakeBehind_3 (lv_at hl 4 rfl) ?_
      refine lv_aload_n hx hb dX5_wakeBehind_5 rfl (lv_at hl 1 rfl) ?_
      refine va_get (D := D) (ci := 4) (v := .int (w 0 2)) (C := RX4) (T := TX4) (N := 12) hx hb hts inT4 hown hK hP 3 rfl rfl 2 (by decide) (hts _ mT_83) (fun _ h9 => h9) rfl dX5_wakeBehind_6 ?_
      refine lv_icmp_ge (tgt := 84) hx hb dX5_wakeBehind_9 (by decide) (fun c4 => ?_) (fun c4 => ?_)
      · have hf := ite_t c4 hf
        exact kx1 x4_2 wk_3 _ _ _ hf hP hD hS (lv_sub hl [0, 1, 2, 3, 4] rfl)
      · have hf := ite_f c4 hf
        refine lv_aload_n hx hb dX5_wakeBehind_12 rfl (lv_at hl 1 rfl) ?_
        refine va_get (D := D) (ci := 4) (v := .ref w4) (C := RX4) (T := TX4) (N := 12) hx hb hts inT4 hown hK hP 3 rfl rfl 6 (by decide) (hts _ mT_92) (fun _ h9 => h9) rfl dX5_wakeBehind_13 ?_
        refine lv_iload hx hb dX5_wakeBehind_16 (lv_at hl 4 rfl) ?_
        obtain ⟨b5, hf⟩ := gd_some hf
        refine va_iald (n := 20) (f := w 4) hx hb hK hP 7 0 rfl rfl (ck_in b5) dX5_wakeBehind_18 ?_
        refine lv_iload_n hx hb dX5_wakeBehind_19 rfl (lv_at hl 2 rfl) ?_
        refine lv_icmp_ne (tgt := 78) hx hb dX5_wakeBehind_20 (by decide) (fun c6 => ?_) (fun c6 => ?_)
        · have hf := ite_f c6 hf
          refine lv_iinc (v := x4_2 + 1) (lv' := [(4, .int (x4_2 + 1)), (0, .ref wka), (1, .ref wa), (2, .int x), (3, .int y)]) hx hb dX5_wakeBehind_78 hl (k := 4) rfl rfl (by decide) rfl (fun ls hl => ?_)
          refine lv_goto (tgt := 3) hx hb dX5_wakeBehind_81 (by decide) ?_
          exact ih1 (x4_2 + 1) wk_3 _ _ _ hf hP hD hS (lv_sub hl [1, 2, 3, 4, 0] rfl)
        · have hf := ite_t c6 hf
          refine lv_iload hx hb dX5_wakeBehind_23 (lv_at hl 4 rfl) ?_
          refine lv_iload_n hx hb dX5_wakeBehind_25 rfl (lv_at hl 3 rfl) ?_
          refine lv_icmp_eq (tgt := 78) hx hb dX5_wakeBehind_26 (by decide) (fun c7 => ?_) (fun c7 => ?_)
          · have hf := ite_t c7 hf
            refine lv_iinc (v := x4_2 + 1) (lv' := [(4, .int (x4_2 + 1)), (0, .ref wka), (1, .ref wa), (2, .int x), (3, .int y)]) hx hb dX5_wakeBehind_78 hl (k := 4) rfl rfl (by decide) rfl (fun ls hl => ?_)
            refine lv_goto (tgt := 3) hx hb dX5_wakeBehind_81 (by decide) ?_
            exact ih1 (x4_2 + 1) wk_3 _ _ _ hf hP hD hS (lv_sub hl [1, 2, 3, 4, 0] rfl)
          · have hf := ite_f c7 hf
            refine lv_aload_n hx hb dX5_wakeBehind_29 rfl (lv_at hl 0 rfl) ?_
            refine lv_aload_n hx hb dX5_wakeBehind_30 rfl (lv_at hl 1 rfl) ?_
            refine va_get (D := D) (ci := 4) (v := .ref w5) (C := RX4) (T := TX4) (N := 12) hx hb hts inT4 hown hK hP 3 rfl rfl 7 (by decide) (hts _ mT_95) (fun _ h9 => h9) rfl dX5_wakeBehind_31 ?_
            refine lv_iload hx hb dX5_wakeBehind_34 (lv_at hl 4 rfl) ?_
            obtain ⟨b8, hf⟩ := gd_some hf
            refine va_iald (n := 20) (f := w 5) hx hb hK hP 8 0 rfl rfl (ck_in b8) dX5_wakeBehind_36 ?_
            obtain ⟨q9, h10, hf⟩ := bd_some hf
            refine kx_rv (As := [.int ((w 5) (Int32.toNatClampNeg x4_2))]) (rest := []) hx hb hml hown hts hk (hP.sub (ws' := cWork cI wka wk1 wk2 wk_3) [0, 1, 2] rfl) hl.1 s_yX5_isWaiting v_yX5_isWaiting (c_isWaiting l D cI cZ cR wka wk1 wk2 wk_3 ((w 5) (Int32.toNatClampNeg x4_2)) _ h10) mT_359 rfl rfl ⟨Nat.le_of_ble_eq_true rfl, Nat.le_of_ble_eq_true rfl⟩ (ci := 5) (q0 := 0) rfl rfl rfl (Nat.le_of_ble_eq_true rfl) ⟨Nat.zero_le _, Nat.zero_le _⟩ dX5_wakeBehind_37 ?_
            refine lv_if_ne (tgt := 78) hx hb dX5_wakeBehind_40 (by decide) (fun c11 => ?_) (fun c11 => ?_)
            · have hf := ite_f c11 hf
              refine lv_iinc (v := x4_2 + 1) (lv' := [(4, .int (x4_2 + 1)), (0, .ref wka), (1, .ref wa), (2, .int x), (3, .int y)]) hx hb dX5_wakeBehind_78 hl (k := 4) rfl rfl (by decide) rfl (fun ls hl => ?_)
              refine lv_goto (tgt := 3) hx hb dX5_wakeBehind_81 (by decide) ?_
              exact ih1 (x4_2 + 1) wk_3 _ _ _ hf hP hD hS (lv_sub hl [1, 2, 3, 4, 0] rfl)
            · have hf := ite_t c11 hf
              refine lv_aload_n hx hb dX5_wakeBehind_43 rfl (lv_at hl 0 rfl) ?_
              refine va_get (D := D) (ci := 5) (v := .int (wk_3 0 0)) (C := RX5) (T := TX5) (N := 3) hx hb hts inT5 hown hK hP 0 rfl rfl 2 (by decide) (hts _ mT_196) (fun _ h9 => h9) rfl dX5_wakeBehind_44 ?_
              refine lv_bipush (v := 10) hx hb dX5_wakeBehind_47 (by decide) ?_
              refine lv_icmp_ge (tgt := 78) hx hb dX5_wakeBehind_49 (by decide) (fun c12 => ?_) (fun c12 => ?_)
              · have hf := ite_t c12 hf
                refine lv_iinc (v := x4_2 + 1) (lv' := [(4, .int (x4_2 + 1)), (0, .ref wka), (1, .ref wa), (2, .int x), (3, .int y)]) hx hb dX5_wakeBehind_78 hl (k := 4) rfl rfl (by decide) rfl (fun ls hl => ?_)
                refine lv_goto (tgt := 3) hx hb dX5_wakeBehind_81 (by decide) ?_
                exact ih1 (x4_2 + 1) wk_3 _ _ _ hf hP hD hS (lv_sub hl [1, 2, 3, 4, 0] rfl)
              · have hf := ite_f c12 hf
                refine lv_aload_n hx hb dX5_wakeBehind_52 rfl (lv_at hl 0 rfl) ?_
                refine va_get (D := D) (ci := 5) (v := .ref wk2) (C := RX5) (T := TX5) (N := 3) hx hb hts inT5 hown hK hP 0 rfl rfl 1 (by decide) (hts _ mT_195) (fun _ h9 => h9) rfl dX5_wakeBehind_53 ?_
                refine lv_aload_n hx hb dX5_wakeBehind_56 rfl (lv_at hl 0 rfl) ?_
                refine va_get (D := D) (ci := 5) (v := .int (wk_3 0 0)) (C := RX5) (T := TX5) (N := 3) hx hb hts inT5 hown hK hP 0 rfl rfl 2 (by decide) (hts _ mT_196) (fun _ h9 => h9) rfl dX5_wakeBehind_57 ?_
                refine lv_aload_n hx hb dX5_wakeBehind_60 rfl (lv_at hl 1 rfl) ?_
                refine va_get (D := D) (ci := 4) (v := .ref w5) (C := RX4) (T := TX4) (N := 12) hx hb hts inT4 hown hK hP 3 rfl rfl 7 (by decide) (hts _ mT_95) (fun _ h9 => h9) rfl dX5_wakeBehind_61 ?_
                refine lv_iload hx hb dX5_wakeBehind_64 (lv_at hl 4 rfl) ?_
                obtain ⟨b13, hf⟩ := gd_some hf
                refine va_iald (n := 20) (f := w 5) hx hb hK hP 8 0 rfl rfl (ck_in b13) dX5_wakeBehind_66 ?_
                obtain ⟨b14, hf⟩ := gd_some hf
                refine va_iast (n := 10) (f := wk_3 2) hx hb hK hP hD hS 2 0 rfl rfl (ck_in b14) dX5_wakeBehind_67 (fun H locs hP hD hS => ?_)
                have hP : va_P D vwCl (cWork cI wka wk1 wk2 (sA wk_3 2 (upd (wk_3 2) (Int32.toNatClampNeg (wk_3 0 0)) ((w 5) (Int32.toNatClampNeg x4_2)))) ++ (cWeb cI wa w1 w2 w3 w4 w5 w6 w7 w8 w9 w)) H := hP
                have hD : va_D A (cWork cI wka wk1 wk2 (sA wk_3 2 (upd (wk_3 2) (Int32.toNatClampNeg (wk_3 0 0)) ((w 5) (Int32.toNatClampNeg x4_2)))) ++ (cWeb cI wa w1 w2 w3 w4 w5 w6 w7 w8 w9 w)) := hD
                refine lv_aload_n hx hb dX5_wakeBehind_68 rfl (lv_at hl 0 rfl) ?_
                refine lv_dup hx hb dX5_wakeBehind_69 rfl ?_
                refine va_get (D := D) (ci := 5) (v := .int (wk_3 0 0)) (C := RX5) (T := TX5) (N := 3) hx hb hts inT5 hown hK hP 0 rfl rfl 2 (by decide) (hts _ mT_196) (fun _ h9 => h9) rfl dX5_wakeBehind_70 ?_
                refine lv_iconst (v := 1) hx hb dX5_wakeBehind_73 (by decide) ?_
                refine lv_iadd hx hb dX5_wakeBehind_74 ?_
                refine va_put (D := D) (ci := 5) (v := .int ((wk_3 0 0) + 1)) (ty := .int) (C := RX5) (T := TX5) (N := 3) hx hb hts inT5 tyX5 tyX5_ok nmX5 hown hK hP hD hS 0 rfl rfl 2 (by decide) (hts _ mT_196) (fun _ h9 => h9) rfl (by decide +kernel) rfl rfl (Nat.le_of_ble_eq_true rfl) dX5_wakeBehind_75 (fun H locs hP hD hS => ?_)
                have hP : va_P D vwCl (cWork cI wka wk1 wk2 (sI (sA wk_3 2 (upd (wk_3 2) (Int32.toNatClampNeg (wk_3 0 0)) ((w 5) (Int32.toNatClampNeg x4_2)))) 0 ((wk_3 0 0) + 1)) ++ (cWeb cI wa w1 w2 w3 w4 w5 w6 w7 w8 w9 w)) H := hP
                have hD : va_D A (cWork cI wka wk1 wk2 (sI (sA wk_3 2 (upd (wk_3 2) (Int32.toNatClampNeg (wk_3 0 0)) ((w 5) (Int32.toNatClampNeg x4_2)))) 0 ((wk_3 0 0) + 1)) ++ (cWeb cI wa w1 w2 w3 w4 w5 w6 w7 w8 w9 w)) := hD
                refine lv_iinc (v := x4_2 + 1) (lv' := [(4, .int (x4_2 + 1)), (0, .ref wka), (1, .ref wa), (2, .int x), (3, .int y)]) hx hb dX5_wakeBehind_78 hl (k := 4) rfl rfl (by decide) rfl (fun ls hl => ?_)
                refine lv_goto (tgt := 3) hx hb dX5_wakeBehind_81 (by decide) ?_
                exact ih1 (x4_2 + 1) (sI (sA wk_3 2 (upd (wk_3 2) (Int32.toNatClampNeg (wk_3 0 0)) ((w 5) (Int32.toNatClampNeg x4_2)))) 0 ((wk_3 0 0) + 1)) _ _ _ hf hP hD hS (lv_sub hl [1, 2, 3, 4, 0] rfl)
  exact lh1 10000 0 wk _ _ _ hf hP hD hS (lv_sub hl [1, 2, 3, 4, 0] rfl)
theorem s_yX5_run : kMS yX5_run cX5_run 7 (some .int) 3 := ⟨mT_345, mT_56, by decide +kernel⟩
theorem v_yX5_run : kMV yX5_run := ⟨mT_343, mT_344⟩
def k_run_46 (x4_5 : Int32) (wk_6 : Ob) : Option (Int32 × Ob) := if (wk_6 0 0) ≤ 0 then (some (x4_5, wk_6)) else (some ((-1), wk_6))
def lp_run_46 (w : Ob) (x : Int32) (y : Int32) (kk0 : Int32 → Ob → Option (Int32 × Ob)) : Nat → Int32 → Ob → Option (Int32 × Ob)
  | 0, _, _ => none
  | fu4 + 1, x4_5, wk_6 => if (wk_6 0 0) ≤ 0 then (kk0 x4_5 wk_6) else (if 2000 ≤ x4_5 then (kk0 x4_5 wk_6) else (bd (f_takeNext wk_6 x) (fun q10 => bd (f_together w (q10.2 1) q10.1 y) (fun q12 => gd (ck q10.1 10) (if q12 = ((q10.2 1) (Int32.toNatClampNeg q10.1)) then ((lp_run_46 w x y kk0 fu4) (x4_5 + 1) q10.2) else (gd (ck q10.1 10) (bd (f_wakeBehind (sA q10.2 1 (upd (q10.2 1) (Int32.toNatClampNeg q10.1) q12)) w q10.1 y) (fun q17 => (lp_run_46 w x y kk0 fu4) (x4_5 + 1) q17))))))))
def k_run_11 (w : Ob) (x : Int32) (y : Int32) (x4_2 : Int32) (wk_3 : Ob) : Option (Int32 × Ob) := lp_run_46 w x y k_run_46 10000 0 wk_3
def lp_run_11 (w : Ob) (kk0 : Int32 → Ob → Option (Int32 × Ob)) : Nat → Int32 → Ob → Option (Int32 × Ob)
  | 0, _, _ => none
  | fu1 + 1, x4_2, wk_3 => if (w 0 1) ≤ x4_2 then (kk0 x4_2 wk_3) else (gd (ck x4_2 10) (gd (ck x4_2 10) ((lp_run_11 w kk0 fu1) (x4_2 + 1) (sA (sA wk_3 1 (upd (wk_3 1) (Int32.toNatClampNeg x4_2) 0)) 2 (upd (wk_3 2) (Int32.toNatClampNeg x4_2) x4_2)))))
def f_run (wk : Ob) (w : Ob) (x : Int32) (y : Int32) : Option (Int32 × Ob) := lp_run_11 w (k_run_11 w x y) 10000 0 (sI wk 0 (w 0 1))
set_option maxHeartbeats 4000000 in
set_option maxRecDepth 100000 in
theorem c_run (l : Launch) (D : va_G) (cI cZ cR : ClassId) (wka wk1 wk2 wa w1 w2 w3 w4 w5 w6 w7 w8 w9 : Nat) (wk : Ob) (w : Ob) (x : Int32) (y : Int32) (sz : Nat) (r : Int32) (u : Ob) (hf : f_run wk w x y = some (r, u)) : kCi l yX5_run cX5_run 7 (some .int) { frames := 3, cells := 0, slots := 0, locals := 73 } [.ref wka, .ref wa, .int x, .int y] D cI cZ cR (cWork cI wka wk1 wk2 wk ++ (cWeb cI wa w1 w2 w3 w4 w5 w6 w7 w8 w9 w)) sz (cWork cI wka wk1 wk2 u ++ (cWeb cI wa w1 w2 w3 w4 w5 w6 w7 w8 w9 w)) r := by
  refine kMwi (wf := (fun u : Ob => cWork cI wka wk1 wk2 u ++ (cWeb cI wa w1 w2 w3 w4 w5 w6 w7 w8 w9 w))) (u := u) (by decide) (Nat.le_of_ble_eq_true rfl) ?_
  intro p e s m below meth c Q A hx hb hml hown hts hk hP hD hA hS hret ls hl
  have hS0 := hS
  have hK := hk.1
  have hl : lv_has ls 7 [(0, .ref wka), (1, .ref wa), (2, .int x), (3, .int y)] := hl
  rw [f_run] at hf
  refine lv_aload_n hx hb dX5_run_0 rfl (lv_at hl 0 rfl) ?_
  refine lv_aload_n hx hb dX5_run_1 rfl (lv_at hl 1 rfl) ?_
  refine va_get (D := D) (ci := 4) (v := .int (w 0 1)) (C := RX4) (T := TX4) (N := 12) hx hb hts inT4 hown hK hP 3 rfl rfl 1 (by decide) (hts _ mT_77) (fun _ h9 => h9) rfl dX5_run_2 ?_
  refine va_put (D := D) (ci := 5) (v := .int (w 0 1)) (ty := .int) (C := RX5) (T := TX5) (N := 3) hx hb hts inT5 tyX5 tyX5_ok nmX5 hown hK hP hD hS 0 rfl rfl 2 (by decide) (hts _ mT_196) (fun _ h9 => h9) rfl (by decide +kernel) rfl rfl (Nat.le_of_ble_eq_true rfl) dX5_run_5 (fun H locs hP hD hS => ?_)
  have hP : va_P D vwCl (cWork cI wka wk1 wk2 (sI wk 0 (w 0 1)) ++ (cWeb cI wa w1 w2 w3 w4 w5 w6 w7 w8 w9 w)) H := hP
  have hD : va_D A (cWork cI wka wk1 wk2 (sI wk 0 (w 0 1)) ++ (cWeb cI wa w1 w2 w3 w4 w5 w6 w7 w8 w9 w)) := hD
  refine lv_iconst (v := 0) hx hb dX5_run_8 (by decide) ?_
  refine lv_istore (lv' := [(4, .int 0), (0, .ref wka), (1, .ref wa), (2, .int x), (3, .int y)]) hx hb dX5_run_9 hl (by decide) rfl (fun ls hl => ?_)
  have kx1 : ∀ (x4_2 : Int32) (wk_3 : Ob) (H : Heap) (locs : List Loc) (ls : Array Slot), (k_run_11 w x y) x4_2 wk_3 = some (r, u) → va_P D vwCl (cWork cI wka wk1 wk2 wk_3 ++ (cWeb cI wa w1 w2 w3 w4 w5 w6 w7 w8 w9 w)) H → va_D A (cWork cI wka wk1 wk2 wk_3 ++ (cWeb cI wa w1 w2 w3 w4 w5 w6 w7 w8 w9 w)) → va_S A s.heap H locs → lv_has ls 7 [(0, .ref wka), (1, .ref wa), (2, .int x), (3, .int y), (4, .int x4_2)] → W p l e ({ frames := 3, cells := 0, slots := 0, locals := 73 } : Room) s m ([.ref wka, .ref wa, .int x, .int y] : List Value).toArray below meth c H locs 0 0 Q (F0 m 43 ls []) := by
    intro x4_2 wk_3 H locs ls hf hP hD hS hl
    rw [k_run_11] at hf
    refine lv_iconst (v := 0) hx hb dX5_run_43 (by decide) ?_
    refine lv_istore (lv' := [(4, .int 0), (0, .ref wka), (1, .ref wa), (2, .int x), (3, .int y)]) hx hb dX5_run_44 hl (by decide) rfl (fun ls hl => ?_)
    have kx4 : ∀ (x4_5 : Int32) (wk_6 : Ob) (H : Heap) (locs : List Loc) (ls : Array Slot), k_run_46 x4_5 wk_6 = some (r, u) → va_P D vwCl (cWork cI wka wk1 wk2 wk_6 ++ (cWeb cI wa w1 w2 w3 w4 w5 w6 w7 w8 w9 w)) H → va_D A (cWork cI wka wk1 wk2 wk_6 ++ (cWeb cI wa w1 w2 w3 w4 w5 w6 w7 w8 w9 w)) → va_S A s.heap H locs → lv_has ls 7 [(0, .ref wka), (1, .ref wa), (2, .int x), (3, .int y), (4, .int x4_5)] → W p l e ({ frames := 3, cells := 0, slots := 0, locals := 73 } : Room) s m ([.ref wka, .ref wa, .int x, .int y] : List Value).toArray below meth c H locs 0 0 Q (F0 m 116 ls []) := by
      intro x4_5 wk_6 H locs ls hf hP hD hS hl
      rw [k_run_46] at hf
      refine lv_aload_n hx hb dX5_run_116 rfl (lv_at hl 0 rfl) ?_
      refine va_get (D := D) (ci := 5) (v := .int (wk_6 0 0)) (C := RX5) (T := TX5) (N := 3) hx hb hts inT5 hown hK hP 0 rfl rfl 2 (by decide) (hts _ mT_196) (fun _ h9 => h9) rfl dX5_run_117 ?_
      refine lv_if_le (tgt := 127) hx hb dX5_run_120 (by decide) (fun c7 => ?_) (fun c7 => ?_)
      · have hf := ite_t c7 hf
        refine lv_iload hx hb dX5_run_127 (lv_at hl 4 rfl) ?_
        exact hret _ _ _ wk_6 _ _ hf dX5_run_129 hP hD hS
      · have hf := ite_f c7 hf
        refine lv_iconst (v := (-1)) hx hb dX5_run_123 (by decide) ?_
        refine lv_goto (tgt := 129) hx hb dX5_run_124 (by decide) ?_
        exact hret _ _ _ wk_6 _ _ hf dX5_run_129 hP hD hS
    have lh4 : ∀ (fu4 : Nat) (x4_5 : Int32) (wk_6 : Ob) (H : Heap) (locs : List Loc) (ls : Array Slot), lp_run_46 w x y k_run_46 fu4 x4_5 wk_6 = some (r, u) → va_P D vwCl (cWork cI wka wk1 wk2 wk_6 ++ (cWeb cI wa w1 w2 w3 w4 w5 w6 w7 w8 w9 w)) H → va_D A (cWork cI wka wk1 wk2 wk_6 ++ (cWeb cI wa w1 w2 w3 w4 w5 w6 w7 w8 w9 w)) → va_S A s.heap H locs → lv_has ls 7 [(0, .ref wka), (1, .ref wa), (2, .int x), (3, .int y), (4, .int x4_5)] → W p l e ({ frames := 3, cells := 0, slots := 0, locals := 73 } : Room) s m ([.ref wka, .ref wa, .int x, .int y] : List Value).toArray below meth c H locs 0 0 Q (F0 m 46 ls []) := by
      intro fu4
      induction fu4 with
      | zero => intro x4_5 wk_6 H locs ls hf hP hD hS hl; exact no_none hf
      | succ fu4 ih4 =>
        intro x4_5 wk_6 H locs ls hf hP hD hS hl
        rw [lp_run_46] at hf
        refine lv_aload_n hx hb dX5_run_46 rfl (lv_at hl 0 rfl) ?_
        refine va_get (D := D) (ci := 5) (v := .int (wk_6 0 0)) (C := RX5) (T := TX5) (N := 3) hx hb hts inT5 hown hK hP 0 rfl rfl 2 (by decide) (hts _ mT_196) (fun _ h9 => h9) rfl dX5_run_47 ?_
        refine lv_if_le (tgt := 116) hx hb dX5_run_50 (by decide) (fun c8 => ?_) (fun c8 => ?_)
        · have hf := ite_t c8 hf
          exact kx4 x4_5 wk_6 _ _ _ hf hP hD hS (lv_sub hl [0, 1, 2, 3, 4] rfl)
        · have hf := ite_f c8 hf
          refine lv_iload hx hb dX5_run_53 (lv_at hl 4 rfl) ?_
          refine lv_sipush (v := 2000) hx hb dX5_run_55 (by decide) ?_
          refine lv_icmp_ge (tgt := 116) hx hb dX5_run_58 (by decide) (fun c9 => ?_) (fun c9 => ?_)
          · have hf := ite_t c9 hf
            exact kx4 x4_5 wk_6 _ _ _ hf hP hD hS (lv_sub hl [0, 1, 2, 3, 4] rfl)
          · have hf := ite_f c9 hf
            refine lv_iinc (v := x4_5 + 1) (lv' := [(4, .int (x4_5 + 1)), (0, .ref wka), (1, .ref wa), (2, .int x), (3, .int y)]) hx hb dX5_run_61 hl (k := 4) rfl rfl (by decide) rfl (fun ls hl => ?_)
            refine lv_aload_n hx hb dX5_run_64 rfl (lv_at hl 1 rfl) ?_
            refine lv_iload_n hx hb dX5_run_65 rfl (lv_at hl 3 rfl) ?_
            obtain ⟨q10, h11, hf⟩ := bd_some hf
            refine kx_wi (As := [.int x]) (rest := []) (wc := cWork cI wka wk1 wk2 wk_6) (wr := [(wa, .inr (4, [.int (w 0 0), .int (w 0 1), .int (w 0 2), .ref w1, .ref w2, .ref w3, .ref w4, .ref w5, .ref w6, .ref w7, .ref w8, .ref w9])), (w1, .inl (cI, 64, .inl (w 1))), (w2, .inl (cI, 10, .inl (w 2))), (w3, .inl (cI, 10, .inl (w 3))), (w4, .inl (cI, 20, .inl (w 4))), (w5, .inl (cI, 20, .inl (w 5))), (w6, .inl (cI, 160, .inl (w 6))), (w7, .inl (cI, 20, .inl (w 7))), (w8, .inl (cI, 20, .inl (w 8))), (w9, .inl (cI, 20, .inl (w 9)))]) (wd := cWork cI wka wk1 wk2 q10.2) (wn := cWork cI wka wk1 wk2 q10.2 ++ (cWeb cI wa w1 w2 w3 w4 w5 w6 w7 w8 w9 w)) hx hb hml hown hts hk hP hD hS hA hl.1 s_yX5_takeNext v_yX5_takeNext (c_takeNext l D cI cZ cR wka wk1 wk2 wk_6 x H.size _ _ h11) mT_346 rfl rfl ⟨Nat.le_of_ble_eq_true rfl, Nat.le_of_ble_eq_true rfl⟩ [0, 1, 2] [3, 4, 5, 6, 7, 8, 9, 10, 11, 12] [10, 11, 12, 0, 1, 2, 3, 4, 5, 6, 7, 8, 9] rfl rfl (by decide) (by decide) (by decide) (by decide) rfl (ci := 5) (q0 := 0) rfl rfl rfl (Nat.le_of_ble_eq_true rfl) ⟨Nat.zero_le _, Nat.zero_le _⟩ dX5_run_66 (fun H locs hP hD hS => ?_)
            refine lv_istore (lv' := [(5, .int q10.1), (4, .int (x4_5 + 1)), (0, .ref wka), (1, .ref wa), (2, .int x), (3, .int y)]) hx hb dX5_run_69 hl (by decide) rfl (fun ls hl => ?_)
            refine lv_aload_n hx hb dX5_run_71 rfl (lv_at hl 3 rfl) ?_
            refine lv_iload hx hb dX5_run_72 (lv_at hl 0 rfl) ?_
            refine lv_aload_n hx hb dX5_run_74 rfl (lv_at hl 2 rfl) ?_
            refine va_get (D := D) (ci := 5) (v := .ref wk1) (C := RX5) (T := TX5) (N := 3) hx hb hts inT5 hown hK hP 0 rfl rfl 0 (by decide) (hts _ mT_193) (fun _ h9 => h9) rfl dX5_run_75 ?_
            refine lv_iload_n hx hb dX5_run_78 rfl (lv_at hl 5 rfl) ?_
            obtain ⟨q12, h13, hf⟩ := bd_some hf
            refine kx_rv (As := [.int q10.1, .ref wk1, .int y]) (rest := []) hx hb hml hown hts hk (hP.sub (ws' := cWeb cI wa w1 w2 w3 w4 w5 w6 w7 w8 w9 w ++ (cArr cI 10 wk1 (q10.2 1))) [3, 4, 5, 6, 7, 8, 9, 10, 11, 12, 1] rfl) hl.1 s_yX4_together v_yX4_together (c_together l D cI cZ cR wa w1 w2 w3 w4 w5 w6 w7 w8 w9 wk1 w (q10.2 1) q10.1 y _ h13) mT_354 rfl rfl ⟨Nat.le_of_ble_eq_true rfl, Nat.le_of_ble_eq_true rfl⟩ (ci := 4) (q0 := 0) rfl rfl rfl (Nat.le_of_ble_eq_true rfl) ⟨Nat.zero_le _, Nat.zero_le _⟩ dX5_run_79 ?_
            refine lv_istore (lv' := [(6, .int q12), (5, .int q10.1), (4, .int (x4_5 + 1)), (0, .ref wka), (1, .ref wa), (2, .int x), (3, .int y)]) hx hb dX5_run_82 hl (by decide) rfl (fun ls hl => ?_)
            refine lv_iload hx hb dX5_run_84 (lv_at hl 0 rfl) ?_
            refine lv_aload_n hx hb dX5_run_86 rfl (lv_at hl 3 rfl) ?_
            refine va_get (D := D) (ci := 5) (v := .ref wk1) (C := RX5) (T := TX5) (N := 3) hx hb hts inT5 hown hK hP 0 rfl rfl 0 (by decide) (hts _ mT_193) (fun _ h9 => h9) rfl dX5_run_87 ?_
            refine lv_iload hx hb dX5_run_90 (lv_at hl 1 rfl) ?_
            obtain ⟨b14, hf⟩ := gd_some hf
            refine va_iald (n := 10) (f := q10.2 1) hx hb hK hP 1 0 rfl rfl (ck_in b14) dX5_run_92 ?_
            refine lv_icmp_eq (tgt := 113) hx hb dX5_run_93 (by decide) (fun c15 => ?_) (fun c15 => ?_)
            · have hf := ite_t c15 hf
              refine lv_goto (tgt := 46) hx hb dX5_run_113 (by decide) ?_
              exact ih4 (x4_5 + 1) q10.2 _ _ _ hf hP hD hS (lv_sub hl [3, 4, 5, 6, 2] rfl)
            · have hf := ite_f c15 hf
              refine lv_aload_n hx hb dX5_run_96 rfl (lv_at hl 3 rfl) ?_
              refine va_get (D := D) (ci := 5) (v := .ref wk1) (C := RX5) (T := TX5) (N := 3) hx hb hts inT5 hown hK hP 0 rfl rfl 0 (by decide) (hts _ mT_193) (fun _ h9 => h9) rfl dX5_run_97 ?_
              refine lv_iload hx hb dX5_run_100 (lv_at hl 1 rfl) ?_
              refine lv_iload hx hb dX5_run_102 (lv_at hl 0 rfl) ?_
              obtain ⟨b16, hf⟩ := gd_some hf
              refine va_iast (n := 10) (f := q10.2 1) hx hb hK hP hD hS 1 0 rfl rfl (ck_in b16) dX5_run_104 (fun H locs hP hD hS => ?_)
              have hP : va_P D vwCl (cWork cI wka wk1 wk2 (sA q10.2 1 (upd (q10.2 1) (Int32.toNatClampNeg q10.1) q12)) ++ (cWeb cI wa w1 w2 w3 w4 w5 w6 w7 w8 w9 w)) H := hP
              have hD : va_D A (cWork cI wka wk1 wk2 (sA q10.2 1 (upd (q10.2 1) (Int32.toNatClampNeg q10.1) q12)) ++ (cWeb cI wa w1 w2 w3 w4 w5 w6 w7 w8 w9 w)) := hD
              refine lv_aload_n hx hb dX5_run_105 rfl (lv_at hl 3 rfl) ?_
              refine lv_aload_n hx hb dX5_run_106 rfl (lv_at hl 4 rfl) ?_
              refine lv_iload hx hb dX5_run_107 (lv_at hl 1 rfl) ?_
              refine lv_iload_n hx hb dX5_run_109 rfl (lv_at hl 6 rfl) ?_
              obtain ⟨q17, h18, hf⟩ := bd_some hf
              refine kx_wv (As := [.ref wa, .int q10.1, .int y]) (rest := []) (wc := cWork cI wka wk1 wk2 (sA q10.2 1 (upd (q10.2 1) (Int32.toNatClampNeg q10.1) q12)) ++ (cWeb cI wa w1 w2 w3 w4 w5 w6 w7 w8 w9 w)) (wr := []) (wd := cWork cI wka wk1 wk2 q17 ++ (cWeb cI wa w1 w2 w3 w4 w5 w6 w7 w8 w9 w)) (wn := cWork cI wka wk1 wk2 q17 ++ (cWeb cI wa w1 w2 w3 w4 w5 w6 w7 w8 w9 w)) hx hb hml hown hts hk hP hD hS hA hl.1 s_yX5_wakeBehind v_yX5_wakeBehind (c_wakeBehind l D cI cZ cR wka wk1 wk2 wa w1 w2 w3 w4 w5 w6 w7 w8 w9 (sA q10.2 1 (upd (q10.2 1) (Int32.toNatClampNeg q10.1) q12)) w q10.1 y H.size _ h18) mT_355 rfl rfl ⟨Nat.le_of_ble_eq_true rfl, Nat.le_of_ble_eq_true rfl⟩ [0, 1, 2, 3, 4, 5, 6, 7, 8, 9, 10, 11, 12] [] [0, 1, 2, 3, 4, 5, 6, 7, 8, 9, 10, 11, 12] rfl rfl (by decide) (by decide) (by decide) (by decide) rfl (ci := 5) (q0 := 0) rfl rfl rfl (Nat.le_of_ble_eq_true rfl) ⟨Nat.zero_le _, Nat.zero_le _⟩ dX5_run_110 (fun H locs hP hD hS => ?_)
              refine lv_goto (tgt := 46) hx hb dX5_run_113 (by decide) ?_
              exact ih4 (x4_5 + 1) q17 _ _ _ hf hP hD hS (lv_sub hl [3, 4, 5, 6, 2] rfl)
    exact lh4 10000 0 wk_3 _ _ _ hf hP hD hS (lv_sub hl [1, 2, 3, 4, 0] rfl)
  have lh1 : ∀ (fu1 : Nat) (x4_2 : Int32) (wk_3 : Ob) (H : Heap) (locs : List Loc) (ls : Array Slot), lp_run_11 w (k_run_11 w x y) fu1 x4_2 wk_3 = some (r, u) → va_P D vwCl (cWork cI wka wk1 wk2 wk_3 ++ (cWeb cI wa w1 w2 w3 w4 w5 w6 w7 w8 w9 w)) H → va_D A (cWork cI wka wk1 wk2 wk_3 ++ (cWeb cI wa w1 w2 w3 w4 w5 w6 w7 w8 w9 w)) → va_S A s.heap H locs → lv_has ls 7 [(0, .ref wka), (1, .ref wa), (2, .int x), (3, .int y), (4, .int x4_2)] → W p l e ({ frames := 3, cells := 0, slots := 0, locals := 73 } : Room) s m ([.ref wka, .ref wa, .int x, .int y] : List Value).toArray below meth c H locs 0 0 Q (F0 m 11 ls []) := by
    intro fu1
    induction fu1 with
    | zero => intro x4_2 wk_3 H locs ls hf hP hD hS hl; exact no_none hf
    | succ fu1 ih1 =>
      intro x4_2 wk_3 H locs ls hf hP hD hS hl
      rw [lp_run_11] at hf
      refine lv_iload hx hb dX5_run_11 (lv_at hl 4 rfl) ?_
      refine lv_aload_n hx hb dX5_run_13 rfl (lv_at hl 1 rfl) ?_
      refine va_get (D := D) (ci := 4) (v := .int (w 0 1)) (C := RX4) (T := TX4) (N := 12) hx hb hts inT4 hown hK hP 3 rfl rfl 1 (by decide) (hts _ mT_77) (fun _ h9 => h9) rfl dX5_run_14 ?_
      refine lv_icmp_ge (tgt := 43) hx hb dX5_run_17 (by decide) (fun c19 => ?_) (fun c19 => ?_)
      · have hf := ite_t c19 hf
        exact kx1 x4_2 wk_3 _ _ _ hf hP hD hS (lv_sub hl [0, 1, 2, 3, 4] rfl)
      · have hf := ite_f c19 hf
        refine lv_aload_n hx hb dX5_run_20 rfl (lv_at hl 0 rfl) ?_
        refine va_get (D := D) (ci := 5) (v := .ref wk1) (C := RX5) (T := TX5) (N := 3) hx hb hts inT5 hown hK hP 0 rfl rfl 0 (by decide) (hts _ mT_193) (fun _ h9 => h9) rfl dX5_run_21 ?_
        refine lv_iload hx hb dX5_run_24 (lv_at hl 4 rfl) ?_
        refine lv_iconst (v := 0) hx hb dX5_run_26 (by decide) ?_
        obtain ⟨b20, hf⟩ := gd_some hf
        refine va_iast (n := 10) (f := wk_3 1) hx hb hK hP hD hS 1 0 rfl rfl (ck_in b20) dX5_run_27 (fun H locs hP hD hS => ?_)
        have hP : va_P D vwCl (cWork cI wka wk1 wk2 (sA wk_3 1 (upd (wk_3 1) (Int32.toNatClampNeg x4_2) 0)) ++ (cWeb cI wa w1 w2 w3 w4 w5 w6 w7 w8 w9 w)) H := hP
        have hD : va_D A (cWork cI wka wk1 wk2 (sA wk_3 1 (upd (wk_3 1) (Int32.toNatClampNeg x4_2) 0)) ++ (cWeb cI wa w1 w2 w3 w4 w5 w6 w7 w8 w9 w)) := hD
        refine lv_aload_n hx hb dX5_run_28 rfl (lv_at hl 0 rfl) ?_
        refine va_get (D := D) (ci := 5) (v := .ref wk2) (C := RX5) (T := TX5) (N := 3) hx hb hts inT5 hown hK hP 0 rfl rfl 1 (by decide) (hts _ mT_195) (fun _ h9 => h9) rfl dX5_run_29 ?_
        refine lv_iload hx hb dX5_run_32 (lv_at hl 4 rfl) ?_
        refine lv_iload hx hb dX5_run_34 (lv_at hl 4 rfl) ?_
        obtain ⟨b21, hf⟩ := gd_some hf
        refine va_iast (n := 10) (f := wk_3 2) hx hb hK hP hD hS 2 0 rfl rfl (ck_in b21) dX5_run_36 (fun H locs hP hD hS => ?_)
        have hP : va_P D vwCl (cWork cI wka wk1 wk2 (sA (sA wk_3 1 (upd (wk_3 1) (Int32.toNatClampNeg x4_2) 0)) 2 (upd (wk_3 2) (Int32.toNatClampNeg x4_2) x4_2)) ++ (cWeb cI wa w1 w2 w3 w4 w5 w6 w7 w8 w9 w)) H := hP
        have hD : va_D A (cWork cI wka wk1 wk2 (sA (sA wk_3 1 (upd (wk_3 1) (Int32.toNatClampNeg x4_2) 0)) 2 (upd (wk_3 2) (Int32.toNatClampNeg x4_2) x4_2)) ++ (cWeb cI wa w1 w2 w3 w4 w5 w6 w7 w8 w9 w)) := hD
        refine lv_iinc (v := x4_2 + 1) (lv' := [(4, .int (x4_2 + 1)), (0, .ref wka), (1, .ref wa), (2, .int x), (3, .int y)]) hx hb dX5_run_37 hl (k := 4) rfl rfl (by decide) rfl (fun ls hl => ?_)
        refine lv_goto (tgt := 11) hx hb dX5_run_40 (by decide) ?_
        exact ih1 (x4_2 + 1) (sA (sA wk_3 1 (upd (wk_3 1) (Int32.toNatClampNeg x4_2) 0)) 2 (upd (wk_3 2) (Int32.toNatClampNeg x4_2) x4_2)) _ _ _ hf hP hD hS (lv_sub hl [1, 2, 3, 4, 0] rfl)
  exact lh1 10000 0 (sI wk 0 (w 0 1)) _ _ _ hf hP hD hS (lv_sub hl [1, 2, 3, 4, 0] rfl)
end
